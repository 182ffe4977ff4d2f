/-! Only rows 0, 3, 4, 5 of a state count for how it stands. -/
section CG
variable {N S S2 M : Mm} {r : Nat}
theorem isl_cg (h0 : S2 0 = S 0) : isl N S2 = isl N S := by
  unfold isl onJ
  simp only [h0]
theorem shF_cg (h3 : S2 3 = S 3) {most : Int} : ∀ (l : List Nat) (L : Int), shF S2 most l L = shF S most l L
  | [], L => rfl
  | a :: r, L => by rw [shF, shF, shF_cg h3 r, h3]
theorem shL_cg (h0 : S2 0 = S 0) (h3 : S2 3 = S 3) (h4 : S2 4 = S 4) {i : Nat} : ∀ j : Nat, shL N S2 i j = shL N S i j
  | 0 => rfl
  | j + 1 => by rw [shL, shL, shL_cg h0 h3 h4 j, isl_cg h0, h3, h4]
theorem mostI_cg (h0 : S2 0 = S 0) (h5 : S2 5 = S 5) : mostI N S2 = mostI N S := by
  funext i
  unfold mostI
  rw [isl_cg h0, h5]
theorem litI_cg (h0 : S2 0 = S 0) (h3 : S2 3 = S 3) : litI N S2 = litI N S := by
  funext D i
  unfold litI
  rw [isl_cg h0, h3]
theorem fall_cg (h0 : S2 0 = S 0) (h3 : S2 3 = S 3) (h4 : S2 4 = S 4) (h5 : S2 5 = S 5) : fall N S2 = fall N S := by
  funext i
  unfold fall
  rw [shF_cg h3, shL_cg h0 h3 h4, mostI_cg h0 h5, litI_cg h0 h3, h4]
theorem falls_cg (h0 : S2 0 = S 0) (h3 : S2 3 = S 3) (h4 : S2 4 = S 4) (h5 : S2 5 = S 5) : ∀ i : Nat, falls N S2 i = falls N S i
  | 0 => rfl
  | i + 1 => by rw [falls, falls, falls_cg h0 h3 h4 h5 i, isl_cg h0, fall_cg h0 h3 h4 h5]
theorem dkF_cg (h0 : S2 0 = S 0) (h3 : S2 3 = S 3) (h4 : S2 4 = S 4) (h5 : S2 5 = S 5) : dkF N S2 = dkF N S := by
  funext s
  unfold dkF
  rw [isl_cg h0, fall_cg h0 h3 h4 h5, h4]
theorem wkL_cg (h0 : S2 0 = S 0) (h5 : S2 5 = S 5) {i : Nat} : ∀ j : Nat, wkL N S2 i j = wkL N S i j
  | 0 => rfl
  | j + 1 => by rw [wkL, wkL, wkL_cg h0 h5 j, isl_cg h0, h5]
theorem gv_cg (h0 : S2 0 = S 0) (h3 : S2 3 = S 3) (h4 : S2 4 = S 4) (h5 : S2 5 = S 5) : gv N S2 = gv N S := by
  funext k
  unfold gv
  rw [wkL_cg h0 h5, isl_cg h0, litI_cg h0 h3, dkF_cg h0 h3 h4 h5]
theorem psh_cg (h0 : S2 0 = S 0) (h3 : S2 3 = S 3) (h4 : S2 4 = S 4) (h5 : S2 5 = S 5) : psh N S2 = psh N S := by
  funext s
  unfold psh
  rw [gv_cg h0 h3 h4 h5, dkF_cg h0 h3 h4 h5, h3]
theorem pl_cg (h0 : S2 0 = S 0) {i : Nat} : ∀ s : Nat, pl N S2 i s = pl N S i s
  | 0 => rfl
  | s + 1 => by rw [pl, pl, pl_cg h0 s, isl_cg h0]
theorem pl_cg' (h0 : S2 0 = S 0) {i : Nat} : pl N S2 i = pl N S i := funext (pl_cg h0)
theorem sz_cg (h0 : S2 0 = S 0) : sz N S2 = sz N S := by
  funext i
  unfold sz
  exact pl_cg h0 _
theorem ep_cg (h0 : S2 0 = S 0) : ep N S2 = ep N S := by
  funext i s
  unfold ep
  rw [pl_cg h0]
theorem wt_cg (h0 : S2 0 = S 0) : wt N S2 = wt N S := by
  funext i w r c
  unfold wt
  rw [isl_cg h0, ep_cg h0, h0]
theorem mA_cg (h0 : S2 0 = S 0) : mA N S2 = mA N S := by
  funext i r c
  unfold mA
  rw [wt_cg h0]
theorem bV_cg (h0 : S2 0 = S 0) (h3 : S2 3 = S 3) (h4 : S2 4 = S 4) (h5 : S2 5 = S 5) : bV N S2 = bV N S := by
  funext i r
  unfold bV
  rw [isl_cg h0, pl_cg' h0, psh_cg h0 h3 h4 h5]
theorem mX_cg (h0 : S2 0 = S 0) (h3 : S2 3 = S 3) (h4 : S2 4 = S 4) (h5 : S2 5 = S 5) : mX N S2 = mX N S := by
  funext i r c
  unfold mX
  rw [sz_cg h0, mA_cg h0, bV_cg h0 h3 h4 h5]
theorem ht_cg (h0 : S2 0 = S 0) (h3 : S2 3 = S 3) (h4 : S2 4 = S 4) (h5 : S2 5 = S 5) : ht N S2 = ht N S := by
  funext i s
  unfold ht
  rw [sz_cg h0, mX_cg h0 h3 h4 h5, pl_cg h0]
theorem fl_cg (h0 : S2 0 = S 0) (h3 : S2 3 = S 3) (h4 : S2 4 = S 4) (h5 : S2 5 = S 5) : fl N S2 = fl N S := by
  funext w
  unfold fl
  rw [ht_cg h0 h3 h4 h5, isl_cg h0]
theorem fD_cg (h0 : S2 0 = S 0) (h3 : S2 3 = S 3) (h4 : S2 4 = S 4) (h5 : S2 5 = S 5) : fD N S2 = fD N S := by
  funext w
  unfold fD
  rw [sz_cg h0, mX_cg h0 h3 h4 h5, isl_cg h0]
theorem told_cg (h0 : S2 0 = S 0) (h3 : S2 3 = S 3) (h4 : S2 4 = S 4) (h5 : S2 5 = S 5) : told N S2 = told N S := by
  funext w
  unfold told
  rw [fl_cg h0 h3 h4 h5, fD_cg h0 h3 h4 h5, h0]
theorem ovr_cg (h0 : S2 0 = S 0) (h3 : S2 3 = S 3) (h4 : S2 4 = S 4) (h5 : S2 5 = S 5) : ovr N S2 = ovr N S := by
  funext w
  unfold ovr
  rw [fl_cg h0 h3 h4 h5, fD_cg h0 h3 h4 h5, h0]
theorem rsv_cg (h0 : S2 0 = S 0) (h3 : S2 3 = S 3) (h4 : S2 4 = S 4) (h5 : S2 5 = S 5) : rsv N S2 = rsv N S := by
  funext i
  unfold rsv
  rw [mostI_cg h0 h5, litI_cg h0 h3, dkF_cg h0 h3 h4 h5]
theorem sgR_cg (h0 : S2 0 = S 0) (h3 : S2 3 = S 3) (h4 : S2 4 = S 4) (h5 : S2 5 = S 5) (h : sgR N S M r) : sgR N S2 M r := by
  unfold sgR
  rw [dkF_cg h0 h3 h4 h5, falls_cg h0 h3 h4 h5, ovr_cg h0 h3 h4 h5, isl_cg h0, rsv_cg h0 h3 h4 h5, gv_cg h0 h3 h4 h5, told_cg h0 h3 h4 h5]
  exact h
end CG
/-! Each spot is shed once. -/
theorem len_sm {n : Nat} : ∀ {l : List Nat}, l.Nodup → (∀ x, x ∈ l → x < n) → (l.length : Int) = sm (fun s => if s ∈ l then 1 else 0) n
  | [], _, _ => by
    rw [sm_zero (fun s _ => if_neg (fun z => by cases z))]
    rfl
  | a :: r, h, hl => by
    have h1 := List.nodup_cons.mp h
    have ih := len_sm h1.2 (fun x hx => hl x (List.mem_cons_of_mem _ hx))
    have := sm_upd (f := fun s => if s ∈ r then (1 : Int) else 0) (g := fun s => if s ∈ a :: r then 1 else 0) (n := n) (p := a) (x := 1) (hl a List.mem_cons_self) (fun s _ => by
      by_cases e : s = a
      · rw [if_pos e, if_pos (by rw [e]; exact List.mem_cons_self), if_neg (by rw [e]; exact h1.1)]
        rfl
      · rw [if_neg e, Int.add_zero]
        by_cases e2 : s ∈ r
        · rw [if_pos e2, if_pos (List.mem_cons_of_mem _ e2)]
        · rw [if_neg e2, if_neg (fun z => by
            rcases List.mem_cons.mp z with z | z
            · exact e z
            · exact e2 z)])
    rw [this, ← ih]
    rfl
theorem shF_sub {S : Mm} {most : Int} : ∀ (l : List Nat) (L : Int), (shF S most l L).Sublist l
  | [], L => List.Sublist.refl _
  | a :: r, L => by
    rw [shF]
    split
    · exact (shF_sub r _).cons_cons a
    · exact List.nil_sublist _
theorem shL_nd {N S : Mm} {i : Nat} (hN : NC N) : ∀ {j : Nat}, j ≤ nN N → (shL N S i j).Nodup
  | 0, _ => List.nodup_nil
  | j + 1, hj => by
    have ih := shL_nd (S := S) (i := i) hN (j := j) (by omega)
    rw [shL]
    split
    · refine List.nodup_cons.mpr ⟨fun z => ?_, ih⟩
      obtain ⟨p, h1, h2, _⟩ := shL_in.mp z
      have := oR_inj hN (by omega) (by omega) h2
      omega
    · exact ih
theorem falls_nd {N S : Mm} (hN : NC N) : ∀ i : Nat, (falls N S i).Nodup
  | 0 => List.nodup_nil
  | i + 1 => by
    have ih := falls_nd (S := S) hN i
    rw [falls]
    split
    · refine List.nodup_append.mpr ⟨ih, (shF_sub _ _).nodup (shL_nd hN (Nat.le_refl _)), fun a ha b hb e => ?_⟩
      subst e
      have h1 := (falls_isl hN ha).1
      have h2 := (fall_lt hN hb).2
      omega
    · exact ih
theorem falls_8 {N S : Mm} (hN : NC N) : ((falls N S (nN N)).length : Int) ≤ nN N := by
  rw [len_sm (n := nN N) (falls_nd hN _) (fun x hx => (falls_isl hN hx).2.1)]
  have := sm_const (f := fun s => if s ∈ falls N S (nN N) then (1 : Int) else 0) (c := 1) (n := nN N) (fun s _ => by split <;> decide)
  omega
theorem sgR.to {N S M M2 : Mm} {r : Nat} (h : sgR N S M r) (hb : ∀ b, r ≤ b → b ≤ r + 5 → M2 b = M b) : sgR N S M2 r := by
  unfold sgR
  rw [hb r (by omega) (by omega), hb (r + 1) (by omega) (by omega), hb (r + 2) (by omega) (by omega), hb (r + 3) (by omega) (by omega), hb (r + 4) (by omega) (by omega), hb (r + 5) (by omega) (by omega)]
  exact h
theorem cnB_b (f : Nat → Bool) (n : Nat) : 0 ≤ cnB f n ∧ cnB f n ≤ n := by
  have h1 := sm_nn (a := fun w => if f w = true then (1 : Int) else 0) (n := n) (fun w _ => by split <;> decide)
  have h2 := sm_const (f := fun w => if f w = true then (1 : Int) else 0) (c := 1) (n := n) (fun w _ => by split <;> decide)
  unfold cnB
  omega
theorem cnB_0 {f : Nat → Bool} {n : Nat} (h : cnB f n = 0) : ∀ w, w < n → f w = false := fun w hw => by
  have := sm_ge1 (f := fun w => if f w = true then (1 : Int) else 0) hw (fun w _ => by split <;> decide)
  cases q : f w
  · rfl
  · rw [q] at this
    have h2 : (1 : Int) ≤ cnB f n := this
    omega
theorem pop_or {x : Int} {f g : Nat → Bool} {n : Nat} (hn : n ≤ 14) (h : ∀ w : Nat, tb x w = true ↔ (w < n ∧ (f w = true ∨ g w = true))) (hd : ∀ w, f w = true → g w = true → False) : popc x 14 = cnB f n + cnB g n := by
  have e1 : ∀ m, n ≤ m → popc x m = popc x n := fun m hm => by
    obtain ⟨d, rfl⟩ := Nat.exists_eq_add_of_le hm
    induction d with
    | zero => rfl
    | succ d ih =>
      show popc x (n + d) + (if tb x (n + d) then 1 else 0) = _
      rw [ih (by omega), if_neg (fun q => by have := ((h _).mp q).1; omega), Int.add_zero]
  rw [e1 14 hn]
  unfold popc cnB
  rw [← sm_add]
  refine sm_congr (fun w hw => ?_)
  cases p : f w <;> cases q : g w
  · rw [if_neg (fun z => by rcases ((h w).mp z).2 with z | z; rw [p] at z; exact absurd z (by decide); rw [q] at z; exact absurd z (by decide))]; rfl
  · rw [if_pos ((h w).mpr ⟨hw, Or.inr q⟩)]; rfl
  · rw [if_pos ((h w).mpr ⟨hw, Or.inl p⟩)]; rfl
  · exact (hd w p q).elim
section P3
variable {N S M T : Mm} {c : Int} {K : Bool → (Nat → Int) → Bool} {tx : Nat}
theorem dn_tr {w : Nat} (h1 : dnF N S c w = true) (h2 : trF N S K c w = true) : False := by
  unfold trF at h2
  rw [h1] at h2
  simp only [Bool.not_true, Bool.and_false, Bool.false_and] at h2
  exact absurd h2 (by decide)
theorem nx_V (hN : NC N) (hS : sV N S) (hm : S 6 1 < 600) : sV N (nx N S K c) := by
  have h14 := hN.w14
  obtain ⟨h1, h2, h3, h4, h5, h6, h7, h8, h9⟩ := hS
  refine ⟨fun w hw => ⟨?_, ?_, (h1 w hw).2.2⟩, fun i hi => h2 i hi, fun i => dkF_01 i, fun i hi => ?_, fun k => ?_, fun k hk => ?_, ?_, ?_, ?_⟩
  · have := (h1 w hw).1
    show 0 ≤ (if w < nW N then (if dnF N S c w = true then (3 : Int) else if trF N S K c w = true then 2 else S 0 w) else S 0 w) ∧ (if w < nW N then (if dnF N S c w = true then (3 : Int) else if trF N S K c w = true then 2 else S 0 w) else S 0 w) ≤ 3
    split
    · split
      · omega
      · split <;> omega
    · omega
  · have := (h1 w hw).2.1
    have := wmF_b N S c w
    show 0 ≤ (if w < nW N then wmF N S c w else S 1 w) ∧ (if w < nW N then wmF N S c w else S 1 w) ≤ 1000000
    split <;> omega
  · show dkF N S i = 0
    rcases dkF_01 (N := N) (S := S) i with q | q
    · exact q
    · have := dk_lt hN ⟨h1, h2, h3, h4, h5, h6, h7, h8, h9⟩ q
      omega
  · show (if k < nK N ∧ stF N S K k = true then (0 : Int) else S 5 k) = 0 ∨ (if k < nK N ∧ stF N S K k = true then (0 : Int) else S 5 k) = 1
    split
    · exact Or.inl rfl
    · exact h5 k
  · show (if k < nK N ∧ stF N S K k = true then (0 : Int) else S 5 k) = 0
    split
    · rfl
    · exact h6 k hk
  · have q1 := cnB_b (dnF N S c) (nW N)
    have q2 := cnB_b (trF N S K c) (nW N)
    show 0 ≤ cnB (dnF N S c) (nW N) + cnB (trF N S K c) (nW N) ∧ cnB (dnF N S c) (nW N) + cnB (trF N S K c) (nW N) ≤ 28
    omega
  · show 0 ≤ S 6 1 + 1
    omega
  · show S 6 1 + 1 ≤ 600
    omega
/-- what the first object's play holds -/
def plC (N S M : Mm) : Prop := sC N S M 74 ∧ (M 73 6 = 0 → sgR N S M 79)
def frP (tx : Nat) (M M2 : Mm) : Prop := ∀ b, (b < 73 ∨ 97 < b) → b ≠ tx + 6 → M2 b = M b
/-- one minute of the first object -/
theorem w225 {P : Mm → Prop} (hN : NC N) (hS : sV N S) (hM : nCl N M) (hK : kCg K) (hT : txC K T tx) (hA : txA T M tx) (hp : plC N S M) (hc : M 3 3 = c) (hc2 : 0 ≤ c ∧ c ≤ 1000)
    (k : ∀ M2 : Mm, frP tx M M2 → plC N (nx N S K c) M2 → M2 73 2 = cm N S K c → sgR N S M2 79 → (∀ w : Nat, (tb (M2 73 3) w = true ↔ (w < nW N ∧ dnF N S c w = true))) → (∀ w : Nat, (tb (M2 73 4) w = true ↔ (w < nW N ∧ trF N S K c w = true))) →
      (∀ w : Nat, (tb (M2 73 5) w = true ↔ (w < nK N ∧ stF N S K w = true))) → (∀ j, 3 ≤ j → j ≤ 5 → 0 ≤ M2 73 j ∧ M2 73 j < 16384) → P M2) : Wp (f225 M) P := by
  have h14 := hN.w14
  have hn8 := hN.n8
  have h9 := hN.k9
  have htx := hA.2.1
  -- after reckoning, if it is done
  have main : ∀ M1 : Mm, frP tx M M1 → M1 73 = M 73 → sC N S M1 74 → sgR N S M1 79 → Wp (f225_19 M1) P := fun M1 f1 g73 s1 sg => by
    have n1 : nCl N M1 := hM.to (f1 3 (by decide) (by omega)) (fun b _ _ => f1 b (by omega) (by omega))
    have a1 : txA T M1 tx := hA.to (f1 3 (by decide) (by omega)) (fun b h1 h2 => f1 b (by omega) (by omega))
    have sgk := sg
    obtain ⟨⟨d0, d1, d2⟩, ⟨l1, l2⟩, o, hrow, hgv, htold⟩ := sg
    clear o l2
    unfold f225_19
    refine wp_mlet (wp_mlet (wp_mlet (wp_mlet ?_)))
    have z79 : ∀ b, b ≠ 73 → b ≠ 74 → ms (ms (ms (ms M1 74 1 (M1 79 0)) 73 3 0) 73 4 0) 73 5 0 b = M1 b := fun b q1 q2 => by rw [ms_a q1, ms_a q1, ms_a q1, ms_a q2]
    have z74 : ∀ j, ms (ms (ms (ms M1 74 1 (M1 79 0)) 73 3 0) 73 4 0) 73 5 0 74 j = if j = 1 then M1 79 0 else M1 74 j := fun j => by
      rw [ms_a (by decide), ms_a (by decide), ms_a (by decide)]
      by_cases e : j = 1
      · rw [if_pos e, e, ms_v]
      · rw [if_neg e, ms_i e]
    have z73 : ∀ j, ms (ms (ms (ms M1 74 1 (M1 79 0)) 73 3 0) 73 4 0) 73 5 0 73 j = if 3 ≤ j ∧ j ≤ 5 then 0 else M1 73 j := fun j => by
      by_cases e5 : j = 5
      · rw [if_pos (by omega), e5, ms_v]
      · rw [ms_i e5]
        by_cases e4 : j = 4
        · rw [if_pos (by omega), e4, ms_v]
        · rw [ms_i e4]
          by_cases e3 : j = 3
          · rw [if_pos (by omega), e3, ms_v]
          · rw [ms_i e3, ms_a (by decide), if_neg (by omega)]
    generalize ms (ms (ms (ms M1 74 1 (M1 79 0)) 73 3 0) 73 4 0) 73 5 0 = M2 at z79 z74 z73 ⊢
    have e3 : M2 3 = M1 3 := z79 3 (by decide) (by decide)
    have n2 : nCl N M2 := n1.to e3 (fun b _ _ => z79 b (by omega) (by omega))
    refine wp_bind (w227 (c := c) hN hS n2 (fun w hw => by rw [z79 76 (by decide) (by decide)]; exact (s1.1 w hw).1) (fun w hw => by rw [z79 77 (by decide) (by decide)]; exact (s1.1 w hw).2.1) (fun w hw => by rw [z79 84 (by decide) (by decide)]; exact htold w hw) (by rw [e3, f1 3 (by decide) (by omega)]; exact hc) hc2 (fun M3 b1 b2 => ?_))
    have n3 : nCl N M3 := n2.to (b1 3 (by decide)) (fun b _ _ => b1 b (by omega))
    refine wp_bind (w224 (c := c) hN hS n3 (fun w hw => by rw [b1 76 (by decide), z79 76 (by decide) (by decide)]; exact (s1.1 w hw).1) (fun w hw => by rw [b2 w, if_pos hw]) (fun w hw => by rw [b1 78 (by decide), z79 78 (by decide) (by decide)]; exact (s1.1 w hw).2.2) (by rw [b1 73 (by decide), z73 3, if_pos (by decide)]) (fun M4 c1 c2 c3 c4 c5 => ?_))
    have n4 : nCl N M4 := n3.to (c1 3 (by decide) (by decide)) (fun b _ _ => c1 b (by omega) (by omega))
    -- the letters of all
    have y74 : M4 74 = M2 74 := by rw [c1 74 (by decide) (by decide), b1 74 (by decide)]
    have y75 : ∀ i, i < 8 → M4 75 i = S 3 i := fun i hi => by rw [c1 75 (by decide) (by decide), b1 75 (by decide), z79 75 (by decide) (by decide)]; exact s1.2.1 i hi
    have d0' : 0 ≤ M4 74 1 ∧ M4 74 1 < (2 ^ nN N : Nat) := by rw [y74, z74 1, if_pos rfl]; exact ⟨d0, d1⟩
    have hdk : ∀ s, dkF N S s = if tb (M4 74 1) s then 1 else 0 := fun s => by rw [y74, z74 1, if_pos rfl]; exact d2 s
    have y740 : M4 74 0 = S 6 1 := by rw [y74, z74 0, if_neg (by decide)]; exact s1.2.2.2.2.2
    have y743 : M4 74 3 = S 6 0 := by rw [y74, z74 3, if_neg (by decide)]; exact s1.2.2.2.2.1
    unfold f226
    refine wp_bind (wp_mlet (wp_bind ?_))
    rw [ms_a (by decide : (74 : Nat) ≠ 97)]
    refine w244 (r := 74) hN hS (fun i hi => by rw [ms_a (by decide)]; exact y75 i hi) d0'.1 d0'.2 (wp_mlet (wp_mlet (wp_some ?_)))
    have hdr : sm (fun s => if tb (M4 74 1) s then S 3 s else 0) (nN N) = drk N S := sm_congr (fun s _ => by
      have := hdk s
      by_cases e : tb (M4 74 1) s = true
      · rw [if_pos e] at this
        rw [if_pos e, if_pos this]
      · rw [if_neg e] at this
        rw [if_neg e, if_neg (by rw [this]; decide)])
    rw [hdr, ms_a (by decide : (74 : Nat) ≠ 97), ms_a (by decide : (74 : Nat) ≠ 97), y740, y743]
    have x97 : ∀ b, b ≠ 97 → ms (ms (ms M4 97 0 (S 6 1)) 97 4 (drk N S)) 97 5 (S 6 0) b = M4 b := fun b hb => by rw [ms_a hb, ms_a hb, ms_a hb]
    have x97v : ms (ms (ms M4 97 0 (S 6 1)) 97 4 (drk N S)) 97 5 (S 6 0) 97 0 = S 6 1 ∧ ms (ms (ms M4 97 0 (S 6 1)) 97 4 (drk N S)) 97 5 (S 6 0) 97 4 = drk N S ∧ ms (ms (ms M4 97 0 (S 6 1)) 97 4 (drk N S)) 97 5 (S 6 0) 97 5 = S 6 0 := by
      refine ⟨?_, ?_, ms_v⟩
      · rw [ms_i (by decide), ms_i (by decide), ms_v]
      · rw [ms_i (by decide), ms_v]
    generalize ms (ms (ms M4 97 0 (S 6 1)) 97 4 (drk N S)) 97 5 (S 6 0) = M5 at x97 x97v ⊢
    have all5 : ∀ b, b ≠ 73 → b ≠ 74 → b ≠ 76 → b ≠ 77 → b ≠ 97 → M5 b = M1 b := fun b q1 q2 q3 q4 q5 => by rw [x97 b q5, c1 b q1 q3, b1 b q4, z79 b q1 q2]
    have n5 : nCl N M5 := n4.to (x97 3 (by decide)) (fun b _ _ => x97 b (by omega))
    have a5 : txA T M5 tx := a1.to (all5 3 (by decide) (by decide) (by decide) (by decide) (by decide)) (fun b h1 h2 => all5 b (by omega) (by omega) (by omega) (by omega) (by omega))
    refine wp_bind (w220 (c := c) hN hS n5 hK hT a5 (fun w hw => by rw [x97 76 (by decide)]; exact c5 w hw) (fun w hw => by rw [x97 77 (by decide), c1 77 (by decide) (by decide), b2 w, if_pos hw]) (fun s hs => by rw [all5 82 (by decide) (by decide) (by decide) (by decide) (by decide)]; exact (hrow s hs).2) (fun w hw => by rw [all5 84 (by decide) (by decide) (by decide) (by decide) (by decide)]; exact htold w hw) x97v (by rw [x97 73 (by decide), c2 4 (by decide), b1 73 (by decide), z73 4, if_pos (by decide)]) (fun M6 e1 e2 e3' e4 e5 e6 => ?_))
    have all6 : ∀ b, b ≠ 73 → b ≠ 74 → b ≠ 76 → b ≠ 77 → b ≠ 97 → b ≠ tx + 6 → M6 b = M1 b := fun b q1 q2 q3 q4 q5 q6 => by rw [e1 b q1 q3 q5 q6, all5 b q1 q2 q3 q4 q5]
    have n6 : nCl N M6 := n5.to (e1 3 (by decide) (by decide) (by decide) (by omega)) (fun b _ _ => e1 b (by omega) (by omega) (by omega) (by omega))
    have a6 : txA T M6 tx := a5.to (e1 3 (by decide) (by decide) (by decide) (by omega)) (fun b h1 h2 => e1 b (by omega) (by omega) (by omega) (by omega))
    have y74' : M6 74 = M2 74 := by rw [e1 74 (by decide) (by decide) (by decide) (by omega), x97 74 (by decide), y74]
    have hrn := s1.2.2.2.1
    have y742 : M6 74 2 = M1 74 2 := by rw [y74', z74 2, if_neg (by decide)]
    refine wp_bind (w221 hN n6 hK hT a6 (by rw [y742]; exact hrn.1) (by rw [y742]; exact hrn.2.1) (fun k => by rw [y742]; exact hrn.2.2 k) (fun s hs => by rw [all6 82 (by decide) (by decide) (by decide) (by decide) (by decide) (by omega)]; exact (hrow s hs).2) (fun x hx => by rw [all6 83 (by decide) (by decide) (by decide) (by decide) (by decide) (by omega)]; exact hgv x hx) e3' (by rw [e2 5 (by decide), x97 73 (by decide), c2 5 (by decide), b1 73 (by decide), z73 5, if_pos (by decide)]) (fun M7 p1 p2 p3 p4 p5 p6 p7 => ?_))
    have all7 : ∀ b, b ≠ 73 → b ≠ 74 → b ≠ 76 → b ≠ 77 → b ≠ 97 → b ≠ tx + 6 → M7 b = M1 b := fun b q1 q2 q3 q4 q5 q6 => by rw [p1 b q1 q2 q5 q6, all6 b q1 q2 q3 q4 q5 q6]
    have w733 : M7 73 3 = M4 73 3 := by rw [p2 3 (by decide), e2 3 (by decide), x97 73 (by decide)]
    have w734 : M7 73 4 = M6 73 4 := p2 4 (by decide)
    have bd : ∀ w : Nat, (tb (M7 73 3) w = true ↔ (w < nW N ∧ dnF N S c w = true)) := fun w => by rw [w733]; exact c4 w
    have bt : ∀ w : Nat, (tb (M7 73 4) w = true ↔ (w < nW N ∧ trF N S K c w = true)) := fun w => by rw [w734]; exact e5 w
    have r3 : 0 ≤ M7 73 3 ∧ M7 73 3 < (2 ^ 14 : Nat) := by rw [w733]; exact c3
    have r4 : 0 ≤ M7 73 4 ∧ M7 73 4 < (2 ^ 14 : Nat) := by rw [w734]; exact e4
    have hbo := bO_lt (n := 14) (by decide) r3.1 r3.2 r4.1 r4.2
    have hpo : popc (bOr (M7 73 3) (M7 73 4)) 14 = cnB (dnF N S c) (nW N) + cnB (trF N S K c) (nW N) := pop_or h14 (fun w => by
      rw [tb_or r3.1 (by omega) r4.1 (by omega), Bool.or_eq_true, bd w, bt w]
      constructor
      · rintro (q | q)
        · exact ⟨q.1, Or.inl q.2⟩
        · exact ⟨q.1, Or.inr q.2⟩
      · rintro ⟨q1, q2 | q2⟩
        · exact Or.inl ⟨q1, q2⟩
        · exact Or.inr ⟨q1, q2⟩) (fun w q1 q2 => dn_tr q1 q2)
    have k1 := cnB_b (dnF N S c) (nW N)
    have k2 := cnB_b (trF N S K c) (nW N)
    have k3 := cnB_b (stF N S K) (nK N)
    have hpt : popc (M7 73 5) 14 = cnB (stF N S K) (nK N) := by
      have := pop_or (x := M7 73 5) (f := stF N S K) (g := fun _ => false) (n := nK N) (by omega) (fun w => by
        rw [p5 w]
        constructor
        · exact fun q => ⟨q.1, Or.inl q.2⟩
        · rintro ⟨q1, q2 | q2⟩
          · exact ⟨q1, q2⟩
          · exact absurd q2 (by decide)) (fun w _ q => absurd q (by decide))
      rw [this]
      have z : cnB (fun _ => false) (nK N) = 0 := sm_zero (fun _ _ => rfl)
      omega
    have v740 : M7 74 0 = S 6 1 := by rw [p3 0 (by decide), y74', z74 0, if_neg (by decide)]; exact s1.2.2.2.2.2
    have v741 : M7 74 1 = M1 79 0 := by rw [p3 1 (by decide), y74', z74 1, if_pos rfl]
    have hS61 := hS.2.2.2.2.2.2.2
    have hlen : (falls N S (nN N)).length = M1 79 1 := l1.symm
    refine wp_bind (w1 hbo.1 hbo.2 ?_)
    rw [hpo]
    refine wp_mlet ?_
    rw [ms_i (by decide : (0 : Nat) ≠ 3), v740]
    refine wp_gd ⟨by omega, by omega⟩ (wp_mlet ?_)
    rw [ms_a (by decide : (79 : Nat) ≠ 74), ms_a (by decide : (79 : Nat) ≠ 74), all7 79 (by decide) (by decide) (by decide) (by decide) (by decide) (by omega), ms_i (by decide : (3 : Nat) ≠ 0), ms_v, ms_a (by decide : (73 : Nat) ≠ 74), ms_a (by decide : (73 : Nat) ≠ 74), ← hlen]
    have hnl := falls_8 (S := S) hN
    refine wp_gd ⟨by omega, by omega⟩ (wp_bind (w1 p4.1 p4.2 ?_))
    rw [hpt]
    refine wp_gd ⟨by omega, by omega⟩ (wp_mlet ?_)
    rw [ms_v]
    have hcm : ((falls N S (nN N)).length : Int) + (cnB (dnF N S c) (nW N) + cnB (trF N S K c) (nW N)) + cnB (stF N S K) (nK N) = cm N S K c := rfl
    rw [hcm]
    have fin : ∀ v : Int, (v = 0 → cm N S K c = 0) → P (ms (ms (ms (ms M7 74 3 (cnB (dnF N S c) (nW N) + cnB (trF N S K c) (nW N))) 74 0 (S 6 1 + 1)) 73 2 (cm N S K c)) 73 6 v) := fun v hv => by
      have u73 : ∀ j, j ≠ 2 → j ≠ 6 → ms (ms (ms (ms M7 74 3 (cnB (dnF N S c) (nW N) + cnB (trF N S K c) (nW N))) 74 0 (S 6 1 + 1)) 73 2 (cm N S K c)) 73 6 v 73 j = M7 73 j := fun j q1 q2 => by rw [ms_i q2, ms_i q1, ms_a (by decide), ms_a (by decide)]
      have uo : ∀ b, b ≠ 73 → b ≠ 74 → ms (ms (ms (ms M7 74 3 (cnB (dnF N S c) (nW N) + cnB (trF N S K c) (nW N))) 74 0 (S 6 1 + 1)) 73 2 (cm N S K c)) 73 6 v b = M7 b := fun b q1 q2 => by rw [ms_a q1, ms_a q1, ms_a q2, ms_a q2]
      have u74 : ∀ j, ms (ms (ms (ms M7 74 3 (cnB (dnF N S c) (nW N) + cnB (trF N S K c) (nW N))) 74 0 (S 6 1 + 1)) 73 2 (cm N S K c)) 73 6 v 74 j = if j = 0 then S 6 1 + 1 else if j = 3 then cnB (dnF N S c) (nW N) + cnB (trF N S K c) (nW N) else M7 74 j := fun j => by
        rw [ms_a (by decide), ms_a (by decide)]
        by_cases e0 : j = 0
        · rw [if_pos e0, e0, ms_v]
        · rw [if_neg e0, ms_i e0]
          by_cases e3 : j = 3
          · rw [if_pos e3, e3, ms_v]
          · rw [if_neg e3, ms_i e3]
      have u736 : ms (ms (ms (ms M7 74 3 (cnB (dnF N S c) (nW N) + cnB (trF N S K c) (nW N))) 74 0 (S 6 1 + 1)) 73 2 (cm N S K c)) 73 6 v 73 6 = v := ms_v
      have u732 : ms (ms (ms (ms M7 74 3 (cnB (dnF N S c) (nW N) + cnB (trF N S K c) (nW N))) 74 0 (S 6 1 + 1)) 73 2 (cm N S K c)) 73 6 v 73 2 = cm N S K c := by rw [ms_i (by decide), ms_v]
      generalize ms (ms (ms (ms M7 74 3 (cnB (dnF N S c) (nW N) + cnB (trF N S K c) (nW N))) 74 0 (S 6 1 + 1)) 73 2 (cm N S K c)) 73 6 v = M8 at u73 uo u74 u736 u732 ⊢
      have all8 : ∀ b, b ≠ 73 → b ≠ 74 → b ≠ 76 → b ≠ 77 → b ≠ 97 → b ≠ tx + 6 → M8 b = M1 b := fun b q1 q2 q3 q4 q5 q6 => by rw [uo b q1 q2, all7 b q1 q2 q3 q4 q5 q6]
      have sg8 : sgR N S M8 79 := sgR.to (M := M1) sgk (fun b h1 h2 => all8 b (by omega) (by omega) (by omega) (by omega) (by omega) (by omega))
      refine k M8 (fun b hb hb2 => ?_) ⟨⟨fun w hw => ⟨?_, ?_, ?_⟩, fun i hi => ?_, ⟨?_, ?_, fun i => ?_⟩, ⟨?_, ?_, fun x => ?_⟩, ?_, ?_⟩, fun hz => ?_⟩ u732 sg8 (fun w => by rw [u73 3 (by decide) (by decide)]; exact bd w) (fun w => by rw [u73 4 (by decide) (by decide)]; exact bt w) (fun w => by rw [u73 5 (by decide) (by decide)]; exact p5 w) (fun j h1 h2 => ?_)
      · rw [all8 b (by omega) (by omega) (by omega) (by omega) (by omega) hb2]
        exact f1 b hb hb2
      · rw [uo 76 (by decide) (by decide), p1 76 (by decide) (by decide) (by decide) (by omega), e6 w hw, x97 76 (by decide), c5 w hw]
        show _ = if w < nW N then (if dnF N S c w = true then (3 : Int) else if trF N S K c w = true then 2 else S 0 w) else S 0 w
        by_cases q : w < nW N
        · rw [if_pos q]
          by_cases q2 : trF N S K c w = true
          · rw [if_pos ⟨q, q2⟩, if_neg (fun z => dn_tr z q2), if_pos q2]
          · rw [if_neg (fun z => q2 z.2)]
            by_cases q3 : dnF N S c w = true
            · rw [if_pos ⟨q, q3⟩, if_pos q3]
            · rw [if_neg (fun z => q3 z.2), if_neg q3, if_neg q2]
        · rw [if_neg q, if_neg (fun z => q z.1), if_neg (fun z => q z.1)]
      · rw [uo 77 (by decide) (by decide), p1 77 (by decide) (by decide) (by decide) (by omega), e1 77 (by decide) (by decide) (by decide) (by omega), x97 77 (by decide), c1 77 (by decide) (by decide), b2 w]
        show _ = if w < nW N then wmF N S c w else S 1 w
        split
        · rfl
        · rw [z79 77 (by decide) (by decide)]
          exact (s1.1 w hw).2.1
      · rw [all8 78 (by decide) (by decide) (by decide) (by decide) (by decide) (by omega)]
        exact (s1.1 w hw).2.2
      · rw [all8 75 (by decide) (by decide) (by decide) (by decide) (by decide) (by omega)]
        exact s1.2.1 i hi
      · rw [u74 1, if_neg (by decide), if_neg (by decide), v741]
        exact d0
      · rw [u74 1, if_neg (by decide), if_neg (by decide), v741]
        exact d1
      · rw [u74 1, if_neg (c := (1 : Nat) = 0) (by decide), if_neg (c := (1 : Nat) = 3) (by decide), v741]
        exact d2 i
      · rw [u74 2, if_neg (by decide), if_neg (by decide)]
        exact p6.1
      · rw [u74 2, if_neg (by decide), if_neg (by decide)]
        exact p6.2
      · rw [u74 2, if_neg (c := (2 : Nat) = 0) (by decide), if_neg (c := (2 : Nat) = 3) (by decide)]
        exact (p7 x).symm
      · rw [u74 3, if_neg (by decide), if_pos rfl]
        rfl
      · rw [u74 0, if_pos rfl]
        rfl
      · have h0 := hv (u736.symm.trans hz)
        unfold cm at h0
        have hf : falls N S (nN N) = [] := by
          have : (falls N S (nN N)).length = 0 := by omega
          exact List.eq_nil_of_length_eq_zero this
        have q1 := cnB_0 (f := dnF N S c) (n := nW N) (by omega)
        have q2 := cnB_0 (f := trF N S K c) (n := nW N) (by omega)
        have q3 := cnB_0 (f := stF N S K) (n := nK N) (by omega)
        refine sgR_cg (S := S) (S2 := nx N S K c) ?_ rfl ?_ ?_ sg8
        · funext w
          show (if w < nW N then (if dnF N S c w = true then (3 : Int) else if trF N S K c w = true then 2 else S 0 w) else S 0 w) = S 0 w
          by_cases q : w < nW N
          · rw [if_pos q, q1 w q, q2 w q]
            rfl
          · rw [if_neg q]
        · funext s
          show dkF N S s = S 4 s
          rw [dkF_falls hN hS s, hf, if_neg (fun z => by cases z)]
        · funext x
          show (if x < nK N ∧ stF N S K x = true then (0 : Int) else S 5 x) = S 5 x
          rw [if_neg (fun z => by have := q3 x z.1; rw [this] at z; exact absurd z.2 (by decide))]
      · rw [u73 j (by omega) (by omega)]
        have hj : j = 3 ∨ j = 4 ∨ j = 5 := by omega
        rcases hj with rfl | rfl | rfl
        · exact r3
        · exact r4
        · exact p4
    have hcm0 : 0 ≤ cm N S K c := by rw [← hcm]; omega
    refine wp_ite (fun q => wp_mlet (wp_some (fin 1 (fun z => absurd z (by decide))))) (fun q => wp_mlet (wp_some (fin 0 (fun _ => by omega))))
  unfold f225
  refine wp_ite (fun q => main M (fun _ _ _ => rfl) rfl hp.1 (hp.2 q)) (fun q => ?_)
  refine wp_bind (w238 (r := 79) (r2 := 74) hN hS hM hp.1 ⟨by decide, by decide⟩ (fun M1 g1 g2 => ?_))
  exact main M1 (fun b hb _ => g1 b (by omega)) (g1 73 (by decide)) (hp.1.to (fun b h1 h2 => g1 b (by omega))) g2
end P3
