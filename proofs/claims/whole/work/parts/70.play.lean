/-! One minute: what it means. -/
def ab (x : Int) : Int := if x < 0 then -x else x
/-- the letters that a guard of wires, or of works, reads -/
def relL (b : Bool) (j : Nat) : Prop := j < 6 ∨ (b = false ∧ j ≤ 8) ∨ (b = true ∧ 9 ≤ j ∧ j ≤ 10)
def kCg (K : Bool → (Nat → Int) → Bool) : Prop := ∀ b L L2, (∀ j, relL b j → L j = L2 j) → K b L = K b L2
/-- the rules K stand in the text at cell tx of memory T -/
def txC (K : Bool → (Nat → Int) → Bool) (T : Mm) (tx : Nat) : Prop := ∀ M : Mm, (∀ c, tx ≤ c → c ≤ tx + 5 → M c = T c) → ∀ (b : Bool) (P : Int × Mm → Prop), (∀ M2 : Mm, (∀ c, c ≠ tx + 6 → M2 c = M c) → P (if K b (M 97) then 1 else 0, M2)) → Wp (f16 tx (if b then 1 else 0) M) P
noncomputable def drk (N S : Mm) : Int := sm (fun s => if dkF N S s = 1 then S 3 s else 0) (nN N)
noncomputable def wmF (N S : Mm) (c : Int) (w : Nat) : Int := max 0 (min 1000000 (S 1 w + (if S 0 w = 0 then Int.tdiv (ab (told N S w)) (N 17 w) else 0) - c))
noncomputable def lW (N S : Mm) (c : Int) (w j : Nat) : Int := if j = 0 then S 6 1 else if j = 1 then w else if j = 2 then N 11 (eA N w) else if j = 3 then rsv N S (isl N S (eA N w)) else if j = 4 then drk N S else if j = 5 then S 6 0 else if j = 6 then ab (told N S w) else if j = 7 then N 17 w else if j = 8 then wmF N S c w else 0
noncomputable def lK (N S : Mm) (k j : Nat) : Int := if j = 0 then S 6 1 else if j = 1 then k else if j = 2 then N 11 (aK N k) else if j = 3 then rsv N S (isl N S (aK N k)) else if j = 4 then drk N S else if j = 5 then S 6 0 else if j = 9 then gv N S k else if j = 10 then N 21 k else 0
noncomputable def dnF (N S : Mm) (c : Int) (w : Nat) : Bool := decide (S 0 w = 0 ∧ 0 < S 2 w ∧ N 18 w ≤ wmF N S c w + S 2 w)
noncomputable def trF (N S : Mm) (K : Bool → (Nat → Int) → Bool) (c : Int) (w : Nat) : Bool := decide (S 0 w = 0) && !dnF N S c w && K false (lW N S c w)
noncomputable def stF (N S : Mm) (K : Bool → (Nat → Int) → Bool) (k : Nat) : Bool := decide (S 5 k = 1) && K true (lK N S k)
noncomputable def cnB (f : Nat → Bool) (n : Nat) : Int := sm (fun w => if f w then 1 else 0) n
/-- the state a minute later -/
noncomputable def nx (N S : Mm) (K : Bool → (Nat → Int) → Bool) (c : Int) : Mm := fun a j =>
  if a = 0 then (if j < nW N then (if dnF N S c j then 3 else if trF N S K c j then 2 else S 0 j) else S 0 j)
  else if a = 1 then (if j < nW N then wmF N S c j else S 1 j) else if a = 4 then dkF N S j else if a = 5 then (if j < nK N ∧ stF N S K j = true then 0 else S 5 j)
  else if a = 6 then (if j = 0 then cnB (dnF N S c) (nW N) + cnB (trF N S K c) (nW N) else if j = 1 then S 6 1 + 1 else S 6 j) else S a j
/-- how much came -/
noncomputable def cm (N S : Mm) (K : Bool → (Nat → Int) → Bool) (c : Int) : Int := (falls N S (nN N)).length + (cnB (dnF N S c) (nW N) + cnB (trF N S K c) (nW N)) + cnB (stF N S K) (nK N)
theorem ab_b {x X : Int} (h : -X ≤ x ∧ x ≤ X) : 0 ≤ ab x ∧ ab x ≤ X := by
  unfold ab
  split <;> omega
theorem told_b {N S : Mm} (hN : NC N) (hS : sV N S) {w : Nat} (hw : w < nW N) : -505984819200000 ≤ told N S w ∧ told N S w ≤ 505984819200000 := by
  unfold told
  split
  · rename_i e
    have hb := fl_b hN hS hw e
    exact tdiv_b hb.2.1 ⟨by omega, by omega⟩
  · decide
theorem wmF_b (N S : Mm) (c : Int) (w : Nat) : 0 ≤ wmF N S c w ∧ wmF N S c w ≤ 1000000 := by
  unfold wmF
  omega
theorem tdiv_n {x d : Int} (hx : 0 ≤ x) (hd : 0 < d) : 0 ≤ Int.tdiv x d ∧ Int.tdiv x d ≤ x := by
  refine ⟨Int.tdiv_nonneg hx (by omega), ?_⟩
  have := tdiv_b (x := x) (X := x) hd ⟨by omega, by omega⟩
  exact this.2
section PC
variable {N S M : Mm} {c : Int}
theorem w227 {P : Mm → Prop} (hN : NC N) (hS : sV N S) (hM : nCl N M) (h76 : ∀ w, w < 14 → M 76 w = S 0 w) (h77 : ∀ w, w < 14 → M 77 w = S 1 w) (h84 : ∀ w : Nat, w < nW N → M 84 w = told N S w) (hc : M 3 3 = c) (hc2 : 0 ≤ c ∧ c ≤ 1000)
    (k : ∀ M2 : Mm, (∀ b, b ≠ 77 → M2 b = M b) → (∀ w : Nat, M2 77 w = if w < nW N then wmF N S c w else M 77 w) → P M2) : Wp (f227 M) P := by
  have h14 := hN.w14
  unfold f227 f227_2
  refine wp_lp2 (fun m y M2 => 0 ≤ y ∧ y ≤ nW N ∧ (m : Int) = nW N - y ∧ (∀ b, b ≠ 77 → M2 b = M b) ∧ ∀ w : Nat, M2 77 w = if (w : Int) < y then wmF N S c w else M 77 w) (nW N) (by omega) ⟨by omega, by omega, by omega, fun _ _ => rfl, fun w => by rw [if_neg (by omega)]⟩ ?_
  rintro m y M2 ⟨a1, a2, a3, a4, a5⟩
  dsimp only
  unfold lb227_2
  rw [a4 3 (by decide), hM.1, hN.w, a4 76 (by decide), a4 17 (by decide), hM.r (b := 17) (by decide) (by decide), a4 84 (by decide)]
  refine wp_ite (fun d => ?_) (fun d => wp_o (wp_some (k M2 a4 (fun w => ?_))))
  · obtain ⟨w, rfl⟩ := Int.eq_ofNat_of_zero_le a1
    have hw : w < nW N := by omega
    have hcw := hN.cw w hw
    have hlim := hcw.2.2.2.2.1
    have hS1 := (hS.1 w (by omega)).2.1
    have htb := told_b hN hS hw
    have hab := ab_b (X := 505984819200000) htb
    have step : ∀ v : Int, v = (if S 0 w = 0 then Int.tdiv (ab (told N S w)) (N 17 w) else 0) → (0 ≤ v ∧ v ≤ 505984819200000) → Wp (f227_54 w v M2) (Sum.elim (up2 (fun m y M2 => 0 ≤ y ∧ y ≤ (nW N : Int) ∧ (m : Int) = nW N - y ∧ (∀ b, b ≠ 77 → M2 b = M b) ∧ ∀ w : Nat, M2 77 w = if (w : Int) < y then wmF N S c w else M 77 w) m) P) := fun v hv hv2 => by
      unfold f227_54
      rw [Int.toNat_natCast, a5 w, if_neg (by omega), h77 w (by omega), a4 3 (by decide), hc]
      refine wp_gd (by omega) (wp_gd ⟨by omega, by omega⟩ (wp_gd ⟨by omega, by omega⟩ (wp_bind ?_)))
      have hval : max 0 (min 1000000 (S 1 w + v - c)) = wmF N S c w := by
        unfold wmF
        rw [hv]
      have fin : ∀ x : Int, x = wmF N S c w → Wp ((f5 0 x M2).bind fun v9 => gd (R4 v9) (mlet (ms M2 77 w v9) fun M13 => gd (R4 ((w : Int) + 1)) (some (.inl ((w : Int) + 1, M13))))) (Sum.elim (up2 (fun m y M2 => 0 ≤ y ∧ y ≤ (nW N : Int) ∧ (m : Int) = nW N - y ∧ (∀ b, b ≠ 77 → M2 b = M b) ∧ ∀ w : Nat, M2 77 w = if (w : Int) < y then wmF N S c w else M 77 w) m) P) := fun x hx => by
        have hb := wmF_b N S c w
        have st : Wp (gd (R4 (wmF N S c w)) (mlet (ms M2 77 w (wmF N S c w)) fun M13 => gd (R4 ((w : Int) + 1)) (some (Sum.inl ((w : Int) + 1, M13))))) (Sum.elim (up2 (fun m y M2 => 0 ≤ y ∧ y ≤ (nW N : Int) ∧ (m : Int) = nW N - y ∧ (∀ b, b ≠ 77 → M2 b = M b) ∧ ∀ w : Nat, M2 77 w = if (w : Int) < y then wmF N S c w else M 77 w) m) P) := by
          refine wp_gd ⟨by omega, by omega⟩ (wp_mlet (wp_gd (by omega) (wp_i2 (m - 1) (by omega) ⟨by omega, by omega, by omega, fun b hb2 => (ms_a hb2).trans (a4 b hb2), fun x => ?_⟩)))
          by_cases e : x = w
          · rw [e, ms_v, if_pos (by omega)]
          · rw [ms_i e, a5 x]
            by_cases e2 : (x : Int) < w
            · rw [if_pos e2, if_pos (by omega)]
            · rw [if_neg e2, if_neg (by omega)]
        refine wp_bind ?_
        rw [hx]
        unfold f5
        refine wp_ite (fun _ => wp_some st) (fun z => wp_some ?_)
        have e0 : wmF N S c w = 0 := by omega
        rw [e0] at st
        exact st
      -- max after min
      unfold f7
      have fin2 : ∀ x : Int, max 0 x = wmF N S c w → Wp ((f5 0 x M2).bind fun v9 => gd (R4 v9) (mlet (ms M2 77 w v9) fun M13 => gd (R4 ((w : Int) + 1)) (some (.inl ((w : Int) + 1, M13))))) (Sum.elim (up2 (fun m y M2 => 0 ≤ y ∧ y ≤ (nW N : Int) ∧ (m : Int) = nW N - y ∧ (∀ b, b ≠ 77 → M2 b = M b) ∧ ∀ w : Nat, M2 77 w = if (w : Int) < y then wmF N S c w else M 77 w) m) P) := fun x hx => by
        by_cases e : 0 ≤ x
        · exact fin x (by omega)
        · have e0 : wmF N S c w = 0 := by omega
          have := fin 0 e0.symm
          unfold f5 at this ⊢
          rw [if_neg (by decide)] at this
          rw [if_neg (by omega)]
          exact this
      refine wp_ite (fun z => wp_some ?_) (fun z => wp_some ?_)
      · exact fin2 _ (by omega)
      · exact fin2 _ (by omega)
    rw [Int.toNat_natCast, h76 w (by omega), h84 w hw]
    refine wp_gd (by omega) (wp_ite (fun d2 => wp_ite (fun d3 => ?_) (fun d3 => ?_)) (fun d2 => step 0 (by rw [if_neg d2]) (by decide)))
    · have hdv := tdiv_n (x := ab (told N S w)) (d := N 17 w) hab.1 (by omega)
      refine wp_bind (w4' ⟨by omega, by omega⟩ ?_)
      show Wp (gd _ (gd (R8 (Int.tdiv (ab (told N S w)) (N 17 w))) (f227_54 w (Int.tdiv (ab (told N S w)) (N 17 w)) M2))) _
      exact wp_gd (by omega) (wp_gd ⟨by omega, by omega⟩ (step _ (by rw [if_pos d2]) ⟨by omega, by omega⟩))
    · omega
  · rw [a5 w]
    by_cases e2 : w < nW N
    · rw [if_pos e2, if_pos (by omega)]
    · rw [if_neg e2, if_neg (by omega)]
theorem bit_set {x : Int} {f : Nat → Bool} {u : Nat} (h0 : 0 ≤ x) (h1 : x < (2 ^ 14 : Nat)) (hu : u < 14) (h : ∀ w : Nat, (tb x w = true ↔ (w < u ∧ f w = true))) (hf : f u = true) : (0 ≤ bOr x (bShl 1 (u : Int)) ∧ bOr x (bShl 1 (u : Int)) < (2 ^ 14 : Nat)) ∧ ∀ w : Nat, (tb (bOr x (bShl 1 (u : Int))) w = true ↔ (w < u + 1 ∧ f w = true)) := by
  have hpow : (2 ^ u : Nat) < (2 ^ 14 : Nat) := Nat.pow_lt_pow_right (by decide) hu
  have hp0 : (0 : Int) ≤ ((2 ^ u : Nat) : Int) := Int.natCast_nonneg _
  have hbl : bShl 1 (u : Int) = (2 ^ u : Nat) := by
    have := bL (y := (u : Int)) (by omega) (by omega)
    rw [Int.toNat_natCast] at this
    exact this
  refine ⟨bO_lt (n := 14) (by omega) h0 h1 (by omega) (by omega), fun w => ?_⟩
  rw [tb_or h0 (by omega) (by omega) (by omega), tb_pow (by omega) (by omega), Int.toNat_natCast, Bool.or_eq_true, decide_eq_true_iff, h w]
  constructor
  · rintro (z | z)
    · exact ⟨by omega, z.2⟩
    · exact ⟨by omega, by rw [← z]; exact hf⟩
  · rintro ⟨z1, z2⟩
    by_cases e : u = w
    · exact Or.inr e
    · exact Or.inl ⟨by omega, z2⟩
theorem bit_skip {x : Int} {f : Nat → Bool} {u : Nat} (h : ∀ w : Nat, (tb x w = true ↔ (w < u ∧ f w = true))) (hf : ¬ f u = true) : ∀ w : Nat, (tb x w = true ↔ (w < u + 1 ∧ f w = true)) := fun w => by
  rw [h w]
  constructor
  · exact fun z => ⟨by omega, z.2⟩
  · intro z
    have : w ≠ u := fun e => hf (e ▸ z.2)
    exact ⟨by omega, z.2⟩
theorem w224 {P : Mm → Prop} (hN : NC N) (hS : sV N S) (hM : nCl N M) (h76 : ∀ w, w < 14 → M 76 w = S 0 w) (h77 : ∀ w : Nat, w < nW N → M 77 w = wmF N S c w) (h78 : ∀ w, w < 14 → M 78 w = S 2 w) (h73 : M 73 3 = 0)
    (k : ∀ M2 : Mm, (∀ b, b ≠ 73 → b ≠ 76 → M2 b = M b) → (∀ j, j ≠ 3 → M2 73 j = M 73 j) → (0 ≤ M2 73 3 ∧ M2 73 3 < (2 ^ 14 : Nat)) → (∀ w : Nat, (tb (M2 73 3) w = true ↔ (w < nW N ∧ dnF N S c w = true))) → (∀ w : Nat, w < 14 → M2 76 w = if w < nW N ∧ dnF N S c w = true then 3 else S 0 w) → P M2) : Wp (f224 M) P := by
  have h14 := hN.w14
  unfold f224 f224_2
  let I : Nat → Int → Mm → Prop := fun m y M2 => 0 ≤ y ∧ y ≤ nW N ∧ (m : Int) = nW N - y ∧ (∀ b, b ≠ 73 → b ≠ 76 → M2 b = M b) ∧ (∀ j, j ≠ 3 → M2 73 j = M 73 j) ∧ (0 ≤ M2 73 3 ∧ M2 73 3 < (2 ^ 14 : Nat)) ∧ (∀ w : Nat, (tb (M2 73 3) w = true ↔ (w < y.toNat ∧ dnF N S c w = true))) ∧ ∀ w : Nat, w < 14 → M2 76 w = if w < y.toNat ∧ dnF N S c w = true then 3 else S 0 w
  refine wp_lp2 I (nW N) (by omega) ⟨by omega, by omega, by omega, fun _ _ _ => rfl, fun _ _ => rfl, by rw [h73]; decide, fun w => by rw [h73, tb_zero]; exact Iff.intro (fun q => absurd q (by decide)) (fun q => absurd q.1 (Nat.not_lt_zero _)), fun w hw => by rw [if_neg (fun q => absurd q.1 (Nat.not_lt_zero _))]; exact h76 w hw⟩ ?_
  rintro m y M2 ⟨a1, a2, a3, a4, a5, a6, a7, a8⟩
  dsimp only
  unfold lb224_2
  rw [a4 3 (by decide) (by decide), hM.1, hN.w, a4 77 (by decide) (by decide), a4 78 (by decide) (by decide), a4 18 (by decide) (by decide), hM.r (b := 18) (by decide) (by decide)]
  refine wp_ite (fun d => ?_) (fun d => wp_o (wp_some (k M2 a4 a5 a6 (fun w => ?_) (fun w hw => ?_))))
  · obtain ⟨w, rfl⟩ := Int.eq_ofNat_of_zero_le a1
    have hw : w < nW N := by omega
    have hcw := hN.cw w hw
    have hwb := wmF_b N S c w
    have hS2 := (hS.1 w (by omega)).2.2
    rw [Int.toNat_natCast] at a7 a8
    have e76 : M2 76 w = S 0 w := by rw [a8 w (by omega), if_neg (by omega)]
    have skip : ¬ dnF N S c w = true → Wp (f224_94 w M2) (Sum.elim (up2 I m) P) := fun hne => by
      unfold f224_94
      refine wp_gd (by omega) (wp_i2 (m - 1) (by omega) ⟨by omega, by omega, by omega, a4, a5, a6, ?_, fun x hx => ?_⟩)
      · rw [show ((w : Int) + 1).toNat = w + 1 by omega]
        exact bit_skip a7 hne
      · rw [a8 x hx, show ((w : Int) + 1).toNat = w + 1 by omega]
        by_cases e : x = w
        · rw [if_neg (by omega), if_neg (fun q => hne (e ▸ q.2))]
        · by_cases e2 : x < w ∧ dnF N S c x = true
          · rw [if_pos e2, if_pos ⟨by omega, e2.2⟩]
          · rw [if_neg e2, if_neg (fun q => e2 ⟨by omega, q.2⟩)]
    have take : dnF N S c w = true → Wp (f224_68 w 1 M2) (Sum.elim (up2 I m) P) := fun hin => by
      unfold f224_68
      refine wp_neg (by decide) ?_
      rw [Int.toNat_natCast]
      refine wp_gd (by omega) (wp_mlet (wp_mlet ?_))
      rw [ms_a (by decide : (73 : Nat) ≠ 76)]
      have hb := bit_set a6.1 a6.2 (by omega : w < 14) a7 hin
      unfold f224_94
      refine wp_gd (by omega) (wp_i2 (m - 1) (by omega) ⟨by omega, by omega, by omega, fun b q1 q2 => (ms_a q1).trans ((ms_a q2).trans (a4 b q1 q2)), fun j hj => (ms_i hj).trans ((congrFun (ms_a (by decide)) j).trans (a5 j hj)), ?_, ?_, fun x hx => ?_⟩)
      · rw [ms_v]
        exact hb.1
      · rw [ms_v, show ((w : Int) + 1).toNat = w + 1 by omega]
        exact hb.2
      · rw [ms_a (by decide), show ((w : Int) + 1).toNat = w + 1 by omega]
        by_cases e : x = w
        · rw [e, ms_v, if_pos ⟨by omega, hin⟩]
        · rw [ms_i e, a8 x hx]
          by_cases e2 : x < w ∧ dnF N S c x = true
          · rw [if_pos e2, if_pos ⟨by omega, e2.2⟩]
          · rw [if_neg e2, if_neg (fun q => e2 ⟨by omega, q.2⟩)]
    have hdn : dnF N S c w = true ↔ (S 0 w = 0 ∧ 0 < S 2 w ∧ N 18 w ≤ wmF N S c w + S 2 w) := decide_eq_true_iff
    have no : ¬ dnF N S c w = true → Wp (f224_54 w M2) (Sum.elim (up2 I m) P) := fun hne => by
      unfold f224_54
      refine wp_gd (by omega) (wp_ite (fun _ => ?_) (fun _ => skip hne))
      unfold f224_68
      exact wp_pos rfl (skip hne)
    rw [Int.toNat_natCast, h77 w hw, h78 w (by omega), e76]
    refine wp_gd (by omega) (wp_ite (fun d2 => wp_gd ⟨by omega, by omega⟩ (wp_ite (fun d3 => no (fun q => by have := (hdn.mp q).2.2; omega)) (fun d3 => wp_ite (fun d4 => take (hdn.mpr ⟨d4, d2, by omega⟩)) (fun d4 => skip (fun q => d4 (hdn.mp q).1))))) (fun d2 => no (fun q => d2 (hdn.mp q).2.1)))
  · rw [a7 w, show y.toNat = nW N by omega]
  · rw [a8 w hw, show y.toNat = nW N by omega]
end PC

section P2
variable {N S M T : Mm} {c : Int} {K : Bool → (Nat → Int) → Bool} {tx : Nat}
/-- the text's hold on memory -/
def txA (T M : Mm) (tx : Nat) : Prop := M 3 4 = tx ∧ isTx tx ∧ ∀ b, tx ≤ b → b ≤ tx + 5 → M b = T b
theorem txA.to {M2 : Mm} (h : txA T M tx) (h3 : M2 3 = M 3) (hb : ∀ b, tx ≤ b → b ≤ tx + 5 → M2 b = M b) : txA T M2 tx := ⟨by rw [h3]; exact h.1, h.2.1, fun b h1 h2 => (hb b h1 h2).trans (h.2.2 b h1 h2)⟩
theorem w220 {P : Mm → Prop} (hN : NC N) (hS : sV N S) (hM : nCl N M) (hK : kCg K) (hT : txC K T tx) (hA : txA T M tx)
    (h76 : ∀ w : Nat, w < 14 → M 76 w = if w < nW N ∧ dnF N S c w = true then 3 else S 0 w) (h77 : ∀ w : Nat, w < nW N → M 77 w = wmF N S c w) (h82 : ∀ s : Nat, s < nN N → M 82 s = rsv N S (isl N S s)) (h84 : ∀ w : Nat, w < nW N → M 84 w = told N S w)
    (h97 : M 97 0 = S 6 1 ∧ M 97 4 = drk N S ∧ M 97 5 = S 6 0) (h73 : M 73 4 = 0)
    (k : ∀ M2 : Mm, (∀ b, b ≠ 73 → b ≠ 76 → b ≠ 97 → b ≠ tx + 6 → M2 b = M b) → (∀ j, j ≠ 4 → M2 73 j = M 73 j) → (M2 97 0 = S 6 1 ∧ M2 97 4 = drk N S ∧ M2 97 5 = S 6 0) → (0 ≤ M2 73 4 ∧ M2 73 4 < (2 ^ 14 : Nat)) → (∀ w : Nat, (tb (M2 73 4) w = true ↔ (w < nW N ∧ trF N S K c w = true))) →
      (∀ w : Nat, w < 14 → M2 76 w = if w < nW N ∧ trF N S K c w = true then 2 else M 76 w) → P M2) : Wp (f220 M) P := by
  have h14 := hN.w14
  have hn8 := hN.n8
  have htx := hA.2.1
  unfold f220 f220_2
  let I : Nat → Int → Mm → Prop := fun m y M2 => 0 ≤ y ∧ y ≤ nW N ∧ (m : Int) = nW N - y ∧ (∀ b, b ≠ 73 → b ≠ 76 → b ≠ 97 → b ≠ tx + 6 → M2 b = M b) ∧ (∀ j, j ≠ 4 → M2 73 j = M 73 j) ∧ (M2 97 0 = S 6 1 ∧ M2 97 4 = drk N S ∧ M2 97 5 = S 6 0) ∧ (0 ≤ M2 73 4 ∧ M2 73 4 < (2 ^ 14 : Nat)) ∧
    (∀ w : Nat, (tb (M2 73 4) w = true ↔ (w < y.toNat ∧ trF N S K c w = true))) ∧ ∀ w : Nat, w < 14 → M2 76 w = if w < y.toNat ∧ trF N S K c w = true then 2 else M 76 w
  refine wp_lp2 I (nW N) (by omega) ⟨by omega, by omega, by omega, fun _ _ _ _ _ => rfl, fun _ _ => rfl, h97, by rw [h73]; decide, fun w => by rw [h73, tb_zero]; exact Iff.intro (fun q => absurd q (by decide)) (fun q => absurd q.1 (Nat.not_lt_zero _)), fun w hw => by rw [if_neg (fun q => absurd q.1 (Nat.not_lt_zero _))]⟩ ?_
  rintro m y M2 ⟨a1, a2, a3, a4, a5, a9, a6, a7, a8⟩
  dsimp only
  unfold lb220_2
  have e3 : M2 3 = N 3 := (a4 3 (by decide) (by decide) (by decide) (by omega)).trans hM.1
  have eN : ∀ b, 11 ≤ b → b ≤ 23 → M2 b = N b := fun b h1 h2 => (a4 b (by omega) (by omega) (by omega) (by omega)).trans (hM.2 b h1 h2)
  rw [e3, hN.w]
  refine wp_ite (fun d => ?_) (fun d => wp_o (wp_some (k M2 a4 a5 a9 a6 (fun w => ?_) (fun w hw => ?_))))
  · obtain ⟨w, rfl⟩ := Int.eq_ofNat_of_zero_le a1
    have hw : w < nW N := by omega
    have hcw := hN.cw w hw
    have htb := told_b hN hS hw
    rw [Int.toNat_natCast] at a7 a8
    have e76 : M2 76 w = if w < nW N ∧ dnF N S c w = true then 3 else S 0 w := by rw [a8 w (by omega), if_neg (by omega)]; exact h76 w (by omega)
    have skip : ∀ M3 : Mm, (∀ b, b ≠ 73 → b ≠ 76 → b ≠ 97 → b ≠ tx + 6 → M3 b = M b) → M3 73 = M2 73 → M3 76 = M2 76 → (M3 97 0 = S 6 1 ∧ M3 97 4 = drk N S ∧ M3 97 5 = S 6 0) → ¬ trF N S K c w = true → Wp (f220_159 w M3) (Sum.elim (up2 I m) P) := fun M3 q1 q2 q3 q4 hne => by
      unfold f220_159
      refine wp_gd (by omega) (wp_i2 (m - 1) (by omega) ⟨by omega, by omega, by omega, q1, by rw [q2]; exact a5, q4, by rw [q2]; exact a6, ?_, fun x hx => ?_⟩)
      · rw [q2, show ((w : Int) + 1).toNat = w + 1 by omega]
        exact bit_skip a7 hne
      · rw [q3, a8 x hx, show ((w : Int) + 1).toNat = w + 1 by omega]
        by_cases e : x = w
        · rw [if_neg (by omega), if_neg (fun q => hne (e ▸ q.2))]
        · by_cases e2 : x < w ∧ trF N S K c x = true
          · rw [if_pos e2, if_pos ⟨by omega, e2.2⟩]
          · rw [if_neg e2, if_neg (fun q => e2 ⟨by omega, q.2⟩)]
    rw [Int.toNat_natCast, e76]
    refine wp_gd (by omega) (wp_ite (fun d2 => ?_) (fun d2 => skip M2 a4 rfl rfl a9 (fun q => ?_)))
    · have hnd : ¬ dnF N S c w = true := fun q => by rw [if_pos ⟨hw, q⟩] at d2; omega
      rw [if_neg (fun q => hnd q.2)] at d2
      have d1 : dnF N S c w = false := by
        cases q : dnF N S c w
        · rfl
        · exact (hnd q).elim
      have htr : trF N S K c w = K false (lW N S c w) := by
        unfold trF
        rw [d1, decide_eq_true d2]
        rfl
      -- the letters
      refine wp_mlet ?_
      rw [ms_a (by decide : (14 : Nat) ≠ 97), eN 14 (by decide) (by decide), hcw.1.1, Int.toNat_natCast, ms_a (by decide : (11 : Nat) ≠ 97), eN 11 (by decide) (by decide)]
      refine wp_gd (by omega) (wp_mlet ?_)
      rw [ms_a (by decide : (14 : Nat) ≠ 97), ms_a (by decide : (14 : Nat) ≠ 97), eN 14 (by decide) (by decide), hcw.1.1, Int.toNat_natCast, ms_a (by decide : (82 : Nat) ≠ 97), ms_a (by decide : (82 : Nat) ≠ 97), a4 82 (by decide) (by decide) (by decide) (by omega), h82 _ hcw.1.2]
      refine wp_gd (by omega) (wp_mlet ?_)
      rw [ms_a (by decide : (84 : Nat) ≠ 97), ms_a (by decide : (84 : Nat) ≠ 97), ms_a (by decide : (84 : Nat) ≠ 97), a4 84 (by decide) (by decide) (by decide) (by omega), h84 w hw]
      refine wp_bind (w4' ⟨by omega, by omega⟩ (wp_mlet ?_))
      rw [ms_a (by decide : (17 : Nat) ≠ 97), ms_a (by decide : (17 : Nat) ≠ 97), ms_a (by decide : (17 : Nat) ≠ 97), ms_a (by decide : (17 : Nat) ≠ 97), eN 17 (by decide) (by decide)]
      refine wp_mlet ?_
      rw [ms_a (by decide : (77 : Nat) ≠ 97), ms_a (by decide : (77 : Nat) ≠ 97), ms_a (by decide : (77 : Nat) ≠ 97), ms_a (by decide : (77 : Nat) ≠ 97), ms_a (by decide : (77 : Nat) ≠ 97), a4 77 (by decide) (by decide) (by decide) (by omega), h77 w hw]
      refine wp_mlet ?_
      have hL : ∀ j, relL false j → ms (ms (ms (ms (ms (ms M2 97 1 (w : Int)) 97 2 (N 11 (eA N w))) 97 3 (rsv N S (isl N S (eA N w)))) 97 6 (ab (told N S w))) 97 7 (N 17 w)) 97 8 (wmF N S c w) 97 j = lW N S c w j := fun j hj => by
        have hj9 : j = 0 ∨ j = 1 ∨ j = 2 ∨ j = 3 ∨ j = 4 ∨ j = 5 ∨ j = 6 ∨ j = 7 ∨ j = 8 := by
          rcases hj with q | q | q
          · omega
          · omega
          · exact absurd q.1 (by decide)
        rcases hj9 with rfl | rfl | rfl | rfl | rfl | rfl | rfl | rfl | rfl
        · rw [ms_i (by decide), ms_i (by decide), ms_i (by decide), ms_i (by decide), ms_i (by decide), ms_i (by decide)]; exact a9.1
        · rw [ms_i (by decide), ms_i (by decide), ms_i (by decide), ms_i (by decide), ms_i (by decide), ms_v]; rfl
        · rw [ms_i (by decide), ms_i (by decide), ms_i (by decide), ms_i (by decide), ms_v]; rfl
        · rw [ms_i (by decide), ms_i (by decide), ms_i (by decide), ms_v]; rfl
        · rw [ms_i (by decide), ms_i (by decide), ms_i (by decide), ms_i (by decide), ms_i (by decide), ms_i (by decide)]; exact a9.2.1
        · rw [ms_i (by decide), ms_i (by decide), ms_i (by decide), ms_i (by decide), ms_i (by decide), ms_i (by decide)]; exact a9.2.2
        · rw [ms_i (by decide), ms_i (by decide), ms_v]; rfl
        · rw [ms_i (by decide), ms_v]; rfl
        · rw [ms_v]; rfl
      have hL0 : ∀ v1 v2 v3 v6 v7 v8 : Int, ∀ j : Nat, (j = 0 ∨ j = 4 ∨ j = 5) → ms (ms (ms (ms (ms (ms M2 97 1 v1) 97 2 v2) 97 3 v3) 97 6 v6) 97 7 v7) 97 8 v8 97 j = M2 97 j := fun v1 v2 v3 v6 v7 v8 j hj => by
        rw [ms_i (by omega), ms_i (by omega), ms_i (by omega), ms_i (by omega), ms_i (by omega), ms_i (by omega)]
      have hoff : ∀ v1 v2 v3 v6 v7 v8 : Int, ∀ b : Nat, b ≠ 97 → ms (ms (ms (ms (ms (ms M2 97 1 v1) 97 2 v2) 97 3 v3) 97 6 v6) 97 7 v7) 97 8 v8 b = M2 b := fun v1 v2 v3 v6 v7 v8 b hb => by
        rw [ms_a hb, ms_a hb, ms_a hb, ms_a hb, ms_a hb, ms_a hb]
      have hab : (if told N S w < 0 then - told N S w else told N S w) = ab (told N S w) := rfl
      rw [hab]
      generalize hM3 : ms (ms (ms (ms (ms (ms M2 97 1 (w : Int)) 97 2 (N 11 (eA N w))) 97 3 (rsv N S (isl N S (eA N w)))) 97 6 (ab (told N S w))) 97 7 (N 17 w)) 97 8 (wmF N S c w) = M3 at hL ⊢
      have m0 : ∀ j : Nat, (j = 0 ∨ j = 4 ∨ j = 5) → M3 97 j = M2 97 j := fun j hj => by rw [← hM3]; exact hL0 _ _ _ _ _ _ j hj
      have mo : ∀ b : Nat, b ≠ 97 → M3 b = M2 b := fun b hb => by rw [← hM3]; exact hoff _ _ _ _ _ _ b hb
      have e34 : M3 3 4 = tx := by rw [mo 3 (by decide), a4 3 (by decide) (by decide) (by decide) (by omega)]; exact hA.1
      rw [e34, Int.toNat_natCast]
      refine wp_gd htx (wp_obnd (hT M3 (fun b h1 h2 => ?_) false _ (fun M4 g1 => ?_)))
      · rw [mo b (by omega), a4 b (by omega) (by omega) (by omega) (by omega)]
        exact hA.2.2 b h1 h2
      dsimp only
      rw [hK false (M3 97) (lW N S c w) hL, ← htr]
      have f4 : ∀ b, b ≠ 73 → b ≠ 76 → b ≠ 97 → b ≠ tx + 6 → M4 b = M b := fun b q1 q2 q3 q4 => by rw [g1 b q4, mo b q3]; exact a4 b q1 q2 q3 q4
      have g73 : M4 73 = M2 73 := by rw [g1 73 (by omega), mo 73 (by decide)]
      have g76 : M4 76 = M2 76 := by rw [g1 76 (by omega), mo 76 (by decide)]
      have g97 : M4 97 0 = S 6 1 ∧ M4 97 4 = drk N S ∧ M4 97 5 = S 6 0 := by
        rw [g1 97 (by omega), m0 0 (Or.inl rfl), m0 4 (by omega), m0 5 (by omega)]
        exact a9
      refine wp_ite (fun z => skip M4 f4 g73 g76 g97 (fun q => by rw [if_pos q] at z; omega)) (fun z => ?_)
      have hin : trF N S K c w = true := by
        cases q : trF N S K c w
        · rw [q] at z
          exact absurd rfl z
        · rfl
      refine wp_mlet ?_
      rw [ms_a (by decide : (73 : Nat) ≠ 76), g73]
      refine wp_mlet ?_
      have hb := bit_set a6.1 a6.2 (by omega : w < 14) a7 hin
      unfold f220_159
      refine wp_gd (by omega) (wp_i2 (m - 1) (by omega) ⟨by omega, by omega, by omega, fun b q1 q2 q3 q4 => (ms_a q1).trans ((ms_a q2).trans (f4 b q1 q2 q3 q4)), fun j hj => (ms_i hj).trans (by rw [ms_a (by decide), g73]; exact a5 j hj), ?_, ?_, ?_, fun x hx => ?_⟩)
      · rw [ms_a (by decide), ms_a (by decide)]
        exact g97
      · rw [ms_v]
        exact hb.1
      · rw [ms_v, show ((w : Int) + 1).toNat = w + 1 by omega]
        exact hb.2
      · rw [ms_a (by decide), show ((w : Int) + 1).toNat = w + 1 by omega]
        by_cases e : x = w
        · rw [e, ms_v, if_pos ⟨by omega, hin⟩]
        · rw [ms_i e, g76, a8 x hx]
          by_cases e2 : x < w ∧ trF N S K c x = true
          · rw [if_pos e2, if_pos ⟨by omega, e2.2⟩]
          · rw [if_neg e2, if_neg (fun q => e2 ⟨by omega, q.2⟩)]
    · unfold trF at q
      rw [Bool.and_eq_true, Bool.and_eq_true, decide_eq_true_iff] at q
      have hnd : ¬ dnF N S c w = true := fun z => by rw [z] at q; exact absurd q.1.2 (by decide)
      rw [if_neg (fun z => hnd z.2)] at d2
      exact d2 q.1.1
  · rw [a7 w, show y.toNat = nW N by omega]
  · rw [a8 w hw, show y.toNat = nW N by omega]
theorem w221 {P : Mm → Prop} (hN : NC N) (hM : nCl N M) (hK : kCg K) (hT : txC K T tx) (hA : txA T M tx)
    (hr0 : 0 ≤ M 74 2) (hr1 : M 74 2 < (2 ^ nK N : Nat)) (hr : ∀ k, S 5 k = if tb (M 74 2) k then 1 else 0) (h82 : ∀ s : Nat, s < nN N → M 82 s = rsv N S (isl N S s)) (h83 : ∀ x : Nat, x < nK N → M 83 x = gv N S x)
    (h97 : M 97 0 = S 6 1 ∧ M 97 4 = drk N S ∧ M 97 5 = S 6 0) (h73 : M 73 5 = 0)
    (k : ∀ M2 : Mm, (∀ b, b ≠ 73 → b ≠ 74 → b ≠ 97 → b ≠ tx + 6 → M2 b = M b) → (∀ j, j ≠ 5 → M2 73 j = M 73 j) → (∀ j, j ≠ 2 → M2 74 j = M 74 j) → (0 ≤ M2 73 5 ∧ M2 73 5 < (2 ^ 14 : Nat)) → (∀ w : Nat, (tb (M2 73 5) w = true ↔ (w < nK N ∧ stF N S K w = true))) →
      (0 ≤ M2 74 2 ∧ M2 74 2 < (2 ^ nK N : Nat)) → (∀ x : Nat, (if tb (M2 74 2) x then (1 : Int) else 0) = if x < nK N ∧ stF N S K x = true then 0 else S 5 x) → P M2) : Wp (f221 M) P := by
  have h9 := hN.k9
  have hn8 := hN.n8
  have htx := hA.2.1
  have hpk := pw2_k hN
  unfold f221 f221_2
  let I : Nat → Int → Mm → Prop := fun m y M2 => 0 ≤ y ∧ y ≤ nK N ∧ (m : Int) = nK N - y ∧ (∀ b, b ≠ 73 → b ≠ 74 → b ≠ 97 → b ≠ tx + 6 → M2 b = M b) ∧ (∀ j, j ≠ 5 → M2 73 j = M 73 j) ∧ (∀ j, j ≠ 2 → M2 74 j = M 74 j) ∧ (M2 97 0 = S 6 1 ∧ M2 97 4 = drk N S ∧ M2 97 5 = S 6 0) ∧ (0 ≤ M2 73 5 ∧ M2 73 5 < (2 ^ 14 : Nat)) ∧
    (∀ w : Nat, (tb (M2 73 5) w = true ↔ (w < y.toNat ∧ stF N S K w = true))) ∧ (0 ≤ M2 74 2 ∧ M2 74 2 < (2 ^ nK N : Nat)) ∧ ∀ x : Nat, (if tb (M2 74 2) x then (1 : Int) else 0) = if x < y.toNat ∧ stF N S K x = true then 0 else S 5 x
  refine wp_lp2 I (nK N) (by omega) ⟨by omega, by omega, by omega, fun _ _ _ _ _ => rfl, fun _ _ => rfl, fun _ _ => rfl, h97, by rw [h73]; decide, fun w => by rw [h73, tb_zero]; exact Iff.intro (fun q => absurd q (by decide)) (fun q => absurd q.1 (Nat.not_lt_zero _)), ⟨hr0, hr1⟩, fun x => by rw [if_neg (c := x < (0 : Int).toNat ∧ _) (fun q => absurd q.1 (Nat.not_lt_zero _))]; exact (hr x).symm⟩ ?_
  rintro m y M2 ⟨a1, a2, a3, a4, a5, a10, a9, a6, a7, a11, a8⟩
  dsimp only
  unfold lb221_2
  have e3 : M2 3 = N 3 := (a4 3 (by decide) (by decide) (by decide) (by omega)).trans hM.1
  have eN : ∀ b, 11 ≤ b → b ≤ 23 → M2 b = N b := fun b h1 h2 => (a4 b (by omega) (by omega) (by omega) (by omega)).trans (hM.2 b h1 h2)
  rw [e3, hN.k]
  refine wp_ite (fun d => ?_) (fun d => wp_o (wp_some (k M2 a4 a5 a10 a6 (fun w => ?_) a11 (fun x => ?_))))
  · obtain ⟨w, rfl⟩ := Int.eq_ofNat_of_zero_le a1
    have hw : w < nK N := by omega
    have hck := hN.ck w hw
    rw [Int.toNat_natCast] at a7 a8
    have skip : ∀ M3 : Mm, (∀ b, b ≠ 73 → b ≠ 74 → b ≠ 97 → b ≠ tx + 6 → M3 b = M b) → M3 73 = M2 73 → M3 74 = M2 74 → (M3 97 0 = S 6 1 ∧ M3 97 4 = drk N S ∧ M3 97 5 = S 6 0) → ¬ stF N S K w = true → Wp (f221_146 w M3) (Sum.elim (up2 I m) P) := fun M3 q1 q2 q3 q4 hne => by
      unfold f221_146
      refine wp_gd (by omega) (wp_i2 (m - 1) (by omega) ⟨by omega, by omega, by omega, q1, by rw [q2]; exact a5, by rw [q3]; exact a10, q4, by rw [q2]; exact a6, ?_, by rw [q3]; exact a11, fun x => ?_⟩)
      · rw [q2, show ((w : Int) + 1).toNat = w + 1 by omega]
        exact bit_skip a7 hne
      · rw [q3, a8 x, show ((w : Int) + 1).toNat = w + 1 by omega]
        by_cases e : x = w
        · rw [if_neg (by omega), if_neg (fun q => hne (e ▸ q.2))]
        · by_cases e2 : x < w ∧ stF N S K x = true
          · rw [if_pos e2, if_pos ⟨by omega, e2.2⟩]
          · rw [if_neg e2, if_neg (fun q => e2 ⟨by omega, q.2⟩)]
    have hrun : (if tb (M2 74 2) w then (1 : Int) else 0) = S 5 w := by rw [a8 w, if_neg (by omega)]
    refine wp_bind (w245 a11.1 (by omega) (by omega) (by omega) ?_)
    rw [Int.toNat_natCast, hrun]
    refine wp_ite (fun d2 => skip M2 a4 rfl rfl a9 (fun q => ?_)) (fun d2 => ?_)
    · unfold stF at q
      rw [Bool.and_eq_true, decide_eq_true_iff] at q
      omega
    · have d3 : S 5 w = 1 := by
        rw [← hrun] at d2 ⊢
        split
        · rfl
        · rename_i q
          rw [if_neg q] at d2
          exact (d2 rfl).elim
      have hst : stF N S K w = K true (lK N S w) := by
        unfold stF
        rw [decide_eq_true d3]
        rfl
      refine wp_mlet (wp_gd (by omega) ?_)
      rw [ms_a (by decide : (20 : Nat) ≠ 97), eN 20 (by decide) (by decide), hck.1.1, Int.toNat_natCast, ms_a (by decide : (11 : Nat) ≠ 97), eN 11 (by decide) (by decide)]
      refine wp_gd (by omega) (wp_mlet ?_)
      rw [ms_a (by decide : (20 : Nat) ≠ 97), ms_a (by decide : (20 : Nat) ≠ 97), eN 20 (by decide) (by decide), hck.1.1, Int.toNat_natCast, ms_a (by decide : (82 : Nat) ≠ 97), ms_a (by decide : (82 : Nat) ≠ 97), a4 82 (by decide) (by decide) (by decide) (by omega), h82 _ hck.1.2]
      refine wp_gd (by omega) (wp_mlet ?_)
      rw [ms_a (by decide : (83 : Nat) ≠ 97), ms_a (by decide : (83 : Nat) ≠ 97), ms_a (by decide : (83 : Nat) ≠ 97), a4 83 (by decide) (by decide) (by decide) (by omega), h83 w hw]
      refine wp_mlet ?_
      rw [ms_a (by decide : (21 : Nat) ≠ 97), ms_a (by decide : (21 : Nat) ≠ 97), ms_a (by decide : (21 : Nat) ≠ 97), ms_a (by decide : (21 : Nat) ≠ 97), eN 21 (by decide) (by decide)]
      refine wp_mlet ?_
      have hL : ∀ j, relL true j → ms (ms (ms (ms (ms M2 97 1 (w : Int)) 97 2 (N 11 (aK N w))) 97 3 (rsv N S (isl N S (aK N w)))) 97 9 (gv N S w)) 97 10 (N 21 w) 97 j = lK N S w j := fun j hj => by
        have hj9 : j = 0 ∨ j = 1 ∨ j = 2 ∨ j = 3 ∨ j = 4 ∨ j = 5 ∨ j = 9 ∨ j = 10 := by
          rcases hj with q | q | q
          · omega
          · exact absurd q.1 (by decide)
          · omega
        rcases hj9 with rfl | rfl | rfl | rfl | rfl | rfl | rfl | rfl
        · rw [ms_i (by decide), ms_i (by decide), ms_i (by decide), ms_i (by decide), ms_i (by decide)]; exact a9.1
        · rw [ms_i (by decide), ms_i (by decide), ms_i (by decide), ms_i (by decide), ms_v]; rfl
        · rw [ms_i (by decide), ms_i (by decide), ms_i (by decide), ms_v]; rfl
        · rw [ms_i (by decide), ms_i (by decide), ms_v]; rfl
        · rw [ms_i (by decide), ms_i (by decide), ms_i (by decide), ms_i (by decide), ms_i (by decide)]; exact a9.2.1
        · rw [ms_i (by decide), ms_i (by decide), ms_i (by decide), ms_i (by decide), ms_i (by decide)]; exact a9.2.2
        · rw [ms_i (by decide), ms_v]; rfl
        · rw [ms_v]; rfl
      have hL0 : ∀ j : Nat, (j = 0 ∨ j = 4 ∨ j = 5) → ms (ms (ms (ms (ms M2 97 1 (w : Int)) 97 2 (N 11 (aK N w))) 97 3 (rsv N S (isl N S (aK N w)))) 97 9 (gv N S w)) 97 10 (N 21 w) 97 j = M2 97 j := fun j hj => by
        rw [ms_i (by omega), ms_i (by omega), ms_i (by omega), ms_i (by omega), ms_i (by omega)]
      have hoff : ∀ b : Nat, b ≠ 97 → ms (ms (ms (ms (ms M2 97 1 (w : Int)) 97 2 (N 11 (aK N w))) 97 3 (rsv N S (isl N S (aK N w)))) 97 9 (gv N S w)) 97 10 (N 21 w) b = M2 b := fun b hb => by
        rw [ms_a hb, ms_a hb, ms_a hb, ms_a hb, ms_a hb]
      generalize ms (ms (ms (ms (ms M2 97 1 (w : Int)) 97 2 (N 11 (aK N w))) 97 3 (rsv N S (isl N S (aK N w)))) 97 9 (gv N S w)) 97 10 (N 21 w) = M3 at hL hL0 hoff ⊢
      have e34 : M3 3 4 = tx := by rw [hoff 3 (by decide), a4 3 (by decide) (by decide) (by decide) (by omega)]; exact hA.1
      rw [e34, Int.toNat_natCast]
      refine wp_gd htx (wp_obnd (hT M3 (fun b h1 h2 => ?_) true _ (fun M4 g1 => ?_)))
      · rw [hoff b (by omega), a4 b (by omega) (by omega) (by omega) (by omega)]
        exact hA.2.2 b h1 h2
      dsimp only
      rw [hK true (M3 97) (lK N S w) hL, ← hst]
      have f4 : ∀ b, b ≠ 73 → b ≠ 74 → b ≠ 97 → b ≠ tx + 6 → M4 b = M b := fun b q1 q2 q3 q4 => by rw [g1 b q4, hoff b q3]; exact a4 b q1 q2 q3 q4
      have g73 : M4 73 = M2 73 := by rw [g1 73 (by omega), hoff 73 (by decide)]
      have g74 : M4 74 = M2 74 := by rw [g1 74 (by omega), hoff 74 (by decide)]
      have g97 : M4 97 0 = S 6 1 ∧ M4 97 4 = drk N S ∧ M4 97 5 = S 6 0 := by
        rw [g1 97 (by omega), hL0 0 (Or.inl rfl), hL0 4 (by omega), hL0 5 (by omega)]
        exact a9
      refine wp_ite (fun z => skip M4 f4 g73 g74 g97 (fun q => by rw [if_pos q] at z; omega)) (fun z => ?_)
      have hin : stF N S K w = true := by
        cases q : stF N S K w
        · rw [q] at z
          exact absurd rfl z
        · rfl
      have hpow : (2 ^ w : Nat) < (2 ^ nK N : Nat) := Nat.pow_lt_pow_right (by decide) hw
      have hp0 : (0 : Int) ≤ ((2 ^ w : Nat) : Int) := Int.natCast_nonneg _
      have hbl : bShl 1 (w : Int) = (2 ^ w : Nat) := by
        have := bL (y := (w : Int)) (by omega) (by omega)
        rw [Int.toNat_natCast] at this
        exact this
      refine wp_mlet ?_
      rw [ms_a (by decide : (73 : Nat) ≠ 74), g73, g74]
      refine wp_mlet ?_
      have hb := bit_set a6.1 a6.2 (by omega : w < 14) a7 hin
      have htn : ∀ x, tb (bAnd (M2 74 2) (bXor (bShl 1 (w : Int)) (-1))) x = (tb (M2 74 2) x && !decide (w = x)) := fun x => by
        rw [tb_not a11.1 (by omega) (by omega) (by omega), tb_pow (by omega) (by omega), Int.toNat_natCast]
      have hbn := bN_lt a11.1 (by omega : M2 74 2 < 2147483648) (by omega : 0 ≤ bShl 1 (w : Int)) (by omega)
      unfold f221_146
      refine wp_gd (by omega) (wp_i2 (m - 1) (by omega) ⟨by omega, by omega, by omega, fun b q1 q2 q3 q4 => (ms_a q1).trans ((ms_a q2).trans (f4 b q1 q2 q3 q4)), fun j hj => (ms_i hj).trans (by rw [ms_a (by decide), g73]; exact a5 j hj), fun j hj => by rw [ms_a (by decide), ms_i hj, g74]; exact a10 j hj, ?_, ?_, ?_, ?_, fun x => ?_⟩)
      · rw [ms_a (by decide), ms_a (by decide)]
        exact g97
      · rw [ms_v]
        exact hb.1
      · rw [ms_v, show ((w : Int) + 1).toNat = w + 1 by omega]
        exact hb.2
      · rw [ms_a (by decide), ms_v]
        refine ⟨hbn.1, tb_lt hbn.1 (fun x hx => ?_)⟩
        rw [htn, tb_ge a11.1 a11.2 hx]
        rfl
      · rw [ms_a (by decide), ms_v, htn, show ((w : Int) + 1).toNat = w + 1 by omega]
        by_cases e : w = x
        · rw [decide_eq_true e, ← e, if_pos (c := w < w + 1 ∧ _) ⟨by omega, hin⟩]
          cases tb (M2 74 2) w <;> rfl
        · rw [decide_eq_false e]
          have := a8 x
          by_cases e2 : x < w ∧ stF N S K x = true
          · rw [if_pos e2] at this
            rw [if_pos (c := x < w + 1 ∧ _) ⟨by omega, e2.2⟩, ← this]
            cases tb (M2 74 2) x <;> rfl
          · rw [if_neg e2] at this
            rw [if_neg (c := x < w + 1 ∧ _) (fun q => e2 ⟨by omega, q.2⟩), ← this]
            cases tb (M2 74 2) x <;> rfl
  · rw [a7 w, show y.toNat = nK N by omega]
  · rw [a8 x, show y.toNat = nK N by omega]
end P2
