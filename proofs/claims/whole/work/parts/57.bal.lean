theorem sC.to {N S M M2 : Mm} {s : Nat} (h : sC N S M s) (hb : ∀ b, s ≤ b → b ≤ s + 4 → M2 b = M b) : sC N S M2 s := by
  unfold sC
  rw [hb s (by omega) (by omega), hb (s + 1) (by omega) (by omega), hb (s + 2) (by omega) (by omega), hb (s + 3) (by omega) (by omega), hb (s + 4) (by omega) (by omega)]
  exact h
/-- all but the standing at r is as it was -/
def frS (r : Nat) (M M2 : Mm) : Prop := ∀ b, (b < r ∨ r + 17 < b) → M2 b = M b
def sepS (r s : Nat) : Prop := 23 < r ∧ (s + 4 < r ∨ r + 17 < s)
theorem frS.rfl' {r : Nat} {M : Mm} : frS r M M := fun _ _ => rfl
theorem frS.trans {r : Nat} {M M2 M3 : Mm} (h : frS r M M2) (g : frS r M2 M3) : frS r M M3 := fun b hb => (g b hb).trans (h b hb)
theorem frS.st {r a i : Nat} {v : Int} {M M2 : Mm} (h : frS r M M2) (h1 : r ≤ a) (h2 : a ≤ r + 17) : frS r M (ms M2 a i v) := fun b hb => by
  rw [ms_a (by omega)]
  exact h b hb
theorem frS.nc {r s : Nat} {N M M2 : Mm} (h : frS r M M2) (q : sepS r s) (hM : nCl N M) : nCl N M2 := hM.to (h 3 (by have := q.1; omega)) (fun b _ _ => h b (by have := q.1; omega))
theorem frS.sc {r s : Nat} {N S M M2 : Mm} (h : frS r M M2) (q : sepS r s) (hM : sC N S M s) : sC N S M2 s := hM.to (fun b _ _ => h b (by have := q.2; omega))
theorem pw2_n {N : Mm} (h : NC N) : (2 ^ nN N : Nat) ≤ 256 := Nat.pow_le_pow_right (by decide) h.n8
theorem pw2_k {N : Mm} (h : NC N) : (2 ^ nK N : Nat) ≤ 512 := Nat.pow_le_pow_right (by decide) h.k9
theorem w245 {r : Nat} {x : Int} {M : Mm} {P : Int → Prop} (h0 : 0 ≤ M r 2) (h1 : M r 2 < 2147483648) (hx : 0 ≤ x) (hx2 : x < 32) (k : P (if tb (M r 2) x.toNat then 1 else 0)) : Wp (f245 r x M) P := by
  unfold f245
  rw [bT h0 h1 hx hx2]
  cases h : tb (M r 2) x.toNat
  · rw [h] at k
    exact wp_neg (by decide) (wp_some k)
  · rw [h] at k
    exact wp_pos (by decide) (wp_some k)
theorem w243 {r : Nat} {x : Int} {M : Mm} {P : Int → Prop} (h0 : 0 ≤ M r 1) (h1 : M r 1 < 2147483648) (hx : 0 ≤ x) (hx2 : x < 32) (k : P (if tb (M r 1) x.toNat then 1 else 0)) : Wp (f243 r x M) P := by
  unfold f243
  rw [bT h0 h1 hx hx2]
  cases h : tb (M r 1) x.toNat
  · rw [h] at k
    exact wp_neg (by decide) (wp_some k)
  · rw [h] at k
    exact wp_pos (by decide) (wp_some k)
theorem sm_sub0 {f : Nat → Int} {P : Nat → Prop} [DecidablePred P] {n : Nat} (h : ∀ i, i < n → 0 ≤ f i) : 0 ≤ sm (fun i => if P i then f i else 0) n ∧ sm (fun i => if P i then f i else 0) n ≤ sm f n :=
  ⟨sm_nn (fun i hi => by have := h i hi; split <;> omega), sm_mono (fun i hi => by have := h i hi; split <;> omega)⟩
theorem if_lt_succ {p : Prop} [Decidable p] {s u : Nat} {a b : Int} (h : s ≠ u ∨ ¬ p) : (if p ∧ (s : Int) < (u : Int) + 1 then a else b) = if p ∧ (s : Int) < (u : Int) then a else b := by
  by_cases e : p ∧ (s : Int) < (u : Int)
  · rw [if_pos e, if_pos ⟨e.1, by omega⟩]
  · rw [if_neg e, if_neg (fun q => by
      rcases h with h | h
      · exact e ⟨q.1, by omega⟩
      · exact h q.1)]
section BAL
variable {N S M : Mm} {r r2 i : Nat}
/-- the gives of one island -/
theorem w233 {D : Nat → Int} {L : Int} {P : Mm → Prop} (hN : NC N) (hS : sV N S) (hM : nCl N M) (hs : sC N S M r2) (hq : sepS r r2) (hi : i < nN N)
    (hl : ∀ s : Nat, s < nN N → M (r + 2) s = isl N S s) (hd0 : 0 ≤ M r 0) (hd1 : M r 0 < (2 ^ nN N : Nat)) (hD : ∀ s, D s = if tb (M r 0) s then 1 else 0) (hL : litI N S D i = L)
    (k : ∀ M2 : Mm, frS r M M2 → (∀ b, b ≠ r + 3 → b ≠ r + 4 → b ≠ r + 6 → M2 b = M b) →
      (∀ s : Nat, s < nN N → M2 (r + 3) s = if isl N S s = i then mostI N S i - L else M (r + 3) s) →
      (∀ x : Nat, x < nK N → M2 (r + 4) x = if isl N S (aK N x) = i then gvF N (wkL N S i (nK N)) L x else M (r + 4) x) →
      (∀ s : Nat, s < nN N → M2 (r + 6) s = if isl N S s = i then (if D s = 1 then 0 else - S 3 s) + sm (fun x => if aK N x = s then gvF N (wkL N S i (nK N)) L x else 0) (nK N) else M (r + 6) s) → P M2) :
    Wp (f233 r r2 i (mostI N S i) L M) P := by
  have h8 := hN.n8
  have h9 := hN.k9
  have hmo := mostI_b (S := S) (i := i) hN
  have hli := litI_b (i := i) (D := D) hN hS
  have hpn := pw2_n hN
  have hpk := pw2_k hN
  have hq1 := hq.1
  have hq2 := hq.2
  unfold f233 f233_3
  let I : Nat → Int → Mm → Prop := fun m x M2 => 0 ≤ x ∧ x ≤ nN N ∧ (m : Int) = nN N - x ∧ frS r M M2 ∧ (∀ b, b ≠ r + 3 → b ≠ r + 6 → M2 b = M b) ∧
    (∀ s : Nat, s < nN N → M2 (r + 3) s = if isl N S s = i ∧ (s : Int) < x then mostI N S i - L else M (r + 3) s) ∧
    (∀ s : Nat, s < nN N → M2 (r + 6) s = if isl N S s = i ∧ (s : Int) < x then (if D s = 1 then 0 else - S 3 s) else M (r + 6) s)
  refine wp_lp2 I (nN N) (by omega) ⟨by omega, by omega, by omega, frS.rfl', fun _ _ _ => rfl, fun s hs => by rw [if_neg (by omega)], fun s hs => by rw [if_neg (by omega)]⟩ ?_
  rintro m x M1 ⟨a1, a2, a3, a4, a5, a6, a7⟩
  dsimp only
  unfold lb233_3
  have e3 : M1 3 = N 3 := (a5 3 (by omega) (by omega)).trans hM.1
  have el : M1 (r + 2) = M (r + 2) := a5 _ (by omega) (by omega)
  have e0 : M1 r = M r := a5 _ (by omega) (by omega)
  have hs1 := a4.sc hq hs
  rw [e3, hN.n, el]
  refine wp_ite (fun c => ?_) (fun c => wp_o ?_)
  · obtain ⟨u, rfl⟩ := Int.eq_ofNat_of_zero_le a1
    rw [Int.toNat_natCast, hl u (by omega)]
    have skip : isl N S u ≠ i → Wp (f233_67 r r2 i (mostI N S i) L u M1) (Sum.elim (up2 I m) P) := fun hne => by
      unfold f233_67
      refine wp_gd (by omega) (wp_i2 (m - 1) (by omega) ⟨by omega, by omega, by omega, a4, a5, fun s hs => ?_, fun s hs => ?_⟩)
      · rw [a6 s hs, if_lt_succ (by by_cases e : s = u; exact Or.inr (e ▸ hne); exact Or.inl e)]
      · rw [a7 s hs, if_lt_succ (by by_cases e : s = u; exact Or.inr (e ▸ hne); exact Or.inl e)]
    refine wp_gd (by omega) (wp_ite (fun c2 => ?_) (fun c2 => skip (fun e => c2 (by rw [e]))))
    have c3 : isl N S u = i := by omega
    have hld := hs1.2.1 u (by omega)
    have hlv := hS.2.1 u (by omega)
    refine wp_gd ⟨by omega, by omega⟩ (wp_mlet ?_)
    rw [ms_a (by omega : r ≠ r + 3), e0, bT hd0 (by omega) (by omega) (by omega), Int.toNat_natCast]
    have step : ∀ v : Int, v = (if D u = 1 then 0 else - S 3 u) → Wp (f233_67 r r2 i (mostI N S i) L u (ms (ms M1 (r + 3) u (mostI N S i - L)) (r + 6) u v)) (Sum.elim (up2 I m) P) := fun v hv => by
      unfold f233_67
      refine wp_gd (by omega) (wp_i2 (m - 1) (by omega) ⟨by omega, by omega, by omega, (a4.st (by omega) (by omega)).st (by omega) (by omega), fun b hb hb2 => ?_, fun s hs => ?_, fun s hs => ?_⟩)
      · rw [ms_a hb2, ms_a hb]
        exact a5 b hb hb2
      · rw [ms_a (by omega)]
        by_cases e : s = u
        · subst e
          rw [ms_v, if_pos ⟨c3, by omega⟩]
        · rw [ms_i e, a6 s hs, if_lt_succ (Or.inl e)]
      · by_cases e : s = u
        · subst e
          rw [ms_v, if_pos ⟨c3, by omega⟩]
          exact hv
        · rw [ms_i e, ms_a (by omega), a7 s hs, if_lt_succ (Or.inl e)]
    refine wp_ite (fun c4 => ?_) (fun c4 => ?_)
    · refine wp_mlet (step 0 ?_)
      rw [hD u]
      cases q : tb (M r 0) u
      · rw [q] at c4
        exact absurd c4 (by decide)
      · rfl
    · rw [ms_a (by omega : r2 + 1 ≠ r + 3), hld]
      refine wp_gd ⟨by omega, by omega⟩ (wp_mlet (step _ ?_))
      rw [hD u]
      cases q : tb (M r 0) u
      · rfl
      · rw [q] at c4
        exact absurd rfl c4
  -- the gives, by their price
  unfold f233_80
  have b6 : ∀ s : Nat, s < nN N → M1 (r + 3) s = if isl N S s = i then mostI N S i - L else M (r + 3) s := fun s hs => by
    rw [a6 s hs]
    by_cases e : isl N S s = i
    · rw [if_pos e, if_pos ⟨e, by omega⟩]
    · rw [if_neg e, if_neg (fun q => e q.1)]
  have b7 : ∀ s : Nat, s < nN N → M1 (r + 6) s = if isl N S s = i then (if D s = 1 then 0 else - S 3 s) else M (r + 6) s := fun s hs => by
    rw [a7 s hs]
    by_cases e : isl N S s = i
    · rw [if_pos e, if_pos ⟨e, by omega⟩]
    · rw [if_neg e, if_neg (fun q => e q.1)]
  have hL0 : 0 ≤ L := by omega
  let I2 : Nat → Int → Int → Mm → Prop := fun m rest y M2 => 0 ≤ y ∧ y ≤ nK N ∧ (m : Int) = nK N - y ∧ frS r M M2 ∧ (∀ b, b ≠ r + 4 → b ≠ r + 6 → M2 b = M1 b) ∧
    rest = rsF N (wkL N S i y.toNat) L ∧ sm (gvF N (wkL N S i y.toNat) L) (nK N) = L - rest ∧ (∀ x : Nat, x < nK N → 0 ≤ gvF N (wkL N S i y.toNat) L x) ∧
    (∀ p x : Nat, p < nK N → x = oP N p → M2 (r + 4) x = if isl N S (aK N x) = i ∧ (p : Int) < y then gvF N (wkL N S i y.toNat) L x else M (r + 4) x) ∧
    (∀ s : Nat, s < nN N → M2 (r + 6) s = if isl N S s = i then (if D s = 1 then 0 else - S 3 s) + sm (fun x => if aK N x = s then gvF N (wkL N S i y.toNat) L x else 0) (nK N) else M (r + 6) s)
  have z0 : ∀ n : Nat, sm (fun _ => (0 : Int)) n = 0 := fun n => sm_zero (fun _ _ => rfl)
  refine wp_lp3 I2 (nK N) (by omega) ⟨by omega, by omega, by omega, a4, fun _ _ _ => rfl, rfl, ?_, fun x _ => Int.le_refl 0, fun p x hp _ => ?_, fun s hs => ?_⟩ ?_
  · show sm (fun _ => (0 : Int)) _ = _
    rw [z0]
    omega
  · rw [if_neg (by omega)]
    exact congrFun (a5 (r + 4) (by omega) (by omega)) x
  · rw [b7 s hs]
    split
    · rw [sm_zero (fun x _ => by show (if _ then (0 : Int) else 0) = 0; split <;> rfl)]
      omega
    · rfl
  clear a1 a2 a3 a6 a7 c
  rintro m rest y M2 ⟨d1, d2, d3, d4, d5, d6, d7, d8, d9, d10⟩
  dsimp only
  unfold lb233_80
  have e3' : M2 3 = N 3 := (d5 3 (by omega) (by omega)).trans e3
  have el' : M2 (r + 2) = M (r + 2) := (d5 _ (by omega) (by omega)).trans el
  have hs2 := d4.sc hq hs
  have n2 := d4.nc hq hM
  have e20 : M2 20 = N 20 := n2.r (by decide) (by decide)
  have e21 : M2 21 = N 21 := n2.r (by decide) (by decide)
  have e23 : M2 23 = N 23 := n2.r (by decide) (by decide)
  rw [e3', hN.k]
  refine wp_ite (fun c => ?_) (fun c => wp_o (wp_some ?_))
  · obtain ⟨u, rfl⟩ := Int.eq_ofNat_of_zero_le d1
    rw [Int.toNat_natCast] at d6 d7 d8
    have d9' : ∀ p x : Nat, p < nK N → x = oP N p → M2 (r + 4) x = if isl N S (aK N x) = i ∧ (p : Int) < u then gvF N (wkL N S i u) L x else M (r + 4) x := d9
    have d10' : ∀ s : Nat, s < nN N → M2 (r + 6) s = if isl N S s = i then (if D s = 1 then 0 else - S 3 s) + sm (fun x => if aK N x = s then gvF N (wkL N S i u) L x else 0) (nK N) else M (r + 6) s := d10
    clear d9 d10
    have hu : u < nK N := by omega
    have ho := hN.cp.1 u hu
    have hk := hN.ck (oP N u) ho.2
    rw [Int.toNat_natCast, e23, e20, e21, ho.1, Int.toNat_natCast, hk.1.1, Int.toNat_natCast, el', hl _ hk.1.2]
    refine wp_gd (by omega) (wp_gd (by omega) (wp_gd (by omega) ?_))
    have hrs := rsF_nn' (l := wkL N S i u) (L := L) (wkL_pos hN (by omega)) hL0
    have hnew : oP N u ∉ wkL N S i u := wkL_new hN hu
    have hstep : wkL N S i (u + 1) = if S 5 (oP N u) = 1 ∧ isl N S (aK N (oP N u)) = i then wkL N S i u ++ [oP N u] else wkL N S i u := rfl
    refine wp_ite (fun c2 => ?_) (fun c2 => ?_)
    · have c3 : isl N S (aK N (oP N u)) = i := by omega
      have hbase : ∀ s : Nat, s < nN N → isl N S s = i → -2000 ≤ M2 (r + 6) s ∧ M2 (r + 6) s ≤ 16000 := fun s hsn he => by
        rw [d10' s hsn, if_pos he]
        have := sm_sub0 (f := gvF N (wkL N S i u) L) (P := fun x => aK N x = s) (n := nK N) d8
        have hlv := hS.2.1 s (by omega)
        have : -2000 ≤ (if D s = 1 then (0 : Int) else - S 3 s) ∧ (if D s = 1 then (0 : Int) else - S 3 s) ≤ 0 := by split <;> omega
        omega
      have hb := hbase _ hk.1.2 c3
      refine wp_bind (w245 hs2.2.2.2.1.1 (by have := hs2.2.2.2.1.2.1; omega) (by omega) (by omega) ?_)
      rw [Int.toNat_natCast]
      have hrun := hs2.2.2.2.1.2.2 (oP N u)
      cases q : tb (M2 r2 2) (oP N u)
      · rw [q] at hrun
        have hst : wkL N S i (u + 1) = wkL N S i u := by rw [hstep, if_neg (fun z => by rw [hrun] at z; exact absurd z.1 (by decide))]
        refine wp_pos rfl (wp_mlet ?_)
        rw [ms_a (by omega : (20 : Nat) ≠ r + 4), e20, hk.1.1, Int.toNat_natCast, ms_v, ms_a (by omega : r + 6 ≠ r + 4)]
        refine wp_gd (by omega) (wp_gd ⟨by omega, by omega⟩ (wp_mlet ?_))
        rw [ms_a (by omega : r + 4 ≠ r + 6), ms_v]
        refine wp_gd ⟨by omega, by omega⟩ ?_
        unfold f233_180
        refine wp_gd (by omega) (wp_i3 (m - 1) (by omega) ⟨by omega, by omega, by omega, (d4.st (by omega) (by omega)).st (by omega) (by omega), fun b hb hb2 => ?_, ?_, ?_, ?_, fun p x hp hx => ?_, fun s hsn => ?_⟩)
        · rw [ms_a hb2, ms_a hb]
          exact d5 b hb hb2
        · rw [show ((u : Int) + 1).toNat = u + 1 by omega, hst]
          omega
        · rw [show ((u : Int) + 1).toNat = u + 1 by omega, hst, d7]
          omega
        · rw [show ((u : Int) + 1).toNat = u + 1 by omega, hst]
          exact d8
        · rw [show ((u : Int) + 1).toNat = u + 1 by omega, hst, ms_a (by omega)]
          by_cases e : x = oP N u
          · have ep : p = u := oP_inj hN hp hu (hx ▸ e)
            rw [e, ms_v, if_pos ⟨c3, by omega⟩, gvF_no hnew]
          · rw [ms_i e, d9' p x hp hx]
            have : p ≠ u := fun e2 => e (e2 ▸ hx)
            by_cases e2 : isl N S (aK N x) = i ∧ (p : Int) < u
            · rw [if_pos e2, if_pos ⟨e2.1, by omega⟩]
            · rw [if_neg e2, if_neg (fun z => e2 ⟨z.1, by omega⟩)]
        · rw [show ((u : Int) + 1).toNat = u + 1 by omega, hst]
          by_cases e : s = aK N (oP N u)
          · rw [e, ms_v, Int.add_zero]
            exact d10' _ hk.1.2
          · rw [ms_i e, ms_a (by omega)]
            exact d10' s hsn
      · rw [q] at hrun
        have hst : wkL N S i (u + 1) = wkL N S i u ++ [oP N u] := by rw [hstep, if_pos ⟨hrun, c3⟩]
        refine wp_neg (by decide) (wp_bind (w6 (wp_mlet ?_)))
        rw [ms_a (by omega : (20 : Nat) ≠ r + 4), e20, hk.1.1, Int.toNat_natCast, ms_v, ms_a (by omega : r + 6 ≠ r + 4)]
        have hmin : min (N 21 (oP N u)) rest = min (N 21 (oP N u)) (rsF N (wkL N S i u) L) := by rw [d6]
        refine wp_gd (by omega) (wp_gd ⟨by omega, by omega⟩ (wp_mlet ?_))
        rw [ms_a (by omega : r + 4 ≠ r + 6), ms_v]
        refine wp_gd ⟨by omega, by omega⟩ ?_
        unfold f233_180
        have hgv : ∀ x, gvF N (wkL N S i u ++ [oP N u]) L x = gvF N (wkL N S i u) L x + if x = oP N u then min (N 21 (oP N u)) rest else 0 := fun x => by
          rw [gvF_snoc hnew, hmin]
          by_cases e : x = oP N u
          · rw [if_pos e, if_pos e, e, gvF_no hnew]
            omega
          · rw [if_neg e, if_neg e]
            omega
        refine wp_gd (by omega) (wp_i3 (m - 1) (by omega) ⟨by omega, by omega, by omega, (d4.st (by omega) (by omega)).st (by omega) (by omega), fun b hb hb2 => ?_, ?_, ?_, ?_, fun p x hp hx => ?_, fun s hsn => ?_⟩)
        · rw [ms_a hb2, ms_a hb]
          exact d5 b hb hb2
        · rw [show ((u : Int) + 1).toNat = u + 1 by omega, hst, rsF_snoc]
          omega
        · rw [show ((u : Int) + 1).toNat = u + 1 by omega, hst, sm_upd ho.2 (fun x _ => hgv x), d7]
          omega
        · rw [show ((u : Int) + 1).toNat = u + 1 by omega, hst]
          intro x hx
          rw [hgv]
          have := d8 x hx
          split <;> omega
        · rw [show ((u : Int) + 1).toNat = u + 1 by omega, hst, ms_a (by omega)]
          by_cases e : x = oP N u
          · have ep : p = u := oP_inj hN hp hu (hx ▸ e)
            rw [e, ms_v, if_pos ⟨c3, by omega⟩, hgv, if_pos rfl, gvF_no hnew]
            omega
          · rw [ms_i e, d9' p x hp hx, hgv, if_neg e]
            have : p ≠ u := fun e2 => e (e2 ▸ hx)
            by_cases e2 : isl N S (aK N x) = i ∧ (p : Int) < u
            · rw [if_pos e2, if_pos ⟨e2.1, by omega⟩]
              omega
            · rw [if_neg e2, if_neg (fun z => e2 ⟨z.1, by omega⟩)]
        · rw [show ((u : Int) + 1).toNat = u + 1 by omega, hst]
          by_cases e : s = aK N (oP N u)
          · rw [e, ms_v, d10' _ hk.1.2, if_pos c3, if_pos c3, Int.add_assoc]
            congr 1
            symm
            refine sm_upd ho.2 (fun x _ => ?_)
            rw [hgv]
            by_cases e2 : x = oP N u
            · rw [if_pos e2, if_pos (by rw [e2]), if_pos (by rw [e2])]
            · rw [if_neg e2]
              split <;> omega
          · rw [ms_i e, ms_a (by omega), d10' s hsn]
            split
            · congr 1
              refine sm_congr (fun x _ => ?_)
              rw [hgv]
              by_cases e2 : x = oP N u
              · rw [if_neg (by rw [e2]; exact fun z => e z.symm), if_neg (by rw [e2]; exact fun z => e z.symm)]
              · rw [if_neg e2, Int.add_zero]
            · rfl
    · have c3 : ¬ isl N S (aK N (oP N u)) = i := by omega
      have hst : wkL N S i (u + 1) = wkL N S i u := by rw [hstep, if_neg (fun z => c3 z.2)]
      unfold f233_180
      refine wp_gd (by omega) (wp_i3 (m - 1) (by omega) ⟨by omega, by omega, by omega, d4, d5, ?_, ?_, ?_, fun p x hp hx => ?_, fun s hsn => ?_⟩)
      · rw [show ((u : Int) + 1).toNat = u + 1 by omega, hst]
        exact d6
      · rw [show ((u : Int) + 1).toNat = u + 1 by omega, hst]
        exact d7
      · rw [show ((u : Int) + 1).toNat = u + 1 by omega, hst]
        exact d8
      · rw [show ((u : Int) + 1).toNat = u + 1 by omega, hst, d9' p x hp hx]
        by_cases e2 : isl N S (aK N x) = i ∧ (p : Int) < u
        · rw [if_pos e2, if_pos ⟨e2.1, by omega⟩]
        · rw [if_neg e2, if_neg (fun z => by
            have : p ≠ u := fun e3 => c3 (by rw [← e3, ← hx]; exact z.1)
            exact e2 ⟨z.1, by omega⟩)]
      · rw [show ((u : Int) + 1).toNat = u + 1 by omega, hst]
        exact d10' s hsn
  · have ey : y.toNat = nK N := by omega
    rw [ey] at d9 d10
    refine k M2 d4 (fun b h3 h4 h6 => (d5 b h4 h6).trans (a5 b h3 h6)) (fun s hsn => ?_) (fun x hx => ?_) d10
    · rw [d5 (r + 3) (by omega) (by omega)]
      exact b6 s hsn
    · obtain ⟨p, hp, he⟩ := hN.cp.2.2 x hx
      rw [d9 p x hp he.symm]
      by_cases e2 : isl N S (aK N x) = i
      · rw [if_pos e2, if_pos ⟨e2, by omega⟩]
      · rw [if_neg e2, if_neg (fun z => e2 z.1)]
end BAL
