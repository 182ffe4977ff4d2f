/-! Playing on. -/
theorem ite1 {p q : Prop} [Decidable p] [Decidable q] (h : p ↔ q) : (if p then (1 : Int) else 0) = if q then 1 else 0 := by
  by_cases e : p
  · rw [if_pos e, if_pos (h.mp e)]
  · rw [if_neg e, if_neg (fun z => e (h.mpr z))]
noncomputable def stAt (S : Mm) (Ps : Nat → Mm) (m : Nat) : Mm := if m = nwS S then S else Ps m
def stAd (n m : Nat) : Nat := if m = n then 24 else 200 + 5 * m
def stZ (n m : Nat) : Nat := if m = n then 36000 else 72 * m
noncomputable def plN (N S : Mm) (K : Bool → (Nat → Int) → Bool) (c : Int) : Nat → Mm
  | 0 => S
  | j + 1 => nx N (plN N S K c j) K c
noncomputable def orN (S : Mm) (x : Int) : Mm := fun a j => if a = 4 then (if tb x j then 1 else S 4 j) else S a j
noncomputable def hldN (N S : Mm) (K : Bool → (Nat → Int) → Bool) (c x k : Int) : Int := @ite Int (∀ j : Nat, (j : Int) < k → cm N (plN N (orN S x) K c j) K c = 0) (Classical.propDecidable _) 1 0
theorem pl_V {N S : Mm} {K : Bool → (Nat → Int) → Bool} {c : Int} (hN : NC N) (hS : sV N S) : ∀ j : Nat, S 6 1 + j ≤ 600 → sV N (plN N S K c j) ∧ (plN N S K c j) 6 1 = S 6 1 + j
  | 0, _ => ⟨hS, (Int.add_zero _).symm⟩
  | j + 1, h => by
    have ih := pl_V (K := K) (c := c) hN hS j (by omega)
    refine ⟨nx_V hN ih.1 (by omega), ?_⟩
    show (plN N S K c j) 6 1 + 1 = _
    omega
theorem orS_V {N S : Mm} {x : Int} (hS : sV N S) (hx : 0 ≤ x) (hx2 : x < (2 ^ nN N : Nat)) : sV N (orN S x) := by
  obtain ⟨h1, h2, h3, h4, h5⟩ := hS
  refine ⟨h1, h2, fun i => ?_, fun i hi => ?_, h5⟩
  · show (if tb x i then (1 : Int) else S 4 i) = 0 ∨ (if tb x i then (1 : Int) else S 4 i) = 1
    split
    · exact Or.inr rfl
    · exact h3 i
  · show (if tb x i then (1 : Int) else S 4 i) = 0
    rw [tb_ge hx hx2 hi]
    exact h4 i hi
theorem frP.fp {t : Nat} {M M2 : Mm} (ht : t = 4 ∨ t = 135) (h : frP t M M2) : fpP M M2 := fpP.of (fun b hb => h b (by unfold perB at hb; omega) (by unfold perB at hb; omega))
theorem frP.trans {t : Nat} {M M2 M3 : Mm} (h : frP t M M2) (g : frP t M2 M3) : frP t M M3 := fun b q1 q2 => (g b q1 q2).trans (h b q1 q2)
section HOLD
variable {N S S1 M M0 M2 : Mm} {Ps : Nat → Mm} {l : List (Bool × Sem)} {t d m : Nat} {x c : Int}
theorem stat_V (h : IV N S Ps l M) (hm : m ≤ nwS S) : sV N (stAt S Ps m) ∧ (stAt S Ps m) 6 1 = m ∧ sC N (stAt S Ps m) M (stAd (nwS S) m) ∧ sM (stAt S Ps m) M (stZ (nwS S) m) := by
  unfold stAt stAd stZ
  by_cases e : m = nwS S
  · rw [if_pos e, if_pos e, if_pos e]
    have := h.1.2.1.2.2.2.2.2.2.2.1
    exact ⟨h.1.2.1, by rw [e]; unfold nwS; omega, h.1.2.2.2.2.1, h.1.2.2.2.2.2.1⟩
  · rw [if_neg e, if_neg e, if_neg e]
    obtain ⟨a1, a2, a3, a4, a5, a6⟩ := h.2.1.2 m (by omega)
    exact ⟨a1, a2, a4, a5⟩
theorem IV.now (h : IV N S Ps l M) : M 24 0 = nwS S ∧ M 142 2 = nwS S ∧ M 0 0 = nwS S := by
  have e24 : M 24 0 = S 6 1 := h.1.2.2.2.2.1.2.2.2.2.2
  have e42 : M 142 2 = S 6 1 := h.1.2.2.2.2.2.2.2.1.1
  have p6 : 0 ≤ S 6 1 := h.1.2.1.2.2.2.2.2.2.2.1
  have e0 := h.2.1.1
  unfold nwS at e0 ⊢
  omega
theorem IV.cst (h : IV N S Ps l M) : M 144 36069 = M 3 3 ∧ 0 ≤ M 3 3 ∧ M 3 3 ≤ 1000 := ⟨h.1.2.2.2.2.2.2.2.2.1.symm, h.1.2.2.2.2.2.2.2.2.2⟩
theorem w73 {P : Int → Prop} (h : IV N S Ps l M) (k0 : ¬ (0 ≤ x ∧ x ≤ nwS S) → P 0) (k1 : ∀ m : Nat, x = m → m ≤ nwS S → P (stAd (nwS S) m : Nat)) : Wp (f73 x M) P := by
  have hn := h.nw
  obtain ⟨n1, n2, n3⟩ := h.now
  unfold f73 f52
  rw [n1]
  refine wp_ite (fun e => wp_some ?_) (fun e => wp_bind (wp_ite (fun e2 => wp_some (wp_pos rfl (wp_some (k0 (by omega))))) (fun e2 => wp_ite (fun e3 => wp_ite (fun e4 => wp_some (wp_neg (by decide) ?_)) (fun e4 => absurd (show x < 499 by omega) e4)) (fun e3 => wp_some (wp_pos rfl (wp_some (k0 (by omega))))))))
  · have := k1 (nwS S) e (Nat.le_refl _)
    unfold stAd at this
    rw [if_pos rfl] at this
    exact this
  · obtain ⟨m, rfl⟩ := Int.eq_ofNat_of_zero_le (show 0 ≤ x by omega)
    have a3 := (h.2.1.2 m (by omega)).2.2.1
    have kk := k1 m rfl (by omega)
    unfold stAd at kk
    rw [if_neg (by omega)] at kk
    rw [Int.toNat_natCast, a3, Int.toNat_natCast]
    exact wp_gd (by omega) (wp_gd (by omega) (wp_some kk))
theorem stR_ok (h : IV N S Ps l M) (hm : m ≤ nwS S) : isSt (M 0 0).toNat (stAd (nwS S) m) ∧ 0 < stAd (nwS S) m ∧ stAd (nwS S) m ≠ 50 ∧ (stAd (nwS S) m + 4 < 74 ∨ 74 + 4 < stAd (nwS S) m) := by
  have n3 := h.now.2.2
  rw [n3, Int.toNat_natCast]
  unfold stAd isSt
  by_cases e : m = nwS S
  · rw [if_pos e]
    omega
  · rw [if_neg e]
    omega
theorem w219 {r : Nat} {P : Mm → Prop} (hr : r + 4 < 74 ∨ 74 + 4 < r) (hs : sC N S1 M r) (k : ∀ M2 : Mm, (∀ b, (b < 73 ∨ 78 < b) → M2 b = M b) → sC N S1 M2 74 → M2 73 6 = 1 → P M2) : Wp (f219 r M) P := by
  unfold f219
  refine wp_bind (w241 (r0 := 74) (r1 := r) (by omega) hs (fun M2 a1 a2 => wp_mlet (wp_some (k _ (fun b hb => ?_) (a2.to (fun b q1 q2 => ms_a (by omega))) ms_v))))
  rw [ms_a (by omega)]
  exact a1 b (by omega)
/-- a minute on, the first object -/
theorem IV.stp {P : Mm → Prop} (h : IV N S Ps l M0) (ht : iTxt l t d M0) (hS : sV N S1) (f : frP t M0 M) (p : plC N S1 M)
    (k : ∀ M2 : Mm, frP t M0 M2 → plC N (nx N S1 (kOf l) (M0 3 3)) M2 → M2 73 2 = cm N S1 (kOf l) (M0 3 3) → sgR N S1 M2 79 → (∀ w : Nat, (tb (M2 73 3) w = true ↔ (w < nW N ∧ dnF N S1 (M0 3 3) w = true))) → (∀ w : Nat, (tb (M2 73 4) w = true ↔ (w < nW N ∧ trF N S1 (kOf l) (M0 3 3) w = true))) →
      (∀ w : Nat, (tb (M2 73 5) w = true ↔ (w < nK N ∧ stF N S1 (kOf l) w = true))) → (∀ j, 3 ≤ j → j ≤ 5 → 0 ≤ M2 73 j ∧ M2 73 j < 16384) → P M2) : Wp (f225 M) P := by
  obtain ⟨g1, g2, g3, g4, g5, g6, g7, g8⟩ := ht
  have hx : isTx t := by rcases g1 with e | e <;> (unfold isTx; omega)
  refine w225 (K := kOf l) (T := M0) (tx := t) h.1.1 hS (h.1.2.2.1.to (f 3 (by omega) (by omega)) (fun b q1 q2 => f b (by omega) (by omega))) (txV_g g4) (txV_C hx g4) ⟨by rw [f 3 (by omega) (by omega)]; exact g2, hx, fun b q1 q2 => f b (by omega) (by omega)⟩ p (by rw [f 3 (by omega) (by omega)]) h.cst.2 (fun M2 b1 b2 b3 b4 b5 b6 b7 b8 => k M2 (f.trans b1) b2 b3 b4 b5 b6 b7 b8)
/-- a minute on, the second object -/
theorem IV.stm {P : Mm → Prop} (h : IV N S Ps l M0) (hS : sV N S1) (f : fpP M0 M) (p : sM S1 M 36288) (hc : M 144 36357 = M0 3 3)
    (k : ∀ M2 : Mm, fpP M0 M2 → (∀ b, b ≠ 142 → b ≠ 144 → (b < 158 ∨ (166 < b ∧ b < 178) ∨ 181 < b) → M2 b = M b) → M2 144 36357 = M0 3 3 → sM (nx N S1 (kOf l) (M0 3 3)) M2 36288 → evM M2 (evL N S1 (kOf l) (M0 3 3)) → (∀ w : Nat, w < nW N → M2 161 w = (if S1 0 w = 0 then fl N S1 w else 0) ∧ M2 162 w = if S1 0 w = 0 then fD N S1 w else 1) → P M2) : Wp (f175 36288 M) P := by
  obtain ⟨t, d, g1, g2, g3, g4, g5, g6, g7, g8⟩ := h.2.2.1
  have fb : ∀ b, perB b → M b = M0 b := f.1
  unfold perB at fb
  refine w175 (z := 36288) (K := kOf l) (T := M0) h.1.1 hS (h.1.2.2.2.1.to (f.2.1 3 (by omega)) (f.2.1 4 (by omega)) (f.2.1 5 (by omega)) (fun b q1 q2 => fb b (by omega))) (txW_M g7) ⟨f.2.1 6 (by omega), fun b q1 q2 => fb b (by omega)⟩ (by decide) p hc h.cst.2 (fun M2 b1 b2 b3 b4 => k M2 (f.trans ⟨fun b hb => ?_, fun j hj => b1.2.1 j (by omega) (by omega) (by omega) (by omega) (by omega), fun a ha => b1.2.2 a (by omega)⟩) (fun b q1 q2 q3 => b1.1 b q1 q2 q3) (by rw [b1.2.2 _ (by omega)]; exact hc) b2 b3 b4)
  unfold perB at hb
  exact b1.1 b (by omega) (by omega) (by omega)
theorem orS_C {r : Nat} (hN : NC N) (h : sC N S1 M r) (hx : 0 ≤ x) (hx2 : x < (2 ^ nN N : Nat)) (h1 : M2 r 1 = bOr (M r 1) x) (h2 : ∀ j, j ≠ 1 → M2 r j = M r j) (hb : ∀ b, r < b → b ≤ r + 4 → M2 b = M b) : sC N (orN S1 x) M2 r := by
  have hp := pw2_n hN
  have hn8 := hN.n8
  obtain ⟨g1, g2, ⟨a1, a2, a3⟩, g4, g5⟩ := h
  refine ⟨fun w hw => ?_, fun i hi => ?_, ?_, ?_, ?_⟩
  · rw [hb _ (by omega) (by omega), hb _ (by omega) (by omega), hb _ (by omega) (by omega)]
    exact g1 w hw
  · rw [hb _ (by omega) (by omega)]
    exact g2 i hi
  · rw [h1]
    have := bO_lt (n := nN N) (by omega) a1 a2 hx hx2
    refine ⟨this.1, this.2, fun i => ?_⟩
    rw [tb_or a1 (by omega) hx (by omega)]
    show (if tb x i then (1 : Int) else S1 4 i) = _
    rw [a3 i]
    cases tb x i <;> cases tb (M r 1) i <;> rfl
  · rw [h2 2 (by decide)]
    exact g4
  · rw [h2 3 (by decide), h2 0 (by decide)]
    exact g5
theorem w54 {k : Int} (h : IV N S Ps l M) (hm : m ≤ nwS S) (hx : 0 ≤ x) (hx2 : x < (2 ^ nN N : Nat)) (hk : 1 ≤ k ∧ k ≤ 30) : Wp (f54 (stAd (nwS S) m) x k M) (fun r => r.1 = hldN N (stAt S Ps m) (kOf l) (M 3 3) x k ∧ IV N S Ps l r.2 ∧ r.2 3 = M 3) := by
  have hnw := h.nw
  obtain ⟨t, d, ht⟩ := h.2.2.1
  have ht4 : t = 4 ∨ t = 135 := by have := ht.1; omega
  obtain ⟨s1, s2, s3, s4⟩ := stat_V h hm
  obtain ⟨r1, r2, r3, r4⟩ := stR_ok h hm
  unfold f54
  refine wp_bind (w219 r4 s3 (fun M1 a1 a2 a3 => wp_mlet ?_))
  have hoV := orS_V (x := x) s1 hx hx2
  have p0 : plC N (orN (stAt S Ps m) x) (ms M1 74 1 (bOr (M1 74 1) x)) := ⟨orS_C h.1.1 a2 hx hx2 ms_v (fun j hj => ms_i hj) (fun b q1 q2 => ms_a (by omega)), fun q => by
    rw [ms_a (by decide), a3] at q
    exact absurd q (by decide)⟩
  have f0 : frP t M (ms M1 74 1 (bOr (M1 74 1) x)) := fun b q1 q2 => by rw [ms_a (by omega)]; exact a1 b (by omega)
  generalize ms M1 74 1 (bOr (M1 74 1) x) = M2 at p0 f0 ⊢
  unfold f54_27
  have h61 : (orN (stAt S Ps m) x) 6 1 = m := s2
  refine wp_lp2 (fun n y M3 => 0 ≤ y ∧ y ≤ k ∧ (n : Int) = k - y ∧ frP t M M3 ∧ plC N (plN N (orN (stAt S Ps m) x) (kOf l) (M 3 3) y.toNat) M3 ∧ ∀ j : Nat, (j : Int) < y → cm N (plN N (orN (stAt S Ps m) x) (kOf l) (M 3 3) j) (kOf l) (M 3 3) = 0) k.toNat (by omega) ⟨by omega, by omega, by omega, f0, p0, fun j hj => by omega⟩ ?_
  rintro n y M3 ⟨c1, c2, c3, c4, c5, c6⟩
  dsimp only
  unfold lb54_27
  have e3 : M3 3 = M 3 := c4 3 (by omega) (by omega)
  refine wp_ite (fun e => ?_) (fun e => wp_o (wp_some ⟨?_, h.fp (c4.fp ht4), e3⟩))
  · obtain ⟨u, rfl⟩ := Int.eq_ofNat_of_zero_le c1
    rw [Int.toNat_natCast] at c5
    obtain ⟨v1, v2⟩ := pl_V (K := kOf l) (c := M 3 3) h.1.1 hoV u (by omega)
    refine wp_bind (h.stp ht v1 c4 c5 (fun M4 b1 b2 b3 _ _ _ _ _ => ?_))
    rw [b3]
    refine wp_ite (fun e2 => wp_o (wp_some ⟨?_, h.fp (b1.fp ht4), b1 3 (by omega) (by omega)⟩)) (fun e2 => wp_gd (by omega) (wp_i2 (n - 1) (by omega) ⟨by omega, by omega, by omega, b1, ?_, fun j hj => ?_⟩))
    · unfold hldN
      rw [if_neg]
      intro z
      have := z u e
      omega
    · rw [show ((u : Int) + 1).toNat = u + 1 by omega]
      exact b2
    · by_cases e4 : j = u
      · rw [e4]
        have : 0 ≤ cm N (plN N (orN (stAt S Ps m) x) (kOf l) (M 3 3) u) (kOf l) (M 3 3) := by rw [← evL_len]; omega
        omega
      · exact c6 j (by omega)
  · unfold hldN
    rw [if_pos]
    intro j hj
    exact c6 j (by omega)
theorem w153 {P : Mm → Prop} (h : IV N S Ps l M) (hm : m ≤ nwS S) (hx : 0 ≤ x) (hx2 : x < (2 ^ nN N : Nat)) (k : ∀ M2 : Mm, fpP M M2 → (∀ b, b ≠ 144 → M2 b = M b) → M2 144 36357 = M 3 3 → sM (orN (stAt S Ps m) x) M2 36288 → P M2) : Wp (f153 m x M) P := by
  have hnw := h.nw
  have hn8 := h.1.1.n8
  have hp := pw2_n h.1.1
  obtain ⟨s1, s2, s3, s4⟩ := stat_V h hm
  have go : ∀ z : Nat, sM (stAt S Ps m) M z → z + 72 ≤ 36288 → Wp ((f96 (z : Int) 36288 M).bind fun M4 => mlet (ms M4 144 36357 (M4 144 36069)) fun M7 => f153_41 x 0 M7) P := fun z hz hz2 => by
    refine wp_bind (w96 (z := z) (z2 := 36288) (by omega) (by decide) (by omega) (fun M1 a1 a2 a3 => wp_mlet ?_))
    have q1 : ∀ b, b ≠ 144 → ms M1 144 36357 (M1 144 36069) b = M b := fun b hb => (ms_a hb).trans (a1 b hb)
    have q2 : ∀ a, a < 36288 → ms M1 144 36357 (M1 144 36069) 144 a = M 144 a := fun a ha => by rw [ms_i (by omega)]; exact a2 a (by omega)
    have q3 : ms M1 144 36357 (M1 144 36069) 144 36357 = M 3 3 := by rw [ms_v, a2 _ (by omega)]; exact h.cst.1
    have q4 : sM (stAt S Ps m) (ms M1 144 36357 (M1 144 36069)) 36288 := by
      have : sM (stAt S Ps m) M1 36288 := hz.cp (fun j hj => a3 j hj)
      obtain ⟨k1, k2, k3, k4, k5⟩ := this
      refine ⟨fun w hw => ?_, fun i hi => ?_, fun i hi => ?_, ?_, ?_⟩
      · rw [ms_i (by omega), ms_i (by omega), ms_i (by omega)]; exact k1 w hw
      · rw [ms_i (by omega), ms_i (by omega)]; exact k2 i hi
      · rw [ms_i (by omega)]; exact k3 i hi
      · rw [ms_i (by decide)]; exact k4
      · rw [ms_i (by decide)]; exact k5
    generalize ms M1 144 36357 (M1 144 36069) = M2 at q1 q2 q3 q4 ⊢
    clear a1 a2 a3
    unfold f153_41
    refine wp_lp2 (fun n y M3 => 0 ≤ y ∧ y ≤ nN N ∧ (n : Int) = nN N - y ∧ (∀ b, b ≠ 144 → M3 b = M b) ∧ (∀ a, (a < 36339 ∨ 36347 ≤ a) → M3 144 a = M2 144 a) ∧ ∀ i : Nat, i < 8 → M3 144 (36339 + i) = if (i : Int) < y ∧ tb x i then 1 else (stAt S Ps m) 4 i) (nN N) (by omega) ⟨by omega, by omega, by omega, q1, fun _ _ => rfl, fun i hi => by rw [if_neg (by omega)]; exact (q4.2.1 i hi).2⟩ ?_
    rintro n y M3 ⟨c1, c2, c3, c4, c5, c6⟩
    dsimp only
    unfold lb153_41
    rw [c4 142 (by decide), h.m3]
    refine wp_ite (fun e => ?_) (fun e => wp_o (wp_some (k M3 ⟨fun b hb => c4 b hb.2.1, fun j _ => by rw [c4 142 (by decide)], fun a ha => (c5 a (by omega)).trans (q2 a (by omega))⟩ c4 (by rw [c5 _ (by omega)]; exact q3) ?_)))
    · obtain ⟨u, rfl⟩ := Int.eq_ofNat_of_zero_le c1
      have t1 : (36339 + (u : Int)).toNat = 36339 + u := by omega
      refine wp_gd (by omega) (wp_bind (w118 hx (by omega) (by omega) (by omega) ?_))
      rw [Int.toNat_natCast, t1]
      cases hq : tb x u
      · refine wp_pos rfl (wp_gd (by omega) (wp_mlet (wp_gd (by omega) (wp_i2 (n - 1) (by omega) ⟨by omega, by omega, by omega, fun b hb => (ms_a hb).trans (c4 b hb), fun a ha => (ms_i (by omega)).trans (c5 a ha), fun i hi => ?_⟩))))
        by_cases e2 : i = u
        · subst e2
          rw [ms_v, c6 i hi, if_neg (by omega), hq, if_neg (fun z => absurd z.2 (by decide))]
        · rw [ms_i (by omega), c6 i hi]
          by_cases e3 : (i : Int) < u ∧ tb x i
          · rw [if_pos e3, if_pos ⟨by omega, e3.2⟩]
          · rw [if_neg e3, if_neg (fun z => e3 ⟨by omega, z.2⟩)]
      · refine wp_neg (show ¬ (1 : Int) = 0 by decide) (wp_gd (by omega) (wp_mlet (wp_gd (by omega) (wp_i2 (n - 1) (by omega) ⟨by omega, by omega, by omega, fun b hb => (ms_a hb).trans (c4 b hb), fun a ha => (ms_i (by omega)).trans (c5 a ha), fun i hi => ?_⟩))))
        by_cases e2 : i = u
        · subst e2
          rw [ms_v, hq, if_pos ⟨by omega, rfl⟩]
        · rw [ms_i (by omega), c6 i hi]
          by_cases e3 : (i : Int) < u ∧ tb x i
          · rw [if_pos e3, if_pos ⟨by omega, e3.2⟩]
          · rw [if_neg e3, if_neg (fun z => e3 ⟨by omega, z.2⟩)]
    · obtain ⟨k1, k2, k3, k4, k5⟩ := q4
      refine ⟨fun w hw => ?_, fun i hi => ⟨?_, ?_⟩, fun i hi => ?_, ?_, ?_⟩
      · rw [c5 _ (by omega), c5 _ (by omega), c5 _ (by omega)]; exact k1 w hw
      · rw [c5 _ (by omega)]; exact (k2 i hi).1
      · show _ = if tb x i then (1 : Int) else (stAt S Ps m) 4 i
        rw [c6 i hi]
        by_cases e3 : i < nN N
        · by_cases e4 : tb x i = true
          · rw [if_pos ⟨by omega, e4⟩, if_pos e4]
          · rw [if_neg (fun z => e4 z.2), if_neg e4]
        · rw [tb_ge hx hx2 (by omega), if_neg (fun z => absurd z.2 (by decide)), if_neg (by decide)]
      · rw [c5 _ (by omega)]; exact k3 i hi
      · rw [c5 _ (by omega)]; exact k4
      · rw [c5 _ (by omega)]; exact k5
  unfold f153
  rw [h.now.2.1]
  unfold stZ at s4
  by_cases e : m = nwS S
  · rw [if_pos e] at s4
    refine wp_pos (by omega) (go 36000 s4 (by decide))
  · rw [if_neg e] at s4
    refine wp_neg (by omega) (wp_gd (by omega) ?_)
    have := go (72 * m) s4 (by omega)
    rw [show ((72 * m : Nat) : Int) = 72 * (m : Int) by omega] at this
    exact this
theorem w125 {k : Int} (h : IV N S Ps l M) (hm : m ≤ nwS S) (hx : 0 ≤ x) (hx2 : x < (2 ^ nN N : Nat)) (hk : 1 ≤ k ∧ k ≤ 30) : Wp (f125 m x k M) (fun r => r.1 = hldN N (stAt S Ps m) (kOf l) (M 3 3) x k ∧ IV N S Ps l r.2 ∧ r.2 3 = M 3) := by
  have hnw := h.nw
  obtain ⟨s1, s2, s3, s4⟩ := stat_V h hm
  unfold f125
  refine wp_bind (w153 h hm hx hx2 (fun M1 f0 a0 a1 p0 => ?_))
  have hoV := orS_V (x := x) s1 hx hx2
  unfold f125_9
  have h61 : (orN (stAt S Ps m) x) 6 1 = m := s2
  refine wp_lp2 (fun n y M3 => 0 ≤ y ∧ y ≤ k ∧ (n : Int) = k - y ∧ fpP M M3 ∧ M3 144 36357 = M 3 3 ∧ sM (plN N (orN (stAt S Ps m) x) (kOf l) (M 3 3) y.toNat) M3 36288 ∧ ∀ j : Nat, (j : Int) < y → cm N (plN N (orN (stAt S Ps m) x) (kOf l) (M 3 3) j) (kOf l) (M 3 3) = 0) k.toNat (by omega) ⟨by omega, by omega, by omega, f0, a1, p0, fun j hj => by omega⟩ ?_
  rintro n y M3 ⟨c1, c2, c3, c4, cc, c5, c6⟩
  dsimp only
  unfold lb125_9
  refine wp_ite (fun e => ?_) (fun e => wp_o (wp_some ⟨?_, h.fp c4, c4.1 3 (by unfold perB; omega)⟩))
  · obtain ⟨u, rfl⟩ := Int.eq_ofNat_of_zero_le c1
    rw [Int.toNat_natCast] at c5
    obtain ⟨v1, v2⟩ := pl_V (K := kOf l) (c := M 3 3) h.1.1 hoV u (by omega)
    refine wp_bind (h.stm v1 c4 c5 cc (fun M4 b1 _ b2 b3 b4 _ => ?_))
    rw [b4.1, evL_len]
    refine wp_ite (fun e2 => wp_o (wp_some ⟨?_, h.fp b1, b1.1 3 (by unfold perB; omega)⟩)) (fun e2 => wp_gd (by omega) (wp_i2 (n - 1) (by omega) ⟨by omega, by omega, by omega, b1, b2, ?_, fun j hj => ?_⟩))
    · unfold hldN
      rw [if_neg]
      intro z
      have := z u e
      omega
    · rw [show ((u : Int) + 1).toNat = u + 1 by omega]
      exact b3
    · by_cases e4 : j = u
      · rw [e4]
        have : 0 ≤ cm N (plN N (orN (stAt S Ps m) x) (kOf l) (M 3 3) u) (kOf l) (M 3 3) := by rw [← evL_len]; omega
        omega
      · exact c6 j (by omega)
  · unfold hldN
    rw [if_pos]
    intro j hj
    exact c6 j (by omega)
end HOLD

theorem wpW {α : Type} {o : Option α} {P P2 : α → Prop} (h : Wp o P) (k : ∀ r, P r → P2 r) : Wp o P2 := by
  obtain ⟨r, e, hr⟩ := h
  exact ⟨r, e, k r hr⟩
section HOLD2
variable {N S S1 M M0 M2 : Mm} {Ps : Nat → Mm} {l : List (Bool × Sem)} {t d m : Nat} {x c : Int}
theorem hld01 {S : Mm} {K : Bool → (Nat → Int) → Bool} {k : Int} : hldN N S K c x k = 0 ∨ hldN N S K c x k = 1 := by
  unfold hldN
  by_cases e : ∀ j : Nat, (j : Int) < k → cm N (plN N (orN S x) K c j) K c = 0
  · rw [if_pos e]; exact Or.inr rfl
  · rw [if_neg e]; exact Or.inl rfl
theorem w57 {P : Int → Prop} (h : IV N S Ps l M) (hx : R4 x) (k : P (if 0 ≤ x ∧ x < (2 ^ nN N : Nat) then 1 else 0)) : Wp (f57 x M) P := by
  have hn8 := h.1.1.n8
  have hp := Nat.two_pow_pos (nN N)
  unfold f57
  rw [h.e30]
  refine wp_ite (fun e => wp_some ?_) (fun e => ?_)
  · rw [if_neg (by omega)] at k
    exact k
  · rw [bR hx (by omega) (by omega), Int.toNat_natCast]
    obtain ⟨n, rfl⟩ := Int.eq_ofNat_of_zero_le (show 0 ≤ x by omega)
    have e1 : (n : Int) / (2 ^ nN N : Nat) = ((n / 2 ^ nN N : Nat) : Int) := rfl
    rw [e1]
    by_cases e2 : n < 2 ^ nN N
    · rw [if_pos (by omega)] at k
      rw [Nat.div_eq_of_lt e2]
      exact wp_pos rfl (wp_some k)
    · rw [if_neg (by omega)] at k
      have : 0 < n / 2 ^ nN N := Nat.div_pos (by omega) hp
      exact wp_neg (by omega) (wp_some k)
theorem w130 {P : Int → Prop} (h : IV N S Ps l M) (k : P (if 0 ≤ x ∧ x < (2 ^ nN N : Nat) then 1 else 0)) : Wp (f130 x M) P := by
  have hn8 := h.1.1.n8
  have hp := pw2_n h.1.1
  have hp2 := Nat.two_pow_pos (nN N)
  unfold f130
  rw [h.m3, bL (by omega) (by omega), Int.toNat_natCast]
  refine wp_gd (by omega) (wp_bind (w143 ?_))
  by_cases e : 0 ≤ x ∧ x < (2 ^ nN N : Nat)
  · rw [if_pos (by omega)]
    rw [if_pos e] at k
    exact wp_gd (Or.inr rfl) (wp_some k)
  · rw [if_neg (by omega)]
    rw [if_neg e] at k
    exact wp_gd (Or.inl rfl) (wp_some k)
theorem w127 {P : Int → Prop} (k : P (if 1 ≤ x ∧ x ≤ 30 then 1 else 0)) : Wp (f127 x M) P := by
  unfold f127
  refine wp_bind (w143 ?_)
  by_cases e : 1 ≤ x ∧ x ≤ 30
  · rw [if_pos e]
    rw [if_pos e] at k
    exact wp_gd (Or.inr rfl) (wp_some k)
  · rw [if_neg e]
    rw [if_neg e] at k
    exact wp_gd (Or.inl rfl) (wp_some k)
theorem c53 {x1 x2 x3 : Int} (h : IV N S Ps l M) (hx : R4 x2) : Wp (f53 x1 x2 x3 M) (fun r => JJ r.1 (f119 x1 x2 x3 r.2)) := by
  have hnw := h.nw
  have m2 : M 142 2 = nwS S := h.now.2.1
  unfold f53
  refine wp_bind (w57 h hx ?_)
  by_cases h2 : 0 ≤ x2 ∧ x2 < (2 ^ nN N : Nat)
  · rw [if_pos h2]
    refine wp_neg (by decide) (wp_bind (w80 ?_))
    by_cases h3 : 1 ≤ x3 ∧ x3 ≤ 30
    · rw [if_pos h3]
      refine wp_neg (by decide) (wp_bind (w73 h (fun c => wp_pos rfl (wp_some ?_)) (fun m hm1 hm => ?_)))
      · show JJ (-1) (f119 x1 x2 x3 M)
        unfold f119
        refine wp_bind (w143 ?_)
        rw [m2, if_neg c]
        exact wp_pos rfl (wp_some ⟨rfl, h.G⟩)
      · obtain ⟨r1, r2, r3, r4⟩ := stR_ok h hm
        refine wp_neg (by omega) ?_
        rw [Int.toNat_natCast]
        refine wp_gd r1 (wp_obnd (wpW (w54 h hm h2.1 h2.2 h3) (fun r hr => ?_)))
        obtain ⟨v, M1⟩ := r
        obtain ⟨g1, g2, g3⟩ := hr
        dsimp only at g1 g2 g3 ⊢
        have key : JJ v (f119 x1 x2 x3 M1) := by
          unfold f119
          refine wp_bind (w143 ?_)
          rw [g2.now.2.1, if_pos (show 0 ≤ x1 ∧ x1 ≤ (nwS S : Int) by omega)]
          refine wp_neg (by decide) (wp_bind (w130 g2 ?_))
          rw [if_pos h2]
          refine wp_neg (by decide) (wp_bind (w127 ?_))
          rw [if_pos h3, hm1]
          refine wp_neg (by decide) (wp_obnd (wpW (w125 g2 hm h2.1 h2.2 h3) (fun r2 hr2 => ?_)))
          obtain ⟨v2, M3⟩ := r2
          obtain ⟨k1, k2, k3⟩ := hr2
          dsimp only at k1 k2 k3 ⊢
          rw [g3, ← g1] at k1
          rcases hld01 (N := N) (S := stAt S Ps m) (K := kOf l) (c := M 3 3) (x := x2) (k := x3) with e | e
          · exact wp_pos (by omega) (wp_some ⟨by rw [g1, e], k2.G⟩)
          · exact wp_neg (by omega) (wp_some ⟨by rw [g1, e], k2.G⟩)
        rcases hld01 (N := N) (S := stAt S Ps m) (K := kOf l) (c := M 3 3) (x := x2) (k := x3) with e | e
        · refine wp_pos (by omega) (wp_some ?_)
          rw [g1, e] at key
          exact key
        · refine wp_neg (by omega) (wp_some ?_)
          rw [g1, e] at key
          exact key
    · rw [if_neg h3]
      refine wp_pos rfl (wp_some ?_)
      show JJ (-1) (f119 x1 x2 x3 M)
      unfold f119
      refine wp_bind (w143 ?_)
      by_cases h1 : 0 ≤ x1 ∧ x1 ≤ M 142 2
      · rw [if_pos h1]
        refine wp_neg (by decide) (wp_bind (w130 h ?_))
        rw [if_pos h2]
        refine wp_neg (by decide) (wp_bind (w127 ?_))
        rw [if_neg h3]
        exact wp_pos rfl (wp_some ⟨rfl, h.G⟩)
      · rw [if_neg h1]
        exact wp_pos rfl (wp_some ⟨rfl, h.G⟩)
  · rw [if_neg h2]
    refine wp_pos rfl (wp_some ?_)
    show JJ (-1) (f119 x1 x2 x3 M)
    unfold f119
    refine wp_bind (w143 ?_)
    by_cases h1 : 0 ≤ x1 ∧ x1 ≤ M 142 2
    · rw [if_pos h1]
      refine wp_neg (by decide) (wp_bind (w130 h ?_))
      rw [if_neg h2]
      exact wp_pos rfl (wp_some ⟨rfl, h.G⟩)
    · rw [if_neg h1]
      exact wp_pos rfl (wp_some ⟨rfl, h.G⟩)
/-- the last minute at which it holds, from y down -/
def lstN (f : Nat → Int) (y v : Int) : Prop := (v = -1 ∧ ∀ m : Nat, (m : Int) ≤ y → f m = 0) ∨ ∃ m : Nat, v = m ∧ (m : Int) ≤ y ∧ f m ≠ 0 ∧ ∀ j : Nat, m < j → (j : Int) ≤ y → f j = 0
theorem lstN_u {f : Nat → Int} {y v v2 : Int} (h : lstN f y v) (g : lstN f y v2) : v = v2 := by
  rcases h with ⟨h1, h2⟩ | ⟨m, h1, h2, h3, h4⟩
  · rcases g with ⟨g1, g2⟩ | ⟨m2, g1, g2, g3, g4⟩
    · omega
    · exact absurd (h2 m2 g2) g3
  · rcases g with ⟨g1, g2⟩ | ⟨m2, g1, g2, g3, g4⟩
    · exact absurd (g2 m h2) h3
    · rcases Nat.lt_trichotomy m m2 with c | c | c
      · exact absurd (h4 m2 c g2) g3
      · omega
      · exact absurd (g4 m c h2) h3
theorem lstN_up {f : Nat → Int} {u : Nat} {y v : Int} (h : lstN f ((u : Int) + (-1)) v) (hf : f u = 0) (hy : y = u) : lstN f y v := by
  rcases h with ⟨h1, h2⟩ | ⟨m, h1, h2, h3, h4⟩
  · refine Or.inl ⟨h1, fun m hm => ?_⟩
    by_cases e : m = u
    · rw [e]; exact hf
    · exact h2 m (by omega)
  · refine Or.inr ⟨m, h1, by omega, h3, fun j q1 q2 => ?_⟩
    by_cases e : j = u
    · rw [e]; exact hf
    · exact h4 j q1 (by omega)
theorem c59 {x1 x2 : Int} (h : IV N S Ps l M) (hx : R4 x1) : Wp (f59 x1 x2 M) (fun r => JJ r.1 (f139 x1 x2 r.2)) := by
  have hnw := h.nw
  unfold f59
  refine wp_bind (w57 h hx ?_)
  by_cases h2 : 0 ≤ x1 ∧ x1 < (2 ^ nN N : Nat)
  · rw [if_pos h2]
    refine wp_neg (by decide) (wp_bind (w80 ?_))
    by_cases h3 : 1 ≤ x2 ∧ x2 ≤ 30
    · rw [if_pos h3]
      refine wp_neg (by decide) ?_
      let f : Nat → Int := fun m => hldN N (stAt S Ps m) (kOf l) (M 3 3) x1 x2
      have model : ∀ (v : Int) (M1 : Mm), IV N S Ps l M1 → M1 3 = M 3 → lstN f (nwS S) v → JJ v (f139 x1 x2 M1) := fun v M1 g1 g2 g3 => by
        unfold f139
        refine wp_bind (w130 g1 ?_)
        rw [if_pos h2]
        refine wp_neg (by decide) (wp_bind (w127 ?_))
        rw [if_pos h3]
        refine wp_neg (by decide) ?_
        unfold f139_22
        rw [g1.now.2.1]
        refine wp_lp2 (fun n y M2 => -1 ≤ y ∧ y ≤ nwS S ∧ (n : Int) = y + 1 ∧ IV N S Ps l M2 ∧ M2 3 = M 3 ∧ ∀ j : Nat, y < j → (j : Int) ≤ nwS S → f j = 0) (nwS S + 1) (by omega) ⟨by omega, by omega, by omega, g1, g2, fun j q1 q2 => by omega⟩ ?_
        rintro n y M2 ⟨c1, c2, c3, c4, c5, c6⟩
        dsimp only
        unfold lb139_22
        refine wp_ite (fun e => wp_o (wp_some ⟨?_, c4.G⟩)) (fun e => ?_)
        · exact (lstN_u g3 (Or.inl ⟨rfl, fun m hm => c6 m (by omega) hm⟩)).symm
        obtain ⟨u, rfl⟩ := Int.eq_ofNat_of_zero_le (show 0 ≤ y by omega)
        refine wp_obnd (wpW (w125 (m := u) c4 (by omega) h2.1 h2.2 h3) (fun r2 hr2 => ?_))
        obtain ⟨v2, M3⟩ := r2
        obtain ⟨k1, k2, k3⟩ := hr2
        dsimp only at k1 k2 k3 ⊢
        rw [c5] at k1
        refine wp_ite (fun e2 => wp_gd (by omega) (wp_i2 (n - 1) (by omega) ⟨by omega, by omega, by omega, k2, k3.trans c5, fun j q1 q2 => ?_⟩)) (fun e2 => wp_o (wp_some ⟨?_, k2.G⟩))
        · by_cases e4 : j = u
          · rw [e4]
            exact k1.symm.trans e2
          · exact c6 j (by omega) q2
        · refine (lstN_u g3 (Or.inr ⟨u, rfl, by omega, ?_, fun j q1 q2 => c6 j (by omega) q2⟩)).symm
          show hldN N (stAt S Ps u) (kOf l) (M 3 3) x1 x2 ≠ 0
          rw [← k1]
          exact e2
      unfold f59_28
      rw [h.now.1]
      refine wp_lp2 (fun n y M2 => -1 ≤ y ∧ y ≤ nwS S ∧ (n : Int) = y + 1 ∧ IV N S Ps l M2 ∧ M2 3 = M 3 ∧ ∀ j : Nat, y < j → (j : Int) ≤ nwS S → f j = 0) (nwS S + 1) (by omega) ⟨by omega, by omega, by omega, h, rfl, fun j q1 q2 => by omega⟩ ?_
      rintro n y M2 ⟨c1, c2, c3, c4, c5, c6⟩
      dsimp only
      unfold lb59_28
      refine wp_ite (fun e => wp_o (wp_some ?_)) (fun e => ?_)
      · exact model (-1) M2 c4 c5 (Or.inl ⟨rfl, fun m hm => c6 m (by omega) hm⟩)
      obtain ⟨u, rfl⟩ := Int.eq_ofNat_of_zero_le (show 0 ≤ y by omega)
      refine wp_bind (w73 c4 (fun z => absurd (show 0 ≤ (u : Int) ∧ (u : Int) ≤ nwS S by omega) z) (fun m hm1 hm => ?_))
      have em : m = u := by omega
      subst em
      obtain ⟨r1, r2, r3, r4⟩ := stR_ok c4 hm
      refine wp_neg (by omega) ?_
      rw [Int.toNat_natCast]
      refine wp_gd r1 (wp_obnd (wpW (w54 c4 hm h2.1 h2.2 h3) (fun r2 hr2 => ?_)))
      obtain ⟨v2, M3⟩ := r2
      obtain ⟨k1, k2, k3⟩ := hr2
      dsimp only at k1 k2 k3 ⊢
      rw [c5] at k1
      unfold f59_57
      refine wp_ite (fun e2 => wp_gd (by omega) (wp_i2 (n - 1) (by omega) ⟨by omega, by omega, by omega, k2, k3.trans c5, fun j q1 q2 => ?_⟩)) (fun e2 => wp_o (wp_some (model m M3 k2 (k3.trans c5) (Or.inr ⟨m, rfl, by omega, ?_, fun j q1 q2 => c6 j (by omega) q2⟩))))
      · by_cases e4 : j = m
        · rw [e4]
          exact k1.symm.trans e2
        · exact c6 j (by omega) q2
      · show hldN N (stAt S Ps m) (kOf l) (M 3 3) x1 x2 ≠ 0
        rw [← k1]
        exact e2
    · rw [if_neg h3]
      refine wp_pos rfl (wp_some ?_)
      show JJ (-1) (f139 x1 x2 M)
      unfold f139
      refine wp_bind (w130 h ?_)
      rw [if_pos h2]
      refine wp_neg (by decide) (wp_bind (w127 ?_))
      rw [if_neg h3]
      exact wp_pos rfl (wp_some ⟨rfl, h.G⟩)
  · rw [if_neg h2]
    refine wp_pos rfl (wp_some ?_)
    show JJ (-1) (f139 x1 x2 M)
    unfold f139
    refine wp_bind (w130 h ?_)
    rw [if_neg h2]
    exact wp_pos rfl (wp_some ⟨rfl, h.G⟩)
end HOLD2
