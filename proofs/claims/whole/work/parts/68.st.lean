/-! States: copies, sums, sets. -/
theorem cpy_a {M : Mm} {a0 sp a dp n b : Nat} (h : b ≠ a) : cpym M a0 sp a dp n b = M b := funext fun j => if_neg (fun q => h q.1)
theorem cpy_v {M : Mm} {a0 a n j : Nat} (h : j < n) : cpym M a0 0 a 0 n a j = M a0 j := by
  unfold cpym
  rw [if_pos ⟨rfl, by omega, by omega⟩]
  congr 1
  omega
section ST
variable {N S M : Mm}
theorem w241 {r0 r1 : Nat} {P : Mm → Prop} (hr : r0 + 4 < r1 ∨ r1 + 4 < r0) (h : sC N S M r1) (k : ∀ M2 : Mm, (∀ b, (b < r0 ∨ r0 + 4 < b) → M2 b = M b) → sC N S M2 r0 → P M2) : Wp (f241 r0 r1 M) P := by
  unfold f241
  refine wp_mlet (wp_mlet (wp_mlet (wp_mlet (wp_gd (by omega) (wp_mlet (wp_gd (by omega) (wp_mlet (wp_gd (by omega) (wp_mlet (wp_gd (by omega) (wp_mlet (wp_some ?_))))))))))))
  have e1 : ∀ (M : Mm) (i : Nat) (v : Int), ms M r0 i v r1 = M r1 := fun M i v => ms_a (by omega)
  rw [e1, e1, e1]
  obtain ⟨h1, h2, h3, h4, h5, h6⟩ := h
  refine k _ (fun b hb => ?_) ⟨fun w hw => ⟨?_, ?_, ?_⟩, fun i hi => ?_, ?_, ?_, ?_, ?_⟩
  · rw [cpy_a (by omega), cpy_a (by omega), cpy_a (by omega), cpy_a (by omega), ms_a (by omega), ms_a (by omega), ms_a (by omega), ms_a (by omega)]
  · rw [cpy_a (by omega), cpy_a (by omega), cpy_v hw, cpy_a (by omega), ms_a (by omega), ms_a (by omega), ms_a (by omega), ms_a (by omega)]
    exact (h1 w hw).1
  · rw [cpy_a (by omega), cpy_v hw, cpy_a (by omega), cpy_a (by omega), ms_a (by omega), ms_a (by omega), ms_a (by omega), ms_a (by omega)]
    exact (h1 w hw).2.1
  · rw [cpy_v hw, cpy_a (by omega), cpy_a (by omega), cpy_a (by omega), ms_a (by omega), ms_a (by omega), ms_a (by omega), ms_a (by omega)]
    exact (h1 w hw).2.2
  · rw [cpy_a (by omega), cpy_a (by omega), cpy_a (by omega), cpy_v hi, ms_a (by omega), ms_a (by omega), ms_a (by omega), ms_a (by omega)]
    exact h2 i hi
  · have e : ∀ (M : Mm) (i : Nat), cpym (cpym (cpym (cpym M (r1 + 1) 0 (r0 + 1) 0 8) (r1 + 2) 0 (r0 + 2) 0 14) (r1 + 3) 0 (r0 + 3) 0 14) (r1 + 4) 0 (r0 + 4) 0 14 r0 i = M r0 i := fun M i => by
      rw [cpy_a (by omega), cpy_a (by omega), cpy_a (by omega), cpy_a (by omega)]
    rw [e, ms_i (by decide), ms_i (by decide), ms_v]
    exact h3
  · have e : ∀ (M : Mm) (i : Nat), cpym (cpym (cpym (cpym M (r1 + 1) 0 (r0 + 1) 0 8) (r1 + 2) 0 (r0 + 2) 0 14) (r1 + 3) 0 (r0 + 3) 0 14) (r1 + 4) 0 (r0 + 4) 0 14 r0 i = M r0 i := fun M i => by
      rw [cpy_a (by omega), cpy_a (by omega), cpy_a (by omega), cpy_a (by omega)]
    rw [e, ms_i (by decide), ms_v]
    exact h4
  · rw [cpy_a (by omega), cpy_a (by omega), cpy_a (by omega), cpy_a (by omega), ms_v, e1, e1, e1]
    exact h5
  · rw [cpy_a (by omega), cpy_a (by omega), cpy_a (by omega), cpy_a (by omega), ms_i (by decide), ms_i (by decide), ms_i (by decide), ms_v]
    exact h6
theorem w96 {z z2 : Nat} {P : Mm → Prop} (h1 : z + 72 ≤ 36400) (h2 : z2 + 72 ≤ 36400) (h3 : z + 72 ≤ z2 ∨ z2 + 72 ≤ z) (k : ∀ M2 : Mm, (∀ b, b ≠ 144 → M2 b = M b) → (∀ a, (a < z2 ∨ z2 + 72 ≤ a) → M2 144 a = M 144 a) → (∀ j, j < 72 → M2 144 (z2 + j) = M 144 (z + j)) → P M2) : Wp (f96 z z2 M) P := by
  unfold f96 f96_2
  refine wp_lp2 (fun m x M2 => 0 ≤ x ∧ x ≤ 72 ∧ (m : Int) = 72 - x ∧ (∀ b, b ≠ 144 → M2 b = M b) ∧ (∀ a, (a < z2 ∨ z2 + 72 ≤ a) → M2 144 a = M 144 a) ∧ ∀ j : Nat, (j : Int) < x → M2 144 (z2 + j) = M 144 (z + j)) 72 (by omega) ⟨by omega, by omega, by omega, fun _ _ => rfl, fun _ _ => rfl, fun j hj => by omega⟩ ?_
  rintro m x M2 ⟨a1, a2, a3, a4, a5, a6⟩
  dsimp only
  unfold lb96_2
  refine wp_ite (fun c => ?_) (fun c => wp_o (wp_some (k M2 a4 a5 (fun j hj => a6 j (by omega)))))
  obtain ⟨u, rfl⟩ := Int.eq_ofNat_of_zero_le a1
  rw [show ((z2 : Int) + u).toNat = z2 + u by omega, show ((z : Int) + u).toNat = z + u by omega]
  refine wp_gd (by omega) (wp_gd (by omega) (wp_gd (by omega) (wp_gd (by omega) (wp_mlet (wp_gd (by omega) (wp_i2 (m - 1) (by omega) ⟨by omega, by omega, by omega, fun b hb => (ms_a hb).trans (a4 b hb), fun a ha => (ms_i (by omega)).trans (a5 a ha), fun j hj => ?_⟩))))))
  by_cases e : j = u
  · rw [e, ms_v]
    exact a5 _ (by omega)
  · rw [ms_i (by omega)]
    exact a6 j (by omega)
theorem sM.cp {M2 : Mm} {z z2 : Nat} (h : sM S M z) (hc : ∀ j, j < 72 → M2 144 (z2 + j) = M 144 (z + j)) : sM S M2 z2 := by
  refine ⟨fun w hw => ⟨?_, ?_, ?_⟩, fun i hi => ⟨?_, ?_⟩, fun k hk => ?_, ?_, ?_⟩
  · rw [hc w (by omega)]; exact (h.1 w hw).1
  · have := hc (14 + w) (by omega)
    rw [← Nat.add_assoc, ← Nat.add_assoc] at this
    rw [this]; exact (h.1 w hw).2.1
  · have := hc (28 + w) (by omega)
    rw [← Nat.add_assoc, ← Nat.add_assoc] at this
    rw [this]; exact (h.1 w hw).2.2
  · have := hc (59 + i) (by omega)
    rw [← Nat.add_assoc, ← Nat.add_assoc] at this
    rw [this]; exact (h.2.1 i hi).1
  · have := hc (51 + i) (by omega)
    rw [← Nat.add_assoc, ← Nat.add_assoc] at this
    rw [this]; exact (h.2.1 i hi).2
  · have := hc (42 + k) (by omega)
    rw [← Nat.add_assoc, ← Nat.add_assoc] at this
    rw [this]; exact h.2.2.1 k hk
  · rw [hc 67 (by omega)]; exact h.2.2.2.1
  · rw [hc 68 (by omega)]; exact h.2.2.2.2
theorem sM.to {M2 : Mm} {z : Nat} (h : sM S M z) (hc : ∀ a, z ≤ a → a < z + 72 → M2 144 a = M 144 a) : sM S M2 z := h.cp (fun j hj => hc _ (by omega) (by omega))
/-- a way switched off -/
theorem sV.off {w : Nat} (h : sV N S) : sV N (ms S 0 w 1) := by
  obtain ⟨h1, h2, h3, h4, h5, h6, h7⟩ := h
  refine ⟨fun x hx => ?_, fun i hi => h2 i hi, fun i => h3 i, fun i hi => h4 i hi, fun k => h5 k, fun k hk => h6 k hk, h7⟩
  have := h1 x hx
  refine ⟨?_, this.2⟩
  by_cases e : x = w
  · rw [e, ms_v]
    omega
  · rw [ms_i e]
    exact this.1
theorem sM.off {M2 : Mm} {w z : Nat} (h : sM S M z) (hw : w < 14) (hc : ∀ a, z ≤ a → a < z + 72 → a ≠ z + w → M2 144 a = M 144 a) (hv : M2 144 (z + w) = 1) : sM (ms S 0 w 1) M2 z := by
  refine ⟨fun x hx => ⟨?_, ?_, ?_⟩, fun i hi => ⟨?_, ?_⟩, fun k hk => ?_, ?_, ?_⟩
  · by_cases e : x = w
    · rw [e, ms_v]; exact hv
    · rw [ms_i e, hc _ (by omega) (by omega) (by omega)]; exact (h.1 x hx).1
  · rw [hc _ (by omega) (by omega) (by omega)]; exact (h.1 x hx).2.1
  · rw [hc _ (by omega) (by omega) (by omega)]; exact (h.1 x hx).2.2
  · rw [hc _ (by omega) (by omega) (by omega)]; exact (h.2.1 i hi).1
  · rw [hc _ (by omega) (by omega) (by omega)]; exact (h.2.1 i hi).2
  · rw [hc _ (by omega) (by omega) (by omega)]; exact h.2.2.1 k hk
  · rw [hc _ (by omega) (by omega) (by omega)]; exact h.2.2.2.1
  · rw [hc _ (by omega) (by omega) (by omega)]; exact h.2.2.2.2
theorem sC.off {M2 : Mm} {w s : Nat} (h : sC N S M s) (hc : ∀ b, s ≤ b → b ≤ s + 4 → b ≠ s + 2 → M2 b = M b) (hv : ∀ x, x < 14 → M2 (s + 2) x = if x = w then 1 else M (s + 2) x) : sC N (ms S 0 w 1) M2 s := by
  unfold sC
  rw [hc s (by omega) (by omega) (by omega), hc (s + 1) (by omega) (by omega) (by omega), hc (s + 3) (by omega) (by omega) (by omega), hc (s + 4) (by omega) (by omega) (by omega)]
  obtain ⟨h1, h2⟩ := h
  refine ⟨fun x hx => ⟨?_, (h1 x hx).2⟩, h2⟩
  rw [hv x hx]
  by_cases e : x = w
  · rw [if_pos e, e, ms_v]
  · rw [if_neg e, ms_i e]
    exact (h1 x hx).1
theorem w170 {x : Int} {P : Int → Prop} (h : R8 (-x)) (k : P (if x < 0 then -x else x)) : Wp (f170 x M) P := by
  unfold f170
  refine wp_ite (fun c => ?_) (fun c => ?_)
  · rw [if_pos c] at k
    exact wp_gd h (wp_some k)
  · rw [if_neg c] at k
    exact wp_some k
theorem w4' {x : Int} {P : Int → Prop} (h : R8 (-x)) (k : P (if x < 0 then -x else x)) : Wp (f4 x M) P := by
  unfold f4
  refine wp_ite (fun c => ?_) (fun c => ?_)
  · rw [if_pos c] at k
    exact wp_gd h (wp_some k)
  · rw [if_neg c] at k
    exact wp_some k
/-- what the second object tells of a flow -/
theorem w178 {w : Nat} {P : Int → Prop} (hN : NC N) (hS : sV N S) (hw : w < nW N) (h1 : M 161 w = if S 0 w = 0 then fl N S w else 0) (h2 : M 162 w = if S 0 w = 0 then fD N S w else 1) (k : P (told N S w)) : Wp (f178 w M) P := by
  have h14 := hN.w14
  unfold f178
  rw [Int.toNat_natCast, h1, h2]
  unfold told at k
  by_cases e : S 0 w = 0
  · rw [if_pos e] at k
    rw [if_pos e, if_pos e]
    have hb := fl_b hN hS hw e
    refine wp_gd (by omega) (wp_bind (w170 ⟨by omega, by omega⟩ ?_))
    by_cases c : fl N S w < 0
    · rw [if_pos c]
      have h3 := tdiv_b (x := 100 * - fl N S w) (X := 505984819200000) hb.2.1 ⟨by omega, by omega⟩
      have h4 : Int.tdiv (100 * - fl N S w) (fD N S w) = - Int.tdiv (fl N S w * 100) (fD N S w) := by
        rw [← Int.neg_tdiv]
        congr 1
        omega
      refine wp_gd ⟨by omega, by omega⟩ (wp_gd (by omega) (wp_gd ⟨by omega, by omega⟩ (wp_pos c (wp_gd ⟨by omega, by omega⟩ (wp_some ?_)))))
      rw [h4, Int.neg_neg]
      exact k
    · rw [if_neg c]
      have h3 := tdiv_b (x := 100 * fl N S w) (X := 505984819200000) hb.2.1 ⟨by omega, by omega⟩
      refine wp_gd ⟨by omega, by omega⟩ (wp_gd (by omega) (wp_gd ⟨by omega, by omega⟩ (wp_neg c (wp_some ?_))))
      rw [Int.mul_comm]
      exact k
  · rw [if_neg e] at k
    rw [if_neg e, if_neg e]
    refine wp_gd (by omega) (wp_bind (w170 (by decide) ?_))
    exact wp_gd (by decide) (wp_gd (by decide) (wp_gd (by decide) (wp_neg (by decide) (wp_some k))))
/-- the loads of a set -/
theorem w244 {r : Nat} {x : Int} {P : Int → Prop} (hN : NC N) (hS : sV N S) (hl : ∀ i, i < 8 → M (r + 1) i = S 3 i) (hx : 0 ≤ x) (hx2 : x < (2 ^ nN N : Nat)) (k : P (sm (fun s => if tb x s then S 3 s else 0) (nN N))) : Wp (f244 r x M) P := by
  have h8 := hN.n8
  have hp := pw2_n hN
  unfold f244 f244_4
  refine wp_lp2 (fun m a y => 0 ≤ y ∧ y ≤ 8 ∧ (m : Int) = 8 - y ∧ a = sm (fun s => if tb x s then S 3 s else 0) y.toNat) 8 (by omega) ⟨by omega, by omega, by omega, rfl⟩ ?_
  rintro m a y ⟨a1, a2, a3, a4⟩
  dsimp only
  unfold lb244_4
  have hb : ∀ v, v ≤ 8 → 0 ≤ sm (fun s => if tb x s then S 3 s else 0) v ∧ sm (fun s => if tb x s then S 3 s else 0) v ≤ 16000 := fun v hv => by
    have q1 := sm_nn (a := fun s => if tb x s then S 3 s else 0) (n := v) (fun s hs => by have := hS.2.1 s (by omega); split <;> omega)
    have q2 := sm_const (f := fun s => if tb x s then S 3 s else 0) (c := 2000) (n := v) (fun s hs => by have := hS.2.1 s (by omega); split <;> omega)
    omega
  refine wp_ite (fun c => ?_) (fun c => wp_o (wp_some ?_))
  · obtain ⟨u, rfl⟩ := Int.eq_ofNat_of_zero_le a1
    rw [Int.toNat_natCast] at a4
    have h1 := hb u (by omega)
    have h2 := hb (u + 1) (by omega)
    have h3 : sm (fun s => if tb x s then S 3 s else 0) (u + 1) = sm (fun s => if tb x s then S 3 s else 0) u + if tb x u then S 3 u else 0 := rfl
    rw [bT hx (by omega) (by omega) (by omega), Int.toNat_natCast, hl u (by omega)]
    unfold f244_28
    cases ht : tb x u
    · rw [ht] at h3
      refine wp_neg (by decide) (wp_gd (by omega) (wp_i2 (m - 1) (by omega) ⟨by omega, by omega, by omega, ?_⟩))
      rw [show ((u : Int) + 1).toNat = u + 1 by omega, h3, a4]
      exact (Int.add_zero _).symm
    · rw [ht] at h3
      rw [if_pos rfl] at h3
      refine wp_pos rfl (wp_gd (by omega) (wp_gd ⟨by omega, by omega⟩ (wp_gd (by omega) (wp_i2 (m - 1) (by omega) ⟨by omega, by omega, by omega, ?_⟩))))
      rw [show ((u : Int) + 1).toNat = u + 1 by omega, h3, a4]
  · have e : a = sm (fun s => if tb x s then S 3 s else 0) (nN N) := by
      rw [a4, show y.toNat = nN N + (8 - nN N) by omega]
      have : ∀ m, sm (fun s => if tb x s then S 3 s else 0) (nN N + m) = sm (fun s => if tb x s then S 3 s else 0) (nN N) := fun m => by
        induction m with
        | zero => rfl
        | succ m ih =>
          show sm _ (nN N + m) + (if tb x (nN N + m) then S 3 (nN N + m) else 0) = _
          rw [ih, tb_ge (n := nN N) hx hx2 (by omega)]
          exact Int.add_zero _
      exact this _
    rw [e]
    exact k
theorem w163 {z : Nat} {D : Nat → Int} {P : Int → Prop} (hN : NC N) (hS : sV N S) (hM : nMd N M) (hz : z + 72 ≤ 36400) (hl : ∀ s, s < 8 → M 144 (z + 59 + s) = S 3 s) (hD : ∀ s, s < 8 → M 144 (z + 51 + s) = D s) (k : P (sm (fun s => if D s = 1 then S 3 s else 0) (nN N))) : Wp (f163 z M) P := by
  have h8 := hN.n8
  unfold f163 f163_5
  refine wp_lp2 (fun m a y => 0 ≤ y ∧ y ≤ nN N ∧ (m : Int) = nN N - y ∧ a = sm (fun s => if D s = 1 then S 3 s else 0) y.toNat) (nN N) (by omega) ⟨by omega, by omega, by omega, rfl⟩ ?_
  rintro m a y ⟨a1, a2, a3, a4⟩
  dsimp only
  unfold lb163_5
  have hb : ∀ v, v ≤ 8 → 0 ≤ sm (fun s => if D s = 1 then S 3 s else 0) v ∧ sm (fun s => if D s = 1 then S 3 s else 0) v ≤ 16000 := fun v hv => by
    have q1 := sm_nn (a := fun s => if D s = 1 then S 3 s else 0) (n := v) (fun s hs => by have := hS.2.1 s (by omega); split <;> omega)
    have q2 := sm_const (f := fun s => if D s = 1 then S 3 s else 0) (c := 2000) (n := v) (fun s hs => by have := hS.2.1 s (by omega); split <;> omega)
    omega
  rw [hM.1, hN.n]
  refine wp_ite (fun c => ?_) (fun c => wp_o (wp_some ?_))
  · obtain ⟨u, rfl⟩ := Int.eq_ofNat_of_zero_le a1
    rw [Int.toNat_natCast] at a4
    have h1 := hb u (by omega)
    have h2 := hb (u + 1) (by omega)
    have h3 : sm (fun s => if D s = 1 then S 3 s else 0) (u + 1) = sm (fun s => if D s = 1 then S 3 s else 0) u + if D u = 1 then S 3 u else 0 := rfl
    rw [show ((z : Int) + 51 + u).toNat = z + 51 + u by omega, show ((z : Int) + 59 + u).toNat = z + 59 + u by omega, hl u (by omega), hD u (by omega)]
    refine wp_gd (by omega) (wp_gd (by omega) (wp_gd (by omega) (wp_ite (fun d => ?_) (fun d => ?_))))
    · rw [if_pos d] at h3
      refine wp_gd (by omega) (wp_gd (by omega) (wp_gd (by omega) (wp_gd ⟨by omega, by omega⟩ (wp_gd (by omega) (wp_i2 (m - 1) (by omega) ⟨by omega, by omega, by omega, ?_⟩)))))
      rw [show ((u : Int) + 1).toNat = u + 1 by omega, h3, a4]
    · rw [if_neg d] at h3
      refine wp_gd ⟨by omega, by omega⟩ (wp_gd (by omega) (wp_i2 (m - 1) (by omega) ⟨by omega, by omega, by omega, ?_⟩))
      rw [show ((u : Int) + 1).toNat = u + 1 by omega, h3, a4]
  · rw [a4, show y.toNat = nN N by omega]
    exact k
theorem w164 {z : Nat} {D : Nat → Int} {P : Int → Prop} (hN : NC N) (hM : nMd N M) (hz : z + 72 ≤ 36400) (hD : ∀ s, s < 8 → M 144 (z + 51 + s) = D s) (hD01 : ∀ s, D s = 0 ∨ D s = 1) (k : ∀ x : Int, 0 ≤ x → x < (2 ^ nN N : Nat) → (∀ s, s < nN N → (tb x s = true ↔ D s = 1)) → P x) : Wp (f164 z M) P := by
  have h8 := hN.n8
  have hp := pw2_n hN
  have hp1 : (1 : Int) ≤ (2 ^ nN N : Nat) := by
    have := Nat.one_le_two_pow (n := nN N)
    omega
  unfold f164 f164_4
  refine wp_lp2 (fun m a y => 0 ≤ y ∧ y ≤ nN N ∧ (m : Int) = nN N - y ∧ (0 ≤ a ∧ a < (2 ^ nN N : Nat)) ∧ ∀ s : Nat, (tb a s = true ↔ ((s : Int) < y ∧ D s = 1))) (nN N) (by omega) ⟨by omega, by omega, by omega, by omega, fun s => by rw [tb_zero]; exact Iff.intro (fun q => absurd q (by decide)) (fun q => by omega)⟩ ?_
  rintro m a y ⟨a1, a2, a3, a4, a5⟩
  dsimp only
  unfold lb164_4
  rw [hM.1, hN.n]
  refine wp_ite (fun c => ?_) (fun c => wp_o (wp_some (k a a4.1 a4.2 (fun s hs => by rw [a5 s]; exact Iff.intro (fun q => q.2) (fun q => ⟨by omega, q⟩)))))
  obtain ⟨u, rfl⟩ := Int.eq_ofNat_of_zero_le a1
  rw [show ((z : Int) + 51 + u).toNat = z + 51 + u by omega, hD u (by omega)]
  refine wp_gd (by omega) (wp_gd (by omega) (wp_gd (by omega) (wp_gd (by omega) ?_)))
  rcases hD01 u with q | q
  · rw [q, bLz (by omega) (by omega)]
    have e : bOr a 0 = a := by
      refine tb_ext (bO_lt (n := nN N) (by omega) a4.1 a4.2 (by decide) (by omega)).1 a4.1 (fun s => ?_)
      rw [tb_or a4.1 (by omega) (by decide) (by decide), tb_zero, Bool.or_false]
    rw [e]
    refine wp_i2 (m - 1) (by omega) ⟨by omega, by omega, by omega, a4, fun s => ?_⟩
    rw [a5 s]
    constructor
    · exact fun z => ⟨by omega, z.2⟩
    · intro z
      have : s ≠ u := fun e => by rw [e, q] at z; exact absurd z.2 (by decide)
      exact ⟨by omega, z.2⟩
  · rw [q]
    have hpow : (2 ^ u : Nat) < (2 ^ nN N : Nat) := Nat.pow_lt_pow_right (by decide) (by omega)
    have hp0 : (0 : Int) ≤ ((2 ^ u : Nat) : Int) := Int.natCast_nonneg _
    have hbl : bShl 1 (u : Int) = (2 ^ u : Nat) := by
      have := bL (y := (u : Int)) (by omega) (by omega)
      rw [Int.toNat_natCast] at this
      exact this
    have hbO := bO_lt (n := nN N) (x := a) (y := bShl 1 (u : Int)) (by omega) a4.1 a4.2 (by omega) (by omega)
    refine wp_i2 (m - 1) (by omega) ⟨by omega, by omega, by omega, hbO, fun s => ?_⟩
    rw [tb_or a4.1 (by omega) (by omega) (by omega), tb_pow (by omega) (by omega), Int.toNat_natCast, Bool.or_eq_true, decide_eq_true_iff, a5 s]
    constructor
    · rintro (z | z)
      · exact ⟨by omega, z.2⟩
      · exact ⟨by omega, by rw [← z]; exact q⟩
    · rintro ⟨z1, z2⟩
      by_cases e : u = s
      · exact Or.inr e
      · exact Or.inl ⟨by omega, z2⟩
end ST

/-- can't be borne -/
def cbb (N S : Mm) (w : Nat) : Prop := (∃ v, v < nW N ∧ ovr N (ms S 0 w 1) v) ∨ ∃ s, s < nN N ∧ dkF N (ms S 0 w 1) s = 1 ∧ dkF N S s = 0
theorem bN_z {x y : Int} (hx : 0 ≤ x) (hx2 : x < 2147483648) (hy : 0 ≤ y) (hy2 : y < 2147483648) : bAnd x (bXor y (-1)) = 0 ↔ ∀ s, tb x s = true → tb y s = true := by
  constructor
  · intro h s hs
    have := tb_not (k := s) hx hx2 hy hy2
    rw [h, tb_zero, hs] at this
    cases q : tb y s
    · rw [q] at this
      exact absurd this (by decide)
    · rfl
  · intro h
    refine tb_ext (bN_lt hx hx2 hy hy2).1 (by decide) (fun s => ?_)
    rw [tb_not hx hx2 hy hy2, tb_zero]
    cases q : tb x s
    · rfl
    · rw [h s q]
      rfl
def frB (M M2 : Mm) : Prop := ∀ b, (b < 50 ∨ 72 < b) → M2 b = M b
def frX (M M2 : Mm) : Prop := (∀ b, b ≠ 142 → b ≠ 144 → (b < 158 ∨ 166 < b) → M2 b = M b) ∧ (∀ j, j ≠ 29 → M2 142 j = M 142 j) ∧ ∀ a, a < 36072 → M2 144 a = M 144 a
theorem frB.trans {M M2 M3 : Mm} (h : frB M M2) (g : frB M2 M3) : frB M M3 := fun b hb => (g b hb).trans (h b hb)
theorem frX.trans {M M2 M3 : Mm} (h : frX M M2) (g : frX M2 M3) : frX M M3 := ⟨fun b h1 h2 h3 => (g.1 b h1 h2 h3).trans (h.1 b h1 h2 h3), fun j hj => (g.2.1 j hj).trans (h.2.1 j hj), fun a ha => (g.2.2 a ha).trans (h.2.2 a ha)⟩
theorem frX.md {N M M2 : Mm} (h : frX M M2) (hM : nMd N M) : nMd N M2 := hM.to (h.2.1 3 (by decide)) (h.2.1 4 (by decide)) (h.2.1 5 (by decide)) (fun b h1 h2 => h.1 b (by omega) (by omega) (by omega))
theorem frB.nc {N M M2 : Mm} (h : frB M M2) (hM : nCl N M) : nCl N M2 := hM.to (h 3 (by decide)) (fun b _ _ => h b (by omega))
theorem frB.sc {N S M M2 : Mm} {s : Nat} (h : frB M M2) (hs : s + 4 < 50 ∨ 72 < s) (hM : sC N S M s) : sC N S M2 s := hM.to (fun b _ _ => h b (by omega))
theorem dk_lt {N S : Mm} (hN : NC N) (hS : sV N S) {s : Nat} (h : dkF N S s = 1) : s < nN N := by
  rcases Nat.lt_or_ge s (nN N) with q | q
  · exact q
  · exfalso
    unfold dkF at h
    rw [if_neg (fun z => by
      rcases z with z | z
      · rw [hS.2.2.2.1 s q] at z
        exact absurd z (by decide)
      · have := (fall_lt hN z).1
        omega)] at h
    exact absurd h (by decide)
section BE
variable {N S M : Mm}
theorem w9 {w : Nat} {x3 : Int} {P : Int × Mm → Prop} (hN : NC N) (hS : sV N S) (hM : nCl N M) (hs : sC N S M 50) (hw : w < nW N) (hu : S 0 w = 0) (h3 : 0 ≤ x3 ∧ x3 < 2147483648) (hd : ∀ s, dkF N S s = if tb x3 s then 1 else 0)
    (k : ∀ (v : Int) (M2 : Mm), frB M M2 → sC N S M2 50 → (v = 0 ∨ v = 1) → (v = 1 ↔ cbb N S w) → P (v, M2)) : Wp (f9 w x3 M) P := by
  have h14 := hN.w14
  have hp := pw2_n hN
  unfold f9
  rw [Int.toNat_natCast]
  refine wp_gd (by omega) (wp_mlet ?_)
  have s1 : sC N (ms S 0 w 1) (ms M 52 w 1) 50 := hs.off (fun b h1 h2 h3 => ms_a h3) (fun x hx => by
    by_cases e : x = w
    · rw [if_pos e, e, ms_v]
    · rw [if_neg e, ms_i e])
  have n1 : nCl N (ms M 52 w 1) := hM.to (ms_a (by decide)) (fun b _ _ => ms_a (by omega))
  refine wp_bind (w238 (r := 55) (r2 := 50) hN hS.off n1 s1 ⟨by decide, by decide⟩ (fun M5 g1 g2 => wp_mlet ?_))
  rw [ms_a (by decide : (55 : Nat) ≠ 52)]
  obtain ⟨⟨q1, q2, q3⟩, _, ⟨q4, q5⟩, _⟩ := g2
  have f1 : frB M (ms M5 52 w 0) := fun b hb => by
    rw [ms_a (by omega), g1 b (by omega), ms_a (by omega)]
  have f2 : sC N S (ms M5 52 w 0) 50 := by
    refine hs.to (fun b h1 h2 => ?_)
    by_cases e : b = 52
    · subst e
      funext j
      by_cases e2 : j = w
      · rw [e2, ms_v]
        exact (((hs.1 w (by omega)).1).trans hu).symm
      · rw [ms_i e2, g1 52 (by decide), ms_i e2]
    · rw [ms_a e, g1 b (by omega), ms_a e]
  have hz := bN_z (x := M5 55 0) (y := x3) q1 (by omega) h3.1 h3.2
  have hs2 : (∃ s, s < nN N ∧ dkF N (ms S 0 w 1) s = 1 ∧ dkF N S s = 0) ↔ ¬ bAnd (M5 55 0) (bXor x3 (-1)) = 0 := by
    rw [hz]
    constructor
    · rintro ⟨s, _, z1, z2⟩ z3
      have := z3 s (by
        rw [q3 s] at z1
        cases t : tb (M5 55 0) s
        · rw [t] at z1; exact absurd z1 (by decide)
        · rfl)
      rw [hd s, this] at z2
      exact absurd z2 (by decide)
    · intro z
      have ⟨s, z2⟩ := Classical.not_forall.mp z
      have ⟨z3, z4⟩ := Classical.not_imp.mp z2
      have e1 : dkF N (ms S 0 w 1) s = 1 := by rw [q3 s, z3]; rfl
      refine ⟨s, dk_lt hN hS.off e1, e1, ?_⟩
      rw [hd s, if_neg z4]
  refine wp_ite (fun c => wp_ite (fun c2 => wp_some (k 0 _ f1 f2 (Or.inl rfl) ?_)) (fun c2 => wp_some (k 1 _ f1 f2 (Or.inr rfl) ?_))) (fun c => wp_some (k 1 _ f1 f2 (Or.inr rfl) ?_))
  · refine Iff.intro (fun z => absurd z (by decide)) (fun z => ?_)
    rcases z with z | z
    · rw [← q5, c] at z
      exact absurd z (by decide)
    · exact (hs2.mp z c2).elim
  · exact Iff.intro (fun _ => Or.inr (hs2.mpr c2)) (fun _ => rfl)
  · exact Iff.intro (fun _ => Or.inl (q5.mp (q4.resolve_left c))) (fun _ => rfl)
/-- which can't be borne, as bits -/
theorem wf8 {r2 : Nat} {P : Int × Mm → Prop} (hN : NC N) (hS : sV N S) (hM : nCl N M) (hs : sC N S M r2) (hr : r2 + 4 < 50 ∨ 72 < r2)
    (k : ∀ (x : Int) (M2 : Mm), frB M M2 → 0 ≤ x → x < 16384 → (∀ w, tb x w = true ↔ (w < nW N ∧ S 0 w = 0 ∧ cbb N S w)) → P (x, M2)) : Wp (f8 r2 M) P := by
  have h14 := hN.w14
  have hp := pw2_n hN
  unfold f8
  refine wp_bind (w238 (r := 55) (r2 := r2) hN hS hM hs ⟨by decide, by omega⟩ (fun M2 g1 g2 => ?_))
  have f2 : frB M M2 := fun b hb => g1 b (by omega)
  obtain ⟨⟨q1, q2, q3⟩, _⟩ := g2
  refine wp_bind (w241 (r0 := 50) (r1 := r2) (by omega) (f2.sc hr hs) (fun M3 g3 g4 => ?_))
  have f3 : frB M M3 := f2.trans (fun b hb => g3 b (by omega))
  unfold f8_31
  let I : Nat → Int → Int → Mm → Prop := fun m x y M4 => 0 ≤ y ∧ y ≤ nW N ∧ (m : Int) = nW N - y ∧ frB M M4 ∧ sC N S M4 50 ∧ (0 ≤ x ∧ x < (2 ^ 14 : Nat)) ∧ ∀ w : Nat, (tb x w = true ↔ ((w : Int) < y ∧ S 0 w = 0 ∧ cbb N S w))
  refine wp_lp3 I (nW N) (by omega) ⟨by omega, by omega, by omega, f3, g4, by decide, fun w => by rw [tb_zero]; exact Iff.intro (fun q => absurd q (by decide)) (fun q => by omega)⟩ ?_
  rintro m x y M4 ⟨a1, a2, a3, a4, a5, a6, a7⟩
  dsimp only
  unfold lb8_31
  have n4 := a4.nc hM
  have s4 := a4.sc hr hs
  rw [n4.1, hN.w]
  refine wp_ite (fun c => ?_) (fun c => wp_o (wp_some (k x M4 a4 a6.1 a6.2 (fun w => ?_))))
  · obtain ⟨u, rfl⟩ := Int.eq_ofNat_of_zero_le a1
    have hu : u < nW N := by omega
    rw [Int.toNat_natCast, (s4.1 u (by omega)).1]
    have skip : ∀ M5 : Mm, frB M M5 → sC N S M5 50 → ¬ (S 0 u = 0 ∧ cbb N S u) → Wp (f8_70 r2 (M2 55 0) x u M5) (Sum.elim (up3 I m) P) := fun M5 z1 z2 hne => by
      unfold f8_70
      refine wp_gd (by omega) (wp_i3 (m - 1) (by omega) ⟨by omega, by omega, by omega, z1, z2, a6, fun w => ?_⟩)
      rw [a7 w]
      constructor
      · exact fun z => ⟨by omega, z.2⟩
      · intro z
        have : w ≠ u := fun e => hne (e ▸ z.2)
        exact ⟨by omega, z.2⟩
    refine wp_gd (by omega) (wp_ite (fun c2 => wp_obnd ?_) (fun c2 => skip M4 a4 a5 (fun z => c2 z.1)))
    refine w9 hN hS n4 a5 hu c2 ⟨q1, by omega⟩ q3 (fun v M5 z1 z2 z3 z4 => ?_)
    dsimp only
    refine wp_ite (fun c3 => skip M5 (a4.trans z1) z2 (fun z => ?_)) (fun c3 => ?_)
    · have := z4.mpr z.2
      omega
    · have hb := z4.mp (z3.resolve_left c3)
      have hpow : (2 ^ u : Nat) < (2 ^ 14 : Nat) := Nat.pow_lt_pow_right (by decide) (by omega)
      have hp0 : (0 : Int) ≤ ((2 ^ u : Nat) : Int) := Int.natCast_nonneg _
      have hbl : bShl 1 (u : Int) = (2 ^ u : Nat) := by
        have := bL (y := (u : Int)) (by omega) (by omega)
        rw [Int.toNat_natCast] at this
        exact this
      have hbO := bO_lt (n := 14) (x := x) (y := bShl 1 (u : Int)) (by omega) a6.1 a6.2 (by omega) (by omega)
      unfold f8_70
      refine wp_gd (by omega) (wp_i3 (m - 1) (by omega) ⟨by omega, by omega, by omega, a4.trans z1, z2, hbO, fun w => ?_⟩)
      rw [tb_or a6.1 (by omega) (by omega) (by omega), tb_pow (by omega) (by omega), Int.toNat_natCast, Bool.or_eq_true, decide_eq_true_iff, a7 w]
      constructor
      · rintro (z | z)
        · exact ⟨by omega, z.2⟩
        · exact ⟨by omega, by rw [← z]; exact ⟨c2, hb⟩⟩
      · rintro ⟨z5, z6⟩
        by_cases e : u = w
        · exact Or.inr e
        · exact Or.inl ⟨by omega, z6⟩
  · rw [a7 w]
    constructor
    · exact fun z => ⟨by omega, z.2⟩
    · exact fun z => ⟨by omega, z.2⟩
theorem w11 {r2 w : Nat} {P : Int × Mm → Prop} (hN : NC N) (hS : sV N S) (hM : nCl N M) (hs : sC N S M r2) (hr : r2 + 4 < 50 ∨ 72 < r2) (hw : w < nW N)
    (k : ∀ (v : Int) (M2 : Mm), frB M M2 → (v = 0 ∨ v = 1) → (v = 1 ↔ (S 0 w = 0 ∧ cbb N S w)) → P (v, M2)) : Wp (f11 r2 w M) P := by
  have h14 := hN.w14
  have hp := pw2_n hN
  unfold f11
  rw [Int.toNat_natCast, (hs.1 w (by omega)).1]
  refine wp_gd (by omega) (wp_ite (fun c => ?_) (fun c => wp_some (k 0 M (fun _ _ => rfl) (Or.inl rfl) (Iff.intro (fun z => absurd z (by decide)) (fun z => (c z.1).elim)))))
  refine wp_bind (w238 (r := 55) (r2 := r2) hN hS hM hs ⟨by decide, by omega⟩ (fun M2 g1 g2 => ?_))
  have f2 : frB M M2 := fun b hb => g1 b (by omega)
  obtain ⟨⟨q1, q2, q3⟩, _⟩ := g2
  refine wp_bind (w241 (r0 := 50) (r1 := r2) (by omega) (f2.sc hr hs) (fun M3 g3 g4 => ?_))
  have f3 : frB M M3 := f2.trans (fun b hb => g3 b (by omega))
  refine wp_obnd ?_
  rw [g3 55 (by decide)]
  refine w9 hN hS (f3.nc hM) g4 hw c ⟨q1, by omega⟩ q3 (fun v M5 z1 z2 z3 z4 => ?_)
  dsimp only
  refine wp_ite (fun c3 => wp_some (k 0 M5 (f3.trans z1) (Or.inl rfl) ?_)) (fun c3 => wp_some (k 1 M5 (f3.trans z1) (Or.inr rfl) ?_))
  · refine Iff.intro (fun z => absurd z (by decide)) (fun z => ?_)
    have := z4.mpr z.2
    omega
  · exact Iff.intro (fun _ => ⟨c, z4.mp (z3.resolve_left c3)⟩) (fun _ => rfl)
theorem w134 {w : Nat} {x2 : Int} {P : Int × Mm → Prop} (hN : NC N) (hS : sV N S) (hM : nMd N M) (hs : sM S M 36072) (hw : w < nW N) (h3 : 0 ≤ x2 ∧ x2 < 2147483648) (hd : ∀ s, s < nN N → (tb x2 s = true ↔ dkF N S s = 1)) (hd2 : x2 < (2 ^ nN N : Nat))
    (k : ∀ (v : Int) (M2 : Mm), frX M M2 → sM S M2 36072 → (v = 0 ∨ v = 1) → (v = 1 ↔ cbb N S w) → P (v, M2)) : Wp (f134 w x2 M) P := by
  have h14 := hN.w14
  have hp := pw2_n hN
  unfold f134
  refine wp_bind (w96 (z := 36072) (z2 := 36216) (by decide) (by decide) (by decide) (fun M2 a1 a2 a3 => ?_))
  rw [show ((36216 : Int) + w).toNat = 36216 + w by omega]
  refine wp_gd (by omega) (wp_gd (by omega) (wp_mlet ?_))
  have s2 : sM S M2 36216 := hs.cp (z := 36072) a3
  have s3 : sM (ms S 0 w 1) (ms M2 144 (36216 + w) 1) 36216 := s2.off (by omega) (fun a _ _ hne => ms_i (by omega)) ms_v
  have f2 : frX M (ms M2 144 (36216 + w) 1) := ⟨fun b h1 h2 _ => (ms_a h2).trans (a1 b h2), fun j _ => by rw [ms_a (by decide), a1 142 (by decide)], fun a ha => by rw [ms_i (by omega)]; exact a2 a (by omega)⟩
  have th : sM S (ms M2 144 (36216 + w) 1) 36072 := hs.to (fun a h1 h2 => by rw [ms_i (by omega)]; exact a2 a (by omega))
  refine wp_bind (w173 (z := 36216) hN hS.off (f2.md hM) (by decide) s3 (fun M4 g1 g2 => ?_))
  have f4 : frX M M4 := f2.trans ⟨fun b h1 h2 h3 => g1.1 b h1 h2 h3, g1.2.1, fun a ha => g1.2.2 a (by omega)⟩
  have th4 : sM S M4 36072 := th.to (fun a h1 h2 => g1.2.2 a (by omega))
  have m4 := f4.md hM
  obtain ⟨q1, _, _, _, q5⟩ := g2
  unfold f134_30
  refine wp_lp1 (fun m y => 0 ≤ y ∧ y ≤ nW N ∧ (m : Int) = nW N - y ∧ ∀ v : Nat, (v : Int) < y → ¬ ovr N (ms S 0 w 1) v) (nW N) (by omega) ⟨by omega, by omega, by omega, fun v hv => by omega⟩ ?_
  rintro m y ⟨b1, b2, b3, b4⟩
  unfold lb134_30
  rw [m4.2.1, hN.w]
  refine wp_ite (fun c => ?_) (fun c => wp_o ?_)
  · obtain ⟨u, rfl⟩ := Int.eq_ofNat_of_zero_le b1
    have hu : u < nW N := by omega
    have hcu := hN.cw u hu
    rw [Int.toNat_natCast, (m4.2.2.2.2.1 u hu).2.2.2.1, (q5 u hu).1, (q5 u hu).2]
    have hlim := hcu.2.2.2.2.1
    by_cases e : (ms S 0 w 1) 0 u = 0
    · rw [if_pos e, if_pos e]
      have hfb := fl_b hN hS.off hu e
      have hld := mul_bd (x := N 17 u) (y := fD N (ms S 0 w 1) u) (X := 5000) (Y := 35831808) ⟨by omega, by omega⟩ ⟨by omega, by omega⟩
      refine wp_gd (by omega) (wp_bind (w170 ⟨by omega, by omega⟩ (wp_gd ⟨by omega, by omega⟩ (wp_ite (fun d => wp_o (wp_some (k 1 M4 f4 th4 (Or.inr rfl) ?_))) (fun d => ?_)))))
      · refine Iff.intro (fun _ => Or.inl ⟨u, hu, e, ?_⟩) (fun _ => rfl)
        split at d
        · exact Or.inr d
        · exact Or.inl d
      · refine wp_gd (by omega) (wp_i1 (m - 1) (by omega) ⟨by omega, by omega, by omega, fun v hv hov => ?_⟩)
        by_cases ev : v = u
        · subst ev
          have h0 := Int.mul_nonneg (a := N 17 v) (b := fD N (ms S 0 w 1) v) (by omega) (by omega)
          rcases hov.2 with z | z
          · split at d <;> omega
          · split at d <;> omega
        · exact b4 v (by omega) hov
    · rw [if_neg e, if_neg e]
      refine wp_gd (by omega) (wp_bind (w170 (by decide) (wp_gd ⟨by omega, by omega⟩ (wp_neg ?_ (wp_gd (by omega) (wp_i1 (m - 1) (by omega) ⟨by omega, by omega, by omega, fun v hv hov => ?_⟩))))))
      · show ¬ N 17 u * 1 < 0
        omega
      · by_cases ev : v = u
        · exact e (ev ▸ hov.1)
        · exact b4 v (by omega) hov
  · refine wp_bind (w164 (z := 36216) (D := dkF N (ms S 0 w 1)) hN m4 (by decide) q1 (fun s => dkF_01 s) (fun x z1 z2 z3 => ?_))
    have hz := bN_z (x := x) (y := x2) z1 (by omega) h3.1 h3.2
    have hs2 : (∃ s, s < nN N ∧ dkF N (ms S 0 w 1) s = 1 ∧ dkF N S s = 0) ↔ ¬ bAnd x (bXor x2 (-1)) = 0 := by
      rw [hz]
      constructor
      · rintro ⟨s, t1, t2, t3⟩ t4
        have := (hd s t1).mp (t4 s ((z3 s t1).mpr t2))
        omega
      · intro t
        have ⟨s, t2⟩ := Classical.not_forall.mp t
        have ⟨t3, t4⟩ := Classical.not_imp.mp t2
        have hsn : s < nN N := by
          rcases Nat.lt_or_ge s (nN N) with q | q
          · exact q
          · rw [tb_ge z1 z2 q] at t3
            exact absurd t3 (by decide)
        refine ⟨s, hsn, (z3 s hsn).mp t3, ?_⟩
        rcases dkF_01 (N := N) (S := S) s with q | q
        · exact q
        · exact (t4 ((hd s hsn).mpr q)).elim
    refine wp_ite (fun c2 => wp_some (k 0 M4 f4 th4 (Or.inl rfl) ?_)) (fun c2 => wp_some (k 1 M4 f4 th4 (Or.inr rfl) (Iff.intro (fun _ => Or.inr (hs2.mpr c2)) (fun _ => rfl))))
    refine Iff.intro (fun z => absurd z (by decide)) (fun z => ?_)
    rcases z with ⟨v, t1, t2⟩ | z
    · exact (b4 v (by omega) t2).elim
    · exact (hs2.mp z c2).elim
theorem w89 {P : Int × Mm → Prop} (hN : NC N) (hS : sV N S) (hM : nMd N M) (hs : sM S M 36000)
    (k : ∀ (x : Int) (M2 : Mm), frX M M2 → 0 ≤ x → x < 16384 → (∀ w, tb x w = true ↔ (w < nW N ∧ S 0 w = 0 ∧ cbb N S w)) → P (x, M2)) : Wp (f89 M) P := by
  have h14 := hN.w14
  have hp := pw2_n hN
  unfold f89
  refine wp_bind (w96 (z := 36000) (z2 := 36072) (by decide) (by decide) (by decide) (fun M2 a1 a2 a3 => ?_))
  refine wp_bind (w96 (z := 36000) (z2 := 36144) (by decide) (by decide) (by decide) (fun M3 b1 b2 b3 => ?_))
  have f3 : frX M M3 := ⟨fun b _ h2 _ => (b1 b h2).trans (a1 b h2), fun j _ => by rw [b1 142 (by decide), a1 142 (by decide)], fun a ha => by rw [b2 a (by omega), a2 a (by omega)]⟩
  have s3 : sM S M3 36072 := hs.cp (z := 36000) (fun j hj => by rw [b2 _ (by omega)]; exact a3 j hj)
  have s4 : sM S M3 36144 := hs.cp (z := 36000) (fun j hj => by rw [b3 j hj, a2 _ (by omega)])
  refine wp_bind (w173 (z := 36144) hN hS (f3.md hM) (by decide) s4 (fun M4 g1 g2 => ?_))
  have f4 : frX M M4 := f3.trans ⟨fun b h1 h2 h3 => g1.1 b h1 h2 h3, g1.2.1, fun a ha => g1.2.2 a (by omega)⟩
  have th4 : sM S M4 36072 := s3.to (fun a h1 h2 => g1.2.2 a (by omega))
  refine wp_bind (w164 (z := 36144) (D := dkF N S) hN (f4.md hM) (by decide) g2.1 (fun s => dkF_01 s) (fun d z1 z2 z3 => ?_))
  unfold f89_37
  let I : Nat → Int → Int → Mm → Prop := fun m x y M5 => 0 ≤ y ∧ y ≤ nW N ∧ (m : Int) = nW N - y ∧ frX M M5 ∧ sM S M5 36072 ∧ (0 ≤ x ∧ x < (2 ^ 14 : Nat)) ∧ ∀ w : Nat, (tb x w = true ↔ ((w : Int) < y ∧ S 0 w = 0 ∧ cbb N S w))
  refine wp_lp3 I (nW N) (by omega) ⟨by omega, by omega, by omega, f4, th4, by decide, fun w => by rw [tb_zero]; exact Iff.intro (fun q => absurd q (by decide)) (fun q => by omega)⟩ ?_
  rintro m x y M5 ⟨c1, c2, c3, c4, c5, c6, c7⟩
  dsimp only
  unfold lb89_37
  have m5 := c4.md hM
  rw [m5.2.1, hN.w]
  refine wp_ite (fun c => ?_) (fun c => wp_o (wp_some (k x M5 c4 c6.1 c6.2 (fun w => ?_))))
  · obtain ⟨u, rfl⟩ := Int.eq_ofNat_of_zero_le c1
    have hu : u < nW N := by omega
    rw [show ((36000 : Int) + u).toNat = 36000 + u by omega, c4.2.2 _ (by omega), (hs.1 u (by omega)).1]
    have skip : ∀ M6 : Mm, frX M M6 → sM S M6 36072 → ¬ (S 0 u = 0 ∧ cbb N S u) → Wp (f89_72 d x u M6) (Sum.elim (up3 I m) P) := fun M6 t1 t2 hne => by
      unfold f89_72
      refine wp_gd (by omega) (wp_i3 (m - 1) (by omega) ⟨by omega, by omega, by omega, t1, t2, c6, fun w => ?_⟩)
      rw [c7 w]
      constructor
      · exact fun z => ⟨by omega, z.2⟩
      · intro z
        have : w ≠ u := fun e => hne (e ▸ z.2)
        exact ⟨by omega, z.2⟩
    refine wp_gd (by omega) (wp_gd (by omega) (wp_ite (fun e => wp_obnd ?_) (fun e => skip M5 c4 c5 (fun z => e z.1))))
    refine w134 hN hS m5 c5 hu ⟨z1, by omega⟩ z3 z2 (fun v M6 t1 t2 t3 t4 => ?_)
    dsimp only
    refine wp_ite (fun e2 => skip M6 (c4.trans t1) t2 (fun z => ?_)) (fun e2 => ?_)
    · have := t4.mpr z.2
      omega
    · have hb := t4.mp (t3.resolve_left e2)
      have hpow : (2 ^ u : Nat) < (2 ^ 14 : Nat) := Nat.pow_lt_pow_right (by decide) (by omega)
      have hp0 : (0 : Int) ≤ ((2 ^ u : Nat) : Int) := Int.natCast_nonneg _
      have hbl : bShl 1 (u : Int) = (2 ^ u : Nat) := by
        have := bL (y := (u : Int)) (by omega) (by omega)
        rw [Int.toNat_natCast] at this
        exact this
      have hbO := bO_lt (n := 14) (x := x) (y := bShl 1 (u : Int)) (by omega) c6.1 c6.2 (by omega) (by omega)
      unfold f89_72
      refine wp_gd (by omega) (wp_i3 (m - 1) (by omega) ⟨by omega, by omega, by omega, c4.trans t1, t2, hbO, fun w => ?_⟩)
      rw [tb_or c6.1 (by omega) (by omega) (by omega), tb_pow (by omega) (by omega), Int.toNat_natCast, Bool.or_eq_true, decide_eq_true_iff, c7 w]
      constructor
      · rintro (z | z)
        · exact ⟨by omega, z.2⟩
        · exact ⟨by omega, by rw [← z]; exact ⟨e, hb⟩⟩
      · rintro ⟨z5, z6⟩
        by_cases e4 : u = w
        · exact Or.inr e4
        · exact Or.inl ⟨by omega, z6⟩
  · rw [c7 w]
    constructor
    · exact fun z => ⟨by omega, z.2⟩
    · exact fun z => ⟨by omega, z.2⟩
end BE
