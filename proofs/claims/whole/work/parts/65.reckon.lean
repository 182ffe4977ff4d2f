section FS
variable {N S : Mm}
theorem falls_in {i s : Nat} : s ∈ falls N S i ↔ ∃ j, j < i ∧ isl N S j = j ∧ s ∈ fall N S j := by
  induction i with
  | zero => exact Iff.intro (fun h => by cases h) (fun ⟨j, h, _⟩ => by omega)
  | succ i ih =>
    rw [falls]
    by_cases c : isl N S i = i
    · rw [if_pos c, List.mem_append, ih]
      constructor
      · rintro (⟨j, h1, h2⟩ | h)
        · exact ⟨j, by omega, h2⟩
        · exact ⟨i, by omega, c, h⟩
      · rintro ⟨j, h1, h2, h3⟩
        by_cases e : j = i
        · exact Or.inr (e ▸ h3)
        · exact Or.inl ⟨j, by omega, h2, h3⟩
    · rw [if_neg c, ih]
      constructor
      · rintro ⟨j, h1, h2⟩
        exact ⟨j, by omega, h2⟩
      · rintro ⟨j, h1, h2, h3⟩
        have : j ≠ i := fun e => c (e ▸ h2)
        exact ⟨j, by omega, h2, h3⟩
theorem fall_lt (hN : NC N) {i s : Nat} (h : s ∈ fall N S i) : s < nN N ∧ isl N S s = i := by
  obtain ⟨h1, _, _, p, h2, h3⟩ := fall_mem h
  exact ⟨h3 ▸ (hN.cr.1 p h2).2, h1⟩
theorem falls_isl (hN : NC N) {i s : Nat} (h : s ∈ falls N S i) : isl N S s < i ∧ s < nN N ∧ s ∈ fall N S (isl N S s) := by
  obtain ⟨j, h1, h2, h3⟩ := falls_in.mp h
  have := fall_lt hN h3
  exact ⟨by omega, this.1, by rw [this.2]; exact h3⟩
theorem falls_all (hN : NC N) (s : Nat) : s ∈ falls N S (nN N) ↔ s ∈ fall N S (isl N S s) := by
  constructor
  · exact fun h => (falls_isl hN h).2.2
  · intro h
    have h1 := fall_lt hN h
    exact falls_in.mpr ⟨isl N S s, isl_lt h1.1, isl_idem h1.1, h⟩
theorem dkF_falls (hN : NC N) (hS : sV N S) (s : Nat) : dkF N S s = if s ∈ falls N S (nN N) then 1 else S 4 s := by
  unfold dkF
  by_cases h : s ∈ falls N S (nN N)
  · rw [if_pos h, if_pos (Or.inr ((falls_all hN s).mp h))]
  · rw [if_neg h]
    rcases hS.2.2.1 s with e | e
    · rw [e, if_neg (fun z => by
        rcases z with z | z
        · exact absurd z (by decide)
        · exact h ((falls_all hN s).mpr z))]
    · rw [e, if_pos (Or.inl rfl)]
end FS
noncomputable def rsv (N S : Mm) (i : Nat) : Int := mostI N S i - litI N S (dkF N S) i
/-- what the first object's standing at r tells of state S -/
def sgR (N S M : Mm) (r : Nat) : Prop := (0 ≤ M r 0 ∧ M r 0 < (2 ^ nN N : Nat) ∧ ∀ s, dkF N S s = if tb (M r 0) s then 1 else 0) ∧ (M r 1 = (falls N S (nN N)).length ∧ ∀ j x : Nat, (falls N S (nN N))[j]? = some x → M (r + 1) j = x) ∧
  ((M r 2 = 0 ∨ M r 2 = 1) ∧ (M r 2 = 1 ↔ ∃ w, w < nW N ∧ ovr N S w)) ∧ (∀ s : Nat, s < nN N → M (r + 2) s = isl N S s ∧ M (r + 3) s = rsv N S (isl N S s)) ∧ (∀ x : Nat, x < nK N → M (r + 4) x = gv N S x) ∧ ∀ w : Nat, w < nW N → M (r + 5) w = told N S w
section RK
variable {N S M : Mm} {r r2 : Nat}
theorem w238 {P : Mm → Prop} (hN : NC N) (hS : sV N S) (hM : nCl N M) (hs : sC N S M r2) (hq : sepS r r2)
    (k : ∀ M2 : Mm, frS r M M2 → sgR N S M2 r → P M2) : Wp (f238 r r2 M) P := by
  have h8 := hN.n8
  have h14 := hN.w14
  have hq1 := hq.1
  have hq2 := hq.2
  unfold f238
  refine wp_mlet (wp_mlet (wp_mlet (wp_bind (w3 (by decide) (fun M1 a1 a2 => ?_)))))
  have f1 : frS r M M1 := fun b hb => by rw [a1 b (by omega), ms_a (by omega), ms_a (by omega), ms_a (by omega)]
  have e0 : M1 r 0 = M r2 1 := by rw [a1 r (by omega), ms_i (by decide), ms_i (by decide), ms_v]
  have e1 : M1 r 1 = 0 := by rw [a1 r (by omega), ms_i (by decide), ms_v]
  have e2 : M1 r 2 = 0 := by rw [a1 r (by omega), ms_v]
  have n1 := f1.nc hq hM
  have s1 := f1.sc hq hs
  have e3 : M1 3 = N 3 := n1.1
  refine wp_bind (w213 (n := nN N) (nw := nW N) (G := isl N S) (A := eA N) (B := eB N) (U := fun w => S 0 w = 0) (by rw [e3]; exact hN.n) h8 (by rw [e3]; exact hN.w) h14 (fun w hw => by rw [n1.r (b := 14) (by decide) (by decide)]; exact (hN.cw w hw).1.1) (fun w hw => by rw [n1.r (b := 15) (by decide) (by decide)]; exact (hN.cw w hw).2.1.1) (fun w hw => ⟨(hN.cw w hw).1.2, (hN.cw w hw).2.1.2⟩) (fun w hw => by
      rw [(s1.1 w (by omega)).1]
      exact Iff.intro Or.inl (fun z => z.resolve_right (fun z2 => z2.1 rfl))) (by omega) (by omega) (by omega) (by omega) (isl_lab N S) (fun M2 b1 b2 => ?_))
  have f2 : frS r M M2 := f1.trans (fun b hb => b1 b (by omega))
  have g0 : M2 r 0 = M r2 1 := by rw [b1 r (by omega)]; exact e0
  have g1 : M2 r 1 = 0 := by rw [b1 r (by omega)]; exact e1
  have g2 : M2 r 2 = 0 := by rw [b1 r (by omega)]; exact e2
  have g5 : ∀ w : Nat, w < nW N → M2 (r + 5) w = 0 := fun w hw => by rw [b1 (r + 5) (by omega), a2, if_pos (by omega)]
  clear a1 a2 f1 e0 e1 e2 n1 s1 e3 b1
  unfold f238_38
  let I : Nat → Int → Mm → Prop := fun m x M3 => 0 ≤ x ∧ x ≤ nN N ∧ (m : Int) = nN N - x ∧ frS r M M3 ∧ (∀ s : Nat, s < nN N → M3 (r + 2) s = isl N S s) ∧
    (0 ≤ M3 r 0 ∧ M3 r 0 < (2 ^ nN N : Nat) ∧ ∀ s, (if s ∈ falls N S x.toNat then 1 else S 4 s) = if tb (M3 r 0) s then (1 : Int) else 0) ∧
    (M3 r 1 = (falls N S x.toNat).length ∧ (∀ j y : Nat, (falls N S x.toNat)[j]? = some y → M3 (r + 1) j = y) ∧ ((falls N S x.toNat).length : Int) = sm (fun s => (if s ∈ falls N S x.toNat then 1 else S 4 s) - S 4 s) (nN N)) ∧
    ((M3 r 2 = 0 ∨ M3 r 2 = 1) ∧ (M3 r 2 = 1 ↔ ∃ w, w < nW N ∧ (isl N S (eA N w) : Int) < x ∧ ovr N S w)) ∧
    (∀ s : Nat, s < nN N → (isl N S s : Int) < x → M3 (r + 3) s = rsv N S (isl N S s)) ∧ (∀ y : Nat, y < nK N → (isl N S (aK N y) : Int) < x → M3 (r + 4) y = gv N S y) ∧
    ∀ w : Nat, w < nW N → M3 (r + 5) w = if (isl N S (eA N w) : Int) < x then told N S w else 0
  have hs1 := hs.2.2.1
  refine wp_lp2 I (nN N) (by omega) ⟨by omega, by omega, by omega, f2, b2, ⟨by rw [g0]; exact hs1.1, by rw [g0]; exact hs1.2.1, fun s => by rw [g0, if_neg (fun z => by cases z)]; exact hs1.2.2 s⟩, ⟨g1, fun j y hj => (by cases hj), ?_⟩, ⟨Or.inl g2, ?_⟩, fun s _ z => by omega, fun y _ z => by omega, fun w hw => by rw [if_neg (by omega)]; exact g5 w hw⟩ ?_
  · show (0 : Int) = _
    rw [sm_zero (fun s _ => by rw [if_neg (fun z => by cases z)]; omega)]
  · rw [g2]
    exact Iff.intro (fun z => absurd z (by decide)) (fun ⟨w, _, z, _⟩ => by omega)
  clear g0 g1 g2 g5 f2 b2
  rintro m x M3 ⟨c1, c2, c3, c4, c5, ⟨c6, c7, c8⟩, ⟨c9, c10, c11⟩, ⟨c12, c13⟩, c14, c15, c16⟩
  dsimp only
  unfold lb238_38
  have n3 := c4.nc hq hM
  have s3 := c4.sc hq hs
  rw [n3.1, hN.n]
  refine wp_ite (fun c => ?_) (fun c => wp_o (wp_some ?_))
  · obtain ⟨i, rfl⟩ := Int.eq_ofNat_of_zero_le c1
    have hi : i < nN N := by omega
    rw [Int.toNat_natCast] at c8 c9 c10 c11
    rw [Int.toNat_natCast, c5 i hi]
    have hil := isl_le (S := S) hi
    refine wp_gd (by omega) (wp_ite (fun d => ?_) (fun d => ?_))
    · have hroot : isl N S i = i := by omega
      have hfa : falls N S (i + 1) = falls N S i ++ fall N S i := by rw [falls, if_pos hroot]
      refine wp_bind (w239 (D := fun s => if s ∈ falls N S i then 1 else S 4 s) (l := falls N S i) hN hS n3 s3 hq hi c5 c6 c7 c8 (fun s hs hi2 => ?_) (fun s => ?_) c9 c10 c11 (fun M4 D2 h1 h2 h3 h4 h5 h6 h7 h9 h10 h11 h12 => ?_))
      · rw [if_neg (fun z => by have := (falls_isl hN z).1; omega)]
      · have := hS.2.2.1 s
        split <;> omega
      have n4 := h1.nc hq n3
      have s4 := h1.sc hq s3
      refine wp_bind (w240 hN hS n4 s4 hq hi hroot (fun s hs => by rw [h2 (r + 2) (by omega) (by omega) (by omega) (by omega) (by omega)]; exact c5 s hs) (fun s hs hi2 => by rw [h12 s hs, if_pos hi2]) (by rw [h3]; exact c12) (fun M5 q1 q2 q3 q4 q5 q6 => ?_))
      unfold f238_70
      have hD2 : ∀ s, D2 s = if s ∈ falls N S (i + 1) then 1 else S 4 s := fun s => by
        rw [h5 s, hfa]
        by_cases z1 : s ∈ fall N S i
        · rw [if_pos z1, if_pos (List.mem_append.mpr (Or.inr z1))]
        · rw [if_neg z1]
          by_cases z2 : s ∈ falls N S i
          · rw [if_pos z2, if_pos (List.mem_append.mpr (Or.inl z2))]
          · rw [if_neg z2, if_neg (fun z => by
              rcases List.mem_append.mp z with z | z
              · exact z2 z
              · exact z1 z)]
      refine wp_gd (by omega) (wp_i2 (m - 1) (by omega) ⟨by omega, by omega, by omega, (c4.trans h1).trans q1, fun s hs => ?_, ⟨?_, ?_, fun s => ?_⟩, ⟨?_, fun j y hj => ?_, ?_⟩, ⟨q4, ?_⟩, fun s hs hx => ?_, fun y hy hx => ?_, fun w hw => ?_⟩)
      · rw [q2 (r + 2) (by omega) (by omega) (by omega) (by omega) (by omega), h2 (r + 2) (by omega) (by omega) (by omega) (by omega) (by omega)]
        exact c5 s hs
      · rw [q3 0 (by decide)]
        exact h4.1
      · rw [q3 0 (by decide)]
        exact h4.2.1
      · rw [q3 0 (by decide), ← h4.2.2 s, hD2 s, show ((i : Int) + 1).toNat = i + 1 by omega]
      · rw [q3 1 (by decide), h6, show ((i : Int) + 1).toNat = i + 1 by omega, hfa]
      · rw [show ((i : Int) + 1).toNat = i + 1 by omega, hfa] at hj
        rw [q2 (r + 1) (by omega) (by omega) (by omega) (by omega) (by omega)]
        exact h7 j y hj
      · rw [show ((i : Int) + 1).toNat = i + 1 by omega, hfa, h9]
        exact sm_congr (fun s _ => by rw [hD2 s, hfa])
      · rw [q5, h3, c13]
        constructor
        · rintro (⟨w, z1, z2, z3⟩ | ⟨w, z1, z2, z3⟩)
          · exact ⟨w, z1, by omega, z3⟩
          · exact ⟨w, z1, by omega, z3⟩
        · rintro ⟨w, z1, z2, z3⟩
          by_cases e : isl N S (eA N w) = i
          · exact Or.inr ⟨w, z1, e, z3⟩
          · exact Or.inl ⟨w, z1, by omega, z3⟩
      · rw [q2 (r + 3) (by omega) (by omega) (by omega) (by omega) (by omega), h10 s hs]
        by_cases e : isl N S s = i
        · rw [if_pos e, e]
          rfl
        · rw [if_neg e]
          exact c14 s hs (by omega)
      · rw [q2 (r + 4) (by omega) (by omega) (by omega) (by omega) (by omega), h11 y hy]
        by_cases e : isl N S (aK N y) = i
        · rw [if_pos e]
        · rw [if_neg e]
          exact c15 y hy (by omega)
      · rw [q6 w hw, h2 (r + 5) (by omega) (by omega) (by omega) (by omega) (by omega), c16 w hw]
        by_cases e : isl N S (eA N w) = i
        · by_cases e2 : S 0 w = 0
          · rw [if_pos ⟨e2, e⟩, if_pos (by omega)]
          · rw [if_neg (fun z => e2 z.1), if_neg (by omega), if_pos (by omega)]
            unfold told
            rw [if_neg e2]
        · rw [if_neg (fun z => e z.2)]
          by_cases e3 : (isl N S (eA N w) : Int) < i
          · rw [if_pos e3, if_pos (by omega)]
          · rw [if_neg e3, if_neg (by omega)]
    · have hroot : isl N S i ≠ i := by omega
      have hno : ∀ s, s < nN N → isl N S s ≠ i := fun s hs e => hroot (by rw [← e]; exact isl_idem hs)
      have hfa : falls N S (i + 1) = falls N S i := by rw [falls, if_neg hroot]
      unfold f238_70
      refine wp_gd (by omega) (wp_i2 (m - 1) (by omega) ⟨by omega, by omega, by omega, c4, c5, ⟨c6, c7, ?_⟩, ⟨?_, ?_, ?_⟩, ⟨c12, ?_⟩, fun s hs hx => ?_, fun y hy hx => ?_, fun w hw => ?_⟩)
      · rw [show ((i : Int) + 1).toNat = i + 1 by omega, hfa]
        exact c8
      · rw [show ((i : Int) + 1).toNat = i + 1 by omega, hfa]
        exact c9
      · rw [show ((i : Int) + 1).toNat = i + 1 by omega, hfa]
        exact c10
      · rw [show ((i : Int) + 1).toNat = i + 1 by omega, hfa]
        exact c11
      · rw [c13]
        constructor
        · rintro ⟨w, z1, z2, z3⟩
          exact ⟨w, z1, by omega, z3⟩
        · rintro ⟨w, z1, z2, z3⟩
          have := hno _ (hN.cw w z1).1.2
          exact ⟨w, z1, by omega, z3⟩
      · have := hno s hs
        exact c14 s hs (by omega)
      · have := hno _ (hN.ck y hy).1.2
        exact c15 y hy (by omega)
      · have := hno _ (hN.cw w hw).1.2
        rw [c16 w hw]
        by_cases e3 : (isl N S (eA N w) : Int) < i
        · rw [if_pos e3, if_pos (by omega)]
        · rw [if_neg e3, if_neg (by omega)]
  · have ex : x.toNat = nN N := by omega
    rw [ex] at c8 c9 c10 c11
    refine k M3 c4 ⟨⟨c6, c7, fun s => by rw [dkF_falls hN hS s]; exact c8 s⟩, ⟨c9, c10⟩, ⟨c12, ?_⟩, fun s hs => ⟨c5 s hs, c14 s hs (by have := isl_lt (S := S) hs; omega)⟩, fun y hy => c15 y hy (by have := isl_lt (S := S) (hN.ck y hy).1.2; omega), fun w hw => ?_⟩
    · rw [c13]
      constructor
      · rintro ⟨w, z1, z2, z3⟩
        exact ⟨w, z1, z3⟩
      · rintro ⟨w, z1, z3⟩
        have := isl_lt (S := S) (hN.cw w z1).1.2
        exact ⟨w, z1, by omega, z3⟩
    · have := isl_lt (S := S) (hN.cw w hw).1.2
      rw [c16 w hw, if_pos (by omega)]
end RK
