/-! A net that grows. -/
theorem ms_at {M : Mm} {a i j : Nat} {v : Int} : ms M a i v a j = if j = i then v else M a j := by
  by_cases e : j = i
  · rw [if_pos e, e, ms_v]
  · rw [if_neg e, ms_i e]
/-- one more, set into its order -/
theorem ins_o {n p : Nat} {o o2 : Nat → Nat} {K K2 : Nat → Int} (h1 : ∀ j, j < n → o j < n) (h2 : ∀ i j, i < j → j < n → K (o i) < K (o j) ∨ (K (o i) = K (o j) ∧ o i < o j)) (h3 : ∀ s, s < n → ∃ j, j < n ∧ o j = s)
    (hp : p ≤ n) (g1 : ∀ j, j < p → o2 j = o j) (g2 : o2 p = n) (g3 : ∀ j, p < j → j ≤ n → o2 j = o (j - 1)) (hK : ∀ i, i < n → K2 i = K i) (hlo : ∀ j, j < p → K (o j) ≤ K2 n) (hhi : ∀ j, p ≤ j → j < n → K2 n < K (o j)) :
    (∀ j, j < n + 1 → o2 j < n + 1) ∧ (∀ i j, i < j → j < n + 1 → K2 (o2 i) < K2 (o2 j) ∨ (K2 (o2 i) = K2 (o2 j) ∧ o2 i < o2 j)) ∧ ∀ s, s < n + 1 → ∃ j, j < n + 1 ∧ o2 j = s := by
  refine ⟨fun j hj => ?_, fun i j hij hj => ?_, fun s hs => ?_⟩
  · by_cases c1 : j < p
    · rw [g1 j c1]; have := h1 j (by omega); omega
    · by_cases c2 : j = p
      · rw [c2, g2]; omega
      · rw [g3 j (by omega) (by omega)]; have := h1 (j - 1) (by omega); omega
  · by_cases c1 : j < p
    · rw [g1 j c1, g1 i (by omega), hK _ (h1 j (by omega)), hK _ (h1 i (by omega))]
      exact h2 i j hij (by omega)
    · by_cases c2 : j = p
      · subst c2
        rw [g2, g1 i hij, hK _ (h1 i (by omega))]
        have a1 := hlo i hij
        have a2 := h1 i (by omega)
        by_cases e : K (o i) = K2 n
        · exact Or.inr ⟨e, a2⟩
        · exact Or.inl (by omega)
      · rw [g3 j (by omega) (by omega), hK _ (h1 (j - 1) (by omega))]
        by_cases c3 : i < p
        · rw [g1 i c3, hK _ (h1 i (by omega))]
          exact h2 i (j - 1) (by omega) (by omega)
        · by_cases c4 : i = p
          · rw [c4, g2]
            exact Or.inl (hhi (j - 1) (by omega) (by omega))
          · rw [g3 i (by omega) (by omega), hK _ (h1 (i - 1) (by omega))]
            exact h2 (i - 1) (j - 1) (by omega) (by omega)
  · by_cases e : s = n
    · exact ⟨p, by omega, by rw [g2, e]⟩
    · obtain ⟨j, q1, q2⟩ := h3 s (by omega)
      by_cases c : j < p
      · exact ⟨j, by omega, by rw [g1 j c]; exact q2⟩
      · exact ⟨j + 1, by omega, by rw [g3 (j + 1) (by omega) (by omega), Nat.add_sub_cancel]; exact q2⟩
section SET8
variable {N N2 S S2 M M2 : Mm} {Ps : Nat → Mm} {l : List (Bool × Sem)}
theorem sV.mono (h : sV N S) (h1 : nN N ≤ nN N2) (h2 : nK N ≤ nK N2) : sV N2 S := by
  obtain ⟨a1, a2, a3, a4, a5, a6, a7⟩ := h
  exact ⟨a1, a2, a3, fun i hi => a4 i (by omega), a5, fun k hk => a6 k (by omega), a7⟩
theorem sC.mono {s : Nat} (h : sC N S M s) (h1 : nN N ≤ nN N2) (h2 : nK N ≤ nK N2) : sC N2 S M s := by
  obtain ⟨a1, a2, ⟨b1, b2, b3⟩, ⟨c1, c2, c3⟩, a5⟩ := h
  have e1 : (2 ^ nN N : Nat) ≤ 2 ^ nN N2 := Nat.pow_le_pow_right (by decide) h1
  have e2 : (2 ^ nK N : Nat) ≤ 2 ^ nK N2 := Nat.pow_le_pow_right (by decide) h2
  exact ⟨a1, a2, ⟨b1, by omega, b3⟩, ⟨c1, by omega, c3⟩, a5⟩
theorem IV.net0 (h : IV N S Ps l M) (h0 : S 6 1 = 0) (hNC : NC N2) (hcl : nCl N2 M2) (hmd : nMd N2 M2) (hV : sV N2 S2) (hC : sC N2 S2 M2 24) (hM : sM S2 M2 36000) (h6 : S2 6 1 = 0) (h152 : ∀ w, nW N2 ≤ w → w < 14 → M2 152 w = 1) (h3 : M2 3 3 = M 3 3 ∧ M2 3 4 = M 3 4)
    (hb : ∀ b, b ≠ 3 → (b < 11 ∨ 28 < b) → b ≠ 142 → b ≠ 144 → (b < 145 ∨ 155 < b) → M2 b = M b) (hj : ∀ j, j ≠ 3 → j ≠ 4 → j ≠ 5 → M2 142 j = M 142 j) (ha : M2 144 36069 = M 144 36069) : IV N2 S2 Ps l M2 := by
  have e1 : nwS S = 0 := by unfold nwS; omega
  have e2 : nwS S2 = 0 := by unfold nwS; omega
  unfold IV at h ⊢
  rw [e1] at h
  rw [e2]
  obtain ⟨⟨g1, g2, g3, g4, g5, g6, g7, g8, g9⟩, h2, ⟨t, d, h3'⟩, ⟨ev, h4⟩, h5, ⟨r, b, h7⟩, h8, ⟨z, h9⟩⟩ := h
  have ht : iTxt l t d M2 := h3'.to h3.2 (by rw [hb 2 (by decide) (by decide) (by decide) (by decide) (by decide)]) (fun b q => hb b (by omega) (by omega) (by omega) (by omega) (by omega)) (hj 6 (by decide) (by decide) (by decide)) (hj 52 (by decide) (by decide) (by decide))
  have hev : ev = 0 := by
    rcases Nat.eq_zero_or_pos ev with e | e
    · exact e
    · obtain ⟨_, _, _, m, q1, q2⟩ := h4.2.2.2 0 e
      omega
  have hsc : iScr N 0 M2 := h5.to (fun b q => hb b (by omega) (by omega) (by omega) (by omega) (by omega))
  have hev2 : iEv N 0 ev M2 := h4.to (fun b q => hb b (by omega) (by omega) (by omega) (by omega) (by omega)) (hj 7 (by decide) (by decide) (by decide))
  refine ⟨⟨hNC, hV, hcl, hmd, hC, hM, h152, ?_, ?_⟩, ⟨by rw [hb 0 (by decide) (by decide) (by decide) (by decide) (by decide)]; exact h2.1, fun m hm => absurd hm (Nat.not_lt_zero m)⟩, ⟨t, d, ht⟩, ⟨ev, hev2.1, hev2.2.1, hev2.2.2.1, fun j hj => absurd hj (by omega)⟩, ⟨fun m w hm => absurd hm (Nat.not_lt_zero m), fun k hk => ?_⟩, ⟨r, b, h7.to (fun b q => hb b (by omega) (by omega) (by omega) (by omega) (by omega)) (hj 8 (by decide) (by decide) (by decide)) (hj 9 (by decide) (by decide) (by decide))⟩, h8.to (fun b q => hb b (by omega) (by omega) (by omega) (by omega) (by omega)), ⟨z, h9.to (by rw [hb 132 (by decide) (by decide) (by decide) (by decide) (by decide)]) (hj 1 (by decide) (by decide) (by decide)) (fun b q => hb b (by omega) (by omega) (by omega) (by omega) (by omega))⟩⟩
  · rw [hj 2 (by decide) (by decide) (by decide), h6]
    exact ⟨g8.1.trans h0, by omega⟩
  · rw [h3.1, ha]
    exact g9
  · obtain ⟨a1, a2, a3, a4, a5⟩ := hsc.2 k hk
    have a30 : M2 190 k = -1 := by
      rcases a3 with e | ⟨t, q1, _⟩
      · exact e
      · exact absurd q1 (Nat.not_lt_zero t)
    refine ⟨a1, a2, Or.inl a30, a4, fun q => ?_⟩
    obtain ⟨s0, b1, b2, b3, b4⟩ := a5 q
    exact ⟨s0, b1, b2, b3, fun t ht => by omega⟩
/-! A wire. -/
theorem w211 {n : Nat} {x1 x2 x3 x4 x5 : Int} {P : Int × Mm → Prop} (hn : n < 14) (e : M 3 1 = n) (k : ∀ M2 : Mm, (∀ b, b ≠ 3 → (b < 14 ∨ 19 < b) → M2 b = M b) → M2 3 1 = (n : Int) + 1 → (∀ j, j ≠ 1 → M2 3 j = M 3 j) →
    ((∀ w, M2 14 w = if w = n then x1 else M 14 w) ∧ (∀ w, M2 15 w = if w = n then x2 else M 15 w) ∧ (∀ w, M2 16 w = if w = n then x3 else M 16 w) ∧ (∀ w, M2 17 w = if w = n then x4 else M 17 w) ∧ (∀ w, M2 18 w = if w = n then x5 else M 18 w) ∧ ∀ w, M2 19 w = if w = n then 1 else M 19 w) → P ((n : Int), M2)) : Wp (f211 x1 x2 x3 x4 x5 M) P := by
  unfold f211
  rw [e, Int.toNat_natCast]
  refine wp_gd (by omega) (wp_mlet (wp_mlet (wp_mlet (wp_mlet (wp_mlet (wp_mlet ?_))))))
  have e3 : ms (ms (ms (ms (ms (ms M 14 n x1) 15 n x2) 16 n x3) 17 n x4) 18 n x5) 19 n 1 3 = M 3 := by
    repeat rw [ms_a (by decide)]
  rw [e3, e]
  refine wp_gd (by omega) (wp_mlet (wp_some (k _ (fun b q1 q2 => ?_) ?_ (fun j hj => ?_) ⟨fun w => ?_, fun w => ?_, fun w => ?_, fun w => ?_, fun w => ?_, fun w => ?_⟩)))
  · rw [ms_a q1, ms_a (by omega), ms_a (by omega), ms_a (by omega), ms_a (by omega), ms_a (by omega), ms_a (by omega)]
  · rw [ms_v]
  · rw [ms_i hj, e3]
  · rw [ms_a (by decide), ms_a (by decide), ms_a (by decide), ms_a (by decide), ms_a (by decide), ms_a (by decide), ms_at]
  · rw [ms_a (by decide), ms_a (by decide), ms_a (by decide), ms_a (by decide), ms_a (by decide), ms_at, ms_a (by decide)]
  · rw [ms_a (by decide), ms_a (by decide), ms_a (by decide), ms_a (by decide), ms_at, ms_a (by decide), ms_a (by decide)]
  · rw [ms_a (by decide), ms_a (by decide), ms_a (by decide), ms_at, ms_a (by decide), ms_a (by decide), ms_a (by decide)]
  · rw [ms_a (by decide), ms_a (by decide), ms_at, ms_a (by decide), ms_a (by decide), ms_a (by decide), ms_a (by decide)]
  · rw [ms_a (by decide), ms_at, ms_a (by decide), ms_a (by decide), ms_a (by decide), ms_a (by decide), ms_a (by decide)]
theorem fin77 {x1 x2 x3 x4 x5 : Int} (h : IV N S Ps l M) (h0 : S 6 1 = 0) (hn : nW N < 14) (ha : 0 ≤ x1 ∧ x1 < nN N) (hb : 0 ≤ x2 ∧ x2 < nN N) (hab : x1 ≠ x2) (hx3 : 1 ≤ x3 ∧ x3 ≤ 3) (hx4 : 1 ≤ x4 ∧ x4 ≤ 5000) (hx5 : 1 ≤ x5 ∧ x5 ≤ 100000)
    (k1 : ∀ b, b ≠ 3 → (b < 14 ∨ 19 < b) → b ≠ 142 → (b < 147 ∨ 151 < b) → M2 b = M b) (k2 : M2 3 1 = (nW N : Int) + 1) (k3 : ∀ j, j ≠ 1 → M2 3 j = M 3 j)
    (k4 : (∀ w, M2 14 w = if w = nW N then x1 else M 14 w) ∧ (∀ w, M2 15 w = if w = nW N then x2 else M 15 w) ∧ (∀ w, M2 16 w = if w = nW N then x3 else M 16 w) ∧ (∀ w, M2 17 w = if w = nW N then x4 else M 17 w) ∧ (∀ w, M2 18 w = if w = nW N then x5 else M 18 w) ∧ ∀ w, M2 19 w = if w = nW N then 1 else M 19 w)
    (k5 : (∀ w, M2 147 w = if w = nW N then x1 else M 147 w) ∧ (∀ w, M2 148 w = if w = nW N then x2 else M 148 w) ∧ (∀ w, M2 149 w = if w = nW N then x3 else M 149 w) ∧ (∀ w, M2 150 w = if w = nW N then x4 else M 150 w) ∧ ∀ w, M2 151 w = if w = nW N then x5 else M 151 w)
    (k6 : M2 142 4 = (nW N : Int) + 1) (k7 : ∀ j, j ≠ 4 → M2 142 j = M 142 j) : IV M2 S Ps l M2 := by
  have hN := h.1.1
  have hcl := h.1.2.2.1
  have hmd := h.1.2.2.2.1
  have qN : nN M2 = nN N := by unfold nN; rw [k3 0 (by decide), hcl.1]
  have qK : nK M2 = nK N := by unfold nK; rw [k3 2 (by decide), hcl.1]
  have qW : nW M2 = nW N + 1 := by unfold nW at k2 ⊢; rw [k2]; omega
  have r : ∀ b, 11 ≤ b → b ≤ 23 → (b < 14 ∨ 19 < b) → M2 b = N b := fun b q1 q2 q3 => (k1 b (by omega) q3 (by omega) (by omega)).trans (hcl.2 b q1 q2)
  have eaK : ∀ k, aK M2 k = aK N k := fun k => by unfold aK; rw [r 20 (by decide) (by decide) (by decide)]
  have eoR : ∀ k, oR M2 k = oR N k := fun k => by unfold oR; rw [r 13 (by decide) (by decide) (by decide)]
  have eoP : ∀ k, oP M2 k = oP N k := fun k => by unfold oP; rw [r 23 (by decide) (by decide) (by decide)]
  have h8 := hN.n8
  have hcw := hN.cw
  refine h.net0 h0 ?_ ⟨rfl, fun _ _ _ => rfl⟩ ?_ (h.1.2.1.mono (by omega) (by omega)) ((h.1.2.2.2.2.1.mono (by omega) (by omega)).to (fun b q1 q2 => k1 b (by omega) (by omega) (by omega) (by omega))) (h.1.2.2.2.2.2.1.to (fun a q1 q2 => by rw [k1 144 (by decide) (by decide) (by decide) (by decide)])) h0 (fun w q1 q2 => by rw [k1 152 (by decide) (by decide) (by decide) (by decide)]; exact h.1.2.2.2.2.2.2.1 w (by omega) q2) ⟨k3 3 (by decide), k3 4 (by decide)⟩ (fun b q1 q2 q3 q4 q5 => k1 b q1 (by omega) q3 (by omega)) (fun j q1 q2 q3 => k7 j q2) (by rw [k1 144 (by decide) (by decide) (by decide) (by decide)])
  · refine ⟨⟨by rw [qN, k3 0 (by decide), hcl.1]; exact hN.n, by omega⟩, ⟨by rw [k2, qW]; omega, by omega⟩, ⟨by rw [qK, k3 2 (by decide), hcl.1]; exact hN.k, by rw [qK]; exact hN.k9⟩, fun i hi => ?_, fun w hw => ?_, fun k hk => ?_, ?_, ?_⟩
    · rw [r 11 (by decide) (by decide) (by decide), r 12 (by decide) (by decide) (by decide)]
      exact hN.cs i (by omega)
    · unfold eA eB
      rw [k4.1 w, k4.2.1 w, k4.2.2.1 w, k4.2.2.2.1 w, k4.2.2.2.2.1 w, k4.2.2.2.2.2 w, qN]
      by_cases e : w = nW N
      · rw [if_pos e, if_pos e, if_pos e, if_pos e, if_pos e, if_pos e]
        exact ⟨by omega, by omega, by omega, hx3, hx4, hx5, by omega⟩
      · rw [if_neg e, if_neg e, if_neg e, if_neg e, if_neg e, if_neg e, hcl.2 14 (by decide) (by decide), hcl.2 15 (by decide) (by decide), hcl.2 16 (by decide) (by decide), hcl.2 17 (by decide) (by decide), hcl.2 18 (by decide) (by decide), hcl.2 19 (by decide) (by decide)]
        exact hcw w (by omega)
    · rw [eaK, qN, r 20 (by decide) (by decide) (by decide), r 21 (by decide) (by decide) (by decide), r 22 (by decide) (by decide) (by decide)]
      exact hN.ck k (by omega)
    · unfold NCr befR
      rw [qN, r 12 (by decide) (by decide) (by decide), r 13 (by decide) (by decide) (by decide)]
      have h7 := hN.cr
      unfold NCr befR at h7
      refine ⟨fun j hj => by rw [eoR]; exact h7.1 j hj, fun i j q1 q2 => by rw [eoR, eoR]; exact h7.2.1 i j q1 q2, fun s hs => ?_⟩
      obtain ⟨j, q1, q2⟩ := h7.2.2 s hs
      exact ⟨j, q1, by rw [eoR]; exact q2⟩
    · unfold NCp befP
      rw [qK, r 22 (by decide) (by decide) (by decide), r 23 (by decide) (by decide) (by decide)]
      have h7 := hN.cp
      unfold NCp befP at h7
      refine ⟨fun j hj => by rw [eoP]; exact h7.1 j hj, fun i j q1 q2 => by rw [eoP, eoP]; exact h7.2.1 i j q1 q2, fun s hs => ?_⟩
      obtain ⟨j, q1, q2⟩ := h7.2.2 s hs
      exact ⟨j, q1, by rw [eoP]; exact q2⟩
  · obtain ⟨m1, m2, m3, m4, m5, m6⟩ := hmd
    refine ⟨?_, by rw [k6, k2], ?_, fun i hi => ?_, fun w hw => ?_, fun k hk => ?_⟩
    · rw [k7 3 (by decide), k3 0 (by decide), hcl.1]
      exact m1
    · rw [k7 5 (by decide), k3 2 (by decide), hcl.1]
      exact m3
    · rw [r 11 (by decide) (by decide) (by decide), r 12 (by decide) (by decide) (by decide), k1 145 (by decide) (by decide) (by decide) (by decide), k1 146 (by decide) (by decide) (by decide) (by decide)]
      exact m4 i (by omega)
    · rw [k4.1 w, k4.2.1 w, k4.2.2.1 w, k4.2.2.2.1 w, k4.2.2.2.2.1 w, k4.2.2.2.2.2 w, k5.1 w, k5.2.1 w, k5.2.2.1 w, k5.2.2.2.1 w, k5.2.2.2.2 w, k1 152 (by decide) (by decide) (by decide) (by decide)]
      by_cases e : w = nW N
      · simp only [if_pos e]
        exact ⟨trivial, trivial, trivial, trivial, trivial, h.1.2.2.2.2.2.2.1 w (by omega) (by omega)⟩
      · simp only [if_neg e]
        rw [hcl.2 14 (by decide) (by decide), hcl.2 15 (by decide) (by decide), hcl.2 16 (by decide) (by decide), hcl.2 17 (by decide) (by decide), hcl.2 18 (by decide) (by decide), hcl.2 19 (by decide) (by decide)]
        exact m5 w (by omega)
    · rw [r 20 (by decide) (by decide) (by decide), r 21 (by decide) (by decide) (by decide), r 22 (by decide) (by decide) (by decide), k1 153 (by decide) (by decide) (by decide) (by decide), k1 154 (by decide) (by decide) (by decide) (by decide), k1 155 (by decide) (by decide) (by decide) (by decide)]
      exact m6 k (by omega)

/-! Spots and works: one more set into the order. -/
theorem w210 {n : Nat} {x1 x2 : Int} {P : Int × Mm → Prop} (hn : n < 8) (e : M 3 0 = n) (h13 : ∀ j, j < n → 0 ≤ M 13 j ∧ M 13 j < n) (k : ∀ (M2 : Mm) (p : Nat), (∀ b, b ≠ 3 → b ≠ 11 → b ≠ 12 → b ≠ 13 → M2 b = M b) → M2 3 0 = (n : Int) + 1 → (∀ j, j ≠ 0 → M2 3 j = M 3 j) →
    ((∀ w, M2 11 w = if w = n then x1 else M 11 w) ∧ (∀ w, M2 12 w = if w = n then x2 else M 12 w)) → p ≤ n → (∀ j, j < p → M2 13 j = M 13 j) → M2 13 p = n → (∀ j, p < j → j ≤ n → M2 13 j = M 13 (j - 1)) → (0 < p → x2 ≤ M 12 (M 13 (p - 1)).toNat) → (∀ j, p ≤ j → j < n → M 12 (M 13 j).toNat < x2) → P ((n : Int), M2)) : Wp (f210 x1 x2 M) P := by
  unfold f210 f210_8
  rw [e]
  refine wp_lp2 (fun m x M2 => 0 ≤ x ∧ x ≤ n ∧ (m : Int) = x ∧ (∀ b, b ≠ 13 → M2 b = M b) ∧ (∀ t : Nat, (t : Int) < x → M2 13 t = M 13 t) ∧ (∀ t : Nat, x < t → t ≤ n → M2 13 t = M 13 (t - 1)) ∧ ∀ j : Nat, x ≤ j → j < n → M 12 (M 13 j).toNat < x2) n (by omega) ⟨by omega, by omega, rfl, fun _ _ => rfl, fun _ _ => rfl, fun t q1 q2 => by omega, fun j q1 q2 => by omega⟩ ?_
  rintro m x M2 ⟨a1, a2, a3, a4, a5, a6, a7⟩
  dsimp only
  obtain ⟨u, rfl⟩ := Int.eq_ofNat_of_zero_le a1
  have fin : (0 < u → x2 ≤ M 12 (M 13 (u - 1)).toNat) → Wp (f210_53 x1 x2 n u M2) P := fun hu => by
    unfold f210_53
    rw [Int.toNat_natCast, Int.toNat_natCast]
    refine wp_gd (by omega) (wp_mlet (wp_gd (by omega) (wp_mlet (wp_mlet ?_))))
    have e3 : ms (ms (ms M2 13 u n) 11 n x1) 12 n x2 3 = M 3 := by
      repeat rw [ms_a (by decide)]
      exact a4 3 (by decide)
    rw [e3, e]
    refine wp_gd (by omega) (wp_mlet (wp_some (k _ u (fun b q1 q2 q3 q4 => ?_) ?_ (fun j hj => ?_) ⟨fun w => ?_, fun w => ?_⟩ (by omega) (fun j q => ?_) ?_ (fun j q1 q2 => ?_) hu (fun j q1 q2 => a7 j (by omega) q2))))
    · rw [ms_a q1, ms_a q3, ms_a q2, ms_a q4]
      exact a4 b q4
    · rw [ms_v]
    · rw [ms_i hj, e3]
    · rw [ms_a (by decide), ms_a (by decide), ms_at, ms_a (by decide), a4 11 (by decide)]
    · rw [ms_a (by decide), ms_at, ms_a (by decide), ms_a (by decide), a4 12 (by decide)]
    · rw [ms_a (by decide), ms_a (by decide), ms_a (by decide), ms_i (by omega)]
      exact a5 j (by omega)
    · rw [ms_a (by decide), ms_a (by decide), ms_a (by decide), ms_v]
    · rw [ms_a (by decide), ms_a (by decide), ms_a (by decide), ms_i (by omega)]
      exact a6 j (by omega) q2
  unfold lb210_8
  refine wp_ite (fun c => ?_) (fun c => wp_o (fin (fun q => by omega)))
  have hu := h13 (u - 1) (by omega)
  have t1 : ((u : Int) - 1).toNat = u - 1 := by omega
  rw [t1, a5 (u - 1) (by omega), a4 12 (by decide), Int.toNat_natCast]
  refine wp_gd (by omega) (wp_gd (by omega) (wp_gd (by omega) (wp_ite (fun d => ?_) (fun d => wp_o (fin (fun q => by omega))))))
  refine wp_gd (by omega) (wp_mlet (wp_gd (by omega) (wp_i2 (m - 1) (by omega) ⟨by omega, by omega, by omega, fun b hb => (ms_a hb).trans (a4 b hb), fun t ht => ?_, fun t q1 q2 => ?_, fun j q1 q2 => ?_⟩)))
  · rw [ms_i (by omega)]
    exact a5 t (by omega)
  · by_cases e2 : t = u
    · rw [e2, ms_v]
    · rw [ms_i e2]
      exact a6 t (by omega) q2
  · by_cases e2 : j = u - 1
    · rw [e2]
      exact d
    · exact a7 j (by omega) q2
theorem w212 {n : Nat} {x1 x2 x3 : Int} {P : Int × Mm → Prop} (hn : n < 9) (e : M 3 2 = n) (h13 : ∀ j, j < n → 0 ≤ M 23 j ∧ M 23 j < n) (k : ∀ (M2 : Mm) (p : Nat), (∀ b, b ≠ 3 → b ≠ 20 → b ≠ 21 → b ≠ 22 → b ≠ 23 → M2 b = M b) → M2 3 2 = (n : Int) + 1 → (∀ j, j ≠ 2 → M2 3 j = M 3 j) →
    ((∀ w, M2 20 w = if w = n then x1 else M 20 w) ∧ (∀ w, M2 21 w = if w = n then x2 else M 21 w) ∧ (∀ w, M2 22 w = if w = n then x3 else M 22 w)) → p ≤ n → (∀ j, j < p → M2 23 j = M 23 j) → M2 23 p = n → (∀ j, p < j → j ≤ n → M2 23 j = M 23 (j - 1)) → (0 < p → M 22 (M 23 (p - 1)).toNat ≤ x3) → (∀ j, p ≤ j → j < n → x3 < M 22 (M 23 j).toNat) → P ((n : Int), M2)) : Wp (f212 x1 x2 x3 M) P := by
  unfold f212 f212_10
  rw [e]
  refine wp_lp2 (fun m x M2 => 0 ≤ x ∧ x ≤ n ∧ (m : Int) = x ∧ (∀ b, b ≠ 23 → M2 b = M b) ∧ (∀ t : Nat, (t : Int) < x → M2 23 t = M 23 t) ∧ (∀ t : Nat, x < t → t ≤ n → M2 23 t = M 23 (t - 1)) ∧ ∀ j : Nat, x ≤ j → j < n → x3 < M 22 (M 23 j).toNat) n (by omega) ⟨by omega, by omega, rfl, fun _ _ => rfl, fun _ _ => rfl, fun t q1 q2 => by omega, fun j q1 q2 => by omega⟩ ?_
  rintro m x M2 ⟨a1, a2, a3, a4, a5, a6, a7⟩
  dsimp only
  obtain ⟨u, rfl⟩ := Int.eq_ofNat_of_zero_le a1
  have fin : (0 < u → M 22 (M 23 (u - 1)).toNat ≤ x3) → Wp (f212_55 x1 x2 x3 n u M2) P := fun hu => by
    unfold f212_55
    rw [Int.toNat_natCast, Int.toNat_natCast]
    refine wp_gd (by omega) (wp_mlet (wp_gd (by omega) (wp_mlet (wp_mlet (wp_mlet ?_)))))
    have e3 : ms (ms (ms (ms M2 23 u n) 20 n x1) 21 n x2) 22 n x3 3 = M 3 := by
      repeat rw [ms_a (by decide)]
      exact a4 3 (by decide)
    rw [e3, e]
    refine wp_gd (by omega) (wp_mlet (wp_some (k _ u (fun b q1 q2 q3 q4 q5 => ?_) ?_ (fun j hj => ?_) ⟨fun w => ?_, fun w => ?_, fun w => ?_⟩ (by omega) (fun j q => ?_) ?_ (fun j q1 q2 => ?_) hu (fun j q1 q2 => a7 j (by omega) q2))))
    · rw [ms_a q1, ms_a q4, ms_a q3, ms_a q2, ms_a q5]
      exact a4 b q5
    · rw [ms_v]
    · rw [ms_i hj, e3]
    · rw [ms_a (by decide), ms_a (by decide), ms_a (by decide), ms_at, ms_a (by decide), a4 20 (by decide)]
    · rw [ms_a (by decide), ms_a (by decide), ms_at, ms_a (by decide), ms_a (by decide), a4 21 (by decide)]
    · rw [ms_a (by decide), ms_at, ms_a (by decide), ms_a (by decide), ms_a (by decide), a4 22 (by decide)]
    · rw [ms_a (by decide), ms_a (by decide), ms_a (by decide), ms_a (by decide), ms_i (by omega)]
      exact a5 j (by omega)
    · rw [ms_a (by decide), ms_a (by decide), ms_a (by decide), ms_a (by decide), ms_v]
    · rw [ms_a (by decide), ms_a (by decide), ms_a (by decide), ms_a (by decide), ms_i (by omega)]
      exact a6 j (by omega) q2
  unfold lb212_10
  refine wp_ite (fun c => ?_) (fun c => wp_o (fin (fun q => by omega)))
  have hu := h13 (u - 1) (by omega)
  have t1 : ((u : Int) - 1).toNat = u - 1 := by omega
  rw [t1, a5 (u - 1) (by omega), a4 22 (by decide), Int.toNat_natCast]
  refine wp_gd (by omega) (wp_gd (by omega) (wp_gd (by omega) (wp_ite (fun d => ?_) (fun d => wp_o (fin (fun q => by omega))))))
  refine wp_gd (by omega) (wp_mlet (wp_gd (by omega) (wp_i2 (m - 1) (by omega) ⟨by omega, by omega, by omega, fun b hb => (ms_a hb).trans (a4 b hb), fun t ht => ?_, fun t q1 q2 => ?_, fun j q1 q2 => ?_⟩)))
  · rw [ms_i (by omega)]
    exact a5 t (by omega)
  · by_cases e2 : t = u
    · rw [e2, ms_v]
    · rw [ms_i e2]
      exact a6 t (by omega) q2
  · by_cases e2 : j = u - 1
    · rw [e2]
      exact d
    · exact a7 j (by omega) q2
theorem fin71 {p : Nat} {x1 x2 x3 : Int} (h : IV N S Ps l M) (h0 : S 6 1 = 0) (hn : nN N < 8) (ha : 0 ≤ x1 ∧ x1 < 4) (hx2 : 0 ≤ x2 ∧ x2 ≤ 2000) (hx3 : 0 ≤ x3 ∧ x3 ≤ 9)
    (k1 : ∀ b, b ≠ 3 → b ≠ 11 → b ≠ 12 → b ≠ 13 → b ≠ 25 → b ≠ 142 → b ≠ 144 → b ≠ 145 → b ≠ 146 → M2 b = M b) (k2 : M2 3 0 = (nN N : Int) + 1) (k3 : ∀ j, j ≠ 0 → M2 3 j = M 3 j)
    (k4 : (∀ w, M2 11 w = if w = nN N then x1 else M 11 w) ∧ (∀ w, M2 12 w = if w = nN N then x3 else M 12 w))
    (hp : p ≤ nN N) (g1 : ∀ j, j < p → M2 13 j = M 13 j) (g2 : M2 13 p = nN N) (g3 : ∀ j, p < j → j ≤ nN N → M2 13 j = M 13 (j - 1)) (g4 : 0 < p → x3 ≤ M 12 (M 13 (p - 1)).toNat) (g5 : ∀ j, p ≤ j → j < nN N → M 12 (M 13 j).toNat < x3)
    (k5 : (∀ w, M2 145 w = if w = nN N then x1 else M 145 w) ∧ ∀ w, M2 146 w = if w = nN N then x3 else M 146 w)
    (k8 : (∀ w, M2 25 w = if w = nN N then x2 else M 25 w) ∧ M2 144 (36059 + nN N) = x2 ∧ ∀ a, a ≠ 36059 + nN N → M2 144 a = M 144 a)
    (k6 : M2 142 3 = (nN N : Int) + 1) (k7 : ∀ j, j ≠ 3 → M2 142 j = M 142 j) : IV M2 (ms S 3 (nN N) x2) Ps l M2 := by
  have hN := h.1.1
  have hcl := h.1.2.2.1
  have hmd := h.1.2.2.2.1
  have qN : nN M2 = nN N + 1 := by unfold nN at k2 ⊢; rw [k2]; omega
  have qK : nK M2 = nK N := by unfold nK; rw [k3 2 (by decide), hcl.1]
  have qW : nW M2 = nW N := by unfold nW; rw [k3 1 (by decide), hcl.1]
  have r : ∀ b, 14 ≤ b → b ≤ 23 → M2 b = N b := fun b q1 q2 => (k1 b (by omega) (by omega) (by omega) (by omega) (by omega) (by omega) (by omega) (by omega) (by omega)).trans (hcl.2 b (by omega) q2)
  have eaK : ∀ k, aK M2 k = aK N k := fun k => by unfold aK; rw [r 20 (by decide) (by decide)]
  have eoP : ∀ k, oP M2 k = oP N k := fun k => by unfold oP; rw [r 23 (by decide) (by decide)]
  have eeA : ∀ k, eA M2 k = eA N k := fun k => by unfold eA; rw [r 14 (by decide) (by decide)]
  have eeB : ∀ k, eB M2 k = eB N k := fun k => by unfold eB; rw [r 15 (by decide) (by decide)]
  have c11 : M 11 = N 11 := hcl.2 11 (by decide) (by decide)
  have c12 : M 12 = N 12 := hcl.2 12 (by decide) (by decide)
  have c13 : M 13 = N 13 := hcl.2 13 (by decide) (by decide)
  rw [c11, c12] at k4
  rw [c13] at g1 g3
  rw [c12, c13] at g4 g5
  have b1 : ∀ b, b ≠ 3 → (b < 11 ∨ 28 < b) → b ≠ 142 → b ≠ 144 → (b < 145 ∨ 155 < b) → M2 b = M b := fun b q1 q2 q3 q4 q5 => k1 b (by omega) (by omega) (by omega) (by omega) (by omega) (by omega) (by omega) (by omega) (by omega)
  have hV2 : sV M2 (ms S 3 (nN N) x2) := (h.1.2.1.mono (by omega) (by omega)).up (by omega) (by omega) (by omega) (fun _ => hx2) (by omega) (by omega) (by omega)
  have hS2 : sC M2 (ms S 3 (nN N) x2) M2 24 := (h.1.2.2.2.2.1.mono (N2 := M2) (by omega) (by omega)).up3 (fun x _ => k8.1 x) (fun b q1 q2 q3 => k1 b (by omega) (by omega) (by omega) (by omega) (by omega) (by omega) (by omega) (by omega) (by omega))
  have hM2 : sM (ms S 3 (nN N) x2) M2 36000 := h.1.2.2.2.2.2.1.up (r := 3) (i := nN N) (by decide) (by have := offlim; omega) (by have := offlim; rw [show 36000 + offS 3 + nN N = 36059 + nN N by omega]; exact k8.2.1) (fun a q1 q2 q3 => k8.2.2 a (by have := offlim; omega))
  refine h.net0 h0 ?_ ⟨rfl, fun _ _ _ => rfl⟩ ?_ hV2 hS2 hM2 (by rw [ms_a (by decide)]; exact h0) (fun w q1 q2 => by rw [k1 152 (by decide) (by decide) (by decide) (by decide) (by decide) (by decide) (by decide) (by decide) (by decide)]; exact h.1.2.2.2.2.2.2.1 w (by omega) q2) ⟨k3 3 (by decide), k3 4 (by decide)⟩ b1 (fun j q1 q2 q3 => k7 j q1) (k8.2.2 _ (by omega))
  · refine ⟨⟨by rw [k2, qN]; omega, by omega⟩, ⟨by rw [qW, k3 1 (by decide), hcl.1]; exact hN.w, by rw [qW]; exact hN.w14⟩, ⟨by rw [qK, k3 2 (by decide), hcl.1]; exact hN.k, by rw [qK]; exact hN.k9⟩, fun i hi => ?_, fun w hw => ?_, fun k hk => ?_, ?_, ?_⟩
    · rw [k4.1 i, k4.2 i]
      by_cases e : i = nN N
      · simp only [if_pos e]
        omega
      · simp only [if_neg e]
        exact hN.cs i (by omega)
    · have := hN.cw w (by omega)
      rw [eeA, eeB, r 14 (by decide) (by decide), r 15 (by decide) (by decide), r 16 (by decide) (by decide), r 17 (by decide) (by decide), r 18 (by decide) (by decide), r 19 (by decide) (by decide)]
      exact ⟨⟨this.1.1, by omega⟩, ⟨this.2.1.1, by omega⟩, this.2.2⟩
    · have := hN.ck k (by omega)
      rw [eaK, r 20 (by decide) (by decide), r 21 (by decide) (by decide), r 22 (by decide) (by decide)]
      exact ⟨⟨this.1.1, by omega⟩, this.2⟩
    · have h7 := hN.cr
      have st : ∀ j, j < nN N → N 12 (oR N j) ≤ 9 := fun j hj => (hN.cs _ (h7.1 j hj).2).2.2.2
      have key := ins_o (n := nN N) (p := p) (o := oR N) (o2 := oR M2) (K := fun i => - N 12 i) (K2 := fun i => - M2 12 i) (fun j hj => (h7.1 j hj).2) (fun i j q1 q2 => by
        rcases h7.2.1 i j q1 q2 with e | ⟨e1, e2⟩
        · exact Or.inl (by omega)
        · exact Or.inr ⟨by omega, e2⟩) h7.2.2 hp (fun j q => by unfold oR; rw [g1 j q]) (by unfold oR; rw [g2, Int.toNat_natCast]) (fun j q1 q2 => by unfold oR; rw [g3 j q1 q2]) (fun i hi => by
          show - M2 12 i = - N 12 i
          rw [k4.2 i, if_neg (by omega)]) (fun j q => by
          show - N 12 (oR N j) ≤ - M2 12 (nN N)
          rw [k4.2 (nN N), if_pos rfl]
          have a1 := g4 (by omega)
          by_cases e : j = p - 1
          · rw [e]
            unfold oR
            omega
          · have := h7.2.1 j (p - 1) (by omega) (by omega)
            unfold befR at this
            have e3 : oR N (p - 1) = (N 13 (p - 1)).toNat := rfl
            rw [← e3] at a1
            omega) (fun j q1 q2 => by
          show - M2 12 (nN N) < - N 12 (oR N j)
          rw [k4.2 (nN N), if_pos rfl]
          have a1 := g5 j q1 q2
          unfold oR
          omega)
      obtain ⟨y1, y2, y3⟩ := key
      refine ⟨fun j hj => ⟨?_, by have := y1 j (by omega); omega⟩, fun i j q1 q2 => ?_, fun s hs => ?_⟩
      · have : 0 ≤ M2 13 j := by
          by_cases c1 : j < p
          · rw [g1 j c1, (h7.1 j (by omega)).1]; omega
          · by_cases c2 : j = p
            · rw [c2, g2]; omega
            · rw [g3 j (by omega) (by omega), (h7.1 (j - 1) (by omega)).1]; omega
        unfold oR
        omega
      · unfold befR
        rcases y2 i j q1 (by omega) with e | ⟨e1, e2⟩
        · exact Or.inl (by omega)
        · exact Or.inr ⟨by omega, e2⟩
      · obtain ⟨j, q1, q2⟩ := y3 s (by omega)
        exact ⟨j, by omega, q2⟩
    · unfold NCp befP
      rw [qK, r 22 (by decide) (by decide), r 23 (by decide) (by decide)]
      have h7 := hN.cp
      unfold NCp befP at h7
      refine ⟨fun j hj => by rw [eoP]; exact h7.1 j hj, fun i j q1 q2 => by rw [eoP, eoP]; exact h7.2.1 i j q1 q2, fun s hs => ?_⟩
      obtain ⟨j, q1, q2⟩ := h7.2.2 s hs
      exact ⟨j, q1, by rw [eoP]; exact q2⟩
  · obtain ⟨m1, m2, m3, m4, m5, m6⟩ := hmd
    refine ⟨by rw [k6, k2], ?_, ?_, fun i hi => ?_, fun w hw => ?_, fun k hk => ?_⟩
    · rw [k7 4 (by decide), k3 1 (by decide), hcl.1]
      exact m2
    · rw [k7 5 (by decide), k3 2 (by decide), hcl.1]
      exact m3
    · rw [k4.1 i, k4.2 i, k5.1 i, k5.2 i]
      by_cases e : i = nN N
      · simp only [if_pos e]
        exact ⟨trivial, trivial⟩
      · simp only [if_neg e]
        exact m4 i (by omega)
    · have e5 : ∀ b, 147 ≤ b → b ≤ 152 → M2 b = M b := fun b q1 q2 => k1 b (by omega) (by omega) (by omega) (by omega) (by omega) (by omega) (by omega) (by omega) (by omega)
      rw [r 14 (by decide) (by decide), r 15 (by decide) (by decide), r 16 (by decide) (by decide), r 17 (by decide) (by decide), r 18 (by decide) (by decide), r 19 (by decide) (by decide), e5 147 (by decide) (by decide), e5 148 (by decide) (by decide), e5 149 (by decide) (by decide), e5 150 (by decide) (by decide), e5 151 (by decide) (by decide), e5 152 (by decide) (by decide)]
      exact m5 w (by omega)
    · have e5 : ∀ b, 153 ≤ b → b ≤ 155 → M2 b = M b := fun b q1 q2 => k1 b (by omega) (by omega) (by omega) (by omega) (by omega) (by omega) (by omega) (by omega) (by omega)
      rw [r 20 (by decide) (by decide), r 21 (by decide) (by decide), r 22 (by decide) (by decide), e5 153 (by decide) (by decide), e5 154 (by decide) (by decide), e5 155 (by decide) (by decide)]
      exact m6 k (by omega)
end SET8

section SET9
variable {N N2 S S2 M M2 : Mm} {Ps : Nat → Mm} {l : List (Bool × Sem)}
theorem fin81 {p : Nat} {x1 x2 x3 : Int} (h : IV N S Ps l M) (h0 : S 6 1 = 0) (hn : nK N < 9) (ha : 0 ≤ x1 ∧ x1 < nN N) (hx2 : 1 ≤ x2 ∧ x2 ≤ 5000) (hx3 : 0 ≤ x3 ∧ x3 ≤ 99)
    (k1 : ∀ b, b ≠ 3 → (b < 20 ∨ 24 < b) → b ≠ 142 → b ≠ 144 → (b < 153 ∨ 155 < b) → M2 b = M b) (k2 : M2 3 2 = (nK N : Int) + 1) (k3 : ∀ j, j ≠ 2 → M2 3 j = M 3 j)
    (k4 : (∀ w, M2 20 w = if w = nK N then x1 else M 20 w) ∧ (∀ w, M2 21 w = if w = nK N then x2 else M 21 w) ∧ ∀ w, M2 22 w = if w = nK N then x3 else M 22 w)
    (hp : p ≤ nK N) (g1 : ∀ j, j < p → M2 23 j = M 23 j) (g2 : M2 23 p = nK N) (g3 : ∀ j, p < j → j ≤ nK N → M2 23 j = M 23 (j - 1)) (g4 : 0 < p → M 22 (M 23 (p - 1)).toNat ≤ x3) (g5 : ∀ j, p ≤ j → j < nK N → x3 < M 22 (M 23 j).toNat)
    (k5 : (∀ w, M2 153 w = if w = nK N then x1 else M 153 w) ∧ (∀ w, M2 154 w = if w = nK N then x2 else M 154 w) ∧ ∀ w, M2 155 w = if w = nK N then x3 else M 155 w)
    (k8 : M2 24 = ms M 24 2 (bOr (M 24 2) (bShl 1 (nK N : Int))) 24 ∧ M2 144 (36042 + nK N) = 1 ∧ ∀ a, a ≠ 36042 + nK N → M2 144 a = M 144 a)
    (k6 : M2 142 5 = (nK N : Int) + 1) (k7 : ∀ j, j ≠ 5 → M2 142 j = M 142 j) : IV M2 (ms S 5 (nK N) 1) Ps l M2 := by
  have hN := h.1.1
  have hcl := h.1.2.2.1
  have hmd := h.1.2.2.2.1
  have qN : nN M2 = nN N := by unfold nN; rw [k3 0 (by decide), hcl.1]
  have qK : nK M2 = nK N + 1 := by unfold nK at k2 ⊢; rw [k2]; omega
  have qW : nW M2 = nW N := by unfold nW; rw [k3 1 (by decide), hcl.1]
  have r : ∀ b, 11 ≤ b → b < 20 → M2 b = N b := fun b q1 q2 => (k1 b (by omega) (by omega) (by omega) (by omega) (by omega)).trans (hcl.2 b (by omega) (by omega))
  have eoR : ∀ k, oR M2 k = oR N k := fun k => by unfold oR; rw [r 13 (by decide) (by decide)]
  have eeA : ∀ k, eA M2 k = eA N k := fun k => by unfold eA; rw [r 14 (by decide) (by decide)]
  have eeB : ∀ k, eB M2 k = eB N k := fun k => by unfold eB; rw [r 15 (by decide) (by decide)]
  have c20 : M 20 = N 20 := hcl.2 20 (by decide) (by decide)
  have c21 : M 21 = N 21 := hcl.2 21 (by decide) (by decide)
  have c22 : M 22 = N 22 := hcl.2 22 (by decide) (by decide)
  have c23 : M 23 = N 23 := hcl.2 23 (by decide) (by decide)
  rw [c20, c21, c22] at k4
  rw [c23] at g1 g3
  rw [c22, c23] at g4 g5
  have b1 : ∀ b, b ≠ 3 → (b < 11 ∨ 28 < b) → b ≠ 142 → b ≠ 144 → (b < 145 ∨ 155 < b) → M2 b = M b := fun b q1 q2 q3 q4 q5 => k1 b (by omega) (by omega) (by omega) (by omega) (by omega)
  have hV2 : sV M2 (ms S 5 (nK N) 1) := (h.1.2.1.mono (by omega) (by omega)).up (by omega) (by omega) (by omega) (by omega) (by omega) (fun _ => ⟨Or.inr rfl, by omega⟩) (by omega)
  have hS2 : sC M2 (ms S 5 (nK N) 1) M2 24 := by
    have hs := h.1.2.2.2.2.1.mono (N2 := M2) (by omega) (by omega)
    have hbt := h.1.2.2.2.2.1.2.2.2.1
    have pk := pw2_k hN
    have pl : (2 ^ (nK N + 1) : Nat) = 2 * 2 ^ nK N := by rw [Nat.pow_succ]; omega
    have hbl : bShl 1 (nK N : Int) = (2 ^ nK N : Nat) := by rw [bL (by omega) (by omega), Int.toNat_natCast]
    have hor : bOr (M 24 2) (bShl 1 (nK N : Int)) < (2 ^ (nK N + 1) : Nat) ∧ 0 ≤ bOr (M 24 2) (bShl 1 (nK N : Int)) := by
      have := bO_lt (n := nK N + 1) (x := M 24 2) (y := bShl 1 (nK N : Int)) (by omega) hbt.1 (by omega) (by omega) (by omega)
      omega
    refine hs.up45 (Or.inr rfl) ⟨?_, fun x => ?_⟩ (fun j hj => ?_) (fun b q1 q2 => k1 b (by omega) (by omega) (by omega) (by omega) (by omega))
    · rw [k8.1, ms_v, if_neg (by decide), qK]
      exact ⟨hor.2, hor.1⟩
    · rw [k8.1, ms_v, tb_or hbt.1 (by omega) (by omega) (by omega), tb_pow (by omega) (by omega), Int.toNat_natCast]
      by_cases e : x = nK N
      · rw [if_pos e, e, decide_eq_true rfl, Bool.or_true]
        rfl
      · rw [if_neg e, decide_eq_false (fun z => e z.symm), Bool.or_false]
        exact (hbt.2.2 x).symm
    · rw [k8.1, ms_i (by omega)]
  have hM2 : sM (ms S 5 (nK N) 1) M2 36000 := h.1.2.2.2.2.2.1.up (r := 5) (i := nK N) (by decide) (by have := offlim; omega) (by have := offlim; rw [show 36000 + offS 5 + nK N = 36042 + nK N by omega]; exact k8.2.1) (fun a q1 q2 q3 => k8.2.2 a (by have := offlim; omega))
  refine h.net0 h0 ?_ ⟨rfl, fun _ _ _ => rfl⟩ ?_ hV2 hS2 hM2 (by rw [ms_a (by decide)]; exact h0) (fun w q1 q2 => by rw [k1 152 (by decide) (by decide) (by decide) (by decide) (by decide)]; exact h.1.2.2.2.2.2.2.1 w (by omega) q2) ⟨k3 3 (by decide), k3 4 (by decide)⟩ b1 (fun j q1 q2 q3 => k7 j q3) (k8.2.2 _ (by omega))
  · refine ⟨⟨by rw [qN, k3 0 (by decide), hcl.1]; exact hN.n, by rw [qN]; exact hN.n8⟩, ⟨by rw [qW, k3 1 (by decide), hcl.1]; exact hN.w, by rw [qW]; exact hN.w14⟩, ⟨by rw [k2, qK]; omega, by omega⟩, fun i hi => ?_, fun w hw => ?_, fun k hk => ?_, ?_, ?_⟩
    · rw [r 11 (by decide) (by decide), r 12 (by decide) (by decide)]
      exact hN.cs i (by omega)
    · rw [eeA, eeB, qN, r 14 (by decide) (by decide), r 15 (by decide) (by decide), r 16 (by decide) (by decide), r 17 (by decide) (by decide), r 18 (by decide) (by decide), r 19 (by decide) (by decide)]
      exact hN.cw w (by omega)
    · unfold aK
      rw [k4.1 k, k4.2.1 k, k4.2.2 k, qN]
      by_cases e : k = nK N
      · simp only [if_pos e]
        omega
      · simp only [if_neg e]
        exact hN.ck k (by omega)
    · unfold NCr befR
      rw [qN, r 12 (by decide) (by decide), r 13 (by decide) (by decide)]
      have h7 := hN.cr
      unfold NCr befR at h7
      refine ⟨fun j hj => by rw [eoR]; exact h7.1 j hj, fun i j q1 q2 => by rw [eoR, eoR]; exact h7.2.1 i j q1 q2, fun s hs => ?_⟩
      obtain ⟨j, q1, q2⟩ := h7.2.2 s hs
      exact ⟨j, q1, by rw [eoR]; exact q2⟩
    · have h7 := hN.cp
      have key := ins_o (n := nK N) (p := p) (o := oP N) (o2 := oP M2) (K := fun i => N 22 i) (K2 := fun i => M2 22 i) (fun j hj => (h7.1 j hj).2) (fun i j q1 q2 => h7.2.1 i j q1 q2) h7.2.2 hp (fun j q => by unfold oP; rw [g1 j q]) (by unfold oP; rw [g2, Int.toNat_natCast]) (fun j q1 q2 => by unfold oP; rw [g3 j q1 q2]) (fun i hi => by
          show M2 22 i = N 22 i
          rw [k4.2.2 i, if_neg (by omega)]) (fun j q => by
          show N 22 (oP N j) ≤ M2 22 (nK N)
          rw [k4.2.2 (nK N), if_pos rfl]
          have a1 := g4 (by omega)
          by_cases e : j = p - 1
          · rw [e]
            unfold oP
            omega
          · have := h7.2.1 j (p - 1) (by omega) (by omega)
            unfold befP at this
            have e3 : oP N (p - 1) = (N 23 (p - 1)).toNat := rfl
            rw [← e3] at a1
            omega) (fun j q1 q2 => by
          show M2 22 (nK N) < N 22 (oP N j)
          rw [k4.2.2 (nK N), if_pos rfl]
          have a1 := g5 j q1 q2
          unfold oP
          omega)
      obtain ⟨y1, y2, y3⟩ := key
      refine ⟨fun j hj => ⟨?_, by have := y1 j (by omega); omega⟩, fun i j q1 q2 => y2 i j q1 (by omega), fun s hs => ?_⟩
      · have : 0 ≤ M2 23 j := by
          by_cases c1 : j < p
          · rw [g1 j c1, (h7.1 j (by omega)).1]; omega
          · by_cases c2 : j = p
            · rw [c2, g2]; omega
            · rw [g3 j (by omega) (by omega), (h7.1 (j - 1) (by omega)).1]; omega
        unfold oP
        omega
      · obtain ⟨j, q1, q2⟩ := y3 s (by omega)
        exact ⟨j, by omega, q2⟩
  · obtain ⟨m1, m2, m3, m4, m5, m6⟩ := hmd
    refine ⟨?_, ?_, by rw [k6, k2], fun i hi => ?_, fun w hw => ?_, fun k hk => ?_⟩
    · rw [k7 3 (by decide), k3 0 (by decide), hcl.1]
      exact m1
    · rw [k7 4 (by decide), k3 1 (by decide), hcl.1]
      exact m2
    · have e5 : ∀ b, 145 ≤ b → b ≤ 152 → M2 b = M b := fun b q1 q2 => k1 b (by omega) (by omega) (by omega) (by omega) (by omega)
      rw [r 11 (by decide) (by decide), r 12 (by decide) (by decide), e5 145 (by decide) (by decide), e5 146 (by decide) (by decide)]
      exact m4 i (by omega)
    · have e5 : ∀ b, 147 ≤ b → b ≤ 152 → M2 b = M b := fun b q1 q2 => k1 b (by omega) (by omega) (by omega) (by omega) (by omega)
      rw [r 14 (by decide) (by decide), r 15 (by decide) (by decide), r 16 (by decide) (by decide), r 17 (by decide) (by decide), r 18 (by decide) (by decide), r 19 (by decide) (by decide), e5 147 (by decide) (by decide), e5 148 (by decide) (by decide), e5 149 (by decide) (by decide), e5 150 (by decide) (by decide), e5 151 (by decide) (by decide), e5 152 (by decide) (by decide)]
      exact m5 w (by omega)
    · rw [k4.1 k, k4.2.1 k, k4.2.2 k, k5.1 k, k5.2.1 k, k5.2.2 k]
      by_cases e : k = nK N
      · simp only [if_pos e]
        exact ⟨trivial, trivial, trivial⟩
      · simp only [if_neg e]
        rw [← c20, ← c21, ← c22]
        rw [c20, c21, c22]
        exact m6 k (by omega)
theorem c77 {x1 x2 x3 x4 x5 : Int} (h : IV N S Ps l M) : Wp (f77 x1 x2 x3 x4 x5 M) (fun r => JJ r.1 (f185 x1 x2 x3 x4 x5 r.2)) := by
  have h14 := h.1.1.w14
  have h8 := h.1.1.n8
  have h9 := h.1.1.k9
  have hcl := h.1.2.2.1
  have e24 : M 24 0 = S 6 1 := h.1.2.2.2.2.1.2.2.2.2.2
  have e42 : M 142 2 = S 6 1 := h.1.2.2.2.2.2.2.2.1.1
  have p6 : 0 ≤ S 6 1 := h.1.2.1.2.2.2.2.2.2.2.1
  unfold f77
  by_cases h_t : S 6 1 = 0
  · by_cases h_n : nW N < 14
    · by_cases h_a : 0 ≤ x1 ∧ x1 < nN N
      · by_cases h_b : 0 ≤ x2 ∧ x2 < nN N
        · by_cases h_d : ¬ x1 = x2
          · by_cases h_u : 1 ≤ x3 ∧ x3 ≤ 3
            · by_cases h_v : 1 ≤ x4 ∧ x4 ≤ 5000
              · by_cases h_w : 1 ≤ x5 ∧ x5 ≤ 100000
                · refine wp_pos (e24.trans h_t) ?_
                  refine wp_pos (by rw [h.e31]; omega) ?_
                  refine wp_bind (w214 h.e30 ?_)
                  rw [if_pos h_a]
                  refine wp_neg (by decide) ?_
                  refine wp_bind (w214 h.e30 ?_)
                  rw [if_pos h_b]
                  refine wp_neg (by decide) ?_
                  refine wp_neg h_d ?_
                  refine wp_bind (w80 ?_)
                  rw [if_pos h_u]
                  refine wp_neg (by decide) ?_
                  refine wp_bind (w80 ?_)
                  rw [if_pos h_v]
                  refine wp_neg (by decide) ?_
                  refine wp_bind (w80 ?_)
                  rw [if_pos h_w]
                  refine wp_neg (by decide) ?_
                  refine wp_obnd (w211 h_n h.e31 (fun M2 a1 a2 a3 a4 => wp_some ?_))
                  show JJ (nW N) (f185 x1 x2 x3 x4 x5 (M2))
                  unfold f185
                  have f142 : M2 142 = M 142 := a1 142 (by decide) (by decide)
                  refine wp_neg (by rw [f142, e42]; omega) ?_
                  refine wp_neg (by rw [f142, h.m4]; omega) ?_
                  refine wp_bind (w132 ((congrFun f142 3).trans h.m3) (by omega) ?_)
                  rw [if_pos h_a]
                  refine wp_neg (by decide) ?_
                  refine wp_bind (w132 ((congrFun f142 3).trans h.m3) (by omega) ?_)
                  rw [if_pos h_b]
                  refine wp_neg (by decide) ?_
                  refine wp_neg h_d ?_
                  refine wp_bind (w143 ?_)
                  rw [if_pos h_u]
                  refine wp_neg (by decide) ?_
                  refine wp_bind (w143 ?_)
                  rw [if_pos h_v]
                  refine wp_neg (by decide) ?_
                  refine wp_bind (w143 ?_)
                  rw [if_pos h_w]
                  refine wp_neg (by decide) ?_
                  have f4 : M2 142 4 = nW N := (congrFun f142 4).trans h.m4
                  refine wp_gd (by omega) (wp_mlet (wp_gd (by rw [ms_a (by decide)]; omega) (wp_mlet (wp_gd (by rw [ms_a (by decide), ms_a (by decide)]; omega) (wp_mlet (wp_gd (by rw [ms_a (by decide), ms_a (by decide), ms_a (by decide)]; omega) (wp_mlet (wp_gd (by rw [ms_a (by decide), ms_a (by decide), ms_a (by decide), ms_a (by decide)]; omega) (wp_mlet (wp_gd (by rw [ms_a (by decide), ms_a (by decide), ms_a (by decide), ms_a (by decide), ms_a (by decide)]; omega) (wp_mlet ?_)))))))))))
                  simp only [ms_a (show (142 : Nat) ≠ 147 by decide), ms_a (show (142 : Nat) ≠ 148 by decide), ms_a (show (142 : Nat) ≠ 149 by decide), ms_a (show (142 : Nat) ≠ 150 by decide), ms_a (show (142 : Nat) ≠ 151 by decide), f4, Int.toNat_natCast, ms_v]
                  refine wp_gd (by omega) ?_
                  rw [show ((nW N : Int) + 1 - 1) = nW N by omega]
                  refine jj (IV.G (fin77 h h_t h_n h_a h_b h_d h_u h_v h_w (fun b q1 q2 q3 q4 => ?_) ?_ (fun j hj => ?_) ⟨fun w => ?_, fun w => ?_, fun w => ?_, fun w => ?_, fun w => ?_, fun w => ?_⟩ ⟨fun w => ?_, fun w => ?_, fun w => ?_, fun w => ?_, fun w => ?_⟩ ?_ (fun j hj => ?_)))
                  · rw [ms_a q3, ms_a (by omega), ms_a (by omega), ms_a (by omega), ms_a (by omega), ms_a (by omega)]
                    exact a1 b q1 q2
                  · repeat rw [ms_a (by decide)]
                    exact a2
                  · repeat rw [ms_a (by decide)]
                    exact a3 j hj
                  · repeat rw [ms_a (by decide)]
                    exact a4.1 w
                  · repeat rw [ms_a (by decide)]
                    exact a4.2.1 w
                  · repeat rw [ms_a (by decide)]
                    exact a4.2.2.1 w
                  · repeat rw [ms_a (by decide)]
                    exact a4.2.2.2.1 w
                  · repeat rw [ms_a (by decide)]
                    exact a4.2.2.2.2.1 w
                  · repeat rw [ms_a (by decide)]
                    exact a4.2.2.2.2.2 w
                  · rw [ms_a (by decide), ms_a (by decide), ms_a (by decide), ms_a (by decide), ms_a (by decide), ms_at, a1 147 (by decide) (by decide)]
                  · rw [ms_a (by decide), ms_a (by decide), ms_a (by decide), ms_a (by decide), ms_at, ms_a (by decide), a1 148 (by decide) (by decide)]
                  · rw [ms_a (by decide), ms_a (by decide), ms_a (by decide), ms_at, ms_a (by decide), ms_a (by decide), a1 149 (by decide) (by decide)]
                  · rw [ms_a (by decide), ms_a (by decide), ms_at, ms_a (by decide), ms_a (by decide), ms_a (by decide), a1 150 (by decide) (by decide)]
                  · rw [ms_a (by decide), ms_at, ms_a (by decide), ms_a (by decide), ms_a (by decide), ms_a (by decide), a1 151 (by decide) (by decide)]
                  · rw [ms_v]
                  · rw [ms_i hj]
                    repeat rw [ms_a (by decide)]
                    exact congrFun f142 j
                · refine wp_pos (e24.trans h_t) ?_
                  refine wp_pos (by rw [h.e31]; omega) ?_
                  refine wp_bind (w214 h.e30 ?_)
                  rw [if_pos h_a]
                  refine wp_neg (by decide) ?_
                  refine wp_bind (w214 h.e30 ?_)
                  rw [if_pos h_b]
                  refine wp_neg (by decide) ?_
                  refine wp_neg h_d ?_
                  refine wp_bind (w80 ?_)
                  rw [if_pos h_u]
                  refine wp_neg (by decide) ?_
                  refine wp_bind (w80 ?_)
                  rw [if_pos h_v]
                  refine wp_neg (by decide) ?_
                  refine wp_bind (w80 ?_)
                  rw [if_neg h_w]
                  refine wp_pos rfl ?_
                  refine wp_some ?_
                  show JJ (-1) (f185 x1 x2 x3 x4 x5 M)
                  unfold f185
                  have f142 : M 142 = M 142 := rfl
                  refine wp_neg (by rw [f142, e42]; omega) ?_
                  refine wp_neg (by rw [f142, h.m4]; omega) ?_
                  refine wp_bind (w132 ((congrFun f142 3).trans h.m3) (by omega) ?_)
                  rw [if_pos h_a]
                  refine wp_neg (by decide) ?_
                  refine wp_bind (w132 ((congrFun f142 3).trans h.m3) (by omega) ?_)
                  rw [if_pos h_b]
                  refine wp_neg (by decide) ?_
                  refine wp_neg h_d ?_
                  refine wp_bind (w143 ?_)
                  rw [if_pos h_u]
                  refine wp_neg (by decide) ?_
                  refine wp_bind (w143 ?_)
                  rw [if_pos h_v]
                  refine wp_neg (by decide) ?_
                  refine wp_bind (w143 ?_)
                  rw [if_neg h_w]
                  refine wp_pos rfl ?_
                  exact wp_some ⟨rfl, h.G⟩
              · refine wp_pos (e24.trans h_t) ?_
                refine wp_pos (by rw [h.e31]; omega) ?_
                refine wp_bind (w214 h.e30 ?_)
                rw [if_pos h_a]
                refine wp_neg (by decide) ?_
                refine wp_bind (w214 h.e30 ?_)
                rw [if_pos h_b]
                refine wp_neg (by decide) ?_
                refine wp_neg h_d ?_
                refine wp_bind (w80 ?_)
                rw [if_pos h_u]
                refine wp_neg (by decide) ?_
                refine wp_bind (w80 ?_)
                rw [if_neg h_v]
                refine wp_pos rfl ?_
                refine wp_some ?_
                show JJ (-1) (f185 x1 x2 x3 x4 x5 M)
                unfold f185
                have f142 : M 142 = M 142 := rfl
                refine wp_neg (by rw [f142, e42]; omega) ?_
                refine wp_neg (by rw [f142, h.m4]; omega) ?_
                refine wp_bind (w132 ((congrFun f142 3).trans h.m3) (by omega) ?_)
                rw [if_pos h_a]
                refine wp_neg (by decide) ?_
                refine wp_bind (w132 ((congrFun f142 3).trans h.m3) (by omega) ?_)
                rw [if_pos h_b]
                refine wp_neg (by decide) ?_
                refine wp_neg h_d ?_
                refine wp_bind (w143 ?_)
                rw [if_pos h_u]
                refine wp_neg (by decide) ?_
                refine wp_bind (w143 ?_)
                rw [if_neg h_v]
                refine wp_pos rfl ?_
                exact wp_some ⟨rfl, h.G⟩
            · refine wp_pos (e24.trans h_t) ?_
              refine wp_pos (by rw [h.e31]; omega) ?_
              refine wp_bind (w214 h.e30 ?_)
              rw [if_pos h_a]
              refine wp_neg (by decide) ?_
              refine wp_bind (w214 h.e30 ?_)
              rw [if_pos h_b]
              refine wp_neg (by decide) ?_
              refine wp_neg h_d ?_
              refine wp_bind (w80 ?_)
              rw [if_neg h_u]
              refine wp_pos rfl ?_
              refine wp_some ?_
              show JJ (-1) (f185 x1 x2 x3 x4 x5 M)
              unfold f185
              have f142 : M 142 = M 142 := rfl
              refine wp_neg (by rw [f142, e42]; omega) ?_
              refine wp_neg (by rw [f142, h.m4]; omega) ?_
              refine wp_bind (w132 ((congrFun f142 3).trans h.m3) (by omega) ?_)
              rw [if_pos h_a]
              refine wp_neg (by decide) ?_
              refine wp_bind (w132 ((congrFun f142 3).trans h.m3) (by omega) ?_)
              rw [if_pos h_b]
              refine wp_neg (by decide) ?_
              refine wp_neg h_d ?_
              refine wp_bind (w143 ?_)
              rw [if_neg h_u]
              refine wp_pos rfl ?_
              exact wp_some ⟨rfl, h.G⟩
          · refine wp_pos (e24.trans h_t) ?_
            refine wp_pos (by rw [h.e31]; omega) ?_
            refine wp_bind (w214 h.e30 ?_)
            rw [if_pos h_a]
            refine wp_neg (by decide) ?_
            refine wp_bind (w214 h.e30 ?_)
            rw [if_pos h_b]
            refine wp_neg (by decide) ?_
            refine wp_pos (Decidable.of_not_not h_d) ?_
            refine wp_some ?_
            show JJ (-1) (f185 x1 x2 x3 x4 x5 M)
            unfold f185
            have f142 : M 142 = M 142 := rfl
            refine wp_neg (by rw [f142, e42]; omega) ?_
            refine wp_neg (by rw [f142, h.m4]; omega) ?_
            refine wp_bind (w132 ((congrFun f142 3).trans h.m3) (by omega) ?_)
            rw [if_pos h_a]
            refine wp_neg (by decide) ?_
            refine wp_bind (w132 ((congrFun f142 3).trans h.m3) (by omega) ?_)
            rw [if_pos h_b]
            refine wp_neg (by decide) ?_
            refine wp_pos (Decidable.of_not_not h_d) ?_
            exact wp_some ⟨rfl, h.G⟩
        · refine wp_pos (e24.trans h_t) ?_
          refine wp_pos (by rw [h.e31]; omega) ?_
          refine wp_bind (w214 h.e30 ?_)
          rw [if_pos h_a]
          refine wp_neg (by decide) ?_
          refine wp_bind (w214 h.e30 ?_)
          rw [if_neg h_b]
          refine wp_pos rfl ?_
          refine wp_some ?_
          show JJ (-1) (f185 x1 x2 x3 x4 x5 M)
          unfold f185
          have f142 : M 142 = M 142 := rfl
          refine wp_neg (by rw [f142, e42]; omega) ?_
          refine wp_neg (by rw [f142, h.m4]; omega) ?_
          refine wp_bind (w132 ((congrFun f142 3).trans h.m3) (by omega) ?_)
          rw [if_pos h_a]
          refine wp_neg (by decide) ?_
          refine wp_bind (w132 ((congrFun f142 3).trans h.m3) (by omega) ?_)
          rw [if_neg h_b]
          refine wp_pos rfl ?_
          exact wp_some ⟨rfl, h.G⟩
      · refine wp_pos (e24.trans h_t) ?_
        refine wp_pos (by rw [h.e31]; omega) ?_
        refine wp_bind (w214 h.e30 ?_)
        rw [if_neg h_a]
        refine wp_pos rfl ?_
        refine wp_some ?_
        show JJ (-1) (f185 x1 x2 x3 x4 x5 M)
        unfold f185
        have f142 : M 142 = M 142 := rfl
        refine wp_neg (by rw [f142, e42]; omega) ?_
        refine wp_neg (by rw [f142, h.m4]; omega) ?_
        refine wp_bind (w132 ((congrFun f142 3).trans h.m3) (by omega) ?_)
        rw [if_neg h_a]
        refine wp_pos rfl ?_
        exact wp_some ⟨rfl, h.G⟩
    · refine wp_pos (e24.trans h_t) ?_
      refine wp_neg (by rw [h.e31]; omega) ?_
      refine wp_some ?_
      show JJ (-1) (f185 x1 x2 x3 x4 x5 M)
      unfold f185
      have f142 : M 142 = M 142 := rfl
      refine wp_neg (by rw [f142, e42]; omega) ?_
      refine wp_pos (by rw [f142, h.m4]; omega) ?_
      exact wp_some ⟨rfl, h.G⟩
  · refine wp_neg (by rw [e24]; exact h_t) ?_
    refine wp_some ?_
    show JJ (-1) (f185 x1 x2 x3 x4 x5 M)
    unfold f185
    have f142 : M 142 = M 142 := rfl
    refine wp_pos (by rw [f142, e42]; omega) ?_
    exact wp_some ⟨rfl, h.G⟩
theorem c71 {x1 x2 x3 : Int} (h : IV N S Ps l M) : Wp (f71 x1 x2 x3 M) (fun r => JJ r.1 (f171 x1 x2 x3 r.2)) := by
  have h14 := h.1.1.w14
  have h8 := h.1.1.n8
  have h9 := h.1.1.k9
  have hcl := h.1.2.2.1
  have e24 : M 24 0 = S 6 1 := h.1.2.2.2.2.1.2.2.2.2.2
  have e42 : M 142 2 = S 6 1 := h.1.2.2.2.2.2.2.2.1.1
  have p6 : 0 ≤ S 6 1 := h.1.2.1.2.2.2.2.2.2.2.1
  unfold f71
  by_cases h_t : S 6 1 = 0
  · by_cases h_n : nN N < 8
    · by_cases h_a : 0 ≤ x1 ∧ x1 < 4
      · by_cases h_u : 0 ≤ x2 ∧ x2 ≤ 2000
        · by_cases h_v : 0 ≤ x3 ∧ x3 ≤ 9
          · refine wp_pos (e24.trans h_t) ?_
            refine wp_pos (by rw [h.e30]; omega) ?_
            refine wp_bind (w56 ?_)
            rw [if_pos h_a]
            refine wp_neg (by decide) ?_
            refine wp_bind (w80 ?_)
            rw [if_pos h_u]
            refine wp_neg (by decide) ?_
            refine wp_bind (w80 ?_)
            rw [if_pos h_v]
            refine wp_neg (by decide) ?_
            have e13 : M 13 = N 13 := hcl.2 13 (by decide) (by decide)
            rw [h.e30, Int.toNat_natCast]
            refine wp_gd (by omega) (wp_mlet (wp_obnd (w210 (n := nN N) h_n ?_ ?_ (fun M2 p a1 a2 a3 a4 a5 a6 a7 a8 a9 a10 => wp_some ?_))))
            · rw [ms_a (by decide)]
              exact h.e30
            · intro j hj
              rw [ms_a (by decide), e13]
              have := h.1.1.cr.1 j hj
              omega
            rw [ms_a (show (13 : Nat) ≠ 25 by decide)] at a6 a8 a9 a10
            rw [ms_a (show (12 : Nat) ≠ 25 by decide)] at a9 a10
            rw [ms_a (show (3 : Nat) ≠ 25 by decide)] at a3
            rw [ms_a (show (11 : Nat) ≠ 25 by decide), ms_a (show (12 : Nat) ≠ 25 by decide)] at a4
            show JJ (nN N) (f171 x1 x2 x3 (M2))
            unfold f171
            have f142 : M2 142 = M 142 := (a1 142 (by decide) (by decide) (by decide) (by decide)).trans (ms_a (by decide))
            refine wp_neg (by rw [f142, e42]; omega) ?_
            refine wp_neg (by rw [f142, h.m3]; omega) ?_
            refine wp_bind (w126 ?_)
            rw [if_pos h_a]
            refine wp_neg (by decide) ?_
            refine wp_bind (w143 ?_)
            rw [if_pos h_u]
            refine wp_neg (by decide) ?_
            refine wp_bind (w143 ?_)
            rw [if_pos h_v]
            refine wp_neg (by decide) ?_
            have f4 : M2 142 3 = nN N := (congrFun f142 3).trans h.m3
            have t1 : (36059 + (nN N : Int)).toNat = 36059 + nN N := by omega
            refine wp_gd (by omega) (wp_mlet (wp_gd (by rw [ms_a (by decide)]; omega) (wp_mlet (wp_gd (by rw [ms_a (by decide), ms_a (by decide)]; omega) (wp_gd (by rw [ms_a (by decide), ms_a (by decide)]; omega) (wp_mlet (wp_gd (by rw [ms_a (by decide), ms_a (by decide), ms_a (by decide)]; omega) (wp_mlet ?_))))))))
            simp only [ms_a (show (142 : Nat) ≠ 145 by decide), ms_a (show (142 : Nat) ≠ 146 by decide), ms_a (show (142 : Nat) ≠ 144 by decide), f4, t1, Int.toNat_natCast, ms_v]
            refine wp_gd (by omega) ?_
            rw [show ((nN N : Int) + 1 - 1) = nN N by omega]
            refine jj (IV.G (fin71 (x1 := x1) (x3 := x3) h h_t h_n h_a h_u h_v (fun b q1 q2 q3 q4 q5 q6 q7 q8 q9 => ?_) ?_ (fun j hj => ?_) ⟨fun w => ?_, fun w => ?_⟩ a5 (fun j q => ?_) ?_ (fun j q1 q2 => ?_) a9 a10 ⟨fun w => ?_, fun w => ?_⟩ ⟨fun w => ?_, ?_, fun a qa => ?_⟩ ?_ (fun j hj => ?_)))
            · rw [ms_a q6, ms_a q7, ms_a q9, ms_a q8, a1 b q1 q2 q3 q4, ms_a q5]
            · repeat rw [ms_a (by decide)]
              exact a2
            · repeat rw [ms_a (by decide)]
              exact a3 j hj
            · repeat rw [ms_a (by decide)]
              exact a4.1 w
            · repeat rw [ms_a (by decide)]
              exact a4.2 w
            · repeat rw [ms_a (by decide)]
              exact a6 j q
            · repeat rw [ms_a (by decide)]
              exact a7
            · repeat rw [ms_a (by decide)]
              exact a8 j q1 q2
            · rw [ms_a (by decide), ms_a (by decide), ms_a (by decide), ms_at, a1 145 (by decide) (by decide) (by decide) (by decide), ms_a (by decide)]
            · rw [ms_a (by decide), ms_a (by decide), ms_at, ms_a (by decide), a1 146 (by decide) (by decide) (by decide) (by decide), ms_a (by decide)]
            · rw [ms_a (by decide), ms_a (by decide), ms_a (by decide), ms_a (by decide), a1 25 (by decide) (by decide) (by decide) (by decide), ms_at]
            · rw [ms_a (by decide), ms_v]
            · rw [ms_a (by decide), ms_i qa, ms_a (by decide), ms_a (by decide), a1 144 (by decide) (by decide) (by decide) (by decide), ms_a (by decide)]
            · rw [ms_v]
            · rw [ms_i hj]
              repeat rw [ms_a (by decide)]
              exact congrFun f142 j
          · refine wp_pos (e24.trans h_t) ?_
            refine wp_pos (by rw [h.e30]; omega) ?_
            refine wp_bind (w56 ?_)
            rw [if_pos h_a]
            refine wp_neg (by decide) ?_
            refine wp_bind (w80 ?_)
            rw [if_pos h_u]
            refine wp_neg (by decide) ?_
            refine wp_bind (w80 ?_)
            rw [if_neg h_v]
            refine wp_pos rfl ?_
            refine wp_some ?_
            show JJ (-1) (f171 x1 x2 x3 M)
            unfold f171
            have f142 : M 142 = M 142 := rfl
            refine wp_neg (by rw [f142, e42]; omega) ?_
            refine wp_neg (by rw [f142, h.m3]; omega) ?_
            refine wp_bind (w126 ?_)
            rw [if_pos h_a]
            refine wp_neg (by decide) ?_
            refine wp_bind (w143 ?_)
            rw [if_pos h_u]
            refine wp_neg (by decide) ?_
            refine wp_bind (w143 ?_)
            rw [if_neg h_v]
            refine wp_pos rfl ?_
            exact wp_some ⟨rfl, h.G⟩
        · refine wp_pos (e24.trans h_t) ?_
          refine wp_pos (by rw [h.e30]; omega) ?_
          refine wp_bind (w56 ?_)
          rw [if_pos h_a]
          refine wp_neg (by decide) ?_
          refine wp_bind (w80 ?_)
          rw [if_neg h_u]
          refine wp_pos rfl ?_
          refine wp_some ?_
          show JJ (-1) (f171 x1 x2 x3 M)
          unfold f171
          have f142 : M 142 = M 142 := rfl
          refine wp_neg (by rw [f142, e42]; omega) ?_
          refine wp_neg (by rw [f142, h.m3]; omega) ?_
          refine wp_bind (w126 ?_)
          rw [if_pos h_a]
          refine wp_neg (by decide) ?_
          refine wp_bind (w143 ?_)
          rw [if_neg h_u]
          refine wp_pos rfl ?_
          exact wp_some ⟨rfl, h.G⟩
      · refine wp_pos (e24.trans h_t) ?_
        refine wp_pos (by rw [h.e30]; omega) ?_
        refine wp_bind (w56 ?_)
        rw [if_neg h_a]
        refine wp_pos rfl ?_
        refine wp_some ?_
        show JJ (-1) (f171 x1 x2 x3 M)
        unfold f171
        have f142 : M 142 = M 142 := rfl
        refine wp_neg (by rw [f142, e42]; omega) ?_
        refine wp_neg (by rw [f142, h.m3]; omega) ?_
        refine wp_bind (w126 ?_)
        rw [if_neg h_a]
        refine wp_pos rfl ?_
        exact wp_some ⟨rfl, h.G⟩
    · refine wp_pos (e24.trans h_t) ?_
      refine wp_neg (by rw [h.e30]; omega) ?_
      refine wp_some ?_
      show JJ (-1) (f171 x1 x2 x3 M)
      unfold f171
      have f142 : M 142 = M 142 := rfl
      refine wp_neg (by rw [f142, e42]; omega) ?_
      refine wp_pos (by rw [f142, h.m3]; omega) ?_
      exact wp_some ⟨rfl, h.G⟩
  · refine wp_neg (by rw [e24]; exact h_t) ?_
    refine wp_some ?_
    show JJ (-1) (f171 x1 x2 x3 M)
    unfold f171
    have f142 : M 142 = M 142 := rfl
    refine wp_pos (by rw [f142, e42]; omega) ?_
    exact wp_some ⟨rfl, h.G⟩
theorem c81 {x1 x2 x3 : Int} (h : IV N S Ps l M) : Wp (f81 x1 x2 x3 M) (fun r => JJ r.1 (f188 x1 x2 x3 r.2)) := by
  have h14 := h.1.1.w14
  have h8 := h.1.1.n8
  have h9 := h.1.1.k9
  have hcl := h.1.2.2.1
  have e24 : M 24 0 = S 6 1 := h.1.2.2.2.2.1.2.2.2.2.2
  have e42 : M 142 2 = S 6 1 := h.1.2.2.2.2.2.2.2.1.1
  have p6 : 0 ≤ S 6 1 := h.1.2.1.2.2.2.2.2.2.2.1
  unfold f81
  by_cases h_t : S 6 1 = 0
  · by_cases h_n : nK N < 9
    · by_cases h_a : 0 ≤ x1 ∧ x1 < nN N
      · by_cases h_u : 1 ≤ x2 ∧ x2 ≤ 5000
        · by_cases h_v : 0 ≤ x3 ∧ x3 ≤ 99
          · refine wp_pos (e24.trans h_t) ?_
            refine wp_pos (by rw [h.e32]; omega) ?_
            refine wp_bind (w214 h.e30 ?_)
            rw [if_pos h_a]
            refine wp_neg (by decide) ?_
            refine wp_bind (w80 ?_)
            rw [if_pos h_u]
            refine wp_neg (by decide) ?_
            refine wp_bind (w80 ?_)
            rw [if_pos h_v]
            refine wp_neg (by decide) ?_
            have e23 : M 23 = N 23 := hcl.2 23 (by decide) (by decide)
            rw [h.e32]
            refine wp_mlet (wp_obnd (w212 (n := nK N) h_n ?_ ?_ (fun M2 p a1 a2 a3 a4 a5 a6 a7 a8 a9 a10 => wp_some ?_)))
            · rw [ms_a (by decide)]
              exact h.e32
            · intro j hj
              rw [ms_a (by decide), e23]
              have := h.1.1.cp.1 j hj
              omega
            rw [ms_a (show (23 : Nat) ≠ 24 by decide)] at a6 a8 a9 a10
            rw [ms_a (show (22 : Nat) ≠ 24 by decide)] at a9 a10
            rw [ms_a (show (3 : Nat) ≠ 24 by decide)] at a3
            rw [ms_a (show (20 : Nat) ≠ 24 by decide), ms_a (show (21 : Nat) ≠ 24 by decide), ms_a (show (22 : Nat) ≠ 24 by decide)] at a4
            show JJ (nK N) (f188 x1 x2 x3 (M2))
            unfold f188
            have f142 : M2 142 = M 142 := (a1 142 (by decide) (by decide) (by decide) (by decide) (by decide)).trans (ms_a (by decide))
            refine wp_neg (by rw [f142, e42]; omega) ?_
            refine wp_neg (by rw [f142, h.m5]; omega) ?_
            refine wp_bind (w132 ((congrFun f142 3).trans h.m3) (by omega) ?_)
            rw [if_pos h_a]
            refine wp_neg (by decide) ?_
            refine wp_bind (w143 ?_)
            rw [if_pos h_u]
            refine wp_neg (by decide) ?_
            refine wp_bind (w143 ?_)
            rw [if_pos h_v]
            refine wp_neg (by decide) ?_
            have f4 : M2 142 5 = nK N := (congrFun f142 5).trans h.m5
            have t1 : (36042 + (nK N : Int)).toNat = 36042 + nK N := by omega
            refine wp_gd (by omega) (wp_mlet (wp_gd (by rw [ms_a (by decide)]; omega) (wp_mlet (wp_gd (by rw [ms_a (by decide), ms_a (by decide)]; omega) (wp_mlet (wp_gd (by rw [ms_a (by decide), ms_a (by decide), ms_a (by decide)]; omega) (wp_gd (by rw [ms_a (by decide), ms_a (by decide), ms_a (by decide)]; omega) (wp_mlet (wp_gd (by rw [ms_a (by decide), ms_a (by decide), ms_a (by decide), ms_a (by decide)]; omega) (wp_mlet ?_))))))))))
            simp only [ms_a (show (142 : Nat) ≠ 153 by decide), ms_a (show (142 : Nat) ≠ 154 by decide), ms_a (show (142 : Nat) ≠ 155 by decide), ms_a (show (142 : Nat) ≠ 144 by decide), f4, t1, Int.toNat_natCast, ms_v]
            refine wp_gd (by omega) ?_
            rw [show ((nK N : Int) + 1 - 1) = nK N by omega]
            refine jj (IV.G (fin81 (x1 := x1) (x2 := x2) (x3 := x3) h h_t h_n h_a h_u h_v (fun b q1 q2 q6 q7 q8 => ?_) ?_ (fun j hj => ?_) ⟨fun w => ?_, fun w => ?_, fun w => ?_⟩ a5 (fun j q => ?_) ?_ (fun j q1 q2 => ?_) a9 a10 ⟨fun w => ?_, fun w => ?_, fun w => ?_⟩ ⟨?_, ?_, fun a qa => ?_⟩ ?_ (fun j hj => ?_)))
            · rw [ms_a q6, ms_a q7, ms_a (by omega), ms_a (by omega), ms_a (by omega), a1 b q1 (by omega) (by omega) (by omega) (by omega), ms_a (by omega)]
            · repeat rw [ms_a (by decide)]
              exact a2
            · repeat rw [ms_a (by decide)]
              exact a3 j hj
            · repeat rw [ms_a (by decide)]
              exact a4.1 w
            · repeat rw [ms_a (by decide)]
              exact a4.2.1 w
            · repeat rw [ms_a (by decide)]
              exact a4.2.2 w
            · repeat rw [ms_a (by decide)]
              exact a6 j q
            · repeat rw [ms_a (by decide)]
              exact a7
            · repeat rw [ms_a (by decide)]
              exact a8 j q1 q2
            · rw [ms_a (by decide), ms_a (by decide), ms_a (by decide), ms_a (by decide), ms_at, a1 153 (by decide) (by decide) (by decide) (by decide) (by decide), ms_a (by decide)]
            · rw [ms_a (by decide), ms_a (by decide), ms_a (by decide), ms_at, ms_a (by decide), a1 154 (by decide) (by decide) (by decide) (by decide) (by decide), ms_a (by decide)]
            · rw [ms_a (by decide), ms_a (by decide), ms_at, ms_a (by decide), ms_a (by decide), a1 155 (by decide) (by decide) (by decide) (by decide) (by decide), ms_a (by decide)]
            · rw [ms_a (by decide), ms_a (by decide), ms_a (by decide), ms_a (by decide), ms_a (by decide)]
              exact a1 24 (by decide) (by decide) (by decide) (by decide) (by decide)
            · rw [ms_a (by decide), ms_v]
            · rw [ms_a (by decide), ms_i qa, ms_a (by decide), ms_a (by decide), ms_a (by decide), a1 144 (by decide) (by decide) (by decide) (by decide) (by decide), ms_a (by decide)]
            · rw [ms_v]
            · rw [ms_i hj]
              repeat rw [ms_a (by decide)]
              exact congrFun f142 j
          · refine wp_pos (e24.trans h_t) ?_
            refine wp_pos (by rw [h.e32]; omega) ?_
            refine wp_bind (w214 h.e30 ?_)
            rw [if_pos h_a]
            refine wp_neg (by decide) ?_
            refine wp_bind (w80 ?_)
            rw [if_pos h_u]
            refine wp_neg (by decide) ?_
            refine wp_bind (w80 ?_)
            rw [if_neg h_v]
            refine wp_pos rfl ?_
            refine wp_some ?_
            show JJ (-1) (f188 x1 x2 x3 M)
            unfold f188
            have f142 : M 142 = M 142 := rfl
            refine wp_neg (by rw [f142, e42]; omega) ?_
            refine wp_neg (by rw [f142, h.m5]; omega) ?_
            refine wp_bind (w132 ((congrFun f142 3).trans h.m3) (by omega) ?_)
            rw [if_pos h_a]
            refine wp_neg (by decide) ?_
            refine wp_bind (w143 ?_)
            rw [if_pos h_u]
            refine wp_neg (by decide) ?_
            refine wp_bind (w143 ?_)
            rw [if_neg h_v]
            refine wp_pos rfl ?_
            exact wp_some ⟨rfl, h.G⟩
        · refine wp_pos (e24.trans h_t) ?_
          refine wp_pos (by rw [h.e32]; omega) ?_
          refine wp_bind (w214 h.e30 ?_)
          rw [if_pos h_a]
          refine wp_neg (by decide) ?_
          refine wp_bind (w80 ?_)
          rw [if_neg h_u]
          refine wp_pos rfl ?_
          refine wp_some ?_
          show JJ (-1) (f188 x1 x2 x3 M)
          unfold f188
          have f142 : M 142 = M 142 := rfl
          refine wp_neg (by rw [f142, e42]; omega) ?_
          refine wp_neg (by rw [f142, h.m5]; omega) ?_
          refine wp_bind (w132 ((congrFun f142 3).trans h.m3) (by omega) ?_)
          rw [if_pos h_a]
          refine wp_neg (by decide) ?_
          refine wp_bind (w143 ?_)
          rw [if_neg h_u]
          refine wp_pos rfl ?_
          exact wp_some ⟨rfl, h.G⟩
      · refine wp_pos (e24.trans h_t) ?_
        refine wp_pos (by rw [h.e32]; omega) ?_
        refine wp_bind (w214 h.e30 ?_)
        rw [if_neg h_a]
        refine wp_pos rfl ?_
        refine wp_some ?_
        show JJ (-1) (f188 x1 x2 x3 M)
        unfold f188
        have f142 : M 142 = M 142 := rfl
        refine wp_neg (by rw [f142, e42]; omega) ?_
        refine wp_neg (by rw [f142, h.m5]; omega) ?_
        refine wp_bind (w132 ((congrFun f142 3).trans h.m3) (by omega) ?_)
        rw [if_neg h_a]
        refine wp_pos rfl ?_
        exact wp_some ⟨rfl, h.G⟩
    · refine wp_pos (e24.trans h_t) ?_
      refine wp_neg (by rw [h.e32]; omega) ?_
      refine wp_some ?_
      show JJ (-1) (f188 x1 x2 x3 M)
      unfold f188
      have f142 : M 142 = M 142 := rfl
      refine wp_neg (by rw [f142, e42]; omega) ?_
      refine wp_pos (by rw [f142, h.m5]; omega) ?_
      exact wp_some ⟨rfl, h.G⟩
  · refine wp_neg (by rw [e24]; exact h_t) ?_
    refine wp_some ?_
    show JJ (-1) (f188 x1 x2 x3 M)
    unfold f188
    have f142 : M 142 = M 142 := rfl
    refine wp_pos (by rw [f142, e42]; omega) ?_
    exact wp_some ⟨rfl, h.G⟩
end SET9
