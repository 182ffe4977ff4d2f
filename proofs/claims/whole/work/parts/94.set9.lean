section SET9
variable {N N2 S S2 M M2 : Mm} {Ps : Nat → Mm} {l : List (Bool × Sem)}
theorem fin81 {p : Nat} {x1 x2 x3 : Int} (h : IV N S Ps l M) (h0 : S 6 1 = 0) (hn : nK N < 9) (ha : 0 ≤ x1 ∧ x1 < nN N) (hx2 : 1 ≤ x2 ∧ x2 ≤ 5000) (hx3 : 0 ≤ x3 ∧ x3 ≤ 99)
    (k1 : ∀ b, b ≠ 3 → (b < 20 ∨ 24 < b) → b ≠ 142 → b ≠ 144 → (b < 153 ∨ 155 < b) → M2 b = M b) (k2 : M2 3 2 = (nK N : Int) + 1) (k3 : ∀ j, j ≠ 2 → M2 3 j = M 3 j)
    (k4 : (∀ w, M2 20 w = if w = nK N then x1 else M 20 w) ∧ (∀ w, M2 21 w = if w = nK N then x2 else M 21 w) ∧ ∀ w, M2 22 w = if w = nK N then x3 else M 22 w)
    (hp : p ≤ nK N) (g1 : ∀ j, j < p → M2 23 j = M 23 j) (g2 : M2 23 p = nK N) (g3 : ∀ j, p < j → j ≤ nK N → M2 23 j = M 23 (j - 1)) (g4 : 0 < p → M 22 (M 23 (p - 1)).toNat ≤ x3) (g5 : ∀ j, p ≤ j → j < nK N → x3 < M 22 (M 23 j).toNat)
    (k5 : (∀ w, M2 153 w = if w = nK N then x1 else M 153 w) ∧ (∀ w, M2 154 w = if w = nK N then x2 else M 154 w) ∧ ∀ w, M2 155 w = if w = nK N then x3 else M 155 w)
    (k8 : M2 24 = ms M 24 2 (bOr (M 24 2) (bShl 1 (nK N : Int))) 24 ∧ M2 144 (36042 + nK N) = 1 ∧ ∀ a, a ≠ 36042 + nK N → M2 144 a = M 144 a)
    (k6 : M2 142 5 = (nK N : Int) + 1) (k7 : ∀ j, j ≠ 5 → M2 142 j = M 142 j) : IV M2 (ms S 5 (nK N) 1) Ps l M2 := by
  have hN := h.1.1
  have hcl := h.1.2.2.1
  have hmd := h.1.2.2.2.1
  have qN : nN M2 = nN N := by unfold nN; rw [k3 0 (by decide), hcl.1]
  have qK : nK M2 = nK N + 1 := by unfold nK at k2 ⊢; rw [k2]; omega
  have qW : nW M2 = nW N := by unfold nW; rw [k3 1 (by decide), hcl.1]
  have r : ∀ b, 11 ≤ b → b < 20 → M2 b = N b := fun b q1 q2 => (k1 b (by omega) (by omega) (by omega) (by omega) (by omega)).trans (hcl.2 b (by omega) (by omega))
  have eoR : ∀ k, oR M2 k = oR N k := fun k => by unfold oR; rw [r 13 (by decide) (by decide)]
  have eeA : ∀ k, eA M2 k = eA N k := fun k => by unfold eA; rw [r 14 (by decide) (by decide)]
  have eeB : ∀ k, eB M2 k = eB N k := fun k => by unfold eB; rw [r 15 (by decide) (by decide)]
  have c20 : M 20 = N 20 := hcl.2 20 (by decide) (by decide)
  have c21 : M 21 = N 21 := hcl.2 21 (by decide) (by decide)
  have c22 : M 22 = N 22 := hcl.2 22 (by decide) (by decide)
  have c23 : M 23 = N 23 := hcl.2 23 (by decide) (by decide)
  rw [c20, c21, c22] at k4
  rw [c23] at g1 g3
  rw [c22, c23] at g4 g5
  have b1 : ∀ b, b ≠ 3 → (b < 11 ∨ 28 < b) → b ≠ 142 → b ≠ 144 → (b < 145 ∨ 155 < b) → M2 b = M b := fun b q1 q2 q3 q4 q5 => k1 b (by omega) (by omega) (by omega) (by omega) (by omega)
  have hV2 : sV M2 (ms S 5 (nK N) 1) := (h.1.2.1.mono (by omega) (by omega)).up (by omega) (by omega) (by omega) (by omega) (by omega) (fun _ => ⟨Or.inr rfl, by omega⟩) (by omega)
  have hS2 : sC M2 (ms S 5 (nK N) 1) M2 24 := by
    have hs := h.1.2.2.2.2.1.mono (N2 := M2) (by omega) (by omega)
    have hbt := h.1.2.2.2.2.1.2.2.2.1
    have pk := pw2_k hN
    have pl : (2 ^ (nK N + 1) : Nat) = 2 * 2 ^ nK N := by rw [Nat.pow_succ]; omega
    have hbl : bShl 1 (nK N : Int) = (2 ^ nK N : Nat) := by rw [bL (by omega) (by omega), Int.toNat_natCast]
    have hor : bOr (M 24 2) (bShl 1 (nK N : Int)) < (2 ^ (nK N + 1) : Nat) ∧ 0 ≤ bOr (M 24 2) (bShl 1 (nK N : Int)) := by
      have := bO_lt (n := nK N + 1) (x := M 24 2) (y := bShl 1 (nK N : Int)) (by omega) hbt.1 (by omega) (by omega) (by omega)
      omega
    refine hs.up45 (Or.inr rfl) ⟨?_, fun x => ?_⟩ (fun j hj => ?_) (fun b q1 q2 => k1 b (by omega) (by omega) (by omega) (by omega) (by omega))
    · rw [k8.1, ms_v, if_neg (by decide), qK]
      exact ⟨hor.2, hor.1⟩
    · rw [k8.1, ms_v, tb_or hbt.1 (by omega) (by omega) (by omega), tb_pow (by omega) (by omega), Int.toNat_natCast]
      by_cases e : x = nK N
      · rw [if_pos e, e, decide_eq_true rfl, Bool.or_true]
        rfl
      · rw [if_neg e, decide_eq_false (fun z => e z.symm), Bool.or_false]
        exact (hbt.2.2 x).symm
    · rw [k8.1, ms_i (by omega)]
  have hM2 : sM (ms S 5 (nK N) 1) M2 36000 := h.1.2.2.2.2.2.1.up (r := 5) (i := nK N) (by decide) (by have := offlim; omega) (by have := offlim; rw [show 36000 + offS 5 + nK N = 36042 + nK N by omega]; exact k8.2.1) (fun a q1 q2 q3 => k8.2.2 a (by have := offlim; omega))
  refine h.net0 h0 ?_ ⟨rfl, fun _ _ _ => rfl⟩ ?_ hV2 hS2 hM2 (by rw [ms_a (by decide)]; exact h0) (fun w q1 q2 => by rw [k1 152 (by decide) (by decide) (by decide) (by decide) (by decide)]; exact h.1.2.2.2.2.2.2.1 w (by omega) q2) ⟨k3 3 (by decide), k3 4 (by decide)⟩ b1 (fun j q1 q2 q3 => k7 j q3) (k8.2.2 _ (by omega))
  · refine ⟨⟨by rw [qN, k3 0 (by decide), hcl.1]; exact hN.n, by rw [qN]; exact hN.n8⟩, ⟨by rw [qW, k3 1 (by decide), hcl.1]; exact hN.w, by rw [qW]; exact hN.w14⟩, ⟨by rw [k2, qK]; omega, by omega⟩, fun i hi => ?_, fun w hw => ?_, fun k hk => ?_, ?_, ?_⟩
    · rw [r 11 (by decide) (by decide), r 12 (by decide) (by decide)]
      exact hN.cs i (by omega)
    · rw [eeA, eeB, qN, r 14 (by decide) (by decide), r 15 (by decide) (by decide), r 16 (by decide) (by decide), r 17 (by decide) (by decide), r 18 (by decide) (by decide), r 19 (by decide) (by decide)]
      exact hN.cw w (by omega)
    · unfold aK
      rw [k4.1 k, k4.2.1 k, k4.2.2 k, qN]
      by_cases e : k = nK N
      · simp only [if_pos e]
        omega
      · simp only [if_neg e]
        exact hN.ck k (by omega)
    · unfold NCr befR
      rw [qN, r 12 (by decide) (by decide), r 13 (by decide) (by decide)]
      have h7 := hN.cr
      unfold NCr befR at h7
      refine ⟨fun j hj => by rw [eoR]; exact h7.1 j hj, fun i j q1 q2 => by rw [eoR, eoR]; exact h7.2.1 i j q1 q2, fun s hs => ?_⟩
      obtain ⟨j, q1, q2⟩ := h7.2.2 s hs
      exact ⟨j, q1, by rw [eoR]; exact q2⟩
    · have h7 := hN.cp
      have key := ins_o (n := nK N) (p := p) (o := oP N) (o2 := oP M2) (K := fun i => N 22 i) (K2 := fun i => M2 22 i) (fun j hj => (h7.1 j hj).2) (fun i j q1 q2 => h7.2.1 i j q1 q2) h7.2.2 hp (fun j q => by unfold oP; rw [g1 j q]) (by unfold oP; rw [g2, Int.toNat_natCast]) (fun j q1 q2 => by unfold oP; rw [g3 j q1 q2]) (fun i hi => by
          show M2 22 i = N 22 i
          rw [k4.2.2 i, if_neg (by omega)]) (fun j q => by
          show N 22 (oP N j) ≤ M2 22 (nK N)
          rw [k4.2.2 (nK N), if_pos rfl]
          have a1 := g4 (by omega)
          by_cases e : j = p - 1
          · rw [e]
            unfold oP
            omega
          · have := h7.2.1 j (p - 1) (by omega) (by omega)
            unfold befP at this
            have e3 : oP N (p - 1) = (N 23 (p - 1)).toNat := rfl
            rw [← e3] at a1
            omega) (fun j q1 q2 => by
          show M2 22 (nK N) < N 22 (oP N j)
          rw [k4.2.2 (nK N), if_pos rfl]
          have a1 := g5 j q1 q2
          unfold oP
          omega)
      obtain ⟨y1, y2, y3⟩ := key
      refine ⟨fun j hj => ⟨?_, by have := y1 j (by omega); omega⟩, fun i j q1 q2 => y2 i j q1 (by omega), fun s hs => ?_⟩
      · have : 0 ≤ M2 23 j := by
          by_cases c1 : j < p
          · rw [g1 j c1, (h7.1 j (by omega)).1]; omega
          · by_cases c2 : j = p
            · rw [c2, g2]; omega
            · rw [g3 j (by omega) (by omega), (h7.1 (j - 1) (by omega)).1]; omega
        unfold oP
        omega
      · obtain ⟨j, q1, q2⟩ := y3 s (by omega)
        exact ⟨j, by omega, q2⟩
  · obtain ⟨m1, m2, m3, m4, m5, m6⟩ := hmd
    refine ⟨?_, ?_, by rw [k6, k2], fun i hi => ?_, fun w hw => ?_, fun k hk => ?_⟩
    · rw [k7 3 (by decide), k3 0 (by decide), hcl.1]
      exact m1
    · rw [k7 4 (by decide), k3 1 (by decide), hcl.1]
      exact m2
    · have e5 : ∀ b, 145 ≤ b → b ≤ 152 → M2 b = M b := fun b q1 q2 => k1 b (by omega) (by omega) (by omega) (by omega) (by omega)
      rw [r 11 (by decide) (by decide), r 12 (by decide) (by decide), e5 145 (by decide) (by decide), e5 146 (by decide) (by decide)]
      exact m4 i (by omega)
    · have e5 : ∀ b, 147 ≤ b → b ≤ 152 → M2 b = M b := fun b q1 q2 => k1 b (by omega) (by omega) (by omega) (by omega) (by omega)
      rw [r 14 (by decide) (by decide), r 15 (by decide) (by decide), r 16 (by decide) (by decide), r 17 (by decide) (by decide), r 18 (by decide) (by decide), r 19 (by decide) (by decide), e5 147 (by decide) (by decide), e5 148 (by decide) (by decide), e5 149 (by decide) (by decide), e5 150 (by decide) (by decide), e5 151 (by decide) (by decide), e5 152 (by decide) (by decide)]
      exact m5 w (by omega)
    · rw [k4.1 k, k4.2.1 k, k4.2.2 k, k5.1 k, k5.2.1 k, k5.2.2 k]
      by_cases e : k = nK N
      · simp only [if_pos e]
        exact ⟨trivial, trivial, trivial⟩
      · simp only [if_neg e]
        rw [← c20, ← c21, ← c22]
        rw [c20, c21, c22]
        exact m6 k (by omega)
theorem c77 {x1 x2 x3 x4 x5 : Int} (h : IV N S Ps l M) : Wp (f77 x1 x2 x3 x4 x5 M) (fun r => JJ r.1 (f185 x1 x2 x3 x4 x5 r.2)) := by
  have h14 := h.1.1.w14
  have h8 := h.1.1.n8
  have h9 := h.1.1.k9
  have hcl := h.1.2.2.1
  have e24 : M 24 0 = S 6 1 := h.1.2.2.2.2.1.2.2.2.2.2
  have e42 : M 142 2 = S 6 1 := h.1.2.2.2.2.2.2.2.1.1
  have p6 : 0 ≤ S 6 1 := h.1.2.1.2.2.2.2.2.2.2.1
  unfold f77
  by_cases h_t : S 6 1 = 0
  · by_cases h_n : nW N < 14
    · by_cases h_a : 0 ≤ x1 ∧ x1 < nN N
      · by_cases h_b : 0 ≤ x2 ∧ x2 < nN N
        · by_cases h_d : ¬ x1 = x2
          · by_cases h_u : 1 ≤ x3 ∧ x3 ≤ 3
            · by_cases h_v : 1 ≤ x4 ∧ x4 ≤ 5000
              · by_cases h_w : 1 ≤ x5 ∧ x5 ≤ 100000
                · refine wp_pos (e24.trans h_t) ?_
                  refine wp_pos (by rw [h.e31]; omega) ?_
                  refine wp_bind (w214 h.e30 ?_)
                  rw [if_pos h_a]
                  refine wp_neg (by decide) ?_
                  refine wp_bind (w214 h.e30 ?_)
                  rw [if_pos h_b]
                  refine wp_neg (by decide) ?_
                  refine wp_neg h_d ?_
                  refine wp_bind (w80 ?_)
                  rw [if_pos h_u]
                  refine wp_neg (by decide) ?_
                  refine wp_bind (w80 ?_)
                  rw [if_pos h_v]
                  refine wp_neg (by decide) ?_
                  refine wp_bind (w80 ?_)
                  rw [if_pos h_w]
                  refine wp_neg (by decide) ?_
                  refine wp_obnd (w211 h_n h.e31 (fun M2 a1 a2 a3 a4 => wp_some ?_))
                  show JJ (nW N) (f185 x1 x2 x3 x4 x5 (M2))
                  unfold f185
                  have f142 : M2 142 = M 142 := a1 142 (by decide) (by decide)
                  refine wp_neg (by rw [f142, e42]; omega) ?_
                  refine wp_neg (by rw [f142, h.m4]; omega) ?_
                  refine wp_bind (w132 ((congrFun f142 3).trans h.m3) (by omega) ?_)
                  rw [if_pos h_a]
                  refine wp_neg (by decide) ?_
                  refine wp_bind (w132 ((congrFun f142 3).trans h.m3) (by omega) ?_)
                  rw [if_pos h_b]
                  refine wp_neg (by decide) ?_
                  refine wp_neg h_d ?_
                  refine wp_bind (w143 ?_)
                  rw [if_pos h_u]
                  refine wp_neg (by decide) ?_
                  refine wp_bind (w143 ?_)
                  rw [if_pos h_v]
                  refine wp_neg (by decide) ?_
                  refine wp_bind (w143 ?_)
                  rw [if_pos h_w]
                  refine wp_neg (by decide) ?_
                  have f4 : M2 142 4 = nW N := (congrFun f142 4).trans h.m4
                  refine wp_gd (by omega) (wp_mlet (wp_gd (by rw [ms_a (by decide)]; omega) (wp_mlet (wp_gd (by rw [ms_a (by decide), ms_a (by decide)]; omega) (wp_mlet (wp_gd (by rw [ms_a (by decide), ms_a (by decide), ms_a (by decide)]; omega) (wp_mlet (wp_gd (by rw [ms_a (by decide), ms_a (by decide), ms_a (by decide), ms_a (by decide)]; omega) (wp_mlet (wp_gd (by rw [ms_a (by decide), ms_a (by decide), ms_a (by decide), ms_a (by decide), ms_a (by decide)]; omega) (wp_mlet ?_)))))))))))
                  simp only [ms_a (show (142 : Nat) ≠ 147 by decide), ms_a (show (142 : Nat) ≠ 148 by decide), ms_a (show (142 : Nat) ≠ 149 by decide), ms_a (show (142 : Nat) ≠ 150 by decide), ms_a (show (142 : Nat) ≠ 151 by decide), f4, Int.toNat_natCast, ms_v]
                  refine wp_gd (by omega) ?_
                  rw [show ((nW N : Int) + 1 - 1) = nW N by omega]
                  refine jj (IV.G (fin77 h h_t h_n h_a h_b h_d h_u h_v h_w (fun b q1 q2 q3 q4 => ?_) ?_ (fun j hj => ?_) ⟨fun w => ?_, fun w => ?_, fun w => ?_, fun w => ?_, fun w => ?_, fun w => ?_⟩ ⟨fun w => ?_, fun w => ?_, fun w => ?_, fun w => ?_, fun w => ?_⟩ ?_ (fun j hj => ?_)))
                  · rw [ms_a q3, ms_a (by omega), ms_a (by omega), ms_a (by omega), ms_a (by omega), ms_a (by omega)]
                    exact a1 b q1 q2
                  · repeat rw [ms_a (by decide)]
                    exact a2
                  · repeat rw [ms_a (by decide)]
                    exact a3 j hj
                  · repeat rw [ms_a (by decide)]
                    exact a4.1 w
                  · repeat rw [ms_a (by decide)]
                    exact a4.2.1 w
                  · repeat rw [ms_a (by decide)]
                    exact a4.2.2.1 w
                  · repeat rw [ms_a (by decide)]
                    exact a4.2.2.2.1 w
                  · repeat rw [ms_a (by decide)]
                    exact a4.2.2.2.2.1 w
                  · repeat rw [ms_a (by decide)]
                    exact a4.2.2.2.2.2 w
                  · rw [ms_a (by decide), ms_a (by decide), ms_a (by decide), ms_a (by decide), ms_a (by decide), ms_at, a1 147 (by decide) (by decide)]
                  · rw [ms_a (by decide), ms_a (by decide), ms_a (by decide), ms_a (by decide), ms_at, ms_a (by decide), a1 148 (by decide) (by decide)]
                  · rw [ms_a (by decide), ms_a (by decide), ms_a (by decide), ms_at, ms_a (by decide), ms_a (by decide), a1 149 (by decide) (by decide)]
                  · rw [ms_a (by decide), ms_a (by decide), ms_at, ms_a (by decide), ms_a (by decide), ms_a (by decide), a1 150 (by decide) (by decide)]
                  · rw [ms_a (by decide), ms_at, ms_a (by decide), ms_a (by decide), ms_a (by decide), ms_a (by decide), a1 151 (by decide) (by decide)]
                  · rw [ms_v]
                  · rw [ms_i hj]
                    repeat rw [ms_a (by decide)]
                    exact congrFun f142 j
                · refine wp_pos (e24.trans h_t) ?_
                  refine wp_pos (by rw [h.e31]; omega) ?_
                  refine wp_bind (w214 h.e30 ?_)
                  rw [if_pos h_a]
                  refine wp_neg (by decide) ?_
                  refine wp_bind (w214 h.e30 ?_)
                  rw [if_pos h_b]
                  refine wp_neg (by decide) ?_
                  refine wp_neg h_d ?_
                  refine wp_bind (w80 ?_)
                  rw [if_pos h_u]
                  refine wp_neg (by decide) ?_
                  refine wp_bind (w80 ?_)
                  rw [if_pos h_v]
                  refine wp_neg (by decide) ?_
                  refine wp_bind (w80 ?_)
                  rw [if_neg h_w]
                  refine wp_pos rfl ?_
                  refine wp_some ?_
                  show JJ (-1) (f185 x1 x2 x3 x4 x5 M)
                  unfold f185
                  have f142 : M 142 = M 142 := rfl
                  refine wp_neg (by rw [f142, e42]; omega) ?_
                  refine wp_neg (by rw [f142, h.m4]; omega) ?_
                  refine wp_bind (w132 ((congrFun f142 3).trans h.m3) (by omega) ?_)
                  rw [if_pos h_a]
                  refine wp_neg (by decide) ?_
                  refine wp_bind (w132 ((congrFun f142 3).trans h.m3) (by omega) ?_)
                  rw [if_pos h_b]
                  refine wp_neg (by decide) ?_
                  refine wp_neg h_d ?_
                  refine wp_bind (w143 ?_)
                  rw [if_pos h_u]
                  refine wp_neg (by decide) ?_
                  refine wp_bind (w143 ?_)
                  rw [if_pos h_v]
                  refine wp_neg (by decide) ?_
                  refine wp_bind (w143 ?_)
                  rw [if_neg h_w]
                  refine wp_pos rfl ?_
                  exact wp_some ⟨rfl, h.G⟩
              · refine wp_pos (e24.trans h_t) ?_
                refine wp_pos (by rw [h.e31]; omega) ?_
                refine wp_bind (w214 h.e30 ?_)
                rw [if_pos h_a]
                refine wp_neg (by decide) ?_
                refine wp_bind (w214 h.e30 ?_)
                rw [if_pos h_b]
                refine wp_neg (by decide) ?_
                refine wp_neg h_d ?_
                refine wp_bind (w80 ?_)
                rw [if_pos h_u]
                refine wp_neg (by decide) ?_
                refine wp_bind (w80 ?_)
                rw [if_neg h_v]
                refine wp_pos rfl ?_
                refine wp_some ?_
                show JJ (-1) (f185 x1 x2 x3 x4 x5 M)
                unfold f185
                have f142 : M 142 = M 142 := rfl
                refine wp_neg (by rw [f142, e42]; omega) ?_
                refine wp_neg (by rw [f142, h.m4]; omega) ?_
                refine wp_bind (w132 ((congrFun f142 3).trans h.m3) (by omega) ?_)
                rw [if_pos h_a]
                refine wp_neg (by decide) ?_
                refine wp_bind (w132 ((congrFun f142 3).trans h.m3) (by omega) ?_)
                rw [if_pos h_b]
                refine wp_neg (by decide) ?_
                refine wp_neg h_d ?_
                refine wp_bind (w143 ?_)
                rw [if_pos h_u]
                refine wp_neg (by decide) ?_
                refine wp_bind (w143 ?_)
                rw [if_neg h_v]
                refine wp_pos rfl ?_
                exact wp_some ⟨rfl, h.G⟩
            · refine wp_pos (e24.trans h_t) ?_
              refine wp_pos (by rw [h.e31]; omega) ?_
              refine wp_bind (w214 h.e30 ?_)
              rw [if_pos h_a]
              refine wp_neg (by decide) ?_
              refine wp_bind (w214 h.e30 ?_)
              rw [if_pos h_b]
              refine wp_neg (by decide) ?_
              refine wp_neg h_d ?_
              refine wp_bind (w80 ?_)
              rw [if_neg h_u]
              refine wp_pos rfl ?_
              refine wp_some ?_
              show JJ (-1) (f185 x1 x2 x3 x4 x5 M)
              unfold f185
              have f142 : M 142 = M 142 := rfl
              refine wp_neg (by rw [f142, e42]; omega) ?_
              refine wp_neg (by rw [f142, h.m4]; omega) ?_
              refine wp_bind (w132 ((congrFun f142 3).trans h.m3) (by omega) ?_)
              rw [if_pos h_a]
              refine wp_neg (by decide) ?_
              refine wp_bind (w132 ((congrFun f142 3).trans h.m3) (by omega) ?_)
              rw [if_pos h_b]
              refine wp_neg (by decide) ?_
              refine wp_neg h_d ?_
              refine wp_bind (w143 ?_)
              rw [if_neg h_u]
              refine wp_pos rfl ?_
              exact wp_some ⟨rfl, h.G⟩
          · refine wp_pos (e24.trans h_t) ?_
            refine wp_pos (by rw [h.e31]; omega) ?_
            refine wp_bind (w214 h.e30 ?_)
            rw [if_pos h_a]
            refine wp_neg (by decide) ?_
            refine wp_bind (w214 h.e30 ?_)
            rw [if_pos h_b]
            refine wp_neg (by decide) ?_
            refine wp_pos (Decidable.of_not_not h_d) ?_
            refine wp_some ?_
            show JJ (-1) (f185 x1 x2 x3 x4 x5 M)
            unfold f185
            have f142 : M 142 = M 142 := rfl
            refine wp_neg (by rw [f142, e42]; omega) ?_
            refine wp_neg (by rw [f142, h.m4]; omega) ?_
            refine wp_bind (w132 ((congrFun f142 3).trans h.m3) (by omega) ?_)
            rw [if_pos h_a]
            refine wp_neg (by decide) ?_
            refine wp_bind (w132 ((congrFun f142 3).trans h.m3) (by omega) ?_)
            rw [if_pos h_b]
            refine wp_neg (by decide) ?_
            refine wp_pos (Decidable.of_not_not h_d) ?_
            exact wp_some ⟨rfl, h.G⟩
        · refine wp_pos (e24.trans h_t) ?_
          refine wp_pos (by rw [h.e31]; omega) ?_
          refine wp_bind (w214 h.e30 ?_)
          rw [if_pos h_a]
          refine wp_neg (by decide) ?_
          refine wp_bind (w214 h.e30 ?_)
          rw [if_neg h_b]
          refine wp_pos rfl ?_
          refine wp_some ?_
          show JJ (-1) (f185 x1 x2 x3 x4 x5 M)
          unfold f185
          have f142 : M 142 = M 142 := rfl
          refine wp_neg (by rw [f142, e42]; omega) ?_
          refine wp_neg (by rw [f142, h.m4]; omega) ?_
          refine wp_bind (w132 ((congrFun f142 3).trans h.m3) (by omega) ?_)
          rw [if_pos h_a]
          refine wp_neg (by decide) ?_
          refine wp_bind (w132 ((congrFun f142 3).trans h.m3) (by omega) ?_)
          rw [if_neg h_b]
          refine wp_pos rfl ?_
          exact wp_some ⟨rfl, h.G⟩
      · refine wp_pos (e24.trans h_t) ?_
        refine wp_pos (by rw [h.e31]; omega) ?_
        refine wp_bind (w214 h.e30 ?_)
        rw [if_neg h_a]
        refine wp_pos rfl ?_
        refine wp_some ?_
        show JJ (-1) (f185 x1 x2 x3 x4 x5 M)
        unfold f185
        have f142 : M 142 = M 142 := rfl
        refine wp_neg (by rw [f142, e42]; omega) ?_
        refine wp_neg (by rw [f142, h.m4]; omega) ?_
        refine wp_bind (w132 ((congrFun f142 3).trans h.m3) (by omega) ?_)
        rw [if_neg h_a]
        refine wp_pos rfl ?_
        exact wp_some ⟨rfl, h.G⟩
    · refine wp_pos (e24.trans h_t) ?_
      refine wp_neg (by rw [h.e31]; omega) ?_
      refine wp_some ?_
      show JJ (-1) (f185 x1 x2 x3 x4 x5 M)
      unfold f185
      have f142 : M 142 = M 142 := rfl
      refine wp_neg (by rw [f142, e42]; omega) ?_
      refine wp_pos (by rw [f142, h.m4]; omega) ?_
      exact wp_some ⟨rfl, h.G⟩
  · refine wp_neg (by rw [e24]; exact h_t) ?_
    refine wp_some ?_
    show JJ (-1) (f185 x1 x2 x3 x4 x5 M)
    unfold f185
    have f142 : M 142 = M 142 := rfl
    refine wp_pos (by rw [f142, e42]; omega) ?_
    exact wp_some ⟨rfl, h.G⟩
theorem c71 {x1 x2 x3 : Int} (h : IV N S Ps l M) : Wp (f71 x1 x2 x3 M) (fun r => JJ r.1 (f171 x1 x2 x3 r.2)) := by
  have h14 := h.1.1.w14
  have h8 := h.1.1.n8
  have h9 := h.1.1.k9
  have hcl := h.1.2.2.1
  have e24 : M 24 0 = S 6 1 := h.1.2.2.2.2.1.2.2.2.2.2
  have e42 : M 142 2 = S 6 1 := h.1.2.2.2.2.2.2.2.1.1
  have p6 : 0 ≤ S 6 1 := h.1.2.1.2.2.2.2.2.2.2.1
  unfold f71
  by_cases h_t : S 6 1 = 0
  · by_cases h_n : nN N < 8
    · by_cases h_a : 0 ≤ x1 ∧ x1 < 4
      · by_cases h_u : 0 ≤ x2 ∧ x2 ≤ 2000
        · by_cases h_v : 0 ≤ x3 ∧ x3 ≤ 9
          · refine wp_pos (e24.trans h_t) ?_
            refine wp_pos (by rw [h.e30]; omega) ?_
            refine wp_bind (w56 ?_)
            rw [if_pos h_a]
            refine wp_neg (by decide) ?_
            refine wp_bind (w80 ?_)
            rw [if_pos h_u]
            refine wp_neg (by decide) ?_
            refine wp_bind (w80 ?_)
            rw [if_pos h_v]
            refine wp_neg (by decide) ?_
            have e13 : M 13 = N 13 := hcl.2 13 (by decide) (by decide)
            rw [h.e30, Int.toNat_natCast]
            refine wp_gd (by omega) (wp_mlet (wp_obnd (w210 (n := nN N) h_n ?_ ?_ (fun M2 p a1 a2 a3 a4 a5 a6 a7 a8 a9 a10 => wp_some ?_))))
            · rw [ms_a (by decide)]
              exact h.e30
            · intro j hj
              rw [ms_a (by decide), e13]
              have := h.1.1.cr.1 j hj
              omega
            rw [ms_a (show (13 : Nat) ≠ 25 by decide)] at a6 a8 a9 a10
            rw [ms_a (show (12 : Nat) ≠ 25 by decide)] at a9 a10
            rw [ms_a (show (3 : Nat) ≠ 25 by decide)] at a3
            rw [ms_a (show (11 : Nat) ≠ 25 by decide), ms_a (show (12 : Nat) ≠ 25 by decide)] at a4
            show JJ (nN N) (f171 x1 x2 x3 (M2))
            unfold f171
            have f142 : M2 142 = M 142 := (a1 142 (by decide) (by decide) (by decide) (by decide)).trans (ms_a (by decide))
            refine wp_neg (by rw [f142, e42]; omega) ?_
            refine wp_neg (by rw [f142, h.m3]; omega) ?_
            refine wp_bind (w126 ?_)
            rw [if_pos h_a]
            refine wp_neg (by decide) ?_
            refine wp_bind (w143 ?_)
            rw [if_pos h_u]
            refine wp_neg (by decide) ?_
            refine wp_bind (w143 ?_)
            rw [if_pos h_v]
            refine wp_neg (by decide) ?_
            have f4 : M2 142 3 = nN N := (congrFun f142 3).trans h.m3
            have t1 : (36059 + (nN N : Int)).toNat = 36059 + nN N := by omega
            refine wp_gd (by omega) (wp_mlet (wp_gd (by rw [ms_a (by decide)]; omega) (wp_mlet (wp_gd (by rw [ms_a (by decide), ms_a (by decide)]; omega) (wp_gd (by rw [ms_a (by decide), ms_a (by decide)]; omega) (wp_mlet (wp_gd (by rw [ms_a (by decide), ms_a (by decide), ms_a (by decide)]; omega) (wp_mlet ?_))))))))
            simp only [ms_a (show (142 : Nat) ≠ 145 by decide), ms_a (show (142 : Nat) ≠ 146 by decide), ms_a (show (142 : Nat) ≠ 144 by decide), f4, t1, Int.toNat_natCast, ms_v]
            refine wp_gd (by omega) ?_
            rw [show ((nN N : Int) + 1 - 1) = nN N by omega]
            refine jj (IV.G (fin71 (x1 := x1) (x3 := x3) h h_t h_n h_a h_u h_v (fun b q1 q2 q3 q4 q5 q6 q7 q8 q9 => ?_) ?_ (fun j hj => ?_) ⟨fun w => ?_, fun w => ?_⟩ a5 (fun j q => ?_) ?_ (fun j q1 q2 => ?_) a9 a10 ⟨fun w => ?_, fun w => ?_⟩ ⟨fun w => ?_, ?_, fun a qa => ?_⟩ ?_ (fun j hj => ?_)))
            · rw [ms_a q6, ms_a q7, ms_a q9, ms_a q8, a1 b q1 q2 q3 q4, ms_a q5]
            · repeat rw [ms_a (by decide)]
              exact a2
            · repeat rw [ms_a (by decide)]
              exact a3 j hj
            · repeat rw [ms_a (by decide)]
              exact a4.1 w
            · repeat rw [ms_a (by decide)]
              exact a4.2 w
            · repeat rw [ms_a (by decide)]
              exact a6 j q
            · repeat rw [ms_a (by decide)]
              exact a7
            · repeat rw [ms_a (by decide)]
              exact a8 j q1 q2
            · rw [ms_a (by decide), ms_a (by decide), ms_a (by decide), ms_at, a1 145 (by decide) (by decide) (by decide) (by decide), ms_a (by decide)]
            · rw [ms_a (by decide), ms_a (by decide), ms_at, ms_a (by decide), a1 146 (by decide) (by decide) (by decide) (by decide), ms_a (by decide)]
            · rw [ms_a (by decide), ms_a (by decide), ms_a (by decide), ms_a (by decide), a1 25 (by decide) (by decide) (by decide) (by decide), ms_at]
            · rw [ms_a (by decide), ms_v]
            · rw [ms_a (by decide), ms_i qa, ms_a (by decide), ms_a (by decide), a1 144 (by decide) (by decide) (by decide) (by decide), ms_a (by decide)]
            · rw [ms_v]
            · rw [ms_i hj]
              repeat rw [ms_a (by decide)]
              exact congrFun f142 j
          · refine wp_pos (e24.trans h_t) ?_
            refine wp_pos (by rw [h.e30]; omega) ?_
            refine wp_bind (w56 ?_)
            rw [if_pos h_a]
            refine wp_neg (by decide) ?_
            refine wp_bind (w80 ?_)
            rw [if_pos h_u]
            refine wp_neg (by decide) ?_
            refine wp_bind (w80 ?_)
            rw [if_neg h_v]
            refine wp_pos rfl ?_
            refine wp_some ?_
            show JJ (-1) (f171 x1 x2 x3 M)
            unfold f171
            have f142 : M 142 = M 142 := rfl
            refine wp_neg (by rw [f142, e42]; omega) ?_
            refine wp_neg (by rw [f142, h.m3]; omega) ?_
            refine wp_bind (w126 ?_)
            rw [if_pos h_a]
            refine wp_neg (by decide) ?_
            refine wp_bind (w143 ?_)
            rw [if_pos h_u]
            refine wp_neg (by decide) ?_
            refine wp_bind (w143 ?_)
            rw [if_neg h_v]
            refine wp_pos rfl ?_
            exact wp_some ⟨rfl, h.G⟩
        · refine wp_pos (e24.trans h_t) ?_
          refine wp_pos (by rw [h.e30]; omega) ?_
          refine wp_bind (w56 ?_)
          rw [if_pos h_a]
          refine wp_neg (by decide) ?_
          refine wp_bind (w80 ?_)
          rw [if_neg h_u]
          refine wp_pos rfl ?_
          refine wp_some ?_
          show JJ (-1) (f171 x1 x2 x3 M)
          unfold f171
          have f142 : M 142 = M 142 := rfl
          refine wp_neg (by rw [f142, e42]; omega) ?_
          refine wp_neg (by rw [f142, h.m3]; omega) ?_
          refine wp_bind (w126 ?_)
          rw [if_pos h_a]
          refine wp_neg (by decide) ?_
          refine wp_bind (w143 ?_)
          rw [if_neg h_u]
          refine wp_pos rfl ?_
          exact wp_some ⟨rfl, h.G⟩
      · refine wp_pos (e24.trans h_t) ?_
        refine wp_pos (by rw [h.e30]; omega) ?_
        refine wp_bind (w56 ?_)
        rw [if_neg h_a]
        refine wp_pos rfl ?_
        refine wp_some ?_
        show JJ (-1) (f171 x1 x2 x3 M)
        unfold f171
        have f142 : M 142 = M 142 := rfl
        refine wp_neg (by rw [f142, e42]; omega) ?_
        refine wp_neg (by rw [f142, h.m3]; omega) ?_
        refine wp_bind (w126 ?_)
        rw [if_neg h_a]
        refine wp_pos rfl ?_
        exact wp_some ⟨rfl, h.G⟩
    · refine wp_pos (e24.trans h_t) ?_
      refine wp_neg (by rw [h.e30]; omega) ?_
      refine wp_some ?_
      show JJ (-1) (f171 x1 x2 x3 M)
      unfold f171
      have f142 : M 142 = M 142 := rfl
      refine wp_neg (by rw [f142, e42]; omega) ?_
      refine wp_pos (by rw [f142, h.m3]; omega) ?_
      exact wp_some ⟨rfl, h.G⟩
  · refine wp_neg (by rw [e24]; exact h_t) ?_
    refine wp_some ?_
    show JJ (-1) (f171 x1 x2 x3 M)
    unfold f171
    have f142 : M 142 = M 142 := rfl
    refine wp_pos (by rw [f142, e42]; omega) ?_
    exact wp_some ⟨rfl, h.G⟩
theorem c81 {x1 x2 x3 : Int} (h : IV N S Ps l M) : Wp (f81 x1 x2 x3 M) (fun r => JJ r.1 (f188 x1 x2 x3 r.2)) := by
  have h14 := h.1.1.w14
  have h8 := h.1.1.n8
  have h9 := h.1.1.k9
  have hcl := h.1.2.2.1
  have e24 : M 24 0 = S 6 1 := h.1.2.2.2.2.1.2.2.2.2.2
  have e42 : M 142 2 = S 6 1 := h.1.2.2.2.2.2.2.2.1.1
  have p6 : 0 ≤ S 6 1 := h.1.2.1.2.2.2.2.2.2.2.1
  unfold f81
  by_cases h_t : S 6 1 = 0
  · by_cases h_n : nK N < 9
    · by_cases h_a : 0 ≤ x1 ∧ x1 < nN N
      · by_cases h_u : 1 ≤ x2 ∧ x2 ≤ 5000
        · by_cases h_v : 0 ≤ x3 ∧ x3 ≤ 99
          · refine wp_pos (e24.trans h_t) ?_
            refine wp_pos (by rw [h.e32]; omega) ?_
            refine wp_bind (w214 h.e30 ?_)
            rw [if_pos h_a]
            refine wp_neg (by decide) ?_
            refine wp_bind (w80 ?_)
            rw [if_pos h_u]
            refine wp_neg (by decide) ?_
            refine wp_bind (w80 ?_)
            rw [if_pos h_v]
            refine wp_neg (by decide) ?_
            have e23 : M 23 = N 23 := hcl.2 23 (by decide) (by decide)
            rw [h.e32]
            refine wp_mlet (wp_obnd (w212 (n := nK N) h_n ?_ ?_ (fun M2 p a1 a2 a3 a4 a5 a6 a7 a8 a9 a10 => wp_some ?_)))
            · rw [ms_a (by decide)]
              exact h.e32
            · intro j hj
              rw [ms_a (by decide), e23]
              have := h.1.1.cp.1 j hj
              omega
            rw [ms_a (show (23 : Nat) ≠ 24 by decide)] at a6 a8 a9 a10
            rw [ms_a (show (22 : Nat) ≠ 24 by decide)] at a9 a10
            rw [ms_a (show (3 : Nat) ≠ 24 by decide)] at a3
            rw [ms_a (show (20 : Nat) ≠ 24 by decide), ms_a (show (21 : Nat) ≠ 24 by decide), ms_a (show (22 : Nat) ≠ 24 by decide)] at a4
            show JJ (nK N) (f188 x1 x2 x3 (M2))
            unfold f188
            have f142 : M2 142 = M 142 := (a1 142 (by decide) (by decide) (by decide) (by decide) (by decide)).trans (ms_a (by decide))
            refine wp_neg (by rw [f142, e42]; omega) ?_
            refine wp_neg (by rw [f142, h.m5]; omega) ?_
            refine wp_bind (w132 ((congrFun f142 3).trans h.m3) (by omega) ?_)
            rw [if_pos h_a]
            refine wp_neg (by decide) ?_
            refine wp_bind (w143 ?_)
            rw [if_pos h_u]
            refine wp_neg (by decide) ?_
            refine wp_bind (w143 ?_)
            rw [if_pos h_v]
            refine wp_neg (by decide) ?_
            have f4 : M2 142 5 = nK N := (congrFun f142 5).trans h.m5
            have t1 : (36042 + (nK N : Int)).toNat = 36042 + nK N := by omega
            refine wp_gd (by omega) (wp_mlet (wp_gd (by rw [ms_a (by decide)]; omega) (wp_mlet (wp_gd (by rw [ms_a (by decide), ms_a (by decide)]; omega) (wp_mlet (wp_gd (by rw [ms_a (by decide), ms_a (by decide), ms_a (by decide)]; omega) (wp_gd (by rw [ms_a (by decide), ms_a (by decide), ms_a (by decide)]; omega) (wp_mlet (wp_gd (by rw [ms_a (by decide), ms_a (by decide), ms_a (by decide), ms_a (by decide)]; omega) (wp_mlet ?_))))))))))
            simp only [ms_a (show (142 : Nat) ≠ 153 by decide), ms_a (show (142 : Nat) ≠ 154 by decide), ms_a (show (142 : Nat) ≠ 155 by decide), ms_a (show (142 : Nat) ≠ 144 by decide), f4, t1, Int.toNat_natCast, ms_v]
            refine wp_gd (by omega) ?_
            rw [show ((nK N : Int) + 1 - 1) = nK N by omega]
            refine jj (IV.G (fin81 (x1 := x1) (x2 := x2) (x3 := x3) h h_t h_n h_a h_u h_v (fun b q1 q2 q6 q7 q8 => ?_) ?_ (fun j hj => ?_) ⟨fun w => ?_, fun w => ?_, fun w => ?_⟩ a5 (fun j q => ?_) ?_ (fun j q1 q2 => ?_) a9 a10 ⟨fun w => ?_, fun w => ?_, fun w => ?_⟩ ⟨?_, ?_, fun a qa => ?_⟩ ?_ (fun j hj => ?_)))
            · rw [ms_a q6, ms_a q7, ms_a (by omega), ms_a (by omega), ms_a (by omega), a1 b q1 (by omega) (by omega) (by omega) (by omega), ms_a (by omega)]
            · repeat rw [ms_a (by decide)]
              exact a2
            · repeat rw [ms_a (by decide)]
              exact a3 j hj
            · repeat rw [ms_a (by decide)]
              exact a4.1 w
            · repeat rw [ms_a (by decide)]
              exact a4.2.1 w
            · repeat rw [ms_a (by decide)]
              exact a4.2.2 w
            · repeat rw [ms_a (by decide)]
              exact a6 j q
            · repeat rw [ms_a (by decide)]
              exact a7
            · repeat rw [ms_a (by decide)]
              exact a8 j q1 q2
            · rw [ms_a (by decide), ms_a (by decide), ms_a (by decide), ms_a (by decide), ms_at, a1 153 (by decide) (by decide) (by decide) (by decide) (by decide), ms_a (by decide)]
            · rw [ms_a (by decide), ms_a (by decide), ms_a (by decide), ms_at, ms_a (by decide), a1 154 (by decide) (by decide) (by decide) (by decide) (by decide), ms_a (by decide)]
            · rw [ms_a (by decide), ms_a (by decide), ms_at, ms_a (by decide), ms_a (by decide), a1 155 (by decide) (by decide) (by decide) (by decide) (by decide), ms_a (by decide)]
            · rw [ms_a (by decide), ms_a (by decide), ms_a (by decide), ms_a (by decide), ms_a (by decide)]
              exact a1 24 (by decide) (by decide) (by decide) (by decide) (by decide)
            · rw [ms_a (by decide), ms_v]
            · rw [ms_a (by decide), ms_i qa, ms_a (by decide), ms_a (by decide), ms_a (by decide), a1 144 (by decide) (by decide) (by decide) (by decide) (by decide), ms_a (by decide)]
            · rw [ms_v]
            · rw [ms_i hj]
              repeat rw [ms_a (by decide)]
              exact congrFun f142 j
          · refine wp_pos (e24.trans h_t) ?_
            refine wp_pos (by rw [h.e32]; omega) ?_
            refine wp_bind (w214 h.e30 ?_)
            rw [if_pos h_a]
            refine wp_neg (by decide) ?_
            refine wp_bind (w80 ?_)
            rw [if_pos h_u]
            refine wp_neg (by decide) ?_
            refine wp_bind (w80 ?_)
            rw [if_neg h_v]
            refine wp_pos rfl ?_
            refine wp_some ?_
            show JJ (-1) (f188 x1 x2 x3 M)
            unfold f188
            have f142 : M 142 = M 142 := rfl
            refine wp_neg (by rw [f142, e42]; omega) ?_
            refine wp_neg (by rw [f142, h.m5]; omega) ?_
            refine wp_bind (w132 ((congrFun f142 3).trans h.m3) (by omega) ?_)
            rw [if_pos h_a]
            refine wp_neg (by decide) ?_
            refine wp_bind (w143 ?_)
            rw [if_pos h_u]
            refine wp_neg (by decide) ?_
            refine wp_bind (w143 ?_)
            rw [if_neg h_v]
            refine wp_pos rfl ?_
            exact wp_some ⟨rfl, h.G⟩
        · refine wp_pos (e24.trans h_t) ?_
          refine wp_pos (by rw [h.e32]; omega) ?_
          refine wp_bind (w214 h.e30 ?_)
          rw [if_pos h_a]
          refine wp_neg (by decide) ?_
          refine wp_bind (w80 ?_)
          rw [if_neg h_u]
          refine wp_pos rfl ?_
          refine wp_some ?_
          show JJ (-1) (f188 x1 x2 x3 M)
          unfold f188
          have f142 : M 142 = M 142 := rfl
          refine wp_neg (by rw [f142, e42]; omega) ?_
          refine wp_neg (by rw [f142, h.m5]; omega) ?_
          refine wp_bind (w132 ((congrFun f142 3).trans h.m3) (by omega) ?_)
          rw [if_pos h_a]
          refine wp_neg (by decide) ?_
          refine wp_bind (w143 ?_)
          rw [if_neg h_u]
          refine wp_pos rfl ?_
          exact wp_some ⟨rfl, h.G⟩
      · refine wp_pos (e24.trans h_t) ?_
        refine wp_pos (by rw [h.e32]; omega) ?_
        refine wp_bind (w214 h.e30 ?_)
        rw [if_neg h_a]
        refine wp_pos rfl ?_
        refine wp_some ?_
        show JJ (-1) (f188 x1 x2 x3 M)
        unfold f188
        have f142 : M 142 = M 142 := rfl
        refine wp_neg (by rw [f142, e42]; omega) ?_
        refine wp_neg (by rw [f142, h.m5]; omega) ?_
        refine wp_bind (w132 ((congrFun f142 3).trans h.m3) (by omega) ?_)
        rw [if_neg h_a]
        refine wp_pos rfl ?_
        exact wp_some ⟨rfl, h.G⟩
    · refine wp_pos (e24.trans h_t) ?_
      refine wp_neg (by rw [h.e32]; omega) ?_
      refine wp_some ?_
      show JJ (-1) (f188 x1 x2 x3 M)
      unfold f188
      have f142 : M 142 = M 142 := rfl
      refine wp_neg (by rw [f142, e42]; omega) ?_
      refine wp_pos (by rw [f142, h.m5]; omega) ?_
      exact wp_some ⟨rfl, h.G⟩
  · refine wp_neg (by rw [e24]; exact h_t) ?_
    refine wp_some ?_
    show JJ (-1) (f188 x1 x2 x3 M)
    unfold f188
    have f142 : M 142 = M 142 := rfl
    refine wp_pos (by rw [f142, e42]; omega) ?_
    exact wp_some ⟨rfl, h.G⟩
end SET9
