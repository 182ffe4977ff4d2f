section SET7
variable {N S M M2 : Mm} {Ps : Nat → Mm} {l : List (Bool × Sem)}
theorem frX.fp (h : frX M M2) : fpP M M2 := ⟨fun b hb => by
  unfold perB at hb
  exact h.1 b hb.1 hb.2.1 (by omega), fun j hj => h.2.1 j (by omega), h.2.2⟩
theorem frB.fp (h : frB M M2) : fpP M M2 := fpP.of (fun b hb => by
  unfold perB at hb
  exact h b (by omega))
theorem frS.fp (h : frS 31 M M2) : fpP M M2 := fpP.of (fun b hb => by
  unfold perB at hb
  exact h b (by omega))
/-- as it stands now, both objects -/
theorem IV.reck {P : Mm → Prop} (h : IV N S Ps l M) (k : ∀ M2 : Mm, IV N S Ps l M2 → sgR N S M2 31 → P M2) : Wp (f238 31 24 M) P :=
  w238 (r := 31) (r2 := 24) h.1.1 h.1.2.1 h.1.2.2.1 h.1.2.2.2.2.1 ⟨by decide, by decide⟩ (fun M2 q1 q2 => k M2 (h.fp q1.fp) q2)
theorem IV.stnd {P : Mm → Prop} (h : IV N S Ps l M) (k : ∀ M2 : Mm, IV N S Ps l M2 → mgR N S M2 36144 → P M2) : Wp (f174 M) P := by
  unfold f174
  refine wp_bind (w96 (z := 36000) (z2 := 36144) (by decide) (by decide) (by decide) (fun M2 a1 a2 a3 => ?_))
  have f2 : fpP M M2 := ⟨fun b hb => a1 b hb.2.1, fun j _ => by rw [a1 142 (by decide)], fun a ha => a2 a (by omega)⟩
  have h2 := h.fp f2
  have hs : sM S M2 36144 := sM.cp (z := 36000) h.1.2.2.2.2.2.1 (fun j hj => a3 j hj)
  refine wp_bind (w173 (z := 36144) h2.1.1 h2.1.2.1 h2.1.2.2.2.1 (by decide) hs (fun M3 g1 g2 => wp_some (k M3 (h2.fp ⟨fun b hb => ?_, fun j hj => g1.2.1 j (by omega), fun a ha => g1.2.2 a (by omega)⟩) g2)))
  unfold perB at hb
  exact g1.1 b hb.1 hb.2.1 (by omega)
theorem c50 {x1 : Int} (h : IV N S Ps l M) : Wp (f50 x1 M) (fun r => JJ r.1 (f110 x1 r.2)) := by
  have h14 := h.1.1.w14
  unfold f50
  by_cases h1 : 0 ≤ x1 ∧ x1 < nW N
  · obtain ⟨w, rfl⟩ := Int.eq_ofNat_of_zero_le h1.1
    refine wp_bind (w215 h.e31 ?_)
    rw [if_pos h1]
    refine wp_neg (by decide) (wp_bind (h.reck (fun M2 h2 g => wp_gd (by omega) (wp_some ?_))))
    rw [Int.toNat_natCast]
    have e : M2 36 w = told N S w := g.2.2.2.2.2 w (by omega)
    rw [e]
    show JJ (told N S w) (f110 (w : Int) M2)
    unfold f110
    refine wp_bind (w136 h2.m4 (by omega) ?_)
    rw [if_pos h1]
    refine wp_neg (by decide) (wp_bind (h2.stnd (fun M3 h3 g3 => wp_bind (w178 h3.1.1 h3.1.2.1 (by omega) (g3.2.2.2.2 w (by omega)).1 (g3.2.2.2.2 w (by omega)).2 (jj h3.G)))))
  · refine wp_bind (w215 h.e31 ?_)
    rw [if_neg h1]
    refine wp_pos rfl (wp_some ?_)
    show JJ (-1000000000) (f110 x1 M)
    unfold f110
    refine wp_bind (w136 h.m4 (by omega) ?_)
    rw [if_neg h1]
    exact wp_pos rfl (jj h.G)
theorem c82 {x1 x2 : Int} (h : IV N S Ps l M) : Wp (f82 x1 x2 M) (fun r => JJ r.1 (f189 x1 x2 r.2)) := by
  have h9 := h.1.1.k9
  have hpw := pw2_k h.1.1
  unfold f82
  by_cases h1 : 0 ≤ x1 ∧ x1 < nK N
  · obtain ⟨k, rfl⟩ := Int.eq_ofNat_of_zero_le h1.1
    refine wp_bind (w216 h.e32 ?_)
    rw [if_pos h1]
    refine wp_neg (by decide) ?_
    have pre : ∀ (M1 : Mm) (v : Int), IV N S Ps l M1 → JJ v (if 0 ≤ x2 ∧ x2 ≤ 1 then (if x2 = 0 then (gd (R4 (36042 + (k : Int))) (gd (0 ≤ (36042 + (k : Int)) ∧ (36042 + (k : Int)) < 36400) (some ((M1 144 ((36042 + (k : Int))).toNat), M1)))) else ((f174 M1).bind fun M11 => gd (0 ≤ (k : Int) ∧ (k : Int) < 9) (some ((M11 159 ((k : Int)).toNat), M11)))) else some (-1, M1)) → JJ v (f189 (k : Int) x2 M1) := fun M1 v hM1 hj => by
      unfold f189
      refine wp_bind (w137 hM1.m5 (by omega) ?_)
      rw [if_pos h1]
      refine wp_neg (by decide) (wp_bind (w143 ?_))
      by_cases z : 0 ≤ x2 ∧ x2 ≤ 1
      · rw [if_pos z] at hj ⊢
        exact wp_neg (by decide) hj
      · rw [if_neg z] at hj ⊢
        exact wp_pos rfl hj
    refine wp_ite (fun d => ?_) (fun d => wp_ite (fun d2 => ?_) (fun d2 => wp_some ?_))
    · have hbt := h.1.2.2.2.2.1.2.2.2.1
      refine wp_bind (w245 hbt.1 (by omega) (by omega) (by omega) ?_)
      rw [Int.toNat_natCast, ← hbt.2.2 k]
      have ans : ∀ v : Int, v = S 5 k → JJ v (f189 (k : Int) x2 M) := fun v hv => pre M v h (by
        rw [if_pos (by omega), if_pos d, show (36042 + (k : Int)).toNat = 36042 + k by omega]
        have e : M 144 (36042 + k) = S 5 k := h.1.2.2.2.2.2.1.2.2.1 k (by omega)
        rw [e, ← hv]
        exact wp_gd (by omega) (wp_gd (by omega) (jj h.G)))
      have h01 := h.1.2.1.2.2.2.2.1 k
      exact wp_ite (fun q => wp_some (ans 0 q.symm)) (fun q => wp_some (ans 1 (by omega)))
    · refine wp_bind (h.reck (fun M2 h2 g => wp_gd (by omega) (wp_some ?_)))
      rw [Int.toNat_natCast]
      have e : M2 35 k = gv N S k := g.2.2.2.2.1 k (by omega)
      rw [e]
      refine pre M2 _ h2 ?_
      rw [if_pos (by omega), if_neg d]
      refine wp_bind (h2.stnd (fun M3 h3 g3 => wp_gd (by omega) ?_))
      rw [Int.toNat_natCast, g3.2.2.2.1 k (by omega)]
      exact jj h3.G
    · refine pre M (-1) h ?_
      rw [if_neg (by omega)]
      exact jj h.G
  · refine wp_bind (w216 h.e32 ?_)
    rw [if_neg h1]
    refine wp_pos rfl (wp_some ?_)
    show JJ (-1) (f189 x1 x2 M)
    unfold f189
    refine wp_bind (w137 h.m5 (by omega) ?_)
    rw [if_neg h1]
    exact wp_pos rfl (jj h.G)
theorem c72 {x1 x2 : Int} (h : IV N S Ps l M) : Wp (f72 x1 x2 M) (fun r => JJ r.1 (f172 x1 x2 r.2)) := by
  have h8 := h.1.1.n8
  have hpw := pw2_n h.1.1
  unfold f72
  by_cases h1 : 0 ≤ x1 ∧ x1 < nN N
  · obtain ⟨s, rfl⟩ := Int.eq_ofNat_of_zero_le h1.1
    refine wp_bind (w214 h.e30 ?_)
    rw [if_pos h1]
    refine wp_neg (by decide) (wp_bind (w80 ?_))
    -- the second object
    have mod : ∀ (M1 : Mm) (v : Int), IV N S Ps l M1 → (x2 = 0 → v = S 3 s) → (x2 = 1 → v = S 4 s) → (x2 = 2 → v = dkF N S s) → (x2 = 3 → v = isl N S s) → (x2 = 4 → v = rsv N S (isl N S s)) → (¬ (0 ≤ x2 ∧ x2 ≤ 4) → v = -1) → JJ v (f172 (s : Int) x2 M1) := fun M1 v hM1 v0 v1 v2 v3 v4 v5 => by
      unfold f172
      refine wp_bind (w132 hM1.m3 (by omega) ?_)
      rw [if_pos h1]
      refine wp_neg (by decide) (wp_bind (hM1.stnd (fun M3 h3 g3 => ?_)))
      rw [show ((36059 : Int) + s).toNat = 36059 + s by omega, show ((36051 : Int) + s).toNat = 36051 + s by omega, show ((36195 : Int) + s).toNat = 36195 + s by omega, Int.toNat_natCast]
      have e0 : M3 144 (36059 + s) = S 3 s := (h3.1.2.2.2.2.2.1.2.1 s (by omega)).1
      have e1 : M3 144 (36051 + s) = S 4 s := (h3.1.2.2.2.2.2.1.2.1 s (by omega)).2
      have e2 : M3 144 (36195 + s) = dkF N S s := g3.1 s (by omega)
      have e3 := g3.2.2.1 s (by omega)
      have hi := isl_lt (N := N) (S := S) (i := s) (by omega)
      rw [e0, e1, e2, e3.1, Int.toNat_natCast, e3.2]
      refine wp_ite (fun d => wp_gd (by omega) (wp_gd (by omega) (wp_some ⟨(v0 d).symm, h3.G⟩))) (fun d0 => wp_ite (fun d => wp_gd (by omega) (wp_gd (by omega) (wp_some ⟨(v1 d).symm, h3.G⟩))) (fun d1 => wp_ite (fun d => wp_gd (by omega) (wp_gd (by omega) (wp_some ⟨(v2 d).symm, h3.G⟩))) (fun d2 => wp_ite (fun d => wp_gd (by omega) (wp_some ⟨(v3 d).symm, h3.G⟩)) (fun d3 => wp_ite (fun d => wp_gd (by omega) (wp_gd (by omega) (wp_some ⟨(v4 d).symm, h3.G⟩))) (fun d4 => wp_some ⟨(v5 (by omega)).symm, h3.G⟩)))))
    by_cases z : 0 ≤ x2 ∧ x2 ≤ 4
    · rw [if_pos z]
      refine wp_neg (by decide) (wp_ite (fun d => wp_gd (by omega) (wp_some ?_)) (fun d0 => wp_ite (fun d => ?_) (fun d1 => wp_bind (h.reck (fun M2 h2 g => ?_)))))
      · rw [Int.toNat_natCast]
        exact mod M _ h (fun _ => h.1.2.2.2.2.1.2.1 s (by omega)) (by omega) (by omega) (by omega) (by omega) (fun q => (q z).elim)
      · have hbt := h.1.2.2.2.2.1.2.2.1
        refine wp_bind (w243 hbt.1 (by omega) (by omega) (by omega) ?_)
        rw [Int.toNat_natCast, ← hbt.2.2 s]
        have h01 := h.1.2.1.2.2.1 s
        exact wp_ite (fun q => wp_some (mod M 0 h (by omega) (by omega) (by omega) (by omega) (by omega) (fun q => (q z).elim))) (fun q => wp_some (mod M 1 h (by omega) (by omega) (by omega) (by omega) (by omega) (fun q => (q z).elim)))
      · obtain ⟨⟨b1, b2, b3⟩, _, _, b4, _⟩ := g
        have b5 := b4 s (by omega)
        refine wp_ite (fun d => wp_some ?_) (fun d2 => wp_ite (fun d => wp_gd (by omega) (wp_some ?_)) (fun d3 => wp_gd (by omega) (wp_some ?_)))
        · rw [bT b1 (by omega) (by omega) (by omega), Int.toNat_natCast, ← b3 s]
          exact mod M2 _ h2 (by omega) (by omega) (fun _ => rfl) (by omega) (by omega) (fun q => (q z).elim)
        · rw [Int.toNat_natCast]
          exact mod M2 _ h2 (by omega) (by omega) (by omega) (fun _ => b5.1) (by omega) (fun q => (q z).elim)
        · rw [Int.toNat_natCast]
          exact mod M2 _ h2 (fun q => (d0 q).elim) (fun q => (d1 q).elim) (fun q => (d2 q).elim) (fun q => (d3 q).elim) (fun _ => b5.2) (fun q => (q z).elim)
    · rw [if_neg z]
      exact wp_pos rfl (wp_some (mod M (-1) h (by omega) (by omega) (by omega) (by omega) (by omega) (fun _ => rfl)))
  · refine wp_bind (w214 h.e30 ?_)
    rw [if_neg h1]
    refine wp_pos rfl (wp_some ?_)
    show JJ (-1) (f172 x1 x2 M)
    unfold f172
    refine wp_bind (w132 h.m3 (by omega) ?_)
    rw [if_neg h1]
    exact wp_pos rfl (jj h.G)
theorem c78 {x1 x2 : Int} (h : IV N S Ps l M) : Wp (f78 x1 x2 M) (fun r => JJ r.1 (f186 x1 x2 r.2)) := by
  have h14 := h.1.1.w14
  unfold f78
  by_cases h1 : 0 ≤ x1 ∧ x1 < nW N
  · obtain ⟨w, rfl⟩ := Int.eq_ofNat_of_zero_le h1.1
    refine wp_bind (w215 h.e31 ?_)
    rw [if_pos h1]
    refine wp_neg (by decide) ?_
    have hC := h.1.2.2.2.2.1.1 w (by omega)
    have hM := h.1.2.2.2.2.2.1.1 w (by omega)
    have mod : ∀ (M1 : Mm) (v : Int), IV N S Ps l M1 → (x2 = 0 → v = S 0 w) → (x2 = 1 → v = S 1 w) → (x2 = 2 → v = S 2 w) → (x2 = 3 → (v = 0 ∨ v = 1) ∧ (v = 1 ↔ (S 0 w = 0 ∧ cbb N S w))) → (¬ (0 ≤ x2 ∧ x2 ≤ 3) → v = -1) → JJ v (f186 (w : Int) x2 M1) := fun M1 v hM1 v0 v1 v2 v3 v4 => by
      have hM := hM1.1.2.2.2.2.2.1.1 w (by omega)
      unfold f186
      refine wp_bind (w136 hM1.m4 (by omega) ?_)
      rw [if_pos h1]
      refine wp_neg (by decide) ?_
      rw [show ((36000 : Int) + w).toNat = 36000 + w by omega, show ((36014 : Int) + w).toNat = 36000 + 14 + w by omega, show ((36028 : Int) + w).toNat = 36000 + 28 + w by omega, hM.1, hM.2.1, hM.2.2]
      refine wp_ite (fun d => wp_gd (by omega) (wp_gd (by omega) (wp_some ⟨(v0 d).symm, hM1.G⟩))) (fun d0 => wp_ite (fun d => wp_gd (by omega) (wp_gd (by omega) (wp_some ⟨(v1 d).symm, hM1.G⟩))) (fun d1 => wp_ite (fun d => wp_gd (by omega) (wp_gd (by omega) (wp_some ⟨(v2 d).symm, hM1.G⟩))) (fun d2 => wp_ite (fun d => ?_) (fun d3 => wp_some ⟨(v4 (by omega)).symm, hM1.G⟩))))
      obtain ⟨u1, u2⟩ := v3 d
      refine wp_obnd (w89 hM1.1.1 hM1.1.2.1 hM1.1.2.2.2.1 hM1.1.2.2.2.2.2.1 (fun x M3 g1 g2 g3 g4 => ?_))
      have hG : GI M3 := IV.G (hM1.fp g1.fp)
      unfold f118
      refine wp_bind ?_
      show Wp (if bAnd (bShr x (w : Int)) 1 = 1 then some (1 : Int) else some 0) (fun v12 => Wp (if v12 = 0 then some ((0 : Int), M3) else some (1, M3)) (fun r => r.1 = v ∧ GI r.2))
      rw [bT g2 (by omega) (by omega) (by omega), Int.toNat_natCast]
      have g5 := g4 w
      cases ht : tb x w with
      | true =>
        rw [ht] at g5
        have : S 0 w = 0 ∧ cbb N S w := (g5.mp rfl).2
        have hv := u2.mpr this
        exact wp_pos rfl (wp_some (wp_neg (by decide) (wp_some ⟨hv.symm, hG⟩)))
      | false =>
        rw [ht] at g5
        have hv : v = 0 := u1.resolve_right (fun q => by
          have := g5.mpr ⟨by omega, u2.mp q⟩
          cases this)
        exact wp_neg (by decide) (wp_some (wp_pos rfl (wp_some ⟨hv.symm, hG⟩)))
    rw [Int.toNat_natCast]
    refine wp_ite (fun d => wp_gd (by omega) (wp_some (mod M _ h (fun _ => hC.1) (by omega) (by omega) (by omega) (by omega)))) (fun d0 => wp_ite (fun d => wp_gd (by omega) (wp_some (mod M _ h (by omega) (fun _ => hC.2.1) (by omega) (by omega) (by omega)))) (fun d1 => wp_ite (fun d => wp_gd (by omega) (wp_some (mod M _ h (by omega) (by omega) (fun _ => hC.2.2) (by omega) (by omega)))) (fun d2 => wp_ite (fun d => ?_) (fun d3 => wp_some (mod M (-1) h (by omega) (by omega) (by omega) (by omega) (fun _ => rfl))))))
    refine wp_obnd (w11 h.1.1 h.1.2.1 h.1.2.2.1 h.1.2.2.2.2.1 (by decide) (by omega) (fun v M2 g1 g2 g3 => wp_some ?_))
    exact mod M2 v (h.fp g1.fp) (by omega) (by omega) (by omega) (fun _ => ⟨g2, g3⟩) (by omega)
  · refine wp_bind (w215 h.e31 ?_)
    rw [if_neg h1]
    refine wp_pos rfl (wp_some ?_)
    show JJ (-1) (f186 x1 x2 M)
    unfold f186
    refine wp_bind (w136 h.m4 (by omega) ?_)
    rw [if_neg h1]
    exact wp_pos rfl (jj h.G)
end SET7
