/-! The calls: what both do, by what holds. -/
section GU
variable {M : Mm} {x : Int} {n : Nat} {P : Int → Prop}
theorem w214 (e : M 3 0 = n) (k : P (if 0 ≤ x ∧ x < n then 1 else 0)) : Wp (f214 x M) P := by
  unfold f214
  rw [e]
  refine wp_ite (fun d => wp_some ?_) (fun d => wp_ite (fun d2 => wp_some ?_) (fun d2 => wp_some ?_))
  · rw [if_neg (by omega)] at k; exact k
  · rw [if_pos (by omega)] at k; exact k
  · rw [if_neg (by omega)] at k; exact k
theorem w215 (e : M 3 1 = n) (k : P (if 0 ≤ x ∧ x < n then 1 else 0)) : Wp (f215 x M) P := by
  unfold f215
  rw [e]
  refine wp_ite (fun d => wp_some ?_) (fun d => wp_ite (fun d2 => wp_some ?_) (fun d2 => wp_some ?_))
  · rw [if_neg (by omega)] at k; exact k
  · rw [if_pos (by omega)] at k; exact k
  · rw [if_neg (by omega)] at k; exact k
theorem w216 (e : M 3 2 = n) (k : P (if 0 ≤ x ∧ x < n then 1 else 0)) : Wp (f216 x M) P := by
  unfold f216
  rw [e]
  refine wp_ite (fun d => wp_some ?_) (fun d => wp_ite (fun d2 => wp_some ?_) (fun d2 => wp_some ?_))
  · rw [if_neg (by omega)] at k; exact k
  · rw [if_pos (by omega)] at k; exact k
  · rw [if_neg (by omega)] at k; exact k
theorem w203 (e : M 112 0 = n) (k : P (if 0 ≤ x ∧ x < n then 1 else 0)) : Wp (f203 x M) P := by
  unfold f203
  rw [e]
  refine wp_ite (fun d => wp_some ?_) (fun d => wp_ite (fun d2 => wp_some ?_) (fun d2 => wp_some ?_))
  · rw [if_neg (by omega)] at k; exact k
  · rw [if_pos (by omega)] at k; exact k
  · rw [if_neg (by omega)] at k; exact k
theorem w143n (hn : n ≤ 600) (k : P (if 0 ≤ x ∧ x < n then 1 else 0)) : Wp (f143 x 0 ((n : Int) - 1) M) (fun v => Wp (gd (v = 0 ∨ v = 1) (some v)) P) := by
  refine w143 ?_
  by_cases d : 0 ≤ x ∧ x < n
  · rw [if_pos (by omega)]
    rw [if_pos d] at k
    exact wp_gd (Or.inr rfl) (wp_some k)
  · rw [if_neg (by omega)]
    rw [if_neg d] at k
    exact wp_gd (Or.inl rfl) (wp_some k)
theorem w132 (e : M 142 3 = n) (hn : n ≤ 600) (k : P (if 0 ≤ x ∧ x < n then 1 else 0)) : Wp (f132 x M) P := by
  unfold f132
  rw [e]
  exact wp_gd (by omega) (wp_bind (w143n hn k))
theorem w136 (e : M 142 4 = n) (hn : n ≤ 600) (k : P (if 0 ≤ x ∧ x < n then 1 else 0)) : Wp (f136 x M) P := by
  unfold f136
  rw [e]
  exact wp_gd (by omega) (wp_bind (w143n hn k))
theorem w137 (e : M 142 5 = n) (hn : n ≤ 600) (k : P (if 0 ≤ x ∧ x < n then 1 else 0)) : Wp (f137 x M) P := by
  unfold f137
  rw [e]
  exact wp_gd (by omega) (wp_bind (w143n hn k))
theorem w129 (e : M 142 8 = n) (hn : n ≤ 600) (k : P (if 0 ≤ x ∧ x < n then 1 else 0)) : Wp (f129 x M) P := by
  unfold f129
  rw [e]
  exact wp_gd (by omega) (wp_bind (w143n hn k))
theorem w56 (k : P (if 0 ≤ x ∧ x < 4 then 1 else 0)) : Wp (f56 x M) P := by
  unfold f56
  refine wp_bind (w80 ?_)
  by_cases d : 0 ≤ x ∧ x < 4
  · rw [if_pos (by omega)]
    rw [if_pos d] at k
    exact wp_gd (Or.inr rfl) (wp_some k)
  · rw [if_neg (by omega)]
    rw [if_neg d] at k
    exact wp_gd (Or.inl rfl) (wp_some k)
theorem w126 (k : P (if 0 ≤ x ∧ x < 4 then 1 else 0)) : Wp (f126 x M) P := by
  unfold f126
  refine wp_bind (w143 ?_)
  by_cases d : 0 ≤ x ∧ x < 4
  · rw [if_pos (by omega)]
    rw [if_pos d] at k
    exact wp_gd (Or.inr rfl) (wp_some k)
  · rw [if_neg (by omega)]
    rw [if_neg d] at k
    exact wp_gd (Or.inl rfl) (wp_some k)
end GU
/-- both answer alike, and what holds holds again -/
def JJ (v : Int) (o : Option (Int × Mm)) : Prop := Wp o (fun r => r.1 = v ∧ GI r.2)
section SET
variable {N S M M2 : Mm} {Ps : Nat → Mm} {l : List (Bool × Sem)}
theorem IV.G (h : IV N S Ps l M) : GI M := ⟨N, S, Ps, l, h⟩
theorem IV.e30 (h : IV N S Ps l M) : M 3 0 = nN N := by rw [h.1.2.2.1.1]; exact h.1.1.n
theorem IV.e31 (h : IV N S Ps l M) : M 3 1 = nW N := by rw [h.1.2.2.1.1]; exact h.1.1.w
theorem IV.e32 (h : IV N S Ps l M) : M 3 2 = nK N := by rw [h.1.2.2.1.1]; exact h.1.1.k
theorem IV.m3 (h : IV N S Ps l M) : M 142 3 = nN N := by rw [h.1.2.2.2.1.1]; exact h.1.1.n
theorem IV.m4 (h : IV N S Ps l M) : M 142 4 = nW N := by rw [h.1.2.2.2.1.2.1]; exact h.1.1.w
theorem IV.m5 (h : IV N S Ps l M) : M 142 5 = nK N := by rw [h.1.2.2.2.1.2.2.1]; exact h.1.1.k
theorem IV.st {S2 : Mm} (h : IV N S Ps l M) (h6 : S2 6 1 = S 6 1) (hV : sV N S2) (hC : sC N S2 M2 24) (hM : sM S2 M2 36000) (hb : ∀ b, (b < 24 ∨ 28 < b) → b ≠ 144 → M2 b = M b) (ha : ∀ a, (a < 36000 ∨ 36069 ≤ a) → M2 144 a = M 144 a) : IV N S2 Ps l M2 := by
  have hn := h.nw
  have e : nwS S2 = nwS S := by unfold nwS; rw [h6]
  obtain ⟨⟨g1, g2, g3, g4, g5, g6, g7, g8, g9⟩, h2, ⟨t, d, h3⟩, ⟨ev, h4⟩, h5, ⟨r, b, h7⟩, h8, ⟨z, h9⟩⟩ := h
  have ht : iTxt l t d M2 := h3.to (by rw [hb 3 (by omega) (by decide)]) (by rw [hb 2 (by omega) (by decide)]) (fun b q => hb b (by omega) (by omega)) (by rw [hb 142 (by omega) (by decide)]) (by rw [hb 142 (by omega) (by decide)])
  refine ⟨⟨g1, hV, g3.to (hb 3 (by omega) (by decide)) (fun b q1 q2 => hb b (by omega) (by omega)), g4.to (by rw [hb 142 (by omega) (by decide)]) (by rw [hb 142 (by omega) (by decide)]) (by rw [hb 142 (by omega) (by decide)]) (fun b q1 q2 => hb b (by omega) (by omega)), hC, hM, fun w q1 q2 => by rw [hb 152 (by omega) (by decide)]; exact g7 w q1 q2, by rw [hb 142 (by omega) (by decide), h6]; exact g8, ?_⟩, ?_, ⟨t, d, ht⟩, ⟨ev, ?_⟩, ?_, ⟨r, b, ?_⟩, h8.to (fun b q => hb b (by omega) (by omega)), ⟨z, h9.to (by rw [hb 132 (by omega) (by decide)]) (by rw [hb 142 (by omega) (by decide)]) (fun b q => hb b (by omega) (by omega))⟩⟩
  · rw [hb 3 (by omega) (by decide), ha 36069 (by omega)]
    exact g9
  · rw [e]
    exact h2.to (by omega) (by rw [hb 0 (by omega) (by decide)]) (fun b q => hb b (by omega) (by omega)) (fun a q => ha a (by omega))
  · rw [e]
    exact h4.to (fun b q => hb b (by omega) (by omega)) (by rw [hb 142 (by omega) (by decide)])
  · rw [e]
    exact h5.to (fun b q => hb b (by omega) (by omega))
  · exact h7.to (fun b q => hb b (by omega) (by omega)) (by rw [hb 142 (by omega) (by decide)]) (by rw [hb 142 (by omega) (by decide)])
theorem upC0 {w : Nat} {v x : Int} {a : Nat} (h : IV N S Ps l M) (hw : w < 14) : sC N (ms S 0 w v) (ms (ms M 26 w v) 144 a x) 24 := by
  refine h.1.2.2.2.2.1.up (by decide) (fun x hx => ?_) (fun b q1 q2 q3 => ?_)
  · rw [ms_a (by decide)]
    by_cases e : x = w
    · rw [if_pos e, e, ms_v]
    · rw [if_neg e, ms_i e]
  · rw [ms_a (by omega), ms_a (by omega)]
theorem upM0 {w : Nat} {v : Int} (h : IV N S Ps l M) (hw : w < 14) : sM (ms S 0 w v) (ms (ms M 26 w v) 144 (36000 + w) v) 36000 := by
  refine h.1.2.2.2.2.2.1.up (r := 0) (i := w) (by decide) (by have := offlim; omega) ms_v (fun a q1 q2 q3 => ?_)
  have := offlim
  rw [ms_i (by omega), ms_a (by decide)]
theorem jj {v : Int} {M2 : Mm} (g : GI M2) : JJ v (some (v, M2)) := wp_some ⟨rfl, g⟩
-- SET
theorem c75 {x1 x2 : Int} (h : IV N S Ps l M) : Wp (f75 x1 x2 M) (fun r => JJ r.1 (f180 x1 x2 r.2)) := by
  have h14 := h.1.1.w14
  have h8 := h.1.1.n8
  have h9 := h.1.1.k9
  unfold f75 f180
  by_cases h_w : 0 ≤ x1 ∧ x1 < nW N
  · by_cases h_v : 0 ≤ x2 ∧ x2 ≤ 100000
    · refine wp_bind (w215 h.e31 ?_)
      rw [if_pos h_w]
      refine wp_neg (by decide) ?_
      refine wp_bind (w80 ?_)
      rw [if_pos h_v]
      refine wp_neg (by decide) ?_
      obtain ⟨w, rfl⟩ := Int.eq_ofNat_of_zero_le h_w.1
      refine wp_gd (by omega) (wp_mlet (wp_some ?_))
      dsimp only
      rw [Int.toNat_natCast]
      have f142 : ms M 28 w x2 142 = M 142 := ms_a (by decide)
      refine wp_bind (w136 ((congrFun f142 4).trans h.m4) (by omega) ?_)
      rw [if_pos h_w]
      refine wp_neg (by decide) ?_
      refine wp_bind (w143 ?_)
      rw [if_pos h_v]
      refine wp_neg (by decide) ?_
      rw [show (36028 + (w : Int)).toNat = 36028 + w by omega]
      refine wp_gd (by omega) (wp_gd (by omega) (wp_mlet (jj (IV.G (h.st (S2 := ms S 2 w x2) (by rw [ms_a (by decide)]) (h.1.2.1.up (by omega) (by omega) (fun _ => h_v) (by omega) (by omega) (by omega) (by omega)) ?_ ?_ (fun b q1 q2 => ?_) (fun a q => ?_))))))
      · refine h.1.2.2.2.2.1.up (by decide) (fun x hx => ?_) (fun b q1 q2 q3 => ?_)
        · rw [ms_a (by decide)]
          by_cases e : x = w
          · rw [if_pos e, e, ms_v]
          · rw [if_neg e, ms_i e]
        · rw [ms_a (by omega), ms_a (by omega)]
      · refine h.1.2.2.2.2.2.1.up (r := 2) (i := w) (by decide) (by have := offlim; omega) ms_v (fun a q1 q2 q3 => ?_)
        have := offlim
        rw [ms_i (by omega), ms_a (by decide)]
      · rw [ms_a q2, ms_a (by omega)]
      · rw [ms_i (by omega), ms_a (by decide)]
    · refine wp_bind (w215 h.e31 ?_)
      rw [if_pos h_w]
      refine wp_neg (by decide) ?_
      refine wp_bind (w80 ?_)
      rw [if_neg h_v]
      refine wp_pos rfl ?_
      refine wp_some ?_
      have f142 : M 142 = M 142 := rfl
      refine wp_bind (w136 ((congrFun f142 4).trans h.m4) (by omega) ?_)
      rw [if_pos h_w]
      refine wp_neg (by decide) ?_
      refine wp_bind (w143 ?_)
      rw [if_neg h_v]
      refine wp_pos rfl ?_
      exact wp_some ⟨rfl, h.G⟩
  · refine wp_bind (w215 h.e31 ?_)
    rw [if_neg h_w]
    refine wp_pos rfl ?_
    refine wp_some ?_
    have f142 : M 142 = M 142 := rfl
    refine wp_bind (w136 ((congrFun f142 4).trans h.m4) (by omega) ?_)
    rw [if_neg h_w]
    refine wp_pos rfl ?_
    exact wp_some ⟨rfl, h.G⟩
theorem c62 {x1 x2 : Int} (h : IV N S Ps l M) : Wp (f62 x1 x2 M) (fun r => JJ r.1 (f144 x1 x2 r.2)) := by
  have h14 := h.1.1.w14
  have h8 := h.1.1.n8
  have h9 := h.1.1.k9
  unfold f62 f144
  by_cases h_w : 0 ≤ x1 ∧ x1 < nN N
  · by_cases h_v : 0 ≤ x2 ∧ x2 ≤ 2000
    · refine wp_bind (w214 h.e30 ?_)
      rw [if_pos h_w]
      refine wp_neg (by decide) ?_
      refine wp_bind (w80 ?_)
      rw [if_pos h_v]
      refine wp_neg (by decide) ?_
      obtain ⟨w, rfl⟩ := Int.eq_ofNat_of_zero_le h_w.1
      refine wp_gd (by omega) (wp_mlet (wp_some ?_))
      dsimp only
      rw [Int.toNat_natCast]
      have f142 : ms M 25 w x2 142 = M 142 := ms_a (by decide)
      refine wp_bind (w132 ((congrFun f142 3).trans h.m3) (by omega) ?_)
      rw [if_pos h_w]
      refine wp_neg (by decide) ?_
      refine wp_bind (w143 ?_)
      rw [if_pos h_v]
      refine wp_neg (by decide) ?_
      rw [show (36059 + (w : Int)).toNat = 36059 + w by omega]
      refine wp_gd (by omega) (wp_gd (by omega) (wp_mlet (jj (IV.G (h.st (S2 := ms S 3 w x2) (by rw [ms_a (by decide)]) (h.1.2.1.up (by omega) (by omega) (by omega) (fun _ => h_v) (by omega) (by omega) (by omega)) ?_ ?_ (fun b q1 q2 => ?_) (fun a q => ?_))))))
      · refine h.1.2.2.2.2.1.up3 (fun x hx => ?_) (fun b q1 q2 q3 => ?_)
        · rw [ms_a (by decide)]
          by_cases e : x = w
          · rw [if_pos e, e, ms_v]
          · rw [if_neg e, ms_i e]
        · rw [ms_a (by omega), ms_a (by omega)]
      · refine h.1.2.2.2.2.2.1.up (r := 3) (i := w) (by decide) (by have := offlim; omega) ms_v (fun a q1 q2 q3 => ?_)
        have := offlim
        rw [ms_i (by omega), ms_a (by decide)]
      · rw [ms_a q2, ms_a (by omega)]
      · rw [ms_i (by omega), ms_a (by decide)]
    · refine wp_bind (w214 h.e30 ?_)
      rw [if_pos h_w]
      refine wp_neg (by decide) ?_
      refine wp_bind (w80 ?_)
      rw [if_neg h_v]
      refine wp_pos rfl ?_
      refine wp_some ?_
      have f142 : M 142 = M 142 := rfl
      refine wp_bind (w132 ((congrFun f142 3).trans h.m3) (by omega) ?_)
      rw [if_pos h_w]
      refine wp_neg (by decide) ?_
      refine wp_bind (w143 ?_)
      rw [if_neg h_v]
      refine wp_pos rfl ?_
      exact wp_some ⟨rfl, h.G⟩
  · refine wp_bind (w214 h.e30 ?_)
    rw [if_neg h_w]
    refine wp_pos rfl ?_
    refine wp_some ?_
    have f142 : M 142 = M 142 := rfl
    refine wp_bind (w132 ((congrFun f142 3).trans h.m3) (by omega) ?_)
    rw [if_neg h_w]
    refine wp_pos rfl ?_
    exact wp_some ⟨rfl, h.G⟩
theorem c63 {x1 : Int} (h : IV N S Ps l M) : Wp (f63 x1 M) (fun r => JJ r.1 (f147 x1 r.2)) := by
  have h14 := h.1.1.w14
  have h8 := h.1.1.n8
  have h9 := h.1.1.k9
  unfold f63 f147
  by_cases h_w : 0 ≤ x1 ∧ x1 < nW N
  · by_cases h_d : S 0 x1.toNat = 3
    · refine wp_bind (w215 h.e31 ?_)
      rw [if_pos h_w]
      refine wp_neg (by decide) ?_
      refine wp_gd (by omega) (wp_pos (show M 26 x1.toNat = 3 by rw [(h.1.2.2.2.2.1.1 x1.toNat (by omega)).1]; exact h_d) ?_)
      refine wp_mlet (wp_some ?_)
      dsimp only
      have f142 : ms M 26 x1.toNat 1 142 = M 142 := ms_a (by decide)
      have fm : ms M 26 x1.toNat 1 144 (36000 + x1.toNat) = S 0 x1.toNat := by rw [ms_a (by decide)]; exact (h.1.2.2.2.2.2.1.1 x1.toNat (by omega)).1
      refine wp_bind (w136 ((congrFun f142 4).trans h.m4) (by omega) ?_)
      rw [if_pos h_w]
      refine wp_neg (by decide) ?_
      have t1 : (36000 + x1).toNat = 36000 + x1.toNat := by omega
      rw [t1]
      refine wp_gd (by omega) (wp_gd (by omega) (wp_pos (by rw [fm]; exact h_d) ?_))
      refine wp_mlet (jj (IV.G (h.st (S2 := ms S 0 x1.toNat 1) (by rw [ms_a (by decide)]) (h.1.2.1.up (by omega) (by omega) (by omega) (by omega) (by omega) (by omega) (by omega)) ?_ ?_ (fun b q1 q2 => ?_) (fun a q => ?_))))
      · exact upC0 h (by omega)
      · exact upM0 h (by omega)
      · rw [ms_a q2, ms_a (by omega)]
      · rw [ms_i (by omega), ms_a (by decide)]
    · refine wp_bind (w215 h.e31 ?_)
      rw [if_pos h_w]
      refine wp_neg (by decide) ?_
      refine wp_gd (by omega) (wp_neg (fun z => h_d (by rw [← (h.1.2.2.2.2.1.1 x1.toNat (by omega)).1]; exact z)) ?_)
      refine wp_some ?_
      have f142 : M 142 = M 142 := rfl
      refine wp_bind (w136 ((congrFun f142 4).trans h.m4) (by omega) ?_)
      rw [if_pos h_w]
      refine wp_neg (by decide) ?_
      have t1 : (36000 + x1).toNat = 36000 + x1.toNat := by omega
      rw [t1]
      refine wp_gd (by omega) (wp_gd (by omega) (wp_neg (fun z => h_d (by rw [← (h.1.2.2.2.2.2.1.1 x1.toNat (by omega)).1]; exact z)) ?_))
      exact wp_some ⟨rfl, h.G⟩
  · refine wp_bind (w215 h.e31 ?_)
    rw [if_neg h_w]
    refine wp_pos rfl ?_
    refine wp_some ?_
    have f142 : M 142 = M 142 := rfl
    refine wp_bind (w136 ((congrFun f142 4).trans h.m4) (by omega) ?_)
    rw [if_neg h_w]
    refine wp_pos rfl ?_
    exact wp_some ⟨rfl, h.G⟩
theorem c67 {x1 x2 : Int} (h : IV N S Ps l M) (h2 : x2 = 0 ∨ x2 = 1) : Wp (f67 x1 x2 M) (fun r => JJ r.1 (f159 x1 x2 r.2)) := by
  have h14 := h.1.1.w14
  have h8 := h.1.1.n8
  have h9 := h.1.1.k9
  have hbt := h.1.2.2.2.2.1.2.2.2.1
  have hpw := pw2_k h.1.1
  have hm : ∀ M1 : Mm, M1 142 = M 142 → f159 x1 x2 M1 = (f137 x1 M1).bind fun v2 => if v2 = 0 then some (0, M1) else f159_18 x1 x2 M1 := fun M1 _ => by
    unfold f159
    rcases h2 with rfl | rfl
    · exact if_pos rfl
    · exact if_neg (by decide)
  unfold f67
  by_cases h_w : 0 ≤ x1 ∧ x1 < nK N
  · obtain ⟨w, rfl⟩ := Int.eq_ofNat_of_zero_le h_w.1
    refine wp_bind (w216 h.e32 ?_)
    rw [if_pos h_w]
    refine wp_neg (by decide) ?_
    have hS : S 5 w = if tb (M 24 2) w then 1 else 0 := hbt.2.2 w
    have hmc : M 144 (36042 + w) = S 5 w := h.1.2.2.2.2.2.1.2.2.1 w (by omega)
    have hS01 : S 5 w = 0 ∨ S 5 w = 1 := h.1.2.1.2.2.2.2.1 w
    refine wp_bind (w245 hbt.1 (by omega) (by omega) (by omega) ?_)
    rw [Int.toNat_natCast, ← hS]
    by_cases h_x : S 5 w = x2
    · refine wp_pos h_x (wp_some ?_)
      have f142 : M 142 = M 142 := rfl
      show JJ 0 (f159 w x2 M)
      rw [hm M rfl]
      refine wp_bind (w137 ((congrFun f142 5).trans h.m5) (by omega) ?_)
      rw [if_pos h_w]
      refine wp_neg (by decide) ?_
      unfold f159_18
      rw [show (36042 + (w : Int)).toNat = 36042 + w by omega, hmc]
      exact wp_gd (by omega) (wp_gd (by omega) (wp_pos h_x (wp_some ⟨rfl, h.G⟩)))
    · refine wp_neg h_x (wp_mlet (wp_some ?_))
      show JJ 1 (f159 w x2 (ms M 24 2 (bXor (M 24 2) (bShl 1 (w : Int)))))
      have f142 : ms M 24 2 (bXor (M 24 2) (bShl 1 (w : Int))) 142 = M 142 := ms_a (by decide)
      rw [hm _ f142]
      refine wp_bind (w137 ((congrFun f142 5).trans h.m5) (by omega) ?_)
      rw [if_pos h_w]
      refine wp_neg (by decide) ?_
      unfold f159_18 f159_33
      rw [show (36042 + (w : Int)).toNat = 36042 + w by omega, ms_a (by decide : (144 : Nat) ≠ 24), hmc]
      have hbl : bShl 1 (w : Int) = (2 ^ w : Nat) := by rw [bL (by omega) (by omega), Int.toNat_natCast]
      have hwp : 0 < (2 ^ w : Nat) := Nat.two_pow_pos w
      have hwl : (2 ^ w : Nat) < (2 ^ (nK N) : Nat) := Nat.pow_lt_pow_right (by decide) (by omega)
      have hxl := bX_lt (n := nK N) (x := M 24 2) (y := bShl 1 (w : Int)) (by omega) hbt.1 hbt.2.1 (by omega) (by omega)
      refine wp_gd (by omega) (wp_gd (by omega) (wp_neg h_x (wp_gd (by omega) (wp_gd (by omega) (wp_mlet (jj (IV.G (h.st (S2 := ms S 5 w x2) (by rw [ms_a (by decide)]) (h.1.2.1.up (by omega) (by omega) (by omega) (by omega) (by omega) (by omega) (by omega)) ?_ ?_ (fun b q1 q2 => ?_) (fun a q => ?_)))))))))
      · refine h.1.2.2.2.2.1.up45 (Or.inr rfl) ⟨?_, fun x => ?_⟩ (fun j hj => ?_) (fun b q1 q2 => ?_)
        · rw [ms_a (by decide), ms_v]
          exact hxl
        · rw [ms_a (by decide), ms_v, tb_xor hbt.1 (by omega) (by omega) (by omega), tb_pow (by omega) (by omega), Int.toNat_natCast]
          by_cases e : x = w
          · rw [if_pos e, e, decide_eq_true rfl, Bool.xor_true]
            rw [hS] at h_x hS01
            cases hq : tb (M 24 2) w
            · rw [hq] at h_x
              rcases h2 with rfl | rfl
              · exact (h_x rfl).elim
              · rfl
            · rw [hq] at h_x
              rcases h2 with rfl | rfl
              · rfl
              · exact (h_x rfl).elim
          · rw [if_neg e, decide_eq_false (fun z => e z.symm), Bool.xor_false]
            exact (hbt.2.2 x).symm
        · rw [ms_a (by decide), ms_i (by omega)]
        · rw [ms_a (by omega), ms_a (by omega)]
      · refine h.1.2.2.2.2.2.1.up (r := 5) (i := w) (by decide) (by have := offlim; omega) ms_v (fun a q1 q2 q3 => ?_)
        have := offlim
        rw [ms_i (by omega), ms_a (by decide)]
      · rw [ms_a q2, ms_a (by omega)]
      · rw [ms_i (by omega), ms_a (by decide)]
  · refine wp_bind (w216 h.e32 ?_)
    rw [if_neg h_w]
    refine wp_pos rfl ?_
    refine wp_some ?_
    have f142 : M 142 = M 142 := rfl
    show JJ 0 (f159 x1 x2 M)
    rw [hm M rfl]
    refine wp_bind (w137 ((congrFun f142 5).trans h.m5) (by omega) ?_)
    rw [if_neg h_w]
    refine wp_pos rfl ?_
    exact wp_some ⟨rfl, h.G⟩
theorem c68 {x1 x2 : Int} (h : IV N S Ps l M) (h2 : x2 = 0 ∨ x2 = 1) : Wp (f68 x1 x2 M) (fun r => JJ r.1 (f161 x1 x2 r.2)) := by
  have h14 := h.1.1.w14
  have h8 := h.1.1.n8
  have h9 := h.1.1.k9
  have hbt := h.1.2.2.2.2.1.2.2.1
  have hpw := pw2_n h.1.1
  have hm : ∀ M1 : Mm, M1 142 = M 142 → f161 x1 x2 M1 = (f132 x1 M1).bind fun v2 => if v2 = 0 then some (0, M1) else f161_18 x1 x2 M1 := fun M1 _ => by
    unfold f161
    rcases h2 with rfl | rfl
    · exact if_pos rfl
    · exact if_neg (by decide)
  unfold f68
  by_cases h_w : 0 ≤ x1 ∧ x1 < nN N
  · obtain ⟨w, rfl⟩ := Int.eq_ofNat_of_zero_le h_w.1
    refine wp_bind (w214 h.e30 ?_)
    rw [if_pos h_w]
    refine wp_neg (by decide) ?_
    have hS : S 4 w = if tb (M 24 1) w then 1 else 0 := hbt.2.2 w
    have hmc : M 144 (36051 + w) = S 4 w := (h.1.2.2.2.2.2.1.2.1 w (by omega)).2
    have hS01 : S 4 w = 0 ∨ S 4 w = 1 := h.1.2.1.2.2.1 w
    refine wp_bind (w243 hbt.1 (by omega) (by omega) (by omega) ?_)
    rw [Int.toNat_natCast, ← hS]
    by_cases h_x : S 4 w = x2
    · refine wp_pos h_x (wp_some ?_)
      have f142 : M 142 = M 142 := rfl
      show JJ 0 (f161 w x2 M)
      rw [hm M rfl]
      refine wp_bind (w132 ((congrFun f142 3).trans h.m3) (by omega) ?_)
      rw [if_pos h_w]
      refine wp_neg (by decide) ?_
      unfold f161_18
      rw [show (36051 + (w : Int)).toNat = 36051 + w by omega, hmc]
      exact wp_gd (by omega) (wp_gd (by omega) (wp_pos h_x (wp_some ⟨rfl, h.G⟩)))
    · refine wp_neg h_x (wp_mlet (wp_some ?_))
      show JJ 1 (f161 w x2 (ms M 24 1 (bXor (M 24 1) (bShl 1 (w : Int)))))
      have f142 : ms M 24 1 (bXor (M 24 1) (bShl 1 (w : Int))) 142 = M 142 := ms_a (by decide)
      rw [hm _ f142]
      refine wp_bind (w132 ((congrFun f142 3).trans h.m3) (by omega) ?_)
      rw [if_pos h_w]
      refine wp_neg (by decide) ?_
      unfold f161_18 f161_33
      rw [show (36051 + (w : Int)).toNat = 36051 + w by omega, ms_a (by decide : (144 : Nat) ≠ 24), hmc]
      have hbl : bShl 1 (w : Int) = (2 ^ w : Nat) := by rw [bL (by omega) (by omega), Int.toNat_natCast]
      have hwp : 0 < (2 ^ w : Nat) := Nat.two_pow_pos w
      have hwl : (2 ^ w : Nat) < (2 ^ (nN N) : Nat) := Nat.pow_lt_pow_right (by decide) (by omega)
      have hxl := bX_lt (n := nN N) (x := M 24 1) (y := bShl 1 (w : Int)) (by omega) hbt.1 hbt.2.1 (by omega) (by omega)
      refine wp_gd (by omega) (wp_gd (by omega) (wp_neg h_x (wp_gd (by omega) (wp_gd (by omega) (wp_mlet (jj (IV.G (h.st (S2 := ms S 4 w x2) (by rw [ms_a (by decide)]) (h.1.2.1.up (by omega) (by omega) (by omega) (by omega) (by omega) (by omega) (by omega)) ?_ ?_ (fun b q1 q2 => ?_) (fun a q => ?_)))))))))
      · refine h.1.2.2.2.2.1.up45 (Or.inl rfl) ⟨?_, fun x => ?_⟩ (fun j hj => ?_) (fun b q1 q2 => ?_)
        · rw [ms_a (by decide), ms_v]
          exact hxl
        · rw [ms_a (by decide), ms_v, tb_xor hbt.1 (by omega) (by omega) (by omega), tb_pow (by omega) (by omega), Int.toNat_natCast]
          by_cases e : x = w
          · rw [if_pos e, e, decide_eq_true rfl, Bool.xor_true]
            rw [hS] at h_x hS01
            cases hq : tb (M 24 1) w
            · rw [hq] at h_x
              rcases h2 with rfl | rfl
              · exact (h_x rfl).elim
              · rfl
            · rw [hq] at h_x
              rcases h2 with rfl | rfl
              · rfl
              · exact (h_x rfl).elim
          · rw [if_neg e, decide_eq_false (fun z => e z.symm), Bool.xor_false]
            exact (hbt.2.2 x).symm
        · rw [ms_a (by decide), ms_i (by omega)]
        · rw [ms_a (by omega), ms_a (by omega)]
      · refine h.1.2.2.2.2.2.1.up (r := 4) (i := w) (by decide) (by have := offlim; omega) ms_v (fun a q1 q2 q3 => ?_)
        have := offlim
        rw [ms_i (by omega), ms_a (by decide)]
      · rw [ms_a q2, ms_a (by omega)]
      · rw [ms_i (by omega), ms_a (by decide)]
  · refine wp_bind (w214 h.e30 ?_)
    rw [if_neg h_w]
    refine wp_pos rfl ?_
    refine wp_some ?_
    have f142 : M 142 = M 142 := rfl
    show JJ 0 (f161 x1 x2 M)
    rw [hm M rfl]
    refine wp_bind (w132 ((congrFun f142 3).trans h.m3) (by omega) ?_)
    rw [if_neg h_w]
    refine wp_pos rfl ?_
    exact wp_some ⟨rfl, h.G⟩
end SET
