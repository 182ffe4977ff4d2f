def frW (M M2 : Mm) : Prop := (∀ b, b ≠ 142 → (b < 167 ∨ 177 < b) → M2 b = M b) ∧ ∀ j, j ≠ 1 → j ≠ 6 → (j < 44 ∨ 52 < j) → M2 142 j = M 142 j
section MR7
variable {n : Nat} {B : Nat → Int}
theorem frW.trans {M M2 M3 : Mm} (h : frW M M2) (g : frW M2 M3) : frW M M3 := ⟨fun b h1 h2 => (g.1 b h1 h2).trans (h.1 b h1 h2), fun j h1 h2 h3 => (g.2 j h1 h2 h3).trans (h.2 j h1 h2 h3)⟩
theorem frV.W {M M2 : Mm} (h : frV M M2) : frW M M2 := ⟨fun b h1 h2 => h.1 b h1 (by omega), fun j h1 h2 h3 => h.2 j h3⟩
theorem frW.st {M : Mm} {j : Nat} {v : Int} (hj : j = 1 ∨ j = 6 ∨ (44 ≤ j ∧ j ≤ 52)) : frW M (ms M 142 j v) := ⟨fun b h1 _ => ms_a h1, fun i h1 h2 h3 => ms_i (by omega)⟩
theorem frW.sa {M : Mm} {b i : Nat} {v : Int} (hb : 167 ≤ b ∧ b ≤ 177) : frW M (ms M b i v) := ⟨fun d h1 h2 => ms_a (by omega), fun j h1 h2 h3 => by rw [ms_a (by omega)]⟩
/-- the new clauses come into force -/
theorem w158c {l : List (Bool × Sem)} {M : Mm} {c : Nat} {P : Int × Mm → Prop} (hl : txN l M c) (hc : M 142 48 = c) (hc2 : c ≤ 160)
    (k : ∀ M2 : Mm, frW M M2 → M2 142 1 = M 142 1 → M2 142 52 = M 142 52 → txW l M2 → P ((l.length : Int), M2)) : Wp (f158_142 0 M) P := by
  obtain ⟨t1, t2, e, t3, t4⟩ := hl
  unfold f158_142
  let I : Nat → Int → Mm → Prop := fun m y M2 => ∃ j : Nat, y = j ∧ j ≤ l.length ∧ m = l.length - j ∧ (∀ b, b ≠ 167 → b ≠ 168 → b ≠ 169 → M2 b = M b) ∧ ∀ i, i < j → M2 167 i = M 172 i ∧ M2 168 i = M 173 i ∧ M2 169 i = M 174 i
  refine wp_lp2 I l.length (by omega) ⟨0, rfl, Nat.zero_le _, rfl, fun _ _ _ _ => rfl, fun i hi => absurd hi (Nat.not_lt_zero _)⟩ ?_
  rintro m y M2 ⟨j, rfl, h1, h2, h3, h4⟩
  try dsimp only
  unfold lb158_142
  rw [h3 142 (by decide) (by decide) (by decide), t1]
  refine wp_ite (fun d => ?_) (fun d => wp_o ?_)
  · refine wp_gd (by omega) (wp_mlet ?_)
    rw [Int.toNat_natCast, ms_a (by decide : (173 : Nat) ≠ 167), h3 172 (by decide) (by decide) (by decide), h3 173 (by decide) (by decide) (by decide)]
    refine wp_mlet ?_
    rw [ms_a (by decide : (174 : Nat) ≠ 168), ms_a (by decide : (174 : Nat) ≠ 167), h3 174 (by decide) (by decide) (by decide)]
    refine wp_mlet (wp_gd (by omega) (wp_i2 (m - 1) (by omega) ⟨j + 1, by omega, by omega, by omega, fun b q1 q2 q3 => by rw [ms_a q3, ms_a q2, ms_a q1]; exact h3 b q1 q2 q3, fun i hi => ?_⟩))
    by_cases e1 : i = j
    · subst e1
      exact ⟨by rw [ms_a (by decide), ms_a (by decide), ms_v], by rw [ms_a (by decide), ms_v], by rw [ms_v]⟩
    · obtain ⟨a1, a2, a3⟩ := h4 i (by omega)
      exact ⟨by rw [ms_a (by decide), ms_a (by decide), ms_i e1]; exact a1, by rw [ms_a (by decide), ms_i e1, ms_a (by decide)]; exact a2, by rw [ms_i e1, ms_a (by decide), ms_a (by decide)]; exact a3⟩
  · have hj : j = l.length := by omega
    subst hj
    unfold f158_194
    let I2 : Nat → Int → Mm → Prop := fun m y M3 => ∃ j : Nat, y = j ∧ j ≤ c ∧ m = c - j ∧ (∀ b, b ≠ 170 → b ≠ 171 → M3 b = M2 b) ∧ ∀ i, i < j → M3 170 i = M 175 i ∧ M3 171 i = M 176 i
    refine wp_lp2 I2 c (by omega) ⟨0, rfl, Nat.zero_le _, rfl, fun _ _ _ => rfl, fun i hi => absurd hi (Nat.not_lt_zero _)⟩ ?_
    rintro m3 y M3 ⟨j, rfl, g1, g2, g3, g4⟩
    try dsimp only
    unfold lb158_194
    have e3 : ∀ b, b ≠ 167 → b ≠ 168 → b ≠ 169 → b ≠ 170 → b ≠ 171 → M3 b = M b := fun b q1 q2 q3 q4 q5 => (g3 b q4 q5).trans (h3 b q1 q2 q3)
    rw [e3 142 (by decide) (by decide) (by decide) (by decide) (by decide), hc]
    refine wp_ite (fun d3 => ?_) (fun d3 => wp_o (wp_mlet (wp_some ?_)))
    · refine wp_gd (by omega) (wp_mlet ?_)
      rw [Int.toNat_natCast, ms_a (by decide : (176 : Nat) ≠ 170), e3 175 (by decide) (by decide) (by decide) (by decide) (by decide), e3 176 (by decide) (by decide) (by decide) (by decide) (by decide)]
      refine wp_mlet (wp_gd (by omega) (wp_i2 (m3 - 1) (by omega) ⟨j + 1, by omega, by omega, by omega, fun b q1 q2 => by rw [ms_a q2, ms_a q1]; exact g3 b q1 q2, fun i hi => ?_⟩))
      by_cases e1 : i = j
      · subst e1
        exact ⟨by rw [ms_a (by decide), ms_v], by rw [ms_v]⟩
      · obtain ⟨a1, a2⟩ := g4 i (by omega)
        exact ⟨by rw [ms_a (by decide), ms_i e1]; exact a1, by rw [ms_i e1, ms_a (by decide)]; exact a2⟩
    · have hj : j = c := by omega
      have g5 : ∀ i, i < c → M3 170 i = M 175 i ∧ M3 171 i = M 176 i := fun i hi => g4 i (by omega)
      rw [ms_i (by decide : (47 : Nat) ≠ 6), e3 142 (by decide) (by decide) (by decide) (by decide) (by decide), t1]
      have f3 : frW M (ms M3 142 6 (l.length : Int)) := ⟨fun b q1 q2 => by rw [ms_a q1]; exact e3 b (by omega) (by omega) (by omega) (by omega) (by omega), fun i q1 q2 q3 => by rw [ms_i q2, e3 142 (by decide) (by decide) (by decide) (by decide) (by decide)]⟩
      refine k _ f3 (by rw [ms_i (by decide), e3 142 (by decide) (by decide) (by decide) (by decide) (by decide)]) (by rw [ms_i (by decide), e3 142 (by decide) (by decide) (by decide) (by decide) (by decide)]) ⟨ms_v, t2, e, fun j x hx => ?_⟩
      obtain ⟨b1, b2, b3, b4, b5, b6, b7⟩ := t4 j x hx
      have hj := (List.getElem?_eq_some_iff.mp hx).1
      obtain ⟨a1, a2, a3⟩ := h4 j hj
      have hcm : ∀ i, i < c → cm2 (ms M3 142 6 (l.length : Int)) i = cm3 M i := fun i hi => by
        unfold cm2 cm3
        rw [ms_a (by decide), ms_a (by decide), (g5 i hi).1, (g5 i hi).2]
      have n3 : ∀ b, b ≠ 142 → b ≠ 170 → b ≠ 171 → ms M3 142 6 (l.length : Int) b = M2 b := fun b q1 q2 q3 => by rw [ms_a q1]; exact g3 b q2 q3
      exact ⟨b1, by omega, by rw [n3 167 (by decide) (by decide) (by decide), a1]; exact b3, by rw [n3 168 (by decide) (by decide) (by decide), a2]; exact b4, by rw [n3 169 (by decide) (by decide) (by decide), a3]; exact b5, okM_cg b6 (fun i _ h2 => hcm i (by omega)), b7.cg b1 (fun i _ h2 => hcm i (by omega))⟩
theorem w158 {M : Mm} {P : Int × Mm → Prop} (hn1 : 1 ≤ n) (hn : n ≤ 160) (ht : (n : Int) ≤ M 142 1) (hB : ∀ i, i < n → bAnd (M 143 i) 255 = B i) (hBb : ∀ i, i < n → 0 ≤ B i ∧ B i ≤ 255) (hib : M 142 52 = 0)
    (kE : ∀ (e : Int) (M2 : Mm), clsL B n 13 0 [] = .inl e → frW M M2 → (∀ b, 167 ≤ b → b ≤ 171 → M2 b = M b) → M2 142 6 = M 142 6 → M2 142 1 = 0 → M2 142 52 = 0 → P (e, M2))
    (kO : ∀ (l : List (Bool × Sem)) (M2 : Mm), clsL B n 13 0 [] = .inr l → frW M M2 → txW l M2 → M2 142 1 = 0 → M2 142 52 = 0 → P ((l.length : Int), M2)) : Wp (f158 (n : Int) M) P := by
  unfold f158
  refine wp_bind (w143 ?_)
  rw [if_pos (show (1 : Int) ≤ n ∧ (n : Int) ≤ 160 by omega)]
  refine wp_neg (by decide) (wp_neg (by omega) (wp_mlet (wp_mlet (wp_mlet (wp_mlet (wp_mlet (wp_mlet ?_)))))))
  have hM0 : mV n 0 0 B (ms (ms (ms (ms (ms (ms M 142 1 0) 142 44 0) 142 45 (n : Int)) 142 46 0) 142 47 0) 142 48 0) := by
    refine ⟨?_, Nat.zero_le _, ?_, hn, ?_, ms_v, Nat.le_refl _, ?_, fun i hi => ?_, hBb⟩
    · rw [ms_i (by decide), ms_i (by decide), ms_i (by decide), ms_i (by decide), ms_v]; rfl
    · rw [ms_i (by decide), ms_i (by decide), ms_i (by decide), ms_v]
    · rw [ms_i (by decide), ms_i (by decide), ms_v]
    · rw [ms_i (by decide), ms_i (by decide), ms_i (by decide), ms_i (by decide), ms_i (by decide), ms_i (by decide)]; exact hib
    · rw [ms_a (by decide), ms_a (by decide), ms_a (by decide), ms_a (by decide), ms_a (by decide), ms_a (by decide)]; exact hB i hi
  have g1 : ms (ms (ms (ms (ms (ms M 142 1 0) 142 44 0) 142 45 (n : Int)) 142 46 0) 142 47 0) 142 48 0 142 1 = 0 := by
    rw [ms_i (by decide), ms_i (by decide), ms_i (by decide), ms_i (by decide), ms_i (by decide), ms_v]
  have g47 : ms (ms (ms (ms (ms (ms M 142 1 0) 142 44 0) 142 45 (n : Int)) 142 46 0) 142 47 0) 142 48 0 142 47 = 0 := by
    rw [ms_i (by decide), ms_v]
  have g6 : ms (ms (ms (ms (ms (ms M 142 1 0) 142 44 0) 142 45 (n : Int)) 142 46 0) 142 47 0) 142 48 0 142 6 = M 142 6 := by
    rw [ms_i (by decide), ms_i (by decide), ms_i (by decide), ms_i (by decide), ms_i (by decide), ms_i (by decide)]
  have gw : frW M (ms (ms (ms (ms (ms (ms M 142 1 0) 142 44 0) 142 45 (n : Int)) 142 46 0) 142 47 0) 142 48 0) := (((((frW.st (by omega)).trans (frW.st (by omega))).trans (frW.st (by omega))).trans (frW.st (by omega))).trans (frW.st (by omega))).trans (frW.st (by omega))
  have ga : ∀ b, b ≠ 142 → ms (ms (ms (ms (ms (ms M 142 1 0) 142 44 0) 142 45 (n : Int)) 142 46 0) 142 47 0) 142 48 0 b = M b := fun b hb => by
    rw [ms_a hb, ms_a hb, ms_a hb, ms_a hb, ms_a hb, ms_a hb]
  generalize ms (ms (ms (ms (ms (ms M 142 1 0) 142 44 0) 142 45 (n : Int)) 142 46 0) 142 47 0) 142 48 0 = M1 at hM0 g1 g47 g6 gw ga ⊢
  generalize hR : clsL B n 13 0 [] = R at kE kO
  unfold f158_54
  let I : Nat → Int → Mm → Prop := fun m x M2 => frV M1 M2 ∧ M2 142 52 = 0 ∧ (
    (∃ (p c : Nat) (l : List (Bool × Sem)), l.length + m = 13 ∧ l.length ≤ 12 ∧ x = 1 ∧ mV n p c B M2 ∧ txN l M2 c ∧ clsL B n m p l = R) ∨
    (m = 0 ∧ ∃ e, R = .inl e ∧ e < 0 ∧ M2 142 46 = e) ∨
    (m = 0 ∧ x = 0 ∧ ∃ (l : List (Bool × Sem)) (c : Nat), R = .inr l ∧ M2 142 46 = 0 ∧ txN l M2 c ∧ M2 142 48 = c ∧ c ≤ 160))
  refine wp_lp2 I 13 (by omega) ⟨⟨fun _ _ _ => rfl, fun _ _ => rfl⟩, hM0.2.2.2.2.2.2.2.1, Or.inl ⟨0, 0, [], rfl, by decide, rfl, hM0, ⟨g47, by decide, fun _ => 0, rfl, fun j x hx => by cases hx⟩, hR⟩⟩ ?_
  rintro m x M2 ⟨b1, b2, b3⟩
  try dsimp only
  unfold lb158_54
  have keep : ∀ b, 167 ≤ b → b ≤ 171 → M2 b = M b := fun b q1 q2 => (b1.1 b (by omega) (by omega)).trans (ga b (by omega))
  have f1 : M2 142 1 = 0 := (b1.2 1 (by omega)).trans g1
  have f6 : M2 142 6 = M 142 6 := (b1.2 6 (by omega)).trans g6
  have fw : frW M M2 := gw.trans b1.W
  -- the end, with a fault
  have endE : ∀ e : Int, R = .inl e → e < 0 → M2 142 46 = e → Wp (f158_128 M2) P := fun e q1 q2 q3 => by
    unfold f158_128
    refine wp_pos (by rw [q3]; exact q2) (wp_some ?_)
    rw [q3]
    exact kE e M2 q1 fw keep f6 f1 b2
  rcases b3 with ⟨p, c, l, c1, c2, rfl, c4, c5, c6⟩ | ⟨rfl, e, c1, c2, c3⟩ | ⟨rfl, rfl, l, c, c1, c2, c3, c4, c5⟩
  · obtain ⟨m, rfl⟩ : ∃ m2, m = m2 + 1 := ⟨m - 1, by omega⟩
    rw [cls_eq] at c6
    refine wp_neg (by decide) (wp_bind (w124g c4.2.2.2.2.1 (wp_neg (by decide) (wp_bind (w91 c4 c5 (fun e M3 q1 q2 q3 q4 q5 => ?_) (fun p2 x c2 M3 q1 q2 q3 q4 => ?_))))))
    · rw [q1] at c6
      exact wp_bind (w124b (by rw [q4]; exact q2) (wp_pos rfl (wp_i2 0 (by omega) ⟨b1.trans q3, q5, Or.inr (Or.inl ⟨rfl, e, c6.symm, q2, q4⟩)⟩)))
    · rw [q1] at c6
      have hc6 : (if p2 = n then .inr (l ++ [x]) else if pkN B n p2 = 59 then clsL B n m (p2 + 1) (l ++ [x]) else .inl (-1000 - (p2 : Nat))) = R := c6
      have hp2 := clP_b q1 hn
      have hlen : (l ++ [x]).length = l.length + 1 := by rw [List.length_append]; rfl
      obtain ⟨v1, v2, v3, v4, v5, v6, v7, v8, v9, v10⟩ := id q3
      refine wp_bind (w124g v5 (wp_neg (by decide) ?_))
      refine wp_ite (fun d => wp_bind (w120v q3 (wp_ite (fun d2 => ?_) (fun d2 => ?_)))) (fun d => ?_)
      · rw [v1, v3] at d
        have d2' := (hrv_eq q3 (by decide)).mp d2
        rw [if_neg (by omega), if_pos d2'] at hc6
        unfold f158_115
        rw [v1]
        refine wp_gd (by omega) (wp_mlet (wp_i2 m (by omega) ⟨(b1.trans q2).trans (frV.st (by omega)), (ms_i (by decide)).trans v8, Or.inl ⟨p2 + 1, c2, l ++ [x], by omega, by omega, rfl, ⟨by rw [ms_v]; omega, by omega, (ms_i (by decide)).trans v3, v4, (ms_i (by decide)).trans v5, (ms_i (by decide)).trans v6, by omega, (ms_i (by decide)).trans v8, fun i hi => by rw [ms_a (by decide)]; exact v9 i hi, v10⟩, ?_, hc6⟩⟩))
        obtain ⟨t1, t2, e, t3, t4⟩ := q4
        refine ⟨(ms_i (by decide)).trans t1, t2, e, t3, fun j y hy => ?_⟩
        obtain ⟨a1, a2, a3, a4, a5, a6, a7⟩ := t4 j y hy
        exact ⟨a1, a2, by rw [ms_a (by decide)]; exact a3, by rw [ms_a (by decide)]; exact a4, by rw [ms_a (by decide)]; exact a5, okM_cg a6 (fun i _ _ => c3_st), a7.cg a1 (fun i _ _ => c3_st)⟩
      · rw [v1, v3] at d
        have d2' : pkN B n p2 ≠ 59 := fun z => d2 ((hrv_eq q3 (by decide)).mpr z)
        rw [if_neg (by omega), if_neg d2'] at hc6
        rw [v1]
        refine wp_bind (w190v v5 (by decide) (by omega) ?_)
        unfold f158_115
        rw [ms_i (by decide : (44 : Nat) ≠ 46), v1]
        refine wp_gd (by omega) (wp_mlet (wp_i2 0 (by omega) ⟨((b1.trans q2).trans (frV.st (by omega))).trans (frV.st (by omega)), by rw [ms_i (by decide), ms_i (by decide)]; exact v8, Or.inr (Or.inl ⟨rfl, -1000 * 1 - p2, by rw [← hc6]; rfl, by omega, by rw [ms_i (by decide), ms_v]⟩)⟩))
      · rw [v1, v3] at d
        rw [if_pos (by omega)] at hc6
        exact wp_i2 0 (by omega) ⟨b1.trans q2, v8, Or.inr (Or.inr ⟨rfl, rfl, l ++ [x], c2, hc6.symm, v5, q4, v6, by omega⟩)⟩
  · refine wp_ite (fun _ => wp_o (endE e c1 c2 c3)) (fun _ => wp_bind (w124b (by rw [c3]; exact c2) (wp_pos rfl (wp_o (endE e c1 c2 c3)))))
  · refine wp_pos rfl (wp_o ?_)
    unfold f158_128
    refine wp_neg (by omega) (w158c c3 c4 c5 (fun M3 q1 q2 q3 q4 => ?_))
    exact kO l M3 c1 (fw.trans q1) q4 (q2.trans f1) (q3.trans b2)
theorem cls_pos (hn : n ≤ 160) : ∀ (k p : Nat) (l l2 : List (Bool × Sem)), clsL B n k p l = .inr l2 → l.length < l2.length
  | 0, p, l, l2, h => by
    unfold clsL at h
    cases h
  | k + 1, p, l, l2, h => by
    rw [cls_eq] at h
    cases hc : clP B n p l.length with
    | inl e =>
      rw [hc] at h
      cases h
    | inr x =>
      rw [hc] at h
      have hlen : (l ++ [x.2]).length = l.length + 1 := by rw [List.length_append]; rfl
      have h' : (if x.1 = n then (.inr (l ++ [x.2]) : Int ⊕ List (Bool × Sem)) else if pkN B n x.1 = 59 then clsL B n k (x.1 + 1) (l ++ [x.2]) else .inl (-1000 - (x.1 : Nat))) = .inr l2 := h
      by_cases h1 : x.1 = n
      · rw [if_pos h1] at h'
        injection h' with h'
        rw [← h', hlen]
        omega
      · rw [if_neg h1] at h'
        by_cases h2 : pkN B n x.1 = 59
        · rw [if_pos h2] at h'
          have := cls_pos hn k _ _ _ h'
          omega
        · rw [if_neg h2] at h'
          cases h'
end MR7
theorem w80 {x a b : Int} {M : Mm} {P : Int → Prop} (k : P (if a ≤ x ∧ x ≤ b then 1 else 0)) : Wp (f80 x a b M) P := by
  unfold f80
  refine wp_ite (fun d => wp_some ?_) (fun d => wp_ite (fun d2 => wp_some ?_) (fun d2 => wp_some ?_))
  · rw [if_neg (by omega)] at k; exact k
  · rw [if_neg (by omega)] at k; exact k
  · rw [if_pos (by omega)] at k; exact k
