section SET6
variable {N S M M2 : Mm} {Ps : Nat → Mm} {l : List (Bool × Sem)}
theorem IV.nwE (h : IV N S Ps l M) : S 6 1 = nwS S := by
  have h1 := h.1.2.1.2.2.2.2.2.2.2.1
  unfold nwS
  omega
theorem IV.e24 (h : IV N S Ps l M) : M 24 0 = nwS S := h.1.2.2.2.2.1.2.2.2.2.2.trans h.nwE
theorem IV.m2 (h : IV N S Ps l M) : M 142 2 = nwS S := h.1.2.2.2.2.2.2.2.1.1.trans h.nwE
theorem c31 {x1 : Int} (h : IV N S Ps l M) : Wp (f31 x1 M) (fun v => Wp (f84 x1 M) (fun v2 => v2 = v)) := by
  have hn := h.nw
  unfold f31 f52 f84
  rw [h.e24, h.m2]
  by_cases d : 0 ≤ x1 ∧ x1 < nwS S
  · obtain ⟨m, rfl⟩ := Int.eq_ofNat_of_zero_le d.1
    refine wp_bind (wp_neg (by omega) (wp_pos (by omega) (wp_pos (by omega) (wp_some (wp_neg (by decide) (wp_gd (by omega) (wp_some ?_)))))))
    refine wp_gd (by omega) (wp_bind (w143 ?_))
    rw [if_pos (show 0 ≤ (m : Int) ∧ (m : Int) ≤ (nwS S : Int) - 1 by omega)]
    refine wp_neg (by decide) (wp_gd (by omega) (wp_some ?_))
    rw [Int.toNat_natCast]
    exact (h.2.1.2 m (by omega)).2.2.2.2.2.symm
  · have fin : Wp (some (-1 : Int)) (fun v => Wp (gd (R4 ((nwS S : Int) - 1)) ((f143 x1 0 ((nwS S : Int) - 1) M).bind fun v3 => if v3 = 0 then (some (-1)) else (gd (0 ≤ x1 ∧ x1 < 500) (some (M 182 (x1).toNat))))) (fun v2 => v2 = v)) := by
      refine wp_some (wp_gd (by omega) (wp_bind (w143 ?_)))
      rw [if_neg (show ¬ (0 ≤ x1 ∧ x1 ≤ (nwS S : Int) - 1) by omega)]
      exact wp_pos rfl (wp_some rfl)
    refine wp_bind (wp_ite (fun _ => wp_some (wp_pos rfl fin)) (fun _ => wp_ite (fun _ => wp_ite (fun _ => by omega) (fun _ => wp_some (wp_pos rfl fin))) (fun _ => wp_some (wp_pos rfl fin))))
/-- the first minute with something -/
def fsP (g : Nat → Int) (n : Nat) (v : Int) : Prop := (∃ m, m < n ∧ (∀ q, q < m → g q = 0) ∧ g m ≠ 0 ∧ v = m) ∨ ((∀ q, q < n → g q = 0) ∧ v = -1)
theorem fsP_u {g : Nat → Int} {n : Nat} {v v2 : Int} (h : fsP g n v) (h2 : fsP g n v2) : v = v2 := by
  rcases h with ⟨p, a1, a2, a3, a4⟩ | ⟨a1, a2⟩ <;> rcases h2 with ⟨p2, b1, b2, b3, b4⟩ | ⟨b1, b2⟩
  · rcases Nat.lt_trichotomy p p2 with q | q | q
    · exact (a3 (b2 p q)).elim
    · rw [a4, b4, q]
    · exact (b3 (a2 p2 q)).elim
  · exact (a3 (b1 p a1)).elim
  · exact (b3 (a1 p2 b1)).elim
  · rw [a2, b2]
theorem c48 (h : IV N S Ps l M) : Wp (f48 M) (fun v => Wp (f108 M) (fun v2 => v2 = v)) := by
  have hn := h.nw
  have hb : ∀ m, m < nwS S → M 30 m = M 182 m := fun m hm => (h.2.1.2 m hm).2.2.2.2.2
  have mod : ∀ v : Int, fsP (M 182) (nwS S) v → Wp (f108 M) (fun v2 => v2 = v) := fun v hv => by
    unfold f108 f108_2
    let I : Nat → Int → Prop := fun m y => ∃ p : Nat, y = p ∧ p ≤ nwS S ∧ m = nwS S - p ∧ ∀ q, q < p → M 182 q = 0
    refine wp_lp1 I (nwS S) (by omega) ⟨0, rfl, Nat.zero_le _, rfl, fun q hq => absurd hq (Nat.not_lt_zero _)⟩ ?_
    rintro m y ⟨p, rfl, a1, a2, a3⟩
    try dsimp only
    unfold lb108_2
    rw [h.m2, Int.toNat_natCast]
    refine wp_ite (fun d => wp_gd (by omega) (wp_ite (fun d2 => wp_gd (by omega) (wp_i1 (m - 1) (by omega) ⟨p + 1, by omega, by omega, by omega, fun q hq => ?_⟩)) (fun d2 => wp_o (wp_some (fsP_u (Or.inl ⟨p, by omega, a3, d2, rfl⟩) hv))))) (fun d => wp_o (wp_some (fsP_u (Or.inr ⟨fun q hq => a3 q (by omega), rfl⟩) hv)))
    by_cases z : q < p
    · exact a3 q z
    · rw [show q = p by omega]
      exact d2
  unfold f48 f48_2
  let I : Nat → Int → Prop := fun m y => ∃ p : Nat, y = p ∧ p ≤ nwS S ∧ m = nwS S - p ∧ ∀ q, q < p → M 182 q = 0
  refine wp_lp1 I (nwS S) (by omega) ⟨0, rfl, Nat.zero_le _, rfl, fun q hq => absurd hq (Nat.not_lt_zero _)⟩ ?_
  rintro m y ⟨p, rfl, a1, a2, a3⟩
  try dsimp only
  unfold lb48_2
  rw [h.e24, Int.toNat_natCast]
  have no : ¬ (p : Int) < nwS S → Wp (oinr (some (-1 : Int))) (Sum.elim (up1 I m) (fun v => Wp (f108 M) (fun v2 => v2 = v))) := fun d => wp_o (wp_some (mod _ (Or.inr ⟨fun q hq => a3 q (by omega), rfl⟩)))
  refine wp_ite (fun d => wp_ite (fun _ => wp_gd (by omega) ?_) (fun d2 => by omega)) no
  rw [hb p (by omega)]
  refine wp_ite (fun d2 => wp_gd (by omega) (wp_i1 (m - 1) (by omega) ⟨p + 1, by omega, by omega, by omega, fun q hq => ?_⟩)) (fun d2 => wp_o (wp_some (mod _ (Or.inl ⟨p, by omega, a3, d2, rfl⟩))))
  by_cases z : q < p
  · exact a3 q z
  · rw [show q = p by omega]
    exact d2
/-- whether a way has an end in a land -/
theorem w218 {w k : Nat} {P : Int → Prop} (h : IV N S Ps l M) (hw : w < nW N) (k1 : shw N k w → P 1) (k0 : ¬ shw N k w → P 0) : Wp (f218 (w : Int) (k : Int) M) P := by
  have h14 := h.1.1.w14
  have h8 := h.1.1.n8
  have hc := h.1.1.cw w hw
  have e : ∀ b, 11 ≤ b → b ≤ 23 → M b = N b := fun b q1 q2 => h.1.2.2.1.2 b q1 q2
  unfold f218
  rw [Int.toNat_natCast, e 14 (by decide) (by decide), e 15 (by decide) (by decide), e 11 (by decide) (by decide), hc.1.1, hc.2.1.1, Int.toNat_natCast, Int.toNat_natCast]
  refine wp_gd (by omega) (wp_gd (by omega) (wp_ite (fun d => wp_some (k1 (Or.inl d))) (fun d => wp_gd (by omega) (wp_ite (fun d2 => wp_some (k1 (Or.inr d2))) (fun d2 => wp_some (k0 (fun z => by rcases z with z | z; exact d z; exact d2 z)))))))
theorem w167 {w k : Nat} {P : Int → Prop} (h : IV N S Ps l M) (hw : w < nW N) (k1 : shw N k w → P 1) (k0 : ¬ shw N k w → P 0) : Wp (f167 (k : Int) (w : Int) M) P := by
  have h14 := h.1.1.w14
  have h8 := h.1.1.n8
  have hc := h.1.1.cw w hw
  obtain ⟨_, _, _, q4, q5, _⟩ := h.1.2.2.2.1
  unfold f167
  rw [Int.toNat_natCast, (q5 w hw).1, (q5 w hw).2.1, hc.1.1, hc.2.1.1, Int.toNat_natCast, Int.toNat_natCast, (q4 _ hc.1.2).1, (q4 _ hc.2.1.2).1]
  refine wp_gd (by omega) (wp_gd (by omega) (wp_ite (fun d => wp_some (k1 (Or.inl d))) (fun d => wp_gd (by omega) (wp_ite (fun d2 => wp_some (k1 (Or.inr d2))) (fun d2 => wp_some (k0 (fun z => by rcases z with z | z; exact d z; exact d2 z)))))))
theorem c69 {x1 x2 x3 : Int} (h : IV N S Ps l M) : Wp (f69 x1 x2 x3 M) (fun v => Wp (f166 x1 x2 x3 M) (fun v2 => v2 = v)) := by
  have hn := h.nw
  have h14 := h.1.1.w14
  unfold f69
  by_cases h1 : 0 ≤ x1 ∧ x1 < 4
  · by_cases h2 : 0 ≤ x2 ∧ x2 < nW N
    · obtain ⟨k, rfl⟩ := Int.eq_ofNat_of_zero_le h1.1
      obtain ⟨w, rfl⟩ := Int.eq_ofNat_of_zero_le h2.1
      obtain ⟨hs1, hs2⟩ := h.2.2.2.2.1
      obtain ⟨_, a2, a3, _, _⟩ := hs2 k (by omega)
      refine wp_bind (w56 ?_)
      rw [if_pos h1]
      refine wp_neg (by decide) (wp_bind (w215 h.e31 ?_))
      rw [if_pos h2]
      refine wp_neg (by decide) ?_
      -- where nothing is shown
      have no : ∀ x3 : Int, (M 190 k = -1 ∨ ¬ shw N k w ∨ ¬ (0 ≤ x3 ∧ x3 ≤ 2)) → Wp (f166 (k : Int) (w : Int) x3 M) (fun v2 => v2 = -1) := fun x3 q => by
        unfold f166
        refine wp_bind (w126 ?_)
        rw [if_pos h1]
        refine wp_neg (by decide) (wp_bind (w136 h.m4 (by omega) ?_))
        rw [if_pos h2]
        refine wp_neg (by decide) (wp_bind (w143 ?_))
        by_cases z : 0 ≤ x3 ∧ x3 ≤ 2
        · rw [if_pos z, Int.toNat_natCast]
          refine wp_neg (by decide) (wp_gd (by omega) (wp_ite (fun _ => wp_some rfl) (fun d => wp_bind (w167 h (by omega) (fun y => ?_) (fun y => wp_pos rfl (wp_some rfl))))))
          rcases q with q | q | q
          · exact (d q).elim
          · exact (q y).elim
          · exact (q z).elim
        · rw [if_neg z]
          exact wp_pos rfl (wp_some rfl)
      unfold f230
      rw [Int.toNat_natCast, Int.toNat_natCast, a2]
      refine wp_bind (wp_gd (by omega) (wp_ite (fun d => wp_some (wp_pos rfl (wp_some (no x3 (Or.inl d))))) (fun d => wp_bind (w218 h (by omega) (fun y => wp_neg (by decide) (wp_some (wp_neg (by decide) ?_))) (fun y => wp_pos rfl (wp_some (wp_pos rfl (wp_some (no x3 (Or.inr (Or.inl y)))))))))))
      obtain ⟨t, b1, b2, b3, b4⟩ := a3.resolve_left d
      have b5 := b4 w (by omega)
      have mod : ∀ (x3 : Int) (v : Int), 0 ≤ x3 ∧ x3 ≤ 2 → (x3 = 0 → v = M 184 (14 * t + w)) → (x3 = 1 → v = M 183 (14 * t + w)) → (x3 = 2 → v = t) → Wp (f166 (k : Int) (w : Int) x3 M) (fun v2 => v2 = v) := fun x3 v z v0 v1 v2 => by
        unfold f166
        refine wp_bind (w126 ?_)
        rw [if_pos h1]
        refine wp_neg (by decide) (wp_bind (w136 h.m4 (by omega) ?_))
        rw [if_pos h2]
        refine wp_neg (by decide) (wp_bind (w143 ?_))
        rw [if_pos z, Int.toNat_natCast]
        refine wp_neg (by decide) (wp_gd (by omega) (wp_neg d (wp_bind (w167 h (by omega) (fun y => wp_neg (by decide) ?_) (fun y2 => (y2 y).elim)))))
        rw [b2, show (14 * (t : Int) + (w : Int)).toNat = 14 * t + w by omega]
        refine wp_ite (fun d0 => wp_gd (by omega) (wp_gd (by omega) (wp_gd (by omega) (wp_ite (fun d3 => wp_some ?_) (fun d3 => wp_some ?_))))) (fun d0 => wp_ite (fun d1 => wp_gd (by omega) (wp_gd (by omega) (wp_gd (by omega) (wp_some (v1 d1).symm)))) (fun d1 => wp_some (v2 (by omega)).symm))
        · rw [v0 d0, d3]
        · rw [v0 d0]
          have := hs1 t w b1 (by omega)
          omega
      refine wp_ite (fun d0 => wp_gd (by omega) (wp_some ?_)) (fun d0 => wp_ite (fun d1 => wp_gd (by omega) (wp_gd (by omega) (wp_some ?_))) (fun d1 => wp_ite (fun d2 => wp_gd (by omega) (wp_some ?_)) (fun d2 => wp_some (no x3 (Or.inr (Or.inr (by omega)))))))
      · rw [bT b3.1 (by omega) (by omega) (by omega), Int.toNat_natCast, b5.1]
        exact mod x3 _ (by omega) (fun _ => rfl) (by omega) (by omega)
      · rw [b5.2]
        exact mod x3 _ (by omega) (by omega) (fun _ => rfl) (by omega)
      · rw [b2]
        exact mod x3 _ (by omega) (by omega) (by omega) (fun _ => rfl)
    · refine wp_bind (w56 ?_)
      rw [if_pos h1]
      refine wp_neg (by decide) (wp_bind (w215 h.e31 ?_))
      rw [if_neg h2]
      refine wp_pos rfl (wp_some ?_)
      unfold f166
      refine wp_bind (w126 ?_)
      rw [if_pos h1]
      refine wp_neg (by decide) (wp_bind (w136 h.m4 (by omega) ?_))
      rw [if_neg h2]
      exact wp_pos rfl (wp_some rfl)
  · refine wp_bind (w56 ?_)
    rw [if_neg h1]
    refine wp_pos rfl (wp_some ?_)
    unfold f166
    refine wp_bind (w126 ?_)
    rw [if_neg h1]
    exact wp_pos rfl (wp_some rfl)
theorem sgP_u {k t s0 n : Nat} {x y : Int} (h : sgP N M k t s0 n x) (h2 : sgP N M k t s0 n y) : x = y := by
  rcases h with ⟨a1, a2⟩ | ⟨m, a1, a2, a3, a4, a5⟩ <;> rcases h2 with ⟨b1, b2⟩ | ⟨m2, b1, b2, b3, b4, b5⟩
  · rw [a1, b1]
  · exact (a2 m2 b2 b3 b4).elim
  · exact (b2 m a2 a3 a4).elim
  · rcases Nat.lt_trichotomy m m2 with q | q | q
    · exact (b5 m a2 q a4).elim
    · rw [a1, b1, q]
    · exact (a5 m2 b2 q b4).elim
theorem c70 {x1 : Int} (h : IV N S Ps l M) : Wp (f70 x1 M) (fun v => Wp (f168 x1 M) (fun v2 => v2 = v)) := by
  have hn := h.nw
  have h14 := h.1.1.w14
  unfold f70 f168
  by_cases h1 : 0 ≤ x1 ∧ x1 < 4
  · obtain ⟨k, rfl⟩ := Int.eq_ofNat_of_zero_le h1.1
    obtain ⟨hs1, hs2⟩ := h.2.2.2.2.1
    obtain ⟨a1, a2, a3, a4, a5⟩ := hs2 k (by omega)
    refine wp_bind (w56 ?_)
    rw [if_pos h1]
    refine wp_neg (by decide) (wp_gd (by omega) (wp_some (wp_bind (w126 ?_))))
    rw [if_pos h1, Int.toNat_natCast]
    refine wp_neg (by decide) (wp_gd (by omega) (wp_ite (fun d => wp_some (a4 d).symm) (fun d => ?_)))
    obtain ⟨s0, b1, b2, b3, b4⟩ := a5 (a1.2.resolve_left d)
    refine wp_ite (fun d2 => wp_some (b3 d2).symm) (fun d2 => ?_)
    obtain ⟨t, e1, e2, _, _⟩ := a3.resolve_left d2
    have hsg := b4 t e2
    unfold f168_35
    rw [b1]
    let I : Nat → Int → Prop := fun m y => ∃ p : Nat, y = p ∧ s0 ≤ p ∧ p ≤ nwS S ∧ m = nwS S - p ∧ ∀ q, s0 ≤ q → q < p → ¬ dff N M k t q
    refine wp_lp1 I (nwS S - s0) (by omega) ⟨s0, rfl, Nat.le_refl _, b2, rfl, fun q q1 q2 => by omega⟩ ?_
    rintro m y ⟨p, rfl, c1, c2, c3, c4⟩
    try dsimp only
    unfold lb168_35
    rw [h.m2]
    refine wp_ite (fun z => ?_) (fun z => wp_o (wp_some (sgP_u (Or.inl ⟨rfl, fun q q1 q2 => c4 q q1 (by omega)⟩) hsg)))
    unfold f168_45
    let I2 : Nat → Int → Prop := fun m2 y => ∃ w : Nat, y = w ∧ w ≤ nW N ∧ m2 = nW N - w ∧ ∀ v, v < w → ¬ (shw N k v ∧ (M 184 (14 * p + v) ≠ M 184 (14 * t + v) ∨ M 183 (14 * p + v) ≠ M 183 (14 * t + v)))
    refine wp_lp1 I2 (nW N) (by omega) ⟨0, rfl, Nat.zero_le _, rfl, fun v hv => absurd hv (Nat.not_lt_zero _)⟩ ?_
    rintro m2 y2 ⟨w, rfl, g1, g2, g3⟩
    try dsimp only
    unfold lb168_45
    rw [h.m4, Int.toNat_natCast, e2]
    have next : (w : Int) < nW N → ¬ (shw N k w ∧ (M 184 (14 * p + w) ≠ M 184 (14 * t + w) ∨ M 183 (14 * p + w) ≠ M 183 (14 * t + w))) → Wp (f168_119 (k : Int) (p : Int) (w : Int) M) (Sum.elim (up1 I2 m2) (Sum.elim (up1 I m) (fun v2 => v2 = M 105 k))) := fun q1 q2 => by
      unfold f168_119
      refine wp_gd (by omega) (wp_i1 (m2 - 1) (by omega) ⟨w + 1, by omega, by omega, by omega, fun v hv => ?_⟩)
      by_cases e : v = w
      · rw [e]
        exact q2
      · exact g3 v (by omega)
    have yes : (w : Int) < nW N → shw N k w → (M 184 (14 * p + w) ≠ M 184 (14 * t + w) ∨ M 183 (14 * p + w) ≠ M 183 (14 * t + w)) → Wp (oinr (oinr (some (p : Int)))) (Sum.elim (up1 I2 m2) (Sum.elim (up1 I m) (fun v2 => v2 = M 105 k))) := fun q1 q2 q3 => by
      refine wp_o (wp_o (wp_some (sgP_u (Or.inr ⟨p, rfl, c1, by omega, ⟨w, by omega, q2, q3⟩, c4⟩) hsg)))
    refine wp_ite (fun z2 => ?_) (fun z2 => ?_)
    · refine wp_gd (by omega) (wp_gd (by omega) (wp_gd (by omega) (wp_gd (by omega) (wp_gd (by omega) (wp_bind (w167 h (by omega) (fun y => wp_neg (by decide) ?_) (fun y => wp_pos rfl (next z2 (fun u => y u.1)))))))))
      rw [show (14 * (p : Int) + (w : Int)).toNat = 14 * p + w by omega, show (14 * (t : Int) + (w : Int)).toNat = 14 * t + w by omega]
      exact wp_gd (by omega) (wp_gd (by omega) (wp_ite (fun u1 => wp_ite (fun u2 => next z2 (fun u => by rcases u.2 with u3 | u3; exact u3 u1; exact u3 u2)) (fun u2 => yes z2 y (Or.inr u2))) (fun u1 => yes z2 y (Or.inl u1))))
    · refine wp_o (wp_gd (by omega) (wp_i1 (m - 1) (by omega) ⟨p + 1, by omega, by omega, by omega, by omega, fun q q1 q2 => ?_⟩))
      by_cases e : q = p
      · rw [e]
        rintro ⟨v, v1, v2, v3⟩
        exact g3 v (by omega) ⟨v2, v3⟩
      · exact c4 q q1 (by omega)
  · refine wp_bind (w56 ?_)
    rw [if_neg h1]
    refine wp_pos rfl (wp_some (wp_bind (w126 ?_)))
    rw [if_neg h1]
    exact wp_pos rfl (wp_some rfl)
theorem c42 {x1 : Int} (h : IV N S Ps l M) (hx : R4 x1) : Wp (f42 x1 M) (fun v => Wp (f98 x1 M) (fun v2 => v2 = v)) := by
  have h14 := h.1.1.w14
  have h8 := h.1.1.n8
  obtain ⟨z, t1, t2, _⟩ := h.2.2.2.2.2.2.2
  obtain ⟨r, b, k1, k2, _, k4, k5, _⟩ := h.2.2.2.2.2.1
  obtain ⟨ev, v1, v2, _⟩ := h.2.2.2.1
  obtain ⟨t, d, g1, g2, g3, g4, g5, g6, g7, g8⟩ := h.2.2.1
  have ht : isTx t := by rcases g1 with g1 | g1 <;> rw [g1.1] <;> decide
  have low : ∀ (v : Int), ¬ (20 ≤ x1 ∧ x1 < 20 + nW N) → Wp (if x1 = 0 then (some (M 142 2)) else (if x1 = 1 then (some (M 142 3)) else (if x1 = 2 then (some (M 142 4)) else (if x1 = 3 then (some (M 142 5)) else (if x1 = 4 then (some (M 142 7)) else (if x1 = 5 then (some (M 142 6)) else (if x1 = 6 then (some (M 142 8)) else (if x1 = 7 then (some (M 142 9)) else (if x1 = 8 then (some (M 142 1)) else (if x1 = 9 then (some (M 144 36069)) else (if x1 = 10 then ((f163 36000 M).bind fun v18 => gd (R4 v18) (some v18)) else (some (-1))))))))))))) (fun v2 => v2 = v) → Wp (f98 x1 M) (fun v2 => v2 = v) := fun v q w => by
    unfold f98
    rw [h.m4]
    refine wp_gd (by omega) (wp_bind (w143 ?_))
    rw [if_neg (show ¬ (20 ≤ x1 ∧ x1 ≤ 19 + (nW N : Int)) by omega)]
    refine wp_pos rfl ?_
    rw [h.m4] at w
    exact w
  unfold f42
  refine wp_ite (fun d => wp_some (low _ (by omega) (wp_pos d (wp_some (by rw [h.m2, h.e24]))))) (fun d0 => ?_)
  refine wp_ite (fun d => wp_some (low _ (by omega) (wp_neg d0 (wp_pos d (wp_some (by rw [h.m3, h.e30])))))) (fun d1 => ?_)
  refine wp_ite (fun d => wp_some (low _ (by omega) (wp_neg d0 (wp_neg d1 (wp_pos d (wp_some (by rw [h.m4, h.e31]))))))) (fun d2 => ?_)
  refine wp_ite (fun d => wp_some (low _ (by omega) (wp_neg d0 (wp_neg d1 (wp_neg d2 (wp_pos d (wp_some (by rw [h.m5, h.e32])))))))) (fun d3 => ?_)
  refine wp_ite (fun d => wp_some (low _ (by omega) (wp_neg d0 (wp_neg d1 (wp_neg d2 (wp_neg d3 (wp_pos d (wp_some (by rw [v1, v2]))))))))) (fun d4 => ?_)
  refine wp_ite (fun d => ?_) (fun d5 => ?_)
  · rw [g2, Int.toNat_natCast]
    exact wp_gd ht (wp_some (low _ (by omega) (wp_neg d0 (wp_neg d1 (wp_neg d2 (wp_neg d3 (wp_neg d4 (wp_pos d (wp_some (by rw [g4.1, g7.1]))))))))))
  refine wp_ite (fun d => wp_some (low _ (by omega) (wp_neg d0 (wp_neg d1 (wp_neg d2 (wp_neg d3 (wp_neg d4 (wp_neg d5 (wp_pos d (wp_some (by rw [k1, k2]))))))))))) (fun d6 => ?_)
  refine wp_ite (fun d => wp_some (low _ (by omega) (wp_neg d0 (wp_neg d1 (wp_neg d2 (wp_neg d3 (wp_neg d4 (wp_neg d5 (wp_neg d6 (wp_pos d (wp_some (by rw [k4, k5])))))))))))) (fun d7 => ?_)
  refine wp_ite (fun d => wp_some (low _ (by omega) (wp_neg d0 (wp_neg d1 (wp_neg d2 (wp_neg d3 (wp_neg d4 (wp_neg d5 (wp_neg d6 (wp_neg d7 (wp_pos d (wp_some (by rw [t1, t2]))))))))))))) (fun d8 => ?_)
  refine wp_ite (fun d => wp_some (low _ (by omega) (wp_neg d0 (wp_neg d1 (wp_neg d2 (wp_neg d3 (wp_neg d4 (wp_neg d5 (wp_neg d6 (wp_neg d7 (wp_neg d8 (wp_pos d (wp_some h.1.2.2.2.2.2.2.2.2.1.symm))))))))))))) (fun d9 => ?_)
  refine wp_ite (fun d => ?_) (fun d10 => ?_)
  · obtain ⟨s1, s2, s3, s4, s5⟩ := h.1.2.2.2.2.1
    have hpw := pw2_n h.1.1
    refine wp_bind (w244 (N := N) (S := S) h.1.1 h.1.2.1 (fun i hi => s2 i hi) s3.1 s3.2.1 (wp_some (low _ (by omega) (wp_neg d0 (wp_neg d1 (wp_neg d2 (wp_neg d3 (wp_neg d4 (wp_neg d5 (wp_neg d6 (wp_neg d7 (wp_neg d8 (wp_neg d9 (wp_pos d ?_))))))))))))))
    have hsm : sm (fun s => if S 4 s = 1 then S 3 s else 0) (nN N) = sm (fun s => if tb (M 24 1) s = true then S 3 s else 0) (nN N) := sm_congr (fun i hi => by
      rw [s3.2.2 i]
      cases tb (M 24 1) i <;> rfl)
    have hb1 := sm_nn (a := fun s => if S 4 s = 1 then S 3 s else 0) (n := nN N) (fun i hi => by
      have := h.1.2.1.2.1 i (by omega)
      split <;> omega)
    have hb2 := sm_const (f := fun s => if S 4 s = 1 then S 3 s else 0) (c := 2000) (n := nN N) (fun i hi => by
      have := h.1.2.1.2.1 i (by omega)
      split <;> omega)
    refine wp_bind (w163 (N := N) (S := S) (z := 36000) (D := S 4) h.1.1 h.1.2.1 h.1.2.2.2.1 (by decide) (fun s hs => (h.1.2.2.2.2.2.1.2.1 s hs).1) (fun s hs => (h.1.2.2.2.2.2.1.2.1 s hs).2) (wp_gd (by omega) (wp_some hsm)))
  · have no : ¬ (20 ≤ x1 ∧ x1 < 20 + nW N) → Wp (f98 x1 M) (fun v2 => v2 = -1) := fun q => low _ q (wp_neg d0 (wp_neg d1 (wp_neg d2 (wp_neg d3 (wp_neg d4 (wp_neg d5 (wp_neg d6 (wp_neg d7 (wp_neg d8 (wp_neg d9 (wp_neg d10 (wp_some rfl))))))))))))
    unfold f40
    rw [h.e31]
    refine wp_bind (wp_ite (fun d => wp_some (wp_some (no (by omega)))) (fun d => wp_gd (by have := hx.2; omega) (wp_ite (fun d11 => wp_gd (by omega) (wp_some (wp_some ?_))) (fun d11 => wp_some (wp_some (no (by omega)))))))
    · unfold f98
      rw [h.m4]
      refine wp_gd (by omega) (wp_bind (w143 ?_))
      rw [if_pos (show 20 ≤ x1 ∧ x1 ≤ 19 + (nW N : Int) by omega)]
      refine wp_neg (by decide) (wp_gd (by omega) (wp_gd (by omega) (wp_some ?_)))
      have hx : (x1 - 20).toNat < nW N := by omega
      rw [h.1.2.2.1.2 19 (by decide) (by decide), (h.1.2.2.2.1.2.2.2.2.1 _ hx).2.2.2.2.2]
end SET6
