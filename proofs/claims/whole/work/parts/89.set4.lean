/-! Bytes of the tape. -/
theorem b255 : ∀ i : Fin 32, (255#32).getLsbD i.val = decide (i.val < 8) := by decide
theorem byt_bv (X : BitVec 32) (s : Nat) (hs : s ≤ 24) : ((((X.sshiftRight s).signExtend 8).signExtend 32).signExtend 8).signExtend 32 &&& 255#32 = (X >>> s) &&& 255#32 := by
  refine BitVec.eq_of_getLsbD_eq (fun i hi => ?_)
  rw [BitVec.getLsbD_and, BitVec.getLsbD_and, b255 ⟨i, hi⟩]
  by_cases h : i < 8
  · rw [BitVec.getLsbD_signExtend, if_pos h, BitVec.getLsbD_signExtend, if_pos hi, BitVec.getLsbD_signExtend, if_pos h, BitVec.getLsbD_signExtend, if_pos hi, BitVec.getLsbD_sshiftRight, if_pos (by omega), BitVec.getLsbD_ushiftRight, decide_eq_true h, decide_eq_true hi, decide_eq_false (by omega : ¬ 32 ≤ i)]
    rfl
  · rw [decide_eq_false h, Bool.and_false, Bool.and_false]
theorem byt (x : Int) {s : Nat} (hs : s ≤ 24) : bAnd (bByte (bByte (bShr x (s : Int)))) 255 = bAnd (bUshr x (s : Int)) 255 := by
  have hL : (Int32.ofInt x >>> (Int32.ofInt (s : Int) &&& 31)).toBitVec = (Int32.ofInt x).toBitVec.sshiftRight s := by
    have h := bS_amt ⟨s, by omega⟩
    show BitVec.sshiftRight _ (((Int32.ofInt (s : Int) &&& 31).toBitVec.smod 32).toNat) = _
    rw [h]
  have hR : ((Int32.ofInt x).toUInt32 >>> ((Int32.ofInt (s : Int)).toUInt32 &&& Int32.toUInt32 31)).toBitVec = (Int32.ofInt x).toBitVec >>> s := by
    apply BitVec.eq_of_toNat_eq
    show ((Int32.ofInt x).toUInt32 >>> ((Int32.ofInt (s : Int)).toUInt32 &&& Int32.toUInt32 31)).toNat = _
    rw [UInt32.toNat_shiftRight, BitVec.toNat_ushiftRight]
    have e2 : ((Int32.ofInt (s : Int)).toUInt32 &&& Int32.toUInt32 31).toNat = s := by
      rw [UInt32.toNat_and]
      have e3 : (Int32.ofInt (s : Int)).toUInt32.toNat = s := by
        show (BitVec.ofNat 32 s).toNat = s
        rw [BitVec.toNat_ofNat]
        omega
      rw [e3]
      exact (Nat.and_two_pow_sub_one_eq_mod s 5).trans (Nat.mod_eq_of_lt (by omega))
    rw [e2, Nat.mod_eq_of_lt (by omega : s < 32)]
    rfl
  unfold bAnd bByte bUshr bShr
  rw [Int32.ofInt_toInt, Int32.ofInt_toInt, Int32.ofInt_toInt, Int32.ofInt_toInt]
  congr 1
  rw [← Int32.toBitVec_inj]
  show ((((Int32.ofInt x >>> (Int32.ofInt (s : Int) &&& 31)).toBitVec.signExtend 8).signExtend 32).signExtend 8).signExtend 32 &&& 255#32 = ((Int32.ofInt x).toUInt32 >>> ((Int32.ofInt (s : Int)).toUInt32 &&& Int32.toUInt32 31)).toBitVec &&& 255#32
  rw [hL, hR]
  exact byt_bv _ s hs
theorem bAnd255 (x : Int) : 0 ≤ bAnd x 255 ∧ bAnd x 255 ≤ 255 := by
  have e : bAnd x 255 = (((Int32.ofInt x).toBitVec.toNat &&& 255 : Nat) : Int) := by
    unfold bAnd
    show BitVec.toInt ((Int32.ofInt x).toBitVec &&& 255#32) = _
    rw [BitVec.toInt_eq_toNat_of_lt]
    · rw [BitVec.toNat_and]
      rfl
    · rw [BitVec.toNat_and]
      have := Nat.and_le_right (n := (Int32.ofInt x).toBitVec.toNat) (m := (255#32).toNat)
      have h255 : (255#32).toNat = 255 := rfl
      omega
  rw [e]
  have := Nat.and_le_right (n := (Int32.ofInt x).toBitVec.toNat) (m := 255)
  omega
section SET4
variable {N S M M2 : Mm} {Ps : Nat → Mm} {l : List (Bool × Sem)}
theorem dff_cg {k t m : Nat} (h3 : M2 183 = M 183) (h4 : M2 184 = M 184) : dff N M2 k t m ↔ dff N M k t m := by unfold dff; rw [h3, h4]
theorem sgP_cg {k t s0 n : Nat} {x : Int} (h3 : M2 183 = M 183) (h4 : M2 184 = M 184) : sgP N M2 k t s0 n x ↔ sgP N M k t s0 n x := by
  have e : ∀ m, dff N M2 k t m = dff N M k t m := fun m => propext (dff_cg h3 h4)
  unfold sgP
  simp only [e]
theorem c74 {x1 x2 : Int} (h : IV N S Ps l M) (h2 : x2 = 0 ∨ x2 = 1) : Wp (f74 x1 x2 M) (fun r => JJ r.1 (f176 x1 x2 r.2)) := by
  have hn := h.nw
  obtain ⟨hs1, hs2⟩ := h.2.2.2.2.1
  unfold f74
  by_cases h_k : 0 ≤ x1 ∧ x1 < 4
  · obtain ⟨k, rfl⟩ := Int.eq_ofNat_of_zero_le h_k.1
    obtain ⟨⟨a0, a1⟩, a2, a3, a4, a5⟩ := hs2 k (by omega)
    refine wp_bind (w56 ?_)
    rw [if_pos h_k]
    refine wp_neg (by decide) (wp_gd (by omega) ?_)
    rw [Int.toNat_natCast]
    by_cases d : M 103 k = x2
    · refine wp_pos d (wp_some ?_)
      show JJ 0 (f176 (k : Int) x2 M)
      unfold f176
      refine wp_bind (w126 ?_)
      rw [if_pos h_k]
      refine wp_neg (by decide) (wp_gd (by omega) ?_)
      rw [Int.toNat_natCast]
      exact wp_pos (by rw [← a0]; exact d) (jj h.G)
    · refine wp_neg d (wp_gd h2 (wp_mlet (wp_mlet (wp_some ?_))))
      show JJ 1 (f176 (k : Int) x2 (ms (ms M 103 k x2) 105 k (-1)))
      unfold f176
      refine wp_bind (w126 ?_)
      rw [if_pos h_k]
      refine wp_neg (by decide) (wp_gd (by omega) ?_)
      rw [Int.toNat_natCast]
      refine wp_neg (by rw [ms_a (by decide), ms_a (by decide), ← a0]; exact d) (wp_gd h2 (wp_mlet ?_))
      rw [ms_a (by decide : (142 : Nat) ≠ 188), ms_a (by decide : (142 : Nat) ≠ 105), ms_a (by decide : (142 : Nat) ≠ 103)]
      refine wp_mlet (jj (IV.G (h.scr (fun b q1 q2 q3 q4 => ?_) ?_)))
      · rw [ms_a q4, ms_a q3, ms_a q2, ms_a q1]
      · have em : ∀ b, b ≠ 103 → b ≠ 105 → b ≠ 188 → b ≠ 189 → ms (ms (ms (ms M 103 k x2) 105 k (-1)) 188 k x2) 189 k (M 142 2) b = M b := fun b q1 q2 q3 q4 => by rw [ms_a q4, ms_a q3, ms_a q2, ms_a q1]
        have e103 : ms (ms (ms (ms M 103 k x2) 105 k (-1)) 188 k x2) 189 k (M 142 2) 103 = ms M 103 k x2 103 := by rw [ms_a (by decide), ms_a (by decide), ms_a (by decide)]
        have e105 : ms (ms (ms (ms M 103 k x2) 105 k (-1)) 188 k x2) 189 k (M 142 2) 105 = ms (ms M 103 k x2) 105 k (-1) 105 := by rw [ms_a (by decide), ms_a (by decide)]
        have e188 : ms (ms (ms (ms M 103 k x2) 105 k (-1)) 188 k x2) 189 k (M 142 2) 188 = ms (ms (ms M 103 k x2) 105 k (-1)) 188 k x2 188 := by rw [ms_a (by decide)]
        have e189 : ∀ i, ms (ms (ms (ms M 103 k x2) 105 k (-1)) 188 k x2) 189 k (M 142 2) 189 i = if i = k then M 142 2 else M 189 i := fun i => by
          by_cases e : i = k
          · rw [e, ms_v, if_pos rfl]
          · rw [ms_i e, if_neg e]
            repeat rw [ms_a (by decide)]
        generalize ms (ms (ms (ms M 103 k x2) 105 k (-1)) 188 k x2) 189 k (M 142 2) = M4 at em e103 e105 e188 e189 ⊢
        have m183 : M4 183 = M 183 := em 183 (by decide) (by decide) (by decide) (by decide)
        have m184 : M4 184 = M 184 := em 184 (by decide) (by decide) (by decide) (by decide)
        refine ⟨fun m w q1 q2 => by rw [m184]; exact hs1 m w q1 q2, fun i hi => ?_⟩
        obtain ⟨b1, b2, b3, b4, b5⟩ := hs2 i hi
        rw [em 104 (by decide) (by decide) (by decide) (by decide), em 190 (by decide) (by decide) (by decide) (by decide), em 106 (by decide) (by decide) (by decide) (by decide), em (108 + i) (by omega) (by omega) (by omega) (by omega), m183, m184, e103, e105, e188, e189]
        by_cases e : i = k
        · subst e
          rw [ms_v, ms_v, ms_v, if_pos rfl]
          refine ⟨⟨rfl, h2⟩, b2, b3, fun _ => rfl, fun _ => ⟨nwS S, ?_, Nat.le_refl _, fun _ => rfl, fun t _ => Or.inl ⟨rfl, fun m q1 q2 => by omega⟩⟩⟩
          have h6 := h.1.2.2.2.2.2.2.2.1.1
          have h61 := h.1.2.1.2.2.2.2.2.2.2.1
          rw [h6]
          unfold nwS
          omega
        · rw [ms_i e, ms_i e, ms_i e, ms_a (by decide), ms_a (by decide), ms_a (by decide), if_neg e]
          refine ⟨b1, b2, b3, b4, fun q => ?_⟩
          obtain ⟨s0, c1, c2, c3, c4⟩ := b5 q
          exact ⟨s0, c1, c2, c3, fun t ht => (sgP_cg m183 m184).mpr (c4 t ht)⟩
  · refine wp_bind (w56 ?_)
    rw [if_neg h_k]
    refine wp_pos rfl (wp_some ?_)
    show JJ 0 (f176 x1 x2 M)
    unfold f176
    refine wp_bind (w126 ?_)
    rw [if_neg h_k]
    exact wp_pos rfl (jj h.G)
theorem IV.tap (h : IV N S Ps l M) (hb : ∀ b, b ≠ 132 → b ≠ 133 → b ≠ 142 → b ≠ 143 → M2 b = M b) (hj : ∀ j, j ≠ 1 → M2 142 j = M 142 j) (hz : ∃ z, iTap z M2) : IV N S Ps l M2 := by
  have hn := h.nw
  obtain ⟨h1, h2, ⟨t, d, h3⟩, ⟨ev, h4⟩, h5, ⟨r, b, h6⟩, h7, _⟩ := h
  have e144 : M2 144 = M 144 := hb 144 (by decide) (by decide) (by decide) (by decide)
  exact ⟨h1.to (fun b _ => hb b (by omega) (by omega) (by omega) (by omega)) (fun j _ _ => hj j (by omega)) (fun a _ _ => by rw [e144]), h2.to (by omega) (by rw [hb 0 (by omega) (by decide) (by decide) (by decide)]) (fun b _ => hb b (by omega) (by omega) (by omega) (by omega)) (fun a _ => by rw [e144]), ⟨t, d, h3.to (by rw [hb 3 (by omega) (by decide) (by decide) (by decide)]) (by rw [hb 2 (by omega) (by decide) (by decide) (by decide)]) (fun b _ => hb b (by omega) (by omega) (by omega) (by omega)) (hj 6 (by decide)) (hj 52 (by decide))⟩, ⟨ev, h4.to (fun b _ => hb b (by omega) (by omega) (by omega) (by omega)) (hj 7 (by decide))⟩, h5.to (fun b _ => hb b (by omega) (by omega) (by omega) (by omega)), ⟨r, b, h6.to (fun b _ => hb b (by omega) (by omega) (by omega) (by omega)) (hj 8 (by decide)) (hj 9 (by decide))⟩, h7.to (fun b _ => hb b (by omega) (by omega) (by omega) (by omega)), hz⟩
/-- what a tape takes in, of the first object -/
def tpC (z : Nat) (g : Nat → Int) (M0 M : Mm) : Prop := M 132 0 = z ∧ (∀ i, i < z → M 133 i = g i) ∧ (∀ b, b ≠ 132 → b ≠ 133 → M b = M0 b)
def tpM (z : Nat) (g : Nat → Int) (M0 M : Mm) : Prop := M 142 1 = z ∧ (∀ i, i < z → bAnd (M 143 i) 255 = g i) ∧ (∀ b, b ≠ 142 → b ≠ 143 → M b = M0 b) ∧ ∀ j, j ≠ 1 → M 142 j = M0 142 j
/-- the bytes that x adds -/
noncomputable def gad (g : Nat → Int) (z : Nat) (x : Int) (i : Nat) : Int := if i < z then g i else bAnd (bUshr x (24 - 8 * ((i - z : Nat) : Int))) 255
theorem w246 {z : Nat} {g : Nat → Int} {x : Int} {M0 : Mm} {P : Mm → Prop} (h : tpC z g M0 M) (hz : z + 4 ≤ 200) (k : ∀ M2 : Mm, tpC (z + 4) (gad g z x) M0 M2 → P M2) : Wp (f246 x M) P := by
  unfold f246 f246_3
  let I : Nat → Int → Mm → Prop := fun m y M2 => ∃ j : Nat, j ≤ 4 ∧ m = 4 - j ∧ y = 24 - 8 * (j : Int) ∧ tpC (z + j) (gad g z x) M0 M2
  refine wp_lp2 I 4 (by omega) ⟨0, by omega, rfl, rfl, h.1, fun i hi => ?_, h.2.2⟩ ?_
  · unfold gad
    rw [if_pos (by omega)]
    exact h.2.1 i (by omega)
  rintro m y M2 ⟨j, a1, a2, rfl, a4, a5, a6⟩
  try dsimp only
  unfold lb246_3
  refine wp_ite (fun d => wp_o (wp_some ?_)) (fun d => ?_)
  · have hj : j = 4 := by omega
    subst hj
    exact k M2 ⟨a4, a5, a6⟩
  · rw [a4, Int.toNat_natCast]
    refine wp_pos (by omega) (wp_gd (by omega) (wp_mlet ?_))
    rw [ms_a (by decide : (132 : Nat) ≠ 133), a4]
    refine wp_gd (by omega) (wp_mlet ?_)
    unfold f246_43
    refine wp_gd (by omega) (wp_i2 (m - 1) (by omega) ⟨j + 1, by omega, by omega, by omega, by rw [ms_v]; omega, fun i hi => ?_, fun b q1 q2 => ?_⟩)
    · rw [ms_a (by decide)]
      by_cases e : i = z + j
      · rw [e, ms_v]
        unfold gad
        rw [if_neg (by omega), show z + j - z = j by omega]
      · rw [ms_i e]
        exact a5 i (by omega)
    · rw [ms_a q1, ms_a q2]
      exact a6 b q1 q2
theorem w154 {z : Nat} {g : Nat → Int} {x : Int} {M0 : Mm} {P : Mm → Prop} (h : tpM z g M0 M) (hz : z + 4 ≤ 200) (k : ∀ M2 : Mm, tpM (z + 4) (gad g z x) M0 M2 → P M2) : Wp (f154 x M) P := by
  unfold f154 f154_3
  let I : Nat → Int → Mm → Prop := fun m y M2 => ∃ j : Nat, j ≤ 4 ∧ m = 4 - j ∧ y = 24 - 8 * (j : Int) ∧ tpM (z + j) (gad g z x) M0 M2
  refine wp_lp2 I 4 (by omega) ⟨0, by omega, rfl, rfl, h.1, fun i hi => ?_, h.2.2⟩ ?_
  · unfold gad
    rw [if_pos (by omega)]
    exact h.2.1 i (by omega)
  rintro m y M2 ⟨j, a1, a2, rfl, a4, a5, a6, a7⟩
  try dsimp only
  unfold lb154_3
  refine wp_ite (fun d => wp_o (wp_some ?_)) (fun d => ?_)
  · have hj : j = 4 := by omega
    subst hj
    exact k M2 ⟨a4, a5, a6, a7⟩
  · rw [a4, Int.toNat_natCast]
    refine wp_gd (by omega) (wp_mlet ?_)
    rw [ms_a (by decide : (142 : Nat) ≠ 143), a4]
    refine wp_gd (by omega) (wp_mlet (wp_gd (by omega) (wp_i2 (m - 1) (by omega) ⟨j + 1, by omega, by omega, by omega, by rw [ms_v]; omega, fun i hi => ?_, fun b q1 q2 => ?_, fun i hi => ?_⟩)))
    · rw [ms_a (by decide)]
      by_cases e : i = z + j
      · rw [e, ms_v]
        unfold gad
        rw [if_neg (by omega), show z + j - z = j by omega]
        have := byt x (s := 24 - 8 * j) (by omega)
        rw [show ((24 - 8 * j : Nat) : Int) = 24 - 8 * (j : Int) by omega] at this
        exact this
      · rw [ms_i e]
        exact a5 i (by omega)
    · rw [ms_a q1, ms_a q2]
      exact a6 b q1 q2
    · rw [ms_i hi, ms_a (by decide)]
      exact a7 i hi
theorem gad_b {g : Nat → Int} {z : Nat} {x : Int} (h : ∀ i, i < z → 0 ≤ g i ∧ g i ≤ 255) (i : Nat) : (0 ≤ gad g z x i ∧ gad g z x i ≤ 255) := by
  unfold gad
  split
  · exact h i (by assumption)
  · exact bAnd255 _
theorem c46 {x1 x2 x3 x4 x5 : Int} (h : IV N S Ps l M) : Wp (f46 x1 x2 x3 x4 x5 M) (fun r => JJ r.1 (f107 x1 x2 x3 x4 x5 r.2)) := by
  obtain ⟨z, t1, t2, t3, t4⟩ := h.2.2.2.2.2.2.2
  unfold f46 f247
  rw [t1]
  by_cases d : 180 < z
  · refine wp_bind (wp_pos (by omega) (wp_some (wp_pos rfl (wp_some ?_))))
    show JJ (-1) (f107 x1 x2 x3 x4 x5 M)
    unfold f107
    rw [t2]
    exact wp_gd (by omega) (wp_pos (by omega) (jj h.G))
  · refine wp_bind (wp_neg (by omega) (wp_some (wp_neg (by decide) ?_)))
    have c0 : tpC z (M 133) M M := ⟨t1, fun _ _ => rfl, fun _ _ _ => rfl⟩
    refine wp_bind (w246 c0 (by omega) (fun M1 c1 => wp_bind (w246 c1 (by omega) (fun M2 c2 => wp_bind (w246 c2 (by omega) (fun M3 c3 => wp_bind (w246 c3 (by omega) (fun M4 c4 => wp_bind (w246 c4 (by omega) (fun M5 c5 => wp_some ?_))))))))))
    have v1 : M5 132 0 = z + 4 + 4 + 4 + 4 + 4 := by rw [c5.1]; omega
    rw [v1]
    show JJ ((z : Int) + 4 + 4 + 4 + 4 + 4) (f107 x1 x2 x3 x4 x5 M5)
    have e142 : M5 142 = M 142 := c5.2.2 142 (by decide) (by decide)
    have e143 : M5 143 = M 143 := c5.2.2 143 (by decide) (by decide)
    unfold f107
    rw [e142, t2]
    refine wp_gd (by omega) (wp_neg (by omega) ?_)
    have m0 : tpM z (M 133) M5 M5 := ⟨by rw [e142]; exact t2, fun i hi => by rw [e143]; exact (t4 i hi).1, fun _ _ _ => rfl, fun _ _ => rfl⟩
    refine wp_bind (w154 m0 (by omega) (fun N1 d1 => wp_bind (w154 d1 (by omega) (fun N2 d2 => wp_bind (w154 d2 (by omega) (fun N3 d3 => wp_bind (w154 d3 (by omega) (fun N4 d4 => wp_bind (w154 d4 (by omega) (fun N5 d5 => ?_))))))))))
    have v2 : N5 142 1 = z + 4 + 4 + 4 + 4 + 4 := by rw [d5.1]; omega
    rw [v2]
    refine jj (IV.G (h.tap (fun b q1 q2 q3 q4 => (d5.2.2.1 b q3 q4).trans (c5.2.2 b q1 q2)) (fun j hj => (d5.2.2.2 j hj).trans (by rw [e142])) ⟨z + 4 + 4 + 4 + 4 + 4, ?_, by rw [v2]; omega, by omega, fun i hi => ?_⟩))
    · rw [d5.2.2.1 132 (by decide) (by decide), v1]
      omega
    · rw [d5.2.2.1 133 (by decide) (by decide), d5.2.1 i hi, c5.2.1 i hi]
      refine ⟨rfl, ?_⟩
      exact gad_b (fun i _ => gad_b (fun i _ => gad_b (fun i _ => gad_b (fun i _ => gad_b (fun i hi => (t4 i hi).2) i) i) i) i) i
end SET4
