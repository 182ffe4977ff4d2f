/-! SaggingNetModel.event -/
def E105_25 (X : Nat × Nat × qC) (d : Nat) (x1 : Int) (R : Int × Mm → Prop) : Int × Mm → Prop := fun s => R4 s.1 → ∀ (y2 : Int32), mE X (d + 7) 105 1 25 [some (.ref 142), some (.int (Int32.ofInt x1)), some (.int y2), some (.int (Int32.ofInt s.1))] [] s.2 (fun v M2 => R (v, M2))
noncomputable def lb105_25 (x1 : Int) (x3 : Int) (M : Mm) : Option ((Int × Mm) ⊕ (Int × Mm)) :=
  if x3 < x1 then
  (obnd (f142 x3 x1 M) fun v2 M3 =>
  if v2 = 0 then
  (gd (R4 (x3 + 1)) (
  some (.inl ((x3 + 1), M3))))
  else
  (oinr (some (x3, M3))))
  else
  (oinr (some ((-1), M)))
noncomputable def f105_25 (x1 : Int) (x3 : Int) (M : Mm) : Option (Int × Mm) := lp (fun s : Int × Mm => lb105_25 x1 s.1 s.2) (x3, M)
theorem tb105_25 {X : Nat × Nat × qC} {d : Nat} {x1 : Int} {x3 : Int} {M : Mm} {y2 : Int32} {R : Int × Mm → Prop} (hx1 : R4 x1) (hx3 : R4 x3) (w : Wp (lb105_25 x1 x3 M) (Sum.elim (E105_25 X d x1 R) R)) : mE X (d + 7) 105 1 25 [some (.ref 142), some (.int (Int32.ofInt x1)), some (.int y2), some (.int (Int32.ofInt x3))] [] M (fun v M2 => R (v, M2)) := by
  refine mE_iload_n c105_25 rfl ?_
  refine mE_iload_n c105_26 rfl ?_
  by_cases e1 : x3 < x1
  · have w := w.pos e1
    refine mE_icmp_ge_F (t := 47) c105_27 rfl hx3 hx1 e1 ?_
    refine mE_aload_n c105_30 rfl ?_
    refine mE_iload_n c105_31 rfl ?_
    refine mE_iload_n c105_32 rfl ?_
    refine mE_virtual1 (b := 142) (as := [.int (Int32.ofInt x3), .int (Int32.ofInt x1)]) (r := []) c105_33 qo105 qK12_474 qo142 rfl rfl rfl (ok_lit rfl rfl rfl) (Nat.le_of_ble_eq_true rfl) (s142 (d := d + 0) hx3 hx1 w.oc) ?_
    intro v2 M3 q4 w
    by_cases e5 : v2 = 0
    · have w := w.pos e5
      refine mE_if_eq_T (t := 41) c105_36 rfl q4 e5 ?_
      obtain ⟨g6, w⟩ := w.ogd
      refine mE_iinc (ls2 := [some (.ref 142), some (.int (Int32.ofInt x1)), some (.int y2), some (.int (Int32.ofInt (x3 + 1)))]) c105_41 rfl (Nat.le_of_ble_eq_true rfl) rfl ?_
      refine mE_goto (t := 25) c105_44 rfl ?_
      exact w.osome g6 _
    · have w := w.neg e5
      refine mE_if_eq_F (t := 41) c105_36 rfl q4 e5 ?_
      have w := w.oinr
      refine mE_iload_n c105_39 rfl ?_
      exact mE_iret c105_40 qr105 hx3 w.osome
  · have w := w.neg e1
    refine mE_icmp_ge_T (t := 47) c105_27 rfl hx3 hx1 e1 ?_
    have w := w.oinr
    refine mE_iconst c105_47 ?_
    exact mE_iret c105_48 qr105 (r4_n rfl) w.osome
theorem t105_25 {X : Nat × Nat × qC} {d : Nat} {x1 : Int} {x3 : Int} {M : Mm} {y2 : Int32} {R : Int × Mm → Prop} (hx1 : R4 x1) (hx3 : R4 x3) (w : Wp (f105_25 x1 x3 M) R) : mE X (d + 7) 105 1 25 [some (.ref 142), some (.int (Int32.ofInt x1)), some (.int y2), some (.int (Int32.ofInt x3))] [] M (fun v M2 => R (v, M2)) :=
  Wp.olp (f := fun s : Int × Mm => lb105_25 x1 s.1 s.2) (s := (x3, M)) (E := E105_25 X d x1 R) w (fun s w hx3 _ => tb105_25 hx1 hx3 w) hx3 _
noncomputable def f105 (x1 : Int) (x2 : Int) (M : Mm) : Option (Int × Mm) :=
  gd (R4 ((M 142 7) - 1)) (
  (f143 x1 0 ((M 142 7) - 1) M).bind fun v3 =>
  if v3 = 0 then
  (some ((-1), M))
  else
  (if x2 = 3 then
  (f105_25 x1 0 M)
  else
  (if x2 = 0 then
  (gd (0 ≤ x1 ∧ x1 < 400) (
  some ((M 185 (x1).toNat), M)))
  else
  (if x2 = 1 then
  (gd (0 ≤ x1 ∧ x1 < 400) (
  some ((M 186 (x1).toNat), M)))
  else
  (if x2 = 2 then
  (gd (0 ≤ x1 ∧ x1 < 400) (
  some ((M 187 (x1).toNat), M)))
  else
  (some ((-1), M)))))))
theorem t105 {X : Nat × Nat × qC} {d : Nat} {x1 : Int} {x2 : Int} {M : Mm}  {R : Int × Mm → Prop} (hx1 : R4 x1) (hx2 : R4 x2) (w : Wp (f105 x1 x2 M) R) : mE X (d + 7) 105 1 0 [some (.ref 142), some (.int (Int32.ofInt x1)), some (.int (Int32.ofInt x2)), none] [] M (fun v M2 => R (v, M2)) := by
  refine mE_iload_n c105_0 rfl ?_
  refine mE_i2l c105_1 hx1 ?_
  refine mE_lconst (x := 0) c105_2 rfl ?_
  refine mE_aload_n c105_3 rfl ?_
  refine mE_getI c105_4 qo105 qF12_461 (ok_lit rfl rfl rfl) rfl ?_
  intro u1
  refine mE_iconst c105_7 ?_
  obtain ⟨g2, w⟩ := w.ogd
  refine mE_isub c105_8 ?_
  refine mE_i2l c105_9 g2 ?_
  refine mE_static1 (as := [.long (Int64.ofInt x1), .long (Int64.ofInt 0), .long (Int64.ofInt ((M 142 7) - 1))]) (r := []) c105_10 qo105 (by decide) qK12_190 rfl rfl rfl (Nat.le_of_ble_eq_true rfl) (s143 (d := d + 6) (R4.to8 hx1) (r8_n rfl) (R4.to8 g2) w.obind) ?_
  rintro v3 _ q5 ⟨rfl, w⟩
  by_cases e6 : v3 = 0
  · have w := w.pos e6
    refine mE_if_ne_F (t := 18) c105_13 rfl q5 e6 ?_
    refine mE_iconst c105_16 ?_
    exact mE_iret c105_17 qr105 (r4_n rfl) w.osome
  · have w := w.neg e6
    refine mE_if_ne_T (t := 18) c105_13 rfl q5 e6 ?_
    refine mE_iload_n c105_18 rfl ?_
    refine mE_iconst c105_19 ?_
    by_cases e7 : x2 = 3
    · have w := w.pos e7
      refine mE_icmp_ne_F (t := 49) c105_20 rfl hx2 (r4_n rfl) e7 ?_
      refine mE_iconst c105_23 ?_
      refine mE_istore_n (ls2 := [some (.ref 142), some (.int (Int32.ofInt x1)), some (.int (Int32.ofInt x2)), some (.int (Int32.ofInt 0))]) c105_24 (Nat.le_of_ble_eq_true rfl) rfl ?_
      exact t105_25 hx1 (r4_n rfl) w
    · have w := w.neg e7
      refine mE_icmp_ne_T (t := 49) c105_20 rfl hx2 (r4_n rfl) e7 ?_
      refine mE_iload_n c105_49 rfl ?_
      by_cases e8 : x2 = 0
      · have w := w.pos e8
        refine mE_if_ne_F (t := 62) c105_50 rfl hx2 e8 ?_
        refine mE_aload_n c105_53 rfl ?_
        refine mE_getA c105_54 qo105 qF12_140 (ok_lit rfl rfl rfl) rfl ⟨by decide, by decide⟩ ?_
        refine mE_iload_n c105_57 rfl ?_
        obtain ⟨g9, w⟩ := w.ogd
        refine mE_iaload c105_58 (ok_lit rfl rfl rfl) hx1 g9 ?_
        intro u10
        refine mE_goto (t := 91) c105_59 rfl ?_
        exact mE_iret c105_91 qr105 u10 w.osome
      · have w := w.neg e8
        refine mE_if_ne_T (t := 62) c105_50 rfl hx2 e8 ?_
        refine mE_iload_n c105_62 rfl ?_
        refine mE_iconst c105_63 ?_
        by_cases e9 : x2 = 1
        · have w := w.pos e9
          refine mE_icmp_ne_F (t := 76) c105_64 rfl hx2 (r4_n rfl) e9 ?_
          refine mE_aload_n c105_67 rfl ?_
          refine mE_getA c105_68 qo105 qF12_143 (ok_lit rfl rfl rfl) rfl ⟨by decide, by decide⟩ ?_
          refine mE_iload_n c105_71 rfl ?_
          obtain ⟨g10, w⟩ := w.ogd
          refine mE_iaload c105_72 (ok_lit rfl rfl rfl) hx1 g10 ?_
          intro u11
          refine mE_goto (t := 91) c105_73 rfl ?_
          exact mE_iret c105_91 qr105 u11 w.osome
        · have w := w.neg e9
          refine mE_icmp_ne_T (t := 76) c105_64 rfl hx2 (r4_n rfl) e9 ?_
          refine mE_iload_n c105_76 rfl ?_
          refine mE_iconst c105_77 ?_
          by_cases e10 : x2 = 2
          · have w := w.pos e10
            refine mE_icmp_ne_F (t := 90) c105_78 rfl hx2 (r4_n rfl) e10 ?_
            refine mE_aload_n c105_81 rfl ?_
            refine mE_getA c105_82 qo105 qF12_146 (ok_lit rfl rfl rfl) rfl ⟨by decide, by decide⟩ ?_
            refine mE_iload_n c105_85 rfl ?_
            obtain ⟨g11, w⟩ := w.ogd
            refine mE_iaload c105_86 (ok_lit rfl rfl rfl) hx1 g11 ?_
            intro u12
            refine mE_goto (t := 91) c105_87 rfl ?_
            exact mE_iret c105_91 qr105 u12 w.osome
          · have w := w.neg e10
            refine mE_icmp_ne_T (t := 90) c105_78 rfl hx2 (r4_n rfl) e10 ?_
            refine mE_iconst c105_90 ?_
            exact mE_iret c105_91 qr105 (r4_n rfl) w.osome
theorem s105 {X : Nat × Nat × qC} {d : Nat} {x1 : Int} {x2 : Int} {M : Mm} {R : Int × Mm → Prop} (hx1 : R4 x1) (hx2 : R4 x2) (w : Wp (f105 x1 x2 M) R) : mC X (d + 8) 105 1 [.ref 142, .int (Int32.ofInt x1), .int (Int32.ofInt x2)] M (fun v M2 => R (v, M2)) :=
  mC_of (qent_mk qx105 rfl rfl rfl) (t105 hx1 hx2 w)
/-! SaggingNetModel.push -/
def E154_3 (X : Nat × Nat × qC) (d : Nat) (x1 : Int) (R : Mm → Prop) : Int × Mm → Prop := fun s => R4 s.1 → mE X (d + 0) 154 0 3 [some (.ref 142), some (.int (Int32.ofInt x1)), some (.int (Int32.ofInt s.1))] [] s.2 (fun v M2 => R M2)
noncomputable def lb154_3 (x1 : Int) (x2 : Int) (M : Mm) : Option ((Int × Mm) ⊕ (Mm)) :=
  if x2 < 0 then
  (oinr (some M))
  else
  (gd (0 ≤ (M 142 1) ∧ (M 142 1) < 200) (
  mlet (ms M 143 ((M 142 1)).toNat (bByte (bByte (bShr x1 x2)))) fun M4 =>
  gd (R4 ((M4 142 1) + 1)) (
  mlet (ms M4 142 1 ((M4 142 1) + 1)) fun M8 =>
  gd (R4 (x2 + (-8))) (
  some (.inl ((x2 + (-8)), M8))))))
noncomputable def f154_3 (x1 : Int) (x2 : Int) (M : Mm) : Option (Mm) := lp (fun s : Int × Mm => lb154_3 x1 s.1 s.2) (x2, M)
theorem tb154_3 {X : Nat × Nat × qC} {d : Nat} {x1 : Int} {x2 : Int} {M : Mm}  {R : Mm → Prop} (hx1 : R4 x1) (hx2 : R4 x2) (w : Wp (lb154_3 x1 x2 M) (Sum.elim (E154_3 X d x1 R) R)) : mE X (d + 0) 154 0 3 [some (.ref 142), some (.int (Int32.ofInt x1)), some (.int (Int32.ofInt x2))] [] M (fun v M2 => R M2) := by
  refine mE_iload_n c154_3 rfl ?_
  by_cases e1 : x2 < 0
  · have w := w.pos e1
    refine mE_if_lt_T (t := 36) c154_4 rfl hx2 e1 ?_
    have w := w.oinr
    exact mE_vret c154_36 qr154 w.osome
  · have w := w.neg e1
    refine mE_if_lt_F (t := 36) c154_4 rfl hx2 e1 ?_
    refine mE_aload_n c154_7 rfl ?_
    refine mE_getA c154_8 qo154 qF12_7 (ok_lit rfl rfl rfl) rfl ⟨by decide, by decide⟩ ?_
    refine mE_aload_n c154_11 rfl ?_
    refine mE_getI c154_12 qo154 qF12_283 (ok_lit rfl rfl rfl) rfl ?_
    intro u2
    refine mE_iload_n c154_15 rfl ?_
    refine mE_iload_n c154_16 rfl ?_
    refine mE_ishr c154_17 ?_
    refine mE_i2b c154_18 ?_
    obtain ⟨g3, w⟩ := w.ogd
    obtain ⟨M4, m5, w⟩ := w.mlet
    refine mE_bastore c154_19 (ok_lit rfl rfl rfl) u2 g3 ?_
    refine mE_M m5 ?_
    refine mE_aload_n c154_20 rfl ?_
    refine mE_dup c154_21 rfl ?_
    refine mE_getI c154_22 qo154 qF12_283 (ok_lit rfl rfl rfl) rfl ?_
    intro u6
    refine mE_iconst c154_25 ?_
    obtain ⟨g7, w⟩ := w.ogd
    refine mE_iadd c154_26 ?_
    obtain ⟨M8, m9, w⟩ := w.mlet
    refine mE_putI c154_27 qo154 qF12_283 qz12_1 (ok_lit rfl rfl rfl) (Nat.le_of_ble_eq_true rfl) rfl g7 (by rw [qy12_1]; rfl) ?_
    refine mE_M m9 ?_
    obtain ⟨g10, w⟩ := w.ogd
    refine mE_iinc (ls2 := [some (.ref 142), some (.int (Int32.ofInt x1)), some (.int (Int32.ofInt (x2 + (-8))))]) c154_30 rfl (Nat.le_of_ble_eq_true rfl) rfl ?_
    refine mE_goto (t := 3) c154_33 rfl ?_
    exact w.osome g10
theorem t154_3 {X : Nat × Nat × qC} {d : Nat} {x1 : Int} {x2 : Int} {M : Mm}  {R : Mm → Prop} (hx1 : R4 x1) (hx2 : R4 x2) (w : Wp (f154_3 x1 x2 M) R) : mE X (d + 0) 154 0 3 [some (.ref 142), some (.int (Int32.ofInt x1)), some (.int (Int32.ofInt x2))] [] M (fun v M2 => R M2) :=
  Wp.olp (f := fun s : Int × Mm => lb154_3 x1 s.1 s.2) (s := (x2, M)) (E := E154_3 X d x1 R) w (fun s w hx2 => tb154_3 hx1 hx2 w) hx2
noncomputable def f154 (x1 : Int) (M : Mm) : Option (Mm) :=
  f154_3 x1 24 M
theorem t154 {X : Nat × Nat × qC} {d : Nat} {x1 : Int} {M : Mm}  {R : Mm → Prop} (hx1 : R4 x1) (w : Wp (f154 x1 M) R) : mE X (d + 0) 154 0 0 [some (.ref 142), some (.int (Int32.ofInt x1)), none] [] M (fun v M2 => R M2) := by
  refine mE_bipush (x := 24) c154_0 rfl ?_
  refine mE_istore_n (ls2 := [some (.ref 142), some (.int (Int32.ofInt x1)), some (.int (Int32.ofInt 24))]) c154_2 (Nat.le_of_ble_eq_true rfl) rfl ?_
  exact t154_3 hx1 (r4_n rfl) w
theorem s154 {X : Nat × Nat × qC} {d : Nat} {x1 : Int} {M : Mm} {R : Mm → Prop} (hx1 : R4 x1) (w : Wp (f154 x1 M) R) : mC X (d + 1) 154 0 [.ref 142, .int (Int32.ofInt x1)] M (fun v M2 => R M2) :=
  mC_of (qent_mk qx154 rfl rfl rfl) (t154 hx1 w)
/-! SaggingNetModel.feed -/
noncomputable def f107 (x1 : Int) (x2 : Int) (x3 : Int) (x4 : Int) (x5 : Int) (M : Mm) : Option (Int × Mm) :=
  gd (R4 ((M 142 1) + 20)) (
  if 200 < ((M 142 1) + 20) then
  (some ((-1), M))
  else
  ((f154 x1 M).bind fun M5 =>
  (f154 x2 M5).bind fun M8 =>
  (f154 x3 M8).bind fun M11 =>
  (f154 x4 M11).bind fun M14 =>
  (f154 x5 M14).bind fun M17 =>
  some ((M17 142 1), M17)))
theorem t107 {X : Nat × Nat × qC} {d : Nat} {x1 : Int} {x2 : Int} {x3 : Int} {x4 : Int} {x5 : Int} {M : Mm}  {R : Int × Mm → Prop} (hx1 : R4 x1) (hx2 : R4 x2) (hx3 : R4 x3) (hx4 : R4 x4) (hx5 : R4 x5) (w : Wp (f107 x1 x2 x3 x4 x5 M) R) : mE X (d + 1) 107 1 0 [some (.ref 142), some (.int (Int32.ofInt x1)), some (.int (Int32.ofInt x2)), some (.int (Int32.ofInt x3)), some (.int (Int32.ofInt x4)), some (.int (Int32.ofInt x5))] [] M (fun v M2 => R (v, M2)) := by
  refine mE_aload_n c107_0 rfl ?_
  refine mE_getI c107_1 qo107 qF12_283 (ok_lit rfl rfl rfl) rfl ?_
  intro u1
  refine mE_bipush (x := 20) c107_4 rfl ?_
  obtain ⟨g2, w⟩ := w.ogd
  refine mE_iadd c107_6 ?_
  refine mE_sipush (x := 200) c107_7 rfl ?_
  by_cases e3 : 200 < ((M 142 1) + 20)
  · have w := w.pos e3
    refine mE_icmp_le_F (t := 15) c107_10 rfl g2 (r4_n rfl) e3 ?_
    refine mE_iconst c107_13 ?_
    exact mE_iret c107_14 qr107 (r4_n rfl) w.osome
  · have w := w.neg e3
    refine mE_icmp_le_T (t := 15) c107_10 rfl g2 (r4_n rfl) e3 ?_
    refine mE_aload_n c107_15 rfl ?_
    refine mE_iload_n c107_16 rfl ?_
    refine mE_virtual0 (b := 142) (as := [.int (Int32.ofInt x1)]) (r := []) c107_17 qo107 qK12_286 qo154 rfl rfl rfl (ok_lit rfl rfl rfl) (Nat.le_of_ble_eq_true rfl) (s154 (d := d + 0) hx1 w.obind) ?_
    intro _ M5 w
    refine mE_aload_n c107_20 rfl ?_
    refine mE_iload_n c107_21 rfl ?_
    refine mE_virtual0 (b := 142) (as := [.int (Int32.ofInt x2)]) (r := []) c107_22 qo107 qK12_286 qo154 rfl rfl rfl (ok_lit rfl rfl rfl) (Nat.le_of_ble_eq_true rfl) (s154 (d := d + 0) hx2 w.obind) ?_
    intro _ M8 w
    refine mE_aload_n c107_25 rfl ?_
    refine mE_iload_n c107_26 rfl ?_
    refine mE_virtual0 (b := 142) (as := [.int (Int32.ofInt x3)]) (r := []) c107_27 qo107 qK12_286 qo154 rfl rfl rfl (ok_lit rfl rfl rfl) (Nat.le_of_ble_eq_true rfl) (s154 (d := d + 0) hx3 w.obind) ?_
    intro _ M11 w
    refine mE_aload_n c107_30 rfl ?_
    refine mE_iload c107_31 rfl ?_
    refine mE_virtual0 (b := 142) (as := [.int (Int32.ofInt x4)]) (r := []) c107_33 qo107 qK12_286 qo154 rfl rfl rfl (ok_lit rfl rfl rfl) (Nat.le_of_ble_eq_true rfl) (s154 (d := d + 0) hx4 w.obind) ?_
    intro _ M14 w
    refine mE_aload_n c107_36 rfl ?_
    refine mE_iload c107_37 rfl ?_
    refine mE_virtual0 (b := 142) (as := [.int (Int32.ofInt x5)]) (r := []) c107_39 qo107 qK12_286 qo154 rfl rfl rfl (ok_lit rfl rfl rfl) (Nat.le_of_ble_eq_true rfl) (s154 (d := d + 0) hx5 w.obind) ?_
    intro _ M17 w
    refine mE_aload_n c107_42 rfl ?_
    refine mE_getI c107_43 qo107 qF12_283 (ok_lit rfl rfl rfl) rfl ?_
    intro u19
    exact mE_iret c107_46 qr107 u19 w.osome
theorem s107 {X : Nat × Nat × qC} {d : Nat} {x1 : Int} {x2 : Int} {x3 : Int} {x4 : Int} {x5 : Int} {M : Mm} {R : Int × Mm → Prop} (hx1 : R4 x1) (hx2 : R4 x2) (hx3 : R4 x3) (hx4 : R4 x4) (hx5 : R4 x5) (w : Wp (f107 x1 x2 x3 x4 x5 M) R) : mC X (d + 2) 107 1 [.ref 142, .int (Int32.ofInt x1), .int (Int32.ofInt x2), .int (Int32.ofInt x3), .int (Int32.ofInt x4), .int (Int32.ofInt x5)] M (fun v M2 => R (v, M2)) :=
  mC_of (qent_mk qx107 rfl rfl rfl) (t107 hx1 hx2 hx3 hx4 hx5 w)
/-! SaggingNetModel.firstBorne -/
def E108_2 (X : Nat × Nat × qC) (d : Nat)  (M : Mm) (R : Int → Prop) : Int → Prop := fun s => R4 s → mE X (d + 0) 108 1 2 [some (.ref 142), some (.int (Int32.ofInt s))] [] M (fun v M2 => M = M2 ∧ R v)
noncomputable def lb108_2 (x1 : Int) (M : Mm) : Option ((Int) ⊕ (Int)) :=
  if x1 < (M 142 2) then
  (gd (0 ≤ x1 ∧ x1 < 500) (
  if (M 182 (x1).toNat) = 0 then
  (gd (R4 (x1 + 1)) (
  some (.inl ((x1 + 1)))))
  else
  (oinr (some x1))))
  else
  (oinr (some (-1)))
noncomputable def f108_2 (x1 : Int) (M : Mm) : Option (Int) := lp (fun s : Int => lb108_2  s M) x1
theorem tb108_2 {X : Nat × Nat × qC} {d : Nat} {x1 : Int} {M : Mm}  {R : Int → Prop} (hx1 : R4 x1) (w : Wp (lb108_2 x1 M) (Sum.elim (E108_2 X d M R) R)) : mE X (d + 0) 108 1 2 [some (.ref 142), some (.int (Int32.ofInt x1))] [] M (fun v M2 => M = M2 ∧ R v) := by
  refine mE_iload_n c108_2 rfl ?_
  refine mE_aload_n c108_3 rfl ?_
  refine mE_getI c108_4 qo108 qF12_202 (ok_lit rfl rfl rfl) rfl ?_
  intro u1
  by_cases e2 : x1 < (M 142 2)
  · have w := w.pos e2
    refine mE_icmp_ge_F (t := 27) c108_7 rfl hx1 u1 e2 ?_
    refine mE_aload_n c108_10 rfl ?_
    refine mE_getA c108_11 qo108 qF12_131 (ok_lit rfl rfl rfl) rfl ⟨by decide, by decide⟩ ?_
    refine mE_iload_n c108_14 rfl ?_
    obtain ⟨g3, w⟩ := w.ogd
    refine mE_iaload c108_15 (ok_lit rfl rfl rfl) hx1 g3 ?_
    intro u4
    by_cases e5 : (M 182 (x1).toNat) = 0
    · have w := w.pos e5
      refine mE_if_eq_T (t := 21) c108_16 rfl u4 e5 ?_
      obtain ⟨g6, w⟩ := w.ogd
      refine mE_iinc (ls2 := [some (.ref 142), some (.int (Int32.ofInt (x1 + 1)))]) c108_21 rfl (Nat.le_of_ble_eq_true rfl) rfl ?_
      refine mE_goto (t := 2) c108_24 rfl ?_
      exact w.osome g6
    · have w := w.neg e5
      refine mE_if_eq_F (t := 21) c108_16 rfl u4 e5 ?_
      have w := w.oinr
      refine mE_iload_n c108_19 rfl ?_
      exact mE_iret c108_20 qr108 hx1 ⟨rfl, w.osome⟩
  · have w := w.neg e2
    refine mE_icmp_ge_T (t := 27) c108_7 rfl hx1 u1 e2 ?_
    have w := w.oinr
    refine mE_iconst c108_27 ?_
    exact mE_iret c108_28 qr108 (r4_n rfl) ⟨rfl, w.osome⟩
theorem t108_2 {X : Nat × Nat × qC} {d : Nat} {x1 : Int} {M : Mm}  {R : Int → Prop} (hx1 : R4 x1) (w : Wp (f108_2 x1 M) R) : mE X (d + 0) 108 1 2 [some (.ref 142), some (.int (Int32.ofInt x1))] [] M (fun v M2 => M = M2 ∧ R v) :=
  Wp.olp (f := fun s : Int => lb108_2  s M) (s := x1) (E := E108_2 X d  M R) w (fun s w hx1 => tb108_2 hx1 w) hx1
noncomputable def f108  (M : Mm) : Option (Int) :=
  f108_2 0 M
theorem t108 {X : Nat × Nat × qC} {d : Nat}  {M : Mm}  {R : Int → Prop}  (w : Wp (f108  M) R) : mE X (d + 0) 108 1 0 [some (.ref 142), none] [] M (fun v M2 => M = M2 ∧ R v) := by
  refine mE_iconst c108_0 ?_
  refine mE_istore_n (ls2 := [some (.ref 142), some (.int (Int32.ofInt 0))]) c108_1 (Nat.le_of_ble_eq_true rfl) rfl ?_
  exact t108_2 (r4_n rfl) w
theorem s108 {X : Nat × Nat × qC} {d : Nat}  {M : Mm} {R : Int → Prop}  (w : Wp (f108  M) R) : mC X (d + 1) 108 1 [.ref 142] M (fun v M2 => M = M2 ∧ R v) :=
  mC_of (qent_mk qx108 rfl rfl rfl) (t108  w)
/-! SaggingNetModel.fits -/
def E109_153 (X : Nat × Nat × qC) (d : Nat) (x1 : Int) (x2 : Int) (R : Int × Mm → Prop) : Int × Mm → Prop := fun s => R4 s.1 → mE X (d + 1) 109 1 153 [some (.ref 142), some (.int (Int32.ofInt x1)), some (.int (Int32.ofInt x2)), some (.int (Int32.ofInt s.1))] [] s.2 (fun v M2 => R (v, M2))
def E109_146 (X : Nat × Nat × qC) (d : Nat) (x1 : Int) (R : Int × Mm → Prop) : Int × Mm → Prop := fun s => R4 s.1 → ∀ (o3 : Option Value), mE X (d + 1) 109 1 146 [some (.ref 142), some (.int (Int32.ofInt x1)), some (.int (Int32.ofInt s.1)), o3] [] s.2 (fun v M2 => R (v, M2))
def E109_205 (X : Nat × Nat × qC) (d : Nat)  (M : Mm) (R : Int × Mm → Prop) : Int → Prop := fun s => R4 s → ∀ (o2 : Option Value), ∀ (o3 : Option Value), mE X (d + 1) 109 1 205 [some (.ref 142), some (.int (Int32.ofInt s)), o2, o3] [] M (fun v M2 => R (v, M2))
def E109_139 (X : Nat × Nat × qC) (d : Nat)  (R : Int × Mm → Prop) : Int × Mm → Prop := fun s => R4 s.1 → ∀ (o2 : Option Value), ∀ (o3 : Option Value), mE X (d + 1) 109 1 139 [some (.ref 142), some (.int (Int32.ofInt s.1)), o2, o3] [] s.2 (fun v M2 => R (v, M2))
def E109_74 (X : Nat × Nat × qC) (d : Nat)  (R : Int × Mm → Prop) : Int × Mm → Prop := fun s => R4 s.1 → mE X (d + 1) 109 1 74 [some (.ref 142), some (.int (Int32.ofInt s.1)), none, none] [] s.2 (fun v M2 => R (v, M2))
def E109_36 (X : Nat × Nat × qC) (d : Nat)  (R : Int × Mm → Prop) : Int × Mm → Prop := fun s => R4 s.1 → mE X (d + 1) 109 1 36 [some (.ref 142), some (.int (Int32.ofInt s.1)), none, none] [] s.2 (fun v M2 => R (v, M2))
def E109_2 (X : Nat × Nat × qC) (d : Nat)  (R : Int × Mm → Prop) : Int × Mm → Prop := fun s => R4 s.1 → mE X (d + 1) 109 1 2 [some (.ref 142), some (.int (Int32.ofInt s.1)), none, none] [] s.2 (fun v M2 => R (v, M2))
noncomputable def lb109_153 (x1 : Int) (x2 : Int) (x3 : Int) (M : Mm) : Option ((Int × Mm) ⊕ ((Int × Mm) ⊕ ((Int × Mm) ⊕ (Int × Mm)))) :=
  if x3 < 5 then
  (gd (R4 (5 * x2)) (
  gd (R4 ((5 * x2) + x1)) (
  gd (0 ≤ ((5 * x2) + x1) ∧ ((5 * x2) + x1) < 25) (
  gd (R4 (5 * x1)) (
  gd (R4 ((5 * x1) + x3)) (
  gd (0 ≤ ((5 * x1) + x3) ∧ ((5 * x1) + x3) < 25) (
  gd (R4 ((M 197 (((5 * x2) + x1)).toNat) + (M 197 (((5 * x1) + x3)).toNat))) (
  (f87 x2 x3 ((M 197 (((5 * x2) + x1)).toNat) + (M 197 (((5 * x1) + x3)).toNat)) M).bind fun M12 =>
  gd (R4 (x3 + 1)) (
  some (.inl ((x3 + 1), M12)))))))))))
  else
  (oinr (gd (R4 (x2 + 1)) (
  some (.inl ((x2 + 1), M)))))
noncomputable def f109_153 (x1 : Int) (x2 : Int) (x3 : Int) (M : Mm) : Option ((Int × Mm) ⊕ ((Int × Mm) ⊕ (Int × Mm))) := lp (fun s : Int × Mm => lb109_153 x1 x2 s.1 s.2) (x3, M)
theorem tb109_153 {X : Nat × Nat × qC} {d : Nat} {x1 : Int} {x2 : Int} {x3 : Int} {M : Mm}  {R : Int × Mm → Prop} (hx1 : R4 x1) (hx2 : R4 x2) (hx3 : R4 x3) (w : Wp (lb109_153 x1 x2 x3 M) (Sum.elim (E109_153 X d x1 x2 R) (Sum.elim (E109_146 X d x1 R) (Sum.elim (E109_139 X d  R) R)))) : mE X (d + 1) 109 1 153 [some (.ref 142), some (.int (Int32.ofInt x1)), some (.int (Int32.ofInt x2)), some (.int (Int32.ofInt x3))] [] M (fun v M2 => R (v, M2)) := by
  refine mE_iload_n c109_153 rfl ?_
  refine mE_iconst c109_154 ?_
  by_cases e1 : x3 < 5
  · have w := w.pos e1
    refine mE_icmp_ge_F (t := 191) c109_155 rfl hx3 (r4_n rfl) e1 ?_
    refine mE_aload_n c109_158 rfl ?_
    refine mE_iload_n c109_159 rfl ?_
    refine mE_iload_n c109_160 rfl ?_
    refine mE_aload_n c109_161 rfl ?_
    refine mE_getA c109_162 qo109 qF12_176 (ok_lit rfl rfl rfl) rfl ⟨by decide, by decide⟩ ?_
    refine mE_iconst c109_165 ?_
    refine mE_iload_n c109_166 rfl ?_
    obtain ⟨g2, w⟩ := w.ogd
    refine mE_imul c109_167 ?_
    refine mE_iload_n c109_168 rfl ?_
    obtain ⟨g3, w⟩ := w.ogd
    refine mE_iadd c109_169 ?_
    obtain ⟨g4, w⟩ := w.ogd
    refine mE_iaload c109_170 (ok_lit rfl rfl rfl) g3 g4 ?_
    intro u5
    refine mE_aload_n c109_171 rfl ?_
    refine mE_getA c109_172 qo109 qF12_176 (ok_lit rfl rfl rfl) rfl ⟨by decide, by decide⟩ ?_
    refine mE_iconst c109_175 ?_
    refine mE_iload_n c109_176 rfl ?_
    obtain ⟨g6, w⟩ := w.ogd
    refine mE_imul c109_177 ?_
    refine mE_iload_n c109_178 rfl ?_
    obtain ⟨g7, w⟩ := w.ogd
    refine mE_iadd c109_179 ?_
    obtain ⟨g8, w⟩ := w.ogd
    refine mE_iaload c109_180 (ok_lit rfl rfl rfl) g7 g8 ?_
    intro u9
    obtain ⟨g10, w⟩ := w.ogd
    refine mE_iadd c109_181 ?_
    refine mE_virtual0 (b := 142) (as := [.int (Int32.ofInt x2), .int (Int32.ofInt x3), .int (Int32.ofInt ((M 197 (((5 * x2) + x1)).toNat) + (M 197 (((5 * x1) + x3)).toNat)))]) (r := []) c109_182 qo109 qK12_517 qo87 rfl rfl rfl (ok_lit rfl rfl rfl) (Nat.le_of_ble_eq_true rfl) (s87 (d := d + 0) hx2 hx3 g10 w.obind) ?_
    intro _ M12 w
    obtain ⟨g14, w⟩ := w.ogd
    refine mE_iinc (ls2 := [some (.ref 142), some (.int (Int32.ofInt x1)), some (.int (Int32.ofInt x2)), some (.int (Int32.ofInt (x3 + 1)))]) c109_185 rfl (Nat.le_of_ble_eq_true rfl) rfl ?_
    refine mE_goto (t := 153) c109_188 rfl ?_
    exact w.osome g14
  · have w := w.neg e1
    refine mE_icmp_ge_T (t := 191) c109_155 rfl hx3 (r4_n rfl) e1 ?_
    have w := w.oinr
    obtain ⟨g2, w⟩ := w.ogd
    refine mE_iinc (ls2 := [some (.ref 142), some (.int (Int32.ofInt x1)), some (.int (Int32.ofInt (x2 + 1))), some (.int (Int32.ofInt x3))]) c109_191 rfl (Nat.le_of_ble_eq_true rfl) rfl ?_
    refine mE_goto (t := 146) c109_194 rfl ?_
    exact w.osome g2 _
theorem t109_153 {X : Nat × Nat × qC} {d : Nat} {x1 : Int} {x2 : Int} {x3 : Int} {M : Mm}  {R : Int × Mm → Prop} (hx1 : R4 x1) (hx2 : R4 x2) (hx3 : R4 x3) (w : Wp (f109_153 x1 x2 x3 M) (Sum.elim (E109_146 X d x1 R) (Sum.elim (E109_139 X d  R) R))) : mE X (d + 1) 109 1 153 [some (.ref 142), some (.int (Int32.ofInt x1)), some (.int (Int32.ofInt x2)), some (.int (Int32.ofInt x3))] [] M (fun v M2 => R (v, M2)) :=
  Wp.olp (f := fun s : Int × Mm => lb109_153 x1 x2 s.1 s.2) (s := (x3, M)) (E := E109_153 X d x1 x2 R) w (fun s w hx3 => tb109_153 hx1 hx2 hx3 w) hx3
noncomputable def lb109_146 (x1 : Int) (x2 : Int) (M : Mm) : Option ((Int × Mm) ⊕ ((Int × Mm) ⊕ (Int × Mm))) :=
  if x2 < 5 then
  (f109_153 x1 x2 0 M)
  else
  (oinr (gd (R4 (x1 + 1)) (
  some (.inl ((x1 + 1), M)))))
noncomputable def f109_146 (x1 : Int) (x2 : Int) (M : Mm) : Option ((Int × Mm) ⊕ (Int × Mm)) := lp (fun s : Int × Mm => lb109_146 x1 s.1 s.2) (x2, M)
theorem tb109_146 {X : Nat × Nat × qC} {d : Nat} {x1 : Int} {x2 : Int} {M : Mm} {o3 : Option Value} {R : Int × Mm → Prop} (hx1 : R4 x1) (hx2 : R4 x2) (w : Wp (lb109_146 x1 x2 M) (Sum.elim (E109_146 X d x1 R) (Sum.elim (E109_139 X d  R) R))) : mE X (d + 1) 109 1 146 [some (.ref 142), some (.int (Int32.ofInt x1)), some (.int (Int32.ofInt x2)), o3] [] M (fun v M2 => R (v, M2)) := by
  refine mE_iload_n c109_146 rfl ?_
  refine mE_iconst c109_147 ?_
  by_cases e1 : x2 < 5
  · have w := w.pos e1
    refine mE_icmp_ge_F (t := 197) c109_148 rfl hx2 (r4_n rfl) e1 ?_
    refine mE_iconst c109_151 ?_
    refine mE_istore_n (ls2 := [some (.ref 142), some (.int (Int32.ofInt x1)), some (.int (Int32.ofInt x2)), some (.int (Int32.ofInt 0))]) c109_152 (Nat.le_of_ble_eq_true rfl) rfl ?_
    exact t109_153 hx1 hx2 (r4_n rfl) w
  · have w := w.neg e1
    refine mE_icmp_ge_T (t := 197) c109_148 rfl hx2 (r4_n rfl) e1 ?_
    have w := w.oinr
    obtain ⟨g2, w⟩ := w.ogd
    refine mE_iinc (ls2 := [some (.ref 142), some (.int (Int32.ofInt (x1 + 1))), some (.int (Int32.ofInt x2)), o3]) c109_197 rfl (Nat.le_of_ble_eq_true rfl) rfl ?_
    refine mE_goto (t := 139) c109_200 rfl ?_
    exact w.osome g2 _ _
theorem t109_146 {X : Nat × Nat × qC} {d : Nat} {x1 : Int} {x2 : Int} {M : Mm} {o3 : Option Value} {R : Int × Mm → Prop} (hx1 : R4 x1) (hx2 : R4 x2) (w : Wp (f109_146 x1 x2 M) (Sum.elim (E109_139 X d  R) R)) : mE X (d + 1) 109 1 146 [some (.ref 142), some (.int (Int32.ofInt x1)), some (.int (Int32.ofInt x2)), o3] [] M (fun v M2 => R (v, M2)) :=
  Wp.olp (f := fun s : Int × Mm => lb109_146 x1 s.1 s.2) (s := (x2, M)) (E := E109_146 X d x1 R) w (fun s w hx2 _ => tb109_146 hx1 hx2 w) hx2 _
noncomputable def lb109_205 (x1 : Int) (M : Mm) : Option ((Int) ⊕ (Int × Mm)) :=
  if x1 < 5 then
  (gd (R4 (6 * x1)) (
  gd (0 ≤ (6 * x1) ∧ (6 * x1) < 25) (
  if (M 197 ((6 * x1)).toNat) < 0 then
  (oinr (some (0, M)))
  else
  (gd (R4 (x1 + 1)) (
  some (.inl ((x1 + 1))))))))
  else
  (oinr (some (1, M)))
noncomputable def f109_205 (x1 : Int) (M : Mm) : Option (Int × Mm) := lp (fun s : Int => lb109_205  s M) x1
theorem tb109_205 {X : Nat × Nat × qC} {d : Nat} {x1 : Int} {M : Mm} {o2 : Option Value} {o3 : Option Value} {R : Int × Mm → Prop} (hx1 : R4 x1) (w : Wp (lb109_205 x1 M) (Sum.elim (E109_205 X d M R) R)) : mE X (d + 1) 109 1 205 [some (.ref 142), some (.int (Int32.ofInt x1)), o2, o3] [] M (fun v M2 => R (v, M2)) := by
  refine mE_iload_n c109_205 rfl ?_
  refine mE_iconst c109_206 ?_
  by_cases e1 : x1 < 5
  · have w := w.pos e1
    refine mE_icmp_ge_F (t := 230) c109_207 rfl hx1 (r4_n rfl) e1 ?_
    refine mE_aload_n c109_210 rfl ?_
    refine mE_getA c109_211 qo109 qF12_176 (ok_lit rfl rfl rfl) rfl ⟨by decide, by decide⟩ ?_
    refine mE_bipush (x := 6) c109_214 rfl ?_
    refine mE_iload_n c109_216 rfl ?_
    obtain ⟨g2, w⟩ := w.ogd
    refine mE_imul c109_217 ?_
    obtain ⟨g3, w⟩ := w.ogd
    refine mE_iaload c109_218 (ok_lit rfl rfl rfl) g2 g3 ?_
    intro u4
    by_cases e5 : (M 197 ((6 * x1)).toNat) < 0
    · have w := w.pos e5
      refine mE_if_ge_F (t := 224) c109_219 rfl u4 e5 ?_
      have w := w.oinr
      refine mE_iconst c109_222 ?_
      exact mE_zret c109_223 qr109 (Or.inl rfl) w.osome
    · have w := w.neg e5
      refine mE_if_ge_T (t := 224) c109_219 rfl u4 e5 ?_
      obtain ⟨g6, w⟩ := w.ogd
      refine mE_iinc (ls2 := [some (.ref 142), some (.int (Int32.ofInt (x1 + 1))), o2, o3]) c109_224 rfl (Nat.le_of_ble_eq_true rfl) rfl ?_
      refine mE_goto (t := 205) c109_227 rfl ?_
      exact w.osome g6 _ _
  · have w := w.neg e1
    refine mE_icmp_ge_T (t := 230) c109_207 rfl hx1 (r4_n rfl) e1 ?_
    have w := w.oinr
    refine mE_iconst c109_230 ?_
    exact mE_zret c109_231 qr109 (Or.inr rfl) w.osome
theorem t109_205 {X : Nat × Nat × qC} {d : Nat} {x1 : Int} {M : Mm} {o2 : Option Value} {o3 : Option Value} {R : Int × Mm → Prop} (hx1 : R4 x1) (w : Wp (f109_205 x1 M) R) : mE X (d + 1) 109 1 205 [some (.ref 142), some (.int (Int32.ofInt x1)), o2, o3] [] M (fun v M2 => R (v, M2)) :=
  Wp.olp (f := fun s : Int => lb109_205  s M) (s := x1) (E := E109_205 X d  M R) w (fun s w hx1 _ _ => tb109_205 hx1 w) hx1 _ _
noncomputable def lb109_139 (x1 : Int) (M : Mm) : Option ((Int × Mm) ⊕ (Int × Mm)) :=
  if x1 < 5 then
  (f109_146 x1 0 M)
  else
  (oinr (f109_205 0 M))
noncomputable def f109_139 (x1 : Int) (M : Mm) : Option (Int × Mm) := lp (fun s : Int × Mm => lb109_139  s.1 s.2) (x1, M)
theorem tb109_139 {X : Nat × Nat × qC} {d : Nat} {x1 : Int} {M : Mm} {o2 : Option Value} {o3 : Option Value} {R : Int × Mm → Prop} (hx1 : R4 x1) (w : Wp (lb109_139 x1 M) (Sum.elim (E109_139 X d  R) R)) : mE X (d + 1) 109 1 139 [some (.ref 142), some (.int (Int32.ofInt x1)), o2, o3] [] M (fun v M2 => R (v, M2)) := by
  refine mE_iload_n c109_139 rfl ?_
  refine mE_iconst c109_140 ?_
  by_cases e1 : x1 < 5
  · have w := w.pos e1
    refine mE_icmp_ge_F (t := 203) c109_141 rfl hx1 (r4_n rfl) e1 ?_
    refine mE_iconst c109_144 ?_
    refine mE_istore_n (ls2 := [some (.ref 142), some (.int (Int32.ofInt x1)), some (.int (Int32.ofInt 0)), o3]) c109_145 (Nat.le_of_ble_eq_true rfl) rfl ?_
    exact t109_146 hx1 (r4_n rfl) w
  · have w := w.neg e1
    refine mE_icmp_ge_T (t := 203) c109_141 rfl hx1 (r4_n rfl) e1 ?_
    have w := w.oinr
    refine mE_iconst c109_203 ?_
    refine mE_istore_n (ls2 := [some (.ref 142), some (.int (Int32.ofInt 0)), o2, o3]) c109_204 (Nat.le_of_ble_eq_true rfl) rfl ?_
    exact t109_205 (r4_n rfl) w
theorem t109_139 {X : Nat × Nat × qC} {d : Nat} {x1 : Int} {M : Mm} {o2 : Option Value} {o3 : Option Value} {R : Int × Mm → Prop} (hx1 : R4 x1) (w : Wp (f109_139 x1 M) R) : mE X (d + 1) 109 1 139 [some (.ref 142), some (.int (Int32.ofInt x1)), o2, o3] [] M (fun v M2 => R (v, M2)) :=
  Wp.olp (f := fun s : Int × Mm => lb109_139  s.1 s.2) (s := (x1, M)) (E := E109_139 X d  R) w (fun s w hx1 _ _ => tb109_139 hx1 w) hx1 _ _
noncomputable def lb109_74 (x1 : Int) (M : Mm) : Option ((Int × Mm) ⊕ (Int × Mm)) :=
  if x1 < (M 142 9) then
  (gd (0 ≤ x1 ∧ x1 < 100) (
  gd (0 ≤ (M 196 (x1).toNat) ∧ (M 196 (x1).toNat) < 40) (
  gd (0 ≤ (M 195 (x1).toNat) ∧ (M 195 (x1).toNat) < 40) (
  gd (R4 ((M 194 ((M 196 (x1).toNat)).toNat) - (M 194 ((M 195 (x1).toNat)).toNat))) (
  (f87 (M 193 ((M 196 (x1).toNat)).toNat) (M 193 ((M 195 (x1).toNat)).toNat) ((M 194 ((M 196 (x1).toNat)).toNat) - (M 194 ((M 195 (x1).toNat)).toNat)) M).bind fun M16 =>
  gd (R4 (x1 + 1)) (
  some (.inl ((x1 + 1), M16))))))))
  else
  (oinr (f109_139 0 M))
noncomputable def f109_74 (x1 : Int) (M : Mm) : Option (Int × Mm) := lp (fun s : Int × Mm => lb109_74  s.1 s.2) (x1, M)
theorem tb109_74 {X : Nat × Nat × qC} {d : Nat} {x1 : Int} {M : Mm}  {R : Int × Mm → Prop} (hx1 : R4 x1) (w : Wp (lb109_74 x1 M) (Sum.elim (E109_74 X d  R) R)) : mE X (d + 1) 109 1 74 [some (.ref 142), some (.int (Int32.ofInt x1)), none, none] [] M (fun v M2 => R (v, M2)) := by
  refine mE_iload_n c109_74 rfl ?_
  refine mE_aload_n c109_75 rfl ?_
  refine mE_getI c109_76 qo109 qF12_510 (ok_lit rfl rfl rfl) rfl ?_
  intro u1
  by_cases e2 : x1 < (M 142 9)
  · have w := w.pos e2
    refine mE_icmp_ge_F (t := 137) c109_79 rfl hx1 u1 e2 ?_
    refine mE_aload_n c109_82 rfl ?_
    refine mE_aload_n c109_83 rfl ?_
    refine mE_getA c109_84 qo109 qF12_164 (ok_lit rfl rfl rfl) rfl ⟨by decide, by decide⟩ ?_
    refine mE_aload_n c109_87 rfl ?_
    refine mE_getA c109_88 qo109 qF12_173 (ok_lit rfl rfl rfl) rfl ⟨by decide, by decide⟩ ?_
    refine mE_iload_n c109_91 rfl ?_
    obtain ⟨g3, w⟩ := w.ogd
    refine mE_iaload c109_92 (ok_lit rfl rfl rfl) hx1 g3 ?_
    intro u4
    obtain ⟨g5, w⟩ := w.ogd
    refine mE_iaload c109_93 (ok_lit rfl rfl rfl) u4 g5 ?_
    intro u6
    refine mE_aload_n c109_94 rfl ?_
    refine mE_getA c109_95 qo109 qF12_164 (ok_lit rfl rfl rfl) rfl ⟨by decide, by decide⟩ ?_
    refine mE_aload_n c109_98 rfl ?_
    refine mE_getA c109_99 qo109 qF12_170 (ok_lit rfl rfl rfl) rfl ⟨by decide, by decide⟩ ?_
    refine mE_iload_n c109_102 rfl ?_
    refine mE_iaload c109_103 (ok_lit rfl rfl rfl) hx1 g3 ?_
    intro u7
    obtain ⟨g8, w⟩ := w.ogd
    refine mE_iaload c109_104 (ok_lit rfl rfl rfl) u7 g8 ?_
    intro u9
    refine mE_aload_n c109_105 rfl ?_
    refine mE_getA c109_106 qo109 qF12_167 (ok_lit rfl rfl rfl) rfl ⟨by decide, by decide⟩ ?_
    refine mE_aload_n c109_109 rfl ?_
    refine mE_getA c109_110 qo109 qF12_173 (ok_lit rfl rfl rfl) rfl ⟨by decide, by decide⟩ ?_
    refine mE_iload_n c109_113 rfl ?_
    refine mE_iaload c109_114 (ok_lit rfl rfl rfl) hx1 g3 ?_
    intro u10
    refine mE_iaload c109_115 (ok_lit rfl rfl rfl) u10 g5 ?_
    intro u11
    refine mE_aload_n c109_116 rfl ?_
    refine mE_getA c109_117 qo109 qF12_167 (ok_lit rfl rfl rfl) rfl ⟨by decide, by decide⟩ ?_
    refine mE_aload_n c109_120 rfl ?_
    refine mE_getA c109_121 qo109 qF12_170 (ok_lit rfl rfl rfl) rfl ⟨by decide, by decide⟩ ?_
    refine mE_iload_n c109_124 rfl ?_
    refine mE_iaload c109_125 (ok_lit rfl rfl rfl) hx1 g3 ?_
    intro u12
    refine mE_iaload c109_126 (ok_lit rfl rfl rfl) u12 g8 ?_
    intro u13
    obtain ⟨g14, w⟩ := w.ogd
    refine mE_isub c109_127 ?_
    refine mE_virtual0 (b := 142) (as := [.int (Int32.ofInt (M 193 ((M 196 (x1).toNat)).toNat)), .int (Int32.ofInt (M 193 ((M 195 (x1).toNat)).toNat)), .int (Int32.ofInt ((M 194 ((M 196 (x1).toNat)).toNat) - (M 194 ((M 195 (x1).toNat)).toNat)))]) (r := []) c109_128 qo109 qK12_517 qo87 rfl rfl rfl (ok_lit rfl rfl rfl) (Nat.le_of_ble_eq_true rfl) (s87 (d := d + 0) u6 u9 g14 w.obind) ?_
    intro _ M16 w
    obtain ⟨g18, w⟩ := w.ogd
    refine mE_iinc (ls2 := [some (.ref 142), some (.int (Int32.ofInt (x1 + 1))), none, none]) c109_131 rfl (Nat.le_of_ble_eq_true rfl) rfl ?_
    refine mE_goto (t := 74) c109_134 rfl ?_
    exact w.osome g18
  · have w := w.neg e2
    refine mE_icmp_ge_T (t := 137) c109_79 rfl hx1 u1 e2 ?_
    have w := w.oinr
    refine mE_iconst c109_137 ?_
    refine mE_istore_n (ls2 := [some (.ref 142), some (.int (Int32.ofInt 0)), none, none]) c109_138 (Nat.le_of_ble_eq_true rfl) rfl ?_
    exact t109_139 (r4_n rfl) w
theorem t109_74 {X : Nat × Nat × qC} {d : Nat} {x1 : Int} {M : Mm}  {R : Int × Mm → Prop} (hx1 : R4 x1) (w : Wp (f109_74 x1 M) R) : mE X (d + 1) 109 1 74 [some (.ref 142), some (.int (Int32.ofInt x1)), none, none] [] M (fun v M2 => R (v, M2)) :=
  Wp.olp (f := fun s : Int × Mm => lb109_74  s.1 s.2) (s := (x1, M)) (E := E109_74 X d  R) w (fun s w hx1 => tb109_74 hx1 w) hx1
noncomputable def lb109_36 (x1 : Int) (M : Mm) : Option ((Int × Mm) ⊕ (Int × Mm)) :=
  if x1 < 4 then
  (gd (0 ≤ x1 ∧ x1 < 4) (
  (f87 x1 4 (M 192 (x1).toNat) M).bind fun M5 =>
  gd (R4 (-(M5 191 (x1).toNat))) (
  (f87 4 x1 (-(M5 191 (x1).toNat)) M5).bind fun M10 =>
  gd (R4 (x1 + 1)) (
  some (.inl ((x1 + 1), M10))))))
  else
  (oinr (f109_74 0 M))
noncomputable def f109_36 (x1 : Int) (M : Mm) : Option (Int × Mm) := lp (fun s : Int × Mm => lb109_36  s.1 s.2) (x1, M)
theorem tb109_36 {X : Nat × Nat × qC} {d : Nat} {x1 : Int} {M : Mm}  {R : Int × Mm → Prop} (hx1 : R4 x1) (w : Wp (lb109_36 x1 M) (Sum.elim (E109_36 X d  R) R)) : mE X (d + 1) 109 1 36 [some (.ref 142), some (.int (Int32.ofInt x1)), none, none] [] M (fun v M2 => R (v, M2)) := by
  refine mE_iload_n c109_36 rfl ?_
  refine mE_iconst c109_37 ?_
  by_cases e1 : x1 < 4
  · have w := w.pos e1
    refine mE_icmp_ge_F (t := 72) c109_38 rfl hx1 (r4_n rfl) e1 ?_
    refine mE_aload_n c109_41 rfl ?_
    refine mE_iload_n c109_42 rfl ?_
    refine mE_iconst c109_43 ?_
    refine mE_aload_n c109_44 rfl ?_
    refine mE_getA c109_45 qo109 qF12_161 (ok_lit rfl rfl rfl) rfl ⟨by decide, by decide⟩ ?_
    refine mE_iload_n c109_48 rfl ?_
    obtain ⟨g2, w⟩ := w.ogd
    refine mE_iaload c109_49 (ok_lit rfl rfl rfl) hx1 g2 ?_
    intro u3
    refine mE_virtual0 (b := 142) (as := [.int (Int32.ofInt x1), .int (Int32.ofInt 4), .int (Int32.ofInt (M 192 (x1).toNat))]) (r := []) c109_50 qo109 qK12_517 qo87 rfl rfl rfl (ok_lit rfl rfl rfl) (Nat.le_of_ble_eq_true rfl) (s87 (d := d + 0) hx1 (r4_n rfl) u3 w.obind) ?_
    intro _ M5 w
    refine mE_aload_n c109_53 rfl ?_
    refine mE_iconst c109_54 ?_
    refine mE_iload_n c109_55 rfl ?_
    refine mE_aload_n c109_56 rfl ?_
    refine mE_getA c109_57 qo109 qF12_158 (ok_lit rfl rfl rfl) rfl ⟨by decide, by decide⟩ ?_
    refine mE_iload_n c109_60 rfl ?_
    refine mE_iaload c109_61 (ok_lit rfl rfl rfl) hx1 g2 ?_
    intro u7
    obtain ⟨g8, w⟩ := w.ogd
    refine mE_ineg c109_62 ?_
    refine mE_virtual0 (b := 142) (as := [.int (Int32.ofInt 4), .int (Int32.ofInt x1), .int (Int32.ofInt (-(M5 191 (x1).toNat)))]) (r := []) c109_63 qo109 qK12_517 qo87 rfl rfl rfl (ok_lit rfl rfl rfl) (Nat.le_of_ble_eq_true rfl) (s87 (d := d + 0) (r4_n rfl) hx1 g8 w.obind) ?_
    intro _ M10 w
    obtain ⟨g12, w⟩ := w.ogd
    refine mE_iinc (ls2 := [some (.ref 142), some (.int (Int32.ofInt (x1 + 1))), none, none]) c109_66 rfl (Nat.le_of_ble_eq_true rfl) rfl ?_
    refine mE_goto (t := 36) c109_69 rfl ?_
    exact w.osome g12
  · have w := w.neg e1
    refine mE_icmp_ge_T (t := 72) c109_38 rfl hx1 (r4_n rfl) e1 ?_
    have w := w.oinr
    refine mE_iconst c109_72 ?_
    refine mE_istore_n (ls2 := [some (.ref 142), some (.int (Int32.ofInt 0)), none, none]) c109_73 (Nat.le_of_ble_eq_true rfl) rfl ?_
    exact t109_74 (r4_n rfl) w
theorem t109_36 {X : Nat × Nat × qC} {d : Nat} {x1 : Int} {M : Mm}  {R : Int × Mm → Prop} (hx1 : R4 x1) (w : Wp (f109_36 x1 M) R) : mE X (d + 1) 109 1 36 [some (.ref 142), some (.int (Int32.ofInt x1)), none, none] [] M (fun v M2 => R (v, M2)) :=
  Wp.olp (f := fun s : Int × Mm => lb109_36  s.1 s.2) (s := (x1, M)) (E := E109_36 X d  R) w (fun s w hx1 => tb109_36 hx1 w) hx1
noncomputable def lb109_2 (x1 : Int) (M : Mm) : Option ((Int × Mm) ⊕ (Int × Mm)) :=
  if x1 < 25 then
  (gd (R4 (Int.tmod x1 6)) (
  if (Int.tmod x1 6) = 0 then
  (gd (0 ≤ x1 ∧ x1 < 25) (
  mlet (ms M 197 (x1).toNat 0) fun M5 =>
  gd (R4 (x1 + 1)) (
  some (.inl ((x1 + 1), M5)))))
  else
  (gd (0 ≤ x1 ∧ x1 < 25) (
  mlet (ms M 197 (x1).toNat 1000000) fun M5 =>
  gd (R4 (x1 + 1)) (
  some (.inl ((x1 + 1), M5)))))))
  else
  (oinr (f109_36 0 M))
noncomputable def f109_2 (x1 : Int) (M : Mm) : Option (Int × Mm) := lp (fun s : Int × Mm => lb109_2  s.1 s.2) (x1, M)
theorem tb109_2 {X : Nat × Nat × qC} {d : Nat} {x1 : Int} {M : Mm}  {R : Int × Mm → Prop} (hx1 : R4 x1) (w : Wp (lb109_2 x1 M) (Sum.elim (E109_2 X d  R) R)) : mE X (d + 1) 109 1 2 [some (.ref 142), some (.int (Int32.ofInt x1)), none, none] [] M (fun v M2 => R (v, M2)) := by
  refine mE_iload_n c109_2 rfl ?_
  refine mE_bipush (x := 25) c109_3 rfl ?_
  by_cases e1 : x1 < 25
  · have w := w.pos e1
    refine mE_icmp_ge_F (t := 34) c109_5 rfl hx1 (r4_n rfl) e1 ?_
    refine mE_aload_n c109_8 rfl ?_
    refine mE_getA c109_9 qo109 qF12_176 (ok_lit rfl rfl rfl) rfl ⟨by decide, by decide⟩ ?_
    refine mE_iload_n c109_12 rfl ?_
    refine mE_iload_n c109_13 rfl ?_
    refine mE_bipush (x := 6) c109_14 rfl ?_
    obtain ⟨g2, w⟩ := w.ogd
    refine mE_irem c109_16 hx1 (r4_n rfl) (by decide) ?_
    by_cases e3 : (Int.tmod x1 6) = 0
    · have w := w.pos e3
      refine mE_if_ne_F (t := 24) c109_17 rfl g2 e3 ?_
      refine mE_iconst c109_20 ?_
      refine mE_goto (t := 27) c109_21 rfl ?_
      obtain ⟨g4, w⟩ := w.ogd
      obtain ⟨M5, m6, w⟩ := w.mlet
      refine mE_iastore c109_27 (ok_lit rfl rfl rfl) hx1 g4 (r4_n rfl) ?_
      refine mE_M m6 ?_
      obtain ⟨g7, w⟩ := w.ogd
      refine mE_iinc (ls2 := [some (.ref 142), some (.int (Int32.ofInt (x1 + 1))), none, none]) c109_28 rfl (Nat.le_of_ble_eq_true rfl) rfl ?_
      refine mE_goto (t := 2) c109_31 rfl ?_
      exact w.osome g7
    · have w := w.neg e3
      refine mE_if_ne_T (t := 24) c109_17 rfl g2 e3 ?_
      refine mE_ldc_w (x := 1000000) c109_24 qo109 qI12_516 rfl ?_
      obtain ⟨g4, w⟩ := w.ogd
      obtain ⟨M5, m6, w⟩ := w.mlet
      refine mE_iastore c109_27 (ok_lit rfl rfl rfl) hx1 g4 (r4_n rfl) ?_
      refine mE_M m6 ?_
      obtain ⟨g7, w⟩ := w.ogd
      refine mE_iinc (ls2 := [some (.ref 142), some (.int (Int32.ofInt (x1 + 1))), none, none]) c109_28 rfl (Nat.le_of_ble_eq_true rfl) rfl ?_
      refine mE_goto (t := 2) c109_31 rfl ?_
      exact w.osome g7
  · have w := w.neg e1
    refine mE_icmp_ge_T (t := 34) c109_5 rfl hx1 (r4_n rfl) e1 ?_
    have w := w.oinr
    refine mE_iconst c109_34 ?_
    refine mE_istore_n (ls2 := [some (.ref 142), some (.int (Int32.ofInt 0)), none, none]) c109_35 (Nat.le_of_ble_eq_true rfl) rfl ?_
    exact t109_36 (r4_n rfl) w
theorem t109_2 {X : Nat × Nat × qC} {d : Nat} {x1 : Int} {M : Mm}  {R : Int × Mm → Prop} (hx1 : R4 x1) (w : Wp (f109_2 x1 M) R) : mE X (d + 1) 109 1 2 [some (.ref 142), some (.int (Int32.ofInt x1)), none, none] [] M (fun v M2 => R (v, M2)) :=
  Wp.olp (f := fun s : Int × Mm => lb109_2  s.1 s.2) (s := (x1, M)) (E := E109_2 X d  R) w (fun s w hx1 => tb109_2 hx1 w) hx1
noncomputable def f109  (M : Mm) : Option (Int × Mm) :=
  f109_2 0 M
theorem t109 {X : Nat × Nat × qC} {d : Nat}  {M : Mm}  {R : Int × Mm → Prop}  (w : Wp (f109  M) R) : mE X (d + 1) 109 1 0 [some (.ref 142), none, none, none] [] M (fun v M2 => R (v, M2)) := by
  refine mE_iconst c109_0 ?_
  refine mE_istore_n (ls2 := [some (.ref 142), some (.int (Int32.ofInt 0)), none, none]) c109_1 (Nat.le_of_ble_eq_true rfl) rfl ?_
  exact t109_2 (r4_n rfl) w
theorem s109 {X : Nat × Nat × qC} {d : Nat}  {M : Mm} {R : Int × Mm → Prop}  (w : Wp (f109  M) R) : mC X (d + 2) 109 1 [.ref 142] M (fun v M2 => R (v, M2)) :=
  mC_of (qent_mk qx109 rfl rfl rfl) (t109  w)
/-! SaggingNetModel.standsNow -/
noncomputable def f174  (M : Mm) : Option (Mm) :=
  (f96 36000 36144 M).bind fun M2 =>
  (f173 36144 M2).bind fun M5 =>
  some M5
theorem t174 {X : Nat × Nat × qC} {d : Nat}  {M : Mm}  {R : Mm → Prop}  (w : Wp (f174  M) R) : mE X (d + 4) 174 0 0 [some (.ref 142)] [] M (fun v M2 => R M2) := by
  refine mE_aload_n c174_0 rfl ?_
  refine mE_ldc (x := 36000) c174_1 qo174 qI12_230 rfl ?_
  refine mE_ldc_w (x := 36144) c174_3 qo174 qI12_451 rfl ?_
  refine mE_virtual0 (b := 142) (as := [.int (Int32.ofInt 36000), .int (Int32.ofInt 36144)]) (r := []) c174_6 qo174 qK12_444 qo96 rfl rfl rfl (ok_lit rfl rfl rfl) (Nat.le_of_ble_eq_true rfl) (s96 (d := d + 3) (r4_n rfl) (r4_n rfl) w.obind) ?_
  intro _ M2 w
  refine mE_aload_n c174_9 rfl ?_
  refine mE_ldc_w (x := 36144) c174_10 qo174 qI12_451 rfl ?_
  refine mE_virtual0 (b := 142) (as := [.int (Int32.ofInt 36144)]) (r := []) c174_13 qo174 qK12_429 qo173 rfl rfl rfl (ok_lit rfl rfl rfl) (Nat.le_of_ble_eq_true rfl) (s173 (d := d + 0) (r4_n rfl) w.obind) ?_
  intro _ M5 w
  exact mE_vret c174_16 qr174 w.osome
theorem s174 {X : Nat × Nat × qC} {d : Nat}  {M : Mm} {R : Mm → Prop}  (w : Wp (f174  M) R) : mC X (d + 5) 174 0 [.ref 142] M (fun v M2 => R M2) :=
  mC_of (qent_mk qx174 rfl rfl rfl) (t174  w)
/-! SaggingNetModel.flow -/
noncomputable def f110 (x1 : Int) (M : Mm) : Option (Int × Mm) :=
  (f136 x1 M).bind fun v1 =>
  if v1 = 0 then
  (some ((-1000000000), M))
  else
  ((f174 M).bind fun M6 =>
  (f178 x1 M6).bind fun v8 =>
  some (v8, M6))
theorem t110 {X : Nat × Nat × qC} {d : Nat} {x1 : Int} {M : Mm}  {R : Int × Mm → Prop} (hx1 : R4 x1) (w : Wp (f110 x1 M) R) : mE X (d + 5) 110 2 0 [some (.ref 142), some (.int (Int32.ofInt x1))] [] M (fun v M2 => R (v, M2)) := by
  refine mE_aload_n c110_0 rfl ?_
  refine mE_iload_n c110_1 rfl ?_
  refine mE_virtual1 (b := 142) (as := [.int (Int32.ofInt x1)]) (r := []) c110_2 qo110 qK12_224 qo136 rfl rfl rfl (ok_lit rfl rfl rfl) (Nat.le_of_ble_eq_true rfl) (s136 (d := d + 3) hx1 w.obind) ?_
  rintro v1 _ q3 ⟨rfl, w⟩
  by_cases e4 : v1 = 0
  · have w := w.pos e4
    refine mE_if_ne_F (t := 12) c110_5 rfl q3 e4 ?_
    refine mE_ldc2_w (x := (-1000000000)) c110_8 qo110 qJ12_464 rfl ?_
    exact mE_lret c110_11 qr110 (r8_n rfl) w.osome
  · have w := w.neg e4
    refine mE_if_ne_T (t := 12) c110_5 rfl q3 e4 ?_
    refine mE_aload_n c110_12 rfl ?_
    refine mE_virtual0 (b := 142) (as := []) (r := []) c110_13 qo110 qK12_466 qo174 rfl rfl rfl (ok_lit rfl rfl rfl) (Nat.le_of_ble_eq_true rfl) (s174 (d := d + 0) w.obind) ?_
    intro _ M6 w
    refine mE_aload_n c110_16 rfl ?_
    refine mE_iload_n c110_17 rfl ?_
    refine mE_virtual2 (b := 142) (as := [.int (Int32.ofInt x1)]) (r := []) c110_18 qo110 qK12_408 qo178 rfl rfl rfl (ok_lit rfl rfl rfl) (Nat.le_of_ble_eq_true rfl) (s178 (d := d + 3) hx1 w.obind) ?_
    rintro v8 _ q10 ⟨rfl, w⟩
    exact mE_lret c110_21 qr110 q10 w.osome
theorem s110 {X : Nat × Nat × qC} {d : Nat} {x1 : Int} {M : Mm} {R : Int × Mm → Prop} (hx1 : R4 x1) (w : Wp (f110 x1 M) R) : mC X (d + 6) 110 2 [.ref 142, .int (Int32.ofInt x1)] M (fun v M2 => R (v, M2)) :=
  mC_of (qent_mk qx110 rfl rfl rfl) (t110 hx1 w)
/-! SaggingNetModel.goes -/
def E113_208 (X : Nat × Nat × qC) (d : Nat)  (R : Int × Mm → Prop) : Int × Mm → Prop := fun s => R4 s.1 → mE X (d + 6) 113 1 208 [some (.ref 142), some (.int (Int32.ofInt s.1))] [] s.2 (fun v M2 => R (v, M2))
def E113_129 (X : Nat × Nat × qC) (d : Nat)  (R : Int × Mm → Prop) : Int × Mm → Prop := fun s => R4 s.1 → mE X (d + 6) 113 1 129 [some (.ref 142), some (.int (Int32.ofInt s.1))] [] s.2 (fun v M2 => R (v, M2))
def E113_93 (X : Nat × Nat × qC) (d : Nat)  (R : Int × Mm → Prop) : Int × Mm → Prop := fun s => R4 s.1 → mE X (d + 6) 113 1 93 [some (.ref 142), some (.int (Int32.ofInt s.1))] [] s.2 (fun v M2 => R (v, M2))
def E113_40 (X : Nat × Nat × qC) (d : Nat)  (R : Int × Mm → Prop) : Int × Mm → Prop := fun s => R4 s.1 → mE X (d + 6) 113 1 40 [some (.ref 142), some (.int (Int32.ofInt s.1))] [] s.2 (fun v M2 => R (v, M2))
noncomputable def lb113_208 (x1 : Int) (M : Mm) : Option ((Int × Mm) ⊕ (Int × Mm)) :=
  if x1 < 4 then
  (gd (0 ≤ x1 ∧ x1 < 4) (
  if (M 188 (x1).toNat) = 0 then
  (mlet (ms M 190 (x1).toNat (M 142 2)) fun M6 =>
  gd (R4 (x1 + 1)) (
  some (.inl ((x1 + 1), M6))))
  else
  (mlet (ms M 190 (x1).toNat (M 190 (x1).toNat)) fun M6 =>
  gd (R4 (x1 + 1)) (
  some (.inl ((x1 + 1), M6))))))
  else
  (oinr (gd (R4 ((M 142 2) + 1)) (
  mlet (ms M 142 2 ((M 142 2) + 1)) fun M4 =>
  some ((M4 142 59), M4))))
noncomputable def f113_208 (x1 : Int) (M : Mm) : Option (Int × Mm) := lp (fun s : Int × Mm => lb113_208  s.1 s.2) (x1, M)
theorem tb113_208 {X : Nat × Nat × qC} {d : Nat} {x1 : Int} {M : Mm}  {R : Int × Mm → Prop} (hx1 : R4 x1) (w : Wp (lb113_208 x1 M) (Sum.elim (E113_208 X d  R) R)) : mE X (d + 6) 113 1 208 [some (.ref 142), some (.int (Int32.ofInt x1))] [] M (fun v M2 => R (v, M2)) := by
  refine mE_iload_n c113_208 rfl ?_
  refine mE_iconst c113_209 ?_
  by_cases e1 : x1 < 4
  · have w := w.pos e1
    refine mE_icmp_ge_F (t := 247) c113_210 rfl hx1 (r4_n rfl) e1 ?_
    refine mE_aload_n c113_213 rfl ?_
    refine mE_getA c113_214 qo113 qF12_155 (ok_lit rfl rfl rfl) rfl ⟨by decide, by decide⟩ ?_
    refine mE_iload_n c113_217 rfl ?_
    refine mE_aload_n c113_218 rfl ?_
    refine mE_getA c113_219 qo113 qF12_149 (ok_lit rfl rfl rfl) rfl ⟨by decide, by decide⟩ ?_
    refine mE_iload_n c113_222 rfl ?_
    obtain ⟨g2, w⟩ := w.ogd
    refine mE_zaload c113_223 (ok_lit rfl rfl rfl) hx1 g2 ?_
    intro u3
    by_cases e4 : (M 188 (x1).toNat) = 0
    · have w := w.pos e4
      refine mE_if_eq_T (t := 236) c113_224 rfl u3 e4 ?_
      refine mE_aload_n c113_236 rfl ?_
      refine mE_getI c113_237 qo113 qF12_202 (ok_lit rfl rfl rfl) rfl ?_
      intro u5
      obtain ⟨M6, m7, w⟩ := w.mlet
      refine mE_iastore c113_240 (ok_lit rfl rfl rfl) hx1 g2 u5 ?_
      refine mE_M m7 ?_
      obtain ⟨g8, w⟩ := w.ogd
      refine mE_iinc (ls2 := [some (.ref 142), some (.int (Int32.ofInt (x1 + 1)))]) c113_241 rfl (Nat.le_of_ble_eq_true rfl) rfl ?_
      refine mE_goto (t := 208) c113_244 rfl ?_
      exact w.osome g8
    · have w := w.neg e4
      refine mE_if_eq_F (t := 236) c113_224 rfl u3 e4 ?_
      refine mE_aload_n c113_227 rfl ?_
      refine mE_getA c113_228 qo113 qF12_155 (ok_lit rfl rfl rfl) rfl ⟨by decide, by decide⟩ ?_
      refine mE_iload_n c113_231 rfl ?_
      refine mE_iaload c113_232 (ok_lit rfl rfl rfl) hx1 g2 ?_
      intro u5
      refine mE_goto (t := 240) c113_233 rfl ?_
      obtain ⟨M6, m7, w⟩ := w.mlet
      refine mE_iastore c113_240 (ok_lit rfl rfl rfl) hx1 g2 u5 ?_
      refine mE_M m7 ?_
      obtain ⟨g8, w⟩ := w.ogd
      refine mE_iinc (ls2 := [some (.ref 142), some (.int (Int32.ofInt (x1 + 1)))]) c113_241 rfl (Nat.le_of_ble_eq_true rfl) rfl ?_
      refine mE_goto (t := 208) c113_244 rfl ?_
      exact w.osome g8
  · have w := w.neg e1
    refine mE_icmp_ge_T (t := 247) c113_210 rfl hx1 (r4_n rfl) e1 ?_
    have w := w.oinr
    refine mE_aload_n c113_247 rfl ?_
    refine mE_dup c113_248 rfl ?_
    refine mE_getI c113_249 qo113 qF12_202 (ok_lit rfl rfl rfl) rfl ?_
    intro u2
    refine mE_iconst c113_252 ?_
    obtain ⟨g3, w⟩ := w.ogd
    refine mE_iadd c113_253 ?_
    obtain ⟨M4, m5, w⟩ := w.mlet
    refine mE_putI c113_254 qo113 qF12_202 qz12_2 (ok_lit rfl rfl rfl) (Nat.le_of_ble_eq_true rfl) rfl g3 (by rw [qy12_2]; rfl) ?_
    refine mE_M m5 ?_
    refine mE_aload_n c113_257 rfl ?_
    refine mE_getI c113_258 qo113 qF12_424 (ok_lit rfl rfl rfl) rfl ?_
    intro u6
    exact mE_iret c113_261 qr113 u6 w.osome
theorem t113_208 {X : Nat × Nat × qC} {d : Nat} {x1 : Int} {M : Mm}  {R : Int × Mm → Prop} (hx1 : R4 x1) (w : Wp (f113_208 x1 M) R) : mE X (d + 6) 113 1 208 [some (.ref 142), some (.int (Int32.ofInt x1))] [] M (fun v M2 => R (v, M2)) :=
  Wp.olp (f := fun s : Int × Mm => lb113_208  s.1 s.2) (s := (x1, M)) (E := E113_208 X d  R) w (fun s w hx1 => tb113_208 hx1 w) hx1
noncomputable def f113_206  (M : Mm) : Option (Int × Mm) :=
  f113_208 0 M
theorem t113_206 {X : Nat × Nat × qC} {d : Nat}  {M : Mm} {y1 : Int32} {R : Int × Mm → Prop}  (w : Wp (f113_206  M) R) : mE X (d + 6) 113 1 206 [some (.ref 142), some (.int y1)] [] M (fun v M2 => R (v, M2)) := by
  refine mE_iconst c113_206 ?_
  refine mE_istore_n (ls2 := [some (.ref 142), some (.int (Int32.ofInt 0))]) c113_207 (Nat.le_of_ble_eq_true rfl) rfl ?_
  exact t113_208 (r4_n rfl) w
noncomputable def lb113_129 (x1 : Int) (M : Mm) : Option ((Int × Mm) ⊕ (Int × Mm)) :=
  if x1 < (M 142 59) then
  (if (M 142 7) < 400 then
  (gd (0 ≤ x1 ∧ x1 < 64) (
  gd (0 ≤ (M 142 7) ∧ (M 142 7) < 400) (
  mlet (ms M 185 ((M 142 7)).toNat (M 180 (x1).toNat)) fun M9 =>
  gd (0 ≤ (M9 142 7) ∧ (M9 142 7) < 400) (
  mlet (ms M9 186 ((M9 142 7)).toNat (M9 181 (x1).toNat)) fun M14 =>
  gd (0 ≤ (M14 142 7) ∧ (M14 142 7) < 400) (
  mlet (ms M14 187 ((M14 142 7)).toNat (M14 142 2)) fun M19 =>
  gd (R4 ((M19 142 7) + 1)) (
  mlet (ms M19 142 7 ((M19 142 7) + 1)) fun M23 =>
  gd (R4 (x1 + 1)) (
  some (.inl ((x1 + 1), M23)))))))))
  else
  (oinr (f113_206 M)))
  else
  (oinr (f113_206 M))
noncomputable def f113_129 (x1 : Int) (M : Mm) : Option (Int × Mm) := lp (fun s : Int × Mm => lb113_129  s.1 s.2) (x1, M)
theorem tb113_129 {X : Nat × Nat × qC} {d : Nat} {x1 : Int} {M : Mm}  {R : Int × Mm → Prop} (hx1 : R4 x1) (w : Wp (lb113_129 x1 M) (Sum.elim (E113_129 X d  R) R)) : mE X (d + 6) 113 1 129 [some (.ref 142), some (.int (Int32.ofInt x1))] [] M (fun v M2 => R (v, M2)) := by
  refine mE_iload_n c113_129 rfl ?_
  refine mE_aload_n c113_130 rfl ?_
  refine mE_getI c113_131 qo113 qF12_424 (ok_lit rfl rfl rfl) rfl ?_
  intro u1
  by_cases e2 : x1 < (M 142 59)
  · have w := w.pos e2
    refine mE_icmp_ge_F (t := 206) c113_134 rfl hx1 u1 e2 ?_
    refine mE_aload_n c113_137 rfl ?_
    refine mE_getI c113_138 qo113 qF12_461 (ok_lit rfl rfl rfl) rfl ?_
    intro u3
    refine mE_sipush (x := 400) c113_141 rfl ?_
    by_cases e4 : (M 142 7) < 400
    · have w := w.pos e4
      refine mE_icmp_ge_F (t := 206) c113_144 rfl u3 (r4_n rfl) e4 ?_
      refine mE_aload_n c113_147 rfl ?_
      refine mE_getA c113_148 qo113 qF12_140 (ok_lit rfl rfl rfl) rfl ⟨by decide, by decide⟩ ?_
      refine mE_aload_n c113_151 rfl ?_
      refine mE_getI c113_152 qo113 qF12_461 (ok_lit rfl rfl rfl) rfl ?_
      intro u5
      refine mE_aload_n c113_155 rfl ?_
      refine mE_getA c113_156 qo113 qF12_125 (ok_lit rfl rfl rfl) rfl ⟨by decide, by decide⟩ ?_
      refine mE_iload_n c113_159 rfl ?_
      obtain ⟨g6, w⟩ := w.ogd
      refine mE_iaload c113_160 (ok_lit rfl rfl rfl) hx1 g6 ?_
      intro u7
      obtain ⟨g8, w⟩ := w.ogd
      obtain ⟨M9, m10, w⟩ := w.mlet
      refine mE_iastore c113_161 (ok_lit rfl rfl rfl) u5 g8 u7 ?_
      refine mE_M m10 ?_
      refine mE_aload_n c113_162 rfl ?_
      refine mE_getA c113_163 qo113 qF12_143 (ok_lit rfl rfl rfl) rfl ⟨by decide, by decide⟩ ?_
      refine mE_aload_n c113_166 rfl ?_
      refine mE_getI c113_167 qo113 qF12_461 (ok_lit rfl rfl rfl) rfl ?_
      intro u11
      refine mE_aload_n c113_170 rfl ?_
      refine mE_getA c113_171 qo113 qF12_128 (ok_lit rfl rfl rfl) rfl ⟨by decide, by decide⟩ ?_
      refine mE_iload_n c113_174 rfl ?_
      refine mE_iaload c113_175 (ok_lit rfl rfl rfl) hx1 g6 ?_
      intro u12
      obtain ⟨g13, w⟩ := w.ogd
      obtain ⟨M14, m15, w⟩ := w.mlet
      refine mE_iastore c113_176 (ok_lit rfl rfl rfl) u11 g13 u12 ?_
      refine mE_M m15 ?_
      refine mE_aload_n c113_177 rfl ?_
      refine mE_getA c113_178 qo113 qF12_146 (ok_lit rfl rfl rfl) rfl ⟨by decide, by decide⟩ ?_
      refine mE_aload_n c113_181 rfl ?_
      refine mE_getI c113_182 qo113 qF12_461 (ok_lit rfl rfl rfl) rfl ?_
      intro u16
      refine mE_aload_n c113_185 rfl ?_
      refine mE_getI c113_186 qo113 qF12_202 (ok_lit rfl rfl rfl) rfl ?_
      intro u17
      obtain ⟨g18, w⟩ := w.ogd
      obtain ⟨M19, m20, w⟩ := w.mlet
      refine mE_iastore c113_189 (ok_lit rfl rfl rfl) u16 g18 u17 ?_
      refine mE_M m20 ?_
      refine mE_aload_n c113_190 rfl ?_
      refine mE_dup c113_191 rfl ?_
      refine mE_getI c113_192 qo113 qF12_461 (ok_lit rfl rfl rfl) rfl ?_
      intro u21
      refine mE_iconst c113_195 ?_
      obtain ⟨g22, w⟩ := w.ogd
      refine mE_iadd c113_196 ?_
      obtain ⟨M23, m24, w⟩ := w.mlet
      refine mE_putI c113_197 qo113 qF12_461 qz12_7 (ok_lit rfl rfl rfl) (Nat.le_of_ble_eq_true rfl) rfl g22 (by rw [qy12_7]; rfl) ?_
      refine mE_M m24 ?_
      obtain ⟨g25, w⟩ := w.ogd
      refine mE_iinc (ls2 := [some (.ref 142), some (.int (Int32.ofInt (x1 + 1)))]) c113_200 rfl (Nat.le_of_ble_eq_true rfl) rfl ?_
      refine mE_goto (t := 129) c113_203 rfl ?_
      exact w.osome g25
    · have w := w.neg e4
      refine mE_icmp_ge_T (t := 206) c113_144 rfl u3 (r4_n rfl) e4 ?_
      have w := w.oinr
      exact t113_206  w
  · have w := w.neg e2
    refine mE_icmp_ge_T (t := 206) c113_134 rfl hx1 u1 e2 ?_
    have w := w.oinr
    exact t113_206  w
theorem t113_129 {X : Nat × Nat × qC} {d : Nat} {x1 : Int} {M : Mm}  {R : Int × Mm → Prop} (hx1 : R4 x1) (w : Wp (f113_129 x1 M) R) : mE X (d + 6) 113 1 129 [some (.ref 142), some (.int (Int32.ofInt x1))] [] M (fun v M2 => R (v, M2)) :=
  Wp.olp (f := fun s : Int × Mm => lb113_129  s.1 s.2) (s := (x1, M)) (E := E113_129 X d  R) w (fun s w hx1 => tb113_129 hx1 w) hx1
noncomputable def lb113_93 (x1 : Int) (M : Mm) : Option ((Int × Mm) ⊕ (Int × Mm)) :=
  if x1 < (M 142 4) then
  (gd (R4 (14 * (M 142 2))) (
  gd (R4 ((14 * (M 142 2)) + x1)) (
  (f178 x1 M).bind fun v6 =>
  gd (R4 v6) (
  gd (0 ≤ ((14 * (M 142 2)) + x1) ∧ ((14 * (M 142 2)) + x1) < 7000) (
  mlet (ms M 183 (((14 * (M 142 2)) + x1)).toNat v6) fun M11 =>
  gd (R4 (x1 + 1)) (
  some (.inl ((x1 + 1), M11))))))))
  else
  (oinr (f113_129 0 M))
noncomputable def f113_93 (x1 : Int) (M : Mm) : Option (Int × Mm) := lp (fun s : Int × Mm => lb113_93  s.1 s.2) (x1, M)
theorem tb113_93 {X : Nat × Nat × qC} {d : Nat} {x1 : Int} {M : Mm}  {R : Int × Mm → Prop} (hx1 : R4 x1) (w : Wp (lb113_93 x1 M) (Sum.elim (E113_93 X d  R) R)) : mE X (d + 6) 113 1 93 [some (.ref 142), some (.int (Int32.ofInt x1))] [] M (fun v M2 => R (v, M2)) := by
  refine mE_iload_n c113_93 rfl ?_
  refine mE_aload_n c113_94 rfl ?_
  refine mE_getI c113_95 qo113 qF12_194 (ok_lit rfl rfl rfl) rfl ?_
  intro u1
  by_cases e2 : x1 < (M 142 4)
  · have w := w.pos e2
    refine mE_icmp_ge_F (t := 127) c113_98 rfl hx1 u1 e2 ?_
    refine mE_aload_n c113_101 rfl ?_
    refine mE_getA c113_102 qo113 qF12_134 (ok_lit rfl rfl rfl) rfl ⟨by decide, by decide⟩ ?_
    refine mE_bipush (x := 14) c113_105 rfl ?_
    refine mE_aload_n c113_107 rfl ?_
    refine mE_getI c113_108 qo113 qF12_202 (ok_lit rfl rfl rfl) rfl ?_
    intro u3
    obtain ⟨g4, w⟩ := w.ogd
    refine mE_imul c113_111 ?_
    refine mE_iload_n c113_112 rfl ?_
    obtain ⟨g5, w⟩ := w.ogd
    refine mE_iadd c113_113 ?_
    refine mE_aload_n c113_114 rfl ?_
    refine mE_iload_n c113_115 rfl ?_
    refine mE_virtual2 (b := 142) (as := [.int (Int32.ofInt x1)]) (r := [.int (Int32.ofInt ((14 * (M 142 2)) + x1)), .ref 183]) c113_116 qo113 qK12_408 qo178 rfl rfl rfl (ok_lit rfl rfl rfl) (Nat.le_of_ble_eq_true rfl) (s178 (d := d + 4) hx1 w.obind) ?_
    rintro v6 _ q8 ⟨rfl, w⟩
    obtain ⟨g9, w⟩ := w.ogd
    refine mE_l2i c113_119 g9 ?_
    obtain ⟨g10, w⟩ := w.ogd
    obtain ⟨M11, m12, w⟩ := w.mlet
    refine mE_iastore c113_120 (ok_lit rfl rfl rfl) g5 g10 g9 ?_
    refine mE_M m12 ?_
    obtain ⟨g13, w⟩ := w.ogd
    refine mE_iinc (ls2 := [some (.ref 142), some (.int (Int32.ofInt (x1 + 1)))]) c113_121 rfl (Nat.le_of_ble_eq_true rfl) rfl ?_
    refine mE_goto (t := 93) c113_124 rfl ?_
    exact w.osome g13
  · have w := w.neg e2
    refine mE_icmp_ge_T (t := 127) c113_98 rfl hx1 u1 e2 ?_
    have w := w.oinr
    refine mE_iconst c113_127 ?_
    refine mE_istore_n (ls2 := [some (.ref 142), some (.int (Int32.ofInt 0))]) c113_128 (Nat.le_of_ble_eq_true rfl) rfl ?_
    exact t113_129 (r4_n rfl) w
theorem t113_93 {X : Nat × Nat × qC} {d : Nat} {x1 : Int} {M : Mm}  {R : Int × Mm → Prop} (hx1 : R4 x1) (w : Wp (f113_93 x1 M) R) : mE X (d + 6) 113 1 93 [some (.ref 142), some (.int (Int32.ofInt x1))] [] M (fun v M2 => R (v, M2)) :=
  Wp.olp (f := fun s : Int × Mm => lb113_93  s.1 s.2) (s := (x1, M)) (E := E113_93 X d  R) w (fun s w hx1 => tb113_93 hx1 w) hx1
noncomputable def lb113_40 (x1 : Int) (M : Mm) : Option ((Int × Mm) ⊕ (Int × Mm)) :=
  if x1 < (M 142 4) then
  (gd (R4 (14 * (M 142 2))) (
  gd (R4 ((14 * (M 142 2)) + x1)) (
  gd (R4 (36000 + x1)) (
  gd (0 ≤ (36000 + x1) ∧ (36000 + x1) < 36400) (
  if (M 144 ((36000 + x1)).toNat) = 0 then
  (gd (0 ≤ ((14 * (M 142 2)) + x1) ∧ ((14 * (M 142 2)) + x1) < 7000) (
  mlet (ms M 184 (((14 * (M 142 2)) + x1)).toNat 1) fun M11 =>
  gd (R4 (x1 + 1)) (
  some (.inl ((x1 + 1), M11)))))
  else
  (gd (0 ≤ ((14 * (M 142 2)) + x1) ∧ ((14 * (M 142 2)) + x1) < 7000) (
  mlet (ms M 184 (((14 * (M 142 2)) + x1)).toNat 0) fun M11 =>
  gd (R4 (x1 + 1)) (
  some (.inl ((x1 + 1), M11))))))))))
  else
  (oinr ((f175 36000 M).bind fun M4 =>
  f113_93 0 M4))
noncomputable def f113_40 (x1 : Int) (M : Mm) : Option (Int × Mm) := lp (fun s : Int × Mm => lb113_40  s.1 s.2) (x1, M)
theorem tb113_40 {X : Nat × Nat × qC} {d : Nat} {x1 : Int} {M : Mm}  {R : Int × Mm → Prop} (hx1 : R4 x1) (w : Wp (lb113_40 x1 M) (Sum.elim (E113_40 X d  R) R)) : mE X (d + 6) 113 1 40 [some (.ref 142), some (.int (Int32.ofInt x1))] [] M (fun v M2 => R (v, M2)) := by
  refine mE_iload_n c113_40 rfl ?_
  refine mE_aload_n c113_41 rfl ?_
  refine mE_getI c113_42 qo113 qF12_194 (ok_lit rfl rfl rfl) rfl ?_
  intro u1
  by_cases e2 : x1 < (M 142 4)
  · have w := w.pos e2
    refine mE_icmp_ge_F (t := 85) c113_45 rfl hx1 u1 e2 ?_
    refine mE_aload_n c113_48 rfl ?_
    refine mE_getA c113_49 qo113 qF12_137 (ok_lit rfl rfl rfl) rfl ⟨by decide, by decide⟩ ?_
    refine mE_bipush (x := 14) c113_52 rfl ?_
    refine mE_aload_n c113_54 rfl ?_
    refine mE_getI c113_55 qo113 qF12_202 (ok_lit rfl rfl rfl) rfl ?_
    intro u3
    obtain ⟨g4, w⟩ := w.ogd
    refine mE_imul c113_58 ?_
    refine mE_iload_n c113_59 rfl ?_
    obtain ⟨g5, w⟩ := w.ogd
    refine mE_iadd c113_60 ?_
    refine mE_aload_n c113_61 rfl ?_
    refine mE_getA c113_62 qo113 qF12_14 (ok_lit rfl rfl rfl) rfl ⟨by decide, by decide⟩ ?_
    refine mE_ldc (x := 36000) c113_65 qo113 qI12_230 rfl ?_
    refine mE_iload_n c113_67 rfl ?_
    obtain ⟨g6, w⟩ := w.ogd
    refine mE_iadd c113_68 ?_
    obtain ⟨g7, w⟩ := w.ogd
    refine mE_iaload c113_69 (ok_lit rfl rfl rfl) g6 g7 ?_
    intro u8
    by_cases e9 : (M 144 ((36000 + x1)).toNat) = 0
    · have w := w.pos e9
      refine mE_if_ne_F (t := 77) c113_70 rfl u8 e9 ?_
      refine mE_iconst c113_73 ?_
      refine mE_goto (t := 78) c113_74 rfl ?_
      obtain ⟨g10, w⟩ := w.ogd
      obtain ⟨M11, m12, w⟩ := w.mlet
      refine mE_zastore c113_78 (ok_lit rfl rfl rfl) g5 g10 (Or.inr rfl) ?_
      refine mE_M m12 ?_
      obtain ⟨g13, w⟩ := w.ogd
      refine mE_iinc (ls2 := [some (.ref 142), some (.int (Int32.ofInt (x1 + 1)))]) c113_79 rfl (Nat.le_of_ble_eq_true rfl) rfl ?_
      refine mE_goto (t := 40) c113_82 rfl ?_
      exact w.osome g13
    · have w := w.neg e9
      refine mE_if_ne_T (t := 77) c113_70 rfl u8 e9 ?_
      refine mE_iconst c113_77 ?_
      obtain ⟨g10, w⟩ := w.ogd
      obtain ⟨M11, m12, w⟩ := w.mlet
      refine mE_zastore c113_78 (ok_lit rfl rfl rfl) g5 g10 (Or.inl rfl) ?_
      refine mE_M m12 ?_
      obtain ⟨g13, w⟩ := w.ogd
      refine mE_iinc (ls2 := [some (.ref 142), some (.int (Int32.ofInt (x1 + 1)))]) c113_79 rfl (Nat.le_of_ble_eq_true rfl) rfl ?_
      refine mE_goto (t := 40) c113_82 rfl ?_
      exact w.osome g13
  · have w := w.neg e2
    refine mE_icmp_ge_T (t := 85) c113_45 rfl hx1 u1 e2 ?_
    have w := w.oinr
    refine mE_aload_n c113_85 rfl ?_
    refine mE_ldc (x := 36000) c113_86 qo113 qI12_230 rfl ?_
    refine mE_virtual0 (b := 142) (as := [.int (Int32.ofInt 36000)]) (r := []) c113_88 qo113 qK12_458 qo175 rfl rfl rfl (ok_lit rfl rfl rfl) (Nat.le_of_ble_eq_true rfl) (s175 (d := d + 0) (r4_n rfl) w.obind) ?_
    intro _ M4 w
    refine mE_iconst c113_91 ?_
    refine mE_istore_n (ls2 := [some (.ref 142), some (.int (Int32.ofInt 0))]) c113_92 (Nat.le_of_ble_eq_true rfl) rfl ?_
    exact t113_93 (r4_n rfl) w
theorem t113_40 {X : Nat × Nat × qC} {d : Nat} {x1 : Int} {M : Mm}  {R : Int × Mm → Prop} (hx1 : R4 x1) (w : Wp (f113_40 x1 M) R) : mE X (d + 6) 113 1 40 [some (.ref 142), some (.int (Int32.ofInt x1))] [] M (fun v M2 => R (v, M2)) :=
  Wp.olp (f := fun s : Int × Mm => lb113_40  s.1 s.2) (s := (x1, M)) (E := E113_40 X d  R) w (fun s w hx1 => tb113_40 hx1 w) hx1
noncomputable def f113  (M : Mm) : Option (Int × Mm) :=
  if (M 142 2) = 499 then
  (some ((-1), M))
  else
  (obnd (f89 M) fun v4 M5 =>
  gd (0 ≤ (M 142 2) ∧ (M 142 2) < 500) (
  mlet (ms M5 182 ((M 142 2)).toNat v4) fun M8 =>
  gd (R4 (72 * (M8 142 2))) (
  (f96 36000 (72 * (M8 142 2)) M8).bind fun M13 =>
  f113_40 0 M13)))
theorem t113 {X : Nat × Nat × qC} {d : Nat}  {M : Mm}  {R : Int × Mm → Prop}  (w : Wp (f113  M) R) : mE X (d + 6) 113 1 0 [some (.ref 142), none] [] M (fun v M2 => R (v, M2)) := by
  refine mE_aload_n c113_0 rfl ?_
  refine mE_getI c113_1 qo113 qF12_202 (ok_lit rfl rfl rfl) rfl ?_
  intro u1
  refine mE_sipush (x := 499) c113_4 rfl ?_
  by_cases e2 : (M 142 2) = 499
  · have w := w.pos e2
    refine mE_icmp_ne_F (t := 12) c113_7 rfl u1 (r4_n rfl) e2 ?_
    refine mE_iconst c113_10 ?_
    exact mE_iret c113_11 qr113 (r4_n rfl) w.osome
  · have w := w.neg e2
    refine mE_icmp_ne_T (t := 12) c113_7 rfl u1 (r4_n rfl) e2 ?_
    refine mE_aload_n c113_12 rfl ?_
    refine mE_getA c113_13 qo113 qF12_131 (ok_lit rfl rfl rfl) rfl ⟨by decide, by decide⟩ ?_
    refine mE_aload_n c113_16 rfl ?_
    refine mE_getI c113_17 qo113 qF12_202 (ok_lit rfl rfl rfl) rfl ?_
    intro u3
    refine mE_aload_n c113_20 rfl ?_
    refine mE_virtual1 (b := 142) (as := []) (r := [.int (Int32.ofInt (M 142 2)), .ref 182]) c113_21 qo113 qK12_455 qo89 rfl rfl rfl (ok_lit rfl rfl rfl) (Nat.le_of_ble_eq_true rfl) (s89 (d := d + 0) w.oc) ?_
    intro v4 M5 q6 w
    obtain ⟨g7, w⟩ := w.ogd
    obtain ⟨M8, m9, w⟩ := w.mlet
    refine mE_iastore c113_24 (ok_lit rfl rfl rfl) u3 g7 q6 ?_
    refine mE_M m9 ?_
    refine mE_aload_n c113_25 rfl ?_
    refine mE_ldc (x := 36000) c113_26 qo113 qI12_230 rfl ?_
    refine mE_bipush (x := 72) c113_28 rfl ?_
    refine mE_aload_n c113_30 rfl ?_
    refine mE_getI c113_31 qo113 qF12_202 (ok_lit rfl rfl rfl) rfl ?_
    intro u10
    obtain ⟨g11, w⟩ := w.ogd
    refine mE_imul c113_34 ?_
    refine mE_virtual0 (b := 142) (as := [.int (Int32.ofInt 36000), .int (Int32.ofInt (72 * (M8 142 2)))]) (r := []) c113_35 qo113 qK12_444 qo96 rfl rfl rfl (ok_lit rfl rfl rfl) (Nat.le_of_ble_eq_true rfl) (s96 (d := d + 5) (r4_n rfl) g11 w.obind) ?_
    intro _ M13 w
    refine mE_iconst c113_38 ?_
    refine mE_istore_n (ls2 := [some (.ref 142), some (.int (Int32.ofInt 0))]) c113_39 (Nat.le_of_ble_eq_true rfl) rfl ?_
    exact t113_40 (r4_n rfl) w
theorem s113 {X : Nat × Nat × qC} {d : Nat}  {M : Mm} {R : Int × Mm → Prop}  (w : Wp (f113  M) R) : mC X (d + 7) 113 1 [.ref 142] M (fun v M2 => R (v, M2)) :=
  mC_of (qent_mk qx113 rfl rfl rfl) (t113  w)
/-! SaggingNetModel.isSet -/
noncomputable def f130 (x1 : Int) (M : Mm) : Option (Int) :=
  gd (R4 ((bShl 1 (M 142 3)) - 1)) (
  (f143 x1 0 ((bShl 1 (M 142 3)) - 1) M).bind fun v3 =>
  gd (v3 = 0 ∨ v3 = 1) (
  some v3))
theorem t130 {X : Nat × Nat × qC} {d : Nat} {x1 : Int} {M : Mm}  {R : Int → Prop} (hx1 : R4 x1) (w : Wp (f130 x1 M) R) : mE X (d + 1) 130 1 0 [some (.ref 142), some (.int (Int32.ofInt x1))] [] M (fun v M2 => M = M2 ∧ R v) := by
  refine mE_iload_n c130_0 rfl ?_
  refine mE_i2l c130_1 hx1 ?_
  refine mE_lconst (x := 0) c130_2 rfl ?_
  refine mE_iconst c130_3 ?_
  refine mE_aload_n c130_4 rfl ?_
  refine mE_getI c130_5 qo130 qF12_186 (ok_lit rfl rfl rfl) rfl ?_
  intro u1
  refine mE_ishl c130_8 ?_
  refine mE_iconst c130_9 ?_
  obtain ⟨g2, w⟩ := w.ogd
  refine mE_isub c130_10 ?_
  refine mE_i2l c130_11 g2 ?_
  refine mE_static1 (as := [.long (Int64.ofInt x1), .long (Int64.ofInt 0), .long (Int64.ofInt ((bShl 1 (M 142 3)) - 1))]) (r := []) c130_12 qo130 (by decide) qK12_190 rfl rfl rfl (Nat.le_of_ble_eq_true rfl) (s143 (d := d + 0) (R4.to8 hx1) (r8_n rfl) (R4.to8 g2) w.obind) ?_
  rintro v3 _ q5 ⟨rfl, w⟩
  obtain ⟨g6, w⟩ := w.ogd
  exact mE_zret c130_15 qr130 g6 ⟨rfl, w.osome⟩
theorem s130 {X : Nat × Nat × qC} {d : Nat} {x1 : Int} {M : Mm} {R : Int → Prop} (hx1 : R4 x1) (w : Wp (f130 x1 M) R) : mC X (d + 2) 130 1 [.ref 142, .int (Int32.ofInt x1)] M (fun v M2 => M = M2 ∧ R v) :=
  mC_of (qent_mk qx130 rfl rfl rfl) (t130 hx1 w)
/-! SaggingNetModel.isHeld -/
def E125_9 (X : Nat × Nat × qC) (d : Nat) (x3 : Int) (R : Int × Mm → Prop) : Int × Mm → Prop := fun s => R4 s.1 → ∀ (y1 : Int32), ∀ (y2 : Int32), mE X (d + 6) 125 1 9 [some (.ref 142), some (.int y1), some (.int y2), some (.int (Int32.ofInt x3)), some (.int (Int32.ofInt s.1))] [] s.2 (fun v M2 => R (v, M2))
noncomputable def lb125_9 (x3 : Int) (x4 : Int) (M : Mm) : Option ((Int × Mm) ⊕ (Int × Mm)) :=
  if x4 < x3 then
  ((f175 36288 M).bind fun M3 =>
  if 0 < (M3 142 59) then
  (oinr (some (0, M3)))
  else
  (gd (R4 (x4 + 1)) (
  some (.inl ((x4 + 1), M3)))))
  else
  (oinr (some (1, M)))
noncomputable def f125_9 (x3 : Int) (x4 : Int) (M : Mm) : Option (Int × Mm) := lp (fun s : Int × Mm => lb125_9 x3 s.1 s.2) (x4, M)
theorem tb125_9 {X : Nat × Nat × qC} {d : Nat} {x3 : Int} {x4 : Int} {M : Mm} {y1 : Int32} {y2 : Int32} {R : Int × Mm → Prop} (hx3 : R4 x3) (hx4 : R4 x4) (w : Wp (lb125_9 x3 x4 M) (Sum.elim (E125_9 X d x3 R) R)) : mE X (d + 6) 125 1 9 [some (.ref 142), some (.int y1), some (.int y2), some (.int (Int32.ofInt x3)), some (.int (Int32.ofInt x4))] [] M (fun v M2 => R (v, M2)) := by
  refine mE_iload c125_9 rfl ?_
  refine mE_iload_n c125_11 rfl ?_
  by_cases e1 : x4 < x3
  · have w := w.pos e1
    refine mE_icmp_ge_F (t := 37) c125_12 rfl hx4 hx3 e1 ?_
    refine mE_aload_n c125_15 rfl ?_
    refine mE_ldc_w (x := 36288) c125_16 qo125 qI12_471 rfl ?_
    refine mE_virtual0 (b := 142) (as := [.int (Int32.ofInt 36288)]) (r := []) c125_19 qo125 qK12_458 qo175 rfl rfl rfl (ok_lit rfl rfl rfl) (Nat.le_of_ble_eq_true rfl) (s175 (d := d + 0) (r4_n rfl) w.obind) ?_
    intro _ M3 w
    refine mE_aload_n c125_22 rfl ?_
    refine mE_getI c125_23 qo125 qF12_424 (ok_lit rfl rfl rfl) rfl ?_
    intro u5
    by_cases e6 : 0 < (M3 142 59)
    · have w := w.pos e6
      refine mE_if_le_F (t := 31) c125_26 rfl u5 e6 ?_
      have w := w.oinr
      refine mE_iconst c125_29 ?_
      exact mE_zret c125_30 qr125 (Or.inl rfl) w.osome
    · have w := w.neg e6
      refine mE_if_le_T (t := 31) c125_26 rfl u5 e6 ?_
      obtain ⟨g7, w⟩ := w.ogd
      refine mE_iinc (ls2 := [some (.ref 142), some (.int y1), some (.int y2), some (.int (Int32.ofInt x3)), some (.int (Int32.ofInt (x4 + 1)))]) c125_31 rfl (Nat.le_of_ble_eq_true rfl) rfl ?_
      refine mE_goto (t := 9) c125_34 rfl ?_
      exact w.osome g7 _ _
  · have w := w.neg e1
    refine mE_icmp_ge_T (t := 37) c125_12 rfl hx4 hx3 e1 ?_
    have w := w.oinr
    refine mE_iconst c125_37 ?_
    exact mE_zret c125_38 qr125 (Or.inr rfl) w.osome
theorem t125_9 {X : Nat × Nat × qC} {d : Nat} {x3 : Int} {x4 : Int} {M : Mm} {y1 : Int32} {y2 : Int32} {R : Int × Mm → Prop} (hx3 : R4 x3) (hx4 : R4 x4) (w : Wp (f125_9 x3 x4 M) R) : mE X (d + 6) 125 1 9 [some (.ref 142), some (.int y1), some (.int y2), some (.int (Int32.ofInt x3)), some (.int (Int32.ofInt x4))] [] M (fun v M2 => R (v, M2)) :=
  Wp.olp (f := fun s : Int × Mm => lb125_9 x3 s.1 s.2) (s := (x4, M)) (E := E125_9 X d x3 R) w (fun s w hx4 _ _ => tb125_9 hx3 hx4 w) hx4 _ _
noncomputable def f125 (x1 : Int) (x2 : Int) (x3 : Int) (M : Mm) : Option (Int × Mm) :=
  (f153 x1 x2 M).bind fun M2 =>
  f125_9 x3 0 M2
theorem t125 {X : Nat × Nat × qC} {d : Nat} {x1 : Int} {x2 : Int} {x3 : Int} {M : Mm}  {R : Int × Mm → Prop} (hx1 : R4 x1) (hx2 : R4 x2) (hx3 : R4 x3) (w : Wp (f125 x1 x2 x3 M) R) : mE X (d + 6) 125 1 0 [some (.ref 142), some (.int (Int32.ofInt x1)), some (.int (Int32.ofInt x2)), some (.int (Int32.ofInt x3)), none] [] M (fun v M2 => R (v, M2)) := by
  refine mE_aload_n c125_0 rfl ?_
  refine mE_iload_n c125_1 rfl ?_
  refine mE_iload_n c125_2 rfl ?_
  refine mE_virtual0 (b := 142) (as := [.int (Int32.ofInt x1), .int (Int32.ofInt x2)]) (r := []) c125_3 qo125 qK12_485 qo153 rfl rfl rfl (ok_lit rfl rfl rfl) (Nat.le_of_ble_eq_true rfl) (s153 (d := d + 4) hx1 hx2 w.obind) ?_
  intro _ M2 w
  refine mE_iconst c125_6 ?_
  refine mE_istore (ls2 := [some (.ref 142), some (.int (Int32.ofInt x1)), some (.int (Int32.ofInt x2)), some (.int (Int32.ofInt x3)), some (.int (Int32.ofInt 0))]) c125_7 (Nat.le_of_ble_eq_true rfl) rfl ?_
  exact t125_9 hx3 (r4_n rfl) w
theorem s125 {X : Nat × Nat × qC} {d : Nat} {x1 : Int} {x2 : Int} {x3 : Int} {M : Mm} {R : Int × Mm → Prop} (hx1 : R4 x1) (hx2 : R4 x2) (hx3 : R4 x3) (w : Wp (f125 x1 x2 x3 M) R) : mC X (d + 7) 125 1 [.ref 142, .int (Int32.ofInt x1), .int (Int32.ofInt x2), .int (Int32.ofInt x3)] M (fun v M2 => R (v, M2)) :=
  mC_of (qent_mk qx125 rfl rfl rfl) (t125 hx1 hx2 hx3 w)
/-! SaggingNetModel.held -/
noncomputable def f119 (x1 : Int) (x2 : Int) (x3 : Int) (M : Mm) : Option (Int × Mm) :=
  (f143 x1 0 (M 142 2) M).bind fun v2 =>
  if v2 = 0 then
  (some ((-1), M))
  else
  ((f130 x2 M).bind fun v6 =>
  if v6 = 0 then
  (some ((-1), M))
  else
  ((f127 x3 M).bind fun v10 =>
  if v10 = 0 then
  (some ((-1), M))
  else
  (obnd (f125 x1 x2 x3 M) fun v14 M15 =>
  if v14 = 0 then
  (some (0, M15))
  else
  (some (1, M15)))))
theorem t119 {X : Nat × Nat × qC} {d : Nat} {x1 : Int} {x2 : Int} {x3 : Int} {M : Mm}  {R : Int × Mm → Prop} (hx1 : R4 x1) (hx2 : R4 x2) (hx3 : R4 x3) (w : Wp (f119 x1 x2 x3 M) R) : mE X (d + 7) 119 1 0 [some (.ref 142), some (.int (Int32.ofInt x1)), some (.int (Int32.ofInt x2)), some (.int (Int32.ofInt x3))] [] M (fun v M2 => R (v, M2)) := by
  refine mE_iload_n c119_0 rfl ?_
  refine mE_i2l c119_1 hx1 ?_
  refine mE_lconst (x := 0) c119_2 rfl ?_
  refine mE_aload_n c119_3 rfl ?_
  refine mE_getI c119_4 qo119 qF12_202 (ok_lit rfl rfl rfl) rfl ?_
  intro u1
  refine mE_i2l c119_7 u1 ?_
  refine mE_static1 (as := [.long (Int64.ofInt x1), .long (Int64.ofInt 0), .long (Int64.ofInt (M 142 2))]) (r := []) c119_8 qo119 (by decide) qK12_190 rfl rfl rfl (Nat.le_of_ble_eq_true rfl) (s143 (d := d + 6) (R4.to8 hx1) (r8_n rfl) (R4.to8 u1) w.obind) ?_
  rintro v2 _ q4 ⟨rfl, w⟩
  by_cases e5 : v2 = 0
  · have w := w.pos e5
    refine mE_if_eq_T (t := 47) c119_11 rfl q4 e5 ?_
    refine mE_iconst c119_47 ?_
    exact mE_iret c119_48 qr119 (r4_n rfl) w.osome
  · have w := w.neg e5
    refine mE_if_eq_F (t := 47) c119_11 rfl q4 e5 ?_
    refine mE_aload_n c119_14 rfl ?_
    refine mE_iload_n c119_15 rfl ?_
    refine mE_virtual1 (b := 142) (as := [.int (Int32.ofInt x2)]) (r := []) c119_16 qo119 qK12_490 qo130 rfl rfl rfl (ok_lit rfl rfl rfl) (Nat.le_of_ble_eq_true rfl) (s130 (d := d + 5) hx2 w.obind) ?_
    rintro v6 _ q8 ⟨rfl, w⟩
    by_cases e9 : v6 = 0
    · have w := w.pos e9
      refine mE_if_eq_T (t := 47) c119_19 rfl q8 e9 ?_
      refine mE_iconst c119_47 ?_
      exact mE_iret c119_48 qr119 (r4_n rfl) w.osome
    · have w := w.neg e9
      refine mE_if_eq_F (t := 47) c119_19 rfl q8 e9 ?_
      refine mE_iload_n c119_22 rfl ?_
      refine mE_static1 (as := [.int (Int32.ofInt x3)]) (r := []) c119_23 qo119 (by decide) qK12_493 rfl rfl rfl (Nat.le_of_ble_eq_true rfl) (s127 (d := d + 5) hx3 w.obind) ?_
      rintro v10 _ q12 ⟨rfl, w⟩
      by_cases e13 : v10 = 0
      · have w := w.pos e13
        refine mE_if_eq_T (t := 47) c119_26 rfl q12 e13 ?_
        refine mE_iconst c119_47 ?_
        exact mE_iret c119_48 qr119 (r4_n rfl) w.osome
      · have w := w.neg e13
        refine mE_if_eq_F (t := 47) c119_26 rfl q12 e13 ?_
        refine mE_aload_n c119_29 rfl ?_
        refine mE_iload_n c119_30 rfl ?_
        refine mE_iload_n c119_31 rfl ?_
        refine mE_iload_n c119_32 rfl ?_
        refine mE_virtual1 (b := 142) (as := [.int (Int32.ofInt x1), .int (Int32.ofInt x2), .int (Int32.ofInt x3)]) (r := []) c119_33 qo119 qK12_496 qo125 rfl rfl rfl (ok_lit rfl rfl rfl) (Nat.le_of_ble_eq_true rfl) (s125 (d := d + 0) hx1 hx2 hx3 w.oc) ?_
        intro v14 M15 q16 w
        by_cases e17 : v14 = 0
        · have w := w.pos e17
          refine mE_if_eq_T (t := 43) c119_36 rfl q16 e17 ?_
          refine mE_iconst c119_43 ?_
          refine mE_goto (t := 48) c119_44 rfl ?_
          exact mE_iret c119_48 qr119 (r4_n rfl) w.osome
        · have w := w.neg e17
          refine mE_if_eq_F (t := 43) c119_36 rfl q16 e17 ?_
          refine mE_iconst c119_39 ?_
          refine mE_goto (t := 48) c119_40 rfl ?_
          exact mE_iret c119_48 qr119 (r4_n rfl) w.osome
theorem s119 {X : Nat × Nat × qC} {d : Nat} {x1 : Int} {x2 : Int} {x3 : Int} {M : Mm} {R : Int × Mm → Prop} (hx1 : R4 x1) (hx2 : R4 x2) (hx3 : R4 x3) (w : Wp (f119 x1 x2 x3 M) R) : mC X (d + 8) 119 1 [.ref 142, .int (Int32.ofInt x1), .int (Int32.ofInt x2), .int (Int32.ofInt x3)] M (fun v M2 => R (v, M2)) :=
  mC_of (qent_mk qx119 rfl rfl rfl) (t119 hx1 hx2 hx3 w)
/-! SaggingNetModel.isSpot -/
noncomputable def f132 (x1 : Int) (M : Mm) : Option (Int) :=
  gd (R4 ((M 142 3) - 1)) (
  (f143 x1 0 ((M 142 3) - 1) M).bind fun v3 =>
  gd (v3 = 0 ∨ v3 = 1) (
  some v3))
theorem t132 {X : Nat × Nat × qC} {d : Nat} {x1 : Int} {M : Mm}  {R : Int → Prop} (hx1 : R4 x1) (w : Wp (f132 x1 M) R) : mE X (d + 1) 132 1 0 [some (.ref 142), some (.int (Int32.ofInt x1))] [] M (fun v M2 => M = M2 ∧ R v) := by
  refine mE_iload_n c132_0 rfl ?_
  refine mE_i2l c132_1 hx1 ?_
  refine mE_lconst (x := 0) c132_2 rfl ?_
  refine mE_aload_n c132_3 rfl ?_
  refine mE_getI c132_4 qo132 qF12_186 (ok_lit rfl rfl rfl) rfl ?_
  intro u1
  refine mE_iconst c132_7 ?_
  obtain ⟨g2, w⟩ := w.ogd
  refine mE_isub c132_8 ?_
  refine mE_i2l c132_9 g2 ?_
  refine mE_static1 (as := [.long (Int64.ofInt x1), .long (Int64.ofInt 0), .long (Int64.ofInt ((M 142 3) - 1))]) (r := []) c132_10 qo132 (by decide) qK12_190 rfl rfl rfl (Nat.le_of_ble_eq_true rfl) (s143 (d := d + 0) (R4.to8 hx1) (r8_n rfl) (R4.to8 g2) w.obind) ?_
  rintro v3 _ q5 ⟨rfl, w⟩
  obtain ⟨g6, w⟩ := w.ogd
  exact mE_zret c132_13 qr132 g6 ⟨rfl, w.osome⟩
theorem s132 {X : Nat × Nat × qC} {d : Nat} {x1 : Int} {M : Mm} {R : Int → Prop} (hx1 : R4 x1) (w : Wp (f132 x1 M) R) : mC X (d + 2) 132 1 [.ref 142, .int (Int32.ofInt x1)] M (fun v M2 => M = M2 ∧ R v) :=
  mC_of (qent_mk qx132 rfl rfl rfl) (t132 hx1 w)
/-! SaggingNetModel.last -/
def E139_22 (X : Nat × Nat × qC) (d : Nat) (x1 : Int) (x2 : Int) (R : Int × Mm → Prop) : Int × Mm → Prop := fun s => R4 s.1 → mE X (d + 7) 139 1 22 [some (.ref 142), some (.int (Int32.ofInt x1)), some (.int (Int32.ofInt x2)), some (.int (Int32.ofInt s.1))] [] s.2 (fun v M2 => R (v, M2))
noncomputable def lb139_22 (x1 : Int) (x2 : Int) (x3 : Int) (M : Mm) : Option ((Int × Mm) ⊕ (Int × Mm)) :=
  if x3 < 0 then
  (oinr (some ((-1), M)))
  else
  (obnd (f125 x3 x1 x2 M) fun v2 M3 =>
  if v2 = 0 then
  (gd (R4 (x3 + (-1))) (
  some (.inl ((x3 + (-1)), M3))))
  else
  (oinr (some (x3, M3))))
noncomputable def f139_22 (x1 : Int) (x2 : Int) (x3 : Int) (M : Mm) : Option (Int × Mm) := lp (fun s : Int × Mm => lb139_22 x1 x2 s.1 s.2) (x3, M)
theorem tb139_22 {X : Nat × Nat × qC} {d : Nat} {x1 : Int} {x2 : Int} {x3 : Int} {M : Mm}  {R : Int × Mm → Prop} (hx1 : R4 x1) (hx2 : R4 x2) (hx3 : R4 x3) (w : Wp (lb139_22 x1 x2 x3 M) (Sum.elim (E139_22 X d x1 x2 R) R)) : mE X (d + 7) 139 1 22 [some (.ref 142), some (.int (Int32.ofInt x1)), some (.int (Int32.ofInt x2)), some (.int (Int32.ofInt x3))] [] M (fun v M2 => R (v, M2)) := by
  refine mE_iload_n c139_22 rfl ?_
  by_cases e1 : x3 < 0
  · have w := w.pos e1
    refine mE_if_lt_T (t := 44) c139_23 rfl hx3 e1 ?_
    have w := w.oinr
    refine mE_iconst c139_44 ?_
    exact mE_iret c139_45 qr139 (r4_n rfl) w.osome
  · have w := w.neg e1
    refine mE_if_lt_F (t := 44) c139_23 rfl hx3 e1 ?_
    refine mE_aload_n c139_26 rfl ?_
    refine mE_iload_n c139_27 rfl ?_
    refine mE_iload_n c139_28 rfl ?_
    refine mE_iload_n c139_29 rfl ?_
    refine mE_virtual1 (b := 142) (as := [.int (Int32.ofInt x3), .int (Int32.ofInt x1), .int (Int32.ofInt x2)]) (r := []) c139_30 qo139 qK12_496 qo125 rfl rfl rfl (ok_lit rfl rfl rfl) (Nat.le_of_ble_eq_true rfl) (s125 (d := d + 0) hx3 hx1 hx2 w.oc) ?_
    intro v2 M3 q4 w
    by_cases e5 : v2 = 0
    · have w := w.pos e5
      refine mE_if_eq_T (t := 38) c139_33 rfl q4 e5 ?_
      obtain ⟨g6, w⟩ := w.ogd
      refine mE_iinc (ls2 := [some (.ref 142), some (.int (Int32.ofInt x1)), some (.int (Int32.ofInt x2)), some (.int (Int32.ofInt (x3 + (-1))))]) c139_38 rfl (Nat.le_of_ble_eq_true rfl) rfl ?_
      refine mE_goto (t := 22) c139_41 rfl ?_
      exact w.osome g6
    · have w := w.neg e5
      refine mE_if_eq_F (t := 38) c139_33 rfl q4 e5 ?_
      have w := w.oinr
      refine mE_iload_n c139_36 rfl ?_
      exact mE_iret c139_37 qr139 hx3 w.osome
theorem t139_22 {X : Nat × Nat × qC} {d : Nat} {x1 : Int} {x2 : Int} {x3 : Int} {M : Mm}  {R : Int × Mm → Prop} (hx1 : R4 x1) (hx2 : R4 x2) (hx3 : R4 x3) (w : Wp (f139_22 x1 x2 x3 M) R) : mE X (d + 7) 139 1 22 [some (.ref 142), some (.int (Int32.ofInt x1)), some (.int (Int32.ofInt x2)), some (.int (Int32.ofInt x3))] [] M (fun v M2 => R (v, M2)) :=
  Wp.olp (f := fun s : Int × Mm => lb139_22 x1 x2 s.1 s.2) (s := (x3, M)) (E := E139_22 X d x1 x2 R) w (fun s w hx3 => tb139_22 hx1 hx2 hx3 w) hx3
noncomputable def f139 (x1 : Int) (x2 : Int) (M : Mm) : Option (Int × Mm) :=
  (f130 x1 M).bind fun v1 =>
  if v1 = 0 then
  (some ((-1), M))
  else
  ((f127 x2 M).bind fun v5 =>
  if v5 = 0 then
  (some ((-1), M))
  else
  (f139_22 x1 x2 (M 142 2) M))
theorem t139 {X : Nat × Nat × qC} {d : Nat} {x1 : Int} {x2 : Int} {M : Mm}  {R : Int × Mm → Prop} (hx1 : R4 x1) (hx2 : R4 x2) (w : Wp (f139 x1 x2 M) R) : mE X (d + 7) 139 1 0 [some (.ref 142), some (.int (Int32.ofInt x1)), some (.int (Int32.ofInt x2)), none] [] M (fun v M2 => R (v, M2)) := by
  refine mE_aload_n c139_0 rfl ?_
  refine mE_iload_n c139_1 rfl ?_
  refine mE_virtual1 (b := 142) (as := [.int (Int32.ofInt x1)]) (r := []) c139_2 qo139 qK12_490 qo130 rfl rfl rfl (ok_lit rfl rfl rfl) (Nat.le_of_ble_eq_true rfl) (s130 (d := d + 5) hx1 w.obind) ?_
  rintro v1 _ q3 ⟨rfl, w⟩
  by_cases e4 : v1 = 0
  · have w := w.pos e4
    refine mE_if_eq_T (t := 15) c139_5 rfl q3 e4 ?_
    refine mE_iconst c139_15 ?_
    exact mE_iret c139_16 qr139 (r4_n rfl) w.osome
  · have w := w.neg e4
    refine mE_if_eq_F (t := 15) c139_5 rfl q3 e4 ?_
    refine mE_iload_n c139_8 rfl ?_
    refine mE_static1 (as := [.int (Int32.ofInt x2)]) (r := []) c139_9 qo139 (by decide) qK12_493 rfl rfl rfl (Nat.le_of_ble_eq_true rfl) (s127 (d := d + 5) hx2 w.obind) ?_
    rintro v5 _ q7 ⟨rfl, w⟩
    by_cases e8 : v5 = 0
    · have w := w.pos e8
      refine mE_if_ne_F (t := 17) c139_12 rfl q7 e8 ?_
      refine mE_iconst c139_15 ?_
      exact mE_iret c139_16 qr139 (r4_n rfl) w.osome
    · have w := w.neg e8
      refine mE_if_ne_T (t := 17) c139_12 rfl q7 e8 ?_
      refine mE_aload_n c139_17 rfl ?_
      refine mE_getI c139_18 qo139 qF12_202 (ok_lit rfl rfl rfl) rfl ?_
      intro u9
      refine mE_istore_n (ls2 := [some (.ref 142), some (.int (Int32.ofInt x1)), some (.int (Int32.ofInt x2)), some (.int (Int32.ofInt (M 142 2)))]) c139_21 (Nat.le_of_ble_eq_true rfl) rfl ?_
      exact t139_22 hx1 hx2 u9 w
theorem s139 {X : Nat × Nat × qC} {d : Nat} {x1 : Int} {x2 : Int} {M : Mm} {R : Int × Mm → Prop} (hx1 : R4 x1) (hx2 : R4 x2) (w : Wp (f139 x1 x2 M) R) : mC X (d + 8) 139 1 [.ref 142, .int (Int32.ofInt x1), .int (Int32.ofInt x2)] M (fun v M2 => R (v, M2)) :=
  mC_of (qent_mk qx139 rfl rfl rfl) (t139 hx1 hx2 w)
/-! SaggingNetModel.sizeOf -/
def E169_4 (X : Nat × Nat × qC) (d : Nat)  (M : Mm) (R : Int → Prop) : Int × Int → Prop := fun s => R4 s.1 → R4 s.2 → ∀ (y0 : Int32), mE X (d + 0) 169 1 4 [some (.int y0), some (.int (Int32.ofInt s.1)), some (.int (Int32.ofInt s.2))] [] M (fun v M2 => M = M2 ∧ R v)
noncomputable def lb169_4 (x1 : Int) (x2 : Int) (M : Mm) : Option ((Int × Int) ⊕ (Int)) :=
  if x2 = 0 then
  (oinr (some x1))
  else
  (gd (R4 (x1 + 1)) (
  gd (R4 (x2 - 1)) (
  some (.inl ((x1 + 1), (bAnd x2 (x2 - 1)))))))
noncomputable def f169_4 (x1 : Int) (x2 : Int) (M : Mm) : Option (Int) := lp (fun s : Int × Int => lb169_4  s.1 s.2 M) (x1, x2)
theorem tb169_4 {X : Nat × Nat × qC} {d : Nat} {x1 : Int} {x2 : Int} {M : Mm} {y0 : Int32} {R : Int → Prop} (hx1 : R4 x1) (hx2 : R4 x2) (w : Wp (lb169_4 x1 x2 M) (Sum.elim (E169_4 X d M R) R)) : mE X (d + 0) 169 1 4 [some (.int y0), some (.int (Int32.ofInt x1)), some (.int (Int32.ofInt x2))] [] M (fun v M2 => M = M2 ∧ R v) := by
  refine mE_iload_n c169_4 rfl ?_
  by_cases e1 : x2 = 0
  · have w := w.pos e1
    refine mE_if_eq_T (t := 20) c169_5 rfl hx2 e1 ?_
    have w := w.oinr
    refine mE_iload_n c169_20 rfl ?_
    exact mE_iret c169_21 qr169 hx1 ⟨rfl, w.osome⟩
  · have w := w.neg e1
    refine mE_if_eq_F (t := 20) c169_5 rfl hx2 e1 ?_
    obtain ⟨g2, w⟩ := w.ogd
    refine mE_iinc (ls2 := [some (.int y0), some (.int (Int32.ofInt (x1 + 1))), some (.int (Int32.ofInt x2))]) c169_8 rfl (Nat.le_of_ble_eq_true rfl) rfl ?_
    refine mE_iload_n c169_11 rfl ?_
    refine mE_iload_n c169_12 rfl ?_
    refine mE_iconst c169_13 ?_
    obtain ⟨g3, w⟩ := w.ogd
    refine mE_isub c169_14 ?_
    refine mE_iand c169_15 ?_
    refine mE_istore_n (ls2 := [some (.int y0), some (.int (Int32.ofInt (x1 + 1))), some (.int (Int32.ofInt (bAnd x2 (x2 - 1))))]) c169_16 (Nat.le_of_ble_eq_true rfl) rfl ?_
    refine mE_goto (t := 4) c169_17 rfl ?_
    exact w.osome g2 (r4_and _ _) _
theorem t169_4 {X : Nat × Nat × qC} {d : Nat} {x1 : Int} {x2 : Int} {M : Mm} {y0 : Int32} {R : Int → Prop} (hx1 : R4 x1) (hx2 : R4 x2) (w : Wp (f169_4 x1 x2 M) R) : mE X (d + 0) 169 1 4 [some (.int y0), some (.int (Int32.ofInt x1)), some (.int (Int32.ofInt x2))] [] M (fun v M2 => M = M2 ∧ R v) :=
  Wp.olp (f := fun s : Int × Int => lb169_4  s.1 s.2 M) (s := (x1, x2)) (E := E169_4 X d  M R) w (fun s w hx1 hx2 _ => tb169_4 hx1 hx2 w) hx1 hx2 _
noncomputable def f169 (x0 : Int) (M : Mm) : Option (Int) :=
  f169_4 0 x0 M
theorem t169 {X : Nat × Nat × qC} {d : Nat} {x0 : Int} {M : Mm}  {R : Int → Prop} (hx0 : R4 x0) (w : Wp (f169 x0 M) R) : mE X (d + 0) 169 1 0 [some (.int (Int32.ofInt x0)), none, none] [] M (fun v M2 => M = M2 ∧ R v) := by
  refine mE_iconst c169_0 ?_
  refine mE_istore_n (ls2 := [some (.int (Int32.ofInt x0)), some (.int (Int32.ofInt 0)), none]) c169_1 (Nat.le_of_ble_eq_true rfl) rfl ?_
  refine mE_iload_n c169_2 rfl ?_
  refine mE_istore_n (ls2 := [some (.int (Int32.ofInt x0)), some (.int (Int32.ofInt 0)), some (.int (Int32.ofInt x0))]) c169_3 (Nat.le_of_ble_eq_true rfl) rfl ?_
  exact t169_4 (r4_n rfl) hx0 w
theorem s169 {X : Nat × Nat × qC} {d : Nat} {x0 : Int} {M : Mm} {R : Int → Prop} (hx0 : R4 x0) (w : Wp (f169 x0 M) R) : mC X (d + 1) 169 1 [.int (Int32.ofInt x0)] M (fun v M2 => M = M2 ∧ R v) :=
  mC_of (qent_mk qx169 rfl rfl rfl) (t169 hx0 w)
/-! SaggingNetModel.least -/
def E141_68 (X : Nat × Nat × qC) (d : Nat) (x1 : Int) (x2 : Int) (x3 : Int) (x4 : Int) (x5 : Int) (x6 : Int) (M : Mm) (R : Int × Mm → Prop) : Int × Int → Prop := fun s => R4 s.1 → R4 s.2 → mE X (d + 7) 141 1 68 [some (.ref 142), some (.int (Int32.ofInt x1)), some (.int (Int32.ofInt x2)), some (.int (Int32.ofInt x3)), some (.int (Int32.ofInt x4)), some (.int (Int32.ofInt x5)), some (.int (Int32.ofInt x6)), some (.int (Int32.ofInt s.1)), some (.int (Int32.ofInt s.2))] [] M (fun v M2 => R (v, M2))
def E141_51 (X : Nat × Nat × qC) (d : Nat) (x1 : Int) (x2 : Int) (x3 : Int) (R : Int × Mm → Prop) : Int × Int × Int × Mm → Prop := fun s => R4 s.1 → R4 s.2.1 → R4 s.2.2.1 → ∀ (o7 : Option Value), ∀ (o8 : Option Value), mE X (d + 7) 141 1 51 [some (.ref 142), some (.int (Int32.ofInt x1)), some (.int (Int32.ofInt x2)), some (.int (Int32.ofInt x3)), some (.int (Int32.ofInt s.1)), some (.int (Int32.ofInt s.2.1)), some (.int (Int32.ofInt s.2.2.1)), o7, o8] [] s.2.2.2 (fun v M2 => R (v, M2))
noncomputable def f141_163 (x1 : Int) (x2 : Int) (x3 : Int) (x4 : Int) (x5 : Int) (x6 : Int) (M : Mm) : Option ((Int × Int × Int × Mm) ⊕ (Int × Mm)) :=
  gd (R4 (x6 + 1)) (
  some (.inl (x4, x5, (x6 + 1), M)))
theorem t141_163 {X : Nat × Nat × qC} {d : Nat} {x1 : Int} {x2 : Int} {x3 : Int} {x4 : Int} {x5 : Int} {x6 : Int} {M : Mm} {y7 : Int32} {y8 : Int32} {R : Int × Mm → Prop} (hx1 : R4 x1) (hx2 : R4 x2) (hx3 : R4 x3) (hx4 : R4 x4) (hx5 : R4 x5) (hx6 : R4 x6) (w : Wp (f141_163 x1 x2 x3 x4 x5 x6 M) (Sum.elim (E141_51 X d x1 x2 x3 R) R)) : mE X (d + 7) 141 1 163 [some (.ref 142), some (.int (Int32.ofInt x1)), some (.int (Int32.ofInt x2)), some (.int (Int32.ofInt x3)), some (.int (Int32.ofInt x4)), some (.int (Int32.ofInt x5)), some (.int (Int32.ofInt x6)), some (.int y7), some (.int y8)] [] M (fun v M2 => R (v, M2)) := by
  obtain ⟨g1, w⟩ := w.ogd
  refine mE_iinc (ls2 := [some (.ref 142), some (.int (Int32.ofInt x1)), some (.int (Int32.ofInt x2)), some (.int (Int32.ofInt x3)), some (.int (Int32.ofInt x4)), some (.int (Int32.ofInt x5)), some (.int (Int32.ofInt (x6 + 1))), some (.int y7), some (.int y8)]) c141_163 rfl (Nat.le_of_ble_eq_true rfl) rfl ?_
  refine mE_goto (t := 51) c141_166 rfl ?_
  exact w.osome hx4 hx5 g1 _ _
noncomputable def f141_141 (x1 : Int) (x2 : Int) (x3 : Int) (x4 : Int) (x5 : Int) (x6 : Int) (x7 : Int) (M : Mm) : Option ((Int × Int × Int × Mm) ⊕ (Int × Mm)) :=
  obnd (f125 x1 x6 x2 M) fun v1 M2 =>
  if v1 = 0 then
  (f141_163 x1 x2 x3 x4 x5 x6 M2)
  else
  (f141_163 x1 x2 x3 x6 x7 x6 M2)
theorem t141_141 {X : Nat × Nat × qC} {d : Nat} {x1 : Int} {x2 : Int} {x3 : Int} {x4 : Int} {x5 : Int} {x6 : Int} {x7 : Int} {M : Mm} {y8 : Int32} {R : Int × Mm → Prop} (hx1 : R4 x1) (hx2 : R4 x2) (hx3 : R4 x3) (hx4 : R4 x4) (hx5 : R4 x5) (hx6 : R4 x6) (hx7 : R4 x7) (w : Wp (f141_141 x1 x2 x3 x4 x5 x6 x7 M) (Sum.elim (E141_51 X d x1 x2 x3 R) R)) : mE X (d + 7) 141 1 141 [some (.ref 142), some (.int (Int32.ofInt x1)), some (.int (Int32.ofInt x2)), some (.int (Int32.ofInt x3)), some (.int (Int32.ofInt x4)), some (.int (Int32.ofInt x5)), some (.int (Int32.ofInt x6)), some (.int (Int32.ofInt x7)), some (.int y8)] [] M (fun v M2 => R (v, M2)) := by
  refine mE_aload_n c141_141 rfl ?_
  refine mE_iload_n c141_142 rfl ?_
  refine mE_iload c141_143 rfl ?_
  refine mE_iload_n c141_145 rfl ?_
  refine mE_virtual1 (b := 142) (as := [.int (Int32.ofInt x1), .int (Int32.ofInt x6), .int (Int32.ofInt x2)]) (r := []) c141_146 qo141 qK12_496 qo125 rfl rfl rfl (ok_lit rfl rfl rfl) (Nat.le_of_ble_eq_true rfl) (s125 (d := d + 0) hx1 hx6 hx2 w.oc) ?_
  intro v1 M2 q3 w
  by_cases e4 : v1 = 0
  · have w := w.pos e4
    refine mE_if_ne_F (t := 155) c141_149 rfl q3 e4 ?_
    refine mE_goto (t := 163) c141_152 rfl ?_
    exact t141_163 hx1 hx2 hx3 hx4 hx5 hx6 w
  · have w := w.neg e4
    refine mE_if_ne_T (t := 155) c141_149 rfl q3 e4 ?_
    refine mE_iload c141_155 rfl ?_
    refine mE_istore (ls2 := [some (.ref 142), some (.int (Int32.ofInt x1)), some (.int (Int32.ofInt x2)), some (.int (Int32.ofInt x3)), some (.int (Int32.ofInt x6)), some (.int (Int32.ofInt x5)), some (.int (Int32.ofInt x6)), some (.int (Int32.ofInt x7)), some (.int y8)]) c141_157 (Nat.le_of_ble_eq_true rfl) rfl ?_
    refine mE_iload c141_159 rfl ?_
    refine mE_istore (ls2 := [some (.ref 142), some (.int (Int32.ofInt x1)), some (.int (Int32.ofInt x2)), some (.int (Int32.ofInt x3)), some (.int (Int32.ofInt x6)), some (.int (Int32.ofInt x7)), some (.int (Int32.ofInt x6)), some (.int (Int32.ofInt x7)), some (.int y8)]) c141_161 (Nat.le_of_ble_eq_true rfl) rfl ?_
    exact t141_163 hx1 hx2 hx3 hx6 hx7 hx6 w
noncomputable def lb141_68 (x1 : Int) (x2 : Int) (x3 : Int) (x4 : Int) (x5 : Int) (x6 : Int) (x7 : Int) (x8 : Int) (M : Mm) : Option ((Int × Int) ⊕ ((Int × Int × Int × Mm) ⊕ (Int × Mm))) :=
  if x8 < (M 142 3) then
  ((f118 x6 x8 M).bind fun v3 =>
  if v3 = 0 then
  (gd (R4 (x7 + 0)) (
  gd (R4 (x8 + 1)) (
  some (.inl ((x7 + 0), (x8 + 1))))))
  else
  ((f145 x3 x8 M).bind fun v7 =>
  gd (R4 (x7 + v7)) (
  gd (R4 (x8 + 1)) (
  some (.inl ((x7 + v7), (x8 + 1)))))))
  else
  (oinr (if x4 < 0 then
  (f141_141 x1 x2 x3 x4 x5 x6 x7 M)
  else
  (if x5 < x7 then
  (f141_163 x1 x2 x3 x4 x5 x6 M)
  else
  (if x7 = x5 then
  ((f169 x6 M).bind fun v6 =>
  (f169 x4 M).bind fun v9 =>
  if v6 < v9 then
  (f141_141 x1 x2 x3 x4 x5 x6 x7 M)
  else
  (f141_163 x1 x2 x3 x4 x5 x6 M))
  else
  (f141_141 x1 x2 x3 x4 x5 x6 x7 M)))))
noncomputable def f141_68 (x1 : Int) (x2 : Int) (x3 : Int) (x4 : Int) (x5 : Int) (x6 : Int) (x7 : Int) (x8 : Int) (M : Mm) : Option ((Int × Int × Int × Mm) ⊕ (Int × Mm)) := lp (fun s : Int × Int => lb141_68 x1 x2 x3 x4 x5 x6 s.1 s.2 M) (x7, x8)
theorem tb141_68 {X : Nat × Nat × qC} {d : Nat} {x1 : Int} {x2 : Int} {x3 : Int} {x4 : Int} {x5 : Int} {x6 : Int} {x7 : Int} {x8 : Int} {M : Mm}  {R : Int × Mm → Prop} (hx1 : R4 x1) (hx2 : R4 x2) (hx3 : R4 x3) (hx4 : R4 x4) (hx5 : R4 x5) (hx6 : R4 x6) (hx7 : R4 x7) (hx8 : R4 x8) (w : Wp (lb141_68 x1 x2 x3 x4 x5 x6 x7 x8 M) (Sum.elim (E141_68 X d x1 x2 x3 x4 x5 x6 M R) (Sum.elim (E141_51 X d x1 x2 x3 R) R))) : mE X (d + 7) 141 1 68 [some (.ref 142), some (.int (Int32.ofInt x1)), some (.int (Int32.ofInt x2)), some (.int (Int32.ofInt x3)), some (.int (Int32.ofInt x4)), some (.int (Int32.ofInt x5)), some (.int (Int32.ofInt x6)), some (.int (Int32.ofInt x7)), some (.int (Int32.ofInt x8))] [] M (fun v M2 => R (v, M2)) := by
  refine mE_iload c141_68 rfl ?_
  refine mE_aload_n c141_70 rfl ?_
  refine mE_getI c141_71 qo141 qF12_186 (ok_lit rfl rfl rfl) rfl ?_
  intro u1
  by_cases e2 : x8 < (M 142 3)
  · have w := w.pos e2
    refine mE_icmp_ge_F (t := 109) c141_74 rfl hx8 u1 e2 ?_
    refine mE_iload c141_77 rfl ?_
    refine mE_iload c141_79 rfl ?_
    refine mE_iload c141_81 rfl ?_
    refine mE_static1 (as := [.int (Int32.ofInt x6), .int (Int32.ofInt x8)]) (r := [.int (Int32.ofInt x7)]) c141_83 qo141 (by decide) qK12_248 rfl rfl rfl (Nat.le_of_ble_eq_true rfl) (s118 (d := d + 6) hx6 hx8 w.obind) ?_
    rintro v3 _ q5 ⟨rfl, w⟩
    by_cases e6 : v3 = 0
    · have w := w.pos e6
      refine mE_if_eq_T (t := 99) c141_86 rfl q5 e6 ?_
      refine mE_iconst c141_99 ?_
      obtain ⟨g7, w⟩ := w.ogd
      refine mE_iadd c141_100 ?_
      refine mE_istore (ls2 := [some (.ref 142), some (.int (Int32.ofInt x1)), some (.int (Int32.ofInt x2)), some (.int (Int32.ofInt x3)), some (.int (Int32.ofInt x4)), some (.int (Int32.ofInt x5)), some (.int (Int32.ofInt x6)), some (.int (Int32.ofInt (x7 + 0))), some (.int (Int32.ofInt x8))]) c141_101 (Nat.le_of_ble_eq_true rfl) rfl ?_
      obtain ⟨g8, w⟩ := w.ogd
      refine mE_iinc (ls2 := [some (.ref 142), some (.int (Int32.ofInt x1)), some (.int (Int32.ofInt x2)), some (.int (Int32.ofInt x3)), some (.int (Int32.ofInt x4)), some (.int (Int32.ofInt x5)), some (.int (Int32.ofInt x6)), some (.int (Int32.ofInt (x7 + 0))), some (.int (Int32.ofInt (x8 + 1)))]) c141_103 rfl (Nat.le_of_ble_eq_true rfl) rfl ?_
      refine mE_goto (t := 68) c141_106 rfl ?_
      exact w.osome g7 g8
    · have w := w.neg e6
      refine mE_if_eq_F (t := 99) c141_86 rfl q5 e6 ?_
      refine mE_aload_n c141_89 rfl ?_
      refine mE_iload_n c141_90 rfl ?_
      refine mE_iload c141_91 rfl ?_
      refine mE_virtual1 (b := 142) (as := [.int (Int32.ofInt x3), .int (Int32.ofInt x8)]) (r := [.int (Int32.ofInt x7)]) c141_93 qo141 qK12_235 qo145 rfl rfl rfl (ok_lit rfl rfl rfl) (Nat.le_of_ble_eq_true rfl) (s145 (d := d + 6) hx3 hx8 w.obind) ?_
      rintro v7 _ q9 ⟨rfl, w⟩
      refine mE_goto (t := 100) c141_96 rfl ?_
      obtain ⟨g10, w⟩ := w.ogd
      refine mE_iadd c141_100 ?_
      refine mE_istore (ls2 := [some (.ref 142), some (.int (Int32.ofInt x1)), some (.int (Int32.ofInt x2)), some (.int (Int32.ofInt x3)), some (.int (Int32.ofInt x4)), some (.int (Int32.ofInt x5)), some (.int (Int32.ofInt x6)), some (.int (Int32.ofInt (x7 + v7))), some (.int (Int32.ofInt x8))]) c141_101 (Nat.le_of_ble_eq_true rfl) rfl ?_
      obtain ⟨g11, w⟩ := w.ogd
      refine mE_iinc (ls2 := [some (.ref 142), some (.int (Int32.ofInt x1)), some (.int (Int32.ofInt x2)), some (.int (Int32.ofInt x3)), some (.int (Int32.ofInt x4)), some (.int (Int32.ofInt x5)), some (.int (Int32.ofInt x6)), some (.int (Int32.ofInt (x7 + v7))), some (.int (Int32.ofInt (x8 + 1)))]) c141_103 rfl (Nat.le_of_ble_eq_true rfl) rfl ?_
      refine mE_goto (t := 68) c141_106 rfl ?_
      exact w.osome g10 g11
  · have w := w.neg e2
    refine mE_icmp_ge_T (t := 109) c141_74 rfl hx8 u1 e2 ?_
    have w := w.oinr
    refine mE_iload c141_109 rfl ?_
    by_cases e3 : x4 < 0
    · have w := w.pos e3
      refine mE_if_lt_T (t := 141) c141_111 rfl hx4 e3 ?_
      exact t141_141 hx1 hx2 hx3 hx4 hx5 hx6 hx7 w
    · have w := w.neg e3
      refine mE_if_lt_F (t := 141) c141_111 rfl hx4 e3 ?_
      refine mE_iload c141_114 rfl ?_
      refine mE_iload c141_116 rfl ?_
      by_cases e4 : x5 < x7
      · have w := w.pos e4
        refine mE_icmp_gt_T (t := 163) c141_118 rfl hx7 hx5 e4 ?_
        exact t141_163 hx1 hx2 hx3 hx4 hx5 hx6 w
      · have w := w.neg e4
        refine mE_icmp_gt_F (t := 163) c141_118 rfl hx7 hx5 e4 ?_
        refine mE_iload c141_121 rfl ?_
        refine mE_iload c141_123 rfl ?_
        by_cases e5 : x7 = x5
        · have w := w.pos e5
          refine mE_icmp_ne_F (t := 141) c141_125 rfl hx7 hx5 e5 ?_
          refine mE_iload c141_128 rfl ?_
          refine mE_static1 (as := [.int (Int32.ofInt x6)]) (r := []) c141_130 qo141 (by decide) qK12_500 rfl rfl rfl (Nat.le_of_ble_eq_true rfl) (s169 (d := d + 6) hx6 w.obind) ?_
          rintro v6 _ q8 ⟨rfl, w⟩
          refine mE_iload c141_133 rfl ?_
          refine mE_static1 (as := [.int (Int32.ofInt x4)]) (r := [.int (Int32.ofInt v6)]) c141_135 qo141 (by decide) qK12_500 rfl rfl rfl (Nat.le_of_ble_eq_true rfl) (s169 (d := d + 6) hx4 w.obind) ?_
          rintro v9 _ q11 ⟨rfl, w⟩
          by_cases e12 : v6 < v9
          · have w := w.pos e12
            refine mE_icmp_ge_F (t := 163) c141_138 rfl q8 q11 e12 ?_
            exact t141_141 hx1 hx2 hx3 hx4 hx5 hx6 hx7 w
          · have w := w.neg e12
            refine mE_icmp_ge_T (t := 163) c141_138 rfl q8 q11 e12 ?_
            exact t141_163 hx1 hx2 hx3 hx4 hx5 hx6 w
        · have w := w.neg e5
          refine mE_icmp_ne_T (t := 141) c141_125 rfl hx7 hx5 e5 ?_
          exact t141_141 hx1 hx2 hx3 hx4 hx5 hx6 hx7 w
theorem t141_68 {X : Nat × Nat × qC} {d : Nat} {x1 : Int} {x2 : Int} {x3 : Int} {x4 : Int} {x5 : Int} {x6 : Int} {x7 : Int} {x8 : Int} {M : Mm}  {R : Int × Mm → Prop} (hx1 : R4 x1) (hx2 : R4 x2) (hx3 : R4 x3) (hx4 : R4 x4) (hx5 : R4 x5) (hx6 : R4 x6) (hx7 : R4 x7) (hx8 : R4 x8) (w : Wp (f141_68 x1 x2 x3 x4 x5 x6 x7 x8 M) (Sum.elim (E141_51 X d x1 x2 x3 R) R)) : mE X (d + 7) 141 1 68 [some (.ref 142), some (.int (Int32.ofInt x1)), some (.int (Int32.ofInt x2)), some (.int (Int32.ofInt x3)), some (.int (Int32.ofInt x4)), some (.int (Int32.ofInt x5)), some (.int (Int32.ofInt x6)), some (.int (Int32.ofInt x7)), some (.int (Int32.ofInt x8))] [] M (fun v M2 => R (v, M2)) :=
  Wp.olp (f := fun s : Int × Int => lb141_68 x1 x2 x3 x4 x5 x6 s.1 s.2 M) (s := (x7, x8)) (E := E141_68 X d x1 x2 x3 x4 x5 x6 M R) w (fun s w hx7 hx8 => tb141_68 hx1 hx2 hx3 hx4 hx5 hx6 hx7 hx8 w) hx7 hx8
noncomputable def lb141_51 (x1 : Int) (x2 : Int) (x3 : Int) (x4 : Int) (x5 : Int) (x6 : Int) (M : Mm) : Option ((Int × Int × Int × Mm) ⊕ (Int × Mm)) :=
  if x6 < (bShl 1 (M 142 3)) then
  (f141_68 x1 x2 x3 x4 x5 x6 0 0 M)
  else
  (oinr (some (x4, M)))
noncomputable def f141_51 (x1 : Int) (x2 : Int) (x3 : Int) (x4 : Int) (x5 : Int) (x6 : Int) (M : Mm) : Option (Int × Mm) := lp (fun s : Int × Int × Int × Mm => lb141_51 x1 x2 x3 s.1 s.2.1 s.2.2.1 s.2.2.2) (x4, x5, x6, M)
theorem tb141_51 {X : Nat × Nat × qC} {d : Nat} {x1 : Int} {x2 : Int} {x3 : Int} {x4 : Int} {x5 : Int} {x6 : Int} {M : Mm} {o7 : Option Value} {o8 : Option Value} {R : Int × Mm → Prop} (hx1 : R4 x1) (hx2 : R4 x2) (hx3 : R4 x3) (hx4 : R4 x4) (hx5 : R4 x5) (hx6 : R4 x6) (w : Wp (lb141_51 x1 x2 x3 x4 x5 x6 M) (Sum.elim (E141_51 X d x1 x2 x3 R) R)) : mE X (d + 7) 141 1 51 [some (.ref 142), some (.int (Int32.ofInt x1)), some (.int (Int32.ofInt x2)), some (.int (Int32.ofInt x3)), some (.int (Int32.ofInt x4)), some (.int (Int32.ofInt x5)), some (.int (Int32.ofInt x6)), o7, o8] [] M (fun v M2 => R (v, M2)) := by
  refine mE_iload c141_51 rfl ?_
  refine mE_iconst c141_53 ?_
  refine mE_aload_n c141_54 rfl ?_
  refine mE_getI c141_55 qo141 qF12_186 (ok_lit rfl rfl rfl) rfl ?_
  intro u1
  refine mE_ishl c141_58 ?_
  by_cases e2 : x6 < (bShl 1 (M 142 3))
  · have w := w.pos e2
    refine mE_icmp_ge_F (t := 169) c141_59 rfl hx6 (r4_shl _ _) e2 ?_
    refine mE_iconst c141_62 ?_
    refine mE_istore (ls2 := [some (.ref 142), some (.int (Int32.ofInt x1)), some (.int (Int32.ofInt x2)), some (.int (Int32.ofInt x3)), some (.int (Int32.ofInt x4)), some (.int (Int32.ofInt x5)), some (.int (Int32.ofInt x6)), some (.int (Int32.ofInt 0)), o8]) c141_63 (Nat.le_of_ble_eq_true rfl) rfl ?_
    refine mE_iconst c141_65 ?_
    refine mE_istore (ls2 := [some (.ref 142), some (.int (Int32.ofInt x1)), some (.int (Int32.ofInt x2)), some (.int (Int32.ofInt x3)), some (.int (Int32.ofInt x4)), some (.int (Int32.ofInt x5)), some (.int (Int32.ofInt x6)), some (.int (Int32.ofInt 0)), some (.int (Int32.ofInt 0))]) c141_66 (Nat.le_of_ble_eq_true rfl) rfl ?_
    exact t141_68 hx1 hx2 hx3 hx4 hx5 hx6 (r4_n rfl) (r4_n rfl) w
  · have w := w.neg e2
    refine mE_icmp_ge_T (t := 169) c141_59 rfl hx6 (r4_shl _ _) e2 ?_
    have w := w.oinr
    refine mE_iload c141_169 rfl ?_
    exact mE_iret c141_171 qr141 hx4 w.osome
theorem t141_51 {X : Nat × Nat × qC} {d : Nat} {x1 : Int} {x2 : Int} {x3 : Int} {x4 : Int} {x5 : Int} {x6 : Int} {M : Mm} {o7 : Option Value} {o8 : Option Value} {R : Int × Mm → Prop} (hx1 : R4 x1) (hx2 : R4 x2) (hx3 : R4 x3) (hx4 : R4 x4) (hx5 : R4 x5) (hx6 : R4 x6) (w : Wp (f141_51 x1 x2 x3 x4 x5 x6 M) R) : mE X (d + 7) 141 1 51 [some (.ref 142), some (.int (Int32.ofInt x1)), some (.int (Int32.ofInt x2)), some (.int (Int32.ofInt x3)), some (.int (Int32.ofInt x4)), some (.int (Int32.ofInt x5)), some (.int (Int32.ofInt x6)), o7, o8] [] M (fun v M2 => R (v, M2)) :=
  Wp.olp (f := fun s : Int × Int × Int × Mm => lb141_51 x1 x2 x3 s.1 s.2.1 s.2.2.1 s.2.2.2) (s := (x4, x5, x6, M)) (E := E141_51 X d x1 x2 x3 R) w (fun s w hx4 hx5 hx6 _ _ => tb141_51 hx1 hx2 hx3 hx4 hx5 hx6 w) hx4 hx5 hx6 _ _
noncomputable def f141 (x1 : Int) (x2 : Int) (M : Mm) : Option (Int × Mm) :=
  (f143 x1 0 (M 142 2) M).bind fun v2 =>
  if v2 = 0 then
  (some ((-1), M))
  else
  ((f127 x2 M).bind fun v6 =>
  if v6 = 0 then
  (some ((-1), M))
  else
  (if x1 = (M 142 2) then
  (f141_51 x1 x2 36000 (-2) 0 0 M)
  else
  (gd (R4 (72 * x1)) (
  f141_51 x1 x2 (72 * x1) (-2) 0 0 M))))
theorem t141 {X : Nat × Nat × qC} {d : Nat} {x1 : Int} {x2 : Int} {M : Mm}  {R : Int × Mm → Prop} (hx1 : R4 x1) (hx2 : R4 x2) (w : Wp (f141 x1 x2 M) R) : mE X (d + 7) 141 1 0 [some (.ref 142), some (.int (Int32.ofInt x1)), some (.int (Int32.ofInt x2)), none, none, none, none, none, none] [] M (fun v M2 => R (v, M2)) := by
  refine mE_iload_n c141_0 rfl ?_
  refine mE_i2l c141_1 hx1 ?_
  refine mE_lconst (x := 0) c141_2 rfl ?_
  refine mE_aload_n c141_3 rfl ?_
  refine mE_getI c141_4 qo141 qF12_202 (ok_lit rfl rfl rfl) rfl ?_
  intro u1
  refine mE_i2l c141_7 u1 ?_
  refine mE_static1 (as := [.long (Int64.ofInt x1), .long (Int64.ofInt 0), .long (Int64.ofInt (M 142 2))]) (r := []) c141_8 qo141 (by decide) qK12_190 rfl rfl rfl (Nat.le_of_ble_eq_true rfl) (s143 (d := d + 6) (R4.to8 hx1) (r8_n rfl) (R4.to8 u1) w.obind) ?_
  rintro v2 _ q4 ⟨rfl, w⟩
  by_cases e5 : v2 = 0
  · have w := w.pos e5
    refine mE_if_eq_T (t := 21) c141_11 rfl q4 e5 ?_
    refine mE_iconst c141_21 ?_
    exact mE_iret c141_22 qr141 (r4_n rfl) w.osome
  · have w := w.neg e5
    refine mE_if_eq_F (t := 21) c141_11 rfl q4 e5 ?_
    refine mE_iload_n c141_14 rfl ?_
    refine mE_static1 (as := [.int (Int32.ofInt x2)]) (r := []) c141_15 qo141 (by decide) qK12_493 rfl rfl rfl (Nat.le_of_ble_eq_true rfl) (s127 (d := d + 5) hx2 w.obind) ?_
    rintro v6 _ q8 ⟨rfl, w⟩
    by_cases e9 : v6 = 0
    · have w := w.pos e9
      refine mE_if_ne_F (t := 23) c141_18 rfl q8 e9 ?_
      refine mE_iconst c141_21 ?_
      exact mE_iret c141_22 qr141 (r4_n rfl) w.osome
    · have w := w.neg e9
      refine mE_if_ne_T (t := 23) c141_18 rfl q8 e9 ?_
      refine mE_iload_n c141_23 rfl ?_
      refine mE_aload_n c141_24 rfl ?_
      refine mE_getI c141_25 qo141 qF12_202 (ok_lit rfl rfl rfl) rfl ?_
      intro u10
      by_cases e11 : x1 = (M 142 2)
      · have w := w.pos e11
        refine mE_icmp_ne_F (t := 36) c141_28 rfl hx1 u10 e11 ?_
        refine mE_ldc (x := 36000) c141_31 qo141 qI12_230 rfl ?_
        refine mE_goto (t := 40) c141_33 rfl ?_
        refine mE_istore_n (ls2 := [some (.ref 142), some (.int (Int32.ofInt x1)), some (.int (Int32.ofInt x2)), some (.int (Int32.ofInt 36000)), none, none, none, none, none]) c141_40 (Nat.le_of_ble_eq_true rfl) rfl ?_
        refine mE_bipush (x := (-2)) c141_41 rfl ?_
        refine mE_istore (ls2 := [some (.ref 142), some (.int (Int32.ofInt x1)), some (.int (Int32.ofInt x2)), some (.int (Int32.ofInt 36000)), some (.int (Int32.ofInt (-2))), none, none, none, none]) c141_43 (Nat.le_of_ble_eq_true rfl) rfl ?_
        refine mE_iconst c141_45 ?_
        refine mE_istore (ls2 := [some (.ref 142), some (.int (Int32.ofInt x1)), some (.int (Int32.ofInt x2)), some (.int (Int32.ofInt 36000)), some (.int (Int32.ofInt (-2))), some (.int (Int32.ofInt 0)), none, none, none]) c141_46 (Nat.le_of_ble_eq_true rfl) rfl ?_
        refine mE_iconst c141_48 ?_
        refine mE_istore (ls2 := [some (.ref 142), some (.int (Int32.ofInt x1)), some (.int (Int32.ofInt x2)), some (.int (Int32.ofInt 36000)), some (.int (Int32.ofInt (-2))), some (.int (Int32.ofInt 0)), some (.int (Int32.ofInt 0)), none, none]) c141_49 (Nat.le_of_ble_eq_true rfl) rfl ?_
        exact t141_51 hx1 hx2 (r4_n rfl) (r4_n rfl) (r4_n rfl) (r4_n rfl) w
      · have w := w.neg e11
        refine mE_icmp_ne_T (t := 36) c141_28 rfl hx1 u10 e11 ?_
        refine mE_bipush (x := 72) c141_36 rfl ?_
        refine mE_iload_n c141_38 rfl ?_
        obtain ⟨g12, w⟩ := w.ogd
        refine mE_imul c141_39 ?_
        refine mE_istore_n (ls2 := [some (.ref 142), some (.int (Int32.ofInt x1)), some (.int (Int32.ofInt x2)), some (.int (Int32.ofInt (72 * x1))), none, none, none, none, none]) c141_40 (Nat.le_of_ble_eq_true rfl) rfl ?_
        refine mE_bipush (x := (-2)) c141_41 rfl ?_
        refine mE_istore (ls2 := [some (.ref 142), some (.int (Int32.ofInt x1)), some (.int (Int32.ofInt x2)), some (.int (Int32.ofInt (72 * x1))), some (.int (Int32.ofInt (-2))), none, none, none, none]) c141_43 (Nat.le_of_ble_eq_true rfl) rfl ?_
        refine mE_iconst c141_45 ?_
        refine mE_istore (ls2 := [some (.ref 142), some (.int (Int32.ofInt x1)), some (.int (Int32.ofInt x2)), some (.int (Int32.ofInt (72 * x1))), some (.int (Int32.ofInt (-2))), some (.int (Int32.ofInt 0)), none, none, none]) c141_46 (Nat.le_of_ble_eq_true rfl) rfl ?_
        refine mE_iconst c141_48 ?_
        refine mE_istore (ls2 := [some (.ref 142), some (.int (Int32.ofInt x1)), some (.int (Int32.ofInt x2)), some (.int (Int32.ofInt (72 * x1))), some (.int (Int32.ofInt (-2))), some (.int (Int32.ofInt 0)), some (.int (Int32.ofInt 0)), none, none]) c141_49 (Nat.le_of_ble_eq_true rfl) rfl ?_
        exact t141_51 hx1 hx2 g12 (r4_n rfl) (r4_n rfl) (r4_n rfl) w
theorem s141 {X : Nat × Nat × qC} {d : Nat} {x1 : Int} {x2 : Int} {M : Mm} {R : Int × Mm → Prop} (hx1 : R4 x1) (hx2 : R4 x2) (w : Wp (f141 x1 x2 M) R) : mC X (d + 8) 141 1 [.ref 142, .int (Int32.ofInt x1), .int (Int32.ofInt x2)] M (fun v M2 => R (v, M2)) :=
  mC_of (qent_mk qx141 rfl rfl rfl) (t141 hx1 hx2 w)
/-! SaggingNetModel.load -/
noncomputable def f144 (x1 : Int) (x2 : Int) (M : Mm) : Option (Int × Mm) :=
  (f132 x1 M).bind fun v1 =>
  if v1 = 0 then
  (some (0, M))
  else
  ((f143 x2 0 2000 M).bind fun v5 =>
  if v5 = 0 then
  (some (0, M))
  else
  (gd (R4 (36059 + x1)) (
  gd (0 ≤ (36059 + x1) ∧ (36059 + x1) < 36400) (
  mlet (ms M 144 ((36059 + x1)).toNat x2) fun M11 =>
  some (1, M11)))))
theorem t144 {X : Nat × Nat × qC} {d : Nat} {x1 : Int} {x2 : Int} {M : Mm}  {R : Int × Mm → Prop} (hx1 : R4 x1) (hx2 : R4 x2) (w : Wp (f144 x1 x2 M) R) : mE X (d + 2) 144 1 0 [some (.ref 142), some (.int (Int32.ofInt x1)), some (.int (Int32.ofInt x2))] [] M (fun v M2 => R (v, M2)) := by
  refine mE_aload_n c144_0 rfl ?_
  refine mE_iload_n c144_1 rfl ?_
  refine mE_virtual1 (b := 142) (as := [.int (Int32.ofInt x1)]) (r := []) c144_2 qo144 qK12_214 qo132 rfl rfl rfl (ok_lit rfl rfl rfl) (Nat.le_of_ble_eq_true rfl) (s132 (d := d + 0) hx1 w.obind) ?_
  rintro v1 _ q3 ⟨rfl, w⟩
  by_cases e4 : v1 = 0
  · have w := w.pos e4
    refine mE_if_eq_T (t := 20) c144_5 rfl q3 e4 ?_
    refine mE_iconst c144_20 ?_
    exact mE_zret c144_21 qr144 (Or.inl rfl) w.osome
  · have w := w.neg e4
    refine mE_if_eq_F (t := 20) c144_5 rfl q3 e4 ?_
    refine mE_iload_n c144_8 rfl ?_
    refine mE_i2l c144_9 hx2 ?_
    refine mE_lconst (x := 0) c144_10 rfl ?_
    refine mE_ldc2_w (x := 2000) c144_11 qo144 qJ12_209 rfl ?_
    refine mE_static1 (as := [.long (Int64.ofInt x2), .long (Int64.ofInt 0), .long (Int64.ofInt 2000)]) (r := []) c144_14 qo144 (by decide) qK12_190 rfl rfl rfl (Nat.le_of_ble_eq_true rfl) (s143 (d := d + 1) (R4.to8 hx2) (r8_n rfl) (r8_n rfl) w.obind) ?_
    rintro v5 _ q7 ⟨rfl, w⟩
    by_cases e8 : v5 = 0
    · have w := w.pos e8
      refine mE_if_ne_F (t := 22) c144_17 rfl q7 e8 ?_
      refine mE_iconst c144_20 ?_
      exact mE_zret c144_21 qr144 (Or.inl rfl) w.osome
    · have w := w.neg e8
      refine mE_if_ne_T (t := 22) c144_17 rfl q7 e8 ?_
      refine mE_aload_n c144_22 rfl ?_
      refine mE_getA c144_23 qo144 qF12_14 (ok_lit rfl rfl rfl) rfl ⟨by decide, by decide⟩ ?_
      refine mE_ldc (x := 36059) c144_26 qo144 qI12_213 rfl ?_
      refine mE_iload_n c144_28 rfl ?_
      obtain ⟨g9, w⟩ := w.ogd
      refine mE_iadd c144_29 ?_
      refine mE_iload_n c144_30 rfl ?_
      obtain ⟨g10, w⟩ := w.ogd
      obtain ⟨M11, m12, w⟩ := w.mlet
      refine mE_iastore c144_31 (ok_lit rfl rfl rfl) g9 g10 hx2 ?_
      refine mE_M m12 ?_
      refine mE_iconst c144_32 ?_
      exact mE_zret c144_33 qr144 (Or.inr rfl) w.osome
theorem s144 {X : Nat × Nat × qC} {d : Nat} {x1 : Int} {x2 : Int} {M : Mm} {R : Int × Mm → Prop} (hx1 : R4 x1) (hx2 : R4 x2) (w : Wp (f144 x1 x2 M) R) : mC X (d + 3) 144 1 [.ref 142, .int (Int32.ofInt x1), .int (Int32.ofInt x2)] M (fun v M2 => R (v, M2)) :=
  mC_of (qent_mk qx144 rfl rfl rfl) (t144 hx1 hx2 w)
/-! SaggingNetModel.mend -/
noncomputable def f147 (x1 : Int) (M : Mm) : Option (Int × Mm) :=
  (f136 x1 M).bind fun v1 =>
  if v1 = 0 then
  (some (0, M))
  else
  (gd (R4 (36000 + x1)) (
  gd (0 ≤ (36000 + x1) ∧ (36000 + x1) < 36400) (
  if (M 144 ((36000 + x1)).toNat) = 3 then
  (mlet (ms M 144 ((36000 + x1)).toNat 1) fun M9 =>
  some (1, M9))
  else
  (some (0, M)))))
theorem t147 {X : Nat × Nat × qC} {d : Nat} {x1 : Int} {M : Mm}  {R : Int × Mm → Prop} (hx1 : R4 x1) (w : Wp (f147 x1 M) R) : mE X (d + 2) 147 1 0 [some (.ref 142), some (.int (Int32.ofInt x1))] [] M (fun v M2 => R (v, M2)) := by
  refine mE_aload_n c147_0 rfl ?_
  refine mE_iload_n c147_1 rfl ?_
  refine mE_virtual1 (b := 142) (as := [.int (Int32.ofInt x1)]) (r := []) c147_2 qo147 qK12_224 qo136 rfl rfl rfl (ok_lit rfl rfl rfl) (Nat.le_of_ble_eq_true rfl) (s136 (d := d + 0) hx1 w.obind) ?_
  rintro v1 _ q3 ⟨rfl, w⟩
  by_cases e4 : v1 = 0
  · have w := w.pos e4
    refine mE_if_eq_T (t := 21) c147_5 rfl q3 e4 ?_
    refine mE_iconst c147_21 ?_
    exact mE_zret c147_22 qr147 (Or.inl rfl) w.osome
  · have w := w.neg e4
    refine mE_if_eq_F (t := 21) c147_5 rfl q3 e4 ?_
    refine mE_aload_n c147_8 rfl ?_
    refine mE_getA c147_9 qo147 qF12_14 (ok_lit rfl rfl rfl) rfl ⟨by decide, by decide⟩ ?_
    refine mE_ldc (x := 36000) c147_12 qo147 qI12_230 rfl ?_
    refine mE_iload_n c147_14 rfl ?_
    obtain ⟨g5, w⟩ := w.ogd
    refine mE_iadd c147_15 ?_
    obtain ⟨g6, w⟩ := w.ogd
    refine mE_iaload c147_16 (ok_lit rfl rfl rfl) g5 g6 ?_
    intro u7
    refine mE_iconst c147_17 ?_
    by_cases e8 : (M 144 ((36000 + x1)).toNat) = 3
    · have w := w.pos e8
      refine mE_icmp_eq_T (t := 23) c147_18 rfl u7 (r4_n rfl) e8 ?_
      refine mE_aload_n c147_23 rfl ?_
      refine mE_getA c147_24 qo147 qF12_14 (ok_lit rfl rfl rfl) rfl ⟨by decide, by decide⟩ ?_
      refine mE_ldc (x := 36000) c147_27 qo147 qI12_230 rfl ?_
      refine mE_iload_n c147_29 rfl ?_
      refine mE_iadd c147_30 ?_
      refine mE_iconst c147_31 ?_
      obtain ⟨M9, m10, w⟩ := w.mlet
      refine mE_iastore c147_32 (ok_lit rfl rfl rfl) g5 g6 (r4_n rfl) ?_
      refine mE_M m10 ?_
      refine mE_iconst c147_33 ?_
      exact mE_zret c147_34 qr147 (Or.inr rfl) w.osome
    · have w := w.neg e8
      refine mE_icmp_eq_F (t := 23) c147_18 rfl u7 (r4_n rfl) e8 ?_
      refine mE_iconst c147_21 ?_
      exact mE_zret c147_22 qr147 (Or.inl rfl) w.osome
theorem s147 {X : Nat × Nat × qC} {d : Nat} {x1 : Int} {M : Mm} {R : Int × Mm → Prop} (hx1 : R4 x1) (w : Wp (f147 x1 M) R) : mC X (d + 3) 147 1 [.ref 142, .int (Int32.ofInt x1)] M (fun v M2 => R (v, M2)) :=
  mC_of (qent_mk qx147 rfl rfl rfl) (t147 hx1 w)
/-! SaggingNetModel.order -/
noncomputable def f151 (x1 : Int) (x2 : Int) (M : Mm) : Option (Int × Mm) :=
  (f129 x1 M).bind fun v1 =>
  if v1 = 0 then
  (some ((-1), M))
  else
  ((f129 x2 M).bind fun v5 =>
  if v5 = 0 then
  (some ((-1), M))
  else
  (obnd (f109 M) fun v9 M10 =>
  if v9 = 0 then
  (some (4, M10))
  else
  (gd (0 ≤ x1 ∧ x1 < 40) (
  gd (0 ≤ x2 ∧ x2 < 40) (
  gd (R4 ((M10 194 (x1).toNat) - (M10 194 (x2).toNat))) (
  gd (R4 (5 * (M10 193 (x1).toNat))) (
  gd (R4 ((5 * (M10 193 (x1).toNat)) + (M10 193 (x2).toNat))) (
  gd (0 ≤ ((5 * (M10 193 (x1).toNat)) + (M10 193 (x2).toNat)) ∧ ((5 * (M10 193 (x1).toNat)) + (M10 193 (x2).toNat)) < 25) (
  gd (R4 (((M10 194 (x1).toNat) - (M10 194 (x2).toNat)) - (M10 197 (((5 * (M10 193 (x1).toNat)) + (M10 193 (x2).toNat))).toNat))) (
  gd (R4 (5 * (M10 193 (x2).toNat))) (
  gd (R4 ((5 * (M10 193 (x2).toNat)) + (M10 193 (x1).toNat))) (
  gd (0 ≤ ((5 * (M10 193 (x2).toNat)) + (M10 193 (x1).toNat)) ∧ ((5 * (M10 193 (x2).toNat)) + (M10 193 (x1).toNat)) < 25) (
  gd (R4 (((M10 194 (x1).toNat) - (M10 194 (x2).toNat)) + (M10 197 (((5 * (M10 193 (x2).toNat)) + (M10 193 (x1).toNat))).toNat))) (
  if (((M10 194 (x1).toNat) - (M10 194 (x2).toNat)) + (M10 197 (((5 * (M10 193 (x2).toNat)) + (M10 193 (x1).toNat))).toNat)) < 0 then
  (some (0, M10))
  else
  (if 0 < (((M10 194 (x1).toNat) - (M10 194 (x2).toNat)) - (M10 197 (((5 * (M10 193 (x1).toNat)) + (M10 193 (x2).toNat))).toNat)) then
  (some (1, M10))
  else
  (if (((M10 194 (x1).toNat) - (M10 194 (x2).toNat)) - (M10 197 (((5 * (M10 193 (x1).toNat)) + (M10 193 (x2).toNat))).toNat)) = 0 then
  (if (((M10 194 (x1).toNat) - (M10 194 (x2).toNat)) + (M10 197 (((5 * (M10 193 (x2).toNat)) + (M10 193 (x1).toNat))).toNat)) = 0 then
  (some (2, M10))
  else
  (some (3, M10)))
  else
  (some (3, M10))))))))))))))))))
theorem t151 {X : Nat × Nat × qC} {d : Nat} {x1 : Int} {x2 : Int} {M : Mm}  {R : Int × Mm → Prop} (hx1 : R4 x1) (hx2 : R4 x2) (w : Wp (f151 x1 x2 M) R) : mE X (d + 2) 151 1 0 [some (.ref 142), some (.int (Int32.ofInt x1)), some (.int (Int32.ofInt x2)), none, none, none, none, none] [] M (fun v M2 => R (v, M2)) := by
  refine mE_aload_n c151_0 rfl ?_
  refine mE_iload_n c151_1 rfl ?_
  refine mE_virtual1 (b := 142) (as := [.int (Int32.ofInt x1)]) (r := []) c151_2 qo151 qK12_513 qo129 rfl rfl rfl (ok_lit rfl rfl rfl) (Nat.le_of_ble_eq_true rfl) (s129 (d := d + 0) hx1 w.obind) ?_
  rintro v1 _ q3 ⟨rfl, w⟩
  by_cases e4 : v1 = 0
  · have w := w.pos e4
    refine mE_if_eq_T (t := 16) c151_5 rfl q3 e4 ?_
    refine mE_iconst c151_16 ?_
    exact mE_iret c151_17 qr151 (r4_n rfl) w.osome
  · have w := w.neg e4
    refine mE_if_eq_F (t := 16) c151_5 rfl q3 e4 ?_
    refine mE_aload_n c151_8 rfl ?_
    refine mE_iload_n c151_9 rfl ?_
    refine mE_virtual1 (b := 142) (as := [.int (Int32.ofInt x2)]) (r := []) c151_10 qo151 qK12_513 qo129 rfl rfl rfl (ok_lit rfl rfl rfl) (Nat.le_of_ble_eq_true rfl) (s129 (d := d + 0) hx2 w.obind) ?_
    rintro v5 _ q7 ⟨rfl, w⟩
    by_cases e8 : v5 = 0
    · have w := w.pos e8
      refine mE_if_ne_F (t := 18) c151_13 rfl q7 e8 ?_
      refine mE_iconst c151_16 ?_
      exact mE_iret c151_17 qr151 (r4_n rfl) w.osome
    · have w := w.neg e8
      refine mE_if_ne_T (t := 18) c151_13 rfl q7 e8 ?_
      refine mE_aload_n c151_18 rfl ?_
      refine mE_virtual1 (b := 142) (as := []) (r := []) c151_19 qo151 qK12_521 qo109 rfl rfl rfl (ok_lit rfl rfl rfl) (Nat.le_of_ble_eq_true rfl) (s109 (d := d + 0) w.oc) ?_
      intro v9 M10 q11 w
      by_cases e12 : v9 = 0
      · have w := w.pos e12
        refine mE_if_ne_F (t := 27) c151_22 rfl q11 e12 ?_
        refine mE_iconst c151_25 ?_
        exact mE_iret c151_26 qr151 (r4_n rfl) w.osome
      · have w := w.neg e12
        refine mE_if_ne_T (t := 27) c151_22 rfl q11 e12 ?_
        refine mE_aload_n c151_27 rfl ?_
        refine mE_getA c151_28 qo151 qF12_164 (ok_lit rfl rfl rfl) rfl ⟨by decide, by decide⟩ ?_
        refine mE_iload_n c151_31 rfl ?_
        obtain ⟨g13, w⟩ := w.ogd
        refine mE_iaload c151_32 (ok_lit rfl rfl rfl) hx1 g13 ?_
        intro u14
        refine mE_istore_n (ls2 := [some (.ref 142), some (.int (Int32.ofInt x1)), some (.int (Int32.ofInt x2)), some (.int (Int32.ofInt (M10 193 (x1).toNat))), none, none, none, none]) c151_33 (Nat.le_of_ble_eq_true rfl) rfl ?_
        refine mE_aload_n c151_34 rfl ?_
        refine mE_getA c151_35 qo151 qF12_164 (ok_lit rfl rfl rfl) rfl ⟨by decide, by decide⟩ ?_
        refine mE_iload_n c151_38 rfl ?_
        obtain ⟨g15, w⟩ := w.ogd
        refine mE_iaload c151_39 (ok_lit rfl rfl rfl) hx2 g15 ?_
        intro u16
        refine mE_istore (ls2 := [some (.ref 142), some (.int (Int32.ofInt x1)), some (.int (Int32.ofInt x2)), some (.int (Int32.ofInt (M10 193 (x1).toNat))), some (.int (Int32.ofInt (M10 193 (x2).toNat))), none, none, none]) c151_40 (Nat.le_of_ble_eq_true rfl) rfl ?_
        refine mE_aload_n c151_42 rfl ?_
        refine mE_getA c151_43 qo151 qF12_167 (ok_lit rfl rfl rfl) rfl ⟨by decide, by decide⟩ ?_
        refine mE_iload_n c151_46 rfl ?_
        refine mE_iaload c151_47 (ok_lit rfl rfl rfl) hx1 g13 ?_
        intro u17
        refine mE_aload_n c151_48 rfl ?_
        refine mE_getA c151_49 qo151 qF12_167 (ok_lit rfl rfl rfl) rfl ⟨by decide, by decide⟩ ?_
        refine mE_iload_n c151_52 rfl ?_
        refine mE_iaload c151_53 (ok_lit rfl rfl rfl) hx2 g15 ?_
        intro u18
        obtain ⟨g19, w⟩ := w.ogd
        refine mE_isub c151_54 ?_
        refine mE_istore (ls2 := [some (.ref 142), some (.int (Int32.ofInt x1)), some (.int (Int32.ofInt x2)), some (.int (Int32.ofInt (M10 193 (x1).toNat))), some (.int (Int32.ofInt (M10 193 (x2).toNat))), some (.int (Int32.ofInt ((M10 194 (x1).toNat) - (M10 194 (x2).toNat)))), none, none]) c151_55 (Nat.le_of_ble_eq_true rfl) rfl ?_
        refine mE_iload c151_57 rfl ?_
        refine mE_aload_n c151_59 rfl ?_
        refine mE_getA c151_60 qo151 qF12_176 (ok_lit rfl rfl rfl) rfl ⟨by decide, by decide⟩ ?_
        refine mE_iconst c151_63 ?_
        refine mE_iload_n c151_64 rfl ?_
        obtain ⟨g20, w⟩ := w.ogd
        refine mE_imul c151_65 ?_
        refine mE_iload c151_66 rfl ?_
        obtain ⟨g21, w⟩ := w.ogd
        refine mE_iadd c151_68 ?_
        obtain ⟨g22, w⟩ := w.ogd
        refine mE_iaload c151_69 (ok_lit rfl rfl rfl) g21 g22 ?_
        intro u23
        obtain ⟨g24, w⟩ := w.ogd
        refine mE_isub c151_70 ?_
        refine mE_istore (ls2 := [some (.ref 142), some (.int (Int32.ofInt x1)), some (.int (Int32.ofInt x2)), some (.int (Int32.ofInt (M10 193 (x1).toNat))), some (.int (Int32.ofInt (M10 193 (x2).toNat))), some (.int (Int32.ofInt ((M10 194 (x1).toNat) - (M10 194 (x2).toNat)))), some (.int (Int32.ofInt (((M10 194 (x1).toNat) - (M10 194 (x2).toNat)) - (M10 197 (((5 * (M10 193 (x1).toNat)) + (M10 193 (x2).toNat))).toNat)))), none]) c151_71 (Nat.le_of_ble_eq_true rfl) rfl ?_
        refine mE_iload c151_73 rfl ?_
        refine mE_aload_n c151_75 rfl ?_
        refine mE_getA c151_76 qo151 qF12_176 (ok_lit rfl rfl rfl) rfl ⟨by decide, by decide⟩ ?_
        refine mE_iconst c151_79 ?_
        refine mE_iload c151_80 rfl ?_
        obtain ⟨g25, w⟩ := w.ogd
        refine mE_imul c151_82 ?_
        refine mE_iload_n c151_83 rfl ?_
        obtain ⟨g26, w⟩ := w.ogd
        refine mE_iadd c151_84 ?_
        obtain ⟨g27, w⟩ := w.ogd
        refine mE_iaload c151_85 (ok_lit rfl rfl rfl) g26 g27 ?_
        intro u28
        obtain ⟨g29, w⟩ := w.ogd
        refine mE_iadd c151_86 ?_
        refine mE_istore (ls2 := [some (.ref 142), some (.int (Int32.ofInt x1)), some (.int (Int32.ofInt x2)), some (.int (Int32.ofInt (M10 193 (x1).toNat))), some (.int (Int32.ofInt (M10 193 (x2).toNat))), some (.int (Int32.ofInt ((M10 194 (x1).toNat) - (M10 194 (x2).toNat)))), some (.int (Int32.ofInt (((M10 194 (x1).toNat) - (M10 194 (x2).toNat)) - (M10 197 (((5 * (M10 193 (x1).toNat)) + (M10 193 (x2).toNat))).toNat)))), some (.int (Int32.ofInt (((M10 194 (x1).toNat) - (M10 194 (x2).toNat)) + (M10 197 (((5 * (M10 193 (x2).toNat)) + (M10 193 (x1).toNat))).toNat))))]) c151_87 (Nat.le_of_ble_eq_true rfl) rfl ?_
        refine mE_iload c151_89 rfl ?_
        by_cases e30 : (((M10 194 (x1).toNat) - (M10 194 (x2).toNat)) + (M10 197 (((5 * (M10 193 (x2).toNat)) + (M10 193 (x1).toNat))).toNat)) < 0
        · have w := w.pos e30
          refine mE_if_ge_F (t := 98) c151_91 rfl g29 e30 ?_
          refine mE_iconst c151_94 ?_
          refine mE_goto (t := 122) c151_95 rfl ?_
          exact mE_iret c151_122 qr151 (r4_n rfl) w.osome
        · have w := w.neg e30
          refine mE_if_ge_T (t := 98) c151_91 rfl g29 e30 ?_
          refine mE_iload c151_98 rfl ?_
          by_cases e31 : 0 < (((M10 194 (x1).toNat) - (M10 194 (x2).toNat)) - (M10 197 (((5 * (M10 193 (x1).toNat)) + (M10 193 (x2).toNat))).toNat))
          · have w := w.pos e31
            refine mE_if_le_F (t := 107) c151_100 rfl g24 e31 ?_
            refine mE_iconst c151_103 ?_
            refine mE_goto (t := 122) c151_104 rfl ?_
            exact mE_iret c151_122 qr151 (r4_n rfl) w.osome
          · have w := w.neg e31
            refine mE_if_le_T (t := 107) c151_100 rfl g24 e31 ?_
            refine mE_iload c151_107 rfl ?_
            by_cases e32 : (((M10 194 (x1).toNat) - (M10 194 (x2).toNat)) - (M10 197 (((5 * (M10 193 (x1).toNat)) + (M10 193 (x2).toNat))).toNat)) = 0
            · have w := w.pos e32
              refine mE_if_ne_F (t := 121) c151_109 rfl g24 e32 ?_
              refine mE_iload c151_112 rfl ?_
              by_cases e33 : (((M10 194 (x1).toNat) - (M10 194 (x2).toNat)) + (M10 197 (((5 * (M10 193 (x2).toNat)) + (M10 193 (x1).toNat))).toNat)) = 0
              · have w := w.pos e33
                refine mE_if_ne_F (t := 121) c151_114 rfl g29 e33 ?_
                refine mE_iconst c151_117 ?_
                refine mE_goto (t := 122) c151_118 rfl ?_
                exact mE_iret c151_122 qr151 (r4_n rfl) w.osome
              · have w := w.neg e33
                refine mE_if_ne_T (t := 121) c151_114 rfl g29 e33 ?_
                refine mE_iconst c151_121 ?_
                exact mE_iret c151_122 qr151 (r4_n rfl) w.osome
            · have w := w.neg e32
              refine mE_if_ne_T (t := 121) c151_109 rfl g24 e32 ?_
              refine mE_iconst c151_121 ?_
              exact mE_iret c151_122 qr151 (r4_n rfl) w.osome
theorem s151 {X : Nat × Nat × qC} {d : Nat} {x1 : Int} {x2 : Int} {M : Mm} {R : Int × Mm → Prop} (hx1 : R4 x1) (hx2 : R4 x2) (w : Wp (f151 x1 x2 M) R) : mC X (d + 3) 151 1 [.ref 142, .int (Int32.ofInt x1), .int (Int32.ofInt x2)] M (fun v M2 => R (v, M2)) :=
  mC_of (qent_mk qx151 rfl rfl rfl) (t151 hx1 hx2 w)
/-! SaggingNetModel.row -/
noncomputable def f157 (x1 : Int) (x2 : Int) (M : Mm) : Option (Int × Mm) :=
  if (M 142 8) = 40 then
  (some ((-1), M))
  else
  ((f126 x1 M).bind fun v3 =>
  if v3 = 0 then
  (some ((-1), M))
  else
  ((f143 x2 0 9999 M).bind fun v7 =>
  if v7 = 0 then
  (some ((-1), M))
  else
  (gd (0 ≤ (M 142 8) ∧ (M 142 8) < 40) (
  mlet (ms M 193 ((M 142 8)).toNat x1) fun M13 =>
  gd (0 ≤ (M13 142 8) ∧ (M13 142 8) < 40) (
  mlet (ms M13 194 ((M13 142 8)).toNat x2) fun M17 =>
  gd (R4 ((M17 142 8) + 1)) (
  mlet (ms M17 142 8 ((M17 142 8) + 1)) fun M21 =>
  gd (R4 ((M21 142 8) - 1)) (
  some (((M21 142 8) - 1), M21))))))))
theorem t157 {X : Nat × Nat × qC} {d : Nat} {x1 : Int} {x2 : Int} {M : Mm}  {R : Int × Mm → Prop} (hx1 : R4 x1) (hx2 : R4 x2) (w : Wp (f157 x1 x2 M) R) : mE X (d + 2) 157 1 0 [some (.ref 142), some (.int (Int32.ofInt x1)), some (.int (Int32.ofInt x2))] [] M (fun v M2 => R (v, M2)) := by
  refine mE_aload_n c157_0 rfl ?_
  refine mE_getI c157_1 qo157 qF12_505 (ok_lit rfl rfl rfl) rfl ?_
  intro u1
  refine mE_bipush (x := 40) c157_4 rfl ?_
  by_cases e2 : (M 142 8) = 40
  · have w := w.pos e2
    refine mE_icmp_eq_T (t := 28) c157_6 rfl u1 (r4_n rfl) e2 ?_
    refine mE_iconst c157_28 ?_
    exact mE_iret c157_29 qr157 (r4_n rfl) w.osome
  · have w := w.neg e2
    refine mE_icmp_eq_F (t := 28) c157_6 rfl u1 (r4_n rfl) e2 ?_
    refine mE_iload_n c157_9 rfl ?_
    refine mE_static1 (as := [.int (Int32.ofInt x1)]) (r := []) c157_10 qo157 (by decide) qK12_205 rfl rfl rfl (Nat.le_of_ble_eq_true rfl) (s126 (d := d + 0) hx1 w.obind) ?_
    rintro v3 _ q5 ⟨rfl, w⟩
    by_cases e6 : v3 = 0
    · have w := w.pos e6
      refine mE_if_eq_T (t := 28) c157_13 rfl q5 e6 ?_
      refine mE_iconst c157_28 ?_
      exact mE_iret c157_29 qr157 (r4_n rfl) w.osome
    · have w := w.neg e6
      refine mE_if_eq_F (t := 28) c157_13 rfl q5 e6 ?_
      refine mE_iload_n c157_16 rfl ?_
      refine mE_i2l c157_17 hx2 ?_
      refine mE_lconst (x := 0) c157_18 rfl ?_
      refine mE_ldc2_w (x := 9999) c157_19 qo157 qJ12_508 rfl ?_
      refine mE_static1 (as := [.long (Int64.ofInt x2), .long (Int64.ofInt 0), .long (Int64.ofInt 9999)]) (r := []) c157_22 qo157 (by decide) qK12_190 rfl rfl rfl (Nat.le_of_ble_eq_true rfl) (s143 (d := d + 1) (R4.to8 hx2) (r8_n rfl) (r8_n rfl) w.obind) ?_
      rintro v7 _ q9 ⟨rfl, w⟩
      by_cases e10 : v7 = 0
      · have w := w.pos e10
        refine mE_if_ne_F (t := 30) c157_25 rfl q9 e10 ?_
        refine mE_iconst c157_28 ?_
        exact mE_iret c157_29 qr157 (r4_n rfl) w.osome
      · have w := w.neg e10
        refine mE_if_ne_T (t := 30) c157_25 rfl q9 e10 ?_
        refine mE_aload_n c157_30 rfl ?_
        refine mE_getA c157_31 qo157 qF12_164 (ok_lit rfl rfl rfl) rfl ⟨by decide, by decide⟩ ?_
        refine mE_aload_n c157_34 rfl ?_
        refine mE_getI c157_35 qo157 qF12_505 (ok_lit rfl rfl rfl) rfl ?_
        intro u11
        refine mE_iload_n c157_38 rfl ?_
        obtain ⟨g12, w⟩ := w.ogd
        obtain ⟨M13, m14, w⟩ := w.mlet
        refine mE_iastore c157_39 (ok_lit rfl rfl rfl) u11 g12 hx1 ?_
        refine mE_M m14 ?_
        refine mE_aload_n c157_40 rfl ?_
        refine mE_getA c157_41 qo157 qF12_167 (ok_lit rfl rfl rfl) rfl ⟨by decide, by decide⟩ ?_
        refine mE_aload_n c157_44 rfl ?_
        refine mE_getI c157_45 qo157 qF12_505 (ok_lit rfl rfl rfl) rfl ?_
        intro u15
        refine mE_iload_n c157_48 rfl ?_
        obtain ⟨g16, w⟩ := w.ogd
        obtain ⟨M17, m18, w⟩ := w.mlet
        refine mE_iastore c157_49 (ok_lit rfl rfl rfl) u15 g16 hx2 ?_
        refine mE_M m18 ?_
        refine mE_aload_n c157_50 rfl ?_
        refine mE_dup c157_51 rfl ?_
        refine mE_getI c157_52 qo157 qF12_505 (ok_lit rfl rfl rfl) rfl ?_
        intro u19
        refine mE_iconst c157_55 ?_
        obtain ⟨g20, w⟩ := w.ogd
        refine mE_iadd c157_56 ?_
        obtain ⟨M21, m22, w⟩ := w.mlet
        refine mE_putI c157_57 qo157 qF12_505 qz12_8 (ok_lit rfl rfl rfl) (Nat.le_of_ble_eq_true rfl) rfl g20 (by rw [qy12_8]; rfl) ?_
        refine mE_M m22 ?_
        refine mE_aload_n c157_60 rfl ?_
        refine mE_getI c157_61 qo157 qF12_505 (ok_lit rfl rfl rfl) rfl ?_
        intro u23
        refine mE_iconst c157_64 ?_
        obtain ⟨g24, w⟩ := w.ogd
        refine mE_isub c157_65 ?_
        exact mE_iret c157_66 qr157 g24 w.osome
theorem s157 {X : Nat × Nat × qC} {d : Nat} {x1 : Int} {x2 : Int} {M : Mm} {R : Int × Mm → Prop} (hx1 : R4 x1) (hx2 : R4 x2) (w : Wp (f157 x1 x2 M) R) : mC X (d + 3) 157 1 [.ref 142, .int (Int32.ofInt x1), .int (Int32.ofInt x2)] M (fun v M2 => R (v, M2)) :=
  mC_of (qent_mk qx157 rfl rfl rfl) (t157 hx1 hx2 w)
/-! SaggingNetModel.rules -/
def E158_194 (X : Nat × Nat × qC) (d : Nat)  (R : Int × Mm → Prop) : Int × Mm → Prop := fun s => R4 s.1 → ∀ (y1 : Int32), ∀ (y2 : Int32), mE X (d + 7) 158 1 194 [some (.ref 142), some (.int y1), some (.int y2), some (.int (Int32.ofInt s.1))] [] s.2 (fun v M2 => R (v, M2))
def E158_142 (X : Nat × Nat × qC) (d : Nat)  (R : Int × Mm → Prop) : Int × Mm → Prop := fun s => R4 s.1 → ∀ (y1 : Int32), ∀ (y2 : Int32), mE X (d + 7) 158 1 142 [some (.ref 142), some (.int y1), some (.int y2), some (.int (Int32.ofInt s.1))] [] s.2 (fun v M2 => R (v, M2))
def E158_54 (X : Nat × Nat × qC) (d : Nat)  (R : Int × Mm → Prop) : Int × Mm → Prop := fun s => R4 s.1 → ∀ (y1 : Int32), mE X (d + 7) 158 1 54 [some (.ref 142), some (.int y1), some (.int (Int32.ofInt s.1)), none] [] s.2 (fun v M2 => R (v, M2))
noncomputable def lb158_194 (x3 : Int) (M : Mm) : Option ((Int × Mm) ⊕ (Int × Mm)) :=
  if x3 < (M 142 48) then
  (gd (0 ≤ x3 ∧ x3 < 160) (
  mlet (ms M 170 (x3).toNat (M 175 (x3).toNat)) fun M5 =>
  mlet (ms M5 171 (x3).toNat (M5 176 (x3).toNat)) fun M8 =>
  gd (R4 (x3 + 1)) (
  some (.inl ((x3 + 1), M8)))))
  else
  (oinr (mlet (ms M 142 6 (M 142 47)) fun M4 =>
  some ((M4 142 47), M4)))
noncomputable def f158_194 (x3 : Int) (M : Mm) : Option (Int × Mm) := lp (fun s : Int × Mm => lb158_194  s.1 s.2) (x3, M)
theorem tb158_194 {X : Nat × Nat × qC} {d : Nat} {x3 : Int} {M : Mm} {y1 : Int32} {y2 : Int32} {R : Int × Mm → Prop} (hx3 : R4 x3) (w : Wp (lb158_194 x3 M) (Sum.elim (E158_194 X d  R) R)) : mE X (d + 7) 158 1 194 [some (.ref 142), some (.int y1), some (.int y2), some (.int (Int32.ofInt x3))] [] M (fun v M2 => R (v, M2)) := by
  refine mE_iload_n c158_194 rfl ?_
  refine mE_aload_n c158_195 rfl ?_
  refine mE_getI c158_196 qo158 qF12_303 (ok_lit rfl rfl rfl) rfl ?_
  intro u1
  by_cases e2 : x3 < (M 142 48)
  · have w := w.pos e2
    refine mE_icmp_ge_F (t := 232) c158_199 rfl hx3 u1 e2 ?_
    refine mE_aload_n c158_202 rfl ?_
    refine mE_getA c158_203 qo158 qF12_95 (ok_lit rfl rfl rfl) rfl ⟨by decide, by decide⟩ ?_
    refine mE_iload_n c158_206 rfl ?_
    refine mE_aload_n c158_207 rfl ?_
    refine mE_getA c158_208 qo158 qF12_110 (ok_lit rfl rfl rfl) rfl ⟨by decide, by decide⟩ ?_
    refine mE_iload_n c158_211 rfl ?_
    obtain ⟨g3, w⟩ := w.ogd
    refine mE_iaload c158_212 (ok_lit rfl rfl rfl) hx3 g3 ?_
    intro u4
    obtain ⟨M5, m6, w⟩ := w.mlet
    refine mE_iastore c158_213 (ok_lit rfl rfl rfl) hx3 g3 u4 ?_
    refine mE_M m6 ?_
    refine mE_aload_n c158_214 rfl ?_
    refine mE_getA c158_215 qo158 qF12_98 (ok_lit rfl rfl rfl) rfl ⟨by decide, by decide⟩ ?_
    refine mE_iload_n c158_218 rfl ?_
    refine mE_aload_n c158_219 rfl ?_
    refine mE_getA c158_220 qo158 qF12_113 (ok_lit rfl rfl rfl) rfl ⟨by decide, by decide⟩ ?_
    refine mE_iload_n c158_223 rfl ?_
    refine mE_iaload c158_224 (ok_lit rfl rfl rfl) hx3 g3 ?_
    intro u7
    obtain ⟨M8, m9, w⟩ := w.mlet
    refine mE_iastore c158_225 (ok_lit rfl rfl rfl) hx3 g3 u7 ?_
    refine mE_M m9 ?_
    obtain ⟨g10, w⟩ := w.ogd
    refine mE_iinc (ls2 := [some (.ref 142), some (.int y1), some (.int y2), some (.int (Int32.ofInt (x3 + 1)))]) c158_226 rfl (Nat.le_of_ble_eq_true rfl) rfl ?_
    refine mE_goto (t := 194) c158_229 rfl ?_
    exact w.osome g10 _ _
  · have w := w.neg e2
    refine mE_icmp_ge_T (t := 232) c158_199 rfl hx3 u1 e2 ?_
    have w := w.oinr
    refine mE_aload_n c158_232 rfl ?_
    refine mE_aload_n c158_233 rfl ?_
    refine mE_getI c158_234 qo158 qF12_329 (ok_lit rfl rfl rfl) rfl ?_
    intro u3
    obtain ⟨M4, m5, w⟩ := w.mlet
    refine mE_putI c158_237 qo158 qF12_393 qz12_6 (ok_lit rfl rfl rfl) (Nat.le_of_ble_eq_true rfl) rfl u3 (by rw [qy12_6]; rfl) ?_
    refine mE_M m5 ?_
    refine mE_aload_n c158_240 rfl ?_
    refine mE_getI c158_241 qo158 qF12_329 (ok_lit rfl rfl rfl) rfl ?_
    intro u6
    exact mE_iret c158_244 qr158 u6 w.osome
theorem t158_194 {X : Nat × Nat × qC} {d : Nat} {x3 : Int} {M : Mm} {y1 : Int32} {y2 : Int32} {R : Int × Mm → Prop} (hx3 : R4 x3) (w : Wp (f158_194 x3 M) R) : mE X (d + 7) 158 1 194 [some (.ref 142), some (.int y1), some (.int y2), some (.int (Int32.ofInt x3))] [] M (fun v M2 => R (v, M2)) :=
  Wp.olp (f := fun s : Int × Mm => lb158_194  s.1 s.2) (s := (x3, M)) (E := E158_194 X d  R) w (fun s w hx3 _ _ => tb158_194 hx3 w) hx3 _ _
noncomputable def lb158_142 (x3 : Int) (M : Mm) : Option ((Int × Mm) ⊕ (Int × Mm)) :=
  if x3 < (M 142 47) then
  (gd (0 ≤ x3 ∧ x3 < 12) (
  mlet (ms M 167 (x3).toNat (M 172 (x3).toNat)) fun M5 =>
  mlet (ms M5 168 (x3).toNat (M5 173 (x3).toNat)) fun M8 =>
  mlet (ms M8 169 (x3).toNat (M8 174 (x3).toNat)) fun M11 =>
  gd (R4 (x3 + 1)) (
  some (.inl ((x3 + 1), M11)))))
  else
  (oinr (f158_194 0 M))
noncomputable def f158_142 (x3 : Int) (M : Mm) : Option (Int × Mm) := lp (fun s : Int × Mm => lb158_142  s.1 s.2) (x3, M)
theorem tb158_142 {X : Nat × Nat × qC} {d : Nat} {x3 : Int} {M : Mm} {y1 : Int32} {y2 : Int32} {R : Int × Mm → Prop} (hx3 : R4 x3) (w : Wp (lb158_142 x3 M) (Sum.elim (E158_142 X d  R) R)) : mE X (d + 7) 158 1 142 [some (.ref 142), some (.int y1), some (.int y2), some (.int (Int32.ofInt x3))] [] M (fun v M2 => R (v, M2)) := by
  refine mE_iload_n c158_142 rfl ?_
  refine mE_aload_n c158_143 rfl ?_
  refine mE_getI c158_144 qo158 qF12_329 (ok_lit rfl rfl rfl) rfl ?_
  intro u1
  by_cases e2 : x3 < (M 142 47)
  · have w := w.pos e2
    refine mE_icmp_ge_F (t := 192) c158_147 rfl hx3 u1 e2 ?_
    refine mE_aload_n c158_150 rfl ?_
    refine mE_getA c158_151 qo158 qF12_86 (ok_lit rfl rfl rfl) rfl ⟨by decide, by decide⟩ ?_
    refine mE_iload_n c158_154 rfl ?_
    refine mE_aload_n c158_155 rfl ?_
    refine mE_getA c158_156 qo158 qF12_101 (ok_lit rfl rfl rfl) rfl ⟨by decide, by decide⟩ ?_
    refine mE_iload_n c158_159 rfl ?_
    obtain ⟨g3, w⟩ := w.ogd
    refine mE_iaload c158_160 (ok_lit rfl rfl rfl) hx3 g3 ?_
    intro u4
    obtain ⟨M5, m6, w⟩ := w.mlet
    refine mE_iastore c158_161 (ok_lit rfl rfl rfl) hx3 g3 u4 ?_
    refine mE_M m6 ?_
    refine mE_aload_n c158_162 rfl ?_
    refine mE_getA c158_163 qo158 qF12_89 (ok_lit rfl rfl rfl) rfl ⟨by decide, by decide⟩ ?_
    refine mE_iload_n c158_166 rfl ?_
    refine mE_aload_n c158_167 rfl ?_
    refine mE_getA c158_168 qo158 qF12_104 (ok_lit rfl rfl rfl) rfl ⟨by decide, by decide⟩ ?_
    refine mE_iload_n c158_171 rfl ?_
    refine mE_iaload c158_172 (ok_lit rfl rfl rfl) hx3 g3 ?_
    intro u7
    obtain ⟨M8, m9, w⟩ := w.mlet
    refine mE_iastore c158_173 (ok_lit rfl rfl rfl) hx3 g3 u7 ?_
    refine mE_M m9 ?_
    refine mE_aload_n c158_174 rfl ?_
    refine mE_getA c158_175 qo158 qF12_92 (ok_lit rfl rfl rfl) rfl ⟨by decide, by decide⟩ ?_
    refine mE_iload_n c158_178 rfl ?_
    refine mE_aload_n c158_179 rfl ?_
    refine mE_getA c158_180 qo158 qF12_107 (ok_lit rfl rfl rfl) rfl ⟨by decide, by decide⟩ ?_
    refine mE_iload_n c158_183 rfl ?_
    refine mE_iaload c158_184 (ok_lit rfl rfl rfl) hx3 g3 ?_
    intro u10
    obtain ⟨M11, m12, w⟩ := w.mlet
    refine mE_iastore c158_185 (ok_lit rfl rfl rfl) hx3 g3 u10 ?_
    refine mE_M m12 ?_
    obtain ⟨g13, w⟩ := w.ogd
    refine mE_iinc (ls2 := [some (.ref 142), some (.int y1), some (.int y2), some (.int (Int32.ofInt (x3 + 1)))]) c158_186 rfl (Nat.le_of_ble_eq_true rfl) rfl ?_
    refine mE_goto (t := 142) c158_189 rfl ?_
    exact w.osome g13 _ _
  · have w := w.neg e2
    refine mE_icmp_ge_T (t := 192) c158_147 rfl hx3 u1 e2 ?_
    have w := w.oinr
    refine mE_iconst c158_192 ?_
    refine mE_istore_n (ls2 := [some (.ref 142), some (.int y1), some (.int y2), some (.int (Int32.ofInt 0))]) c158_193 (Nat.le_of_ble_eq_true rfl) rfl ?_
    exact t158_194 (r4_n rfl) w
theorem t158_142 {X : Nat × Nat × qC} {d : Nat} {x3 : Int} {M : Mm} {y1 : Int32} {y2 : Int32} {R : Int × Mm → Prop} (hx3 : R4 x3) (w : Wp (f158_142 x3 M) R) : mE X (d + 7) 158 1 142 [some (.ref 142), some (.int y1), some (.int y2), some (.int (Int32.ofInt x3))] [] M (fun v M2 => R (v, M2)) :=
  Wp.olp (f := fun s : Int × Mm => lb158_142  s.1 s.2) (s := (x3, M)) (E := E158_142 X d  R) w (fun s w hx3 _ _ => tb158_142 hx3 w) hx3 _ _
noncomputable def f158_128  (M : Mm) : Option (Int × Mm) :=
  if (M 142 46) < 0 then
  (some ((M 142 46), M))
  else
  (f158_142 0 M)
theorem t158_128 {X : Nat × Nat × qC} {d : Nat}  {M : Mm} {y1 : Int32} {y2 : Int32} {R : Int × Mm → Prop}  (w : Wp (f158_128  M) R) : mE X (d + 7) 158 1 128 [some (.ref 142), some (.int y1), some (.int y2), none] [] M (fun v M2 => R (v, M2)) := by
  refine mE_aload_n c158_128 rfl ?_
  refine mE_getI c158_129 qo158 qF12_296 (ok_lit rfl rfl rfl) rfl ?_
  intro u1
  by_cases e2 : (M 142 46) < 0
  · have w := w.pos e2
    refine mE_if_ge_F (t := 140) c158_132 rfl u1 e2 ?_
    refine mE_aload_n c158_135 rfl ?_
    refine mE_getI c158_136 qo158 qF12_296 (ok_lit rfl rfl rfl) rfl ?_
    intro u3
    exact mE_iret c158_139 qr158 u3 w.osome
  · have w := w.neg e2
    refine mE_if_ge_T (t := 140) c158_132 rfl u1 e2 ?_
    refine mE_iconst c158_140 ?_
    refine mE_istore_n (ls2 := [some (.ref 142), some (.int y1), some (.int y2), some (.int (Int32.ofInt 0))]) c158_141 (Nat.le_of_ble_eq_true rfl) rfl ?_
    exact t158_142 (r4_n rfl) w
noncomputable def f158_115 (x2 : Int) (M : Mm) : Option ((Int × Mm) ⊕ (Int × Mm)) :=
  gd (R4 ((M 142 44) + 1)) (
  mlet (ms M 142 44 ((M 142 44) + 1)) fun M3 =>
  some (.inl (x2, M3)))
theorem t158_115 {X : Nat × Nat × qC} {d : Nat} {x2 : Int} {M : Mm} {y1 : Int32} {R : Int × Mm → Prop} (hx2 : R4 x2) (w : Wp (f158_115 x2 M) (Sum.elim (E158_54 X d  R) R)) : mE X (d + 7) 158 1 115 [some (.ref 142), some (.int y1), some (.int (Int32.ofInt x2)), none] [] M (fun v M2 => R (v, M2)) := by
  refine mE_aload_n c158_115 rfl ?_
  refine mE_dup c158_116 rfl ?_
  refine mE_getI c158_117 qo158 qF12_290 (ok_lit rfl rfl rfl) rfl ?_
  intro u1
  refine mE_iconst c158_120 ?_
  obtain ⟨g2, w⟩ := w.ogd
  refine mE_iadd c158_121 ?_
  obtain ⟨M3, m4, w⟩ := w.mlet
  refine mE_putI c158_122 qo158 qF12_290 qz12_44 (ok_lit rfl rfl rfl) (Nat.le_of_ble_eq_true rfl) rfl g2 (by rw [qy12_44]; rfl) ?_
  refine mE_M m4 ?_
  refine mE_goto (t := 54) c158_125 rfl ?_
  exact w.osome hx2 _
noncomputable def lb158_54 (x2 : Int) (M : Mm) : Option ((Int × Mm) ⊕ (Int × Mm)) :=
  if x2 = 0 then
  (oinr (f158_128 M))
  else
  ((f124 M).bind fun v2 =>
  if v2 = 0 then
  (oinr (f158_128 M))
  else
  ((f91 M).bind fun M7 =>
  (f124 M7).bind fun v9 =>
  if v9 = 0 then
  (some (.inl (0, M7)))
  else
  (if (M7 142 44) < (M7 142 45) then
  ((f120 M7).bind fun v16 =>
  if v16 = 59 then
  (f158_115 1 M7)
  else
  ((f190 1 (M7 142 44) M7).bind fun M22 =>
  f158_115 1 M22))
  else
  (some (.inl (0, M7))))))
noncomputable def f158_54 (x2 : Int) (M : Mm) : Option (Int × Mm) := lp (fun s : Int × Mm => lb158_54  s.1 s.2) (x2, M)
theorem tb158_54 {X : Nat × Nat × qC} {d : Nat} {x2 : Int} {M : Mm} {y1 : Int32} {R : Int × Mm → Prop} (hx2 : R4 x2) (w : Wp (lb158_54 x2 M) (Sum.elim (E158_54 X d  R) R)) : mE X (d + 7) 158 1 54 [some (.ref 142), some (.int y1), some (.int (Int32.ofInt x2)), none] [] M (fun v M2 => R (v, M2)) := by
  refine mE_iload_n c158_54 rfl ?_
  by_cases e1 : x2 = 0
  · have w := w.pos e1
    refine mE_if_eq_T (t := 128) c158_55 rfl hx2 e1 ?_
    have w := w.oinr
    exact t158_128  w
  · have w := w.neg e1
    refine mE_if_eq_F (t := 128) c158_55 rfl hx2 e1 ?_
    refine mE_aload_n c158_58 rfl ?_
    refine mE_virtual1 (b := 142) (as := []) (r := []) c158_59 qo158 qK12_299 qo124 rfl rfl rfl (ok_lit rfl rfl rfl) (Nat.le_of_ble_eq_true rfl) (s124 (d := d + 6) w.obind) ?_
    rintro v2 _ q4 ⟨rfl, w⟩
    by_cases e5 : v2 = 0
    · have w := w.pos e5
      refine mE_if_eq_T (t := 128) c158_62 rfl q4 e5 ?_
      have w := w.oinr
      exact t158_128  w
    · have w := w.neg e5
      refine mE_if_eq_F (t := 128) c158_62 rfl q4 e5 ?_
      refine mE_aload_n c158_65 rfl ?_
      refine mE_virtual0 (b := 142) (as := []) (r := []) c158_66 qo158 qK12_390 qo91 rfl rfl rfl (ok_lit rfl rfl rfl) (Nat.le_of_ble_eq_true rfl) (s91 (d := d + 0) w.obind) ?_
      intro _ M7 w
      refine mE_aload_n c158_69 rfl ?_
      refine mE_virtual1 (b := 142) (as := []) (r := []) c158_70 qo158 qK12_299 qo124 rfl rfl rfl (ok_lit rfl rfl rfl) (Nat.le_of_ble_eq_true rfl) (s124 (d := d + 6) w.obind) ?_
      rintro v9 _ q11 ⟨rfl, w⟩
      by_cases e12 : v9 = 0
      · have w := w.pos e12
        refine mE_if_eq_T (t := 91) c158_73 rfl q11 e12 ?_
        refine mE_iconst c158_91 ?_
        refine mE_istore_n (ls2 := [some (.ref 142), some (.int y1), some (.int (Int32.ofInt 0)), none]) c158_92 (Nat.le_of_ble_eq_true rfl) rfl ?_
        refine mE_iload_n c158_93 rfl ?_
        refine mE_if_eq_T (t := 54) c158_94 rfl (r4_n rfl) (by decide) ?_
        exact w.osome (r4_n rfl) _
      · have w := w.neg e12
        refine mE_if_eq_F (t := 91) c158_73 rfl q11 e12 ?_
        refine mE_aload_n c158_76 rfl ?_
        refine mE_getI c158_77 qo158 qF12_290 (ok_lit rfl rfl rfl) rfl ?_
        intro u13
        refine mE_aload_n c158_80 rfl ?_
        refine mE_getI c158_81 qo158 qF12_293 (ok_lit rfl rfl rfl) rfl ?_
        intro u14
        by_cases e15 : (M7 142 44) < (M7 142 45)
        · have w := w.pos e15
          refine mE_icmp_ge_F (t := 91) c158_84 rfl u13 u14 e15 ?_
          refine mE_iconst c158_87 ?_
          refine mE_goto (t := 92) c158_88 rfl ?_
          refine mE_istore_n (ls2 := [some (.ref 142), some (.int y1), some (.int (Int32.ofInt 1)), none]) c158_92 (Nat.le_of_ble_eq_true rfl) rfl ?_
          refine mE_iload_n c158_93 rfl ?_
          refine mE_if_eq_F (t := 54) c158_94 rfl (r4_n rfl) (by decide) ?_
          refine mE_aload_n c158_97 rfl ?_
          refine mE_virtual1 (b := 142) (as := []) (r := []) c158_98 qo158 qK12_315 qo120 rfl rfl rfl (ok_lit rfl rfl rfl) (Nat.le_of_ble_eq_true rfl) (s120 (d := d + 6) w.obind) ?_
          rintro v16 _ q18 ⟨rfl, w⟩
          refine mE_bipush (x := 59) c158_101 rfl ?_
          by_cases e19 : v16 = 59
          · have w := w.pos e19
            refine mE_icmp_eq_T (t := 115) c158_103 rfl q18 (r4_n rfl) e19 ?_
            exact t158_115 (r4_n rfl) w
          · have w := w.neg e19
            refine mE_icmp_eq_F (t := 115) c158_103 rfl q18 (r4_n rfl) e19 ?_
            refine mE_aload_n c158_106 rfl ?_
            refine mE_iconst c158_107 ?_
            refine mE_aload_n c158_108 rfl ?_
            refine mE_getI c158_109 qo158 qF12_290 (ok_lit rfl rfl rfl) rfl ?_
            intro u20
            refine mE_virtual0 (b := 142) (as := [.int (Int32.ofInt 1), .int (Int32.ofInt (M7 142 44))]) (r := []) c158_112 qo158 qK12_312 qo190 rfl rfl rfl (ok_lit rfl rfl rfl) (Nat.le_of_ble_eq_true rfl) (s190 (d := d + 6) (r4_n rfl) u20 w.obind) ?_
            intro _ M22 w
            exact t158_115 (r4_n rfl) w
        · have w := w.neg e15
          refine mE_icmp_ge_T (t := 91) c158_84 rfl u13 u14 e15 ?_
          refine mE_iconst c158_91 ?_
          refine mE_istore_n (ls2 := [some (.ref 142), some (.int y1), some (.int (Int32.ofInt 0)), none]) c158_92 (Nat.le_of_ble_eq_true rfl) rfl ?_
          refine mE_iload_n c158_93 rfl ?_
          refine mE_if_eq_T (t := 54) c158_94 rfl (r4_n rfl) (by decide) ?_
          exact w.osome (r4_n rfl) _
theorem t158_54 {X : Nat × Nat × qC} {d : Nat} {x2 : Int} {M : Mm} {y1 : Int32} {R : Int × Mm → Prop} (hx2 : R4 x2) (w : Wp (f158_54 x2 M) R) : mE X (d + 7) 158 1 54 [some (.ref 142), some (.int y1), some (.int (Int32.ofInt x2)), none] [] M (fun v M2 => R (v, M2)) :=
  Wp.olp (f := fun s : Int × Mm => lb158_54  s.1 s.2) (s := (x2, M)) (E := E158_54 X d  R) w (fun s w hx2 _ => tb158_54 hx2 w) hx2 _
noncomputable def f158 (x1 : Int) (M : Mm) : Option (Int × Mm) :=
  (f143 x1 1 160 M).bind fun v1 =>
  if v1 = 0 then
  (some ((-1), M))
  else
  (if (M 142 1) < x1 then
  (some ((-1), M))
  else
  (mlet (ms M 142 1 0) fun M7 =>
  mlet (ms M7 142 44 0) fun M9 =>
  mlet (ms M9 142 45 x1) fun M11 =>
  mlet (ms M11 142 46 0) fun M13 =>
  mlet (ms M13 142 47 0) fun M15 =>
  mlet (ms M15 142 48 0) fun M17 =>
  f158_54 1 M17))
theorem t158 {X : Nat × Nat × qC} {d : Nat} {x1 : Int} {M : Mm}  {R : Int × Mm → Prop} (hx1 : R4 x1) (w : Wp (f158 x1 M) R) : mE X (d + 7) 158 1 0 [some (.ref 142), some (.int (Int32.ofInt x1)), none, none] [] M (fun v M2 => R (v, M2)) := by
  refine mE_iload_n c158_0 rfl ?_
  refine mE_i2l c158_1 hx1 ?_
  refine mE_lconst (x := 1) c158_2 rfl ?_
  refine mE_ldc2_w (x := 160) c158_3 qo158 qJ12_388 rfl ?_
  refine mE_static1 (as := [.long (Int64.ofInt x1), .long (Int64.ofInt 1), .long (Int64.ofInt 160)]) (r := []) c158_6 qo158 (by decide) qK12_190 rfl rfl rfl (Nat.le_of_ble_eq_true rfl) (s143 (d := d + 6) (R4.to8 hx1) (r8_n rfl) (r8_n rfl) w.obind) ?_
  rintro v1 _ q3 ⟨rfl, w⟩
  by_cases e4 : v1 = 0
  · have w := w.pos e4
    refine mE_if_eq_T (t := 20) c158_9 rfl q3 e4 ?_
    refine mE_iconst c158_20 ?_
    exact mE_iret c158_21 qr158 (r4_n rfl) w.osome
  · have w := w.neg e4
    refine mE_if_eq_F (t := 20) c158_9 rfl q3 e4 ?_
    refine mE_iload_n c158_12 rfl ?_
    refine mE_aload_n c158_13 rfl ?_
    refine mE_getI c158_14 qo158 qF12_283 (ok_lit rfl rfl rfl) rfl ?_
    intro u5
    by_cases e6 : (M 142 1) < x1
    · have w := w.pos e6
      refine mE_icmp_le_F (t := 22) c158_17 rfl hx1 u5 e6 ?_
      refine mE_iconst c158_20 ?_
      exact mE_iret c158_21 qr158 (r4_n rfl) w.osome
    · have w := w.neg e6
      refine mE_icmp_le_T (t := 22) c158_17 rfl hx1 u5 e6 ?_
      refine mE_aload_n c158_22 rfl ?_
      refine mE_iconst c158_23 ?_
      obtain ⟨M7, m8, w⟩ := w.mlet
      refine mE_putI c158_24 qo158 qF12_283 qz12_1 (ok_lit rfl rfl rfl) (Nat.le_of_ble_eq_true rfl) rfl (r4_n rfl) (by rw [qy12_1]; rfl) ?_
      refine mE_M m8 ?_
      refine mE_aload_n c158_27 rfl ?_
      refine mE_iconst c158_28 ?_
      obtain ⟨M9, m10, w⟩ := w.mlet
      refine mE_putI c158_29 qo158 qF12_290 qz12_44 (ok_lit rfl rfl rfl) (Nat.le_of_ble_eq_true rfl) rfl (r4_n rfl) (by rw [qy12_44]; rfl) ?_
      refine mE_M m10 ?_
      refine mE_aload_n c158_32 rfl ?_
      refine mE_iload_n c158_33 rfl ?_
      obtain ⟨M11, m12, w⟩ := w.mlet
      refine mE_putI c158_34 qo158 qF12_293 qz12_45 (ok_lit rfl rfl rfl) (Nat.le_of_ble_eq_true rfl) rfl hx1 (by rw [qy12_45]; rfl) ?_
      refine mE_M m12 ?_
      refine mE_aload_n c158_37 rfl ?_
      refine mE_iconst c158_38 ?_
      obtain ⟨M13, m14, w⟩ := w.mlet
      refine mE_putI c158_39 qo158 qF12_296 qz12_46 (ok_lit rfl rfl rfl) (Nat.le_of_ble_eq_true rfl) rfl (r4_n rfl) (by rw [qy12_46]; rfl) ?_
      refine mE_M m14 ?_
      refine mE_aload_n c158_42 rfl ?_
      refine mE_iconst c158_43 ?_
      obtain ⟨M15, m16, w⟩ := w.mlet
      refine mE_putI c158_44 qo158 qF12_329 qz12_47 (ok_lit rfl rfl rfl) (Nat.le_of_ble_eq_true rfl) rfl (r4_n rfl) (by rw [qy12_47]; rfl) ?_
      refine mE_M m16 ?_
      refine mE_aload_n c158_47 rfl ?_
      refine mE_iconst c158_48 ?_
      obtain ⟨M17, m18, w⟩ := w.mlet
      refine mE_putI c158_49 qo158 qF12_303 qz12_48 (ok_lit rfl rfl rfl) (Nat.le_of_ble_eq_true rfl) rfl (r4_n rfl) (by rw [qy12_48]; rfl) ?_
      refine mE_M m18 ?_
      refine mE_iconst c158_52 ?_
      refine mE_istore_n (ls2 := [some (.ref 142), some (.int (Int32.ofInt x1)), some (.int (Int32.ofInt 1)), none]) c158_53 (Nat.le_of_ble_eq_true rfl) rfl ?_
      exact t158_54 (r4_n rfl) w
theorem s158 {X : Nat × Nat × qC} {d : Nat} {x1 : Int} {M : Mm} {R : Int × Mm → Prop} (hx1 : R4 x1) (w : Wp (f158 x1 M) R) : mC X (d + 8) 158 1 [.ref 142, .int (Int32.ofInt x1)] M (fun v M2 => R (v, M2)) :=
  mC_of (qent_mk qx158 rfl rfl rfl) (t158 hx1 w)
/-! SaggingNetModel.run -/
noncomputable def f159_33 (x1 : Int) (x3 : Int) (M : Mm) : Option (Int × Mm) :=
  gd (R4 (36042 + x1)) (
  gd (0 ≤ (36042 + x1) ∧ (36042 + x1) < 36400) (
  mlet (ms M 144 ((36042 + x1)).toNat x3) fun M3 =>
  some (1, M3)))
theorem t159_33 {X : Nat × Nat × qC} {d : Nat} {x1 : Int} {x3 : Int} {M : Mm} {y2 : Int32} {R : Int × Mm → Prop} (hx1 : R4 x1) (hx3 : R4 x3) (w : Wp (f159_33 x1 x3 M) R) : mE X (d + 2) 159 1 33 [some (.ref 142), some (.int (Int32.ofInt x1)), some (.int y2), some (.int (Int32.ofInt x3))] [] M (fun v M2 => R (v, M2)) := by
  refine mE_aload_n c159_33 rfl ?_
  refine mE_getA c159_34 qo159 qF12_14 (ok_lit rfl rfl rfl) rfl ⟨by decide, by decide⟩ ?_
  refine mE_ldc (x := 36042) c159_37 qo159 qI12_223 rfl ?_
  refine mE_iload_n c159_39 rfl ?_
  obtain ⟨g1, w⟩ := w.ogd
  refine mE_iadd c159_40 ?_
  refine mE_iload_n c159_41 rfl ?_
  obtain ⟨g2, w⟩ := w.ogd
  obtain ⟨M3, m4, w⟩ := w.mlet
  refine mE_iastore c159_42 (ok_lit rfl rfl rfl) g1 g2 hx3 ?_
  refine mE_M m4 ?_
  refine mE_iconst c159_43 ?_
  exact mE_zret c159_44 qr159 (Or.inr rfl) w.osome
noncomputable def f159_18 (x1 : Int) (x3 : Int) (M : Mm) : Option (Int × Mm) :=
  gd (R4 (36042 + x1)) (
  gd (0 ≤ (36042 + x1) ∧ (36042 + x1) < 36400) (
  if (M 144 ((36042 + x1)).toNat) = x3 then
  (some (0, M))
  else
  (f159_33 x1 x3 M)))
theorem t159_18 {X : Nat × Nat × qC} {d : Nat} {x1 : Int} {x3 : Int} {M : Mm} {y2 : Int32} {R : Int × Mm → Prop} (hx1 : R4 x1) (hx3 : R4 x3) (w : Wp (f159_18 x1 x3 M) R) : mE X (d + 2) 159 1 18 [some (.ref 142), some (.int (Int32.ofInt x1)), some (.int y2), some (.int (Int32.ofInt x3))] [] M (fun v M2 => R (v, M2)) := by
  refine mE_aload_n c159_18 rfl ?_
  refine mE_getA c159_19 qo159 qF12_14 (ok_lit rfl rfl rfl) rfl ⟨by decide, by decide⟩ ?_
  refine mE_ldc (x := 36042) c159_22 qo159 qI12_223 rfl ?_
  refine mE_iload_n c159_24 rfl ?_
  obtain ⟨g1, w⟩ := w.ogd
  refine mE_iadd c159_25 ?_
  obtain ⟨g2, w⟩ := w.ogd
  refine mE_iaload c159_26 (ok_lit rfl rfl rfl) g1 g2 ?_
  intro u3
  refine mE_iload_n c159_27 rfl ?_
  by_cases e4 : (M 144 ((36042 + x1)).toNat) = x3
  · have w := w.pos e4
    refine mE_icmp_ne_F (t := 33) c159_28 rfl u3 hx3 e4 ?_
    refine mE_iconst c159_31 ?_
    exact mE_zret c159_32 qr159 (Or.inl rfl) w.osome
  · have w := w.neg e4
    refine mE_icmp_ne_T (t := 33) c159_28 rfl u3 hx3 e4 ?_
    exact t159_33 hx1 hx3 w
noncomputable def f159 (x1 : Int) (x2 : Int) (M : Mm) : Option (Int × Mm) :=
  if x2 = 0 then
  ((f137 x1 M).bind fun v2 =>
  if v2 = 0 then
  (some (0, M))
  else
  (f159_18 x1 0 M))
  else
  ((f137 x1 M).bind fun v2 =>
  if v2 = 0 then
  (some (0, M))
  else
  (f159_18 x1 1 M))
theorem t159 {X : Nat × Nat × qC} {d : Nat} {x1 : Int} {x2 : Int} {M : Mm}  {R : Int × Mm → Prop} (hx1 : R4 x1) (hx2 : R4 x2) (w : Wp (f159 x1 x2 M) R) : mE X (d + 2) 159 1 0 [some (.ref 142), some (.int (Int32.ofInt x1)), some (.int (Int32.ofInt x2)), none] [] M (fun v M2 => R (v, M2)) := by
  refine mE_iload_n c159_0 rfl ?_
  by_cases e1 : x2 = 0
  · have w := w.pos e1
    refine mE_if_eq_T (t := 8) c159_1 rfl hx2 e1 ?_
    refine mE_iconst c159_8 ?_
    refine mE_istore_n (ls2 := [some (.ref 142), some (.int (Int32.ofInt x1)), some (.int (Int32.ofInt x2)), some (.int (Int32.ofInt 0))]) c159_9 (Nat.le_of_ble_eq_true rfl) rfl ?_
    refine mE_aload_n c159_10 rfl ?_
    refine mE_iload_n c159_11 rfl ?_
    refine mE_virtual1 (b := 142) (as := [.int (Int32.ofInt x1)]) (r := []) c159_12 qo159 qK12_231 qo137 rfl rfl rfl (ok_lit rfl rfl rfl) (Nat.le_of_ble_eq_true rfl) (s137 (d := d + 0) hx1 w.obind) ?_
    rintro v2 _ q4 ⟨rfl, w⟩
    by_cases e5 : v2 = 0
    · have w := w.pos e5
      refine mE_if_eq_T (t := 31) c159_15 rfl q4 e5 ?_
      refine mE_iconst c159_31 ?_
      exact mE_zret c159_32 qr159 (Or.inl rfl) w.osome
    · have w := w.neg e5
      refine mE_if_eq_F (t := 31) c159_15 rfl q4 e5 ?_
      exact t159_18 hx1 (r4_n rfl) w
  · have w := w.neg e1
    refine mE_if_eq_F (t := 8) c159_1 rfl hx2 e1 ?_
    refine mE_iconst c159_4 ?_
    refine mE_goto (t := 9) c159_5 rfl ?_
    refine mE_istore_n (ls2 := [some (.ref 142), some (.int (Int32.ofInt x1)), some (.int (Int32.ofInt x2)), some (.int (Int32.ofInt 1))]) c159_9 (Nat.le_of_ble_eq_true rfl) rfl ?_
    refine mE_aload_n c159_10 rfl ?_
    refine mE_iload_n c159_11 rfl ?_
    refine mE_virtual1 (b := 142) (as := [.int (Int32.ofInt x1)]) (r := []) c159_12 qo159 qK12_231 qo137 rfl rfl rfl (ok_lit rfl rfl rfl) (Nat.le_of_ble_eq_true rfl) (s137 (d := d + 0) hx1 w.obind) ?_
    rintro v2 _ q4 ⟨rfl, w⟩
    by_cases e5 : v2 = 0
    · have w := w.pos e5
      refine mE_if_eq_T (t := 31) c159_15 rfl q4 e5 ?_
      refine mE_iconst c159_31 ?_
      exact mE_zret c159_32 qr159 (Or.inl rfl) w.osome
    · have w := w.neg e5
      refine mE_if_eq_F (t := 31) c159_15 rfl q4 e5 ?_
      exact t159_18 hx1 (r4_n rfl) w
theorem s159 {X : Nat × Nat × qC} {d : Nat} {x1 : Int} {x2 : Int} {M : Mm} {R : Int × Mm → Prop} (hx1 : R4 x1) (hx2 : R4 x2) (w : Wp (f159 x1 x2 M) R) : mC X (d + 3) 159 1 [.ref 142, .int (Int32.ofInt x1), .int (Int32.ofInt x2)] M (fun v M2 => R (v, M2)) :=
  mC_of (qent_mk qx159 rfl rfl rfl) (t159 hx1 hx2 w)
/-! SaggingNetModel.shed -/
noncomputable def f161_33 (x1 : Int) (x3 : Int) (M : Mm) : Option (Int × Mm) :=
  gd (R4 (36051 + x1)) (
  gd (0 ≤ (36051 + x1) ∧ (36051 + x1) < 36400) (
  mlet (ms M 144 ((36051 + x1)).toNat x3) fun M3 =>
  some (1, M3)))
theorem t161_33 {X : Nat × Nat × qC} {d : Nat} {x1 : Int} {x3 : Int} {M : Mm} {y2 : Int32} {R : Int × Mm → Prop} (hx1 : R4 x1) (hx3 : R4 x3) (w : Wp (f161_33 x1 x3 M) R) : mE X (d + 2) 161 1 33 [some (.ref 142), some (.int (Int32.ofInt x1)), some (.int y2), some (.int (Int32.ofInt x3))] [] M (fun v M2 => R (v, M2)) := by
  refine mE_aload_n c161_33 rfl ?_
  refine mE_getA c161_34 qo161 qF12_14 (ok_lit rfl rfl rfl) rfl ⟨by decide, by decide⟩ ?_
  refine mE_ldc (x := 36051) c161_37 qo161 qI12_234 rfl ?_
  refine mE_iload_n c161_39 rfl ?_
  obtain ⟨g1, w⟩ := w.ogd
  refine mE_iadd c161_40 ?_
  refine mE_iload_n c161_41 rfl ?_
  obtain ⟨g2, w⟩ := w.ogd
  obtain ⟨M3, m4, w⟩ := w.mlet
  refine mE_iastore c161_42 (ok_lit rfl rfl rfl) g1 g2 hx3 ?_
  refine mE_M m4 ?_
  refine mE_iconst c161_43 ?_
  exact mE_zret c161_44 qr161 (Or.inr rfl) w.osome
noncomputable def f161_18 (x1 : Int) (x3 : Int) (M : Mm) : Option (Int × Mm) :=
  gd (R4 (36051 + x1)) (
  gd (0 ≤ (36051 + x1) ∧ (36051 + x1) < 36400) (
  if (M 144 ((36051 + x1)).toNat) = x3 then
  (some (0, M))
  else
  (f161_33 x1 x3 M)))
theorem t161_18 {X : Nat × Nat × qC} {d : Nat} {x1 : Int} {x3 : Int} {M : Mm} {y2 : Int32} {R : Int × Mm → Prop} (hx1 : R4 x1) (hx3 : R4 x3) (w : Wp (f161_18 x1 x3 M) R) : mE X (d + 2) 161 1 18 [some (.ref 142), some (.int (Int32.ofInt x1)), some (.int y2), some (.int (Int32.ofInt x3))] [] M (fun v M2 => R (v, M2)) := by
  refine mE_aload_n c161_18 rfl ?_
  refine mE_getA c161_19 qo161 qF12_14 (ok_lit rfl rfl rfl) rfl ⟨by decide, by decide⟩ ?_
  refine mE_ldc (x := 36051) c161_22 qo161 qI12_234 rfl ?_
  refine mE_iload_n c161_24 rfl ?_
  obtain ⟨g1, w⟩ := w.ogd
  refine mE_iadd c161_25 ?_
  obtain ⟨g2, w⟩ := w.ogd
  refine mE_iaload c161_26 (ok_lit rfl rfl rfl) g1 g2 ?_
  intro u3
  refine mE_iload_n c161_27 rfl ?_
  by_cases e4 : (M 144 ((36051 + x1)).toNat) = x3
  · have w := w.pos e4
    refine mE_icmp_ne_F (t := 33) c161_28 rfl u3 hx3 e4 ?_
    refine mE_iconst c161_31 ?_
    exact mE_zret c161_32 qr161 (Or.inl rfl) w.osome
  · have w := w.neg e4
    refine mE_icmp_ne_T (t := 33) c161_28 rfl u3 hx3 e4 ?_
    exact t161_33 hx1 hx3 w
noncomputable def f161 (x1 : Int) (x2 : Int) (M : Mm) : Option (Int × Mm) :=
  if x2 = 0 then
  ((f132 x1 M).bind fun v2 =>
  if v2 = 0 then
  (some (0, M))
  else
  (f161_18 x1 0 M))
  else
  ((f132 x1 M).bind fun v2 =>
  if v2 = 0 then
  (some (0, M))
  else
  (f161_18 x1 1 M))
theorem t161 {X : Nat × Nat × qC} {d : Nat} {x1 : Int} {x2 : Int} {M : Mm}  {R : Int × Mm → Prop} (hx1 : R4 x1) (hx2 : R4 x2) (w : Wp (f161 x1 x2 M) R) : mE X (d + 2) 161 1 0 [some (.ref 142), some (.int (Int32.ofInt x1)), some (.int (Int32.ofInt x2)), none] [] M (fun v M2 => R (v, M2)) := by
  refine mE_iload_n c161_0 rfl ?_
  by_cases e1 : x2 = 0
  · have w := w.pos e1
    refine mE_if_eq_T (t := 8) c161_1 rfl hx2 e1 ?_
    refine mE_iconst c161_8 ?_
    refine mE_istore_n (ls2 := [some (.ref 142), some (.int (Int32.ofInt x1)), some (.int (Int32.ofInt x2)), some (.int (Int32.ofInt 0))]) c161_9 (Nat.le_of_ble_eq_true rfl) rfl ?_
    refine mE_aload_n c161_10 rfl ?_
    refine mE_iload_n c161_11 rfl ?_
    refine mE_virtual1 (b := 142) (as := [.int (Int32.ofInt x1)]) (r := []) c161_12 qo161 qK12_214 qo132 rfl rfl rfl (ok_lit rfl rfl rfl) (Nat.le_of_ble_eq_true rfl) (s132 (d := d + 0) hx1 w.obind) ?_
    rintro v2 _ q4 ⟨rfl, w⟩
    by_cases e5 : v2 = 0
    · have w := w.pos e5
      refine mE_if_eq_T (t := 31) c161_15 rfl q4 e5 ?_
      refine mE_iconst c161_31 ?_
      exact mE_zret c161_32 qr161 (Or.inl rfl) w.osome
    · have w := w.neg e5
      refine mE_if_eq_F (t := 31) c161_15 rfl q4 e5 ?_
      exact t161_18 hx1 (r4_n rfl) w
  · have w := w.neg e1
    refine mE_if_eq_F (t := 8) c161_1 rfl hx2 e1 ?_
    refine mE_iconst c161_4 ?_
    refine mE_goto (t := 9) c161_5 rfl ?_
    refine mE_istore_n (ls2 := [some (.ref 142), some (.int (Int32.ofInt x1)), some (.int (Int32.ofInt x2)), some (.int (Int32.ofInt 1))]) c161_9 (Nat.le_of_ble_eq_true rfl) rfl ?_
    refine mE_aload_n c161_10 rfl ?_
    refine mE_iload_n c161_11 rfl ?_
    refine mE_virtual1 (b := 142) (as := [.int (Int32.ofInt x1)]) (r := []) c161_12 qo161 qK12_214 qo132 rfl rfl rfl (ok_lit rfl rfl rfl) (Nat.le_of_ble_eq_true rfl) (s132 (d := d + 0) hx1 w.obind) ?_
    rintro v2 _ q4 ⟨rfl, w⟩
    by_cases e5 : v2 = 0
    · have w := w.pos e5
      refine mE_if_eq_T (t := 31) c161_15 rfl q4 e5 ?_
      refine mE_iconst c161_31 ?_
      exact mE_zret c161_32 qr161 (Or.inl rfl) w.osome
    · have w := w.neg e5
      refine mE_if_eq_F (t := 31) c161_15 rfl q4 e5 ?_
      exact t161_18 hx1 (r4_n rfl) w
theorem s161 {X : Nat × Nat × qC} {d : Nat} {x1 : Int} {x2 : Int} {M : Mm} {R : Int × Mm → Prop} (hx1 : R4 x1) (hx2 : R4 x2) (w : Wp (f161 x1 x2 M) R) : mC X (d + 3) 161 1 [.ref 142, .int (Int32.ofInt x1), .int (Int32.ofInt x2)] M (fun v M2 => R (v, M2)) :=
  mC_of (qent_mk qx161 rfl rfl rfl) (t161 hx1 hx2 w)
/-! SaggingNetModel.shows -/
noncomputable def f167 (x1 : Int) (x2 : Int) (M : Mm) : Option (Int) :=
  gd (0 ≤ x2 ∧ x2 < 14) (
  gd (0 ≤ (M 147 (x2).toNat) ∧ (M 147 (x2).toNat) < 8) (
  if (M 145 ((M 147 (x2).toNat)).toNat) = x1 then
  (some 1)
  else
  (gd (0 ≤ (M 148 (x2).toNat) ∧ (M 148 (x2).toNat) < 8) (
  if (M 145 ((M 148 (x2).toNat)).toNat) = x1 then
  (some 1)
  else
  (some 0)))))
theorem t167 {X : Nat × Nat × qC} {d : Nat} {x1 : Int} {x2 : Int} {M : Mm}  {R : Int → Prop} (hx1 : R4 x1) (hx2 : R4 x2) (w : Wp (f167 x1 x2 M) R) : mE X (d + 0) 167 1 0 [some (.ref 142), some (.int (Int32.ofInt x1)), some (.int (Int32.ofInt x2))] [] M (fun v M2 => M = M2 ∧ R v) := by
  refine mE_aload_n c167_0 rfl ?_
  refine mE_getA c167_1 qo167 qF12_18 (ok_lit rfl rfl rfl) rfl ⟨by decide, by decide⟩ ?_
  refine mE_aload_n c167_4 rfl ?_
  refine mE_getA c167_5 qo167 qF12_24 (ok_lit rfl rfl rfl) rfl ⟨by decide, by decide⟩ ?_
  refine mE_iload_n c167_8 rfl ?_
  obtain ⟨g1, w⟩ := w.ogd
  refine mE_iaload c167_9 (ok_lit rfl rfl rfl) hx2 g1 ?_
  intro u2
  obtain ⟨g3, w⟩ := w.ogd
  refine mE_iaload c167_10 (ok_lit rfl rfl rfl) u2 g3 ?_
  intro u4
  refine mE_iload_n c167_11 rfl ?_
  by_cases e5 : (M 145 ((M 147 (x2).toNat)).toNat) = x1
  · have w := w.pos e5
    refine mE_icmp_eq_T (t := 30) c167_12 rfl u4 hx1 e5 ?_
    refine mE_iconst c167_30 ?_
    refine mE_goto (t := 35) c167_31 rfl ?_
    exact mE_zret c167_35 qr167 (Or.inr rfl) ⟨rfl, w.osome⟩
  · have w := w.neg e5
    refine mE_icmp_eq_F (t := 30) c167_12 rfl u4 hx1 e5 ?_
    refine mE_aload_n c167_15 rfl ?_
    refine mE_getA c167_16 qo167 qF12_18 (ok_lit rfl rfl rfl) rfl ⟨by decide, by decide⟩ ?_
    refine mE_aload_n c167_19 rfl ?_
    refine mE_getA c167_20 qo167 qF12_27 (ok_lit rfl rfl rfl) rfl ⟨by decide, by decide⟩ ?_
    refine mE_iload_n c167_23 rfl ?_
    refine mE_iaload c167_24 (ok_lit rfl rfl rfl) hx2 g1 ?_
    intro u6
    obtain ⟨g7, w⟩ := w.ogd
    refine mE_iaload c167_25 (ok_lit rfl rfl rfl) u6 g7 ?_
    intro u8
    refine mE_iload_n c167_26 rfl ?_
    by_cases e9 : (M 145 ((M 148 (x2).toNat)).toNat) = x1
    · have w := w.pos e9
      refine mE_icmp_ne_F (t := 34) c167_27 rfl u8 hx1 e9 ?_
      refine mE_iconst c167_30 ?_
      refine mE_goto (t := 35) c167_31 rfl ?_
      exact mE_zret c167_35 qr167 (Or.inr rfl) ⟨rfl, w.osome⟩
    · have w := w.neg e9
      refine mE_icmp_ne_T (t := 34) c167_27 rfl u8 hx1 e9 ?_
      refine mE_iconst c167_34 ?_
      exact mE_zret c167_35 qr167 (Or.inl rfl) ⟨rfl, w.osome⟩
theorem s167 {X : Nat × Nat × qC} {d : Nat} {x1 : Int} {x2 : Int} {M : Mm} {R : Int → Prop} (hx1 : R4 x1) (hx2 : R4 x2) (w : Wp (f167 x1 x2 M) R) : mC X (d + 1) 167 1 [.ref 142, .int (Int32.ofInt x1), .int (Int32.ofInt x2)] M (fun v M2 => M = M2 ∧ R v) :=
  mC_of (qent_mk qx167 rfl rfl rfl) (t167 hx1 hx2 w)
