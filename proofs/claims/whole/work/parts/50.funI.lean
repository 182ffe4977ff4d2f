/-! SaggingNetModel.does -/
noncomputable def f102_47 (x2 : Int) (x3 : Int) (M : Mm) : Option (Mm) :=
  gd (0 ≤ x3 ∧ x3 < 200) (
  gd (0 ≤ x2 ∧ x2 < 200) (
  mlet (ms M 178 (x2).toNat (M 178 (x3).toNat)) fun M4 =>
  gd ((M4 179 (x3).toNat) = 0 ∨ (M4 179 (x3).toNat) = 1) (
  mlet (ms M4 179 (x2).toNat (M4 179 (x3).toNat)) fun M8 =>
  some M8)))
theorem t102_47 {X : Nat × Nat × qC} {d : Nat} {x2 : Int} {x3 : Int} {M : Mm} {y1 : Int32} {R : Mm → Prop} (hx2 : R4 x2) (hx3 : R4 x3) (w : Wp (f102_47 x2 x3 M) R) : mE X (d + 1) 102 0 47 [some (.ref 142), some (.int y1), some (.int (Int32.ofInt x2)), some (.int (Int32.ofInt x3))] [] M (fun v M2 => R M2) := by
  refine mE_aload_n c102_47 rfl ?_
  refine mE_getA c102_48 qo102 qF12_119 (ok_lit rfl rfl rfl) rfl ⟨by decide, by decide⟩ ?_
  refine mE_iload_n c102_51 rfl ?_
  refine mE_aload_n c102_52 rfl ?_
  refine mE_getA c102_53 qo102 qF12_119 (ok_lit rfl rfl rfl) rfl ⟨by decide, by decide⟩ ?_
  refine mE_iload_n c102_56 rfl ?_
  obtain ⟨g1, w⟩ := w.ogd
  refine mE_laload c102_57 (ok_lit rfl rfl rfl) hx3 g1 ?_
  intro u2
  obtain ⟨g3, w⟩ := w.ogd
  obtain ⟨M4, m5, w⟩ := w.mlet
  refine mE_lastore c102_58 (ok_lit rfl rfl rfl) hx2 g3 u2 ?_
  refine mE_M m5 ?_
  refine mE_aload_n c102_59 rfl ?_
  refine mE_getA c102_60 qo102 qF12_122 (ok_lit rfl rfl rfl) rfl ⟨by decide, by decide⟩ ?_
  refine mE_iload_n c102_63 rfl ?_
  refine mE_aload_n c102_64 rfl ?_
  refine mE_getA c102_65 qo102 qF12_122 (ok_lit rfl rfl rfl) rfl ⟨by decide, by decide⟩ ?_
  refine mE_iload_n c102_68 rfl ?_
  refine mE_zaload c102_69 (ok_lit rfl rfl rfl) hx3 g1 ?_
  intro u6
  obtain ⟨g7, w⟩ := w.ogd
  obtain ⟨M8, m9, w⟩ := w.mlet
  refine mE_zastore c102_70 (ok_lit rfl rfl rfl) hx2 g3 g7 ?_
  refine mE_M m9 ?_
  exact mE_vret c102_71 qr102 w.osome
noncomputable def f102_16 (x1 : Int) (x2 : Int) (x3 : Int) (M : Mm) : Option (Mm) :=
  gd (0 ≤ x2 ∧ x2 < 200) (
  if (M 179 (x2).toNat) = 0 then
  (if x1 = 38 then
  (if (M 178 (x2).toNat) = 1 then
  (f102_47 x2 x3 M)
  else
  (some M))
  else
  (if (M 178 (x2).toNat) = 0 then
  (f102_47 x2 x3 M)
  else
  (some M)))
  else
  (some M))
theorem t102_16 {X : Nat × Nat × qC} {d : Nat} {x1 : Int} {x2 : Int} {x3 : Int} {M : Mm}  {R : Mm → Prop} (hx1 : R4 x1) (hx2 : R4 x2) (hx3 : R4 x3) (w : Wp (f102_16 x1 x2 x3 M) R) : mE X (d + 1) 102 0 16 [some (.ref 142), some (.int (Int32.ofInt x1)), some (.int (Int32.ofInt x2)), some (.int (Int32.ofInt x3))] [] M (fun v M2 => R M2) := by
  refine mE_aload_n c102_16 rfl ?_
  refine mE_getA c102_17 qo102 qF12_122 (ok_lit rfl rfl rfl) rfl ⟨by decide, by decide⟩ ?_
  refine mE_iload_n c102_20 rfl ?_
  obtain ⟨g1, w⟩ := w.ogd
  refine mE_zaload c102_21 (ok_lit rfl rfl rfl) hx2 g1 ?_
  intro u2
  by_cases e3 : (M 179 (x2).toNat) = 0
  · have w := w.pos e3
    refine mE_if_ne_F (t := 46) c102_22 rfl u2 e3 ?_
    refine mE_aload_n c102_25 rfl ?_
    refine mE_getA c102_26 qo102 qF12_119 (ok_lit rfl rfl rfl) rfl ⟨by decide, by decide⟩ ?_
    refine mE_iload_n c102_29 rfl ?_
    refine mE_laload c102_30 (ok_lit rfl rfl rfl) hx2 g1 ?_
    intro u4
    refine mE_iload_n c102_31 rfl ?_
    refine mE_bipush (x := 38) c102_32 rfl ?_
    by_cases e5 : x1 = 38
    · have w := w.pos e5
      refine mE_icmp_ne_F (t := 41) c102_34 rfl hx1 (r4_n rfl) e5 ?_
      refine mE_lconst (x := 1) c102_37 rfl ?_
      refine mE_goto (t := 42) c102_38 rfl ?_
      by_cases e6 : (M 178 (x2).toNat) = 1
      · have w := w.pos e6
        refine mE_lcmp_eq_T (t := 47) c102_42 c102_43 rfl u4 (r8_n rfl) e6 ?_
        exact t102_47 hx2 hx3 w
      · have w := w.neg e6
        refine mE_lcmp_eq_F (t := 47) c102_42 c102_43 rfl u4 (r8_n rfl) e6 ?_
        exact mE_vret c102_46 qr102 w.osome
    · have w := w.neg e5
      refine mE_icmp_ne_T (t := 41) c102_34 rfl hx1 (r4_n rfl) e5 ?_
      refine mE_lconst (x := 0) c102_41 rfl ?_
      by_cases e6 : (M 178 (x2).toNat) = 0
      · have w := w.pos e6
        refine mE_lcmp_eq_T (t := 47) c102_42 c102_43 rfl u4 (r8_n rfl) e6 ?_
        exact t102_47 hx2 hx3 w
      · have w := w.neg e6
        refine mE_lcmp_eq_F (t := 47) c102_42 c102_43 rfl u4 (r8_n rfl) e6 ?_
        exact mE_vret c102_46 qr102 w.osome
  · have w := w.neg e3
    refine mE_if_ne_T (t := 46) c102_22 rfl u2 e3 ?_
    exact mE_vret c102_46 qr102 w.osome
noncomputable def f102 (x1 : Int) (x2 : Int) (M : Mm) : Option (Mm) :=
  gd (R4 (x2 + 1)) (
  if x1 = 38 then
  (f102_16 x1 x2 (x2 + 1) M)
  else
  (if x1 = 124 then
  (f102_16 x1 x2 (x2 + 1) M)
  else
  (gd (0 ≤ x2 ∧ x2 < 200) (
  if (M 179 (x2).toNat) = 0 then
  (gd (0 ≤ (x2 + 1) ∧ (x2 + 1) < 200) (
  if (M 179 ((x2 + 1)).toNat) = 0 then
  (if x1 = 47 then
  (if (M 178 ((x2 + 1)).toNat) = 0 then
  (mlet (ms M 179 (x2).toNat 1) fun M13 =>
  (f187 x1 (M13 178 (x2).toNat) (M13 178 ((x2 + 1)).toNat) M13).bind fun v17 =>
  mlet (ms M13 178 (x2).toNat v17) fun M20 =>
  some M20)
  else
  (mlet (ms M 179 (x2).toNat 0) fun M13 =>
  (f187 x1 (M13 178 (x2).toNat) (M13 178 ((x2 + 1)).toNat) M13).bind fun v17 =>
  mlet (ms M13 178 (x2).toNat v17) fun M20 =>
  some M20))
  else
  (if x1 = 37 then
  (if (M 178 ((x2 + 1)).toNat) = 0 then
  (mlet (ms M 179 (x2).toNat 1) fun M14 =>
  (f187 x1 (M14 178 (x2).toNat) (M14 178 ((x2 + 1)).toNat) M14).bind fun v18 =>
  mlet (ms M14 178 (x2).toNat v18) fun M21 =>
  some M21)
  else
  (mlet (ms M 179 (x2).toNat 0) fun M14 =>
  (f187 x1 (M14 178 (x2).toNat) (M14 178 ((x2 + 1)).toNat) M14).bind fun v18 =>
  mlet (ms M14 178 (x2).toNat v18) fun M21 =>
  some M21))
  else
  (mlet (ms M 179 (x2).toNat 0) fun M12 =>
  (f187 x1 (M12 178 (x2).toNat) (M12 178 ((x2 + 1)).toNat) M12).bind fun v16 =>
  mlet (ms M12 178 (x2).toNat v16) fun M19 =>
  some M19)))
  else
  (mlet (ms M 179 (x2).toNat 1) fun M10 =>
  (f187 x1 (M10 178 (x2).toNat) (M10 178 ((x2 + 1)).toNat) M10).bind fun v14 =>
  mlet (ms M10 178 (x2).toNat v14) fun M17 =>
  some M17)))
  else
  (mlet (ms M 179 (x2).toNat 1) fun M7 =>
  gd (0 ≤ (x2 + 1) ∧ (x2 + 1) < 200) (
  (f187 x1 (M7 178 (x2).toNat) (M7 178 ((x2 + 1)).toNat) M7).bind fun v12 =>
  mlet (ms M7 178 (x2).toNat v12) fun M15 =>
  some M15))))))
theorem t102 {X : Nat × Nat × qC} {d : Nat} {x1 : Int} {x2 : Int} {M : Mm}  {R : Mm → Prop} (hx1 : R4 x1) (hx2 : R4 x2) (w : Wp (f102 x1 x2 M) R) : mE X (d + 1) 102 0 0 [some (.ref 142), some (.int (Int32.ofInt x1)), some (.int (Int32.ofInt x2)), none] [] M (fun v M2 => R M2) := by
  refine mE_iload_n c102_0 rfl ?_
  refine mE_iconst c102_1 ?_
  obtain ⟨g1, w⟩ := w.ogd
  refine mE_iadd c102_2 ?_
  refine mE_istore_n (ls2 := [some (.ref 142), some (.int (Int32.ofInt x1)), some (.int (Int32.ofInt x2)), some (.int (Int32.ofInt (x2 + 1)))]) c102_3 (Nat.le_of_ble_eq_true rfl) rfl ?_
  refine mE_iload_n c102_4 rfl ?_
  refine mE_bipush (x := 38) c102_5 rfl ?_
  by_cases e2 : x1 = 38
  · have w := w.pos e2
    refine mE_icmp_eq_T (t := 16) c102_7 rfl hx1 (r4_n rfl) e2 ?_
    exact t102_16 hx1 hx2 g1 w
  · have w := w.neg e2
    refine mE_icmp_eq_F (t := 16) c102_7 rfl hx1 (r4_n rfl) e2 ?_
    refine mE_iload_n c102_10 rfl ?_
    refine mE_bipush (x := 124) c102_11 rfl ?_
    by_cases e3 : x1 = 124
    · have w := w.pos e3
      refine mE_icmp_ne_F (t := 72) c102_13 rfl hx1 (r4_n rfl) e3 ?_
      exact t102_16 hx1 hx2 g1 w
    · have w := w.neg e3
      refine mE_icmp_ne_T (t := 72) c102_13 rfl hx1 (r4_n rfl) e3 ?_
      refine mE_aload_n c102_72 rfl ?_
      refine mE_getA c102_73 qo102 qF12_122 (ok_lit rfl rfl rfl) rfl ⟨by decide, by decide⟩ ?_
      refine mE_iload_n c102_76 rfl ?_
      refine mE_aload_n c102_77 rfl ?_
      refine mE_getA c102_78 qo102 qF12_122 (ok_lit rfl rfl rfl) rfl ⟨by decide, by decide⟩ ?_
      refine mE_iload_n c102_81 rfl ?_
      obtain ⟨g4, w⟩ := w.ogd
      refine mE_zaload c102_82 (ok_lit rfl rfl rfl) hx2 g4 ?_
      intro u5
      by_cases e6 : (M 179 (x2).toNat) = 0
      · have w := w.pos e6
        refine mE_if_ne_F (t := 118) c102_83 rfl u5 e6 ?_
        refine mE_aload_n c102_86 rfl ?_
        refine mE_getA c102_87 qo102 qF12_122 (ok_lit rfl rfl rfl) rfl ⟨by decide, by decide⟩ ?_
        refine mE_iload_n c102_90 rfl ?_
        obtain ⟨g7, w⟩ := w.ogd
        refine mE_zaload c102_91 (ok_lit rfl rfl rfl) g1 g7 ?_
        intro u8
        by_cases e9 : (M 179 ((x2 + 1)).toNat) = 0
        · have w := w.pos e9
          refine mE_if_ne_F (t := 118) c102_92 rfl u8 e9 ?_
          refine mE_iload_n c102_95 rfl ?_
          refine mE_bipush (x := 47) c102_96 rfl ?_
          by_cases e10 : x1 = 47
          · have w := w.pos e10
            refine mE_icmp_eq_T (t := 107) c102_98 rfl hx1 (r4_n rfl) e10 ?_
            refine mE_aload_n c102_107 rfl ?_
            refine mE_getA c102_108 qo102 qF12_119 (ok_lit rfl rfl rfl) rfl ⟨by decide, by decide⟩ ?_
            refine mE_iload_n c102_111 rfl ?_
            refine mE_laload c102_112 (ok_lit rfl rfl rfl) g1 g7 ?_
            intro u11
            refine mE_lconst (x := 0) c102_113 rfl ?_
            by_cases e12 : (M 178 ((x2 + 1)).toNat) = 0
            · have w := w.pos e12
              refine mE_lcmp_ne_F (t := 122) c102_114 c102_115 rfl u11 (r8_n rfl) e12 ?_
              refine mE_iconst c102_118 ?_
              refine mE_goto (t := 123) c102_119 rfl ?_
              obtain ⟨M13, m14, w⟩ := w.mlet
              refine mE_zastore c102_123 (ok_lit rfl rfl rfl) hx2 g4 (Or.inr rfl) ?_
              refine mE_M m14 ?_
              refine mE_aload_n c102_124 rfl ?_
              refine mE_getA c102_125 qo102 qF12_119 (ok_lit rfl rfl rfl) rfl ⟨by decide, by decide⟩ ?_
              refine mE_iload_n c102_128 rfl ?_
              refine mE_iload_n c102_129 rfl ?_
              refine mE_aload_n c102_130 rfl ?_
              refine mE_getA c102_131 qo102 qF12_119 (ok_lit rfl rfl rfl) rfl ⟨by decide, by decide⟩ ?_
              refine mE_iload_n c102_134 rfl ?_
              refine mE_laload c102_135 (ok_lit rfl rfl rfl) hx2 g4 ?_
              intro u15
              refine mE_aload_n c102_136 rfl ?_
              refine mE_getA c102_137 qo102 qF12_119 (ok_lit rfl rfl rfl) rfl ⟨by decide, by decide⟩ ?_
              refine mE_iload_n c102_140 rfl ?_
              refine mE_laload c102_141 (ok_lit rfl rfl rfl) g1 g7 ?_
              intro u16
              refine mE_static2 (as := [.int (Int32.ofInt x1), .long (Int64.ofInt (M13 178 (x2).toNat)), .long (Int64.ofInt (M13 178 ((x2 + 1)).toNat))]) (r := [.int (Int32.ofInt x2), .ref 178]) c102_142 qo102 (by decide) qK12_411 rfl rfl rfl (Nat.le_of_ble_eq_true rfl) (s187 (d := d + 0) hx1 u15 u16 w.obind) ?_
              rintro v17 _ q19 ⟨rfl, w⟩
              obtain ⟨M20, m21, w⟩ := w.mlet
              refine mE_lastore c102_145 (ok_lit rfl rfl rfl) hx2 g4 q19 ?_
              refine mE_M m21 ?_
              exact mE_vret c102_146 qr102 w.osome
            · have w := w.neg e12
              refine mE_lcmp_ne_T (t := 122) c102_114 c102_115 rfl u11 (r8_n rfl) e12 ?_
              refine mE_iconst c102_122 ?_
              obtain ⟨M13, m14, w⟩ := w.mlet
              refine mE_zastore c102_123 (ok_lit rfl rfl rfl) hx2 g4 (Or.inl rfl) ?_
              refine mE_M m14 ?_
              refine mE_aload_n c102_124 rfl ?_
              refine mE_getA c102_125 qo102 qF12_119 (ok_lit rfl rfl rfl) rfl ⟨by decide, by decide⟩ ?_
              refine mE_iload_n c102_128 rfl ?_
              refine mE_iload_n c102_129 rfl ?_
              refine mE_aload_n c102_130 rfl ?_
              refine mE_getA c102_131 qo102 qF12_119 (ok_lit rfl rfl rfl) rfl ⟨by decide, by decide⟩ ?_
              refine mE_iload_n c102_134 rfl ?_
              refine mE_laload c102_135 (ok_lit rfl rfl rfl) hx2 g4 ?_
              intro u15
              refine mE_aload_n c102_136 rfl ?_
              refine mE_getA c102_137 qo102 qF12_119 (ok_lit rfl rfl rfl) rfl ⟨by decide, by decide⟩ ?_
              refine mE_iload_n c102_140 rfl ?_
              refine mE_laload c102_141 (ok_lit rfl rfl rfl) g1 g7 ?_
              intro u16
              refine mE_static2 (as := [.int (Int32.ofInt x1), .long (Int64.ofInt (M13 178 (x2).toNat)), .long (Int64.ofInt (M13 178 ((x2 + 1)).toNat))]) (r := [.int (Int32.ofInt x2), .ref 178]) c102_142 qo102 (by decide) qK12_411 rfl rfl rfl (Nat.le_of_ble_eq_true rfl) (s187 (d := d + 0) hx1 u15 u16 w.obind) ?_
              rintro v17 _ q19 ⟨rfl, w⟩
              obtain ⟨M20, m21, w⟩ := w.mlet
              refine mE_lastore c102_145 (ok_lit rfl rfl rfl) hx2 g4 q19 ?_
              refine mE_M m21 ?_
              exact mE_vret c102_146 qr102 w.osome
          · have w := w.neg e10
            refine mE_icmp_eq_F (t := 107) c102_98 rfl hx1 (r4_n rfl) e10 ?_
            refine mE_iload_n c102_101 rfl ?_
            refine mE_bipush (x := 37) c102_102 rfl ?_
            by_cases e11 : x1 = 37
            · have w := w.pos e11
              refine mE_icmp_ne_F (t := 122) c102_104 rfl hx1 (r4_n rfl) e11 ?_
              refine mE_aload_n c102_107 rfl ?_
              refine mE_getA c102_108 qo102 qF12_119 (ok_lit rfl rfl rfl) rfl ⟨by decide, by decide⟩ ?_
              refine mE_iload_n c102_111 rfl ?_
              refine mE_laload c102_112 (ok_lit rfl rfl rfl) g1 g7 ?_
              intro u12
              refine mE_lconst (x := 0) c102_113 rfl ?_
              by_cases e13 : (M 178 ((x2 + 1)).toNat) = 0
              · have w := w.pos e13
                refine mE_lcmp_ne_F (t := 122) c102_114 c102_115 rfl u12 (r8_n rfl) e13 ?_
                refine mE_iconst c102_118 ?_
                refine mE_goto (t := 123) c102_119 rfl ?_
                obtain ⟨M14, m15, w⟩ := w.mlet
                refine mE_zastore c102_123 (ok_lit rfl rfl rfl) hx2 g4 (Or.inr rfl) ?_
                refine mE_M m15 ?_
                refine mE_aload_n c102_124 rfl ?_
                refine mE_getA c102_125 qo102 qF12_119 (ok_lit rfl rfl rfl) rfl ⟨by decide, by decide⟩ ?_
                refine mE_iload_n c102_128 rfl ?_
                refine mE_iload_n c102_129 rfl ?_
                refine mE_aload_n c102_130 rfl ?_
                refine mE_getA c102_131 qo102 qF12_119 (ok_lit rfl rfl rfl) rfl ⟨by decide, by decide⟩ ?_
                refine mE_iload_n c102_134 rfl ?_
                refine mE_laload c102_135 (ok_lit rfl rfl rfl) hx2 g4 ?_
                intro u16
                refine mE_aload_n c102_136 rfl ?_
                refine mE_getA c102_137 qo102 qF12_119 (ok_lit rfl rfl rfl) rfl ⟨by decide, by decide⟩ ?_
                refine mE_iload_n c102_140 rfl ?_
                refine mE_laload c102_141 (ok_lit rfl rfl rfl) g1 g7 ?_
                intro u17
                refine mE_static2 (as := [.int (Int32.ofInt x1), .long (Int64.ofInt (M14 178 (x2).toNat)), .long (Int64.ofInt (M14 178 ((x2 + 1)).toNat))]) (r := [.int (Int32.ofInt x2), .ref 178]) c102_142 qo102 (by decide) qK12_411 rfl rfl rfl (Nat.le_of_ble_eq_true rfl) (s187 (d := d + 0) hx1 u16 u17 w.obind) ?_
                rintro v18 _ q20 ⟨rfl, w⟩
                obtain ⟨M21, m22, w⟩ := w.mlet
                refine mE_lastore c102_145 (ok_lit rfl rfl rfl) hx2 g4 q20 ?_
                refine mE_M m22 ?_
                exact mE_vret c102_146 qr102 w.osome
              · have w := w.neg e13
                refine mE_lcmp_ne_T (t := 122) c102_114 c102_115 rfl u12 (r8_n rfl) e13 ?_
                refine mE_iconst c102_122 ?_
                obtain ⟨M14, m15, w⟩ := w.mlet
                refine mE_zastore c102_123 (ok_lit rfl rfl rfl) hx2 g4 (Or.inl rfl) ?_
                refine mE_M m15 ?_
                refine mE_aload_n c102_124 rfl ?_
                refine mE_getA c102_125 qo102 qF12_119 (ok_lit rfl rfl rfl) rfl ⟨by decide, by decide⟩ ?_
                refine mE_iload_n c102_128 rfl ?_
                refine mE_iload_n c102_129 rfl ?_
                refine mE_aload_n c102_130 rfl ?_
                refine mE_getA c102_131 qo102 qF12_119 (ok_lit rfl rfl rfl) rfl ⟨by decide, by decide⟩ ?_
                refine mE_iload_n c102_134 rfl ?_
                refine mE_laload c102_135 (ok_lit rfl rfl rfl) hx2 g4 ?_
                intro u16
                refine mE_aload_n c102_136 rfl ?_
                refine mE_getA c102_137 qo102 qF12_119 (ok_lit rfl rfl rfl) rfl ⟨by decide, by decide⟩ ?_
                refine mE_iload_n c102_140 rfl ?_
                refine mE_laload c102_141 (ok_lit rfl rfl rfl) g1 g7 ?_
                intro u17
                refine mE_static2 (as := [.int (Int32.ofInt x1), .long (Int64.ofInt (M14 178 (x2).toNat)), .long (Int64.ofInt (M14 178 ((x2 + 1)).toNat))]) (r := [.int (Int32.ofInt x2), .ref 178]) c102_142 qo102 (by decide) qK12_411 rfl rfl rfl (Nat.le_of_ble_eq_true rfl) (s187 (d := d + 0) hx1 u16 u17 w.obind) ?_
                rintro v18 _ q20 ⟨rfl, w⟩
                obtain ⟨M21, m22, w⟩ := w.mlet
                refine mE_lastore c102_145 (ok_lit rfl rfl rfl) hx2 g4 q20 ?_
                refine mE_M m22 ?_
                exact mE_vret c102_146 qr102 w.osome
            · have w := w.neg e11
              refine mE_icmp_ne_T (t := 122) c102_104 rfl hx1 (r4_n rfl) e11 ?_
              refine mE_iconst c102_122 ?_
              obtain ⟨M12, m13, w⟩ := w.mlet
              refine mE_zastore c102_123 (ok_lit rfl rfl rfl) hx2 g4 (Or.inl rfl) ?_
              refine mE_M m13 ?_
              refine mE_aload_n c102_124 rfl ?_
              refine mE_getA c102_125 qo102 qF12_119 (ok_lit rfl rfl rfl) rfl ⟨by decide, by decide⟩ ?_
              refine mE_iload_n c102_128 rfl ?_
              refine mE_iload_n c102_129 rfl ?_
              refine mE_aload_n c102_130 rfl ?_
              refine mE_getA c102_131 qo102 qF12_119 (ok_lit rfl rfl rfl) rfl ⟨by decide, by decide⟩ ?_
              refine mE_iload_n c102_134 rfl ?_
              refine mE_laload c102_135 (ok_lit rfl rfl rfl) hx2 g4 ?_
              intro u14
              refine mE_aload_n c102_136 rfl ?_
              refine mE_getA c102_137 qo102 qF12_119 (ok_lit rfl rfl rfl) rfl ⟨by decide, by decide⟩ ?_
              refine mE_iload_n c102_140 rfl ?_
              refine mE_laload c102_141 (ok_lit rfl rfl rfl) g1 g7 ?_
              intro u15
              refine mE_static2 (as := [.int (Int32.ofInt x1), .long (Int64.ofInt (M12 178 (x2).toNat)), .long (Int64.ofInt (M12 178 ((x2 + 1)).toNat))]) (r := [.int (Int32.ofInt x2), .ref 178]) c102_142 qo102 (by decide) qK12_411 rfl rfl rfl (Nat.le_of_ble_eq_true rfl) (s187 (d := d + 0) hx1 u14 u15 w.obind) ?_
              rintro v16 _ q18 ⟨rfl, w⟩
              obtain ⟨M19, m20, w⟩ := w.mlet
              refine mE_lastore c102_145 (ok_lit rfl rfl rfl) hx2 g4 q18 ?_
              refine mE_M m20 ?_
              exact mE_vret c102_146 qr102 w.osome
        · have w := w.neg e9
          refine mE_if_ne_T (t := 118) c102_92 rfl u8 e9 ?_
          refine mE_iconst c102_118 ?_
          refine mE_goto (t := 123) c102_119 rfl ?_
          obtain ⟨M10, m11, w⟩ := w.mlet
          refine mE_zastore c102_123 (ok_lit rfl rfl rfl) hx2 g4 (Or.inr rfl) ?_
          refine mE_M m11 ?_
          refine mE_aload_n c102_124 rfl ?_
          refine mE_getA c102_125 qo102 qF12_119 (ok_lit rfl rfl rfl) rfl ⟨by decide, by decide⟩ ?_
          refine mE_iload_n c102_128 rfl ?_
          refine mE_iload_n c102_129 rfl ?_
          refine mE_aload_n c102_130 rfl ?_
          refine mE_getA c102_131 qo102 qF12_119 (ok_lit rfl rfl rfl) rfl ⟨by decide, by decide⟩ ?_
          refine mE_iload_n c102_134 rfl ?_
          refine mE_laload c102_135 (ok_lit rfl rfl rfl) hx2 g4 ?_
          intro u12
          refine mE_aload_n c102_136 rfl ?_
          refine mE_getA c102_137 qo102 qF12_119 (ok_lit rfl rfl rfl) rfl ⟨by decide, by decide⟩ ?_
          refine mE_iload_n c102_140 rfl ?_
          refine mE_laload c102_141 (ok_lit rfl rfl rfl) g1 g7 ?_
          intro u13
          refine mE_static2 (as := [.int (Int32.ofInt x1), .long (Int64.ofInt (M10 178 (x2).toNat)), .long (Int64.ofInt (M10 178 ((x2 + 1)).toNat))]) (r := [.int (Int32.ofInt x2), .ref 178]) c102_142 qo102 (by decide) qK12_411 rfl rfl rfl (Nat.le_of_ble_eq_true rfl) (s187 (d := d + 0) hx1 u12 u13 w.obind) ?_
          rintro v14 _ q16 ⟨rfl, w⟩
          obtain ⟨M17, m18, w⟩ := w.mlet
          refine mE_lastore c102_145 (ok_lit rfl rfl rfl) hx2 g4 q16 ?_
          refine mE_M m18 ?_
          exact mE_vret c102_146 qr102 w.osome
      · have w := w.neg e6
        refine mE_if_ne_T (t := 118) c102_83 rfl u5 e6 ?_
        refine mE_iconst c102_118 ?_
        refine mE_goto (t := 123) c102_119 rfl ?_
        obtain ⟨M7, m8, w⟩ := w.mlet
        refine mE_zastore c102_123 (ok_lit rfl rfl rfl) hx2 g4 (Or.inr rfl) ?_
        refine mE_M m8 ?_
        refine mE_aload_n c102_124 rfl ?_
        refine mE_getA c102_125 qo102 qF12_119 (ok_lit rfl rfl rfl) rfl ⟨by decide, by decide⟩ ?_
        refine mE_iload_n c102_128 rfl ?_
        refine mE_iload_n c102_129 rfl ?_
        refine mE_aload_n c102_130 rfl ?_
        refine mE_getA c102_131 qo102 qF12_119 (ok_lit rfl rfl rfl) rfl ⟨by decide, by decide⟩ ?_
        refine mE_iload_n c102_134 rfl ?_
        refine mE_laload c102_135 (ok_lit rfl rfl rfl) hx2 g4 ?_
        intro u9
        refine mE_aload_n c102_136 rfl ?_
        refine mE_getA c102_137 qo102 qF12_119 (ok_lit rfl rfl rfl) rfl ⟨by decide, by decide⟩ ?_
        refine mE_iload_n c102_140 rfl ?_
        obtain ⟨g10, w⟩ := w.ogd
        refine mE_laload c102_141 (ok_lit rfl rfl rfl) g1 g10 ?_
        intro u11
        refine mE_static2 (as := [.int (Int32.ofInt x1), .long (Int64.ofInt (M7 178 (x2).toNat)), .long (Int64.ofInt (M7 178 ((x2 + 1)).toNat))]) (r := [.int (Int32.ofInt x2), .ref 178]) c102_142 qo102 (by decide) qK12_411 rfl rfl rfl (Nat.le_of_ble_eq_true rfl) (s187 (d := d + 0) hx1 u9 u11 w.obind) ?_
        rintro v12 _ q14 ⟨rfl, w⟩
        obtain ⟨M15, m16, w⟩ := w.mlet
        refine mE_lastore c102_145 (ok_lit rfl rfl rfl) hx2 g4 q14 ?_
        refine mE_M m16 ?_
        exact mE_vret c102_146 qr102 w.osome
theorem s102 {X : Nat × Nat × qC} {d : Nat} {x1 : Int} {x2 : Int} {M : Mm} {R : Mm → Prop} (hx1 : R4 x1) (hx2 : R4 x2) (w : Wp (f102 x1 x2 M) R) : mC X (d + 2) 102 0 [.ref 142, .int (Int32.ofInt x1), .int (Int32.ofInt x2)] M (fun v M2 => R M2) :=
  mC_of (qent_mk qx102 rfl rfl rfl) (t102 hx1 hx2 w)
/-! SaggingNetModel.told -/
noncomputable def f178 (x1 : Int) (M : Mm) : Option (Int) :=
  gd (0 ≤ x1 ∧ x1 < 14) (
  (f170 (M 161 (x1).toNat) M).bind fun v3 =>
  gd (R8 (100 * v3)) (
  gd (¬ (M 162 (x1).toNat) = 0) (
  gd (R8 (Int.tdiv (100 * v3) (M 162 (x1).toNat))) (
  if (M 161 (x1).toNat) < 0 then
  (gd (R8 (-(Int.tdiv (100 * v3) (M 162 (x1).toNat)))) (
  some (-(Int.tdiv (100 * v3) (M 162 (x1).toNat)))))
  else
  (some (Int.tdiv (100 * v3) (M 162 (x1).toNat)))))))
theorem t178 {X : Nat × Nat × qC} {d : Nat} {x1 : Int} {M : Mm}  {R : Int → Prop} (hx1 : R4 x1) (w : Wp (f178 x1 M) R) : mE X (d + 1) 178 2 0 [some (.ref 142), some (.int (Int32.ofInt x1)), none, none] [] M (fun v M2 => M = M2 ∧ R v) := by
  refine mE_ldc2_w (x := 100) c178_0 qo178 qJ12_277 rfl ?_
  refine mE_aload_n c178_3 rfl ?_
  refine mE_getA c178_4 qo178 qF12_67 (ok_lit rfl rfl rfl) rfl ⟨by decide, by decide⟩ ?_
  refine mE_iload_n c178_7 rfl ?_
  obtain ⟨g1, w⟩ := w.ogd
  refine mE_laload c178_8 (ok_lit rfl rfl rfl) hx1 g1 ?_
  intro u2
  refine mE_static2 (as := [.long (Int64.ofInt (M 161 (x1).toNat))]) (r := [.long (Int64.ofInt 100)]) c178_9 qo178 (by decide) qK12_279 rfl rfl rfl (Nat.le_of_ble_eq_true rfl) (s170 (d := d + 0) u2 w.obind) ?_
  rintro v3 _ q5 ⟨rfl, w⟩
  obtain ⟨g6, w⟩ := w.ogd
  refine mE_lmul c178_12 ?_
  refine mE_aload_n c178_13 rfl ?_
  refine mE_getA c178_14 qo178 qF12_71 (ok_lit rfl rfl rfl) rfl ⟨by decide, by decide⟩ ?_
  refine mE_iload_n c178_17 rfl ?_
  refine mE_laload c178_18 (ok_lit rfl rfl rfl) hx1 g1 ?_
  intro u7
  obtain ⟨g8, w⟩ := w.ogd
  obtain ⟨g9, w⟩ := w.ogd
  refine mE_ldiv c178_19 g6 u7 g8 ?_
  refine mE_lstore_n (ls2 := [some (.ref 142), some (.int (Int32.ofInt x1)), some (.long (Int64.ofInt (Int.tdiv (100 * v3) (M 162 (x1).toNat)))), none]) c178_20 (Nat.le_of_ble_eq_true rfl) rfl ?_
  refine mE_aload_n c178_21 rfl ?_
  refine mE_getA c178_22 qo178 qF12_67 (ok_lit rfl rfl rfl) rfl ⟨by decide, by decide⟩ ?_
  refine mE_iload_n c178_25 rfl ?_
  refine mE_laload c178_26 (ok_lit rfl rfl rfl) hx1 g1 ?_
  intro u10
  refine mE_lconst (x := 0) c178_27 rfl ?_
  by_cases e11 : (M 161 (x1).toNat) < 0
  · have w := w.pos e11
    refine mE_lcmp_ge_F (t := 37) c178_28 c178_29 rfl u10 (r8_n rfl) e11 ?_
    refine mE_lload_n c178_32 rfl ?_
    obtain ⟨g12, w⟩ := w.ogd
    refine mE_lneg c178_33 ?_
    refine mE_goto (t := 38) c178_34 rfl ?_
    exact mE_lret c178_38 qr178 g12 ⟨rfl, w.osome⟩
  · have w := w.neg e11
    refine mE_lcmp_ge_T (t := 37) c178_28 c178_29 rfl u10 (r8_n rfl) e11 ?_
    refine mE_lload_n c178_37 rfl ?_
    exact mE_lret c178_38 qr178 g9 ⟨rfl, w.osome⟩
theorem s178 {X : Nat × Nat × qC} {d : Nat} {x1 : Int} {M : Mm} {R : Int → Prop} (hx1 : R4 x1) (w : Wp (f178 x1 M) R) : mC X (d + 2) 178 2 [.ref 142, .int (Int32.ofInt x1)] M (fun v M2 => M = M2 ∧ R v) :=
  mC_of (qent_mk qx178 rfl rfl rfl) (t178 hx1 w)
/-! SaggingNetModel.valueOf -/
noncomputable def f183_162  (M : Mm) : Option (Int) :=
  (f163 (M 142 54) M).bind fun v2 =>
  some v2
theorem t183_162 {X : Nat × Nat × qC} {d : Nat}  {M : Mm} {y1 : Int32} {y2 : Int32} {y3 : Int32} {R : Int → Prop}  (w : Wp (f183_162  M) R) : mE X (d + 2) 183 2 162 [some (.ref 142), some (.int y1), some (.int y2), some (.int y3)] [] M (fun v M2 => M = M2 ∧ R v) := by
  refine mE_aload_n c183_162 rfl ?_
  refine mE_aload_n c183_163 rfl ?_
  refine mE_getI c183_164 qo183 qF12_402 (ok_lit rfl rfl rfl) rfl ?_
  intro u1
  refine mE_virtual2 (b := 142) (as := [.int (Int32.ofInt (M 142 54))]) (r := []) c183_167 qo183 qK12_405 qo163 rfl rfl rfl (ok_lit rfl rfl rfl) (Nat.le_of_ble_eq_true rfl) (s163 (d := d + 1) u1 w.obind) ?_
  rintro v2 _ q4 ⟨rfl, w⟩
  exact mE_lret c183_170 qr183 q4 ⟨rfl, w.osome⟩
noncomputable def f183_185 (x2 : Int) (M : Mm) : Option (Int) :=
  (f178 x2 M).bind fun v1 =>
  (f170 v1 M).bind fun v4 =>
  some v4
theorem t183_185 {X : Nat × Nat × qC} {d : Nat} {x2 : Int} {M : Mm} {y1 : Int32} {y3 : Int32} {R : Int → Prop} (hx2 : R4 x2) (w : Wp (f183_185 x2 M) R) : mE X (d + 2) 183 2 185 [some (.ref 142), some (.int y1), some (.int (Int32.ofInt x2)), some (.int y3)] [] M (fun v M2 => M = M2 ∧ R v) := by
  refine mE_aload_n c183_185 rfl ?_
  refine mE_iload_n c183_186 rfl ?_
  refine mE_virtual2 (b := 142) (as := [.int (Int32.ofInt x2)]) (r := []) c183_187 qo183 qK12_408 qo178 rfl rfl rfl (ok_lit rfl rfl rfl) (Nat.le_of_ble_eq_true rfl) (s178 (d := d + 0) hx2 w.obind) ?_
  rintro v1 _ q3 ⟨rfl, w⟩
  refine mE_static2 (as := [.long (Int64.ofInt v1)]) (r := []) c183_190 qo183 (by decide) qK12_279 rfl rfl rfl (Nat.le_of_ble_eq_true rfl) (s170 (d := d + 1) q3 w.obind) ?_
  rintro v4 _ q6 ⟨rfl, w⟩
  exact mE_lret c183_193 qr183 q6 ⟨rfl, w.osome⟩
noncomputable def f183_124  (M : Mm) : Option (Int) :=
  gd (R4 ((M 142 54) + 68)) (
  gd (0 ≤ ((M 142 54) + 68) ∧ ((M 142 54) + 68) < 36400) (
  some (M 144 (((M 142 54) + 68)).toNat)))
theorem t183_124 {X : Nat × Nat × qC} {d : Nat}  {M : Mm} {y1 : Int32} {y2 : Int32} {y3 : Int32} {R : Int → Prop}  (w : Wp (f183_124  M) R) : mE X (d + 2) 183 2 124 [some (.ref 142), some (.int y1), some (.int y2), some (.int y3)] [] M (fun v M2 => M = M2 ∧ R v) := by
  refine mE_aload_n c183_124 rfl ?_
  refine mE_getA c183_125 qo183 qF12_14 (ok_lit rfl rfl rfl) rfl ⟨by decide, by decide⟩ ?_
  refine mE_aload_n c183_128 rfl ?_
  refine mE_getI c183_129 qo183 qF12_402 (ok_lit rfl rfl rfl) rfl ?_
  intro u1
  refine mE_bipush (x := 68) c183_132 rfl ?_
  obtain ⟨g2, w⟩ := w.ogd
  refine mE_iadd c183_134 ?_
  obtain ⟨g3, w⟩ := w.ogd
  refine mE_iaload c183_135 (ok_lit rfl rfl rfl) g2 g3 ?_
  intro u4
  refine mE_i2l c183_136 u4 ?_
  exact mE_lret c183_137 qr183 (R4.to8 u4) ⟨rfl, w.osome⟩
noncomputable def f183_171  (M : Mm) : Option (Int) :=
  gd (R4 ((M 142 54) + 67)) (
  gd (0 ≤ ((M 142 54) + 67) ∧ ((M 142 54) + 67) < 36400) (
  some (M 144 (((M 142 54) + 67)).toNat)))
theorem t183_171 {X : Nat × Nat × qC} {d : Nat}  {M : Mm} {y1 : Int32} {y2 : Int32} {y3 : Int32} {R : Int → Prop}  (w : Wp (f183_171  M) R) : mE X (d + 2) 183 2 171 [some (.ref 142), some (.int y1), some (.int y2), some (.int y3)] [] M (fun v M2 => M = M2 ∧ R v) := by
  refine mE_aload_n c183_171 rfl ?_
  refine mE_getA c183_172 qo183 qF12_14 (ok_lit rfl rfl rfl) rfl ⟨by decide, by decide⟩ ?_
  refine mE_aload_n c183_175 rfl ?_
  refine mE_getI c183_176 qo183 qF12_402 (ok_lit rfl rfl rfl) rfl ?_
  intro u1
  refine mE_bipush (x := 67) c183_179 rfl ?_
  obtain ⟨g2, w⟩ := w.ogd
  refine mE_iadd c183_181 ?_
  obtain ⟨g3, w⟩ := w.ogd
  refine mE_iaload c183_182 (ok_lit rfl rfl rfl) g2 g3 ?_
  intro u4
  refine mE_i2l c183_183 u4 ?_
  exact mE_lret c183_184 qr183 (R4.to8 u4) ⟨rfl, w.osome⟩
noncomputable def f183_149 (x3 : Int) (M : Mm) : Option (Int) :=
  gd (0 ≤ x3 ∧ x3 < 8) (
  gd (0 ≤ (M 158 (x3).toNat) ∧ (M 158 (x3).toNat) < 8) (
  some (M 160 ((M 158 (x3).toNat)).toNat)))
theorem t183_149 {X : Nat × Nat × qC} {d : Nat} {x3 : Int} {M : Mm} {y1 : Int32} {y2 : Int32} {R : Int → Prop} (hx3 : R4 x3) (w : Wp (f183_149 x3 M) R) : mE X (d + 2) 183 2 149 [some (.ref 142), some (.int y1), some (.int y2), some (.int (Int32.ofInt x3))] [] M (fun v M2 => M = M2 ∧ R v) := by
  refine mE_aload_n c183_149 rfl ?_
  refine mE_getA c183_150 qo183 qF12_64 (ok_lit rfl rfl rfl) rfl ⟨by decide, by decide⟩ ?_
  refine mE_aload_n c183_153 rfl ?_
  refine mE_getA c183_154 qo183 qF12_58 (ok_lit rfl rfl rfl) rfl ⟨by decide, by decide⟩ ?_
  refine mE_iload_n c183_157 rfl ?_
  obtain ⟨g1, w⟩ := w.ogd
  refine mE_iaload c183_158 (ok_lit rfl rfl rfl) hx3 g1 ?_
  intro u2
  obtain ⟨g3, w⟩ := w.ogd
  refine mE_iaload c183_159 (ok_lit rfl rfl rfl) u2 g3 ?_
  intro u4
  refine mE_i2l c183_160 u4 ?_
  exact mE_lret c183_161 qr183 (R4.to8 u4) ⟨rfl, w.osome⟩
noncomputable def f183_202 (x2 : Int) (M : Mm) : Option (Int) :=
  gd (R4 ((M 142 54) + 14)) (
  gd (R4 (((M 142 54) + 14) + x2)) (
  gd (0 ≤ (((M 142 54) + 14) + x2) ∧ (((M 142 54) + 14) + x2) < 36400) (
  some (M 144 ((((M 142 54) + 14) + x2)).toNat))))
theorem t183_202 {X : Nat × Nat × qC} {d : Nat} {x2 : Int} {M : Mm} {y1 : Int32} {y3 : Int32} {R : Int → Prop} (hx2 : R4 x2) (w : Wp (f183_202 x2 M) R) : mE X (d + 2) 183 2 202 [some (.ref 142), some (.int y1), some (.int (Int32.ofInt x2)), some (.int y3)] [] M (fun v M2 => M = M2 ∧ R v) := by
  refine mE_aload_n c183_202 rfl ?_
  refine mE_getA c183_203 qo183 qF12_14 (ok_lit rfl rfl rfl) rfl ⟨by decide, by decide⟩ ?_
  refine mE_aload_n c183_206 rfl ?_
  refine mE_getI c183_207 qo183 qF12_402 (ok_lit rfl rfl rfl) rfl ?_
  intro u1
  refine mE_bipush (x := 14) c183_210 rfl ?_
  obtain ⟨g2, w⟩ := w.ogd
  refine mE_iadd c183_212 ?_
  refine mE_iload_n c183_213 rfl ?_
  obtain ⟨g3, w⟩ := w.ogd
  refine mE_iadd c183_214 ?_
  obtain ⟨g4, w⟩ := w.ogd
  refine mE_iaload c183_215 (ok_lit rfl rfl rfl) g3 g4 ?_
  intro u5
  refine mE_i2l c183_216 u5 ?_
  exact mE_lret c183_217 qr183 (R4.to8 u5) ⟨rfl, w.osome⟩
noncomputable def f183 (x1 : Int) (M : Mm) : Option (Int) :=
  if (M 142 56) = 0 then
  (gd (0 ≤ (M 142 55) ∧ (M 142 55) < 9) (
  if x1 = 100 then
  (f183_162 M)
  else
  (if x1 = 101 then
  (some (M 154 ((M 142 55)).toNat))
  else
  (if x1 = 102 then
  (f183_185 (M 142 55) M)
  else
  (if x1 = 103 then
  (some (M 159 ((M 142 55)).toNat))
  else
  (if x1 = 104 then
  (some (M 154 ((M 142 55)).toNat))
  else
  (if x1 = 105 then
  (some (M 142 55))
  else
  (if x1 = 106 then
  (some (M 154 ((M 142 55)).toNat))
  else
  (if x1 = 107 then
  (gd (0 ≤ (M 153 ((M 142 55)).toNat) ∧ (M 153 ((M 142 55)).toNat) < 8) (
  some (M 145 ((M 153 ((M 142 55)).toNat)).toNat)))
  else
  (if x1 = 108 then
  (gd (0 ≤ (M 142 55) ∧ (M 142 55) < 14) (
  some (M 150 ((M 142 55)).toNat)))
  else
  (if x1 = 109 then
  (f183_124 M)
  else
  (if x1 = 110 then
  (f183_171 M)
  else
  (if x1 = 111 then
  (some (M 154 ((M 142 55)).toNat))
  else
  (if x1 = 112 then
  (some (M 154 ((M 142 55)).toNat))
  else
  (if x1 = 113 then
  (some (M 154 ((M 142 55)).toNat))
  else
  (if x1 = 114 then
  (f183_149 (M 153 ((M 142 55)).toNat) M)
  else
  (if x1 = 115 then
  (some (M 154 ((M 142 55)).toNat))
  else
  (if x1 = 116 then
  (some (M 154 ((M 142 55)).toNat))
  else
  (if x1 = 117 then
  (some (M 154 ((M 142 55)).toNat))
  else
  (if x1 = 118 then
  (some (M 154 ((M 142 55)).toNat))
  else
  (if x1 = 119 then
  (f183_202 (M 142 55) M)
  else
  (some (M 154 ((M 142 55)).toNat)))))))))))))))))))))))
  else
  (gd (0 ≤ (M 142 55) ∧ (M 142 55) < 14) (
  if x1 = 100 then
  (f183_162 M)
  else
  (if x1 = 101 then
  (gd (0 ≤ (M 142 55) ∧ (M 142 55) < 9) (
  some (M 154 ((M 142 55)).toNat)))
  else
  (if x1 = 102 then
  (f183_185 (M 142 55) M)
  else
  (if x1 = 103 then
  (gd (0 ≤ (M 142 55) ∧ (M 142 55) < 9) (
  some (M 159 ((M 142 55)).toNat)))
  else
  (if x1 = 104 then
  (gd (0 ≤ (M 142 55) ∧ (M 142 55) < 9) (
  some (M 154 ((M 142 55)).toNat)))
  else
  (if x1 = 105 then
  (some (M 142 55))
  else
  (if x1 = 106 then
  (gd (0 ≤ (M 142 55) ∧ (M 142 55) < 9) (
  some (M 154 ((M 142 55)).toNat)))
  else
  (if x1 = 107 then
  (gd (0 ≤ (M 147 ((M 142 55)).toNat) ∧ (M 147 ((M 142 55)).toNat) < 8) (
  some (M 145 ((M 147 ((M 142 55)).toNat)).toNat)))
  else
  (if x1 = 108 then
  (some (M 150 ((M 142 55)).toNat))
  else
  (if x1 = 109 then
  (f183_124 M)
  else
  (if x1 = 110 then
  (f183_171 M)
  else
  (if x1 = 111 then
  (gd (0 ≤ (M 142 55) ∧ (M 142 55) < 9) (
  some (M 154 ((M 142 55)).toNat)))
  else
  (if x1 = 112 then
  (gd (0 ≤ (M 142 55) ∧ (M 142 55) < 9) (
  some (M 154 ((M 142 55)).toNat)))
  else
  (if x1 = 113 then
  (gd (0 ≤ (M 142 55) ∧ (M 142 55) < 9) (
  some (M 154 ((M 142 55)).toNat)))
  else
  (if x1 = 114 then
  (f183_149 (M 147 ((M 142 55)).toNat) M)
  else
  (if x1 = 115 then
  (gd (0 ≤ (M 142 55) ∧ (M 142 55) < 9) (
  some (M 154 ((M 142 55)).toNat)))
  else
  (if x1 = 116 then
  (gd (0 ≤ (M 142 55) ∧ (M 142 55) < 9) (
  some (M 154 ((M 142 55)).toNat)))
  else
  (if x1 = 117 then
  (gd (0 ≤ (M 142 55) ∧ (M 142 55) < 9) (
  some (M 154 ((M 142 55)).toNat)))
  else
  (if x1 = 118 then
  (gd (0 ≤ (M 142 55) ∧ (M 142 55) < 9) (
  some (M 154 ((M 142 55)).toNat)))
  else
  (if x1 = 119 then
  (f183_202 (M 142 55) M)
  else
  (gd (0 ≤ (M 142 55) ∧ (M 142 55) < 9) (
  some (M 154 ((M 142 55)).toNat))))))))))))))))))))))))
theorem t183 {X : Nat × Nat × qC} {d : Nat} {x1 : Int} {M : Mm}  {R : Int → Prop} (hx1 : R4 x1) (w : Wp (f183 x1 M) R) : mE X (d + 2) 183 2 0 [some (.ref 142), some (.int (Int32.ofInt x1)), none, none] [] M (fun v M2 => M = M2 ∧ R v) := by
  refine mE_aload_n c183_0 rfl ?_
  refine mE_getI c183_1 qo183 qF12_396 (ok_lit rfl rfl rfl) rfl ?_
  intro u1
  refine mE_istore_n (ls2 := [some (.ref 142), some (.int (Int32.ofInt x1)), some (.int (Int32.ofInt (M 142 55))), none]) c183_4 (Nat.le_of_ble_eq_true rfl) rfl ?_
  refine mE_aload_n c183_5 rfl ?_
  refine mE_getI c183_6 qo183 qF12_399 (ok_lit rfl rfl rfl) rfl ?_
  intro u2
  by_cases e3 : (M 142 56) = 0
  · have w := w.pos e3
    refine mE_if_eq_T (t := 21) c183_9 rfl u2 e3 ?_
    refine mE_aload_n c183_21 rfl ?_
    refine mE_getA c183_22 qo183 qF12_42 (ok_lit rfl rfl rfl) rfl ⟨by decide, by decide⟩ ?_
    refine mE_iload_n c183_25 rfl ?_
    obtain ⟨g4, w⟩ := w.ogd
    refine mE_iaload c183_26 (ok_lit rfl rfl rfl) u1 g4 ?_
    intro u5
    refine mE_istore_n (ls2 := [some (.ref 142), some (.int (Int32.ofInt x1)), some (.int (Int32.ofInt (M 142 55))), some (.int (Int32.ofInt (M 153 ((M 142 55)).toNat)))]) c183_27 (Nat.le_of_ble_eq_true rfl) rfl ?_
    refine mE_iload_n c183_28 rfl ?_
    by_cases e6 : x1 = 100
    · have w := w.pos e6
      refine mE_table (off := 133) (t := 162) c183_29 hx1 e6 (by decide) rfl rfl ?_
      exact t183_162  w
    have w := w.neg e6
    by_cases e7 : x1 = 101
    · have w := w.pos e7
      refine mE_table (off := 197) (t := 226) c183_29 hx1 e7 (by decide) rfl rfl ?_
      refine mE_aload_n c183_226 rfl ?_
      refine mE_getA c183_227 qo183 qF12_45 (ok_lit rfl rfl rfl) rfl ⟨by decide, by decide⟩ ?_
      refine mE_iload_n c183_230 rfl ?_
      refine mE_iaload c183_231 (ok_lit rfl rfl rfl) u1 g4 ?_
      intro u8
      refine mE_i2l c183_232 u8 ?_
      exact mE_lret c183_233 qr183 (R4.to8 u8) ⟨rfl, w.osome⟩
    have w := w.neg e7
    by_cases e8 : x1 = 102
    · have w := w.pos e8
      refine mE_table (off := 156) (t := 185) c183_29 hx1 e8 (by decide) rfl rfl ?_
      exact t183_185 u1 w
    have w := w.neg e8
    by_cases e9 : x1 = 103
    · have w := w.pos e9
      refine mE_table (off := 189) (t := 218) c183_29 hx1 e9 (by decide) rfl rfl ?_
      refine mE_aload_n c183_218 rfl ?_
      refine mE_getA c183_219 qo183 qF12_61 (ok_lit rfl rfl rfl) rfl ⟨by decide, by decide⟩ ?_
      refine mE_iload_n c183_222 rfl ?_
      refine mE_iaload c183_223 (ok_lit rfl rfl rfl) u1 g4 ?_
      intro u10
      refine mE_i2l c183_224 u10 ?_
      exact mE_lret c183_225 qr183 (R4.to8 u10) ⟨rfl, w.osome⟩
    have w := w.neg e9
    by_cases e10 : x1 = 104
    · have w := w.pos e10
      refine mE_table (off := 197) (t := 226) c183_29 hx1 e10 (by decide) rfl rfl ?_
      refine mE_aload_n c183_226 rfl ?_
      refine mE_getA c183_227 qo183 qF12_45 (ok_lit rfl rfl rfl) rfl ⟨by decide, by decide⟩ ?_
      refine mE_iload_n c183_230 rfl ?_
      refine mE_iaload c183_231 (ok_lit rfl rfl rfl) u1 g4 ?_
      intro u11
      refine mE_i2l c183_232 u11 ?_
      exact mE_lret c183_233 qr183 (R4.to8 u11) ⟨rfl, w.osome⟩
    have w := w.neg e10
    by_cases e11 : x1 = 105
    · have w := w.pos e11
      refine mE_table (off := 109) (t := 138) c183_29 hx1 e11 (by decide) rfl rfl ?_
      refine mE_iload_n c183_138 rfl ?_
      refine mE_i2l c183_139 u1 ?_
      exact mE_lret c183_140 qr183 (R4.to8 u1) ⟨rfl, w.osome⟩
    have w := w.neg e11
    by_cases e12 : x1 = 106
    · have w := w.pos e12
      refine mE_table (off := 197) (t := 226) c183_29 hx1 e12 (by decide) rfl rfl ?_
      refine mE_aload_n c183_226 rfl ?_
      refine mE_getA c183_227 qo183 qF12_45 (ok_lit rfl rfl rfl) rfl ⟨by decide, by decide⟩ ?_
      refine mE_iload_n c183_230 rfl ?_
      refine mE_iaload c183_231 (ok_lit rfl rfl rfl) u1 g4 ?_
      intro u13
      refine mE_i2l c183_232 u13 ?_
      exact mE_lret c183_233 qr183 (R4.to8 u13) ⟨rfl, w.osome⟩
    have w := w.neg e12
    by_cases e13 : x1 = 107
    · have w := w.pos e13
      refine mE_table (off := 112) (t := 141) c183_29 hx1 e13 (by decide) rfl rfl ?_
      refine mE_aload_n c183_141 rfl ?_
      refine mE_getA c183_142 qo183 qF12_18 (ok_lit rfl rfl rfl) rfl ⟨by decide, by decide⟩ ?_
      refine mE_iload_n c183_145 rfl ?_
      obtain ⟨g14, w⟩ := w.ogd
      refine mE_iaload c183_146 (ok_lit rfl rfl rfl) u5 g14 ?_
      intro u15
      refine mE_i2l c183_147 u15 ?_
      exact mE_lret c183_148 qr183 (R4.to8 u15) ⟨rfl, w.osome⟩
    have w := w.neg e13
    by_cases e14 : x1 = 108
    · have w := w.pos e14
      refine mE_table (off := 165) (t := 194) c183_29 hx1 e14 (by decide) rfl rfl ?_
      refine mE_aload_n c183_194 rfl ?_
      refine mE_getA c183_195 qo183 qF12_33 (ok_lit rfl rfl rfl) rfl ⟨by decide, by decide⟩ ?_
      refine mE_iload_n c183_198 rfl ?_
      obtain ⟨g15, w⟩ := w.ogd
      refine mE_iaload c183_199 (ok_lit rfl rfl rfl) u1 g15 ?_
      intro u16
      refine mE_i2l c183_200 u16 ?_
      exact mE_lret c183_201 qr183 (R4.to8 u16) ⟨rfl, w.osome⟩
    have w := w.neg e14
    by_cases e15 : x1 = 109
    · have w := w.pos e15
      refine mE_table (off := 95) (t := 124) c183_29 hx1 e15 (by decide) rfl rfl ?_
      exact t183_124  w
    have w := w.neg e15
    by_cases e16 : x1 = 110
    · have w := w.pos e16
      refine mE_table (off := 142) (t := 171) c183_29 hx1 e16 (by decide) rfl rfl ?_
      exact t183_171  w
    have w := w.neg e16
    by_cases e17 : x1 = 111
    · have w := w.pos e17
      refine mE_table (off := 197) (t := 226) c183_29 hx1 e17 (by decide) rfl rfl ?_
      refine mE_aload_n c183_226 rfl ?_
      refine mE_getA c183_227 qo183 qF12_45 (ok_lit rfl rfl rfl) rfl ⟨by decide, by decide⟩ ?_
      refine mE_iload_n c183_230 rfl ?_
      refine mE_iaload c183_231 (ok_lit rfl rfl rfl) u1 g4 ?_
      intro u18
      refine mE_i2l c183_232 u18 ?_
      exact mE_lret c183_233 qr183 (R4.to8 u18) ⟨rfl, w.osome⟩
    have w := w.neg e17
    by_cases e18 : x1 = 112
    · have w := w.pos e18
      refine mE_table (off := 197) (t := 226) c183_29 hx1 e18 (by decide) rfl rfl ?_
      refine mE_aload_n c183_226 rfl ?_
      refine mE_getA c183_227 qo183 qF12_45 (ok_lit rfl rfl rfl) rfl ⟨by decide, by decide⟩ ?_
      refine mE_iload_n c183_230 rfl ?_
      refine mE_iaload c183_231 (ok_lit rfl rfl rfl) u1 g4 ?_
      intro u19
      refine mE_i2l c183_232 u19 ?_
      exact mE_lret c183_233 qr183 (R4.to8 u19) ⟨rfl, w.osome⟩
    have w := w.neg e18
    by_cases e19 : x1 = 113
    · have w := w.pos e19
      refine mE_table (off := 197) (t := 226) c183_29 hx1 e19 (by decide) rfl rfl ?_
      refine mE_aload_n c183_226 rfl ?_
      refine mE_getA c183_227 qo183 qF12_45 (ok_lit rfl rfl rfl) rfl ⟨by decide, by decide⟩ ?_
      refine mE_iload_n c183_230 rfl ?_
      refine mE_iaload c183_231 (ok_lit rfl rfl rfl) u1 g4 ?_
      intro u20
      refine mE_i2l c183_232 u20 ?_
      exact mE_lret c183_233 qr183 (R4.to8 u20) ⟨rfl, w.osome⟩
    have w := w.neg e19
    by_cases e20 : x1 = 114
    · have w := w.pos e20
      refine mE_table (off := 120) (t := 149) c183_29 hx1 e20 (by decide) rfl rfl ?_
      exact t183_149 u5 w
    have w := w.neg e20
    by_cases e21 : x1 = 115
    · have w := w.pos e21
      refine mE_table (off := 197) (t := 226) c183_29 hx1 e21 (by decide) rfl rfl ?_
      refine mE_aload_n c183_226 rfl ?_
      refine mE_getA c183_227 qo183 qF12_45 (ok_lit rfl rfl rfl) rfl ⟨by decide, by decide⟩ ?_
      refine mE_iload_n c183_230 rfl ?_
      refine mE_iaload c183_231 (ok_lit rfl rfl rfl) u1 g4 ?_
      intro u22
      refine mE_i2l c183_232 u22 ?_
      exact mE_lret c183_233 qr183 (R4.to8 u22) ⟨rfl, w.osome⟩
    have w := w.neg e21
    by_cases e22 : x1 = 116
    · have w := w.pos e22
      refine mE_table (off := 197) (t := 226) c183_29 hx1 e22 (by decide) rfl rfl ?_
      refine mE_aload_n c183_226 rfl ?_
      refine mE_getA c183_227 qo183 qF12_45 (ok_lit rfl rfl rfl) rfl ⟨by decide, by decide⟩ ?_
      refine mE_iload_n c183_230 rfl ?_
      refine mE_iaload c183_231 (ok_lit rfl rfl rfl) u1 g4 ?_
      intro u23
      refine mE_i2l c183_232 u23 ?_
      exact mE_lret c183_233 qr183 (R4.to8 u23) ⟨rfl, w.osome⟩
    have w := w.neg e22
    by_cases e23 : x1 = 117
    · have w := w.pos e23
      refine mE_table (off := 197) (t := 226) c183_29 hx1 e23 (by decide) rfl rfl ?_
      refine mE_aload_n c183_226 rfl ?_
      refine mE_getA c183_227 qo183 qF12_45 (ok_lit rfl rfl rfl) rfl ⟨by decide, by decide⟩ ?_
      refine mE_iload_n c183_230 rfl ?_
      refine mE_iaload c183_231 (ok_lit rfl rfl rfl) u1 g4 ?_
      intro u24
      refine mE_i2l c183_232 u24 ?_
      exact mE_lret c183_233 qr183 (R4.to8 u24) ⟨rfl, w.osome⟩
    have w := w.neg e23
    by_cases e24 : x1 = 118
    · have w := w.pos e24
      refine mE_table (off := 197) (t := 226) c183_29 hx1 e24 (by decide) rfl rfl ?_
      refine mE_aload_n c183_226 rfl ?_
      refine mE_getA c183_227 qo183 qF12_45 (ok_lit rfl rfl rfl) rfl ⟨by decide, by decide⟩ ?_
      refine mE_iload_n c183_230 rfl ?_
      refine mE_iaload c183_231 (ok_lit rfl rfl rfl) u1 g4 ?_
      intro u25
      refine mE_i2l c183_232 u25 ?_
      exact mE_lret c183_233 qr183 (R4.to8 u25) ⟨rfl, w.osome⟩
    have w := w.neg e24
    by_cases e25 : x1 = 119
    · have w := w.pos e25
      refine mE_table (off := 173) (t := 202) c183_29 hx1 e25 (by decide) rfl rfl ?_
      exact t183_202 u1 w
    have w := w.neg e25
    refine mE_tableD (t := 226) c183_29 hx1 (by omega) rfl ?_
    refine mE_aload_n c183_226 rfl ?_
    refine mE_getA c183_227 qo183 qF12_45 (ok_lit rfl rfl rfl) rfl ⟨by decide, by decide⟩ ?_
    refine mE_iload_n c183_230 rfl ?_
    refine mE_iaload c183_231 (ok_lit rfl rfl rfl) u1 g4 ?_
    intro u26
    refine mE_i2l c183_232 u26 ?_
    exact mE_lret c183_233 qr183 (R4.to8 u26) ⟨rfl, w.osome⟩
  · have w := w.neg e3
    refine mE_if_eq_F (t := 21) c183_9 rfl u2 e3 ?_
    refine mE_aload_n c183_12 rfl ?_
    refine mE_getA c183_13 qo183 qF12_24 (ok_lit rfl rfl rfl) rfl ⟨by decide, by decide⟩ ?_
    refine mE_iload_n c183_16 rfl ?_
    obtain ⟨g4, w⟩ := w.ogd
    refine mE_iaload c183_17 (ok_lit rfl rfl rfl) u1 g4 ?_
    intro u5
    refine mE_goto (t := 27) c183_18 rfl ?_
    refine mE_istore_n (ls2 := [some (.ref 142), some (.int (Int32.ofInt x1)), some (.int (Int32.ofInt (M 142 55))), some (.int (Int32.ofInt (M 147 ((M 142 55)).toNat)))]) c183_27 (Nat.le_of_ble_eq_true rfl) rfl ?_
    refine mE_iload_n c183_28 rfl ?_
    by_cases e6 : x1 = 100
    · have w := w.pos e6
      refine mE_table (off := 133) (t := 162) c183_29 hx1 e6 (by decide) rfl rfl ?_
      exact t183_162  w
    have w := w.neg e6
    by_cases e7 : x1 = 101
    · have w := w.pos e7
      refine mE_table (off := 197) (t := 226) c183_29 hx1 e7 (by decide) rfl rfl ?_
      refine mE_aload_n c183_226 rfl ?_
      refine mE_getA c183_227 qo183 qF12_45 (ok_lit rfl rfl rfl) rfl ⟨by decide, by decide⟩ ?_
      refine mE_iload_n c183_230 rfl ?_
      obtain ⟨g8, w⟩ := w.ogd
      refine mE_iaload c183_231 (ok_lit rfl rfl rfl) u1 g8 ?_
      intro u9
      refine mE_i2l c183_232 u9 ?_
      exact mE_lret c183_233 qr183 (R4.to8 u9) ⟨rfl, w.osome⟩
    have w := w.neg e7
    by_cases e8 : x1 = 102
    · have w := w.pos e8
      refine mE_table (off := 156) (t := 185) c183_29 hx1 e8 (by decide) rfl rfl ?_
      exact t183_185 u1 w
    have w := w.neg e8
    by_cases e9 : x1 = 103
    · have w := w.pos e9
      refine mE_table (off := 189) (t := 218) c183_29 hx1 e9 (by decide) rfl rfl ?_
      refine mE_aload_n c183_218 rfl ?_
      refine mE_getA c183_219 qo183 qF12_61 (ok_lit rfl rfl rfl) rfl ⟨by decide, by decide⟩ ?_
      refine mE_iload_n c183_222 rfl ?_
      obtain ⟨g10, w⟩ := w.ogd
      refine mE_iaload c183_223 (ok_lit rfl rfl rfl) u1 g10 ?_
      intro u11
      refine mE_i2l c183_224 u11 ?_
      exact mE_lret c183_225 qr183 (R4.to8 u11) ⟨rfl, w.osome⟩
    have w := w.neg e9
    by_cases e10 : x1 = 104
    · have w := w.pos e10
      refine mE_table (off := 197) (t := 226) c183_29 hx1 e10 (by decide) rfl rfl ?_
      refine mE_aload_n c183_226 rfl ?_
      refine mE_getA c183_227 qo183 qF12_45 (ok_lit rfl rfl rfl) rfl ⟨by decide, by decide⟩ ?_
      refine mE_iload_n c183_230 rfl ?_
      obtain ⟨g11, w⟩ := w.ogd
      refine mE_iaload c183_231 (ok_lit rfl rfl rfl) u1 g11 ?_
      intro u12
      refine mE_i2l c183_232 u12 ?_
      exact mE_lret c183_233 qr183 (R4.to8 u12) ⟨rfl, w.osome⟩
    have w := w.neg e10
    by_cases e11 : x1 = 105
    · have w := w.pos e11
      refine mE_table (off := 109) (t := 138) c183_29 hx1 e11 (by decide) rfl rfl ?_
      refine mE_iload_n c183_138 rfl ?_
      refine mE_i2l c183_139 u1 ?_
      exact mE_lret c183_140 qr183 (R4.to8 u1) ⟨rfl, w.osome⟩
    have w := w.neg e11
    by_cases e12 : x1 = 106
    · have w := w.pos e12
      refine mE_table (off := 197) (t := 226) c183_29 hx1 e12 (by decide) rfl rfl ?_
      refine mE_aload_n c183_226 rfl ?_
      refine mE_getA c183_227 qo183 qF12_45 (ok_lit rfl rfl rfl) rfl ⟨by decide, by decide⟩ ?_
      refine mE_iload_n c183_230 rfl ?_
      obtain ⟨g13, w⟩ := w.ogd
      refine mE_iaload c183_231 (ok_lit rfl rfl rfl) u1 g13 ?_
      intro u14
      refine mE_i2l c183_232 u14 ?_
      exact mE_lret c183_233 qr183 (R4.to8 u14) ⟨rfl, w.osome⟩
    have w := w.neg e12
    by_cases e13 : x1 = 107
    · have w := w.pos e13
      refine mE_table (off := 112) (t := 141) c183_29 hx1 e13 (by decide) rfl rfl ?_
      refine mE_aload_n c183_141 rfl ?_
      refine mE_getA c183_142 qo183 qF12_18 (ok_lit rfl rfl rfl) rfl ⟨by decide, by decide⟩ ?_
      refine mE_iload_n c183_145 rfl ?_
      obtain ⟨g14, w⟩ := w.ogd
      refine mE_iaload c183_146 (ok_lit rfl rfl rfl) u5 g14 ?_
      intro u15
      refine mE_i2l c183_147 u15 ?_
      exact mE_lret c183_148 qr183 (R4.to8 u15) ⟨rfl, w.osome⟩
    have w := w.neg e13
    by_cases e14 : x1 = 108
    · have w := w.pos e14
      refine mE_table (off := 165) (t := 194) c183_29 hx1 e14 (by decide) rfl rfl ?_
      refine mE_aload_n c183_194 rfl ?_
      refine mE_getA c183_195 qo183 qF12_33 (ok_lit rfl rfl rfl) rfl ⟨by decide, by decide⟩ ?_
      refine mE_iload_n c183_198 rfl ?_
      refine mE_iaload c183_199 (ok_lit rfl rfl rfl) u1 g4 ?_
      intro u15
      refine mE_i2l c183_200 u15 ?_
      exact mE_lret c183_201 qr183 (R4.to8 u15) ⟨rfl, w.osome⟩
    have w := w.neg e14
    by_cases e15 : x1 = 109
    · have w := w.pos e15
      refine mE_table (off := 95) (t := 124) c183_29 hx1 e15 (by decide) rfl rfl ?_
      exact t183_124  w
    have w := w.neg e15
    by_cases e16 : x1 = 110
    · have w := w.pos e16
      refine mE_table (off := 142) (t := 171) c183_29 hx1 e16 (by decide) rfl rfl ?_
      exact t183_171  w
    have w := w.neg e16
    by_cases e17 : x1 = 111
    · have w := w.pos e17
      refine mE_table (off := 197) (t := 226) c183_29 hx1 e17 (by decide) rfl rfl ?_
      refine mE_aload_n c183_226 rfl ?_
      refine mE_getA c183_227 qo183 qF12_45 (ok_lit rfl rfl rfl) rfl ⟨by decide, by decide⟩ ?_
      refine mE_iload_n c183_230 rfl ?_
      obtain ⟨g18, w⟩ := w.ogd
      refine mE_iaload c183_231 (ok_lit rfl rfl rfl) u1 g18 ?_
      intro u19
      refine mE_i2l c183_232 u19 ?_
      exact mE_lret c183_233 qr183 (R4.to8 u19) ⟨rfl, w.osome⟩
    have w := w.neg e17
    by_cases e18 : x1 = 112
    · have w := w.pos e18
      refine mE_table (off := 197) (t := 226) c183_29 hx1 e18 (by decide) rfl rfl ?_
      refine mE_aload_n c183_226 rfl ?_
      refine mE_getA c183_227 qo183 qF12_45 (ok_lit rfl rfl rfl) rfl ⟨by decide, by decide⟩ ?_
      refine mE_iload_n c183_230 rfl ?_
      obtain ⟨g19, w⟩ := w.ogd
      refine mE_iaload c183_231 (ok_lit rfl rfl rfl) u1 g19 ?_
      intro u20
      refine mE_i2l c183_232 u20 ?_
      exact mE_lret c183_233 qr183 (R4.to8 u20) ⟨rfl, w.osome⟩
    have w := w.neg e18
    by_cases e19 : x1 = 113
    · have w := w.pos e19
      refine mE_table (off := 197) (t := 226) c183_29 hx1 e19 (by decide) rfl rfl ?_
      refine mE_aload_n c183_226 rfl ?_
      refine mE_getA c183_227 qo183 qF12_45 (ok_lit rfl rfl rfl) rfl ⟨by decide, by decide⟩ ?_
      refine mE_iload_n c183_230 rfl ?_
      obtain ⟨g20, w⟩ := w.ogd
      refine mE_iaload c183_231 (ok_lit rfl rfl rfl) u1 g20 ?_
      intro u21
      refine mE_i2l c183_232 u21 ?_
      exact mE_lret c183_233 qr183 (R4.to8 u21) ⟨rfl, w.osome⟩
    have w := w.neg e19
    by_cases e20 : x1 = 114
    · have w := w.pos e20
      refine mE_table (off := 120) (t := 149) c183_29 hx1 e20 (by decide) rfl rfl ?_
      exact t183_149 u5 w
    have w := w.neg e20
    by_cases e21 : x1 = 115
    · have w := w.pos e21
      refine mE_table (off := 197) (t := 226) c183_29 hx1 e21 (by decide) rfl rfl ?_
      refine mE_aload_n c183_226 rfl ?_
      refine mE_getA c183_227 qo183 qF12_45 (ok_lit rfl rfl rfl) rfl ⟨by decide, by decide⟩ ?_
      refine mE_iload_n c183_230 rfl ?_
      obtain ⟨g22, w⟩ := w.ogd
      refine mE_iaload c183_231 (ok_lit rfl rfl rfl) u1 g22 ?_
      intro u23
      refine mE_i2l c183_232 u23 ?_
      exact mE_lret c183_233 qr183 (R4.to8 u23) ⟨rfl, w.osome⟩
    have w := w.neg e21
    by_cases e22 : x1 = 116
    · have w := w.pos e22
      refine mE_table (off := 197) (t := 226) c183_29 hx1 e22 (by decide) rfl rfl ?_
      refine mE_aload_n c183_226 rfl ?_
      refine mE_getA c183_227 qo183 qF12_45 (ok_lit rfl rfl rfl) rfl ⟨by decide, by decide⟩ ?_
      refine mE_iload_n c183_230 rfl ?_
      obtain ⟨g23, w⟩ := w.ogd
      refine mE_iaload c183_231 (ok_lit rfl rfl rfl) u1 g23 ?_
      intro u24
      refine mE_i2l c183_232 u24 ?_
      exact mE_lret c183_233 qr183 (R4.to8 u24) ⟨rfl, w.osome⟩
    have w := w.neg e22
    by_cases e23 : x1 = 117
    · have w := w.pos e23
      refine mE_table (off := 197) (t := 226) c183_29 hx1 e23 (by decide) rfl rfl ?_
      refine mE_aload_n c183_226 rfl ?_
      refine mE_getA c183_227 qo183 qF12_45 (ok_lit rfl rfl rfl) rfl ⟨by decide, by decide⟩ ?_
      refine mE_iload_n c183_230 rfl ?_
      obtain ⟨g24, w⟩ := w.ogd
      refine mE_iaload c183_231 (ok_lit rfl rfl rfl) u1 g24 ?_
      intro u25
      refine mE_i2l c183_232 u25 ?_
      exact mE_lret c183_233 qr183 (R4.to8 u25) ⟨rfl, w.osome⟩
    have w := w.neg e23
    by_cases e24 : x1 = 118
    · have w := w.pos e24
      refine mE_table (off := 197) (t := 226) c183_29 hx1 e24 (by decide) rfl rfl ?_
      refine mE_aload_n c183_226 rfl ?_
      refine mE_getA c183_227 qo183 qF12_45 (ok_lit rfl rfl rfl) rfl ⟨by decide, by decide⟩ ?_
      refine mE_iload_n c183_230 rfl ?_
      obtain ⟨g25, w⟩ := w.ogd
      refine mE_iaload c183_231 (ok_lit rfl rfl rfl) u1 g25 ?_
      intro u26
      refine mE_i2l c183_232 u26 ?_
      exact mE_lret c183_233 qr183 (R4.to8 u26) ⟨rfl, w.osome⟩
    have w := w.neg e24
    by_cases e25 : x1 = 119
    · have w := w.pos e25
      refine mE_table (off := 173) (t := 202) c183_29 hx1 e25 (by decide) rfl rfl ?_
      exact t183_202 u1 w
    have w := w.neg e25
    refine mE_tableD (t := 226) c183_29 hx1 (by omega) rfl ?_
    refine mE_aload_n c183_226 rfl ?_
    refine mE_getA c183_227 qo183 qF12_45 (ok_lit rfl rfl rfl) rfl ⟨by decide, by decide⟩ ?_
    refine mE_iload_n c183_230 rfl ?_
    obtain ⟨g26, w⟩ := w.ogd
    refine mE_iaload c183_231 (ok_lit rfl rfl rfl) u1 g26 ?_
    intro u27
    refine mE_i2l c183_232 u27 ?_
    exact mE_lret c183_233 qr183 (R4.to8 u27) ⟨rfl, w.osome⟩
theorem s183 {X : Nat × Nat × qC} {d : Nat} {x1 : Int} {M : Mm} {R : Int → Prop} (hx1 : R4 x1) (w : Wp (f183 x1 M) R) : mC X (d + 3) 183 2 [.ref 142, .int (Int32.ofInt x1)] M (fun v M2 => M = M2 ∧ R v) :=
  mC_of (qent_mk qx183 rfl rfl rfl) (t183 hx1 w)
/-! SaggingNetModel.holds -/
def E121_9 (X : Nat × Nat × qC) (d : Nat) (x1 : Int) (R : Int × Mm → Prop) : Int × Int × Mm → Prop := fun s => R4 s.1 → R4 s.2.1 → mE X (d + 3) 121 1 9 [some (.ref 142), some (.int (Int32.ofInt x1)), some (.int (Int32.ofInt s.1)), some (.int (Int32.ofInt s.2.1))] [] s.2.2 (fun v M2 => R (v, M2))
noncomputable def f121_124 (x1 : Int) (x2 : Int) (x3 : Int) (M : Mm) : Option ((Int × Int × Mm) ⊕ (Int × Mm)) :=
  gd (R4 (x3 + 1)) (
  some (.inl (x2, (x3 + 1), M)))
theorem t121_124 {X : Nat × Nat × qC} {d : Nat} {x1 : Int} {x2 : Int} {x3 : Int} {M : Mm}  {R : Int × Mm → Prop} (hx1 : R4 x1) (hx2 : R4 x2) (hx3 : R4 x3) (w : Wp (f121_124 x1 x2 x3 M) (Sum.elim (E121_9 X d x1 R) R)) : mE X (d + 3) 121 1 124 [some (.ref 142), some (.int (Int32.ofInt x1)), some (.int (Int32.ofInt x2)), some (.int (Int32.ofInt x3))] [] M (fun v M2 => R (v, M2)) := by
  obtain ⟨g1, w⟩ := w.ogd
  refine mE_iinc (ls2 := [some (.ref 142), some (.int (Int32.ofInt x1)), some (.int (Int32.ofInt x2)), some (.int (Int32.ofInt (x3 + 1)))]) c121_124 rfl (Nat.le_of_ble_eq_true rfl) rfl ?_
  refine mE_goto (t := 9) c121_127 rfl ?_
  exact w.osome hx2 g1
noncomputable def lb121_9 (x1 : Int) (x2 : Int) (x3 : Int) (M : Mm) : Option ((Int × Int × Mm) ⊕ (Int × Mm)) :=
  gd (0 ≤ x1 ∧ x1 < 12) (
  if x3 < (M 169 (x1).toNat) then
  (gd (0 ≤ x3 ∧ x3 < 160) (
  if 2 < (M 170 (x3).toNat) then
  (gd (R4 (x2 + (-1))) (
  gd (R4 ((x2 + (-1)) - 1)) (
  (f102 (M 170 (x3).toNat) ((x2 + (-1)) - 1) M).bind fun M11 =>
  f121_124 x1 (x2 + (-1)) x3 M11)))
  else
  (if (M 170 (x3).toNat) = 2 then
  (gd (R4 (x2 - 1)) (
  gd (0 ≤ (x2 - 1) ∧ (x2 - 1) < 200) (
  gd (R8 (1 - (M 178 ((x2 - 1)).toNat))) (
  mlet (ms M 178 ((x2 - 1)).toNat (1 - (M 178 ((x2 - 1)).toNat))) fun M13 =>
  f121_124 x1 x2 x3 M13))))
  else
  (gd (0 ≤ x2 ∧ x2 < 200) (
  mlet (ms M 179 (x2).toNat 0) fun M10 =>
  if (M10 170 (x3).toNat) = 0 then
  (mlet (ms M10 178 (x2).toNat (M10 171 (x3).toNat)) fun M15 =>
  gd (R4 (x2 + 1)) (
  f121_124 x1 (x2 + 1) x3 M15))
  else
  ((f183 (M10 171 (x3).toNat) M10).bind fun v15 =>
  mlet (ms M10 178 (x2).toNat v15) fun M18 =>
  gd (R4 (x2 + 1)) (
  f121_124 x1 (x2 + 1) x3 M18)))))))
  else
  (oinr (if (M 179 0) = 0 then
  (if (M 178 0) = 1 then
  (some (1, M))
  else
  (some (0, M)))
  else
  (some (0, M)))))
noncomputable def f121_9 (x1 : Int) (x2 : Int) (x3 : Int) (M : Mm) : Option (Int × Mm) := lp (fun s : Int × Int × Mm => lb121_9 x1 s.1 s.2.1 s.2.2) (x2, x3, M)
theorem tb121_9 {X : Nat × Nat × qC} {d : Nat} {x1 : Int} {x2 : Int} {x3 : Int} {M : Mm}  {R : Int × Mm → Prop} (hx1 : R4 x1) (hx2 : R4 x2) (hx3 : R4 x3) (w : Wp (lb121_9 x1 x2 x3 M) (Sum.elim (E121_9 X d x1 R) R)) : mE X (d + 3) 121 1 9 [some (.ref 142), some (.int (Int32.ofInt x1)), some (.int (Int32.ofInt x2)), some (.int (Int32.ofInt x3))] [] M (fun v M2 => R (v, M2)) := by
  refine mE_iload_n c121_9 rfl ?_
  refine mE_aload_n c121_10 rfl ?_
  refine mE_getA c121_11 qo121 qF12_92 (ok_lit rfl rfl rfl) rfl ⟨by decide, by decide⟩ ?_
  refine mE_iload_n c121_14 rfl ?_
  obtain ⟨g1, w⟩ := w.ogd
  refine mE_iaload c121_15 (ok_lit rfl rfl rfl) hx1 g1 ?_
  intro u2
  by_cases e3 : x3 < (M 169 (x1).toNat)
  · have w := w.pos e3
    refine mE_icmp_ge_F (t := 130) c121_16 rfl hx3 u2 e3 ?_
    refine mE_aload_n c121_19 rfl ?_
    refine mE_getA c121_20 qo121 qF12_95 (ok_lit rfl rfl rfl) rfl ⟨by decide, by decide⟩ ?_
    refine mE_iload_n c121_23 rfl ?_
    obtain ⟨g4, w⟩ := w.ogd
    refine mE_iaload c121_24 (ok_lit rfl rfl rfl) hx3 g4 ?_
    intro u5
    refine mE_iconst c121_25 ?_
    by_cases e6 : 2 < (M 170 (x3).toNat)
    · have w := w.pos e6
      refine mE_icmp_le_F (t := 48) c121_26 rfl u5 (r4_n rfl) e6 ?_
      obtain ⟨g7, w⟩ := w.ogd
      refine mE_iinc (ls2 := [some (.ref 142), some (.int (Int32.ofInt x1)), some (.int (Int32.ofInt (x2 + (-1)))), some (.int (Int32.ofInt x3))]) c121_29 rfl (Nat.le_of_ble_eq_true rfl) rfl ?_
      refine mE_aload_n c121_32 rfl ?_
      refine mE_aload_n c121_33 rfl ?_
      refine mE_getA c121_34 qo121 qF12_95 (ok_lit rfl rfl rfl) rfl ⟨by decide, by decide⟩ ?_
      refine mE_iload_n c121_37 rfl ?_
      refine mE_iaload c121_38 (ok_lit rfl rfl rfl) hx3 g4 ?_
      intro u8
      refine mE_iload_n c121_39 rfl ?_
      refine mE_iconst c121_40 ?_
      obtain ⟨g9, w⟩ := w.ogd
      refine mE_isub c121_41 ?_
      refine mE_virtual0 (b := 142) (as := [.int (Int32.ofInt (M 170 (x3).toNat)), .int (Int32.ofInt ((x2 + (-1)) - 1))]) (r := []) c121_42 qo121 qK12_415 qo102 rfl rfl rfl (ok_lit rfl rfl rfl) (Nat.le_of_ble_eq_true rfl) (s102 (d := d + 1) u8 g9 w.obind) ?_
      intro _ M11 w
      refine mE_goto (t := 124) c121_45 rfl ?_
      exact t121_124 hx1 g7 hx3 w
    · have w := w.neg e6
      refine mE_icmp_le_T (t := 48) c121_26 rfl u5 (r4_n rfl) e6 ?_
      refine mE_aload_n c121_48 rfl ?_
      refine mE_getA c121_49 qo121 qF12_95 (ok_lit rfl rfl rfl) rfl ⟨by decide, by decide⟩ ?_
      refine mE_iload_n c121_52 rfl ?_
      refine mE_iaload c121_53 (ok_lit rfl rfl rfl) hx3 g4 ?_
      intro u7
      refine mE_iconst c121_54 ?_
      by_cases e8 : (M 170 (x3).toNat) = 2
      · have w := w.pos e8
        refine mE_icmp_ne_F (t := 79) c121_55 rfl u7 (r4_n rfl) e8 ?_
        refine mE_aload_n c121_58 rfl ?_
        refine mE_getA c121_59 qo121 qF12_119 (ok_lit rfl rfl rfl) rfl ⟨by decide, by decide⟩ ?_
        refine mE_iload_n c121_62 rfl ?_
        refine mE_iconst c121_63 ?_
        obtain ⟨g9, w⟩ := w.ogd
        refine mE_isub c121_64 ?_
        refine mE_lconst (x := 1) c121_65 rfl ?_
        refine mE_aload_n c121_66 rfl ?_
        refine mE_getA c121_67 qo121 qF12_119 (ok_lit rfl rfl rfl) rfl ⟨by decide, by decide⟩ ?_
        refine mE_iload_n c121_70 rfl ?_
        refine mE_iconst c121_71 ?_
        refine mE_isub c121_72 ?_
        obtain ⟨g10, w⟩ := w.ogd
        refine mE_laload c121_73 (ok_lit rfl rfl rfl) g9 g10 ?_
        intro u11
        obtain ⟨g12, w⟩ := w.ogd
        refine mE_lsub c121_74 ?_
        obtain ⟨M13, m14, w⟩ := w.mlet
        refine mE_lastore c121_75 (ok_lit rfl rfl rfl) g9 g10 g12 ?_
        refine mE_M m14 ?_
        refine mE_goto (t := 124) c121_76 rfl ?_
        exact t121_124 hx1 hx2 hx3 w
      · have w := w.neg e8
        refine mE_icmp_ne_T (t := 79) c121_55 rfl u7 (r4_n rfl) e8 ?_
        refine mE_aload_n c121_79 rfl ?_
        refine mE_getA c121_80 qo121 qF12_122 (ok_lit rfl rfl rfl) rfl ⟨by decide, by decide⟩ ?_
        refine mE_iload_n c121_83 rfl ?_
        refine mE_iconst c121_84 ?_
        obtain ⟨g9, w⟩ := w.ogd
        obtain ⟨M10, m11, w⟩ := w.mlet
        refine mE_zastore c121_85 (ok_lit rfl rfl rfl) hx2 g9 (Or.inl rfl) ?_
        refine mE_M m11 ?_
        refine mE_aload_n c121_86 rfl ?_
        refine mE_getA c121_87 qo121 qF12_119 (ok_lit rfl rfl rfl) rfl ⟨by decide, by decide⟩ ?_
        refine mE_iload_n c121_90 rfl ?_
        refine mE_aload_n c121_91 rfl ?_
        refine mE_getA c121_92 qo121 qF12_95 (ok_lit rfl rfl rfl) rfl ⟨by decide, by decide⟩ ?_
        refine mE_iload_n c121_95 rfl ?_
        refine mE_iaload c121_96 (ok_lit rfl rfl rfl) hx3 g4 ?_
        intro u12
        by_cases e13 : (M10 170 (x3).toNat) = 0
        · have w := w.pos e13
          refine mE_if_ne_F (t := 110) c121_97 rfl u12 e13 ?_
          refine mE_aload_n c121_100 rfl ?_
          refine mE_getA c121_101 qo121 qF12_98 (ok_lit rfl rfl rfl) rfl ⟨by decide, by decide⟩ ?_
          refine mE_iload_n c121_104 rfl ?_
          refine mE_iaload c121_105 (ok_lit rfl rfl rfl) hx3 g4 ?_
          intro u14
          refine mE_i2l c121_106 u14 ?_
          refine mE_goto (t := 120) c121_107 rfl ?_
          obtain ⟨M15, m16, w⟩ := w.mlet
          refine mE_lastore c121_120 (ok_lit rfl rfl rfl) hx2 g9 (R4.to8 u14) ?_
          refine mE_M m16 ?_
          obtain ⟨g17, w⟩ := w.ogd
          refine mE_iinc (ls2 := [some (.ref 142), some (.int (Int32.ofInt x1)), some (.int (Int32.ofInt (x2 + 1))), some (.int (Int32.ofInt x3))]) c121_121 rfl (Nat.le_of_ble_eq_true rfl) rfl ?_
          exact t121_124 hx1 g17 hx3 w
        · have w := w.neg e13
          refine mE_if_ne_T (t := 110) c121_97 rfl u12 e13 ?_
          refine mE_aload_n c121_110 rfl ?_
          refine mE_aload_n c121_111 rfl ?_
          refine mE_getA c121_112 qo121 qF12_98 (ok_lit rfl rfl rfl) rfl ⟨by decide, by decide⟩ ?_
          refine mE_iload_n c121_115 rfl ?_
          refine mE_iaload c121_116 (ok_lit rfl rfl rfl) hx3 g4 ?_
          intro u14
          refine mE_virtual2 (b := 142) (as := [.int (Int32.ofInt (M10 171 (x3).toNat))]) (r := [.int (Int32.ofInt x2), .ref 178]) c121_117 qo121 qK12_418 qo183 rfl rfl rfl (ok_lit rfl rfl rfl) (Nat.le_of_ble_eq_true rfl) (s183 (d := d + 0) u14 w.obind) ?_
          rintro v15 _ q17 ⟨rfl, w⟩
          obtain ⟨M18, m19, w⟩ := w.mlet
          refine mE_lastore c121_120 (ok_lit rfl rfl rfl) hx2 g9 q17 ?_
          refine mE_M m19 ?_
          obtain ⟨g20, w⟩ := w.ogd
          refine mE_iinc (ls2 := [some (.ref 142), some (.int (Int32.ofInt x1)), some (.int (Int32.ofInt (x2 + 1))), some (.int (Int32.ofInt x3))]) c121_121 rfl (Nat.le_of_ble_eq_true rfl) rfl ?_
          exact t121_124 hx1 g20 hx3 w
  · have w := w.neg e3
    refine mE_icmp_ge_T (t := 130) c121_16 rfl hx3 u2 e3 ?_
    have w := w.oinr
    refine mE_aload_n c121_130 rfl ?_
    refine mE_getA c121_131 qo121 qF12_122 (ok_lit rfl rfl rfl) rfl ⟨by decide, by decide⟩ ?_
    refine mE_iconst c121_134 ?_
    refine mE_zaload c121_135 (ok_lit rfl rfl rfl) (r4_n rfl) (by decide) ?_
    intro u4
    by_cases e5 : (M 179 0) = 0
    · have w := w.pos e5
      refine mE_if_ne_F (t := 154) c121_136 rfl u4 e5 ?_
      refine mE_aload_n c121_139 rfl ?_
      refine mE_getA c121_140 qo121 qF12_119 (ok_lit rfl rfl rfl) rfl ⟨by decide, by decide⟩ ?_
      refine mE_iconst c121_143 ?_
      refine mE_laload c121_144 (ok_lit rfl rfl rfl) (r4_n rfl) (by decide) ?_
      intro u6
      refine mE_lconst (x := 1) c121_145 rfl ?_
      by_cases e7 : (M 178 0) = 1
      · have w := w.pos e7
        refine mE_lcmp_ne_F (t := 154) c121_146 c121_147 rfl u6 (r8_n rfl) e7 ?_
        refine mE_iconst c121_150 ?_
        refine mE_goto (t := 155) c121_151 rfl ?_
        exact mE_zret c121_155 qr121 (Or.inr rfl) w.osome
      · have w := w.neg e7
        refine mE_lcmp_ne_T (t := 154) c121_146 c121_147 rfl u6 (r8_n rfl) e7 ?_
        refine mE_iconst c121_154 ?_
        exact mE_zret c121_155 qr121 (Or.inl rfl) w.osome
    · have w := w.neg e5
      refine mE_if_ne_T (t := 154) c121_136 rfl u4 e5 ?_
      refine mE_iconst c121_154 ?_
      exact mE_zret c121_155 qr121 (Or.inl rfl) w.osome
theorem t121_9 {X : Nat × Nat × qC} {d : Nat} {x1 : Int} {x2 : Int} {x3 : Int} {M : Mm}  {R : Int × Mm → Prop} (hx1 : R4 x1) (hx2 : R4 x2) (hx3 : R4 x3) (w : Wp (f121_9 x1 x2 x3 M) R) : mE X (d + 3) 121 1 9 [some (.ref 142), some (.int (Int32.ofInt x1)), some (.int (Int32.ofInt x2)), some (.int (Int32.ofInt x3))] [] M (fun v M2 => R (v, M2)) :=
  Wp.olp (f := fun s : Int × Int × Mm => lb121_9 x1 s.1 s.2.1 s.2.2) (s := (x2, x3, M)) (E := E121_9 X d x1 R) w (fun s w hx2 hx3 => tb121_9 hx1 hx2 hx3 w) hx2 hx3
noncomputable def f121 (x1 : Int) (M : Mm) : Option (Int × Mm) :=
  gd (0 ≤ x1 ∧ x1 < 12) (
  f121_9 x1 0 (M 168 (x1).toNat) M)
theorem t121 {X : Nat × Nat × qC} {d : Nat} {x1 : Int} {M : Mm}  {R : Int × Mm → Prop} (hx1 : R4 x1) (w : Wp (f121 x1 M) R) : mE X (d + 3) 121 1 0 [some (.ref 142), some (.int (Int32.ofInt x1)), none, none] [] M (fun v M2 => R (v, M2)) := by
  refine mE_iconst c121_0 ?_
  refine mE_istore_n (ls2 := [some (.ref 142), some (.int (Int32.ofInt x1)), some (.int (Int32.ofInt 0)), none]) c121_1 (Nat.le_of_ble_eq_true rfl) rfl ?_
  refine mE_aload_n c121_2 rfl ?_
  refine mE_getA c121_3 qo121 qF12_89 (ok_lit rfl rfl rfl) rfl ⟨by decide, by decide⟩ ?_
  refine mE_iload_n c121_6 rfl ?_
  obtain ⟨g1, w⟩ := w.ogd
  refine mE_iaload c121_7 (ok_lit rfl rfl rfl) hx1 g1 ?_
  intro u2
  refine mE_istore_n (ls2 := [some (.ref 142), some (.int (Int32.ofInt x1)), some (.int (Int32.ofInt 0)), some (.int (Int32.ofInt (M 168 (x1).toNat)))]) c121_8 (Nat.le_of_ble_eq_true rfl) rfl ?_
  exact t121_9 hx1 (r4_n rfl) u2 w
theorem s121 {X : Nat × Nat × qC} {d : Nat} {x1 : Int} {M : Mm} {R : Int × Mm → Prop} (hx1 : R4 x1) (w : Wp (f121 x1 M) R) : mC X (d + 4) 121 1 [.ref 142, .int (Int32.ofInt x1)] M (fun v M2 => R (v, M2)) :=
  mC_of (qent_mk qx121 rfl rfl rfl) (t121 hx1 w)
/-! SaggingNetModel.holdsSome -/
def E122_18 (X : Nat × Nat × qC) (d : Nat) (x2 : Int) (R : Int × Mm → Prop) : Int × Mm → Prop := fun s => R4 s.1 → ∀ (y1 : Int32), ∀ (y3 : Int32), mE X (d + 4) 122 1 18 [some (.ref 142), some (.int y1), some (.int (Int32.ofInt x2)), some (.int y3), some (.int (Int32.ofInt s.1))] [] s.2 (fun v M2 => R (v, M2))
noncomputable def f122_59 (x2 : Int) (x4 : Int) (M : Mm) : Option ((Int × Mm) ⊕ (Int × Mm)) :=
  gd (R4 (x4 + 1)) (
  some (.inl ((x4 + 1), M)))
theorem t122_59 {X : Nat × Nat × qC} {d : Nat} {x2 : Int} {x4 : Int} {M : Mm} {y1 : Int32} {y3 : Int32} {R : Int × Mm → Prop} (hx2 : R4 x2) (hx4 : R4 x4) (w : Wp (f122_59 x2 x4 M) (Sum.elim (E122_18 X d x2 R) R)) : mE X (d + 4) 122 1 59 [some (.ref 142), some (.int y1), some (.int (Int32.ofInt x2)), some (.int y3), some (.int (Int32.ofInt x4))] [] M (fun v M2 => R (v, M2)) := by
  obtain ⟨g1, w⟩ := w.ogd
  refine mE_iinc (ls2 := [some (.ref 142), some (.int y1), some (.int (Int32.ofInt x2)), some (.int y3), some (.int (Int32.ofInt (x4 + 1)))]) c122_59 rfl (Nat.le_of_ble_eq_true rfl) rfl ?_
  refine mE_goto (t := 18) c122_62 rfl ?_
  exact w.osome g1 _ _
noncomputable def f122_48 (x2 : Int) (x4 : Int) (M : Mm) : Option ((Int × Mm) ⊕ (Int × Mm)) :=
  obnd (f121 x4 M) fun v1 M2 =>
  if v1 = 0 then
  (f122_59 x2 x4 M2)
  else
  (oinr (some (1, M2)))
theorem t122_48 {X : Nat × Nat × qC} {d : Nat} {x2 : Int} {x4 : Int} {M : Mm} {y1 : Int32} {y3 : Int32} {R : Int × Mm → Prop} (hx2 : R4 x2) (hx4 : R4 x4) (w : Wp (f122_48 x2 x4 M) (Sum.elim (E122_18 X d x2 R) R)) : mE X (d + 4) 122 1 48 [some (.ref 142), some (.int y1), some (.int (Int32.ofInt x2)), some (.int y3), some (.int (Int32.ofInt x4))] [] M (fun v M2 => R (v, M2)) := by
  refine mE_aload_n c122_48 rfl ?_
  refine mE_iload c122_49 rfl ?_
  refine mE_virtual1 (b := 142) (as := [.int (Int32.ofInt x4)]) (r := []) c122_51 qo122 qK12_421 qo121 rfl rfl rfl (ok_lit rfl rfl rfl) (Nat.le_of_ble_eq_true rfl) (s121 (d := d + 0) hx4 w.oc) ?_
  intro v1 M2 q3 w
  by_cases e4 : v1 = 0
  · have w := w.pos e4
    refine mE_if_eq_T (t := 59) c122_54 rfl q3 e4 ?_
    exact t122_59 hx2 hx4 w
  · have w := w.neg e4
    refine mE_if_eq_F (t := 59) c122_54 rfl q3 e4 ?_
    have w := w.oinr
    refine mE_iconst c122_57 ?_
    exact mE_zret c122_58 qr122 (Or.inr rfl) w.osome
noncomputable def lb122_18 (x2 : Int) (x4 : Int) (M : Mm) : Option ((Int × Mm) ⊕ (Int × Mm)) :=
  if x4 < (M 142 6) then
  (gd (0 ≤ x4 ∧ x4 < 12) (
  if x2 = 0 then
  (if (M 167 (x4).toNat) = 111 then
  (f122_48 x2 x4 M)
  else
  (f122_59 x2 x4 M))
  else
  (if (M 167 (x4).toNat) = 116 then
  (f122_48 x2 x4 M)
  else
  (f122_59 x2 x4 M))))
  else
  (oinr (some (0, M)))
noncomputable def f122_18 (x2 : Int) (x4 : Int) (M : Mm) : Option (Int × Mm) := lp (fun s : Int × Mm => lb122_18 x2 s.1 s.2) (x4, M)
theorem tb122_18 {X : Nat × Nat × qC} {d : Nat} {x2 : Int} {x4 : Int} {M : Mm} {y1 : Int32} {y3 : Int32} {R : Int × Mm → Prop} (hx2 : R4 x2) (hx4 : R4 x4) (w : Wp (lb122_18 x2 x4 M) (Sum.elim (E122_18 X d x2 R) R)) : mE X (d + 4) 122 1 18 [some (.ref 142), some (.int y1), some (.int (Int32.ofInt x2)), some (.int y3), some (.int (Int32.ofInt x4))] [] M (fun v M2 => R (v, M2)) := by
  refine mE_iload c122_18 rfl ?_
  refine mE_aload_n c122_20 rfl ?_
  refine mE_getI c122_21 qo122 qF12_393 (ok_lit rfl rfl rfl) rfl ?_
  intro u1
  by_cases e2 : x4 < (M 142 6)
  · have w := w.pos e2
    refine mE_icmp_ge_F (t := 65) c122_24 rfl hx4 u1 e2 ?_
    refine mE_aload_n c122_27 rfl ?_
    refine mE_getA c122_28 qo122 qF12_86 (ok_lit rfl rfl rfl) rfl ⟨by decide, by decide⟩ ?_
    refine mE_iload c122_31 rfl ?_
    obtain ⟨g3, w⟩ := w.ogd
    refine mE_iaload c122_33 (ok_lit rfl rfl rfl) hx4 g3 ?_
    intro u4
    refine mE_iload_n c122_34 rfl ?_
    by_cases e5 : x2 = 0
    · have w := w.pos e5
      refine mE_if_eq_T (t := 43) c122_35 rfl hx2 e5 ?_
      refine mE_bipush (x := 111) c122_43 rfl ?_
      by_cases e6 : (M 167 (x4).toNat) = 111
      · have w := w.pos e6
        refine mE_icmp_ne_F (t := 59) c122_45 rfl u4 (r4_n rfl) e6 ?_
        exact t122_48 hx2 hx4 w
      · have w := w.neg e6
        refine mE_icmp_ne_T (t := 59) c122_45 rfl u4 (r4_n rfl) e6 ?_
        exact t122_59 hx2 hx4 w
    · have w := w.neg e5
      refine mE_if_eq_F (t := 43) c122_35 rfl hx2 e5 ?_
      refine mE_bipush (x := 116) c122_38 rfl ?_
      refine mE_goto (t := 45) c122_40 rfl ?_
      by_cases e6 : (M 167 (x4).toNat) = 116
      · have w := w.pos e6
        refine mE_icmp_ne_F (t := 59) c122_45 rfl u4 (r4_n rfl) e6 ?_
        exact t122_48 hx2 hx4 w
      · have w := w.neg e6
        refine mE_icmp_ne_T (t := 59) c122_45 rfl u4 (r4_n rfl) e6 ?_
        exact t122_59 hx2 hx4 w
  · have w := w.neg e2
    refine mE_icmp_ge_T (t := 65) c122_24 rfl hx4 u1 e2 ?_
    have w := w.oinr
    refine mE_iconst c122_65 ?_
    exact mE_zret c122_66 qr122 (Or.inl rfl) w.osome
theorem t122_18 {X : Nat × Nat × qC} {d : Nat} {x2 : Int} {x4 : Int} {M : Mm} {y1 : Int32} {y3 : Int32} {R : Int × Mm → Prop} (hx2 : R4 x2) (hx4 : R4 x4) (w : Wp (f122_18 x2 x4 M) R) : mE X (d + 4) 122 1 18 [some (.ref 142), some (.int y1), some (.int (Int32.ofInt x2)), some (.int y3), some (.int (Int32.ofInt x4))] [] M (fun v M2 => R (v, M2)) :=
  Wp.olp (f := fun s : Int × Mm => lb122_18 x2 s.1 s.2) (s := (x4, M)) (E := E122_18 X d x2 R) w (fun s w hx4 _ _ => tb122_18 hx2 hx4 w) hx4 _ _
noncomputable def f122 (x1 : Int) (x2 : Int) (x3 : Int) (M : Mm) : Option (Int × Mm) :=
  mlet (ms M 142 54 x1) fun M1 =>
  mlet (ms M1 142 55 x3) fun M3 =>
  gd (x2 = 0 ∨ x2 = 1) (
  mlet (ms M3 142 56 x2) fun M6 =>
  f122_18 x2 0 M6)
theorem t122 {X : Nat × Nat × qC} {d : Nat} {x1 : Int} {x2 : Int} {x3 : Int} {M : Mm}  {R : Int × Mm → Prop} (hx1 : R4 x1) (hx2 : R4 x2) (hx3 : R4 x3) (w : Wp (f122 x1 x2 x3 M) R) : mE X (d + 4) 122 1 0 [some (.ref 142), some (.int (Int32.ofInt x1)), some (.int (Int32.ofInt x2)), some (.int (Int32.ofInt x3)), none] [] M (fun v M2 => R (v, M2)) := by
  refine mE_aload_n c122_0 rfl ?_
  refine mE_iload_n c122_1 rfl ?_
  obtain ⟨M1, m2, w⟩ := w.mlet
  refine mE_putI c122_2 qo122 qF12_402 qz12_54 (ok_lit rfl rfl rfl) (Nat.le_of_ble_eq_true rfl) rfl hx1 (by rw [qy12_54]; rfl) ?_
  refine mE_M m2 ?_
  refine mE_aload_n c122_5 rfl ?_
  refine mE_iload_n c122_6 rfl ?_
  obtain ⟨M3, m4, w⟩ := w.mlet
  refine mE_putI c122_7 qo122 qF12_396 qz12_55 (ok_lit rfl rfl rfl) (Nat.le_of_ble_eq_true rfl) rfl hx3 (by rw [qy12_55]; rfl) ?_
  refine mE_M m4 ?_
  refine mE_aload_n c122_10 rfl ?_
  refine mE_iload_n c122_11 rfl ?_
  obtain ⟨g5, w⟩ := w.ogd
  obtain ⟨M6, m7, w⟩ := w.mlet
  refine mE_putI c122_12 qo122 qF12_399 qz12_56 (ok_lit rfl rfl rfl) (Nat.le_of_ble_eq_true rfl) rfl hx2 (by rw [qy12_56]; exact fit01 g5) ?_
  refine mE_M m7 ?_
  refine mE_iconst c122_15 ?_
  refine mE_istore (ls2 := [some (.ref 142), some (.int (Int32.ofInt x1)), some (.int (Int32.ofInt x2)), some (.int (Int32.ofInt x3)), some (.int (Int32.ofInt 0))]) c122_16 (Nat.le_of_ble_eq_true rfl) rfl ?_
  exact t122_18 hx2 (r4_n rfl) w
theorem s122 {X : Nat × Nat × qC} {d : Nat} {x1 : Int} {x2 : Int} {x3 : Int} {M : Mm} {R : Int × Mm → Prop} (hx1 : R4 x1) (hx2 : R4 x2) (hx3 : R4 x3) (w : Wp (f122 x1 x2 x3 M) R) : mC X (d + 5) 122 1 [.ref 142, .int (Int32.ofInt x1), .int (Int32.ofInt x2), .int (Int32.ofInt x3)] M (fun v M2 => R (v, M2)) :=
  mC_of (qent_mk qx122 rfl rfl rfl) (t122 hx1 hx2 hx3 w)
/-! SaggingNetModel.steps -/
def E175_193 (X : Nat × Nat × qC) (d : Nat) (x1 : Int) (x2 : Int) (R : Mm → Prop) : Int × Mm → Prop := fun s => R4 s.1 → ∀ (o4 : Option Value), mE X (d + 5) 175 0 193 [some (.ref 142), some (.int (Int32.ofInt x1)), some (.int (Int32.ofInt x2)), some (.int (Int32.ofInt s.1)), o4] [] s.2 (fun v M2 => R M2)
def E175_135 (X : Nat × Nat × qC) (d : Nat) (x1 : Int) (R : Mm → Prop) : Int × Int × Mm → Prop := fun s => R4 s.1 → R4 s.2.1 → ∀ (o4 : Option Value), mE X (d + 5) 175 0 135 [some (.ref 142), some (.int (Int32.ofInt x1)), some (.int (Int32.ofInt s.1)), some (.int (Int32.ofInt s.2.1)), o4] [] s.2.2 (fun v M2 => R M2)
def E175_46 (X : Nat × Nat × qC) (d : Nat) (x1 : Int) (R : Mm → Prop) : Int × Int × Mm → Prop := fun s => R4 s.1 → R4 s.2.1 → ∀ (o4 : Option Value), mE X (d + 5) 175 0 46 [some (.ref 142), some (.int (Int32.ofInt x1)), some (.int (Int32.ofInt s.1)), some (.int (Int32.ofInt s.2.1)), o4] [] s.2.2 (fun v M2 => R M2)
def E175_12 (X : Nat × Nat × qC) (d : Nat) (x1 : Int) (R : Mm → Prop) : Int × Mm → Prop := fun s => R4 s.1 → mE X (d + 5) 175 0 12 [some (.ref 142), some (.int (Int32.ofInt x1)), some (.int (Int32.ofInt s.1)), none, none] [] s.2 (fun v M2 => R M2)
noncomputable def f175_127 (x1 : Int) (x2 : Int) (x3 : Int) (M : Mm) : Option ((Int × Int × Mm) ⊕ (Mm)) :=
  gd (R4 (x3 + 1)) (
  some (.inl (x2, (x3 + 1), M)))
theorem t175_127 {X : Nat × Nat × qC} {d : Nat} {x1 : Int} {x2 : Int} {x3 : Int} {M : Mm} {y4 : Int32} {R : Mm → Prop} (hx1 : R4 x1) (hx2 : R4 x2) (hx3 : R4 x3) (w : Wp (f175_127 x1 x2 x3 M) (Sum.elim (E175_46 X d x1 R) R)) : mE X (d + 5) 175 0 127 [some (.ref 142), some (.int (Int32.ofInt x1)), some (.int (Int32.ofInt x2)), some (.int (Int32.ofInt x3)), some (.int y4)] [] M (fun v M2 => R M2) := by
  obtain ⟨g1, w⟩ := w.ogd
  refine mE_iinc (ls2 := [some (.ref 142), some (.int (Int32.ofInt x1)), some (.int (Int32.ofInt x2)), some (.int (Int32.ofInt (x3 + 1))), some (.int y4)]) c175_127 rfl (Nat.le_of_ble_eq_true rfl) rfl ?_
  refine mE_goto (t := 46) c175_130 rfl ?_
  exact w.osome hx2 g1 _
noncomputable def f175_185 (x1 : Int) (x2 : Int) (x3 : Int) (M : Mm) : Option ((Int × Int × Mm) ⊕ (Mm)) :=
  gd (R4 (x3 + 1)) (
  some (.inl (x2, (x3 + 1), M)))
theorem t175_185 {X : Nat × Nat × qC} {d : Nat} {x1 : Int} {x2 : Int} {x3 : Int} {M : Mm} {o4 : Option Value} {R : Mm → Prop} (hx1 : R4 x1) (hx2 : R4 x2) (hx3 : R4 x3) (w : Wp (f175_185 x1 x2 x3 M) (Sum.elim (E175_135 X d x1 R) R)) : mE X (d + 5) 175 0 185 [some (.ref 142), some (.int (Int32.ofInt x1)), some (.int (Int32.ofInt x2)), some (.int (Int32.ofInt x3)), o4] [] M (fun v M2 => R M2) := by
  obtain ⟨g1, w⟩ := w.ogd
  refine mE_iinc (ls2 := [some (.ref 142), some (.int (Int32.ofInt x1)), some (.int (Int32.ofInt x2)), some (.int (Int32.ofInt (x3 + 1))), o4]) c175_185 rfl (Nat.le_of_ble_eq_true rfl) rfl ?_
  refine mE_goto (t := 135) c175_188 rfl ?_
  exact w.osome hx2 g1 _
noncomputable def f175_246 (x1 : Int) (x2 : Int) (x3 : Int) (M : Mm) : Option ((Int × Mm) ⊕ (Mm)) :=
  gd (R4 (x3 + 1)) (
  some (.inl ((x3 + 1), M)))
theorem t175_246 {X : Nat × Nat × qC} {d : Nat} {x1 : Int} {x2 : Int} {x3 : Int} {M : Mm} {o4 : Option Value} {R : Mm → Prop} (hx1 : R4 x1) (hx2 : R4 x2) (hx3 : R4 x3) (w : Wp (f175_246 x1 x2 x3 M) (Sum.elim (E175_193 X d x1 x2 R) R)) : mE X (d + 5) 175 0 246 [some (.ref 142), some (.int (Int32.ofInt x1)), some (.int (Int32.ofInt x2)), some (.int (Int32.ofInt x3)), o4] [] M (fun v M2 => R M2) := by
  obtain ⟨g1, w⟩ := w.ogd
  refine mE_iinc (ls2 := [some (.ref 142), some (.int (Int32.ofInt x1)), some (.int (Int32.ofInt x2)), some (.int (Int32.ofInt (x3 + 1))), o4]) c175_246 rfl (Nat.le_of_ble_eq_true rfl) rfl ?_
  refine mE_goto (t := 193) c175_249 rfl ?_
  exact w.osome g1 _
noncomputable def lb175_193 (x1 : Int) (x2 : Int) (x3 : Int) (M : Mm) : Option ((Int × Mm) ⊕ (Mm)) :=
  if x3 < (M 142 5) then
  (gd (R4 (x1 + 42)) (
  gd (R4 ((x1 + 42) + x3)) (
  gd (0 ≤ ((x1 + 42) + x3) ∧ ((x1 + 42) + x3) < 36400) (
  if (M 144 (((x1 + 42) + x3)).toNat) = 0 then
  (f175_246 x1 x2 x3 M)
  else
  (obnd (f122 x1 0 x3 M) fun v8 M9 =>
  if v8 = 0 then
  (f175_246 x1 x2 x3 M9)
  else
  (mlet (ms M9 144 (((x1 + 42) + x3)).toNat 0) fun M12 =>
  (f93 3 x3 M12).bind fun M15 =>
  f175_246 x1 x2 x3 M15))))))
  else
  (oinr (gd (R4 (x1 + 67)) (
  gd (0 ≤ (x1 + 67) ∧ (x1 + 67) < 36400) (
  mlet (ms M 144 ((x1 + 67)).toNat x2) fun M5 =>
  gd (R4 (x1 + 68)) (
  gd (0 ≤ (x1 + 68) ∧ (x1 + 68) < 36400) (
  gd (R4 ((M5 144 ((x1 + 68)).toNat) + 1)) (
  mlet (ms M5 144 ((x1 + 68)).toNat ((M5 144 ((x1 + 68)).toNat) + 1)) fun M11 =>
  some M11)))))))
noncomputable def f175_193 (x1 : Int) (x2 : Int) (x3 : Int) (M : Mm) : Option (Mm) := lp (fun s : Int × Mm => lb175_193 x1 x2 s.1 s.2) (x3, M)
theorem tb175_193 {X : Nat × Nat × qC} {d : Nat} {x1 : Int} {x2 : Int} {x3 : Int} {M : Mm} {o4 : Option Value} {R : Mm → Prop} (hx1 : R4 x1) (hx2 : R4 x2) (hx3 : R4 x3) (w : Wp (lb175_193 x1 x2 x3 M) (Sum.elim (E175_193 X d x1 x2 R) R)) : mE X (d + 5) 175 0 193 [some (.ref 142), some (.int (Int32.ofInt x1)), some (.int (Int32.ofInt x2)), some (.int (Int32.ofInt x3)), o4] [] M (fun v M2 => R M2) := by
  refine mE_iload_n c175_193 rfl ?_
  refine mE_aload_n c175_194 rfl ?_
  refine mE_getI c175_195 qo175 qF12_197 (ok_lit rfl rfl rfl) rfl ?_
  intro u1
  by_cases e2 : x3 < (M 142 5)
  · have w := w.pos e2
    refine mE_icmp_ge_F (t := 252) c175_198 rfl hx3 u1 e2 ?_
    refine mE_aload_n c175_201 rfl ?_
    refine mE_getA c175_202 qo175 qF12_14 (ok_lit rfl rfl rfl) rfl ⟨by decide, by decide⟩ ?_
    refine mE_iload_n c175_205 rfl ?_
    refine mE_bipush (x := 42) c175_206 rfl ?_
    obtain ⟨g3, w⟩ := w.ogd
    refine mE_iadd c175_208 ?_
    refine mE_iload_n c175_209 rfl ?_
    obtain ⟨g4, w⟩ := w.ogd
    refine mE_iadd c175_210 ?_
    obtain ⟨g5, w⟩ := w.ogd
    refine mE_iaload c175_211 (ok_lit rfl rfl rfl) g4 g5 ?_
    intro u6
    by_cases e7 : (M 144 (((x1 + 42) + x3)).toNat) = 0
    · have w := w.pos e7
      refine mE_if_eq_T (t := 246) c175_212 rfl u6 e7 ?_
      exact t175_246 hx1 hx2 hx3 w
    · have w := w.neg e7
      refine mE_if_eq_F (t := 246) c175_212 rfl u6 e7 ?_
      refine mE_aload_n c175_215 rfl ?_
      refine mE_iload_n c175_216 rfl ?_
      refine mE_iconst c175_217 ?_
      refine mE_iload_n c175_218 rfl ?_
      refine mE_virtual1 (b := 142) (as := [.int (Int32.ofInt x1), .int (Int32.ofInt 0), .int (Int32.ofInt x3)]) (r := []) c175_219 qo175 qK12_438 qo122 rfl rfl rfl (ok_lit rfl rfl rfl) (Nat.le_of_ble_eq_true rfl) (s122 (d := d + 0) hx1 (r4_n rfl) hx3 w.oc) ?_
      intro v8 M9 q10 w
      by_cases e11 : v8 = 0
      · have w := w.pos e11
        refine mE_if_ne_F (t := 228) c175_222 rfl q10 e11 ?_
        refine mE_goto (t := 246) c175_225 rfl ?_
        exact t175_246 hx1 hx2 hx3 w
      · have w := w.neg e11
        refine mE_if_ne_T (t := 228) c175_222 rfl q10 e11 ?_
        refine mE_aload_n c175_228 rfl ?_
        refine mE_getA c175_229 qo175 qF12_14 (ok_lit rfl rfl rfl) rfl ⟨by decide, by decide⟩ ?_
        refine mE_iload_n c175_232 rfl ?_
        refine mE_bipush (x := 42) c175_233 rfl ?_
        refine mE_iadd c175_235 ?_
        refine mE_iload_n c175_236 rfl ?_
        refine mE_iadd c175_237 ?_
        refine mE_iconst c175_238 ?_
        obtain ⟨M12, m13, w⟩ := w.mlet
        refine mE_iastore c175_239 (ok_lit rfl rfl rfl) g4 g5 (r4_n rfl) ?_
        refine mE_M m13 ?_
        refine mE_aload_n c175_240 rfl ?_
        refine mE_iconst c175_241 ?_
        refine mE_iload_n c175_242 rfl ?_
        refine mE_virtual0 (b := 142) (as := [.int (Int32.ofInt 3), .int (Int32.ofInt x3)]) (r := []) c175_243 qo175 qK12_432 qo93 rfl rfl rfl (ok_lit rfl rfl rfl) (Nat.le_of_ble_eq_true rfl) (s93 (d := d + 4) (r4_n rfl) hx3 w.obind) ?_
        intro _ M15 w
        exact t175_246 hx1 hx2 hx3 w
  · have w := w.neg e2
    refine mE_icmp_ge_T (t := 252) c175_198 rfl hx3 u1 e2 ?_
    have w := w.oinr
    refine mE_aload_n c175_252 rfl ?_
    refine mE_getA c175_253 qo175 qF12_14 (ok_lit rfl rfl rfl) rfl ⟨by decide, by decide⟩ ?_
    refine mE_iload_n c175_256 rfl ?_
    refine mE_bipush (x := 67) c175_257 rfl ?_
    obtain ⟨g3, w⟩ := w.ogd
    refine mE_iadd c175_259 ?_
    refine mE_iload_n c175_260 rfl ?_
    obtain ⟨g4, w⟩ := w.ogd
    obtain ⟨M5, m6, w⟩ := w.mlet
    refine mE_iastore c175_261 (ok_lit rfl rfl rfl) g3 g4 hx2 ?_
    refine mE_M m6 ?_
    refine mE_aload_n c175_262 rfl ?_
    refine mE_getA c175_263 qo175 qF12_14 (ok_lit rfl rfl rfl) rfl ⟨by decide, by decide⟩ ?_
    refine mE_iload_n c175_266 rfl ?_
    refine mE_bipush (x := 68) c175_267 rfl ?_
    obtain ⟨g7, w⟩ := w.ogd
    refine mE_iadd c175_269 ?_
    refine mE_dup2 c175_270 (Nat.ne_of_beq_eq_false rfl) rfl ?_
    obtain ⟨g8, w⟩ := w.ogd
    refine mE_iaload c175_271 (ok_lit rfl rfl rfl) g7 g8 ?_
    intro u9
    refine mE_iconst c175_272 ?_
    obtain ⟨g10, w⟩ := w.ogd
    refine mE_iadd c175_273 ?_
    obtain ⟨M11, m12, w⟩ := w.mlet
    refine mE_iastore c175_274 (ok_lit rfl rfl rfl) g7 g8 g10 ?_
    refine mE_M m12 ?_
    exact mE_vret c175_275 qr175 w.osome
theorem t175_193 {X : Nat × Nat × qC} {d : Nat} {x1 : Int} {x2 : Int} {x3 : Int} {M : Mm} {o4 : Option Value} {R : Mm → Prop} (hx1 : R4 x1) (hx2 : R4 x2) (hx3 : R4 x3) (w : Wp (f175_193 x1 x2 x3 M) R) : mE X (d + 5) 175 0 193 [some (.ref 142), some (.int (Int32.ofInt x1)), some (.int (Int32.ofInt x2)), some (.int (Int32.ofInt x3)), o4] [] M (fun v M2 => R M2) :=
  Wp.olp (f := fun s : Int × Mm => lb175_193 x1 x2 s.1 s.2) (s := (x3, M)) (E := E175_193 X d x1 x2 R) w (fun s w hx3 _ => tb175_193 hx1 hx2 hx3 w) hx3 _
noncomputable def lb175_135 (x1 : Int) (x2 : Int) (x3 : Int) (M : Mm) : Option ((Int × Int × Mm) ⊕ (Mm)) :=
  if x3 < (M 142 4) then
  (gd (R4 (x1 + x3)) (
  gd (0 ≤ (x1 + x3) ∧ (x1 + x3) < 36400) (
  if (M 144 ((x1 + x3)).toNat) = 0 then
  (obnd (f122 x1 1 x3 M) fun v7 M8 =>
  if v7 = 0 then
  (f175_185 x1 x2 x3 M8)
  else
  (mlet (ms M8 144 ((x1 + x3)).toNat 2) fun M11 =>
  (f93 2 x3 M11).bind fun M14 =>
  gd (R4 (x2 + 1)) (
  f175_185 x1 (x2 + 1) x3 M14)))
  else
  (f175_185 x1 x2 x3 M))))
  else
  (oinr (f175_193 x1 x2 0 M))
noncomputable def f175_135 (x1 : Int) (x2 : Int) (x3 : Int) (M : Mm) : Option (Mm) := lp (fun s : Int × Int × Mm => lb175_135 x1 s.1 s.2.1 s.2.2) (x2, x3, M)
theorem tb175_135 {X : Nat × Nat × qC} {d : Nat} {x1 : Int} {x2 : Int} {x3 : Int} {M : Mm} {o4 : Option Value} {R : Mm → Prop} (hx1 : R4 x1) (hx2 : R4 x2) (hx3 : R4 x3) (w : Wp (lb175_135 x1 x2 x3 M) (Sum.elim (E175_135 X d x1 R) R)) : mE X (d + 5) 175 0 135 [some (.ref 142), some (.int (Int32.ofInt x1)), some (.int (Int32.ofInt x2)), some (.int (Int32.ofInt x3)), o4] [] M (fun v M2 => R M2) := by
  refine mE_iload_n c175_135 rfl ?_
  refine mE_aload_n c175_136 rfl ?_
  refine mE_getI c175_137 qo175 qF12_194 (ok_lit rfl rfl rfl) rfl ?_
  intro u1
  by_cases e2 : x3 < (M 142 4)
  · have w := w.pos e2
    refine mE_icmp_ge_F (t := 191) c175_140 rfl hx3 u1 e2 ?_
    refine mE_aload_n c175_143 rfl ?_
    refine mE_getA c175_144 qo175 qF12_14 (ok_lit rfl rfl rfl) rfl ⟨by decide, by decide⟩ ?_
    refine mE_iload_n c175_147 rfl ?_
    refine mE_iload_n c175_148 rfl ?_
    obtain ⟨g3, w⟩ := w.ogd
    refine mE_iadd c175_149 ?_
    obtain ⟨g4, w⟩ := w.ogd
    refine mE_iaload c175_150 (ok_lit rfl rfl rfl) g3 g4 ?_
    intro u5
    by_cases e6 : (M 144 ((x1 + x3)).toNat) = 0
    · have w := w.pos e6
      refine mE_if_ne_F (t := 185) c175_151 rfl u5 e6 ?_
      refine mE_aload_n c175_154 rfl ?_
      refine mE_iload_n c175_155 rfl ?_
      refine mE_iconst c175_156 ?_
      refine mE_iload_n c175_157 rfl ?_
      refine mE_virtual1 (b := 142) (as := [.int (Int32.ofInt x1), .int (Int32.ofInt 1), .int (Int32.ofInt x3)]) (r := []) c175_158 qo175 qK12_438 qo122 rfl rfl rfl (ok_lit rfl rfl rfl) (Nat.le_of_ble_eq_true rfl) (s122 (d := d + 0) hx1 (r4_n rfl) hx3 w.oc) ?_
      intro v7 M8 q9 w
      by_cases e10 : v7 = 0
      · have w := w.pos e10
        refine mE_if_ne_F (t := 167) c175_161 rfl q9 e10 ?_
        refine mE_goto (t := 185) c175_164 rfl ?_
        exact t175_185 hx1 hx2 hx3 w
      · have w := w.neg e10
        refine mE_if_ne_T (t := 167) c175_161 rfl q9 e10 ?_
        refine mE_aload_n c175_167 rfl ?_
        refine mE_getA c175_168 qo175 qF12_14 (ok_lit rfl rfl rfl) rfl ⟨by decide, by decide⟩ ?_
        refine mE_iload_n c175_171 rfl ?_
        refine mE_iload_n c175_172 rfl ?_
        refine mE_iadd c175_173 ?_
        refine mE_iconst c175_174 ?_
        obtain ⟨M11, m12, w⟩ := w.mlet
        refine mE_iastore c175_175 (ok_lit rfl rfl rfl) g3 g4 (r4_n rfl) ?_
        refine mE_M m12 ?_
        refine mE_aload_n c175_176 rfl ?_
        refine mE_iconst c175_177 ?_
        refine mE_iload_n c175_178 rfl ?_
        refine mE_virtual0 (b := 142) (as := [.int (Int32.ofInt 2), .int (Int32.ofInt x3)]) (r := []) c175_179 qo175 qK12_432 qo93 rfl rfl rfl (ok_lit rfl rfl rfl) (Nat.le_of_ble_eq_true rfl) (s93 (d := d + 4) (r4_n rfl) hx3 w.obind) ?_
        intro _ M14 w
        obtain ⟨g16, w⟩ := w.ogd
        refine mE_iinc (ls2 := [some (.ref 142), some (.int (Int32.ofInt x1)), some (.int (Int32.ofInt (x2 + 1))), some (.int (Int32.ofInt x3)), o4]) c175_182 rfl (Nat.le_of_ble_eq_true rfl) rfl ?_
        exact t175_185 hx1 g16 hx3 w
    · have w := w.neg e6
      refine mE_if_ne_T (t := 185) c175_151 rfl u5 e6 ?_
      exact t175_185 hx1 hx2 hx3 w
  · have w := w.neg e2
    refine mE_icmp_ge_T (t := 191) c175_140 rfl hx3 u1 e2 ?_
    have w := w.oinr
    refine mE_iconst c175_191 ?_
    refine mE_istore_n (ls2 := [some (.ref 142), some (.int (Int32.ofInt x1)), some (.int (Int32.ofInt x2)), some (.int (Int32.ofInt 0)), o4]) c175_192 (Nat.le_of_ble_eq_true rfl) rfl ?_
    exact t175_193 hx1 hx2 (r4_n rfl) w
theorem t175_135 {X : Nat × Nat × qC} {d : Nat} {x1 : Int} {x2 : Int} {x3 : Int} {M : Mm} {o4 : Option Value} {R : Mm → Prop} (hx1 : R4 x1) (hx2 : R4 x2) (hx3 : R4 x3) (w : Wp (f175_135 x1 x2 x3 M) R) : mE X (d + 5) 175 0 135 [some (.ref 142), some (.int (Int32.ofInt x1)), some (.int (Int32.ofInt x2)), some (.int (Int32.ofInt x3)), o4] [] M (fun v M2 => R M2) :=
  Wp.olp (f := fun s : Int × Int × Mm => lb175_135 x1 s.1 s.2.1 s.2.2) (s := (x2, x3, M)) (E := E175_135 X d x1 R) w (fun s w hx2 hx3 _ => tb175_135 hx1 hx2 hx3 w) hx2 hx3 _
noncomputable def lb175_46 (x1 : Int) (x2 : Int) (x3 : Int) (M : Mm) : Option ((Int × Int × Mm) ⊕ (Mm)) :=
  if x3 < (M 142 4) then
  (gd (R4 (x1 + 28)) (
  gd (R4 ((x1 + 28) + x3)) (
  gd (0 ≤ ((x1 + 28) + x3) ∧ ((x1 + 28) + x3) < 36400) (
  gd (R4 (x1 + x3)) (
  gd (0 ≤ (x1 + x3) ∧ (x1 + x3) < 36400) (
  if (M 144 ((x1 + x3)).toNat) = 0 then
  (if (M 144 (((x1 + 28) + x3)).toNat) = 0 then
  (f175_127 x1 x2 x3 M)
  else
  (gd (R4 (x1 + 14)) (
  gd (R4 ((x1 + 14) + x3)) (
  gd (0 ≤ ((x1 + 14) + x3) ∧ ((x1 + 14) + x3) < 36400) (
  gd (R4 ((M 144 (((x1 + 14) + x3)).toNat) + (M 144 (((x1 + 28) + x3)).toNat))) (
  gd (0 ≤ x3 ∧ x3 < 14) (
  if ((M 144 (((x1 + 14) + x3)).toNat) + (M 144 (((x1 + 28) + x3)).toNat)) < (M 151 (x3).toNat) then
  (f175_127 x1 x2 x3 M)
  else
  (mlet (ms M 144 ((x1 + x3)).toNat 3) fun M20 =>
  (f93 1 x3 M20).bind fun M23 =>
  gd (R4 (x2 + 1)) (
  f175_127 x1 (x2 + 1) x3 M23)))))))))
  else
  (f175_127 x1 x2 x3 M)))))))
  else
  (oinr (f175_135 x1 x2 0 M))
noncomputable def f175_46 (x1 : Int) (x2 : Int) (x3 : Int) (M : Mm) : Option (Mm) := lp (fun s : Int × Int × Mm => lb175_46 x1 s.1 s.2.1 s.2.2) (x2, x3, M)
theorem tb175_46 {X : Nat × Nat × qC} {d : Nat} {x1 : Int} {x2 : Int} {x3 : Int} {M : Mm} {o4 : Option Value} {R : Mm → Prop} (hx1 : R4 x1) (hx2 : R4 x2) (hx3 : R4 x3) (w : Wp (lb175_46 x1 x2 x3 M) (Sum.elim (E175_46 X d x1 R) R)) : mE X (d + 5) 175 0 46 [some (.ref 142), some (.int (Int32.ofInt x1)), some (.int (Int32.ofInt x2)), some (.int (Int32.ofInt x3)), o4] [] M (fun v M2 => R M2) := by
  refine mE_iload_n c175_46 rfl ?_
  refine mE_aload_n c175_47 rfl ?_
  refine mE_getI c175_48 qo175 qF12_194 (ok_lit rfl rfl rfl) rfl ?_
  intro u1
  by_cases e2 : x3 < (M 142 4)
  · have w := w.pos e2
    refine mE_icmp_ge_F (t := 133) c175_51 rfl hx3 u1 e2 ?_
    refine mE_aload_n c175_54 rfl ?_
    refine mE_getA c175_55 qo175 qF12_14 (ok_lit rfl rfl rfl) rfl ⟨by decide, by decide⟩ ?_
    refine mE_iload_n c175_58 rfl ?_
    refine mE_bipush (x := 28) c175_59 rfl ?_
    obtain ⟨g3, w⟩ := w.ogd
    refine mE_iadd c175_61 ?_
    refine mE_iload_n c175_62 rfl ?_
    obtain ⟨g4, w⟩ := w.ogd
    refine mE_iadd c175_63 ?_
    obtain ⟨g5, w⟩ := w.ogd
    refine mE_iaload c175_64 (ok_lit rfl rfl rfl) g4 g5 ?_
    intro u6
    refine mE_istore (ls2 := [some (.ref 142), some (.int (Int32.ofInt x1)), some (.int (Int32.ofInt x2)), some (.int (Int32.ofInt x3)), some (.int (Int32.ofInt (M 144 (((x1 + 28) + x3)).toNat)))]) c175_65 (Nat.le_of_ble_eq_true rfl) rfl ?_
    refine mE_aload_n c175_67 rfl ?_
    refine mE_getA c175_68 qo175 qF12_14 (ok_lit rfl rfl rfl) rfl ⟨by decide, by decide⟩ ?_
    refine mE_iload_n c175_71 rfl ?_
    refine mE_iload_n c175_72 rfl ?_
    obtain ⟨g7, w⟩ := w.ogd
    refine mE_iadd c175_73 ?_
    obtain ⟨g8, w⟩ := w.ogd
    refine mE_iaload c175_74 (ok_lit rfl rfl rfl) g7 g8 ?_
    intro u9
    by_cases e10 : (M 144 ((x1 + x3)).toNat) = 0
    · have w := w.pos e10
      refine mE_if_ne_F (t := 127) c175_75 rfl u9 e10 ?_
      refine mE_iload c175_78 rfl ?_
      by_cases e11 : (M 144 (((x1 + 28) + x3)).toNat) = 0
      · have w := w.pos e11
        refine mE_if_eq_T (t := 127) c175_80 rfl u6 e11 ?_
        exact t175_127 hx1 hx2 hx3 w
      · have w := w.neg e11
        refine mE_if_eq_F (t := 127) c175_80 rfl u6 e11 ?_
        refine mE_aload_n c175_83 rfl ?_
        refine mE_getA c175_84 qo175 qF12_14 (ok_lit rfl rfl rfl) rfl ⟨by decide, by decide⟩ ?_
        refine mE_iload_n c175_87 rfl ?_
        refine mE_bipush (x := 14) c175_88 rfl ?_
        obtain ⟨g12, w⟩ := w.ogd
        refine mE_iadd c175_90 ?_
        refine mE_iload_n c175_91 rfl ?_
        obtain ⟨g13, w⟩ := w.ogd
        refine mE_iadd c175_92 ?_
        obtain ⟨g14, w⟩ := w.ogd
        refine mE_iaload c175_93 (ok_lit rfl rfl rfl) g13 g14 ?_
        intro u15
        refine mE_iload c175_94 rfl ?_
        obtain ⟨g16, w⟩ := w.ogd
        refine mE_iadd c175_96 ?_
        refine mE_aload_n c175_97 rfl ?_
        refine mE_getA c175_98 qo175 qF12_36 (ok_lit rfl rfl rfl) rfl ⟨by decide, by decide⟩ ?_
        refine mE_iload_n c175_101 rfl ?_
        obtain ⟨g17, w⟩ := w.ogd
        refine mE_iaload c175_102 (ok_lit rfl rfl rfl) hx3 g17 ?_
        intro u18
        by_cases e19 : ((M 144 (((x1 + 14) + x3)).toNat) + (M 144 (((x1 + 28) + x3)).toNat)) < (M 151 (x3).toNat)
        · have w := w.pos e19
          refine mE_icmp_ge_F (t := 109) c175_103 rfl g16 u18 e19 ?_
          refine mE_goto (t := 127) c175_106 rfl ?_
          exact t175_127 hx1 hx2 hx3 w
        · have w := w.neg e19
          refine mE_icmp_ge_T (t := 109) c175_103 rfl g16 u18 e19 ?_
          refine mE_aload_n c175_109 rfl ?_
          refine mE_getA c175_110 qo175 qF12_14 (ok_lit rfl rfl rfl) rfl ⟨by decide, by decide⟩ ?_
          refine mE_iload_n c175_113 rfl ?_
          refine mE_iload_n c175_114 rfl ?_
          refine mE_iadd c175_115 ?_
          refine mE_iconst c175_116 ?_
          obtain ⟨M20, m21, w⟩ := w.mlet
          refine mE_iastore c175_117 (ok_lit rfl rfl rfl) g7 g8 (r4_n rfl) ?_
          refine mE_M m21 ?_
          refine mE_aload_n c175_118 rfl ?_
          refine mE_iconst c175_119 ?_
          refine mE_iload_n c175_120 rfl ?_
          refine mE_virtual0 (b := 142) (as := [.int (Int32.ofInt 1), .int (Int32.ofInt x3)]) (r := []) c175_121 qo175 qK12_432 qo93 rfl rfl rfl (ok_lit rfl rfl rfl) (Nat.le_of_ble_eq_true rfl) (s93 (d := d + 4) (r4_n rfl) hx3 w.obind) ?_
          intro _ M23 w
          obtain ⟨g25, w⟩ := w.ogd
          refine mE_iinc (ls2 := [some (.ref 142), some (.int (Int32.ofInt x1)), some (.int (Int32.ofInt (x2 + 1))), some (.int (Int32.ofInt x3)), some (.int (Int32.ofInt (M 144 (((x1 + 28) + x3)).toNat)))]) c175_124 rfl (Nat.le_of_ble_eq_true rfl) rfl ?_
          exact t175_127 hx1 g25 hx3 w
    · have w := w.neg e10
      refine mE_if_ne_T (t := 127) c175_75 rfl u9 e10 ?_
      exact t175_127 hx1 hx2 hx3 w
  · have w := w.neg e2
    refine mE_icmp_ge_T (t := 133) c175_51 rfl hx3 u1 e2 ?_
    have w := w.oinr
    refine mE_iconst c175_133 ?_
    refine mE_istore_n (ls2 := [some (.ref 142), some (.int (Int32.ofInt x1)), some (.int (Int32.ofInt x2)), some (.int (Int32.ofInt 0)), o4]) c175_134 (Nat.le_of_ble_eq_true rfl) rfl ?_
    exact t175_135 hx1 hx2 (r4_n rfl) w
theorem t175_46 {X : Nat × Nat × qC} {d : Nat} {x1 : Int} {x2 : Int} {x3 : Int} {M : Mm} {o4 : Option Value} {R : Mm → Prop} (hx1 : R4 x1) (hx2 : R4 x2) (hx3 : R4 x3) (w : Wp (f175_46 x1 x2 x3 M) R) : mE X (d + 5) 175 0 46 [some (.ref 142), some (.int (Int32.ofInt x1)), some (.int (Int32.ofInt x2)), some (.int (Int32.ofInt x3)), o4] [] M (fun v M2 => R M2) :=
  Wp.olp (f := fun s : Int × Int × Mm => lb175_46 x1 s.1 s.2.1 s.2.2) (s := (x2, x3, M)) (E := E175_46 X d x1 R) w (fun s w hx2 hx3 _ => tb175_46 hx1 hx2 hx3 w) hx2 hx3 _
noncomputable def lb175_12 (x1 : Int) (x2 : Int) (M : Mm) : Option ((Int × Mm) ⊕ (Mm)) :=
  if x2 < (M 142 29) then
  (gd (0 ≤ x2 ∧ x2 < 8) (
  (f93 0 (M 163 (x2).toNat) M).bind fun M6 =>
  gd (R4 (x2 + 1)) (
  some (.inl ((x2 + 1), M6)))))
  else
  (oinr ((f184 x1 M).bind fun M4 =>
  f175_46 x1 0 0 M4))
noncomputable def f175_12 (x1 : Int) (x2 : Int) (M : Mm) : Option (Mm) := lp (fun s : Int × Mm => lb175_12 x1 s.1 s.2) (x2, M)
theorem tb175_12 {X : Nat × Nat × qC} {d : Nat} {x1 : Int} {x2 : Int} {M : Mm}  {R : Mm → Prop} (hx1 : R4 x1) (hx2 : R4 x2) (w : Wp (lb175_12 x1 x2 M) (Sum.elim (E175_12 X d x1 R) R)) : mE X (d + 5) 175 0 12 [some (.ref 142), some (.int (Int32.ofInt x1)), some (.int (Int32.ofInt x2)), none, none] [] M (fun v M2 => R M2) := by
  refine mE_iload_n c175_12 rfl ?_
  refine mE_aload_n c175_13 rfl ?_
  refine mE_getI c175_14 qo175 qF12_245 (ok_lit rfl rfl rfl) rfl ?_
  intro u1
  by_cases e2 : x2 < (M 142 29)
  · have w := w.pos e2
    refine mE_icmp_ge_F (t := 37) c175_17 rfl hx2 u1 e2 ?_
    refine mE_aload_n c175_20 rfl ?_
    refine mE_iconst c175_21 ?_
    refine mE_aload_n c175_22 rfl ?_
    refine mE_getA c175_23 qo175 qF12_74 (ok_lit rfl rfl rfl) rfl ⟨by decide, by decide⟩ ?_
    refine mE_iload_n c175_26 rfl ?_
    obtain ⟨g3, w⟩ := w.ogd
    refine mE_iaload c175_27 (ok_lit rfl rfl rfl) hx2 g3 ?_
    intro u4
    refine mE_virtual0 (b := 142) (as := [.int (Int32.ofInt 0), .int (Int32.ofInt (M 163 (x2).toNat))]) (r := []) c175_28 qo175 qK12_432 qo93 rfl rfl rfl (ok_lit rfl rfl rfl) (Nat.le_of_ble_eq_true rfl) (s93 (d := d + 4) (r4_n rfl) u4 w.obind) ?_
    intro _ M6 w
    obtain ⟨g8, w⟩ := w.ogd
    refine mE_iinc (ls2 := [some (.ref 142), some (.int (Int32.ofInt x1)), some (.int (Int32.ofInt (x2 + 1))), none, none]) c175_31 rfl (Nat.le_of_ble_eq_true rfl) rfl ?_
    refine mE_goto (t := 12) c175_34 rfl ?_
    exact w.osome g8
  · have w := w.neg e2
    refine mE_icmp_ge_T (t := 37) c175_17 rfl hx2 u1 e2 ?_
    have w := w.oinr
    refine mE_aload_n c175_37 rfl ?_
    refine mE_iload_n c175_38 rfl ?_
    refine mE_virtual0 (b := 142) (as := [.int (Int32.ofInt x1)]) (r := []) c175_39 qo175 qK12_435 qo184 rfl rfl rfl (ok_lit rfl rfl rfl) (Nat.le_of_ble_eq_true rfl) (s184 (d := d + 3) hx1 w.obind) ?_
    intro _ M4 w
    refine mE_iconst c175_42 ?_
    refine mE_istore_n (ls2 := [some (.ref 142), some (.int (Int32.ofInt x1)), some (.int (Int32.ofInt 0)), none, none]) c175_43 (Nat.le_of_ble_eq_true rfl) rfl ?_
    refine mE_iconst c175_44 ?_
    refine mE_istore_n (ls2 := [some (.ref 142), some (.int (Int32.ofInt x1)), some (.int (Int32.ofInt 0)), some (.int (Int32.ofInt 0)), none]) c175_45 (Nat.le_of_ble_eq_true rfl) rfl ?_
    exact t175_46 hx1 (r4_n rfl) (r4_n rfl) w
theorem t175_12 {X : Nat × Nat × qC} {d : Nat} {x1 : Int} {x2 : Int} {M : Mm}  {R : Mm → Prop} (hx1 : R4 x1) (hx2 : R4 x2) (w : Wp (f175_12 x1 x2 M) R) : mE X (d + 5) 175 0 12 [some (.ref 142), some (.int (Int32.ofInt x1)), some (.int (Int32.ofInt x2)), none, none] [] M (fun v M2 => R M2) :=
  Wp.olp (f := fun s : Int × Mm => lb175_12 x1 s.1 s.2) (s := (x2, M)) (E := E175_12 X d x1 R) w (fun s w hx2 => tb175_12 hx1 hx2 w) hx2
noncomputable def f175 (x1 : Int) (M : Mm) : Option (Mm) :=
  mlet (ms M 142 59 0) fun M1 =>
  (f173 x1 M1).bind fun M4 =>
  f175_12 x1 0 M4
theorem t175 {X : Nat × Nat × qC} {d : Nat} {x1 : Int} {M : Mm}  {R : Mm → Prop} (hx1 : R4 x1) (w : Wp (f175 x1 M) R) : mE X (d + 5) 175 0 0 [some (.ref 142), some (.int (Int32.ofInt x1)), none, none, none] [] M (fun v M2 => R M2) := by
  refine mE_aload_n c175_0 rfl ?_
  refine mE_iconst c175_1 ?_
  obtain ⟨M1, m2, w⟩ := w.mlet
  refine mE_putI c175_2 qo175 qF12_424 qz12_59 (ok_lit rfl rfl rfl) (Nat.le_of_ble_eq_true rfl) rfl (r4_n rfl) (by rw [qy12_59]; rfl) ?_
  refine mE_M m2 ?_
  refine mE_aload_n c175_5 rfl ?_
  refine mE_iload_n c175_6 rfl ?_
  refine mE_virtual0 (b := 142) (as := [.int (Int32.ofInt x1)]) (r := []) c175_7 qo175 qK12_429 qo173 rfl rfl rfl (ok_lit rfl rfl rfl) (Nat.le_of_ble_eq_true rfl) (s173 (d := d + 1) hx1 w.obind) ?_
  intro _ M4 w
  refine mE_iconst c175_10 ?_
  refine mE_istore_n (ls2 := [some (.ref 142), some (.int (Int32.ofInt x1)), some (.int (Int32.ofInt 0)), none, none]) c175_11 (Nat.le_of_ble_eq_true rfl) rfl ?_
  exact t175_12 hx1 (r4_n rfl) w
theorem s175 {X : Nat × Nat × qC} {d : Nat} {x1 : Int} {M : Mm} {R : Mm → Prop} (hx1 : R4 x1) (w : Wp (f175 x1 M) R) : mC X (d + 6) 175 0 [.ref 142, .int (Int32.ofInt x1)] M (fun v M2 => R M2) :=
  mC_of (qent_mk qx175 rfl rfl rfl) (t175 hx1 w)
/-! SaggingNetModel.shedBy -/
def E162_46 (X : Nat × Nat × qC) (d : Nat) (x2 : Int) (R : Int × Mm → Prop) : Int × Mm → Prop := fun s => R4 s.1 → ∀ (y1 : Int32), mE X (d + 6) 162 2 46 [some (.ref 142), some (.int y1), some (.int (Int32.ofInt x2)), some (.int (Int32.ofInt s.1))] [] s.2 (fun v M2 => R (v, M2))
def E162_11 (X : Nat × Nat × qC) (d : Nat) (x1 : Int) (x2 : Int) (R : Int × Mm → Prop) : Int × Mm → Prop := fun s => R4 s.1 → mE X (d + 6) 162 2 11 [some (.ref 142), some (.int (Int32.ofInt x1)), some (.int (Int32.ofInt x2)), some (.int (Int32.ofInt s.1))] [] s.2 (fun v M2 => R (v, M2))
noncomputable def f162_38 (x1 : Int) (x2 : Int) (x3 : Int) (M : Mm) : Option ((Int × Mm) ⊕ (Int × Mm)) :=
  gd (R4 (x3 + 1)) (
  some (.inl ((x3 + 1), M)))
theorem t162_38 {X : Nat × Nat × qC} {d : Nat} {x1 : Int} {x2 : Int} {x3 : Int} {M : Mm}  {R : Int × Mm → Prop} (hx1 : R4 x1) (hx2 : R4 x2) (hx3 : R4 x3) (w : Wp (f162_38 x1 x2 x3 M) (Sum.elim (E162_11 X d x1 x2 R) R)) : mE X (d + 6) 162 2 38 [some (.ref 142), some (.int (Int32.ofInt x1)), some (.int (Int32.ofInt x2)), some (.int (Int32.ofInt x3))] [] M (fun v M2 => R (v, M2)) := by
  obtain ⟨g1, w⟩ := w.ogd
  refine mE_iinc (ls2 := [some (.ref 142), some (.int (Int32.ofInt x1)), some (.int (Int32.ofInt x2)), some (.int (Int32.ofInt (x3 + 1)))]) c162_38 rfl (Nat.le_of_ble_eq_true rfl) rfl ?_
  refine mE_goto (t := 11) c162_41 rfl ?_
  exact w.osome g1
noncomputable def lb162_46 (x2 : Int) (x3 : Int) (M : Mm) : Option ((Int × Mm) ⊕ (Int × Mm)) :=
  if x3 < x2 then
  ((f175 36288 M).bind fun M3 =>
  gd (R4 (x3 + 1)) (
  some (.inl ((x3 + 1), M3))))
  else
  (oinr ((f163 36288 M).bind fun v2 =>
  some (v2, M)))
noncomputable def f162_46 (x2 : Int) (x3 : Int) (M : Mm) : Option (Int × Mm) := lp (fun s : Int × Mm => lb162_46 x2 s.1 s.2) (x3, M)
theorem tb162_46 {X : Nat × Nat × qC} {d : Nat} {x2 : Int} {x3 : Int} {M : Mm} {y1 : Int32} {R : Int × Mm → Prop} (hx2 : R4 x2) (hx3 : R4 x3) (w : Wp (lb162_46 x2 x3 M) (Sum.elim (E162_46 X d x2 R) R)) : mE X (d + 6) 162 2 46 [some (.ref 142), some (.int y1), some (.int (Int32.ofInt x2)), some (.int (Int32.ofInt x3))] [] M (fun v M2 => R (v, M2)) := by
  refine mE_iload_n c162_46 rfl ?_
  refine mE_iload_n c162_47 rfl ?_
  by_cases e1 : x3 < x2
  · have w := w.pos e1
    refine mE_icmp_ge_F (t := 64) c162_48 rfl hx3 hx2 e1 ?_
    refine mE_aload_n c162_51 rfl ?_
    refine mE_ldc_w (x := 36288) c162_52 qo162 qI12_471 rfl ?_
    refine mE_virtual0 (b := 142) (as := [.int (Int32.ofInt 36288)]) (r := []) c162_55 qo162 qK12_458 qo175 rfl rfl rfl (ok_lit rfl rfl rfl) (Nat.le_of_ble_eq_true rfl) (s175 (d := d + 0) (r4_n rfl) w.obind) ?_
    intro _ M3 w
    obtain ⟨g5, w⟩ := w.ogd
    refine mE_iinc (ls2 := [some (.ref 142), some (.int y1), some (.int (Int32.ofInt x2)), some (.int (Int32.ofInt (x3 + 1)))]) c162_58 rfl (Nat.le_of_ble_eq_true rfl) rfl ?_
    refine mE_goto (t := 46) c162_61 rfl ?_
    exact w.osome g5 _
  · have w := w.neg e1
    refine mE_icmp_ge_T (t := 64) c162_48 rfl hx3 hx2 e1 ?_
    have w := w.oinr
    refine mE_aload_n c162_64 rfl ?_
    refine mE_ldc_w (x := 36288) c162_65 qo162 qI12_471 rfl ?_
    refine mE_virtual2 (b := 142) (as := [.int (Int32.ofInt 36288)]) (r := []) c162_68 qo162 qK12_405 qo163 rfl rfl rfl (ok_lit rfl rfl rfl) (Nat.le_of_ble_eq_true rfl) (s163 (d := d + 5) (r4_n rfl) w.obind) ?_
    rintro v2 _ q4 ⟨rfl, w⟩
    exact mE_lret c162_71 qr162 q4 w.osome
theorem t162_46 {X : Nat × Nat × qC} {d : Nat} {x2 : Int} {x3 : Int} {M : Mm} {y1 : Int32} {R : Int × Mm → Prop} (hx2 : R4 x2) (hx3 : R4 x3) (w : Wp (f162_46 x2 x3 M) R) : mE X (d + 6) 162 2 46 [some (.ref 142), some (.int y1), some (.int (Int32.ofInt x2)), some (.int (Int32.ofInt x3))] [] M (fun v M2 => R (v, M2)) :=
  Wp.olp (f := fun s : Int × Mm => lb162_46 x2 s.1 s.2) (s := (x3, M)) (E := E162_46 X d x2 R) w (fun s w hx3 _ => tb162_46 hx2 hx3 w) hx3 _
noncomputable def lb162_11 (x1 : Int) (x2 : Int) (x3 : Int) (M : Mm) : Option ((Int × Mm) ⊕ (Int × Mm)) :=
  if x3 < (M 142 4) then
  ((f118 x1 x3 M).bind fun v3 =>
  if v3 = 0 then
  (f162_38 x1 x2 x3 M)
  else
  (gd (R4 (36316 + x3)) (
  gd (0 ≤ (36316 + x3) ∧ (36316 + x3) < 36400) (
  mlet (ms M 144 ((36316 + x3)).toNat 0) fun M9 =>
  f162_38 x1 x2 x3 M9))))
  else
  (oinr (f162_46 x2 0 M))
noncomputable def f162_11 (x1 : Int) (x2 : Int) (x3 : Int) (M : Mm) : Option (Int × Mm) := lp (fun s : Int × Mm => lb162_11 x1 x2 s.1 s.2) (x3, M)
theorem tb162_11 {X : Nat × Nat × qC} {d : Nat} {x1 : Int} {x2 : Int} {x3 : Int} {M : Mm}  {R : Int × Mm → Prop} (hx1 : R4 x1) (hx2 : R4 x2) (hx3 : R4 x3) (w : Wp (lb162_11 x1 x2 x3 M) (Sum.elim (E162_11 X d x1 x2 R) R)) : mE X (d + 6) 162 2 11 [some (.ref 142), some (.int (Int32.ofInt x1)), some (.int (Int32.ofInt x2)), some (.int (Int32.ofInt x3))] [] M (fun v M2 => R (v, M2)) := by
  refine mE_iload_n c162_11 rfl ?_
  refine mE_aload_n c162_12 rfl ?_
  refine mE_getI c162_13 qo162 qF12_194 (ok_lit rfl rfl rfl) rfl ?_
  intro u1
  by_cases e2 : x3 < (M 142 4)
  · have w := w.pos e2
    refine mE_icmp_ge_F (t := 44) c162_16 rfl hx3 u1 e2 ?_
    refine mE_iload_n c162_19 rfl ?_
    refine mE_iload_n c162_20 rfl ?_
    refine mE_static1 (as := [.int (Int32.ofInt x1), .int (Int32.ofInt x3)]) (r := []) c162_21 qo162 (by decide) qK12_248 rfl rfl rfl (Nat.le_of_ble_eq_true rfl) (s118 (d := d + 5) hx1 hx3 w.obind) ?_
    rintro v3 _ q5 ⟨rfl, w⟩
    by_cases e6 : v3 = 0
    · have w := w.pos e6
      refine mE_if_eq_T (t := 38) c162_24 rfl q5 e6 ?_
      exact t162_38 hx1 hx2 hx3 w
    · have w := w.neg e6
      refine mE_if_eq_F (t := 38) c162_24 rfl q5 e6 ?_
      refine mE_aload_n c162_27 rfl ?_
      refine mE_getA c162_28 qo162 qF12_14 (ok_lit rfl rfl rfl) rfl ⟨by decide, by decide⟩ ?_
      refine mE_ldc_w (x := 36316) c162_31 qo162 qI12_535 rfl ?_
      refine mE_iload_n c162_34 rfl ?_
      obtain ⟨g7, w⟩ := w.ogd
      refine mE_iadd c162_35 ?_
      refine mE_iconst c162_36 ?_
      obtain ⟨g8, w⟩ := w.ogd
      obtain ⟨M9, m10, w⟩ := w.mlet
      refine mE_iastore c162_37 (ok_lit rfl rfl rfl) g7 g8 (r4_n rfl) ?_
      refine mE_M m10 ?_
      exact t162_38 hx1 hx2 hx3 w
  · have w := w.neg e2
    refine mE_icmp_ge_T (t := 44) c162_16 rfl hx3 u1 e2 ?_
    have w := w.oinr
    refine mE_iconst c162_44 ?_
    refine mE_istore_n (ls2 := [some (.ref 142), some (.int (Int32.ofInt x1)), some (.int (Int32.ofInt x2)), some (.int (Int32.ofInt 0))]) c162_45 (Nat.le_of_ble_eq_true rfl) rfl ?_
    exact t162_46 hx2 (r4_n rfl) w
theorem t162_11 {X : Nat × Nat × qC} {d : Nat} {x1 : Int} {x2 : Int} {x3 : Int} {M : Mm}  {R : Int × Mm → Prop} (hx1 : R4 x1) (hx2 : R4 x2) (hx3 : R4 x3) (w : Wp (f162_11 x1 x2 x3 M) R) : mE X (d + 6) 162 2 11 [some (.ref 142), some (.int (Int32.ofInt x1)), some (.int (Int32.ofInt x2)), some (.int (Int32.ofInt x3))] [] M (fun v M2 => R (v, M2)) :=
  Wp.olp (f := fun s : Int × Mm => lb162_11 x1 x2 s.1 s.2) (s := (x3, M)) (E := E162_11 X d x1 x2 R) w (fun s w hx3 => tb162_11 hx1 hx2 hx3 w) hx3
noncomputable def f162 (x1 : Int) (x2 : Int) (M : Mm) : Option (Int × Mm) :=
  (f153 (M 142 2) 0 M).bind fun M3 =>
  f162_11 x1 x2 0 M3
theorem t162 {X : Nat × Nat × qC} {d : Nat} {x1 : Int} {x2 : Int} {M : Mm}  {R : Int × Mm → Prop} (hx1 : R4 x1) (hx2 : R4 x2) (w : Wp (f162 x1 x2 M) R) : mE X (d + 6) 162 2 0 [some (.ref 142), some (.int (Int32.ofInt x1)), some (.int (Int32.ofInt x2)), none] [] M (fun v M2 => R (v, M2)) := by
  refine mE_aload_n c162_0 rfl ?_
  refine mE_aload_n c162_1 rfl ?_
  refine mE_getI c162_2 qo162 qF12_202 (ok_lit rfl rfl rfl) rfl ?_
  intro u1
  refine mE_iconst c162_5 ?_
  refine mE_virtual0 (b := 142) (as := [.int (Int32.ofInt (M 142 2)), .int (Int32.ofInt 0)]) (r := []) c162_6 qo162 qK12_485 qo153 rfl rfl rfl (ok_lit rfl rfl rfl) (Nat.le_of_ble_eq_true rfl) (s153 (d := d + 4) u1 (r4_n rfl) w.obind) ?_
  intro _ M3 w
  refine mE_iconst c162_9 ?_
  refine mE_istore_n (ls2 := [some (.ref 142), some (.int (Int32.ofInt x1)), some (.int (Int32.ofInt x2)), some (.int (Int32.ofInt 0))]) c162_10 (Nat.le_of_ble_eq_true rfl) rfl ?_
  exact t162_11 hx1 hx2 (r4_n rfl) w
theorem s162 {X : Nat × Nat × qC} {d : Nat} {x1 : Int} {x2 : Int} {M : Mm} {R : Int × Mm → Prop} (hx1 : R4 x1) (hx2 : R4 x2) (w : Wp (f162 x1 x2 M) R) : mC X (d + 7) 162 2 [.ref 142, .int (Int32.ofInt x1), .int (Int32.ofInt x2)] M (fun v M2 => R (v, M2)) :=
  mC_of (qent_mk qx162 rfl rfl rfl) (t162 hx1 hx2 w)
/-! SaggingNetModel.cut -/
def E99_130 (X : Nat × Nat × qC) (d : Nat) (x1 : Int) (x2 : Int) (x3 : Int) (x4 : Int) (x5 : Int) (x6 : Int) (l7 : Int) (x9 : Int) (M : Mm) (R : Int × Mm → Prop) : Int × Int × Int → Prop := fun s => R4 s.1 → R4 s.2.1 → R4 s.2.2 → mE X (d + 7) 99 1 130 [some (.ref 142), some (.int (Int32.ofInt x1)), some (.int (Int32.ofInt x2)), some (.int (Int32.ofInt x3)), some (.int (Int32.ofInt x4)), some (.int (Int32.ofInt x5)), some (.int (Int32.ofInt x6)), some (.long (Int64.ofInt l7)), none, some (.int (Int32.ofInt x9)), some (.int (Int32.ofInt s.1)), some (.int (Int32.ofInt s.2.1)), some (.int (Int32.ofInt s.2.2)), none] [] M (fun v M2 => R (v, M2))
def E99_112 (X : Nat × Nat × qC) (d : Nat) (x1 : Int) (x2 : Int) (x3 : Int) (x4 : Int) (R : Int × Mm → Prop) : Int × Int × Int × Int × Mm → Prop := fun s => R4 s.1 → R4 s.2.1 → R8 s.2.2.1 → R4 s.2.2.2.1 → ∀ (o10 : Option Value), ∀ (o11 : Option Value), ∀ (o12 : Option Value), mE X (d + 7) 99 1 112 [some (.ref 142), some (.int (Int32.ofInt x1)), some (.int (Int32.ofInt x2)), some (.int (Int32.ofInt x3)), some (.int (Int32.ofInt x4)), some (.int (Int32.ofInt s.1)), some (.int (Int32.ofInt s.2.1)), some (.long (Int64.ofInt s.2.2.1)), none, some (.int (Int32.ofInt s.2.2.2.1)), o10, o11, o12, none] [] s.2.2.2.2 (fun v M2 => R (v, M2))
def E99_37 (X : Nat × Nat × qC) (d : Nat) (x1 : Int) (x2 : Int) (x3 : Int) (R : Int × Mm → Prop) : Int × Int × Mm → Prop := fun s => R4 s.1 → R4 s.2.1 → mE X (d + 7) 99 1 37 [some (.ref 142), some (.int (Int32.ofInt x1)), some (.int (Int32.ofInt x2)), some (.int (Int32.ofInt x3)), some (.int (Int32.ofInt s.1)), some (.int (Int32.ofInt s.2.1)), none, none, none, none, none, none, none, none] [] s.2.2 (fun v M2 => R (v, M2))
noncomputable def f99_94 (x1 : Int) (x2 : Int) (x3 : Int) (x4 : Int) (x5 : Int) (M : Mm) : Option ((Int × Int × Mm) ⊕ (Int × Mm)) :=
  gd (R4 (x5 + 1)) (
  some (.inl (x4, (x5 + 1), M)))
theorem t99_94 {X : Nat × Nat × qC} {d : Nat} {x1 : Int} {x2 : Int} {x3 : Int} {x4 : Int} {x5 : Int} {M : Mm}  {R : Int × Mm → Prop} (hx1 : R4 x1) (hx2 : R4 x2) (hx3 : R4 x3) (hx4 : R4 x4) (hx5 : R4 x5) (w : Wp (f99_94 x1 x2 x3 x4 x5 M) (Sum.elim (E99_37 X d x1 x2 x3 R) R)) : mE X (d + 7) 99 1 94 [some (.ref 142), some (.int (Int32.ofInt x1)), some (.int (Int32.ofInt x2)), some (.int (Int32.ofInt x3)), some (.int (Int32.ofInt x4)), some (.int (Int32.ofInt x5)), none, none, none, none, none, none, none, none] [] M (fun v M2 => R (v, M2)) := by
  obtain ⟨g1, w⟩ := w.ogd
  refine mE_iinc (ls2 := [some (.ref 142), some (.int (Int32.ofInt x1)), some (.int (Int32.ofInt x2)), some (.int (Int32.ofInt x3)), some (.int (Int32.ofInt x4)), some (.int (Int32.ofInt (x5 + 1))), none, none, none, none, none, none, none, none]) c99_94 rfl (Nat.le_of_ble_eq_true rfl) rfl ?_
  refine mE_goto (t := 37) c99_97 rfl ?_
  exact w.osome hx4 g1
noncomputable def f99_181 (x1 : Int) (x2 : Int) (x3 : Int) (x4 : Int) (x5 : Int) (x6 : Int) (l7 : Int) (x9 : Int) (x10 : Int) (x11 : Int) (x12 : Int) (M : Mm) : Option ((Int × Int × Int) ⊕ ((Int × Int × Int × Int × Mm) ⊕ (Int × Mm))) :=
  gd (R4 (x12 + 1)) (
  some (.inl (x10, x11, (x12 + 1))))
theorem t99_181 {X : Nat × Nat × qC} {d : Nat} {x1 : Int} {x2 : Int} {x3 : Int} {x4 : Int} {x5 : Int} {x6 : Int} {l7 : Int} {x9 : Int} {x10 : Int} {x11 : Int} {x12 : Int} {M : Mm}  {R : Int × Mm → Prop} (hx1 : R4 x1) (hx2 : R4 x2) (hx3 : R4 x3) (hx4 : R4 x4) (hx5 : R4 x5) (hx6 : R4 x6) (hl7 : R8 l7) (hx9 : R4 x9) (hx10 : R4 x10) (hx11 : R4 x11) (hx12 : R4 x12) (w : Wp (f99_181 x1 x2 x3 x4 x5 x6 l7 x9 x10 x11 x12 M) (Sum.elim (E99_130 X d x1 x2 x3 x4 x5 x6 l7 x9 M R) (Sum.elim (E99_112 X d x1 x2 x3 x4 R) R))) : mE X (d + 7) 99 1 181 [some (.ref 142), some (.int (Int32.ofInt x1)), some (.int (Int32.ofInt x2)), some (.int (Int32.ofInt x3)), some (.int (Int32.ofInt x4)), some (.int (Int32.ofInt x5)), some (.int (Int32.ofInt x6)), some (.long (Int64.ofInt l7)), none, some (.int (Int32.ofInt x9)), some (.int (Int32.ofInt x10)), some (.int (Int32.ofInt x11)), some (.int (Int32.ofInt x12)), none] [] M (fun v M2 => R (v, M2)) := by
  obtain ⟨g1, w⟩ := w.ogd
  refine mE_iinc (ls2 := [some (.ref 142), some (.int (Int32.ofInt x1)), some (.int (Int32.ofInt x2)), some (.int (Int32.ofInt x3)), some (.int (Int32.ofInt x4)), some (.int (Int32.ofInt x5)), some (.int (Int32.ofInt x6)), some (.long (Int64.ofInt l7)), none, some (.int (Int32.ofInt x9)), some (.int (Int32.ofInt x10)), some (.int (Int32.ofInt x11)), some (.int (Int32.ofInt (x12 + 1))), none]) c99_181 rfl (Nat.le_of_ble_eq_true rfl) rfl ?_
  refine mE_goto (t := 130) c99_184 rfl ?_
  exact w.osome hx10 hx11 g1
noncomputable def f99_249 (x1 : Int) (x2 : Int) (x3 : Int) (x4 : Int) (x5 : Int) (x6 : Int) (l7 : Int) (x9 : Int) (M : Mm) : Option ((Int × Int × Int × Int × Mm) ⊕ (Int × Mm)) :=
  gd (R4 (x9 + 1)) (
  some (.inl (x5, x6, l7, (x9 + 1), M)))
theorem t99_249 {X : Nat × Nat × qC} {d : Nat} {x1 : Int} {x2 : Int} {x3 : Int} {x4 : Int} {x5 : Int} {x6 : Int} {l7 : Int} {x9 : Int} {M : Mm} {y10 : Int32} {y11 : Int32} {o12 : Option Value} {R : Int × Mm → Prop} (hx1 : R4 x1) (hx2 : R4 x2) (hx3 : R4 x3) (hx4 : R4 x4) (hx5 : R4 x5) (hx6 : R4 x6) (hl7 : R8 l7) (hx9 : R4 x9) (w : Wp (f99_249 x1 x2 x3 x4 x5 x6 l7 x9 M) (Sum.elim (E99_112 X d x1 x2 x3 x4 R) R)) : mE X (d + 7) 99 1 249 [some (.ref 142), some (.int (Int32.ofInt x1)), some (.int (Int32.ofInt x2)), some (.int (Int32.ofInt x3)), some (.int (Int32.ofInt x4)), some (.int (Int32.ofInt x5)), some (.int (Int32.ofInt x6)), some (.long (Int64.ofInt l7)), none, some (.int (Int32.ofInt x9)), some (.int y10), some (.int y11), o12, none] [] M (fun v M2 => R (v, M2)) := by
  obtain ⟨g1, w⟩ := w.ogd
  refine mE_iinc (ls2 := [some (.ref 142), some (.int (Int32.ofInt x1)), some (.int (Int32.ofInt x2)), some (.int (Int32.ofInt x3)), some (.int (Int32.ofInt x4)), some (.int (Int32.ofInt x5)), some (.int (Int32.ofInt x6)), some (.long (Int64.ofInt l7)), none, some (.int (Int32.ofInt (x9 + 1))), some (.int y10), some (.int y11), o12, none]) c99_249 rfl (Nat.le_of_ble_eq_true rfl) rfl ?_
  refine mE_goto (t := 112) c99_252 rfl ?_
  exact w.osome hx5 hx6 hl7 g1 _ _ _
noncomputable def f99_237 (x1 : Int) (x2 : Int) (x3 : Int) (x4 : Int) (x9 : Int) (x10 : Int) (x11 : Int) (l12 : Int) (M : Mm) : Option ((Int × Int × Int × Int × Mm) ⊕ (Int × Mm)) :=
  f99_249 x1 x2 x3 x4 x10 x11 l12 x9 M
theorem t99_237 {X : Nat × Nat × qC} {d : Nat} {x1 : Int} {x2 : Int} {x3 : Int} {x4 : Int} {x9 : Int} {x10 : Int} {x11 : Int} {l12 : Int} {M : Mm} {y5 : Int32} {y6 : Int32} {y7 : Int64} {R : Int × Mm → Prop} (hx1 : R4 x1) (hx2 : R4 x2) (hx3 : R4 x3) (hx4 : R4 x4) (hx9 : R4 x9) (hx10 : R4 x10) (hx11 : R4 x11) (hl12 : R8 l12) (w : Wp (f99_237 x1 x2 x3 x4 x9 x10 x11 l12 M) (Sum.elim (E99_112 X d x1 x2 x3 x4 R) R)) : mE X (d + 7) 99 1 237 [some (.ref 142), some (.int (Int32.ofInt x1)), some (.int (Int32.ofInt x2)), some (.int (Int32.ofInt x3)), some (.int (Int32.ofInt x4)), some (.int y5), some (.int y6), some (.long y7), none, some (.int (Int32.ofInt x9)), some (.int (Int32.ofInt x10)), some (.int (Int32.ofInt x11)), some (.long (Int64.ofInt l12)), none] [] M (fun v M2 => R (v, M2)) := by
  refine mE_iload c99_237 rfl ?_
  refine mE_istore (ls2 := [some (.ref 142), some (.int (Int32.ofInt x1)), some (.int (Int32.ofInt x2)), some (.int (Int32.ofInt x3)), some (.int (Int32.ofInt x4)), some (.int (Int32.ofInt x10)), some (.int y6), some (.long y7), none, some (.int (Int32.ofInt x9)), some (.int (Int32.ofInt x10)), some (.int (Int32.ofInt x11)), some (.long (Int64.ofInt l12)), none]) c99_239 (Nat.le_of_ble_eq_true rfl) rfl ?_
  refine mE_iload c99_241 rfl ?_
  refine mE_istore (ls2 := [some (.ref 142), some (.int (Int32.ofInt x1)), some (.int (Int32.ofInt x2)), some (.int (Int32.ofInt x3)), some (.int (Int32.ofInt x4)), some (.int (Int32.ofInt x10)), some (.int (Int32.ofInt x11)), some (.long y7), none, some (.int (Int32.ofInt x9)), some (.int (Int32.ofInt x10)), some (.int (Int32.ofInt x11)), some (.long (Int64.ofInt l12)), none]) c99_243 (Nat.le_of_ble_eq_true rfl) rfl ?_
  refine mE_lload c99_245 rfl ?_
  refine mE_lstore (ls2 := [some (.ref 142), some (.int (Int32.ofInt x1)), some (.int (Int32.ofInt x2)), some (.int (Int32.ofInt x3)), some (.int (Int32.ofInt x4)), some (.int (Int32.ofInt x10)), some (.int (Int32.ofInt x11)), some (.long (Int64.ofInt l12)), none, some (.int (Int32.ofInt x9)), some (.int (Int32.ofInt x10)), some (.int (Int32.ofInt x11)), some (.long (Int64.ofInt l12)), none]) c99_247 (Nat.le_of_ble_eq_true rfl) rfl ?_
  exact t99_249 hx1 hx2 hx3 hx4 hx10 hx11 hl12 hx9 w
noncomputable def lb99_130 (x1 : Int) (x2 : Int) (x3 : Int) (x4 : Int) (x5 : Int) (x6 : Int) (l7 : Int) (x9 : Int) (x10 : Int) (x11 : Int) (x12 : Int) (M : Mm) : Option ((Int × Int × Int) ⊕ ((Int × Int × Int × Int × Mm) ⊕ (Int × Mm))) :=
  if x12 < x4 then
  ((f118 x9 x12 M).bind fun v2 =>
  if v2 = 0 then
  (f99_181 x1 x2 x3 x4 x5 x6 l7 x9 x10 x11 x12 M)
  else
  (gd (0 ≤ x12 ∧ x12 < 8) (
  gd (0 ≤ (M 199 (x12).toNat) ∧ (M 199 (x12).toNat) < 14) (
  gd (R4 (x11 + (M 152 ((M 199 (x12).toNat)).toNat))) (
  f99_181 x1 x2 x3 x4 x5 x6 l7 x9 (bOr x10 (bShl 1 (M 199 (x12).toNat))) (x11 + (M 152 ((M 199 (x12).toNat)).toNat)) x12 M)))))
  else
  (oinr (if x1 < x11 then
  (f99_249 x1 x2 x3 x4 x5 x6 l7 x9 M)
  else
  (obnd (f162 x10 x2 M) fun v3 M4 =>
  if x5 = (-1) then
  (f99_237 x1 x2 x3 x4 x9 x10 x11 v3 M4)
  else
  (if l7 < v3 then
  (f99_249 x1 x2 x3 x4 x5 x6 l7 x9 M4)
  else
  (if v3 = l7 then
  (if x11 < x6 then
  (f99_237 x1 x2 x3 x4 x9 x10 x11 v3 M4)
  else
  (f99_249 x1 x2 x3 x4 x5 x6 l7 x9 M4))
  else
  (f99_237 x1 x2 x3 x4 x9 x10 x11 v3 M4))))))
noncomputable def f99_130 (x1 : Int) (x2 : Int) (x3 : Int) (x4 : Int) (x5 : Int) (x6 : Int) (l7 : Int) (x9 : Int) (x10 : Int) (x11 : Int) (x12 : Int) (M : Mm) : Option ((Int × Int × Int × Int × Mm) ⊕ (Int × Mm)) := lp (fun s : Int × Int × Int => lb99_130 x1 x2 x3 x4 x5 x6 l7 x9 s.1 s.2.1 s.2.2 M) (x10, x11, x12)
theorem tb99_130 {X : Nat × Nat × qC} {d : Nat} {x1 : Int} {x2 : Int} {x3 : Int} {x4 : Int} {x5 : Int} {x6 : Int} {l7 : Int} {x9 : Int} {x10 : Int} {x11 : Int} {x12 : Int} {M : Mm}  {R : Int × Mm → Prop} (hx1 : R4 x1) (hx2 : R4 x2) (hx3 : R4 x3) (hx4 : R4 x4) (hx5 : R4 x5) (hx6 : R4 x6) (hl7 : R8 l7) (hx9 : R4 x9) (hx10 : R4 x10) (hx11 : R4 x11) (hx12 : R4 x12) (w : Wp (lb99_130 x1 x2 x3 x4 x5 x6 l7 x9 x10 x11 x12 M) (Sum.elim (E99_130 X d x1 x2 x3 x4 x5 x6 l7 x9 M R) (Sum.elim (E99_112 X d x1 x2 x3 x4 R) R))) : mE X (d + 7) 99 1 130 [some (.ref 142), some (.int (Int32.ofInt x1)), some (.int (Int32.ofInt x2)), some (.int (Int32.ofInt x3)), some (.int (Int32.ofInt x4)), some (.int (Int32.ofInt x5)), some (.int (Int32.ofInt x6)), some (.long (Int64.ofInt l7)), none, some (.int (Int32.ofInt x9)), some (.int (Int32.ofInt x10)), some (.int (Int32.ofInt x11)), some (.int (Int32.ofInt x12)), none] [] M (fun v M2 => R (v, M2)) := by
  refine mE_iload c99_130 rfl ?_
  refine mE_iload c99_132 rfl ?_
  by_cases e1 : x12 < x4
  · have w := w.pos e1
    refine mE_icmp_ge_F (t := 187) c99_134 rfl hx12 hx4 e1 ?_
    refine mE_iload c99_137 rfl ?_
    refine mE_iload c99_139 rfl ?_
    refine mE_static1 (as := [.int (Int32.ofInt x9), .int (Int32.ofInt x12)]) (r := []) c99_141 qo99 (by decide) qK12_248 rfl rfl rfl (Nat.le_of_ble_eq_true rfl) (s118 (d := d + 6) hx9 hx12 w.obind) ?_
    rintro v2 _ q4 ⟨rfl, w⟩
    by_cases e5 : v2 = 0
    · have w := w.pos e5
      refine mE_if_ne_F (t := 150) c99_144 rfl q4 e5 ?_
      refine mE_goto (t := 181) c99_147 rfl ?_
      exact t99_181 hx1 hx2 hx3 hx4 hx5 hx6 hl7 hx9 hx10 hx11 hx12 w
    · have w := w.neg e5
      refine mE_if_ne_T (t := 150) c99_144 rfl q4 e5 ?_
      refine mE_iload c99_150 rfl ?_
      refine mE_iconst c99_152 ?_
      refine mE_aload_n c99_153 rfl ?_
      refine mE_getA c99_154 qo99 qF12_182 (ok_lit rfl rfl rfl) rfl ⟨by decide, by decide⟩ ?_
      refine mE_iload c99_157 rfl ?_
      obtain ⟨g6, w⟩ := w.ogd
      refine mE_iaload c99_159 (ok_lit rfl rfl rfl) hx12 g6 ?_
      intro u7
      refine mE_ishl c99_160 ?_
      refine mE_ior c99_161 ?_
      refine mE_istore (ls2 := [some (.ref 142), some (.int (Int32.ofInt x1)), some (.int (Int32.ofInt x2)), some (.int (Int32.ofInt x3)), some (.int (Int32.ofInt x4)), some (.int (Int32.ofInt x5)), some (.int (Int32.ofInt x6)), some (.long (Int64.ofInt l7)), none, some (.int (Int32.ofInt x9)), some (.int (Int32.ofInt (bOr x10 (bShl 1 (M 199 (x12).toNat))))), some (.int (Int32.ofInt x11)), some (.int (Int32.ofInt x12)), none]) c99_162 (Nat.le_of_ble_eq_true rfl) rfl ?_
      refine mE_iload c99_164 rfl ?_
      refine mE_aload_n c99_166 rfl ?_
      refine mE_getA c99_167 qo99 qF12_39 (ok_lit rfl rfl rfl) rfl ⟨by decide, by decide⟩ ?_
      refine mE_aload_n c99_170 rfl ?_
      refine mE_getA c99_171 qo99 qF12_182 (ok_lit rfl rfl rfl) rfl ⟨by decide, by decide⟩ ?_
      refine mE_iload c99_174 rfl ?_
      refine mE_iaload c99_176 (ok_lit rfl rfl rfl) hx12 g6 ?_
      intro u8
      obtain ⟨g9, w⟩ := w.ogd
      refine mE_iaload c99_177 (ok_lit rfl rfl rfl) u8 g9 ?_
      intro u10
      obtain ⟨g11, w⟩ := w.ogd
      refine mE_iadd c99_178 ?_
      refine mE_istore (ls2 := [some (.ref 142), some (.int (Int32.ofInt x1)), some (.int (Int32.ofInt x2)), some (.int (Int32.ofInt x3)), some (.int (Int32.ofInt x4)), some (.int (Int32.ofInt x5)), some (.int (Int32.ofInt x6)), some (.long (Int64.ofInt l7)), none, some (.int (Int32.ofInt x9)), some (.int (Int32.ofInt (bOr x10 (bShl 1 (M 199 (x12).toNat))))), some (.int (Int32.ofInt (x11 + (M 152 ((M 199 (x12).toNat)).toNat)))), some (.int (Int32.ofInt x12)), none]) c99_179 (Nat.le_of_ble_eq_true rfl) rfl ?_
      exact t99_181 hx1 hx2 hx3 hx4 hx5 hx6 hl7 hx9 (r4_or _ _) g11 hx12 w
  · have w := w.neg e1
    refine mE_icmp_ge_T (t := 187) c99_134 rfl hx12 hx4 e1 ?_
    have w := w.oinr
    refine mE_iload c99_187 rfl ?_
    refine mE_iload_n c99_189 rfl ?_
    by_cases e2 : x1 < x11
    · have w := w.pos e2
      refine mE_icmp_le_F (t := 196) c99_190 rfl hx11 hx1 e2 ?_
      refine mE_goto (t := 249) c99_193 rfl ?_
      exact t99_249 hx1 hx2 hx3 hx4 hx5 hx6 hl7 hx9 w
    · have w := w.neg e2
      refine mE_icmp_le_T (t := 196) c99_190 rfl hx11 hx1 e2 ?_
      refine mE_aload_n c99_196 rfl ?_
      refine mE_iload c99_197 rfl ?_
      refine mE_iload_n c99_199 rfl ?_
      refine mE_virtual2 (b := 142) (as := [.int (Int32.ofInt x10), .int (Int32.ofInt x2)]) (r := []) c99_200 qo99 qK12_538 qo162 rfl rfl rfl (ok_lit rfl rfl rfl) (Nat.le_of_ble_eq_true rfl) (s162 (d := d + 0) hx10 hx2 w.oc) ?_
      intro v3 M4 q5 w
      refine mE_lstore (ls2 := [some (.ref 142), some (.int (Int32.ofInt x1)), some (.int (Int32.ofInt x2)), some (.int (Int32.ofInt x3)), some (.int (Int32.ofInt x4)), some (.int (Int32.ofInt x5)), some (.int (Int32.ofInt x6)), some (.long (Int64.ofInt l7)), none, some (.int (Int32.ofInt x9)), some (.int (Int32.ofInt x10)), some (.int (Int32.ofInt x11)), some (.long (Int64.ofInt v3)), none]) c99_203 (Nat.le_of_ble_eq_true rfl) rfl ?_
      refine mE_iload c99_205 rfl ?_
      refine mE_iconst c99_207 ?_
      by_cases e6 : x5 = (-1)
      · have w := w.pos e6
        refine mE_icmp_eq_T (t := 237) c99_208 rfl hx5 (r4_n rfl) e6 ?_
        exact t99_237 hx1 hx2 hx3 hx4 hx9 hx10 hx11 q5 w
      · have w := w.neg e6
        refine mE_icmp_eq_F (t := 237) c99_208 rfl hx5 (r4_n rfl) e6 ?_
        refine mE_lload c99_211 rfl ?_
        refine mE_lload c99_213 rfl ?_
        by_cases e7 : l7 < v3
        · have w := w.pos e7
          refine mE_lcmp_gt_T (t := 249) c99_215 c99_216 rfl q5 hl7 e7 ?_
          exact t99_249 hx1 hx2 hx3 hx4 hx5 hx6 hl7 hx9 w
        · have w := w.neg e7
          refine mE_lcmp_gt_F (t := 249) c99_215 c99_216 rfl q5 hl7 e7 ?_
          refine mE_lload c99_219 rfl ?_
          refine mE_lload c99_221 rfl ?_
          by_cases e8 : v3 = l7
          · have w := w.pos e8
            refine mE_lcmp_ne_F (t := 237) c99_223 c99_224 rfl q5 hl7 e8 ?_
            refine mE_iload c99_227 rfl ?_
            refine mE_iload c99_229 rfl ?_
            by_cases e9 : x11 < x6
            · have w := w.pos e9
              refine mE_icmp_lt_T (t := 237) c99_231 rfl hx11 hx6 e9 ?_
              exact t99_237 hx1 hx2 hx3 hx4 hx9 hx10 hx11 q5 w
            · have w := w.neg e9
              refine mE_icmp_lt_F (t := 237) c99_231 rfl hx11 hx6 e9 ?_
              refine mE_goto (t := 249) c99_234 rfl ?_
              exact t99_249 hx1 hx2 hx3 hx4 hx5 hx6 hl7 hx9 w
          · have w := w.neg e8
            refine mE_lcmp_ne_T (t := 237) c99_223 c99_224 rfl q5 hl7 e8 ?_
            exact t99_237 hx1 hx2 hx3 hx4 hx9 hx10 hx11 q5 w
theorem t99_130 {X : Nat × Nat × qC} {d : Nat} {x1 : Int} {x2 : Int} {x3 : Int} {x4 : Int} {x5 : Int} {x6 : Int} {l7 : Int} {x9 : Int} {x10 : Int} {x11 : Int} {x12 : Int} {M : Mm}  {R : Int × Mm → Prop} (hx1 : R4 x1) (hx2 : R4 x2) (hx3 : R4 x3) (hx4 : R4 x4) (hx5 : R4 x5) (hx6 : R4 x6) (hl7 : R8 l7) (hx9 : R4 x9) (hx10 : R4 x10) (hx11 : R4 x11) (hx12 : R4 x12) (w : Wp (f99_130 x1 x2 x3 x4 x5 x6 l7 x9 x10 x11 x12 M) (Sum.elim (E99_112 X d x1 x2 x3 x4 R) R)) : mE X (d + 7) 99 1 130 [some (.ref 142), some (.int (Int32.ofInt x1)), some (.int (Int32.ofInt x2)), some (.int (Int32.ofInt x3)), some (.int (Int32.ofInt x4)), some (.int (Int32.ofInt x5)), some (.int (Int32.ofInt x6)), some (.long (Int64.ofInt l7)), none, some (.int (Int32.ofInt x9)), some (.int (Int32.ofInt x10)), some (.int (Int32.ofInt x11)), some (.int (Int32.ofInt x12)), none] [] M (fun v M2 => R (v, M2)) :=
  Wp.olp (f := fun s : Int × Int × Int => lb99_130 x1 x2 x3 x4 x5 x6 l7 x9 s.1 s.2.1 s.2.2 M) (s := (x10, x11, x12)) (E := E99_130 X d x1 x2 x3 x4 x5 x6 l7 x9 M R) w (fun s w hx10 hx11 hx12 => tb99_130 hx1 hx2 hx3 hx4 hx5 hx6 hl7 hx9 hx10 hx11 hx12 w) hx10 hx11 hx12
noncomputable def lb99_112 (x1 : Int) (x2 : Int) (x3 : Int) (x4 : Int) (x5 : Int) (x6 : Int) (l7 : Int) (x9 : Int) (M : Mm) : Option ((Int × Int × Int × Int × Mm) ⊕ (Int × Mm)) :=
  if x9 < (bShl 1 x4) then
  (f99_130 x1 x2 x3 x4 x5 x6 l7 x9 0 0 0 M)
  else
  (oinr (if x3 = 0 then
  (some (x5, M))
  else
  (gd (R4 l7) (
  some (l7, M)))))
noncomputable def f99_112 (x1 : Int) (x2 : Int) (x3 : Int) (x4 : Int) (x5 : Int) (x6 : Int) (l7 : Int) (x9 : Int) (M : Mm) : Option (Int × Mm) := lp (fun s : Int × Int × Int × Int × Mm => lb99_112 x1 x2 x3 x4 s.1 s.2.1 s.2.2.1 s.2.2.2.1 s.2.2.2.2) (x5, x6, l7, x9, M)
theorem tb99_112 {X : Nat × Nat × qC} {d : Nat} {x1 : Int} {x2 : Int} {x3 : Int} {x4 : Int} {x5 : Int} {x6 : Int} {l7 : Int} {x9 : Int} {M : Mm} {o10 : Option Value} {o11 : Option Value} {o12 : Option Value} {R : Int × Mm → Prop} (hx1 : R4 x1) (hx2 : R4 x2) (hx3 : R4 x3) (hx4 : R4 x4) (hx5 : R4 x5) (hx6 : R4 x6) (hl7 : R8 l7) (hx9 : R4 x9) (w : Wp (lb99_112 x1 x2 x3 x4 x5 x6 l7 x9 M) (Sum.elim (E99_112 X d x1 x2 x3 x4 R) R)) : mE X (d + 7) 99 1 112 [some (.ref 142), some (.int (Int32.ofInt x1)), some (.int (Int32.ofInt x2)), some (.int (Int32.ofInt x3)), some (.int (Int32.ofInt x4)), some (.int (Int32.ofInt x5)), some (.int (Int32.ofInt x6)), some (.long (Int64.ofInt l7)), none, some (.int (Int32.ofInt x9)), o10, o11, o12, none] [] M (fun v M2 => R (v, M2)) := by
  refine mE_iload c99_112 rfl ?_
  refine mE_iconst c99_114 ?_
  refine mE_iload c99_115 rfl ?_
  refine mE_ishl c99_117 ?_
  by_cases e1 : x9 < (bShl 1 x4)
  · have w := w.pos e1
    refine mE_icmp_ge_F (t := 255) c99_118 rfl hx9 (r4_shl _ _) e1 ?_
    refine mE_iconst c99_121 ?_
    refine mE_istore (ls2 := [some (.ref 142), some (.int (Int32.ofInt x1)), some (.int (Int32.ofInt x2)), some (.int (Int32.ofInt x3)), some (.int (Int32.ofInt x4)), some (.int (Int32.ofInt x5)), some (.int (Int32.ofInt x6)), some (.long (Int64.ofInt l7)), none, some (.int (Int32.ofInt x9)), some (.int (Int32.ofInt 0)), o11, o12, none]) c99_122 (Nat.le_of_ble_eq_true rfl) rfl ?_
    refine mE_iconst c99_124 ?_
    refine mE_istore (ls2 := [some (.ref 142), some (.int (Int32.ofInt x1)), some (.int (Int32.ofInt x2)), some (.int (Int32.ofInt x3)), some (.int (Int32.ofInt x4)), some (.int (Int32.ofInt x5)), some (.int (Int32.ofInt x6)), some (.long (Int64.ofInt l7)), none, some (.int (Int32.ofInt x9)), some (.int (Int32.ofInt 0)), some (.int (Int32.ofInt 0)), o12, none]) c99_125 (Nat.le_of_ble_eq_true rfl) rfl ?_
    refine mE_iconst c99_127 ?_
    refine mE_istore (ls2 := [some (.ref 142), some (.int (Int32.ofInt x1)), some (.int (Int32.ofInt x2)), some (.int (Int32.ofInt x3)), some (.int (Int32.ofInt x4)), some (.int (Int32.ofInt x5)), some (.int (Int32.ofInt x6)), some (.long (Int64.ofInt l7)), none, some (.int (Int32.ofInt x9)), some (.int (Int32.ofInt 0)), some (.int (Int32.ofInt 0)), some (.int (Int32.ofInt 0)), none]) c99_128 (Nat.le_of_ble_eq_true rfl) rfl ?_
    exact t99_130 hx1 hx2 hx3 hx4 hx5 hx6 hl7 hx9 (r4_n rfl) (r4_n rfl) (r4_n rfl) w
  · have w := w.neg e1
    refine mE_icmp_ge_T (t := 255) c99_118 rfl hx9 (r4_shl _ _) e1 ?_
    have w := w.oinr
    refine mE_iload_n c99_255 rfl ?_
    by_cases e2 : x3 = 0
    · have w := w.pos e2
      refine mE_if_ne_F (t := 264) c99_256 rfl hx3 e2 ?_
      refine mE_iload c99_259 rfl ?_
      refine mE_goto (t := 267) c99_261 rfl ?_
      exact mE_iret c99_267 qr99 hx5 w.osome
    · have w := w.neg e2
      refine mE_if_ne_T (t := 264) c99_256 rfl hx3 e2 ?_
      refine mE_lload c99_264 rfl ?_
      obtain ⟨g3, w⟩ := w.ogd
      refine mE_l2i c99_266 g3 ?_
      exact mE_iret c99_267 qr99 g3 w.osome
theorem t99_112 {X : Nat × Nat × qC} {d : Nat} {x1 : Int} {x2 : Int} {x3 : Int} {x4 : Int} {x5 : Int} {x6 : Int} {l7 : Int} {x9 : Int} {M : Mm} {o10 : Option Value} {o11 : Option Value} {o12 : Option Value} {R : Int × Mm → Prop} (hx1 : R4 x1) (hx2 : R4 x2) (hx3 : R4 x3) (hx4 : R4 x4) (hx5 : R4 x5) (hx6 : R4 x6) (hl7 : R8 l7) (hx9 : R4 x9) (w : Wp (f99_112 x1 x2 x3 x4 x5 x6 l7 x9 M) R) : mE X (d + 7) 99 1 112 [some (.ref 142), some (.int (Int32.ofInt x1)), some (.int (Int32.ofInt x2)), some (.int (Int32.ofInt x3)), some (.int (Int32.ofInt x4)), some (.int (Int32.ofInt x5)), some (.int (Int32.ofInt x6)), some (.long (Int64.ofInt l7)), none, some (.int (Int32.ofInt x9)), o10, o11, o12, none] [] M (fun v M2 => R (v, M2)) :=
  Wp.olp (f := fun s : Int × Int × Int × Int × Mm => lb99_112 x1 x2 x3 x4 s.1 s.2.1 s.2.2.1 s.2.2.2.1 s.2.2.2.2) (s := (x5, x6, l7, x9, M)) (E := E99_112 X d x1 x2 x3 x4 R) w (fun s w hx5 hx6 hl7 hx9 _ _ _ => tb99_112 hx1 hx2 hx3 hx4 hx5 hx6 hl7 hx9 w) hx5 hx6 hl7 hx9 _ _ _
noncomputable def f99_100 (x1 : Int) (x2 : Int) (x3 : Int) (x4 : Int) (M : Mm) : Option (Int × Mm) :=
  f99_112 x1 x2 x3 x4 (-1) 0 0 0 M
theorem t99_100 {X : Nat × Nat × qC} {d : Nat} {x1 : Int} {x2 : Int} {x3 : Int} {x4 : Int} {M : Mm} {y5 : Int32} {R : Int × Mm → Prop} (hx1 : R4 x1) (hx2 : R4 x2) (hx3 : R4 x3) (hx4 : R4 x4) (w : Wp (f99_100 x1 x2 x3 x4 M) R) : mE X (d + 7) 99 1 100 [some (.ref 142), some (.int (Int32.ofInt x1)), some (.int (Int32.ofInt x2)), some (.int (Int32.ofInt x3)), some (.int (Int32.ofInt x4)), some (.int y5), none, none, none, none, none, none, none, none] [] M (fun v M2 => R (v, M2)) := by
  refine mE_iconst c99_100 ?_
  refine mE_istore (ls2 := [some (.ref 142), some (.int (Int32.ofInt x1)), some (.int (Int32.ofInt x2)), some (.int (Int32.ofInt x3)), some (.int (Int32.ofInt x4)), some (.int (Int32.ofInt (-1))), none, none, none, none, none, none, none, none]) c99_101 (Nat.le_of_ble_eq_true rfl) rfl ?_
  refine mE_iconst c99_103 ?_
  refine mE_istore (ls2 := [some (.ref 142), some (.int (Int32.ofInt x1)), some (.int (Int32.ofInt x2)), some (.int (Int32.ofInt x3)), some (.int (Int32.ofInt x4)), some (.int (Int32.ofInt (-1))), some (.int (Int32.ofInt 0)), none, none, none, none, none, none, none]) c99_104 (Nat.le_of_ble_eq_true rfl) rfl ?_
  refine mE_lconst (x := 0) c99_106 rfl ?_
  refine mE_lstore (ls2 := [some (.ref 142), some (.int (Int32.ofInt x1)), some (.int (Int32.ofInt x2)), some (.int (Int32.ofInt x3)), some (.int (Int32.ofInt x4)), some (.int (Int32.ofInt (-1))), some (.int (Int32.ofInt 0)), some (.long (Int64.ofInt 0)), none, none, none, none, none, none]) c99_107 (Nat.le_of_ble_eq_true rfl) rfl ?_
  refine mE_iconst c99_109 ?_
  refine mE_istore (ls2 := [some (.ref 142), some (.int (Int32.ofInt x1)), some (.int (Int32.ofInt x2)), some (.int (Int32.ofInt x3)), some (.int (Int32.ofInt x4)), some (.int (Int32.ofInt (-1))), some (.int (Int32.ofInt 0)), some (.long (Int64.ofInt 0)), none, some (.int (Int32.ofInt 0)), none, none, none, none]) c99_110 (Nat.le_of_ble_eq_true rfl) rfl ?_
  exact t99_112 hx1 hx2 hx3 hx4 (r4_n rfl) (r4_n rfl) (r8_n rfl) (r4_n rfl) w
noncomputable def lb99_37 (x1 : Int) (x2 : Int) (x3 : Int) (x4 : Int) (x5 : Int) (M : Mm) : Option ((Int × Int × Mm) ⊕ (Int × Mm)) :=
  if x5 < (M 142 4) then
  (if x4 < 8 then
  (gd (R4 (36000 + x5)) (
  gd (0 ≤ (36000 + x5) ∧ (36000 + x5) < 36400) (
  if (M 144 ((36000 + x5)).toNat) = 0 then
  (gd (R4 (36028 + x5)) (
  gd (0 ≤ (36028 + x5) ∧ (36028 + x5) < 36400) (
  if (M 144 ((36028 + x5)).toNat) = 0 then
  (f99_94 x1 x2 x3 x4 x5 M)
  else
  (gd (0 ≤ x4 ∧ x4 < 8) (
  mlet (ms M 199 (x4).toNat x5) fun M13 =>
  gd (R4 (x4 + 1)) (
  f99_94 x1 x2 x3 (x4 + 1) x5 M13))))))
  else
  (f99_94 x1 x2 x3 x4 x5 M))))
  else
  (oinr (f99_100 x1 x2 x3 x4 M)))
  else
  (oinr (f99_100 x1 x2 x3 x4 M))
noncomputable def f99_37 (x1 : Int) (x2 : Int) (x3 : Int) (x4 : Int) (x5 : Int) (M : Mm) : Option (Int × Mm) := lp (fun s : Int × Int × Mm => lb99_37 x1 x2 x3 s.1 s.2.1 s.2.2) (x4, x5, M)
theorem tb99_37 {X : Nat × Nat × qC} {d : Nat} {x1 : Int} {x2 : Int} {x3 : Int} {x4 : Int} {x5 : Int} {M : Mm}  {R : Int × Mm → Prop} (hx1 : R4 x1) (hx2 : R4 x2) (hx3 : R4 x3) (hx4 : R4 x4) (hx5 : R4 x5) (w : Wp (lb99_37 x1 x2 x3 x4 x5 M) (Sum.elim (E99_37 X d x1 x2 x3 R) R)) : mE X (d + 7) 99 1 37 [some (.ref 142), some (.int (Int32.ofInt x1)), some (.int (Int32.ofInt x2)), some (.int (Int32.ofInt x3)), some (.int (Int32.ofInt x4)), some (.int (Int32.ofInt x5)), none, none, none, none, none, none, none, none] [] M (fun v M2 => R (v, M2)) := by
  refine mE_iload c99_37 rfl ?_
  refine mE_aload_n c99_39 rfl ?_
  refine mE_getI c99_40 qo99 qF12_194 (ok_lit rfl rfl rfl) rfl ?_
  intro u1
  by_cases e2 : x5 < (M 142 4)
  · have w := w.pos e2
    refine mE_icmp_ge_F (t := 100) c99_43 rfl hx5 u1 e2 ?_
    refine mE_iload c99_46 rfl ?_
    refine mE_bipush (x := 8) c99_48 rfl ?_
    by_cases e3 : x4 < 8
    · have w := w.pos e3
      refine mE_icmp_ge_F (t := 100) c99_50 rfl hx4 (r4_n rfl) e3 ?_
      refine mE_aload_n c99_53 rfl ?_
      refine mE_getA c99_54 qo99 qF12_14 (ok_lit rfl rfl rfl) rfl ⟨by decide, by decide⟩ ?_
      refine mE_ldc (x := 36000) c99_57 qo99 qI12_230 rfl ?_
      refine mE_iload c99_59 rfl ?_
      obtain ⟨g4, w⟩ := w.ogd
      refine mE_iadd c99_61 ?_
      obtain ⟨g5, w⟩ := w.ogd
      refine mE_iaload c99_62 (ok_lit rfl rfl rfl) g4 g5 ?_
      intro u6
      by_cases e7 : (M 144 ((36000 + x5)).toNat) = 0
      · have w := w.pos e7
        refine mE_if_ne_F (t := 94) c99_63 rfl u6 e7 ?_
        refine mE_aload_n c99_66 rfl ?_
        refine mE_getA c99_67 qo99 qF12_14 (ok_lit rfl rfl rfl) rfl ⟨by decide, by decide⟩ ?_
        refine mE_ldc (x := 36028) c99_70 qo99 qI12_227 rfl ?_
        refine mE_iload c99_72 rfl ?_
        obtain ⟨g8, w⟩ := w.ogd
        refine mE_iadd c99_74 ?_
        obtain ⟨g9, w⟩ := w.ogd
        refine mE_iaload c99_75 (ok_lit rfl rfl rfl) g8 g9 ?_
        intro u10
        by_cases e11 : (M 144 ((36028 + x5)).toNat) = 0
        · have w := w.pos e11
          refine mE_if_ne_F (t := 82) c99_76 rfl u10 e11 ?_
          refine mE_goto (t := 94) c99_79 rfl ?_
          exact t99_94 hx1 hx2 hx3 hx4 hx5 w
        · have w := w.neg e11
          refine mE_if_ne_T (t := 82) c99_76 rfl u10 e11 ?_
          refine mE_aload_n c99_82 rfl ?_
          refine mE_getA c99_83 qo99 qF12_182 (ok_lit rfl rfl rfl) rfl ⟨by decide, by decide⟩ ?_
          refine mE_iload c99_86 rfl ?_
          refine mE_iload c99_88 rfl ?_
          obtain ⟨g12, w⟩ := w.ogd
          obtain ⟨M13, m14, w⟩ := w.mlet
          refine mE_iastore c99_90 (ok_lit rfl rfl rfl) hx4 g12 hx5 ?_
          refine mE_M m14 ?_
          obtain ⟨g15, w⟩ := w.ogd
          refine mE_iinc (ls2 := [some (.ref 142), some (.int (Int32.ofInt x1)), some (.int (Int32.ofInt x2)), some (.int (Int32.ofInt x3)), some (.int (Int32.ofInt (x4 + 1))), some (.int (Int32.ofInt x5)), none, none, none, none, none, none, none, none]) c99_91 rfl (Nat.le_of_ble_eq_true rfl) rfl ?_
          exact t99_94 hx1 hx2 hx3 g15 hx5 w
      · have w := w.neg e7
        refine mE_if_ne_T (t := 94) c99_63 rfl u6 e7 ?_
        exact t99_94 hx1 hx2 hx3 hx4 hx5 w
    · have w := w.neg e3
      refine mE_icmp_ge_T (t := 100) c99_50 rfl hx4 (r4_n rfl) e3 ?_
      have w := w.oinr
      exact t99_100 hx1 hx2 hx3 hx4 w
  · have w := w.neg e2
    refine mE_icmp_ge_T (t := 100) c99_43 rfl hx5 u1 e2 ?_
    have w := w.oinr
    exact t99_100 hx1 hx2 hx3 hx4 w
theorem t99_37 {X : Nat × Nat × qC} {d : Nat} {x1 : Int} {x2 : Int} {x3 : Int} {x4 : Int} {x5 : Int} {M : Mm}  {R : Int × Mm → Prop} (hx1 : R4 x1) (hx2 : R4 x2) (hx3 : R4 x3) (hx4 : R4 x4) (hx5 : R4 x5) (w : Wp (f99_37 x1 x2 x3 x4 x5 M) R) : mE X (d + 7) 99 1 37 [some (.ref 142), some (.int (Int32.ofInt x1)), some (.int (Int32.ofInt x2)), some (.int (Int32.ofInt x3)), some (.int (Int32.ofInt x4)), some (.int (Int32.ofInt x5)), none, none, none, none, none, none, none, none] [] M (fun v M2 => R (v, M2)) :=
  Wp.olp (f := fun s : Int × Int × Mm => lb99_37 x1 x2 x3 s.1 s.2.1 s.2.2) (s := (x4, x5, M)) (E := E99_37 X d x1 x2 x3 R) w (fun s w hx4 hx5 => tb99_37 hx1 hx2 hx3 hx4 hx5 w) hx4 hx5
noncomputable def f99 (x1 : Int) (x2 : Int) (x3 : Int) (M : Mm) : Option (Int × Mm) :=
  (f143 x1 0 10000 M).bind fun v1 =>
  if v1 = 0 then
  (some ((-1), M))
  else
  ((f127 x2 M).bind fun v5 =>
  if v5 = 0 then
  (some ((-1), M))
  else
  ((f143 x3 0 1 M).bind fun v9 =>
  if v9 = 0 then
  (some ((-1), M))
  else
  (f99_37 x1 x2 x3 0 0 M)))
theorem t99 {X : Nat × Nat × qC} {d : Nat} {x1 : Int} {x2 : Int} {x3 : Int} {M : Mm}  {R : Int × Mm → Prop} (hx1 : R4 x1) (hx2 : R4 x2) (hx3 : R4 x3) (w : Wp (f99 x1 x2 x3 M) R) : mE X (d + 7) 99 1 0 [some (.ref 142), some (.int (Int32.ofInt x1)), some (.int (Int32.ofInt x2)), some (.int (Int32.ofInt x3)), none, none, none, none, none, none, none, none, none, none] [] M (fun v M2 => R (v, M2)) := by
  refine mE_iload_n c99_0 rfl ?_
  refine mE_i2l c99_1 hx1 ?_
  refine mE_lconst (x := 0) c99_2 rfl ?_
  refine mE_ldc2_w (x := 10000) c99_3 qo99 qJ12_536 rfl ?_
  refine mE_static1 (as := [.long (Int64.ofInt x1), .long (Int64.ofInt 0), .long (Int64.ofInt 10000)]) (r := []) c99_6 qo99 (by decide) qK12_190 rfl rfl rfl (Nat.le_of_ble_eq_true rfl) (s143 (d := d + 6) (R4.to8 hx1) (r8_n rfl) (r8_n rfl) w.obind) ?_
  rintro v1 _ q3 ⟨rfl, w⟩
  by_cases e4 : v1 = 0
  · have w := w.pos e4
    refine mE_if_eq_T (t := 29) c99_9 rfl q3 e4 ?_
    refine mE_iconst c99_29 ?_
    exact mE_iret c99_30 qr99 (r4_n rfl) w.osome
  · have w := w.neg e4
    refine mE_if_eq_F (t := 29) c99_9 rfl q3 e4 ?_
    refine mE_iload_n c99_12 rfl ?_
    refine mE_static1 (as := [.int (Int32.ofInt x2)]) (r := []) c99_13 qo99 (by decide) qK12_493 rfl rfl rfl (Nat.le_of_ble_eq_true rfl) (s127 (d := d + 5) hx2 w.obind) ?_
    rintro v5 _ q7 ⟨rfl, w⟩
    by_cases e8 : v5 = 0
    · have w := w.pos e8
      refine mE_if_eq_T (t := 29) c99_16 rfl q7 e8 ?_
      refine mE_iconst c99_29 ?_
      exact mE_iret c99_30 qr99 (r4_n rfl) w.osome
    · have w := w.neg e8
      refine mE_if_eq_F (t := 29) c99_16 rfl q7 e8 ?_
      refine mE_iload_n c99_19 rfl ?_
      refine mE_i2l c99_20 hx3 ?_
      refine mE_lconst (x := 0) c99_21 rfl ?_
      refine mE_lconst (x := 1) c99_22 rfl ?_
      refine mE_static1 (as := [.long (Int64.ofInt x3), .long (Int64.ofInt 0), .long (Int64.ofInt 1)]) (r := []) c99_23 qo99 (by decide) qK12_190 rfl rfl rfl (Nat.le_of_ble_eq_true rfl) (s143 (d := d + 6) (R4.to8 hx3) (r8_n rfl) (r8_n rfl) w.obind) ?_
      rintro v9 _ q11 ⟨rfl, w⟩
      by_cases e12 : v9 = 0
      · have w := w.pos e12
        refine mE_if_ne_F (t := 31) c99_26 rfl q11 e12 ?_
        refine mE_iconst c99_29 ?_
        exact mE_iret c99_30 qr99 (r4_n rfl) w.osome
      · have w := w.neg e12
        refine mE_if_ne_T (t := 31) c99_26 rfl q11 e12 ?_
        refine mE_iconst c99_31 ?_
        refine mE_istore (ls2 := [some (.ref 142), some (.int (Int32.ofInt x1)), some (.int (Int32.ofInt x2)), some (.int (Int32.ofInt x3)), some (.int (Int32.ofInt 0)), none, none, none, none, none, none, none, none, none]) c99_32 (Nat.le_of_ble_eq_true rfl) rfl ?_
        refine mE_iconst c99_34 ?_
        refine mE_istore (ls2 := [some (.ref 142), some (.int (Int32.ofInt x1)), some (.int (Int32.ofInt x2)), some (.int (Int32.ofInt x3)), some (.int (Int32.ofInt 0)), some (.int (Int32.ofInt 0)), none, none, none, none, none, none, none, none]) c99_35 (Nat.le_of_ble_eq_true rfl) rfl ?_
        exact t99_37 hx1 hx2 hx3 (r4_n rfl) (r4_n rfl) w
theorem s99 {X : Nat × Nat × qC} {d : Nat} {x1 : Int} {x2 : Int} {x3 : Int} {M : Mm} {R : Int × Mm → Prop} (hx1 : R4 x1) (hx2 : R4 x2) (hx3 : R4 x3) (w : Wp (f99 x1 x2 x3 M) R) : mC X (d + 8) 99 1 [.ref 142, .int (Int32.ofInt x1), .int (Int32.ofInt x2), .int (Int32.ofInt x3)] M (fun v M2 => R (v, M2)) :=
  mC_of (qent_mk qx99 rfl rfl rfl) (t99 hx1 hx2 hx3 w)
/-! SaggingNetModel.led -/
def E142_111 (X : Nat × Nat × qC) (d : Nat) (x2 : Int) (M : Mm) (R : Int × Mm → Prop) : Int → Prop := fun s => R4 s → ∀ (y1 : Int32), ∀ (y3 : Int32), mE X (d + 6) 142 1 111 [some (.ref 142), some (.int y1), some (.int (Int32.ofInt x2)), some (.int y3), some (.int (Int32.ofInt s))] [] M (fun v M2 => R (v, M2))
noncomputable def f142_154 (x2 : Int) (x4 : Int) (M : Mm) : Option ((Int) ⊕ (Int × Mm)) :=
  gd (R4 (x4 + 1)) (
  some (.inl ((x4 + 1))))
theorem t142_154 {X : Nat × Nat × qC} {d : Nat} {x2 : Int} {x4 : Int} {M : Mm} {y1 : Int32} {y3 : Int32} {R : Int × Mm → Prop} (hx2 : R4 x2) (hx4 : R4 x4) (w : Wp (f142_154 x2 x4 M) (Sum.elim (E142_111 X d x2 M R) R)) : mE X (d + 6) 142 1 154 [some (.ref 142), some (.int y1), some (.int (Int32.ofInt x2)), some (.int y3), some (.int (Int32.ofInt x4))] [] M (fun v M2 => R (v, M2)) := by
  obtain ⟨g1, w⟩ := w.ogd
  refine mE_iinc (ls2 := [some (.ref 142), some (.int y1), some (.int (Int32.ofInt x2)), some (.int y3), some (.int (Int32.ofInt (x4 + 1)))]) c142_154 rfl (Nat.le_of_ble_eq_true rfl) rfl ?_
  refine mE_goto (t := 111) c142_157 rfl ?_
  exact w.osome g1 _ _
noncomputable def lb142_111 (x2 : Int) (x4 : Int) (M : Mm) : Option ((Int) ⊕ (Int × Mm)) :=
  if x4 < (M 142 59) then
  (gd (0 ≤ x4 ∧ x4 < 64) (
  gd (0 ≤ x2 ∧ x2 < 400) (
  if (M 180 (x4).toNat) = (M 185 (x2).toNat) then
  (if (M 181 (x4).toNat) = (M 186 (x2).toNat) then
  (oinr (some (0, M)))
  else
  (f142_154 x2 x4 M))
  else
  (f142_154 x2 x4 M))))
  else
  (oinr (some (1, M)))
noncomputable def f142_111 (x2 : Int) (x4 : Int) (M : Mm) : Option (Int × Mm) := lp (fun s : Int => lb142_111 x2 s M) x4
theorem tb142_111 {X : Nat × Nat × qC} {d : Nat} {x2 : Int} {x4 : Int} {M : Mm} {y1 : Int32} {y3 : Int32} {R : Int × Mm → Prop} (hx2 : R4 x2) (hx4 : R4 x4) (w : Wp (lb142_111 x2 x4 M) (Sum.elim (E142_111 X d x2 M R) R)) : mE X (d + 6) 142 1 111 [some (.ref 142), some (.int y1), some (.int (Int32.ofInt x2)), some (.int y3), some (.int (Int32.ofInt x4))] [] M (fun v M2 => R (v, M2)) := by
  refine mE_iload c142_111 rfl ?_
  refine mE_aload_n c142_113 rfl ?_
  refine mE_getI c142_114 qo142 qF12_424 (ok_lit rfl rfl rfl) rfl ?_
  intro u1
  by_cases e2 : x4 < (M 142 59)
  · have w := w.pos e2
    refine mE_icmp_ge_F (t := 160) c142_117 rfl hx4 u1 e2 ?_
    refine mE_aload_n c142_120 rfl ?_
    refine mE_getA c142_121 qo142 qF12_125 (ok_lit rfl rfl rfl) rfl ⟨by decide, by decide⟩ ?_
    refine mE_iload c142_124 rfl ?_
    obtain ⟨g3, w⟩ := w.ogd
    refine mE_iaload c142_126 (ok_lit rfl rfl rfl) hx4 g3 ?_
    intro u4
    refine mE_aload_n c142_127 rfl ?_
    refine mE_getA c142_128 qo142 qF12_140 (ok_lit rfl rfl rfl) rfl ⟨by decide, by decide⟩ ?_
    refine mE_iload_n c142_131 rfl ?_
    obtain ⟨g5, w⟩ := w.ogd
    refine mE_iaload c142_132 (ok_lit rfl rfl rfl) hx2 g5 ?_
    intro u6
    by_cases e7 : (M 180 (x4).toNat) = (M 185 (x2).toNat)
    · have w := w.pos e7
      refine mE_icmp_ne_F (t := 154) c142_133 rfl u4 u6 e7 ?_
      refine mE_aload_n c142_136 rfl ?_
      refine mE_getA c142_137 qo142 qF12_128 (ok_lit rfl rfl rfl) rfl ⟨by decide, by decide⟩ ?_
      refine mE_iload c142_140 rfl ?_
      refine mE_iaload c142_142 (ok_lit rfl rfl rfl) hx4 g3 ?_
      intro u8
      refine mE_aload_n c142_143 rfl ?_
      refine mE_getA c142_144 qo142 qF12_143 (ok_lit rfl rfl rfl) rfl ⟨by decide, by decide⟩ ?_
      refine mE_iload_n c142_147 rfl ?_
      refine mE_iaload c142_148 (ok_lit rfl rfl rfl) hx2 g5 ?_
      intro u9
      by_cases e10 : (M 181 (x4).toNat) = (M 186 (x2).toNat)
      · have w := w.pos e10
        refine mE_icmp_ne_F (t := 154) c142_149 rfl u8 u9 e10 ?_
        have w := w.oinr
        refine mE_iconst c142_152 ?_
        exact mE_zret c142_153 qr142 (Or.inl rfl) w.osome
      · have w := w.neg e10
        refine mE_icmp_ne_T (t := 154) c142_149 rfl u8 u9 e10 ?_
        exact t142_154 hx2 hx4 w
    · have w := w.neg e7
      refine mE_icmp_ne_T (t := 154) c142_133 rfl u4 u6 e7 ?_
      exact t142_154 hx2 hx4 w
  · have w := w.neg e2
    refine mE_icmp_ge_T (t := 160) c142_117 rfl hx4 u1 e2 ?_
    have w := w.oinr
    refine mE_iconst c142_160 ?_
    exact mE_zret c142_161 qr142 (Or.inr rfl) w.osome
theorem t142_111 {X : Nat × Nat × qC} {d : Nat} {x2 : Int} {x4 : Int} {M : Mm} {y1 : Int32} {y3 : Int32} {R : Int × Mm → Prop} (hx2 : R4 x2) (hx4 : R4 x4) (w : Wp (f142_111 x2 x4 M) R) : mE X (d + 6) 142 1 111 [some (.ref 142), some (.int y1), some (.int (Int32.ofInt x2)), some (.int y3), some (.int (Int32.ofInt x4))] [] M (fun v M2 => R (v, M2)) :=
  Wp.olp (f := fun s : Int => lb142_111 x2 s M) (s := x4) (E := E142_111 X d x2 M R) w (fun s w hx4 _ _ => tb142_111 hx2 hx4 w) hx4 _ _
noncomputable def f142_101 (x2 : Int) (M : Mm) : Option (Int × Mm) :=
  (f175 36288 M).bind fun M2 =>
  f142_111 x2 0 M2
theorem t142_101 {X : Nat × Nat × qC} {d : Nat} {x2 : Int} {M : Mm} {y1 : Int32} {y3 : Int32} {R : Int × Mm → Prop} (hx2 : R4 x2) (w : Wp (f142_101 x2 M) R) : mE X (d + 6) 142 1 101 [some (.ref 142), some (.int y1), some (.int (Int32.ofInt x2)), some (.int y3), none] [] M (fun v M2 => R (v, M2)) := by
  refine mE_aload_n c142_101 rfl ?_
  refine mE_ldc_w (x := 36288) c142_102 qo142 qI12_471 rfl ?_
  refine mE_virtual0 (b := 142) (as := [.int (Int32.ofInt 36288)]) (r := []) c142_105 qo142 qK12_458 qo175 rfl rfl rfl (ok_lit rfl rfl rfl) (Nat.le_of_ble_eq_true rfl) (s175 (d := d + 0) (r4_n rfl) w.obind) ?_
  intro _ M2 w
  refine mE_iconst c142_108 ?_
  refine mE_istore (ls2 := [some (.ref 142), some (.int y1), some (.int (Int32.ofInt x2)), some (.int y3), some (.int (Int32.ofInt 0))]) c142_109 (Nat.le_of_ble_eq_true rfl) rfl ?_
  exact t142_111 hx2 (r4_n rfl) w
noncomputable def f142 (x1 : Int) (x2 : Int) (M : Mm) : Option (Int × Mm) :=
  gd (0 ≤ x1 ∧ x1 < 400) (
  if (M 185 (x1).toNat) = 0 then
  (some (0, M))
  else
  (gd (0 ≤ x2 ∧ x2 < 400) (
  gd (R4 ((M 187 (x2).toNat) - 1)) (
  if (M 187 (x1).toNat) = ((M 187 (x2).toNat) - 1) then
  (gd (R4 (72 * (M 187 (x2).toNat))) (
  (f96 (72 * (M 187 (x2).toNat)) 36288 M).bind fun M12 =>
  mlet (ms M12 144 36357 (M12 144 36069)) fun M15 =>
  if (M 185 (x1).toNat) < 3 then
  (gd (R4 (36288 + (M15 186 (x1).toNat))) (
  gd (0 ≤ (36288 + (M15 186 (x1).toNat)) ∧ (36288 + (M15 186 (x1).toNat)) < 36400) (
  mlet (ms M15 144 ((36288 + (M15 186 (x1).toNat))).toNat 0) fun M21 =>
  f142_101 x2 M21)))
  else
  (gd (R4 (36330 + (M15 186 (x1).toNat))) (
  gd (0 ≤ (36330 + (M15 186 (x1).toNat)) ∧ (36330 + (M15 186 (x1).toNat)) < 36400) (
  mlet (ms M15 144 ((36330 + (M15 186 (x1).toNat))).toNat 1) fun M21 =>
  f142_101 x2 M21)))))
  else
  (some (0, M))))))
theorem t142 {X : Nat × Nat × qC} {d : Nat} {x1 : Int} {x2 : Int} {M : Mm}  {R : Int × Mm → Prop} (hx1 : R4 x1) (hx2 : R4 x2) (w : Wp (f142 x1 x2 M) R) : mE X (d + 6) 142 1 0 [some (.ref 142), some (.int (Int32.ofInt x1)), some (.int (Int32.ofInt x2)), none, none] [] M (fun v M2 => R (v, M2)) := by
  refine mE_aload_n c142_0 rfl ?_
  refine mE_getA c142_1 qo142 qF12_140 (ok_lit rfl rfl rfl) rfl ⟨by decide, by decide⟩ ?_
  refine mE_iload_n c142_4 rfl ?_
  obtain ⟨g1, w⟩ := w.ogd
  refine mE_iaload c142_5 (ok_lit rfl rfl rfl) hx1 g1 ?_
  intro u2
  refine mE_istore_n (ls2 := [some (.ref 142), some (.int (Int32.ofInt x1)), some (.int (Int32.ofInt x2)), some (.int (Int32.ofInt (M 185 (x1).toNat))), none]) c142_6 (Nat.le_of_ble_eq_true rfl) rfl ?_
  refine mE_iload_n c142_7 rfl ?_
  by_cases e3 : (M 185 (x1).toNat) = 0
  · have w := w.pos e3
    refine mE_if_eq_T (t := 28) c142_8 rfl u2 e3 ?_
    refine mE_iconst c142_28 ?_
    exact mE_zret c142_29 qr142 (Or.inl rfl) w.osome
  · have w := w.neg e3
    refine mE_if_eq_F (t := 28) c142_8 rfl u2 e3 ?_
    refine mE_aload_n c142_11 rfl ?_
    refine mE_getA c142_12 qo142 qF12_146 (ok_lit rfl rfl rfl) rfl ⟨by decide, by decide⟩ ?_
    refine mE_iload_n c142_15 rfl ?_
    refine mE_iaload c142_16 (ok_lit rfl rfl rfl) hx1 g1 ?_
    intro u4
    refine mE_aload_n c142_17 rfl ?_
    refine mE_getA c142_18 qo142 qF12_146 (ok_lit rfl rfl rfl) rfl ⟨by decide, by decide⟩ ?_
    refine mE_iload_n c142_21 rfl ?_
    obtain ⟨g5, w⟩ := w.ogd
    refine mE_iaload c142_22 (ok_lit rfl rfl rfl) hx2 g5 ?_
    intro u6
    refine mE_iconst c142_23 ?_
    obtain ⟨g7, w⟩ := w.ogd
    refine mE_isub c142_24 ?_
    by_cases e8 : (M 187 (x1).toNat) = ((M 187 (x2).toNat) - 1)
    · have w := w.pos e8
      refine mE_icmp_eq_T (t := 30) c142_25 rfl u4 g7 e8 ?_
      refine mE_aload_n c142_30 rfl ?_
      refine mE_bipush (x := 72) c142_31 rfl ?_
      refine mE_aload_n c142_33 rfl ?_
      refine mE_getA c142_34 qo142 qF12_146 (ok_lit rfl rfl rfl) rfl ⟨by decide, by decide⟩ ?_
      refine mE_iload_n c142_37 rfl ?_
      refine mE_iaload c142_38 (ok_lit rfl rfl rfl) hx2 g5 ?_
      intro u9
      obtain ⟨g10, w⟩ := w.ogd
      refine mE_imul c142_39 ?_
      refine mE_ldc_w (x := 36288) c142_40 qo142 qI12_471 rfl ?_
      refine mE_virtual0 (b := 142) (as := [.int (Int32.ofInt (72 * (M 187 (x2).toNat))), .int (Int32.ofInt 36288)]) (r := []) c142_43 qo142 qK12_444 qo96 rfl rfl rfl (ok_lit rfl rfl rfl) (Nat.le_of_ble_eq_true rfl) (s96 (d := d + 5) g10 (r4_n rfl) w.obind) ?_
      intro _ M12 w
      refine mE_aload_n c142_46 rfl ?_
      refine mE_getA c142_47 qo142 qF12_14 (ok_lit rfl rfl rfl) rfl ⟨by decide, by decide⟩ ?_
      refine mE_ldc_w (x := 36357) c142_50 qo142 qI12_472 rfl ?_
      refine mE_aload_n c142_53 rfl ?_
      refine mE_getA c142_54 qo142 qF12_14 (ok_lit rfl rfl rfl) rfl ⟨by decide, by decide⟩ ?_
      refine mE_ldc (x := 36069) c142_57 qo142 qI12_185 rfl ?_
      refine mE_iaload c142_59 (ok_lit rfl rfl rfl) (r4_n rfl) (by decide) ?_
      intro u14
      obtain ⟨M15, m16, w⟩ := w.mlet
      refine mE_iastore c142_60 (ok_lit rfl rfl rfl) (r4_n rfl) (by decide) u14 ?_
      refine mE_M m16 ?_
      refine mE_iload_n c142_61 rfl ?_
      refine mE_iconst c142_62 ?_
      by_cases e17 : (M 185 (x1).toNat) < 3
      · have w := w.pos e17
        refine mE_icmp_ge_F (t := 85) c142_63 rfl u2 (r4_n rfl) e17 ?_
        refine mE_aload_n c142_66 rfl ?_
        refine mE_getA c142_67 qo142 qF12_14 (ok_lit rfl rfl rfl) rfl ⟨by decide, by decide⟩ ?_
        refine mE_ldc_w (x := 36288) c142_70 qo142 qI12_471 rfl ?_
        refine mE_aload_n c142_73 rfl ?_
        refine mE_getA c142_74 qo142 qF12_143 (ok_lit rfl rfl rfl) rfl ⟨by decide, by decide⟩ ?_
        refine mE_iload_n c142_77 rfl ?_
        refine mE_iaload c142_78 (ok_lit rfl rfl rfl) hx1 g1 ?_
        intro u18
        obtain ⟨g19, w⟩ := w.ogd
        refine mE_iadd c142_79 ?_
        refine mE_iconst c142_80 ?_
        obtain ⟨g20, w⟩ := w.ogd
        obtain ⟨M21, m22, w⟩ := w.mlet
        refine mE_iastore c142_81 (ok_lit rfl rfl rfl) g19 g20 (r4_n rfl) ?_
        refine mE_M m22 ?_
        refine mE_goto (t := 101) c142_82 rfl ?_
        exact t142_101 hx2 w
      · have w := w.neg e17
        refine mE_icmp_ge_T (t := 85) c142_63 rfl u2 (r4_n rfl) e17 ?_
        refine mE_aload_n c142_85 rfl ?_
        refine mE_getA c142_86 qo142 qF12_14 (ok_lit rfl rfl rfl) rfl ⟨by decide, by decide⟩ ?_
        refine mE_ldc_w (x := 36330) c142_89 qo142 qI12_473 rfl ?_
        refine mE_aload_n c142_92 rfl ?_
        refine mE_getA c142_93 qo142 qF12_143 (ok_lit rfl rfl rfl) rfl ⟨by decide, by decide⟩ ?_
        refine mE_iload_n c142_96 rfl ?_
        refine mE_iaload c142_97 (ok_lit rfl rfl rfl) hx1 g1 ?_
        intro u18
        obtain ⟨g19, w⟩ := w.ogd
        refine mE_iadd c142_98 ?_
        refine mE_iconst c142_99 ?_
        obtain ⟨g20, w⟩ := w.ogd
        obtain ⟨M21, m22, w⟩ := w.mlet
        refine mE_iastore c142_100 (ok_lit rfl rfl rfl) g19 g20 (r4_n rfl) ?_
        refine mE_M m22 ?_
        exact t142_101 hx2 w
    · have w := w.neg e8
      refine mE_icmp_eq_F (t := 30) c142_25 rfl u4 g7 e8 ?_
      refine mE_iconst c142_28 ?_
      exact mE_zret c142_29 qr142 (Or.inl rfl) w.osome
theorem s142 {X : Nat × Nat × qC} {d : Nat} {x1 : Int} {x2 : Int} {M : Mm} {R : Int × Mm → Prop} (hx1 : R4 x1) (hx2 : R4 x2) (w : Wp (f142 x1 x2 M) R) : mC X (d + 7) 142 1 [.ref 142, .int (Int32.ofInt x1), .int (Int32.ofInt x2)] M (fun v M2 => R (v, M2)) :=
  mC_of (qent_mk qx142 rfl rfl rfl) (t142 hx1 hx2 w)
