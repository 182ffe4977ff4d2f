/-! SaggingNet.wire -/
noncomputable def f77 (x1 : Int) (x2 : Int) (x3 : Int) (x4 : Int) (x5 : Int) (M : Mm) : Option (Int × Mm) :=
  if (M 24 0) = 0 then
  (if (M 3 1) < 14 then
  ((f214 x1 M).bind fun v5 =>
  if v5 = 0 then
  (some ((-1), M))
  else
  ((f214 x2 M).bind fun v9 =>
  if v9 = 0 then
  (some ((-1), M))
  else
  (if x1 = x2 then
  (some ((-1), M))
  else
  ((f80 x3 1 3 M).bind fun v14 =>
  if v14 = 0 then
  (some ((-1), M))
  else
  ((f80 x4 1 5000 M).bind fun v18 =>
  if v18 = 0 then
  (some ((-1), M))
  else
  ((f80 x5 1 100000 M).bind fun v22 =>
  if v22 = 0 then
  (some ((-1), M))
  else
  (obnd (f211 x1 x2 x3 x4 x5 M) fun v26 M27 =>
  some (v26, M27))))))))
  else
  (some ((-1), M)))
  else
  (some ((-1), M))
theorem t77 {X : Nat × Nat × qC} {d : Nat} {x1 : Int} {x2 : Int} {x3 : Int} {x4 : Int} {x5 : Int} {M : Mm}  {R : Int × Mm → Prop} (hx1 : R4 x1) (hx2 : R4 x2) (hx3 : R4 x3) (hx4 : R4 x4) (hx5 : R4 x5) (w : Wp (f77 x1 x2 x3 x4 x5 M) R) : mE X (d + 1) 77 1 0 [some (.ref 2), some (.int (Int32.ofInt x1)), some (.int (Int32.ofInt x2)), some (.int (Int32.ofInt x3)), some (.int (Int32.ofInt x4)), some (.int (Int32.ofInt x5)), none] [] M (fun v M2 => R (v, M2)) := by
  refine mE_aload_n c77_0 rfl ?_
  refine mE_getA c77_1 qo77 qF11_19 (ok_lit rfl rfl rfl) rfl ⟨by decide, by decide⟩ ?_
  refine mE_getI c77_4 qo77 qF11_97 (ok_lit rfl rfl rfl) rfl ?_
  intro u1
  by_cases e2 : (M 24 0) = 0
  · have w := w.pos e2
    refine mE_if_ne_F (t := 85) c77_7 rfl u1 e2 ?_
    refine mE_aload_n c77_10 rfl ?_
    refine mE_getA c77_11 qo77 qF11_10 (ok_lit rfl rfl rfl) rfl ⟨by decide, by decide⟩ ?_
    refine mE_getI c77_14 qo77 qF11_119 (ok_lit rfl rfl rfl) rfl ?_
    intro u3
    refine mE_bipush (x := 14) c77_17 rfl ?_
    by_cases e4 : (M 3 1) < 14
    · have w := w.pos e4
      refine mE_icmp_ge_F (t := 85) c77_19 rfl u3 (r4_n rfl) e4 ?_
      refine mE_aload_n c77_22 rfl ?_
      refine mE_getA c77_23 qo77 qF11_10 (ok_lit rfl rfl rfl) rfl ⟨by decide, by decide⟩ ?_
      refine mE_iload_n c77_26 rfl ?_
      refine mE_virtual1 (b := 3) (as := [.int (Int32.ofInt x1)]) (r := []) c77_27 qo77 qK11_122 qo214 rfl rfl rfl (ok_lit rfl rfl rfl) (Nat.le_of_ble_eq_true rfl) (s214 (d := d + 0) hx1 w.obind) ?_
      rintro v5 _ q7 ⟨rfl, w⟩
      by_cases e8 : v5 = 0
      · have w := w.pos e8
        refine mE_if_eq_T (t := 85) c77_30 rfl q7 e8 ?_
        refine mE_iconst c77_85 ?_
        refine mE_istore (ls2 := [some (.ref 2), some (.int (Int32.ofInt x1)), some (.int (Int32.ofInt x2)), some (.int (Int32.ofInt x3)), some (.int (Int32.ofInt x4)), some (.int (Int32.ofInt x5)), some (.int (Int32.ofInt 0))]) c77_86 (Nat.le_of_ble_eq_true rfl) rfl ?_
        refine mE_iload c77_88 rfl ?_
        refine mE_if_eq_T (t := 110) c77_90 rfl (r4_n rfl) (by decide) ?_
        refine mE_iconst c77_110 ?_
        exact mE_iret c77_111 qr77 (r4_n rfl) w.osome
      · have w := w.neg e8
        refine mE_if_eq_F (t := 85) c77_30 rfl q7 e8 ?_
        refine mE_aload_n c77_33 rfl ?_
        refine mE_getA c77_34 qo77 qF11_10 (ok_lit rfl rfl rfl) rfl ⟨by decide, by decide⟩ ?_
        refine mE_iload_n c77_37 rfl ?_
        refine mE_virtual1 (b := 3) (as := [.int (Int32.ofInt x2)]) (r := []) c77_38 qo77 qK11_122 qo214 rfl rfl rfl (ok_lit rfl rfl rfl) (Nat.le_of_ble_eq_true rfl) (s214 (d := d + 0) hx2 w.obind) ?_
        rintro v9 _ q11 ⟨rfl, w⟩
        by_cases e12 : v9 = 0
        · have w := w.pos e12
          refine mE_if_eq_T (t := 85) c77_41 rfl q11 e12 ?_
          refine mE_iconst c77_85 ?_
          refine mE_istore (ls2 := [some (.ref 2), some (.int (Int32.ofInt x1)), some (.int (Int32.ofInt x2)), some (.int (Int32.ofInt x3)), some (.int (Int32.ofInt x4)), some (.int (Int32.ofInt x5)), some (.int (Int32.ofInt 0))]) c77_86 (Nat.le_of_ble_eq_true rfl) rfl ?_
          refine mE_iload c77_88 rfl ?_
          refine mE_if_eq_T (t := 110) c77_90 rfl (r4_n rfl) (by decide) ?_
          refine mE_iconst c77_110 ?_
          exact mE_iret c77_111 qr77 (r4_n rfl) w.osome
        · have w := w.neg e12
          refine mE_if_eq_F (t := 85) c77_41 rfl q11 e12 ?_
          refine mE_iload_n c77_44 rfl ?_
          refine mE_iload_n c77_45 rfl ?_
          by_cases e13 : x1 = x2
          · have w := w.pos e13
            refine mE_icmp_eq_T (t := 85) c77_46 rfl hx1 hx2 e13 ?_
            refine mE_iconst c77_85 ?_
            refine mE_istore (ls2 := [some (.ref 2), some (.int (Int32.ofInt x1)), some (.int (Int32.ofInt x2)), some (.int (Int32.ofInt x3)), some (.int (Int32.ofInt x4)), some (.int (Int32.ofInt x5)), some (.int (Int32.ofInt 0))]) c77_86 (Nat.le_of_ble_eq_true rfl) rfl ?_
            refine mE_iload c77_88 rfl ?_
            refine mE_if_eq_T (t := 110) c77_90 rfl (r4_n rfl) (by decide) ?_
            refine mE_iconst c77_110 ?_
            exact mE_iret c77_111 qr77 (r4_n rfl) w.osome
          · have w := w.neg e13
            refine mE_icmp_eq_F (t := 85) c77_46 rfl hx1 hx2 e13 ?_
            refine mE_iload_n c77_49 rfl ?_
            refine mE_iconst c77_50 ?_
            refine mE_iconst c77_51 ?_
            refine mE_static1 (as := [.int (Int32.ofInt x3), .int (Int32.ofInt 1), .int (Int32.ofInt 3)]) (r := []) c77_52 qo77 (by decide) qK11_108 rfl rfl rfl (Nat.le_of_ble_eq_true rfl) (s80 (d := d + 0) hx3 (r4_n rfl) (r4_n rfl) w.obind) ?_
            rintro v14 _ q16 ⟨rfl, w⟩
            by_cases e17 : v14 = 0
            · have w := w.pos e17
              refine mE_if_eq_T (t := 85) c77_55 rfl q16 e17 ?_
              refine mE_iconst c77_85 ?_
              refine mE_istore (ls2 := [some (.ref 2), some (.int (Int32.ofInt x1)), some (.int (Int32.ofInt x2)), some (.int (Int32.ofInt x3)), some (.int (Int32.ofInt x4)), some (.int (Int32.ofInt x5)), some (.int (Int32.ofInt 0))]) c77_86 (Nat.le_of_ble_eq_true rfl) rfl ?_
              refine mE_iload c77_88 rfl ?_
              refine mE_if_eq_T (t := 110) c77_90 rfl (r4_n rfl) (by decide) ?_
              refine mE_iconst c77_110 ?_
              exact mE_iret c77_111 qr77 (r4_n rfl) w.osome
            · have w := w.neg e17
              refine mE_if_eq_F (t := 85) c77_55 rfl q16 e17 ?_
              refine mE_iload c77_58 rfl ?_
              refine mE_iconst c77_60 ?_
              refine mE_sipush (x := 5000) c77_61 rfl ?_
              refine mE_static1 (as := [.int (Int32.ofInt x4), .int (Int32.ofInt 1), .int (Int32.ofInt 5000)]) (r := []) c77_64 qo77 (by decide) qK11_108 rfl rfl rfl (Nat.le_of_ble_eq_true rfl) (s80 (d := d + 0) hx4 (r4_n rfl) (r4_n rfl) w.obind) ?_
              rintro v18 _ q20 ⟨rfl, w⟩
              by_cases e21 : v18 = 0
              · have w := w.pos e21
                refine mE_if_eq_T (t := 85) c77_67 rfl q20 e21 ?_
                refine mE_iconst c77_85 ?_
                refine mE_istore (ls2 := [some (.ref 2), some (.int (Int32.ofInt x1)), some (.int (Int32.ofInt x2)), some (.int (Int32.ofInt x3)), some (.int (Int32.ofInt x4)), some (.int (Int32.ofInt x5)), some (.int (Int32.ofInt 0))]) c77_86 (Nat.le_of_ble_eq_true rfl) rfl ?_
                refine mE_iload c77_88 rfl ?_
                refine mE_if_eq_T (t := 110) c77_90 rfl (r4_n rfl) (by decide) ?_
                refine mE_iconst c77_110 ?_
                exact mE_iret c77_111 qr77 (r4_n rfl) w.osome
              · have w := w.neg e21
                refine mE_if_eq_F (t := 85) c77_67 rfl q20 e21 ?_
                refine mE_iload c77_70 rfl ?_
                refine mE_iconst c77_72 ?_
                refine mE_ldc (x := 100000) c77_73 qo77 qI11_125 rfl ?_
                refine mE_static1 (as := [.int (Int32.ofInt x5), .int (Int32.ofInt 1), .int (Int32.ofInt 100000)]) (r := []) c77_75 qo77 (by decide) qK11_108 rfl rfl rfl (Nat.le_of_ble_eq_true rfl) (s80 (d := d + 0) hx5 (r4_n rfl) (r4_n rfl) w.obind) ?_
                rintro v22 _ q24 ⟨rfl, w⟩
                by_cases e25 : v22 = 0
                · have w := w.pos e25
                  refine mE_if_eq_T (t := 85) c77_78 rfl q24 e25 ?_
                  refine mE_iconst c77_85 ?_
                  refine mE_istore (ls2 := [some (.ref 2), some (.int (Int32.ofInt x1)), some (.int (Int32.ofInt x2)), some (.int (Int32.ofInt x3)), some (.int (Int32.ofInt x4)), some (.int (Int32.ofInt x5)), some (.int (Int32.ofInt 0))]) c77_86 (Nat.le_of_ble_eq_true rfl) rfl ?_
                  refine mE_iload c77_88 rfl ?_
                  refine mE_if_eq_T (t := 110) c77_90 rfl (r4_n rfl) (by decide) ?_
                  refine mE_iconst c77_110 ?_
                  exact mE_iret c77_111 qr77 (r4_n rfl) w.osome
                · have w := w.neg e25
                  refine mE_if_eq_F (t := 85) c77_78 rfl q24 e25 ?_
                  refine mE_iconst c77_81 ?_
                  refine mE_goto (t := 86) c77_82 rfl ?_
                  refine mE_istore (ls2 := [some (.ref 2), some (.int (Int32.ofInt x1)), some (.int (Int32.ofInt x2)), some (.int (Int32.ofInt x3)), some (.int (Int32.ofInt x4)), some (.int (Int32.ofInt x5)), some (.int (Int32.ofInt 1))]) c77_86 (Nat.le_of_ble_eq_true rfl) rfl ?_
                  refine mE_iload c77_88 rfl ?_
                  refine mE_if_eq_F (t := 110) c77_90 rfl (r4_n rfl) (by decide) ?_
                  refine mE_aload_n c77_93 rfl ?_
                  refine mE_getA c77_94 qo77 qF11_10 (ok_lit rfl rfl rfl) rfl ⟨by decide, by decide⟩ ?_
                  refine mE_iload_n c77_97 rfl ?_
                  refine mE_iload_n c77_98 rfl ?_
                  refine mE_iload_n c77_99 rfl ?_
                  refine mE_iload c77_100 rfl ?_
                  refine mE_iload c77_102 rfl ?_
                  refine mE_virtual1 (b := 3) (as := [.int (Int32.ofInt x1), .int (Int32.ofInt x2), .int (Int32.ofInt x3), .int (Int32.ofInt x4), .int (Int32.ofInt x5)]) (r := []) c77_104 qo77 qK11_126 qo211 rfl rfl rfl (ok_lit rfl rfl rfl) (Nat.le_of_ble_eq_true rfl) (s211 (d := d + 0) hx1 hx2 hx3 hx4 hx5 w.oc) ?_
                  intro v26 M27 q28 w
                  refine mE_goto (t := 111) c77_107 rfl ?_
                  exact mE_iret c77_111 qr77 q28 w.osome
    · have w := w.neg e4
      refine mE_icmp_ge_T (t := 85) c77_19 rfl u3 (r4_n rfl) e4 ?_
      refine mE_iconst c77_85 ?_
      refine mE_istore (ls2 := [some (.ref 2), some (.int (Int32.ofInt x1)), some (.int (Int32.ofInt x2)), some (.int (Int32.ofInt x3)), some (.int (Int32.ofInt x4)), some (.int (Int32.ofInt x5)), some (.int (Int32.ofInt 0))]) c77_86 (Nat.le_of_ble_eq_true rfl) rfl ?_
      refine mE_iload c77_88 rfl ?_
      refine mE_if_eq_T (t := 110) c77_90 rfl (r4_n rfl) (by decide) ?_
      refine mE_iconst c77_110 ?_
      exact mE_iret c77_111 qr77 (r4_n rfl) w.osome
  · have w := w.neg e2
    refine mE_if_ne_T (t := 85) c77_7 rfl u1 e2 ?_
    refine mE_iconst c77_85 ?_
    refine mE_istore (ls2 := [some (.ref 2), some (.int (Int32.ofInt x1)), some (.int (Int32.ofInt x2)), some (.int (Int32.ofInt x3)), some (.int (Int32.ofInt x4)), some (.int (Int32.ofInt x5)), some (.int (Int32.ofInt 0))]) c77_86 (Nat.le_of_ble_eq_true rfl) rfl ?_
    refine mE_iload c77_88 rfl ?_
    refine mE_if_eq_T (t := 110) c77_90 rfl (r4_n rfl) (by decide) ?_
    refine mE_iconst c77_110 ?_
    exact mE_iret c77_111 qr77 (r4_n rfl) w.osome
theorem s77 {X : Nat × Nat × qC} {d : Nat} {x1 : Int} {x2 : Int} {x3 : Int} {x4 : Int} {x5 : Int} {M : Mm} {R : Int × Mm → Prop} (hx1 : R4 x1) (hx2 : R4 x2) (hx3 : R4 x3) (hx4 : R4 x4) (hx5 : R4 x5) (w : Wp (f77 x1 x2 x3 x4 x5 M) R) : mC X (d + 2) 77 1 [.ref 2, .int (Int32.ofInt x1), .int (Int32.ofInt x2), .int (Int32.ofInt x3), .int (Int32.ofInt x4), .int (Int32.ofInt x5)] M (fun v M2 => R (v, M2)) :=
  mC_of (qent_mk qx77 rfl rfl rfl) (t77 hx1 hx2 hx3 hx4 hx5 w)
/-! SaggingNet.wireIs -/
noncomputable def f78 (x1 : Int) (x2 : Int) (M : Mm) : Option (Int × Mm) :=
  (f215 x1 M).bind fun v1 =>
  if v1 = 0 then
  (some ((-1), M))
  else
  (if x2 = 0 then
  (gd (0 ≤ x1 ∧ x1 < 14) (
  some ((M 26 (x1).toNat), M)))
  else
  (if x2 = 1 then
  (gd (0 ≤ x1 ∧ x1 < 14) (
  some ((M 27 (x1).toNat), M)))
  else
  (if x2 = 2 then
  (gd (0 ≤ x1 ∧ x1 < 14) (
  some ((M 28 (x1).toNat), M)))
  else
  (if x2 = 3 then
  (obnd (f11 24 x1 M) fun v9 M10 =>
  some (v9, M10))
  else
  (some ((-1), M))))))
theorem t78 {X : Nat × Nat × qC} {d : Nat} {x1 : Int} {x2 : Int} {M : Mm}  {R : Int × Mm → Prop} (hx1 : R4 x1) (hx2 : R4 x2) (w : Wp (f78 x1 x2 M) R) : mE X (d + 6) 78 1 0 [some (.ref 2), some (.int (Int32.ofInt x1)), some (.int (Int32.ofInt x2))] [] M (fun v M2 => R (v, M2)) := by
  refine mE_aload_n c78_0 rfl ?_
  refine mE_getA c78_1 qo78 qF11_10 (ok_lit rfl rfl rfl) rfl ⟨by decide, by decide⟩ ?_
  refine mE_iload_n c78_4 rfl ?_
  refine mE_virtual1 (b := 3) (as := [.int (Int32.ofInt x1)]) (r := []) c78_5 qo78 qK11_140 qo215 rfl rfl rfl (ok_lit rfl rfl rfl) (Nat.le_of_ble_eq_true rfl) (s215 (d := d + 5) hx1 w.obind) ?_
  rintro v1 _ q3 ⟨rfl, w⟩
  by_cases e4 : v1 = 0
  · have w := w.pos e4
    refine mE_if_ne_F (t := 13) c78_8 rfl q3 e4 ?_
    refine mE_iconst c78_11 ?_
    exact mE_iret c78_12 qr78 (r4_n rfl) w.osome
  · have w := w.neg e4
    refine mE_if_ne_T (t := 13) c78_8 rfl q3 e4 ?_
    refine mE_iload_n c78_13 rfl ?_
    by_cases e5 : x2 = 0
    · have w := w.pos e5
      refine mE_table (off := 30) (t := 44) c78_14 hx2 e5 (by decide) rfl rfl ?_
      refine mE_aload_n c78_44 rfl ?_
      refine mE_getA c78_45 qo78 qF11_19 (ok_lit rfl rfl rfl) rfl ⟨by decide, by decide⟩ ?_
      refine mE_getA c78_48 qo78 qF11_149 (ok_lit rfl rfl rfl) rfl ⟨by decide, by decide⟩ ?_
      refine mE_iload_n c78_51 rfl ?_
      obtain ⟨g6, w⟩ := w.ogd
      refine mE_iaload c78_52 (ok_lit rfl rfl rfl) hx1 g6 ?_
      intro u7
      exact mE_iret c78_53 qr78 u7 w.osome
    have w := w.neg e5
    by_cases e6 : x2 = 1
    · have w := w.pos e6
      refine mE_table (off := 40) (t := 54) c78_14 hx2 e6 (by decide) rfl rfl ?_
      refine mE_aload_n c78_54 rfl ?_
      refine mE_getA c78_55 qo78 qF11_19 (ok_lit rfl rfl rfl) rfl ⟨by decide, by decide⟩ ?_
      refine mE_getA c78_58 qo78 qF11_225 (ok_lit rfl rfl rfl) rfl ⟨by decide, by decide⟩ ?_
      refine mE_iload_n c78_61 rfl ?_
      obtain ⟨g7, w⟩ := w.ogd
      refine mE_iaload c78_62 (ok_lit rfl rfl rfl) hx1 g7 ?_
      intro u8
      exact mE_iret c78_63 qr78 u8 w.osome
    have w := w.neg e6
    by_cases e7 : x2 = 2
    · have w := w.pos e7
      refine mE_table (off := 50) (t := 64) c78_14 hx2 e7 (by decide) rfl rfl ?_
      refine mE_aload_n c78_64 rfl ?_
      refine mE_getA c78_65 qo78 qF11_19 (ok_lit rfl rfl rfl) rfl ⟨by decide, by decide⟩ ?_
      refine mE_getA c78_68 qo78 qF11_143 (ok_lit rfl rfl rfl) rfl ⟨by decide, by decide⟩ ?_
      refine mE_iload_n c78_71 rfl ?_
      obtain ⟨g8, w⟩ := w.ogd
      refine mE_iaload c78_72 (ok_lit rfl rfl rfl) hx1 g8 ?_
      intro u9
      exact mE_iret c78_73 qr78 u9 w.osome
    have w := w.neg e7
    by_cases e8 : x2 = 3
    · have w := w.pos e8
      refine mE_table (off := 60) (t := 74) c78_14 hx2 e8 (by decide) rfl rfl ?_
      refine mE_aload_n c78_74 rfl ?_
      refine mE_getA c78_75 qo78 qF11_41 (ok_lit rfl rfl rfl) rfl ⟨by decide, by decide⟩ ?_
      refine mE_aload_n c78_78 rfl ?_
      refine mE_getA c78_79 qo78 qF11_10 (ok_lit rfl rfl rfl) rfl ⟨by decide, by decide⟩ ?_
      refine mE_aload_n c78_82 rfl ?_
      refine mE_getA c78_83 qo78 qF11_19 (ok_lit rfl rfl rfl) rfl ⟨by decide, by decide⟩ ?_
      refine mE_iload_n c78_86 rfl ?_
      refine mE_virtual1 (b := 49) (as := [.ref 3, .ref 24, .int (Int32.ofInt x1)]) (r := []) c78_87 qo78 qK11_228 qo11 rfl rfl rfl (ok_lit rfl rfl rfl) (Nat.le_of_ble_eq_true rfl) (s11 (d := d + 0) isSt_24 hx1 w.oc) ?_
      intro v9 M10 q11 w
      exact mE_iret c78_90 qr78 q11 w.osome
    have w := w.neg e8
    refine mE_tableD (t := 91) c78_14 hx2 (by omega) rfl ?_
    refine mE_iconst c78_91 ?_
    exact mE_iret c78_92 qr78 (r4_n rfl) w.osome
theorem s78 {X : Nat × Nat × qC} {d : Nat} {x1 : Int} {x2 : Int} {M : Mm} {R : Int × Mm → Prop} (hx1 : R4 x1) (hx2 : R4 x2) (w : Wp (f78 x1 x2 M) R) : mC X (d + 7) 78 1 [.ref 2, .int (Int32.ofInt x1), .int (Int32.ofInt x2)] M (fun v M2 => R (v, M2)) :=
  mC_of (qent_mk qx78 rfl rfl rfl) (t78 hx1 hx2 w)
/-! SaggingNet$Net.addWorks -/
def E212_10 (X : Nat × Nat × qC) (d : Nat) (x1 : Int) (x2 : Int) (x3 : Int) (x4 : Int) (R : Int × Mm → Prop) : Int × Mm → Prop := fun s => R4 s.1 → mE X (d + 0) 212 1 10 [some (.ref 3), some (.int (Int32.ofInt x1)), some (.int (Int32.ofInt x2)), some (.int (Int32.ofInt x3)), some (.int (Int32.ofInt x4)), some (.int (Int32.ofInt s.1))] [] s.2 (fun v M2 => R (v, M2))
noncomputable def f212_55 (x1 : Int) (x2 : Int) (x3 : Int) (x4 : Int) (x5 : Int) (M : Mm) : Option (Int × Mm) :=
  gd (0 ≤ x5 ∧ x5 < 9) (
  mlet (ms M 23 (x5).toNat x4) fun M2 =>
  gd (0 ≤ x4 ∧ x4 < 9) (
  mlet (ms M2 20 (x4).toNat x1) fun M5 =>
  mlet (ms M5 21 (x4).toNat x2) fun M7 =>
  mlet (ms M7 22 (x4).toNat x3) fun M9 =>
  gd (R4 ((M9 3 2) + 1)) (
  mlet (ms M9 3 2 ((M9 3 2) + 1)) fun M13 =>
  some (x4, M13))))
theorem t212_55 {X : Nat × Nat × qC} {d : Nat} {x1 : Int} {x2 : Int} {x3 : Int} {x4 : Int} {x5 : Int} {M : Mm}  {R : Int × Mm → Prop} (hx1 : R4 x1) (hx2 : R4 x2) (hx3 : R4 x3) (hx4 : R4 x4) (hx5 : R4 x5) (w : Wp (f212_55 x1 x2 x3 x4 x5 M) R) : mE X (d + 0) 212 1 55 [some (.ref 3), some (.int (Int32.ofInt x1)), some (.int (Int32.ofInt x2)), some (.int (Int32.ofInt x3)), some (.int (Int32.ofInt x4)), some (.int (Int32.ofInt x5))] [] M (fun v M2 => R (v, M2)) := by
  refine mE_aload_n c212_55 rfl ?_
  refine mE_getA c212_56 qo212 qF4_59 (ok_lit rfl rfl rfl) rfl ⟨by decide, by decide⟩ ?_
  refine mE_iload c212_59 rfl ?_
  refine mE_iload c212_61 rfl ?_
  obtain ⟨g1, w⟩ := w.ogd
  obtain ⟨M2, m3, w⟩ := w.mlet
  refine mE_iastore c212_63 (ok_lit rfl rfl rfl) hx5 g1 hx4 ?_
  refine mE_M m3 ?_
  refine mE_aload_n c212_64 rfl ?_
  refine mE_getA c212_65 qo212 qF4_50 (ok_lit rfl rfl rfl) rfl ⟨by decide, by decide⟩ ?_
  refine mE_iload c212_68 rfl ?_
  refine mE_iload_n c212_70 rfl ?_
  obtain ⟨g4, w⟩ := w.ogd
  obtain ⟨M5, m6, w⟩ := w.mlet
  refine mE_iastore c212_71 (ok_lit rfl rfl rfl) hx4 g4 hx1 ?_
  refine mE_M m6 ?_
  refine mE_aload_n c212_72 rfl ?_
  refine mE_getA c212_73 qo212 qF4_53 (ok_lit rfl rfl rfl) rfl ⟨by decide, by decide⟩ ?_
  refine mE_iload c212_76 rfl ?_
  refine mE_iload_n c212_78 rfl ?_
  obtain ⟨M7, m8, w⟩ := w.mlet
  refine mE_iastore c212_79 (ok_lit rfl rfl rfl) hx4 g4 hx2 ?_
  refine mE_M m8 ?_
  refine mE_aload_n c212_80 rfl ?_
  refine mE_getA c212_81 qo212 qF4_56 (ok_lit rfl rfl rfl) rfl ⟨by decide, by decide⟩ ?_
  refine mE_iload c212_84 rfl ?_
  refine mE_iload_n c212_86 rfl ?_
  obtain ⟨M9, m10, w⟩ := w.mlet
  refine mE_iastore c212_87 (ok_lit rfl rfl rfl) hx4 g4 hx3 ?_
  refine mE_M m10 ?_
  refine mE_aload_n c212_88 rfl ?_
  refine mE_dup c212_89 rfl ?_
  refine mE_getI c212_90 qo212 qF4_68 (ok_lit rfl rfl rfl) rfl ?_
  intro u11
  refine mE_iconst c212_93 ?_
  obtain ⟨g12, w⟩ := w.ogd
  refine mE_iadd c212_94 ?_
  obtain ⟨M13, m14, w⟩ := w.mlet
  refine mE_putI c212_95 qo212 qF4_68 qz4_2 (ok_lit rfl rfl rfl) (Nat.le_of_ble_eq_true rfl) rfl g12 (by rw [qy4_2]; rfl) ?_
  refine mE_M m14 ?_
  refine mE_iload c212_98 rfl ?_
  exact mE_iret c212_100 qr212 hx4 w.osome
noncomputable def lb212_10 (x1 : Int) (x2 : Int) (x3 : Int) (x4 : Int) (x5 : Int) (M : Mm) : Option ((Int × Mm) ⊕ (Int × Mm)) :=
  if 0 < x5 then
  (gd (R4 (x5 - 1)) (
  gd (0 ≤ (x5 - 1) ∧ (x5 - 1) < 9) (
  gd (0 ≤ (M 23 ((x5 - 1)).toNat) ∧ (M 23 ((x5 - 1)).toNat) < 9) (
  if x3 < (M 22 ((M 23 ((x5 - 1)).toNat)).toNat) then
  (gd (0 ≤ x5 ∧ x5 < 9) (
  mlet (ms M 23 (x5).toNat (M 23 ((x5 - 1)).toNat)) fun M10 =>
  gd (R4 (x5 + (-1))) (
  some (.inl ((x5 + (-1)), M10)))))
  else
  (oinr (f212_55 x1 x2 x3 x4 x5 M))))))
  else
  (oinr (f212_55 x1 x2 x3 x4 x5 M))
noncomputable def f212_10 (x1 : Int) (x2 : Int) (x3 : Int) (x4 : Int) (x5 : Int) (M : Mm) : Option (Int × Mm) := lp (fun s : Int × Mm => lb212_10 x1 x2 x3 x4 s.1 s.2) (x5, M)
theorem tb212_10 {X : Nat × Nat × qC} {d : Nat} {x1 : Int} {x2 : Int} {x3 : Int} {x4 : Int} {x5 : Int} {M : Mm}  {R : Int × Mm → Prop} (hx1 : R4 x1) (hx2 : R4 x2) (hx3 : R4 x3) (hx4 : R4 x4) (hx5 : R4 x5) (w : Wp (lb212_10 x1 x2 x3 x4 x5 M) (Sum.elim (E212_10 X d x1 x2 x3 x4 R) R)) : mE X (d + 0) 212 1 10 [some (.ref 3), some (.int (Int32.ofInt x1)), some (.int (Int32.ofInt x2)), some (.int (Int32.ofInt x3)), some (.int (Int32.ofInt x4)), some (.int (Int32.ofInt x5))] [] M (fun v M2 => R (v, M2)) := by
  refine mE_iload c212_10 rfl ?_
  by_cases e1 : 0 < x5
  · have w := w.pos e1
    refine mE_if_le_F (t := 55) c212_12 rfl hx5 e1 ?_
    refine mE_aload_n c212_15 rfl ?_
    refine mE_getA c212_16 qo212 qF4_56 (ok_lit rfl rfl rfl) rfl ⟨by decide, by decide⟩ ?_
    refine mE_aload_n c212_19 rfl ?_
    refine mE_getA c212_20 qo212 qF4_59 (ok_lit rfl rfl rfl) rfl ⟨by decide, by decide⟩ ?_
    refine mE_iload c212_23 rfl ?_
    refine mE_iconst c212_25 ?_
    obtain ⟨g2, w⟩ := w.ogd
    refine mE_isub c212_26 ?_
    obtain ⟨g3, w⟩ := w.ogd
    refine mE_iaload c212_27 (ok_lit rfl rfl rfl) g2 g3 ?_
    intro u4
    obtain ⟨g5, w⟩ := w.ogd
    refine mE_iaload c212_28 (ok_lit rfl rfl rfl) u4 g5 ?_
    intro u6
    refine mE_iload_n c212_29 rfl ?_
    by_cases e7 : x3 < (M 22 ((M 23 ((x5 - 1)).toNat)).toNat)
    · have w := w.pos e7
      refine mE_icmp_le_F (t := 55) c212_30 rfl u6 hx3 e7 ?_
      refine mE_aload_n c212_33 rfl ?_
      refine mE_getA c212_34 qo212 qF4_59 (ok_lit rfl rfl rfl) rfl ⟨by decide, by decide⟩ ?_
      refine mE_iload c212_37 rfl ?_
      refine mE_aload_n c212_39 rfl ?_
      refine mE_getA c212_40 qo212 qF4_59 (ok_lit rfl rfl rfl) rfl ⟨by decide, by decide⟩ ?_
      refine mE_iload c212_43 rfl ?_
      refine mE_iconst c212_45 ?_
      refine mE_isub c212_46 ?_
      refine mE_iaload c212_47 (ok_lit rfl rfl rfl) g2 g3 ?_
      intro u8
      obtain ⟨g9, w⟩ := w.ogd
      obtain ⟨M10, m11, w⟩ := w.mlet
      refine mE_iastore c212_48 (ok_lit rfl rfl rfl) hx5 g9 u8 ?_
      refine mE_M m11 ?_
      obtain ⟨g12, w⟩ := w.ogd
      refine mE_iinc (ls2 := [some (.ref 3), some (.int (Int32.ofInt x1)), some (.int (Int32.ofInt x2)), some (.int (Int32.ofInt x3)), some (.int (Int32.ofInt x4)), some (.int (Int32.ofInt (x5 + (-1))))]) c212_49 rfl (Nat.le_of_ble_eq_true rfl) rfl ?_
      refine mE_goto (t := 10) c212_52 rfl ?_
      exact w.osome g12
    · have w := w.neg e7
      refine mE_icmp_le_T (t := 55) c212_30 rfl u6 hx3 e7 ?_
      have w := w.oinr
      exact t212_55 hx1 hx2 hx3 hx4 hx5 w
  · have w := w.neg e1
    refine mE_if_le_T (t := 55) c212_12 rfl hx5 e1 ?_
    have w := w.oinr
    exact t212_55 hx1 hx2 hx3 hx4 hx5 w
theorem t212_10 {X : Nat × Nat × qC} {d : Nat} {x1 : Int} {x2 : Int} {x3 : Int} {x4 : Int} {x5 : Int} {M : Mm}  {R : Int × Mm → Prop} (hx1 : R4 x1) (hx2 : R4 x2) (hx3 : R4 x3) (hx4 : R4 x4) (hx5 : R4 x5) (w : Wp (f212_10 x1 x2 x3 x4 x5 M) R) : mE X (d + 0) 212 1 10 [some (.ref 3), some (.int (Int32.ofInt x1)), some (.int (Int32.ofInt x2)), some (.int (Int32.ofInt x3)), some (.int (Int32.ofInt x4)), some (.int (Int32.ofInt x5))] [] M (fun v M2 => R (v, M2)) :=
  Wp.olp (f := fun s : Int × Mm => lb212_10 x1 x2 x3 x4 s.1 s.2) (s := (x5, M)) (E := E212_10 X d x1 x2 x3 x4 R) w (fun s w hx5 => tb212_10 hx1 hx2 hx3 hx4 hx5 w) hx5
noncomputable def f212 (x1 : Int) (x2 : Int) (x3 : Int) (M : Mm) : Option (Int × Mm) :=
  f212_10 x1 x2 x3 (M 3 2) (M 3 2) M
theorem t212 {X : Nat × Nat × qC} {d : Nat} {x1 : Int} {x2 : Int} {x3 : Int} {M : Mm}  {R : Int × Mm → Prop} (hx1 : R4 x1) (hx2 : R4 x2) (hx3 : R4 x3) (w : Wp (f212 x1 x2 x3 M) R) : mE X (d + 0) 212 1 0 [some (.ref 3), some (.int (Int32.ofInt x1)), some (.int (Int32.ofInt x2)), some (.int (Int32.ofInt x3)), none, none] [] M (fun v M2 => R (v, M2)) := by
  refine mE_aload_n c212_0 rfl ?_
  refine mE_getI c212_1 qo212 qF4_68 (ok_lit rfl rfl rfl) rfl ?_
  intro u1
  refine mE_istore (ls2 := [some (.ref 3), some (.int (Int32.ofInt x1)), some (.int (Int32.ofInt x2)), some (.int (Int32.ofInt x3)), some (.int (Int32.ofInt (M 3 2))), none]) c212_4 (Nat.le_of_ble_eq_true rfl) rfl ?_
  refine mE_iload c212_6 rfl ?_
  refine mE_istore (ls2 := [some (.ref 3), some (.int (Int32.ofInt x1)), some (.int (Int32.ofInt x2)), some (.int (Int32.ofInt x3)), some (.int (Int32.ofInt (M 3 2))), some (.int (Int32.ofInt (M 3 2)))]) c212_8 (Nat.le_of_ble_eq_true rfl) rfl ?_
  exact t212_10 hx1 hx2 hx3 u1 u1 w
theorem s212 {X : Nat × Nat × qC} {d : Nat} {x1 : Int} {x2 : Int} {x3 : Int} {M : Mm} {R : Int × Mm → Prop} (hx1 : R4 x1) (hx2 : R4 x2) (hx3 : R4 x3) (w : Wp (f212 x1 x2 x3 M) R) : mC X (d + 1) 212 1 [.ref 3, .int (Int32.ofInt x1), .int (Int32.ofInt x2), .int (Int32.ofInt x3)] M (fun v M2 => R (v, M2)) :=
  mC_of (qent_mk qx212 rfl rfl rfl) (t212 hx1 hx2 hx3 w)
/-! SaggingNet.works -/
noncomputable def f81 (x1 : Int) (x2 : Int) (x3 : Int) (M : Mm) : Option (Int × Mm) :=
  if (M 24 0) = 0 then
  (if (M 3 2) < 9 then
  ((f214 x1 M).bind fun v5 =>
  if v5 = 0 then
  (some ((-1), M))
  else
  ((f80 x2 1 5000 M).bind fun v9 =>
  if v9 = 0 then
  (some ((-1), M))
  else
  ((f80 x3 0 99 M).bind fun v13 =>
  if v13 = 0 then
  (some ((-1), M))
  else
  (mlet (ms M 24 2 (bOr (M 24 2) (bShl 1 (M 3 2)))) fun M19 =>
  obnd (f212 x1 x2 x3 M19) fun v21 M22 =>
  some (v21, M22)))))
  else
  (some ((-1), M)))
  else
  (some ((-1), M))
theorem t81 {X : Nat × Nat × qC} {d : Nat} {x1 : Int} {x2 : Int} {x3 : Int} {M : Mm}  {R : Int × Mm → Prop} (hx1 : R4 x1) (hx2 : R4 x2) (hx3 : R4 x3) (w : Wp (f81 x1 x2 x3 M) R) : mE X (d + 1) 81 1 0 [some (.ref 2), some (.int (Int32.ofInt x1)), some (.int (Int32.ofInt x2)), some (.int (Int32.ofInt x3)), none] [] M (fun v M2 => R (v, M2)) := by
  refine mE_aload_n c81_0 rfl ?_
  refine mE_getA c81_1 qo81 qF11_19 (ok_lit rfl rfl rfl) rfl ⟨by decide, by decide⟩ ?_
  refine mE_getI c81_4 qo81 qF11_97 (ok_lit rfl rfl rfl) rfl ?_
  intro u1
  by_cases e2 : (M 24 0) = 0
  · have w := w.pos e2
    refine mE_if_ne_F (t := 58) c81_7 rfl u1 e2 ?_
    refine mE_aload_n c81_10 rfl ?_
    refine mE_getA c81_11 qo81 qF11_10 (ok_lit rfl rfl rfl) rfl ⟨by decide, by decide⟩ ?_
    refine mE_getI c81_14 qo81 qF11_130 (ok_lit rfl rfl rfl) rfl ?_
    intro u3
    refine mE_bipush (x := 9) c81_17 rfl ?_
    by_cases e4 : (M 3 2) < 9
    · have w := w.pos e4
      refine mE_icmp_ge_F (t := 58) c81_19 rfl u3 (r4_n rfl) e4 ?_
      refine mE_aload_n c81_22 rfl ?_
      refine mE_getA c81_23 qo81 qF11_10 (ok_lit rfl rfl rfl) rfl ⟨by decide, by decide⟩ ?_
      refine mE_iload_n c81_26 rfl ?_
      refine mE_virtual1 (b := 3) (as := [.int (Int32.ofInt x1)]) (r := []) c81_27 qo81 qK11_122 qo214 rfl rfl rfl (ok_lit rfl rfl rfl) (Nat.le_of_ble_eq_true rfl) (s214 (d := d + 0) hx1 w.obind) ?_
      rintro v5 _ q7 ⟨rfl, w⟩
      by_cases e8 : v5 = 0
      · have w := w.pos e8
        refine mE_if_eq_T (t := 58) c81_30 rfl q7 e8 ?_
        refine mE_iconst c81_58 ?_
        refine mE_istore (ls2 := [some (.ref 2), some (.int (Int32.ofInt x1)), some (.int (Int32.ofInt x2)), some (.int (Int32.ofInt x3)), some (.int (Int32.ofInt 0))]) c81_59 (Nat.le_of_ble_eq_true rfl) rfl ?_
        refine mE_iload c81_61 rfl ?_
        refine mE_if_ne_F (t := 68) c81_63 rfl (r4_n rfl) (by decide) ?_
        refine mE_iconst c81_66 ?_
        exact mE_iret c81_67 qr81 (r4_n rfl) w.osome
      · have w := w.neg e8
        refine mE_if_eq_F (t := 58) c81_30 rfl q7 e8 ?_
        refine mE_iload_n c81_33 rfl ?_
        refine mE_iconst c81_34 ?_
        refine mE_sipush (x := 5000) c81_35 rfl ?_
        refine mE_static1 (as := [.int (Int32.ofInt x2), .int (Int32.ofInt 1), .int (Int32.ofInt 5000)]) (r := []) c81_38 qo81 (by decide) qK11_108 rfl rfl rfl (Nat.le_of_ble_eq_true rfl) (s80 (d := d + 0) hx2 (r4_n rfl) (r4_n rfl) w.obind) ?_
        rintro v9 _ q11 ⟨rfl, w⟩
        by_cases e12 : v9 = 0
        · have w := w.pos e12
          refine mE_if_eq_T (t := 58) c81_41 rfl q11 e12 ?_
          refine mE_iconst c81_58 ?_
          refine mE_istore (ls2 := [some (.ref 2), some (.int (Int32.ofInt x1)), some (.int (Int32.ofInt x2)), some (.int (Int32.ofInt x3)), some (.int (Int32.ofInt 0))]) c81_59 (Nat.le_of_ble_eq_true rfl) rfl ?_
          refine mE_iload c81_61 rfl ?_
          refine mE_if_ne_F (t := 68) c81_63 rfl (r4_n rfl) (by decide) ?_
          refine mE_iconst c81_66 ?_
          exact mE_iret c81_67 qr81 (r4_n rfl) w.osome
        · have w := w.neg e12
          refine mE_if_eq_F (t := 58) c81_41 rfl q11 e12 ?_
          refine mE_iload_n c81_44 rfl ?_
          refine mE_iconst c81_45 ?_
          refine mE_bipush (x := 99) c81_46 rfl ?_
          refine mE_static1 (as := [.int (Int32.ofInt x3), .int (Int32.ofInt 0), .int (Int32.ofInt 99)]) (r := []) c81_48 qo81 (by decide) qK11_108 rfl rfl rfl (Nat.le_of_ble_eq_true rfl) (s80 (d := d + 0) hx3 (r4_n rfl) (r4_n rfl) w.obind) ?_
          rintro v13 _ q15 ⟨rfl, w⟩
          by_cases e16 : v13 = 0
          · have w := w.pos e16
            refine mE_if_eq_T (t := 58) c81_51 rfl q15 e16 ?_
            refine mE_iconst c81_58 ?_
            refine mE_istore (ls2 := [some (.ref 2), some (.int (Int32.ofInt x1)), some (.int (Int32.ofInt x2)), some (.int (Int32.ofInt x3)), some (.int (Int32.ofInt 0))]) c81_59 (Nat.le_of_ble_eq_true rfl) rfl ?_
            refine mE_iload c81_61 rfl ?_
            refine mE_if_ne_F (t := 68) c81_63 rfl (r4_n rfl) (by decide) ?_
            refine mE_iconst c81_66 ?_
            exact mE_iret c81_67 qr81 (r4_n rfl) w.osome
          · have w := w.neg e16
            refine mE_if_eq_F (t := 58) c81_51 rfl q15 e16 ?_
            refine mE_iconst c81_54 ?_
            refine mE_goto (t := 59) c81_55 rfl ?_
            refine mE_istore (ls2 := [some (.ref 2), some (.int (Int32.ofInt x1)), some (.int (Int32.ofInt x2)), some (.int (Int32.ofInt x3)), some (.int (Int32.ofInt 1))]) c81_59 (Nat.le_of_ble_eq_true rfl) rfl ?_
            refine mE_iload c81_61 rfl ?_
            refine mE_if_ne_T (t := 68) c81_63 rfl (r4_n rfl) (by decide) ?_
            refine mE_aload_n c81_68 rfl ?_
            refine mE_getA c81_69 qo81 qF11_19 (ok_lit rfl rfl rfl) rfl ⟨by decide, by decide⟩ ?_
            refine mE_dup c81_72 rfl ?_
            refine mE_getI c81_73 qo81 qF11_133 (ok_lit rfl rfl rfl) rfl ?_
            intro u17
            refine mE_iconst c81_76 ?_
            refine mE_aload_n c81_77 rfl ?_
            refine mE_getA c81_78 qo81 qF11_10 (ok_lit rfl rfl rfl) rfl ⟨by decide, by decide⟩ ?_
            refine mE_getI c81_81 qo81 qF11_130 (ok_lit rfl rfl rfl) rfl ?_
            intro u18
            refine mE_ishl c81_84 ?_
            refine mE_ior c81_85 ?_
            obtain ⟨M19, m20, w⟩ := w.mlet
            refine mE_putI c81_86 qo81 qF11_133 qz8_2 (ok_lit rfl rfl rfl) (Nat.le_of_ble_eq_true rfl) rfl (r4_or _ _) (by rw [qy8_2]; rfl) ?_
            refine mE_M m20 ?_
            refine mE_aload_n c81_89 rfl ?_
            refine mE_getA c81_90 qo81 qF11_10 (ok_lit rfl rfl rfl) rfl ⟨by decide, by decide⟩ ?_
            refine mE_iload_n c81_93 rfl ?_
            refine mE_iload_n c81_94 rfl ?_
            refine mE_iload_n c81_95 rfl ?_
            refine mE_virtual1 (b := 3) (as := [.int (Int32.ofInt x1), .int (Int32.ofInt x2), .int (Int32.ofInt x3)]) (r := []) c81_96 qo81 qK11_136 qo212 rfl rfl rfl (ok_lit rfl rfl rfl) (Nat.le_of_ble_eq_true rfl) (s212 (d := d + 0) hx1 hx2 hx3 w.oc) ?_
            intro v21 M22 q23 w
            exact mE_iret c81_99 qr81 q23 w.osome
    · have w := w.neg e4
      refine mE_icmp_ge_T (t := 58) c81_19 rfl u3 (r4_n rfl) e4 ?_
      refine mE_iconst c81_58 ?_
      refine mE_istore (ls2 := [some (.ref 2), some (.int (Int32.ofInt x1)), some (.int (Int32.ofInt x2)), some (.int (Int32.ofInt x3)), some (.int (Int32.ofInt 0))]) c81_59 (Nat.le_of_ble_eq_true rfl) rfl ?_
      refine mE_iload c81_61 rfl ?_
      refine mE_if_ne_F (t := 68) c81_63 rfl (r4_n rfl) (by decide) ?_
      refine mE_iconst c81_66 ?_
      exact mE_iret c81_67 qr81 (r4_n rfl) w.osome
  · have w := w.neg e2
    refine mE_if_ne_T (t := 58) c81_7 rfl u1 e2 ?_
    refine mE_iconst c81_58 ?_
    refine mE_istore (ls2 := [some (.ref 2), some (.int (Int32.ofInt x1)), some (.int (Int32.ofInt x2)), some (.int (Int32.ofInt x3)), some (.int (Int32.ofInt 0))]) c81_59 (Nat.le_of_ble_eq_true rfl) rfl ?_
    refine mE_iload c81_61 rfl ?_
    refine mE_if_ne_F (t := 68) c81_63 rfl (r4_n rfl) (by decide) ?_
    refine mE_iconst c81_66 ?_
    exact mE_iret c81_67 qr81 (r4_n rfl) w.osome
theorem s81 {X : Nat × Nat × qC} {d : Nat} {x1 : Int} {x2 : Int} {x3 : Int} {M : Mm} {R : Int × Mm → Prop} (hx1 : R4 x1) (hx2 : R4 x2) (hx3 : R4 x3) (w : Wp (f81 x1 x2 x3 M) R) : mC X (d + 2) 81 1 [.ref 2, .int (Int32.ofInt x1), .int (Int32.ofInt x2), .int (Int32.ofInt x3)] M (fun v M2 => R (v, M2)) :=
  mC_of (qent_mk qx81 rfl rfl rfl) (t81 hx1 hx2 hx3 w)
/-! SaggingNet.worksAre -/
noncomputable def f82 (x1 : Int) (x2 : Int) (M : Mm) : Option (Int × Mm) :=
  (f216 x1 M).bind fun v1 =>
  if v1 = 0 then
  (some ((-1), M))
  else
  (if x2 = 0 then
  ((f245 24 x1 M).bind fun v6 =>
  if v6 = 0 then
  (some (0, M))
  else
  (some (1, M)))
  else
  (if x2 = 1 then
  ((f238 31 24 M).bind fun M8 =>
  gd (0 ≤ x1 ∧ x1 < 9) (
  some ((M8 35 (x1).toNat), M8)))
  else
  (some ((-1), M))))
theorem t82 {X : Nat × Nat × qC} {d : Nat} {x1 : Int} {x2 : Int} {M : Mm}  {R : Int × Mm → Prop} (hx1 : R4 x1) (hx2 : R4 x2) (w : Wp (f82 x1 x2 M) R) : mE X (d + 4) 82 1 0 [some (.ref 2), some (.int (Int32.ofInt x1)), some (.int (Int32.ofInt x2))] [] M (fun v M2 => R (v, M2)) := by
  refine mE_aload_n c82_0 rfl ?_
  refine mE_getA c82_1 qo82 qF11_10 (ok_lit rfl rfl rfl) rfl ⟨by decide, by decide⟩ ?_
  refine mE_iload_n c82_4 rfl ?_
  refine mE_virtual1 (b := 3) (as := [.int (Int32.ofInt x1)]) (r := []) c82_5 qo82 qK11_152 qo216 rfl rfl rfl (ok_lit rfl rfl rfl) (Nat.le_of_ble_eq_true rfl) (s216 (d := d + 3) hx1 w.obind) ?_
  rintro v1 _ q3 ⟨rfl, w⟩
  by_cases e4 : v1 = 0
  · have w := w.pos e4
    refine mE_if_ne_F (t := 13) c82_8 rfl q3 e4 ?_
    refine mE_iconst c82_11 ?_
    exact mE_iret c82_12 qr82 (r4_n rfl) w.osome
  · have w := w.neg e4
    refine mE_if_ne_T (t := 13) c82_8 rfl q3 e4 ?_
    refine mE_iload_n c82_13 rfl ?_
    by_cases e5 : x2 = 0
    · have w := w.pos e5
      refine mE_if_ne_F (t := 34) c82_14 rfl hx2 e5 ?_
      refine mE_aload_n c82_17 rfl ?_
      refine mE_getA c82_18 qo82 qF11_19 (ok_lit rfl rfl rfl) rfl ⟨by decide, by decide⟩ ?_
      refine mE_iload_n c82_21 rfl ?_
      refine mE_virtual1 (b := 24) (as := [.int (Int32.ofInt x1)]) (r := []) c82_22 qo82 qK11_155 qo245 rfl rfl rfl (ok_lit rfl rfl rfl) (Nat.le_of_ble_eq_true rfl) (s245 (d := d + 3) isSt_24 hx1 w.obind) ?_
      rintro v6 _ q8 ⟨rfl, w⟩
      by_cases e9 : v6 = 0
      · have w := w.pos e9
        refine mE_if_eq_T (t := 32) c82_25 rfl q8 e9 ?_
        refine mE_iconst c82_32 ?_
        exact mE_iret c82_33 qr82 (r4_n rfl) w.osome
      · have w := w.neg e9
        refine mE_if_eq_F (t := 32) c82_25 rfl q8 e9 ?_
        refine mE_iconst c82_28 ?_
        refine mE_goto (t := 33) c82_29 rfl ?_
        exact mE_iret c82_33 qr82 (r4_n rfl) w.osome
    · have w := w.neg e5
      refine mE_if_ne_T (t := 34) c82_14 rfl hx2 e5 ?_
      refine mE_iload_n c82_34 rfl ?_
      refine mE_iconst c82_35 ?_
      by_cases e6 : x2 = 1
      · have w := w.pos e6
        refine mE_icmp_ne_F (t := 64) c82_36 rfl hx2 (r4_n rfl) e6 ?_
        refine mE_aload_n c82_39 rfl ?_
        refine mE_getA c82_40 qo82 qF11_34 (ok_lit rfl rfl rfl) rfl ⟨by decide, by decide⟩ ?_
        refine mE_aload_n c82_43 rfl ?_
        refine mE_getA c82_44 qo82 qF11_10 (ok_lit rfl rfl rfl) rfl ⟨by decide, by decide⟩ ?_
        refine mE_aload_n c82_47 rfl ?_
        refine mE_getA c82_48 qo82 qF11_19 (ok_lit rfl rfl rfl) rfl ⟨by decide, by decide⟩ ?_
        refine mE_virtual0 (b := 31) (as := [.ref 3, .ref 24]) (r := []) c82_51 qo82 qK11_217 qo238 rfl rfl rfl (ok_lit rfl rfl rfl) (Nat.le_of_ble_eq_true rfl) (s238 (d := d + 0) isSg_31 isSt_24 w.obind) ?_
        intro _ M8 w
        refine mE_aload_n c82_54 rfl ?_
        refine mE_getA c82_55 qo82 qF11_34 (ok_lit rfl rfl rfl) rfl ⟨by decide, by decide⟩ ?_
        refine mE_getA c82_58 qo82 qF11_232 (ok_lit rfl rfl rfl) rfl ⟨by decide, by decide⟩ ?_
        refine mE_iload_n c82_61 rfl ?_
        obtain ⟨g10, w⟩ := w.ogd
        refine mE_iaload c82_62 (ok_lit rfl rfl rfl) hx1 g10 ?_
        intro u11
        exact mE_iret c82_63 qr82 u11 w.osome
      · have w := w.neg e6
        refine mE_icmp_ne_T (t := 64) c82_36 rfl hx2 (r4_n rfl) e6 ?_
        refine mE_iconst c82_64 ?_
        exact mE_iret c82_65 qr82 (r4_n rfl) w.osome
theorem s82 {X : Nat × Nat × qC} {d : Nat} {x1 : Int} {x2 : Int} {M : Mm} {R : Int × Mm → Prop} (hx1 : R4 x1) (hx2 : R4 x2) (w : Wp (f82 x1 x2 M) R) : mC X (d + 5) 82 1 [.ref 2, .int (Int32.ofInt x1), .int (Int32.ofInt x2)] M (fun v M2 => R (v, M2)) :=
  mC_of (qent_mk qx82 rfl rfl rfl) (t82 hx1 hx2 w)
/-! SaggingNetModel.lies -/
noncomputable def f143 (l0 : Int) (l2 : Int) (l4 : Int) (M : Mm) : Option (Int) :=
  if l0 < l2 then
  (some 0)
  else
  (if l4 < l0 then
  (some 0)
  else
  (some 1))
theorem t143 {X : Nat × Nat × qC} {d : Nat} {l0 : Int} {l2 : Int} {l4 : Int} {M : Mm}  {R : Int → Prop} (hl0 : R8 l0) (hl2 : R8 l2) (hl4 : R8 l4) (w : Wp (f143 l0 l2 l4 M) R) : mE X (d + 0) 143 1 0 [some (.long (Int64.ofInt l0)), none, some (.long (Int64.ofInt l2)), none, some (.long (Int64.ofInt l4)), none] [] M (fun v M2 => M = M2 ∧ R v) := by
  refine mE_lload_n c143_0 rfl ?_
  refine mE_lload_n c143_1 rfl ?_
  by_cases e1 : l0 < l2
  · have w := w.pos e1
    refine mE_lcmp_lt_T (t := 17) c143_2 c143_3 rfl hl0 hl2 e1 ?_
    refine mE_iconst c143_17 ?_
    exact mE_zret c143_18 qr143 (Or.inl rfl) ⟨rfl, w.osome⟩
  · have w := w.neg e1
    refine mE_lcmp_lt_F (t := 17) c143_2 c143_3 rfl hl0 hl2 e1 ?_
    refine mE_lload_n c143_6 rfl ?_
    refine mE_lload c143_7 rfl ?_
    by_cases e2 : l4 < l0
    · have w := w.pos e2
      refine mE_lcmp_gt_T (t := 17) c143_9 c143_10 rfl hl0 hl4 e2 ?_
      refine mE_iconst c143_17 ?_
      exact mE_zret c143_18 qr143 (Or.inl rfl) ⟨rfl, w.osome⟩
    · have w := w.neg e2
      refine mE_lcmp_gt_F (t := 17) c143_9 c143_10 rfl hl0 hl4 e2 ?_
      refine mE_iconst c143_13 ?_
      refine mE_goto (t := 18) c143_14 rfl ?_
      exact mE_zret c143_18 qr143 (Or.inr rfl) ⟨rfl, w.osome⟩
theorem s143 {X : Nat × Nat × qC} {d : Nat} {l0 : Int} {l2 : Int} {l4 : Int} {M : Mm} {R : Int → Prop} (hl0 : R8 l0) (hl2 : R8 l2) (hl4 : R8 l4) (w : Wp (f143 l0 l2 l4 M) R) : mC X (d + 1) 143 1 [.long (Int64.ofInt l0), .long (Int64.ofInt l2), .long (Int64.ofInt l4)] M (fun v M2 => M = M2 ∧ R v) :=
  mC_of (qent_mk qx143 rfl rfl rfl) (t143 hl0 hl2 hl4 w)
/-! SaggingNetModel.hangs -/
def E117_32 (X : Nat × Nat × qC) (d : Nat) (x1 : Int) (x2 : Int) (x3 : Int) (R : Mm → Prop) : Int × Mm → Prop := fun s => R4 s.1 → ∀ (o5 : Option Value), ∀ (o6 : Option Value), ∀ (o7 : Option Value), mE X (d + 0) 117 0 32 [some (.ref 142), some (.int (Int32.ofInt x1)), some (.int (Int32.ofInt x2)), some (.int (Int32.ofInt x3)), some (.int (Int32.ofInt s.1)), o5, o6, o7] [] s.2 (fun v M2 => R M2)
def E117_23 (X : Nat × Nat × qC) (d : Nat) (x1 : Int) (x2 : Int) (R : Mm → Prop) : Int × Mm → Prop := fun s => R4 s.1 → ∀ (o4 : Option Value), ∀ (o5 : Option Value), ∀ (o6 : Option Value), ∀ (o7 : Option Value), mE X (d + 0) 117 0 23 [some (.ref 142), some (.int (Int32.ofInt x1)), some (.int (Int32.ofInt x2)), some (.int (Int32.ofInt s.1)), o4, o5, o6, o7] [] s.2 (fun v M2 => R M2)
def E117_2 (X : Nat × Nat × qC) (d : Nat) (x1 : Int) (x2 : Int) (R : Mm → Prop) : Int × Mm → Prop := fun s => R4 s.1 → mE X (d + 0) 117 0 2 [some (.ref 142), some (.int (Int32.ofInt x1)), some (.int (Int32.ofInt x2)), some (.int (Int32.ofInt s.1)), none, none, none, none] [] s.2 (fun v M2 => R M2)
noncomputable def f117_148 (x1 : Int) (x2 : Int) (x3 : Int) (x4 : Int) (M : Mm) : Option ((Int × Mm) ⊕ ((Int × Mm) ⊕ (Mm))) :=
  gd (R4 (x4 + 1)) (
  some (.inl ((x4 + 1), M)))
theorem t117_148 {X : Nat × Nat × qC} {d : Nat} {x1 : Int} {x2 : Int} {x3 : Int} {x4 : Int} {M : Mm} {o5 : Option Value} {o6 : Option Value} {o7 : Option Value} {R : Mm → Prop} (hx1 : R4 x1) (hx2 : R4 x2) (hx3 : R4 x3) (hx4 : R4 x4) (w : Wp (f117_148 x1 x2 x3 x4 M) (Sum.elim (E117_32 X d x1 x2 x3 R) (Sum.elim (E117_23 X d x1 x2 R) R))) : mE X (d + 0) 117 0 148 [some (.ref 142), some (.int (Int32.ofInt x1)), some (.int (Int32.ofInt x2)), some (.int (Int32.ofInt x3)), some (.int (Int32.ofInt x4)), o5, o6, o7] [] M (fun v M2 => R M2) := by
  obtain ⟨g1, w⟩ := w.ogd
  refine mE_iinc (ls2 := [some (.ref 142), some (.int (Int32.ofInt x1)), some (.int (Int32.ofInt x2)), some (.int (Int32.ofInt x3)), some (.int (Int32.ofInt (x4 + 1))), o5, o6, o7]) c117_148 rfl (Nat.le_of_ble_eq_true rfl) rfl ?_
  refine mE_goto (t := 32) c117_151 rfl ?_
  exact w.osome g1 _ _ _
noncomputable def f117_76 (x1 : Int) (x2 : Int) (x3 : Int) (x4 : Int) (M : Mm) : Option ((Int × Mm) ⊕ ((Int × Mm) ⊕ (Mm))) :=
  gd (0 ≤ x4 ∧ x4 < 14) (
  gd (0 ≤ (M 147 (x4).toNat) ∧ (M 147 (x4).toNat) < 8) (
  gd (0 ≤ (M 148 (x4).toNat) ∧ (M 148 (x4).toNat) < 8) (
  if (M 158 ((M 147 (x4).toNat)).toNat) < (M 158 ((M 148 (x4).toNat)).toNat) then
  (mlet (ms M 158 ((M 147 (x4).toNat)).toNat (M 158 ((M 147 (x4).toNat)).toNat)) fun M10 =>
  gd (0 ≤ (M10 148 (x4).toNat) ∧ (M10 148 (x4).toNat) < 8) (
  mlet (ms M10 158 ((M10 148 (x4).toNat)).toNat (M 158 ((M 147 (x4).toNat)).toNat)) fun M14 =>
  f117_148 x1 x2 x3 x4 M14))
  else
  (mlet (ms M 158 ((M 147 (x4).toNat)).toNat (M 158 ((M 148 (x4).toNat)).toNat)) fun M10 =>
  gd (0 ≤ (M10 148 (x4).toNat) ∧ (M10 148 (x4).toNat) < 8) (
  mlet (ms M10 158 ((M10 148 (x4).toNat)).toNat (M 158 ((M 148 (x4).toNat)).toNat)) fun M14 =>
  f117_148 x1 x2 x3 x4 M14)))))
theorem t117_76 {X : Nat × Nat × qC} {d : Nat} {x1 : Int} {x2 : Int} {x3 : Int} {x4 : Int} {M : Mm} {o5 : Option Value} {o6 : Option Value} {o7 : Option Value} {R : Mm → Prop} (hx1 : R4 x1) (hx2 : R4 x2) (hx3 : R4 x3) (hx4 : R4 x4) (w : Wp (f117_76 x1 x2 x3 x4 M) (Sum.elim (E117_32 X d x1 x2 x3 R) (Sum.elim (E117_23 X d x1 x2 R) R))) : mE X (d + 0) 117 0 76 [some (.ref 142), some (.int (Int32.ofInt x1)), some (.int (Int32.ofInt x2)), some (.int (Int32.ofInt x3)), some (.int (Int32.ofInt x4)), o5, o6, o7] [] M (fun v M2 => R M2) := by
  refine mE_aload_n c117_76 rfl ?_
  refine mE_getA c117_77 qo117 qF12_58 (ok_lit rfl rfl rfl) rfl ⟨by decide, by decide⟩ ?_
  refine mE_aload_n c117_80 rfl ?_
  refine mE_getA c117_81 qo117 qF12_24 (ok_lit rfl rfl rfl) rfl ⟨by decide, by decide⟩ ?_
  refine mE_iload c117_84 rfl ?_
  obtain ⟨g1, w⟩ := w.ogd
  refine mE_iaload c117_86 (ok_lit rfl rfl rfl) hx4 g1 ?_
  intro u2
  obtain ⟨g3, w⟩ := w.ogd
  refine mE_iaload c117_87 (ok_lit rfl rfl rfl) u2 g3 ?_
  intro u4
  refine mE_istore (ls2 := [some (.ref 142), some (.int (Int32.ofInt x1)), some (.int (Int32.ofInt x2)), some (.int (Int32.ofInt x3)), some (.int (Int32.ofInt x4)), some (.int (Int32.ofInt (M 158 ((M 147 (x4).toNat)).toNat))), o6, o7]) c117_88 (Nat.le_of_ble_eq_true rfl) rfl ?_
  refine mE_aload_n c117_90 rfl ?_
  refine mE_getA c117_91 qo117 qF12_58 (ok_lit rfl rfl rfl) rfl ⟨by decide, by decide⟩ ?_
  refine mE_aload_n c117_94 rfl ?_
  refine mE_getA c117_95 qo117 qF12_27 (ok_lit rfl rfl rfl) rfl ⟨by decide, by decide⟩ ?_
  refine mE_iload c117_98 rfl ?_
  refine mE_iaload c117_100 (ok_lit rfl rfl rfl) hx4 g1 ?_
  intro u5
  obtain ⟨g6, w⟩ := w.ogd
  refine mE_iaload c117_101 (ok_lit rfl rfl rfl) u5 g6 ?_
  intro u7
  refine mE_istore (ls2 := [some (.ref 142), some (.int (Int32.ofInt x1)), some (.int (Int32.ofInt x2)), some (.int (Int32.ofInt x3)), some (.int (Int32.ofInt x4)), some (.int (Int32.ofInt (M 158 ((M 147 (x4).toNat)).toNat))), some (.int (Int32.ofInt (M 158 ((M 148 (x4).toNat)).toNat))), o7]) c117_102 (Nat.le_of_ble_eq_true rfl) rfl ?_
  refine mE_iload c117_104 rfl ?_
  refine mE_iload c117_106 rfl ?_
  by_cases e8 : (M 158 ((M 147 (x4).toNat)).toNat) < (M 158 ((M 148 (x4).toNat)).toNat)
  · have w := w.pos e8
    refine mE_icmp_ge_F (t := 116) c117_108 rfl u4 u7 e8 ?_
    refine mE_iload c117_111 rfl ?_
    refine mE_goto (t := 118) c117_113 rfl ?_
    refine mE_istore (ls2 := [some (.ref 142), some (.int (Int32.ofInt x1)), some (.int (Int32.ofInt x2)), some (.int (Int32.ofInt x3)), some (.int (Int32.ofInt x4)), some (.int (Int32.ofInt (M 158 ((M 147 (x4).toNat)).toNat))), some (.int (Int32.ofInt (M 158 ((M 148 (x4).toNat)).toNat))), some (.int (Int32.ofInt (M 158 ((M 147 (x4).toNat)).toNat)))]) c117_118 (Nat.le_of_ble_eq_true rfl) rfl ?_
    refine mE_aload_n c117_120 rfl ?_
    refine mE_getA c117_121 qo117 qF12_58 (ok_lit rfl rfl rfl) rfl ⟨by decide, by decide⟩ ?_
    refine mE_aload_n c117_124 rfl ?_
    refine mE_getA c117_125 qo117 qF12_24 (ok_lit rfl rfl rfl) rfl ⟨by decide, by decide⟩ ?_
    refine mE_iload c117_128 rfl ?_
    refine mE_iaload c117_130 (ok_lit rfl rfl rfl) hx4 g1 ?_
    intro u9
    refine mE_iload c117_131 rfl ?_
    obtain ⟨M10, m11, w⟩ := w.mlet
    refine mE_iastore c117_133 (ok_lit rfl rfl rfl) u9 g3 u4 ?_
    refine mE_M m11 ?_
    refine mE_aload_n c117_134 rfl ?_
    refine mE_getA c117_135 qo117 qF12_58 (ok_lit rfl rfl rfl) rfl ⟨by decide, by decide⟩ ?_
    refine mE_aload_n c117_138 rfl ?_
    refine mE_getA c117_139 qo117 qF12_27 (ok_lit rfl rfl rfl) rfl ⟨by decide, by decide⟩ ?_
    refine mE_iload c117_142 rfl ?_
    refine mE_iaload c117_144 (ok_lit rfl rfl rfl) hx4 g1 ?_
    intro u12
    refine mE_iload c117_145 rfl ?_
    obtain ⟨g13, w⟩ := w.ogd
    obtain ⟨M14, m15, w⟩ := w.mlet
    refine mE_iastore c117_147 (ok_lit rfl rfl rfl) u12 g13 u4 ?_
    refine mE_M m15 ?_
    exact t117_148 hx1 hx2 hx3 hx4 w
  · have w := w.neg e8
    refine mE_icmp_ge_T (t := 116) c117_108 rfl u4 u7 e8 ?_
    refine mE_iload c117_116 rfl ?_
    refine mE_istore (ls2 := [some (.ref 142), some (.int (Int32.ofInt x1)), some (.int (Int32.ofInt x2)), some (.int (Int32.ofInt x3)), some (.int (Int32.ofInt x4)), some (.int (Int32.ofInt (M 158 ((M 147 (x4).toNat)).toNat))), some (.int (Int32.ofInt (M 158 ((M 148 (x4).toNat)).toNat))), some (.int (Int32.ofInt (M 158 ((M 148 (x4).toNat)).toNat)))]) c117_118 (Nat.le_of_ble_eq_true rfl) rfl ?_
    refine mE_aload_n c117_120 rfl ?_
    refine mE_getA c117_121 qo117 qF12_58 (ok_lit rfl rfl rfl) rfl ⟨by decide, by decide⟩ ?_
    refine mE_aload_n c117_124 rfl ?_
    refine mE_getA c117_125 qo117 qF12_24 (ok_lit rfl rfl rfl) rfl ⟨by decide, by decide⟩ ?_
    refine mE_iload c117_128 rfl ?_
    refine mE_iaload c117_130 (ok_lit rfl rfl rfl) hx4 g1 ?_
    intro u9
    refine mE_iload c117_131 rfl ?_
    obtain ⟨M10, m11, w⟩ := w.mlet
    refine mE_iastore c117_133 (ok_lit rfl rfl rfl) u9 g3 u7 ?_
    refine mE_M m11 ?_
    refine mE_aload_n c117_134 rfl ?_
    refine mE_getA c117_135 qo117 qF12_58 (ok_lit rfl rfl rfl) rfl ⟨by decide, by decide⟩ ?_
    refine mE_aload_n c117_138 rfl ?_
    refine mE_getA c117_139 qo117 qF12_27 (ok_lit rfl rfl rfl) rfl ⟨by decide, by decide⟩ ?_
    refine mE_iload c117_142 rfl ?_
    refine mE_iaload c117_144 (ok_lit rfl rfl rfl) hx4 g1 ?_
    intro u12
    refine mE_iload c117_145 rfl ?_
    obtain ⟨g13, w⟩ := w.ogd
    obtain ⟨M14, m15, w⟩ := w.mlet
    refine mE_iastore c117_147 (ok_lit rfl rfl rfl) u12 g13 u7 ?_
    refine mE_M m15 ?_
    exact t117_148 hx1 hx2 hx3 hx4 w
noncomputable def lb117_32 (x1 : Int) (x2 : Int) (x3 : Int) (x4 : Int) (M : Mm) : Option ((Int × Mm) ⊕ ((Int × Mm) ⊕ (Mm))) :=
  if x4 < (M 142 4) then
  (if x2 = 0 then
  (gd (R4 (x1 + x4)) (
  gd (0 ≤ (x1 + x4) ∧ (x1 + x4) < 36400) (
  if (M 144 ((x1 + x4)).toNat) = 0 then
  (f117_76 x1 x2 x3 x4 M)
  else
  (f117_148 x1 x2 x3 x4 M))))
  else
  (gd (R4 (x1 + x4)) (
  gd (0 ≤ (x1 + x4) ∧ (x1 + x4) < 36400) (
  if (M 144 ((x1 + x4)).toNat) = 3 then
  (f117_148 x1 x2 x3 x4 M)
  else
  (f117_76 x1 x2 x3 x4 M)))))
  else
  (oinr (gd (R4 (x3 + 1)) (
  some (.inl ((x3 + 1), M)))))
noncomputable def f117_32 (x1 : Int) (x2 : Int) (x3 : Int) (x4 : Int) (M : Mm) : Option ((Int × Mm) ⊕ (Mm)) := lp (fun s : Int × Mm => lb117_32 x1 x2 x3 s.1 s.2) (x4, M)
theorem tb117_32 {X : Nat × Nat × qC} {d : Nat} {x1 : Int} {x2 : Int} {x3 : Int} {x4 : Int} {M : Mm} {o5 : Option Value} {o6 : Option Value} {o7 : Option Value} {R : Mm → Prop} (hx1 : R4 x1) (hx2 : R4 x2) (hx3 : R4 x3) (hx4 : R4 x4) (w : Wp (lb117_32 x1 x2 x3 x4 M) (Sum.elim (E117_32 X d x1 x2 x3 R) (Sum.elim (E117_23 X d x1 x2 R) R))) : mE X (d + 0) 117 0 32 [some (.ref 142), some (.int (Int32.ofInt x1)), some (.int (Int32.ofInt x2)), some (.int (Int32.ofInt x3)), some (.int (Int32.ofInt x4)), o5, o6, o7] [] M (fun v M2 => R M2) := by
  refine mE_iload c117_32 rfl ?_
  refine mE_aload_n c117_34 rfl ?_
  refine mE_getI c117_35 qo117 qF12_194 (ok_lit rfl rfl rfl) rfl ?_
  intro u1
  by_cases e2 : x4 < (M 142 4)
  · have w := w.pos e2
    refine mE_icmp_ge_F (t := 154) c117_38 rfl hx4 u1 e2 ?_
    refine mE_iload_n c117_41 rfl ?_
    by_cases e3 : x2 = 0
    · have w := w.pos e3
      refine mE_if_eq_T (t := 61) c117_42 rfl hx2 e3 ?_
      refine mE_aload_n c117_61 rfl ?_
      refine mE_getA c117_62 qo117 qF12_14 (ok_lit rfl rfl rfl) rfl ⟨by decide, by decide⟩ ?_
      refine mE_iload_n c117_65 rfl ?_
      refine mE_iload c117_66 rfl ?_
      obtain ⟨g4, w⟩ := w.ogd
      refine mE_iadd c117_68 ?_
      obtain ⟨g5, w⟩ := w.ogd
      refine mE_iaload c117_69 (ok_lit rfl rfl rfl) g4 g5 ?_
      intro u6
      by_cases e7 : (M 144 ((x1 + x4)).toNat) = 0
      · have w := w.pos e7
        refine mE_if_eq_T (t := 76) c117_70 rfl u6 e7 ?_
        exact t117_76 hx1 hx2 hx3 hx4 w
      · have w := w.neg e7
        refine mE_if_eq_F (t := 76) c117_70 rfl u6 e7 ?_
        refine mE_goto (t := 148) c117_73 rfl ?_
        exact t117_148 hx1 hx2 hx3 hx4 w
    · have w := w.neg e3
      refine mE_if_eq_F (t := 61) c117_42 rfl hx2 e3 ?_
      refine mE_aload_n c117_45 rfl ?_
      refine mE_getA c117_46 qo117 qF12_14 (ok_lit rfl rfl rfl) rfl ⟨by decide, by decide⟩ ?_
      refine mE_iload_n c117_49 rfl ?_
      refine mE_iload c117_50 rfl ?_
      obtain ⟨g4, w⟩ := w.ogd
      refine mE_iadd c117_52 ?_
      obtain ⟨g5, w⟩ := w.ogd
      refine mE_iaload c117_53 (ok_lit rfl rfl rfl) g4 g5 ?_
      intro u6
      refine mE_iconst c117_54 ?_
      by_cases e7 : (M 144 ((x1 + x4)).toNat) = 3
      · have w := w.pos e7
        refine mE_icmp_ne_F (t := 76) c117_55 rfl u6 (r4_n rfl) e7 ?_
        refine mE_goto (t := 148) c117_58 rfl ?_
        exact t117_148 hx1 hx2 hx3 hx4 w
      · have w := w.neg e7
        refine mE_icmp_ne_T (t := 76) c117_55 rfl u6 (r4_n rfl) e7 ?_
        exact t117_76 hx1 hx2 hx3 hx4 w
  · have w := w.neg e2
    refine mE_icmp_ge_T (t := 154) c117_38 rfl hx4 u1 e2 ?_
    have w := w.oinr
    obtain ⟨g3, w⟩ := w.ogd
    refine mE_iinc (ls2 := [some (.ref 142), some (.int (Int32.ofInt x1)), some (.int (Int32.ofInt x2)), some (.int (Int32.ofInt (x3 + 1))), some (.int (Int32.ofInt x4)), o5, o6, o7]) c117_154 rfl (Nat.le_of_ble_eq_true rfl) rfl ?_
    refine mE_goto (t := 23) c117_157 rfl ?_
    exact w.osome g3 _ _ _ _
theorem t117_32 {X : Nat × Nat × qC} {d : Nat} {x1 : Int} {x2 : Int} {x3 : Int} {x4 : Int} {M : Mm} {o5 : Option Value} {o6 : Option Value} {o7 : Option Value} {R : Mm → Prop} (hx1 : R4 x1) (hx2 : R4 x2) (hx3 : R4 x3) (hx4 : R4 x4) (w : Wp (f117_32 x1 x2 x3 x4 M) (Sum.elim (E117_23 X d x1 x2 R) R)) : mE X (d + 0) 117 0 32 [some (.ref 142), some (.int (Int32.ofInt x1)), some (.int (Int32.ofInt x2)), some (.int (Int32.ofInt x3)), some (.int (Int32.ofInt x4)), o5, o6, o7] [] M (fun v M2 => R M2) :=
  Wp.olp (f := fun s : Int × Mm => lb117_32 x1 x2 x3 s.1 s.2) (s := (x4, M)) (E := E117_32 X d x1 x2 x3 R) w (fun s w hx4 _ _ _ => tb117_32 hx1 hx2 hx3 hx4 w) hx4 _ _ _
noncomputable def lb117_23 (x1 : Int) (x2 : Int) (x3 : Int) (M : Mm) : Option ((Int × Mm) ⊕ (Mm)) :=
  if x3 < 8 then
  (f117_32 x1 x2 x3 0 M)
  else
  (oinr (some M))
noncomputable def f117_23 (x1 : Int) (x2 : Int) (x3 : Int) (M : Mm) : Option (Mm) := lp (fun s : Int × Mm => lb117_23 x1 x2 s.1 s.2) (x3, M)
theorem tb117_23 {X : Nat × Nat × qC} {d : Nat} {x1 : Int} {x2 : Int} {x3 : Int} {M : Mm} {o4 : Option Value} {o5 : Option Value} {o6 : Option Value} {o7 : Option Value} {R : Mm → Prop} (hx1 : R4 x1) (hx2 : R4 x2) (hx3 : R4 x3) (w : Wp (lb117_23 x1 x2 x3 M) (Sum.elim (E117_23 X d x1 x2 R) R)) : mE X (d + 0) 117 0 23 [some (.ref 142), some (.int (Int32.ofInt x1)), some (.int (Int32.ofInt x2)), some (.int (Int32.ofInt x3)), o4, o5, o6, o7] [] M (fun v M2 => R M2) := by
  refine mE_iload_n c117_23 rfl ?_
  refine mE_bipush (x := 8) c117_24 rfl ?_
  by_cases e1 : x3 < 8
  · have w := w.pos e1
    refine mE_icmp_ge_F (t := 160) c117_26 rfl hx3 (r4_n rfl) e1 ?_
    refine mE_iconst c117_29 ?_
    refine mE_istore (ls2 := [some (.ref 142), some (.int (Int32.ofInt x1)), some (.int (Int32.ofInt x2)), some (.int (Int32.ofInt x3)), some (.int (Int32.ofInt 0)), o5, o6, o7]) c117_30 (Nat.le_of_ble_eq_true rfl) rfl ?_
    exact t117_32 hx1 hx2 hx3 (r4_n rfl) w
  · have w := w.neg e1
    refine mE_icmp_ge_T (t := 160) c117_26 rfl hx3 (r4_n rfl) e1 ?_
    have w := w.oinr
    exact mE_vret c117_160 qr117 w.osome
theorem t117_23 {X : Nat × Nat × qC} {d : Nat} {x1 : Int} {x2 : Int} {x3 : Int} {M : Mm} {o4 : Option Value} {o5 : Option Value} {o6 : Option Value} {o7 : Option Value} {R : Mm → Prop} (hx1 : R4 x1) (hx2 : R4 x2) (hx3 : R4 x3) (w : Wp (f117_23 x1 x2 x3 M) R) : mE X (d + 0) 117 0 23 [some (.ref 142), some (.int (Int32.ofInt x1)), some (.int (Int32.ofInt x2)), some (.int (Int32.ofInt x3)), o4, o5, o6, o7] [] M (fun v M2 => R M2) :=
  Wp.olp (f := fun s : Int × Mm => lb117_23 x1 x2 s.1 s.2) (s := (x3, M)) (E := E117_23 X d x1 x2 R) w (fun s w hx3 _ _ _ _ => tb117_23 hx1 hx2 hx3 w) hx3 _ _ _ _
noncomputable def lb117_2 (x1 : Int) (x2 : Int) (x3 : Int) (M : Mm) : Option ((Int × Mm) ⊕ (Mm)) :=
  if x3 < 8 then
  (gd (0 ≤ x3 ∧ x3 < 8) (
  mlet (ms M 158 (x3).toNat x3) fun M3 =>
  gd (R4 (x3 + 1)) (
  some (.inl ((x3 + 1), M3)))))
  else
  (oinr (f117_23 x1 x2 0 M))
noncomputable def f117_2 (x1 : Int) (x2 : Int) (x3 : Int) (M : Mm) : Option (Mm) := lp (fun s : Int × Mm => lb117_2 x1 x2 s.1 s.2) (x3, M)
theorem tb117_2 {X : Nat × Nat × qC} {d : Nat} {x1 : Int} {x2 : Int} {x3 : Int} {M : Mm}  {R : Mm → Prop} (hx1 : R4 x1) (hx2 : R4 x2) (hx3 : R4 x3) (w : Wp (lb117_2 x1 x2 x3 M) (Sum.elim (E117_2 X d x1 x2 R) R)) : mE X (d + 0) 117 0 2 [some (.ref 142), some (.int (Int32.ofInt x1)), some (.int (Int32.ofInt x2)), some (.int (Int32.ofInt x3)), none, none, none, none] [] M (fun v M2 => R M2) := by
  refine mE_iload_n c117_2 rfl ?_
  refine mE_bipush (x := 8) c117_3 rfl ?_
  by_cases e1 : x3 < 8
  · have w := w.pos e1
    refine mE_icmp_ge_F (t := 21) c117_5 rfl hx3 (r4_n rfl) e1 ?_
    refine mE_aload_n c117_8 rfl ?_
    refine mE_getA c117_9 qo117 qF12_58 (ok_lit rfl rfl rfl) rfl ⟨by decide, by decide⟩ ?_
    refine mE_iload_n c117_12 rfl ?_
    refine mE_iload_n c117_13 rfl ?_
    obtain ⟨g2, w⟩ := w.ogd
    obtain ⟨M3, m4, w⟩ := w.mlet
    refine mE_iastore c117_14 (ok_lit rfl rfl rfl) hx3 g2 hx3 ?_
    refine mE_M m4 ?_
    obtain ⟨g5, w⟩ := w.ogd
    refine mE_iinc (ls2 := [some (.ref 142), some (.int (Int32.ofInt x1)), some (.int (Int32.ofInt x2)), some (.int (Int32.ofInt (x3 + 1))), none, none, none, none]) c117_15 rfl (Nat.le_of_ble_eq_true rfl) rfl ?_
    refine mE_goto (t := 2) c117_18 rfl ?_
    exact w.osome g5
  · have w := w.neg e1
    refine mE_icmp_ge_T (t := 21) c117_5 rfl hx3 (r4_n rfl) e1 ?_
    have w := w.oinr
    refine mE_iconst c117_21 ?_
    refine mE_istore_n (ls2 := [some (.ref 142), some (.int (Int32.ofInt x1)), some (.int (Int32.ofInt x2)), some (.int (Int32.ofInt 0)), none, none, none, none]) c117_22 (Nat.le_of_ble_eq_true rfl) rfl ?_
    exact t117_23 hx1 hx2 (r4_n rfl) w
theorem t117_2 {X : Nat × Nat × qC} {d : Nat} {x1 : Int} {x2 : Int} {x3 : Int} {M : Mm}  {R : Mm → Prop} (hx1 : R4 x1) (hx2 : R4 x2) (hx3 : R4 x3) (w : Wp (f117_2 x1 x2 x3 M) R) : mE X (d + 0) 117 0 2 [some (.ref 142), some (.int (Int32.ofInt x1)), some (.int (Int32.ofInt x2)), some (.int (Int32.ofInt x3)), none, none, none, none] [] M (fun v M2 => R M2) :=
  Wp.olp (f := fun s : Int × Mm => lb117_2 x1 x2 s.1 s.2) (s := (x3, M)) (E := E117_2 X d x1 x2 R) w (fun s w hx3 => tb117_2 hx1 hx2 hx3 w) hx3
noncomputable def f117 (x1 : Int) (x2 : Int) (M : Mm) : Option (Mm) :=
  f117_2 x1 x2 0 M
theorem t117 {X : Nat × Nat × qC} {d : Nat} {x1 : Int} {x2 : Int} {M : Mm}  {R : Mm → Prop} (hx1 : R4 x1) (hx2 : R4 x2) (w : Wp (f117 x1 x2 M) R) : mE X (d + 0) 117 0 0 [some (.ref 142), some (.int (Int32.ofInt x1)), some (.int (Int32.ofInt x2)), none, none, none, none, none] [] M (fun v M2 => R M2) := by
  refine mE_iconst c117_0 ?_
  refine mE_istore_n (ls2 := [some (.ref 142), some (.int (Int32.ofInt x1)), some (.int (Int32.ofInt x2)), some (.int (Int32.ofInt 0)), none, none, none, none]) c117_1 (Nat.le_of_ble_eq_true rfl) rfl ?_
  exact t117_2 hx1 hx2 (r4_n rfl) w
theorem s117 {X : Nat × Nat × qC} {d : Nat} {x1 : Int} {x2 : Int} {M : Mm} {R : Mm → Prop} (hx1 : R4 x1) (hx2 : R4 x2) (w : Wp (f117 x1 x2 M) R) : mC X (d + 1) 117 0 [.ref 142, .int (Int32.ofInt x1), .int (Int32.ofInt x2)] M (fun v M2 => R M2) :=
  mC_of (qent_mk qx117 rfl rfl rfl) (t117 hx1 hx2 w)
/-! SaggingNetModel.has -/
noncomputable def f118 (x0 : Int) (x1 : Int) (M : Mm) : Option (Int) :=
  if (bAnd (bShr x0 x1) 1) = 1 then
  (some 1)
  else
  (some 0)
theorem t118 {X : Nat × Nat × qC} {d : Nat} {x0 : Int} {x1 : Int} {M : Mm}  {R : Int → Prop} (hx0 : R4 x0) (hx1 : R4 x1) (w : Wp (f118 x0 x1 M) R) : mE X (d + 0) 118 1 0 [some (.int (Int32.ofInt x0)), some (.int (Int32.ofInt x1))] [] M (fun v M2 => M = M2 ∧ R v) := by
  refine mE_iload_n c118_0 rfl ?_
  refine mE_iload_n c118_1 rfl ?_
  refine mE_ishr c118_2 ?_
  refine mE_iconst c118_3 ?_
  refine mE_iand c118_4 ?_
  refine mE_iconst c118_5 ?_
  by_cases e1 : (bAnd (bShr x0 x1) 1) = 1
  · have w := w.pos e1
    refine mE_icmp_ne_F (t := 13) c118_6 rfl (r4_and _ _) (r4_n rfl) e1 ?_
    refine mE_iconst c118_9 ?_
    refine mE_goto (t := 14) c118_10 rfl ?_
    exact mE_zret c118_14 qr118 (Or.inr rfl) ⟨rfl, w.osome⟩
  · have w := w.neg e1
    refine mE_icmp_ne_T (t := 13) c118_6 rfl (r4_and _ _) (r4_n rfl) e1 ?_
    refine mE_iconst c118_13 ?_
    exact mE_zret c118_14 qr118 (Or.inl rfl) ⟨rfl, w.osome⟩
theorem s118 {X : Nat × Nat × qC} {d : Nat} {x0 : Int} {x1 : Int} {M : Mm} {R : Int → Prop} (hx0 : R4 x0) (hx1 : R4 x1) (w : Wp (f118 x0 x1 M) R) : mC X (d + 1) 118 1 [.int (Int32.ofInt x0), .int (Int32.ofInt x1)] M (fun v M2 => M = M2 ∧ R v) :=
  mC_of (qent_mk qx118 rfl rfl rfl) (t118 hx0 hx1 w)
/-! SaggingNetModel.canBegin -/
def E88_13 (X : Nat × Nat × qC) (d : Nat) (x1 : Int) (x2 : Int) (M : Mm) (R : Int → Prop) : Int → Prop := fun s => R4 s → mE X (d + 1) 88 1 13 [some (.ref 142), some (.int (Int32.ofInt x1)), some (.int (Int32.ofInt x2)), some (.int (Int32.ofInt s))] [] M (fun v M2 => M = M2 ∧ R v)
noncomputable def f88_56 (x1 : Int) (x2 : Int) (x3 : Int) (M : Mm) : Option ((Int) ⊕ (Int)) :=
  gd (R4 (x3 + 1)) (
  some (.inl ((x3 + 1))))
theorem t88_56 {X : Nat × Nat × qC} {d : Nat} {x1 : Int} {x2 : Int} {x3 : Int} {M : Mm}  {R : Int → Prop} (hx1 : R4 x1) (hx2 : R4 x2) (hx3 : R4 x3) (w : Wp (f88_56 x1 x2 x3 M) (Sum.elim (E88_13 X d x1 x2 M R) R)) : mE X (d + 1) 88 1 56 [some (.ref 142), some (.int (Int32.ofInt x1)), some (.int (Int32.ofInt x2)), some (.int (Int32.ofInt x3))] [] M (fun v M2 => M = M2 ∧ R v) := by
  obtain ⟨g1, w⟩ := w.ogd
  refine mE_iinc (ls2 := [some (.ref 142), some (.int (Int32.ofInt x1)), some (.int (Int32.ofInt x2)), some (.int (Int32.ofInt (x3 + 1)))]) c88_56 rfl (Nat.le_of_ble_eq_true rfl) rfl ?_
  refine mE_goto (t := 13) c88_59 rfl ?_
  exact w.osome g1
noncomputable def lb88_13 (x1 : Int) (x2 : Int) (x3 : Int) (M : Mm) : Option ((Int) ⊕ (Int)) :=
  if x3 < (M 142 5) then
  ((f118 x2 x3 M).bind fun v3 =>
  if v3 = 0 then
  (f88_56 x1 x2 x3 M)
  else
  (gd (0 ≤ x3 ∧ x3 < 9) (
  gd (0 ≤ (M 153 (x3).toNat) ∧ (M 153 (x3).toNat) < 8) (
  gd (0 ≤ x1 ∧ x1 < 9) (
  gd (0 ≤ (M 153 (x1).toNat) ∧ (M 153 (x1).toNat) < 8) (
  if (M 158 ((M 153 (x3).toNat)).toNat) = (M 158 ((M 153 (x1).toNat)).toNat) then
  (oinr (some 1))
  else
  (f88_56 x1 x2 x3 M)))))))
  else
  (oinr (some 0))
noncomputable def f88_13 (x1 : Int) (x2 : Int) (x3 : Int) (M : Mm) : Option (Int) := lp (fun s : Int => lb88_13 x1 x2 s M) x3
theorem tb88_13 {X : Nat × Nat × qC} {d : Nat} {x1 : Int} {x2 : Int} {x3 : Int} {M : Mm}  {R : Int → Prop} (hx1 : R4 x1) (hx2 : R4 x2) (hx3 : R4 x3) (w : Wp (lb88_13 x1 x2 x3 M) (Sum.elim (E88_13 X d x1 x2 M R) R)) : mE X (d + 1) 88 1 13 [some (.ref 142), some (.int (Int32.ofInt x1)), some (.int (Int32.ofInt x2)), some (.int (Int32.ofInt x3))] [] M (fun v M2 => M = M2 ∧ R v) := by
  refine mE_iload_n c88_13 rfl ?_
  refine mE_aload_n c88_14 rfl ?_
  refine mE_getI c88_15 qo88 qF12_197 (ok_lit rfl rfl rfl) rfl ?_
  intro u1
  by_cases e2 : x3 < (M 142 5)
  · have w := w.pos e2
    refine mE_icmp_ge_F (t := 62) c88_18 rfl hx3 u1 e2 ?_
    refine mE_iload_n c88_21 rfl ?_
    refine mE_iload_n c88_22 rfl ?_
    refine mE_static1 (as := [.int (Int32.ofInt x2), .int (Int32.ofInt x3)]) (r := []) c88_23 qo88 (by decide) qK12_248 rfl rfl rfl (Nat.le_of_ble_eq_true rfl) (s118 (d := d + 0) hx2 hx3 w.obind) ?_
    rintro v3 _ q5 ⟨rfl, w⟩
    by_cases e6 : v3 = 0
    · have w := w.pos e6
      refine mE_if_eq_T (t := 56) c88_26 rfl q5 e6 ?_
      exact t88_56 hx1 hx2 hx3 w
    · have w := w.neg e6
      refine mE_if_eq_F (t := 56) c88_26 rfl q5 e6 ?_
      refine mE_aload_n c88_29 rfl ?_
      refine mE_getA c88_30 qo88 qF12_58 (ok_lit rfl rfl rfl) rfl ⟨by decide, by decide⟩ ?_
      refine mE_aload_n c88_33 rfl ?_
      refine mE_getA c88_34 qo88 qF12_42 (ok_lit rfl rfl rfl) rfl ⟨by decide, by decide⟩ ?_
      refine mE_iload_n c88_37 rfl ?_
      obtain ⟨g7, w⟩ := w.ogd
      refine mE_iaload c88_38 (ok_lit rfl rfl rfl) hx3 g7 ?_
      intro u8
      obtain ⟨g9, w⟩ := w.ogd
      refine mE_iaload c88_39 (ok_lit rfl rfl rfl) u8 g9 ?_
      intro u10
      refine mE_aload_n c88_40 rfl ?_
      refine mE_getA c88_41 qo88 qF12_58 (ok_lit rfl rfl rfl) rfl ⟨by decide, by decide⟩ ?_
      refine mE_aload_n c88_44 rfl ?_
      refine mE_getA c88_45 qo88 qF12_42 (ok_lit rfl rfl rfl) rfl ⟨by decide, by decide⟩ ?_
      refine mE_iload_n c88_48 rfl ?_
      obtain ⟨g11, w⟩ := w.ogd
      refine mE_iaload c88_49 (ok_lit rfl rfl rfl) hx1 g11 ?_
      intro u12
      obtain ⟨g13, w⟩ := w.ogd
      refine mE_iaload c88_50 (ok_lit rfl rfl rfl) u12 g13 ?_
      intro u14
      by_cases e15 : (M 158 ((M 153 (x3).toNat)).toNat) = (M 158 ((M 153 (x1).toNat)).toNat)
      · have w := w.pos e15
        refine mE_icmp_ne_F (t := 56) c88_51 rfl u10 u14 e15 ?_
        have w := w.oinr
        refine mE_iconst c88_54 ?_
        exact mE_zret c88_55 qr88 (Or.inr rfl) ⟨rfl, w.osome⟩
      · have w := w.neg e15
        refine mE_icmp_ne_T (t := 56) c88_51 rfl u10 u14 e15 ?_
        exact t88_56 hx1 hx2 hx3 w
  · have w := w.neg e2
    refine mE_icmp_ge_T (t := 62) c88_18 rfl hx3 u1 e2 ?_
    have w := w.oinr
    refine mE_iconst c88_62 ?_
    exact mE_zret c88_63 qr88 (Or.inl rfl) ⟨rfl, w.osome⟩
theorem t88_13 {X : Nat × Nat × qC} {d : Nat} {x1 : Int} {x2 : Int} {x3 : Int} {M : Mm}  {R : Int → Prop} (hx1 : R4 x1) (hx2 : R4 x2) (hx3 : R4 x3) (w : Wp (f88_13 x1 x2 x3 M) R) : mE X (d + 1) 88 1 13 [some (.ref 142), some (.int (Int32.ofInt x1)), some (.int (Int32.ofInt x2)), some (.int (Int32.ofInt x3))] [] M (fun v M2 => M = M2 ∧ R v) :=
  Wp.olp (f := fun s : Int => lb88_13 x1 x2 s M) (s := x3) (E := E88_13 X d x1 x2 M R) w (fun s w hx3 => tb88_13 hx1 hx2 hx3 w) hx3
noncomputable def f88 (x1 : Int) (x2 : Int) (M : Mm) : Option (Int) :=
  gd (0 ≤ x1 ∧ x1 < 9) (
  if (M 156 (x1).toNat) = 0 then
  (f88_13 x1 x2 0 M)
  else
  (some 1))
theorem t88 {X : Nat × Nat × qC} {d : Nat} {x1 : Int} {x2 : Int} {M : Mm}  {R : Int → Prop} (hx1 : R4 x1) (hx2 : R4 x2) (w : Wp (f88 x1 x2 M) R) : mE X (d + 1) 88 1 0 [some (.ref 142), some (.int (Int32.ofInt x1)), some (.int (Int32.ofInt x2)), none] [] M (fun v M2 => M = M2 ∧ R v) := by
  refine mE_aload_n c88_0 rfl ?_
  refine mE_getA c88_1 qo88 qF12_51 (ok_lit rfl rfl rfl) rfl ⟨by decide, by decide⟩ ?_
  refine mE_iload_n c88_4 rfl ?_
  obtain ⟨g1, w⟩ := w.ogd
  refine mE_zaload c88_5 (ok_lit rfl rfl rfl) hx1 g1 ?_
  intro u2
  by_cases e3 : (M 156 (x1).toNat) = 0
  · have w := w.pos e3
    refine mE_if_eq_T (t := 11) c88_6 rfl u2 e3 ?_
    refine mE_iconst c88_11 ?_
    refine mE_istore_n (ls2 := [some (.ref 142), some (.int (Int32.ofInt x1)), some (.int (Int32.ofInt x2)), some (.int (Int32.ofInt 0))]) c88_12 (Nat.le_of_ble_eq_true rfl) rfl ?_
    exact t88_13 hx1 hx2 (r4_n rfl) w
  · have w := w.neg e3
    refine mE_if_eq_F (t := 11) c88_6 rfl u2 e3 ?_
    refine mE_iconst c88_9 ?_
    exact mE_zret c88_10 qr88 (Or.inr rfl) ⟨rfl, w.osome⟩
theorem s88 {X : Nat × Nat × qC} {d : Nat} {x1 : Int} {x2 : Int} {M : Mm} {R : Int → Prop} (hx1 : R4 x1) (hx2 : R4 x2) (w : Wp (f88 x1 x2 M) R) : mC X (d + 2) 88 1 [.ref 142, .int (Int32.ofInt x1), .int (Int32.ofInt x2)] M (fun v M2 => M = M2 ∧ R v) :=
  mC_of (qent_mk qx88 rfl rfl rfl) (t88 hx1 hx2 w)
/-! SaggingNetModel.darkBy -/
def E100_88 (X : Nat × Nat × qC) (d : Nat) (x2 : Int) (x3 : Int) (x4 : Int) (x5 : Int) (x6 : Int) (x7 : Int) (M : Mm) (R : Int → Prop) : Int × Int → Prop := fun s => R4 s.1 → R4 s.2 → ∀ (y1 : Int32), mE X (d + 1) 100 1 88 [some (.ref 142), some (.int y1), some (.int (Int32.ofInt x2)), some (.int (Int32.ofInt x3)), some (.int (Int32.ofInt x4)), some (.int (Int32.ofInt x5)), some (.int (Int32.ofInt x6)), some (.int (Int32.ofInt x7)), some (.int (Int32.ofInt s.1)), some (.int (Int32.ofInt s.2))] [] M (fun v M2 => M = M2 ∧ R v)
def E100_73 (X : Nat × Nat × qC) (d : Nat) (x2 : Int) (x3 : Int) (M : Mm) (R : Int → Prop) : Int × Int × Int × Int → Prop := fun s => R4 s.1 → R4 s.2.1 → R4 s.2.2.1 → R4 s.2.2.2 → ∀ (y1 : Int32), ∀ (o8 : Option Value), ∀ (o9 : Option Value), mE X (d + 1) 100 1 73 [some (.ref 142), some (.int y1), some (.int (Int32.ofInt x2)), some (.int (Int32.ofInt x3)), some (.int (Int32.ofInt s.1)), some (.int (Int32.ofInt s.2.1)), some (.int (Int32.ofInt s.2.2.1)), some (.int (Int32.ofInt s.2.2.2)), o8, o9] [] M (fun v M2 => M = M2 ∧ R v)
def E100_7 (X : Nat × Nat × qC) (d : Nat) (x1 : Int) (M : Mm) (R : Int → Prop) : Int × Int × Int → Prop := fun s => R4 s.1 → R4 s.2.1 → R4 s.2.2 → mE X (d + 1) 100 1 7 [some (.ref 142), some (.int (Int32.ofInt x1)), some (.int (Int32.ofInt s.1)), some (.int (Int32.ofInt s.2.1)), some (.int (Int32.ofInt s.2.2)), none, none, none, none, none] [] M (fun v M2 => M = M2 ∧ R v)
noncomputable def f100_55 (x1 : Int) (x2 : Int) (x3 : Int) (x4 : Int) (M : Mm) : Option ((Int × Int × Int) ⊕ (Int)) :=
  gd (R4 (x4 + 1)) (
  some (.inl (x2, x3, (x4 + 1))))
theorem t100_55 {X : Nat × Nat × qC} {d : Nat} {x1 : Int} {x2 : Int} {x3 : Int} {x4 : Int} {M : Mm}  {R : Int → Prop} (hx1 : R4 x1) (hx2 : R4 x2) (hx3 : R4 x3) (hx4 : R4 x4) (w : Wp (f100_55 x1 x2 x3 x4 M) (Sum.elim (E100_7 X d x1 M R) R)) : mE X (d + 1) 100 1 55 [some (.ref 142), some (.int (Int32.ofInt x1)), some (.int (Int32.ofInt x2)), some (.int (Int32.ofInt x3)), some (.int (Int32.ofInt x4)), none, none, none, none, none] [] M (fun v M2 => M = M2 ∧ R v) := by
  obtain ⟨g1, w⟩ := w.ogd
  refine mE_iinc (ls2 := [some (.ref 142), some (.int (Int32.ofInt x1)), some (.int (Int32.ofInt x2)), some (.int (Int32.ofInt x3)), some (.int (Int32.ofInt (x4 + 1))), none, none, none, none, none]) c100_55 rfl (Nat.le_of_ble_eq_true rfl) rfl ?_
  refine mE_goto (t := 7) c100_58 rfl ?_
  exact w.osome hx2 hx3 g1
noncomputable def f100_134 (x2 : Int) (x3 : Int) (x4 : Int) (x5 : Int) (x6 : Int) (x7 : Int) (x8 : Int) (x9 : Int) (M : Mm) : Option ((Int × Int) ⊕ ((Int × Int × Int × Int) ⊕ (Int))) :=
  gd (R4 (x9 + 1)) (
  some (.inl (x8, (x9 + 1))))
theorem t100_134 {X : Nat × Nat × qC} {d : Nat} {x2 : Int} {x3 : Int} {x4 : Int} {x5 : Int} {x6 : Int} {x7 : Int} {x8 : Int} {x9 : Int} {M : Mm} {y1 : Int32} {R : Int → Prop} (hx2 : R4 x2) (hx3 : R4 x3) (hx4 : R4 x4) (hx5 : R4 x5) (hx6 : R4 x6) (hx7 : R4 x7) (hx8 : R4 x8) (hx9 : R4 x9) (w : Wp (f100_134 x2 x3 x4 x5 x6 x7 x8 x9 M) (Sum.elim (E100_88 X d x2 x3 x4 x5 x6 x7 M R) (Sum.elim (E100_73 X d x2 x3 M R) R))) : mE X (d + 1) 100 1 134 [some (.ref 142), some (.int y1), some (.int (Int32.ofInt x2)), some (.int (Int32.ofInt x3)), some (.int (Int32.ofInt x4)), some (.int (Int32.ofInt x5)), some (.int (Int32.ofInt x6)), some (.int (Int32.ofInt x7)), some (.int (Int32.ofInt x8)), some (.int (Int32.ofInt x9))] [] M (fun v M2 => M = M2 ∧ R v) := by
  obtain ⟨g1, w⟩ := w.ogd
  refine mE_iinc (ls2 := [some (.ref 142), some (.int y1), some (.int (Int32.ofInt x2)), some (.int (Int32.ofInt x3)), some (.int (Int32.ofInt x4)), some (.int (Int32.ofInt x5)), some (.int (Int32.ofInt x6)), some (.int (Int32.ofInt x7)), some (.int (Int32.ofInt x8)), some (.int (Int32.ofInt (x9 + 1)))]) c100_134 rfl (Nat.le_of_ble_eq_true rfl) rfl ?_
  refine mE_goto (t := 88) c100_137 rfl ?_
  exact w.osome hx8 g1 _
noncomputable def f100_130 (x2 : Int) (x3 : Int) (x4 : Int) (x5 : Int) (x6 : Int) (x7 : Int) (x9 : Int) (M : Mm) : Option ((Int × Int) ⊕ ((Int × Int × Int × Int) ⊕ (Int))) :=
  f100_134 x2 x3 x4 x5 x6 x7 x9 x9 M
theorem t100_130 {X : Nat × Nat × qC} {d : Nat} {x2 : Int} {x3 : Int} {x4 : Int} {x5 : Int} {x6 : Int} {x7 : Int} {x9 : Int} {M : Mm} {y1 : Int32} {y8 : Int32} {R : Int → Prop} (hx2 : R4 x2) (hx3 : R4 x3) (hx4 : R4 x4) (hx5 : R4 x5) (hx6 : R4 x6) (hx7 : R4 x7) (hx9 : R4 x9) (w : Wp (f100_130 x2 x3 x4 x5 x6 x7 x9 M) (Sum.elim (E100_88 X d x2 x3 x4 x5 x6 x7 M R) (Sum.elim (E100_73 X d x2 x3 M R) R))) : mE X (d + 1) 100 1 130 [some (.ref 142), some (.int y1), some (.int (Int32.ofInt x2)), some (.int (Int32.ofInt x3)), some (.int (Int32.ofInt x4)), some (.int (Int32.ofInt x5)), some (.int (Int32.ofInt x6)), some (.int (Int32.ofInt x7)), some (.int y8), some (.int (Int32.ofInt x9))] [] M (fun v M2 => M = M2 ∧ R v) := by
  refine mE_iload c100_130 rfl ?_
  refine mE_istore (ls2 := [some (.ref 142), some (.int y1), some (.int (Int32.ofInt x2)), some (.int (Int32.ofInt x3)), some (.int (Int32.ofInt x4)), some (.int (Int32.ofInt x5)), some (.int (Int32.ofInt x6)), some (.int (Int32.ofInt x7)), some (.int (Int32.ofInt x9)), some (.int (Int32.ofInt x9))]) c100_132 (Nat.le_of_ble_eq_true rfl) rfl ?_
  exact t100_134 hx2 hx3 hx4 hx5 hx6 hx7 hx9 hx9 w
noncomputable def f100_201 (x2 : Int) (x3 : Int) (x4 : Int) (x5 : Int) (x6 : Int) (x7 : Int) (M : Mm) : Option ((Int × Int × Int × Int) ⊕ (Int)) :=
  gd (R4 (x7 + 1)) (
  some (.inl (x4, x5, x6, (x7 + 1))))
theorem t100_201 {X : Nat × Nat × qC} {d : Nat} {x2 : Int} {x3 : Int} {x4 : Int} {x5 : Int} {x6 : Int} {x7 : Int} {M : Mm} {y1 : Int32} {y8 : Int32} {y9 : Int32} {R : Int → Prop} (hx2 : R4 x2) (hx3 : R4 x3) (hx4 : R4 x4) (hx5 : R4 x5) (hx6 : R4 x6) (hx7 : R4 x7) (w : Wp (f100_201 x2 x3 x4 x5 x6 x7 M) (Sum.elim (E100_73 X d x2 x3 M R) R)) : mE X (d + 1) 100 1 201 [some (.ref 142), some (.int y1), some (.int (Int32.ofInt x2)), some (.int (Int32.ofInt x3)), some (.int (Int32.ofInt x4)), some (.int (Int32.ofInt x5)), some (.int (Int32.ofInt x6)), some (.int (Int32.ofInt x7)), some (.int y8), some (.int y9)] [] M (fun v M2 => M = M2 ∧ R v) := by
  obtain ⟨g1, w⟩ := w.ogd
  refine mE_iinc (ls2 := [some (.ref 142), some (.int y1), some (.int (Int32.ofInt x2)), some (.int (Int32.ofInt x3)), some (.int (Int32.ofInt x4)), some (.int (Int32.ofInt x5)), some (.int (Int32.ofInt x6)), some (.int (Int32.ofInt (x7 + 1))), some (.int y8), some (.int y9)]) c100_201 rfl (Nat.le_of_ble_eq_true rfl) rfl ?_
  refine mE_goto (t := 73) c100_204 rfl ?_
  exact w.osome hx4 hx5 hx6 g1 _ _ _
noncomputable def f100_194 (x2 : Int) (x3 : Int) (x4 : Int) (x5 : Int) (x6 : Int) (x7 : Int) (x9 : Int) (M : Mm) : Option ((Int × Int × Int × Int) ⊕ (Int)) :=
  gd (R4 (x4 + x9)) (
  f100_201 x2 x3 (x4 + x9) x5 x6 x7 M)
theorem t100_194 {X : Nat × Nat × qC} {d : Nat} {x2 : Int} {x3 : Int} {x4 : Int} {x5 : Int} {x6 : Int} {x7 : Int} {x9 : Int} {M : Mm} {y1 : Int32} {y8 : Int32} {R : Int → Prop} (hx2 : R4 x2) (hx3 : R4 x3) (hx4 : R4 x4) (hx5 : R4 x5) (hx6 : R4 x6) (hx7 : R4 x7) (hx9 : R4 x9) (w : Wp (f100_194 x2 x3 x4 x5 x6 x7 x9 M) (Sum.elim (E100_73 X d x2 x3 M R) R)) : mE X (d + 1) 100 1 194 [some (.ref 142), some (.int y1), some (.int (Int32.ofInt x2)), some (.int (Int32.ofInt x3)), some (.int (Int32.ofInt x4)), some (.int (Int32.ofInt x5)), some (.int (Int32.ofInt x6)), some (.int (Int32.ofInt x7)), some (.int y8), some (.int (Int32.ofInt x9))] [] M (fun v M2 => M = M2 ∧ R v) := by
  refine mE_iload c100_194 rfl ?_
  refine mE_iload c100_196 rfl ?_
  obtain ⟨g1, w⟩ := w.ogd
  refine mE_iadd c100_198 ?_
  refine mE_istore (ls2 := [some (.ref 142), some (.int y1), some (.int (Int32.ofInt x2)), some (.int (Int32.ofInt x3)), some (.int (Int32.ofInt (x4 + x9))), some (.int (Int32.ofInt x5)), some (.int (Int32.ofInt x6)), some (.int (Int32.ofInt x7)), some (.int y8), some (.int (Int32.ofInt x9))]) c100_199 (Nat.le_of_ble_eq_true rfl) rfl ?_
  exact t100_201 hx2 hx3 g1 hx5 hx6 hx7 w
noncomputable def lb100_88 (x2 : Int) (x3 : Int) (x4 : Int) (x5 : Int) (x6 : Int) (x7 : Int) (x8 : Int) (x9 : Int) (M : Mm) : Option ((Int × Int) ⊕ ((Int × Int × Int × Int) ⊕ (Int))) :=
  if x9 < (M 142 3) then
  ((f118 x6 x9 M).bind fun v3 =>
  if v3 = 0 then
  (if x8 = (-1) then
  (f100_130 x2 x3 x4 x5 x6 x7 x9 M)
  else
  (gd (0 ≤ x9 ∧ x9 < 8) (
  gd (0 ≤ x8 ∧ x8 < 8) (
  if (M 146 (x8).toNat) < (M 146 (x9).toNat) then
  (f100_130 x2 x3 x4 x5 x6 x7 x9 M)
  else
  (f100_134 x2 x3 x4 x5 x6 x7 x8 x9 M)))))
  else
  (f100_134 x2 x3 x4 x5 x6 x7 x8 x9 M))
  else
  (oinr (gd (R4 (36059 + x8)) (
  gd (0 ≤ (36059 + x8) ∧ (36059 + x8) < 36400) (
  gd (0 ≤ x8 ∧ x8 < 8) (
  (f118 x3 (M 158 (x8).toNat) M).bind fun v8 =>
  if v8 = 0 then
  (f100_194 x2 x3 x4 x5 (bOr x6 (bShl 1 x8)) x7 (M 144 ((36059 + x8)).toNat) M)
  else
  (gd (R4 (x5 + (M 144 ((36059 + x8)).toNat))) (
  if x2 < (x5 + (M 144 ((36059 + x8)).toNat)) then
  (f100_194 x2 x3 x4 x5 (bOr x6 (bShl 1 x8)) x7 (M 144 ((36059 + x8)).toNat) M)
  else
  (f100_201 x2 x3 x4 (x5 + (M 144 ((36059 + x8)).toNat)) (bOr x6 (bShl 1 x8)) x7 M))))))))
noncomputable def f100_88 (x2 : Int) (x3 : Int) (x4 : Int) (x5 : Int) (x6 : Int) (x7 : Int) (x8 : Int) (x9 : Int) (M : Mm) : Option ((Int × Int × Int × Int) ⊕ (Int)) := lp (fun s : Int × Int => lb100_88 x2 x3 x4 x5 x6 x7 s.1 s.2 M) (x8, x9)
theorem tb100_88 {X : Nat × Nat × qC} {d : Nat} {x2 : Int} {x3 : Int} {x4 : Int} {x5 : Int} {x6 : Int} {x7 : Int} {x8 : Int} {x9 : Int} {M : Mm} {y1 : Int32} {R : Int → Prop} (hx2 : R4 x2) (hx3 : R4 x3) (hx4 : R4 x4) (hx5 : R4 x5) (hx6 : R4 x6) (hx7 : R4 x7) (hx8 : R4 x8) (hx9 : R4 x9) (w : Wp (lb100_88 x2 x3 x4 x5 x6 x7 x8 x9 M) (Sum.elim (E100_88 X d x2 x3 x4 x5 x6 x7 M R) (Sum.elim (E100_73 X d x2 x3 M R) R))) : mE X (d + 1) 100 1 88 [some (.ref 142), some (.int y1), some (.int (Int32.ofInt x2)), some (.int (Int32.ofInt x3)), some (.int (Int32.ofInt x4)), some (.int (Int32.ofInt x5)), some (.int (Int32.ofInt x6)), some (.int (Int32.ofInt x7)), some (.int (Int32.ofInt x8)), some (.int (Int32.ofInt x9))] [] M (fun v M2 => M = M2 ∧ R v) := by
  refine mE_iload c100_88 rfl ?_
  refine mE_aload_n c100_90 rfl ?_
  refine mE_getI c100_91 qo100 qF12_186 (ok_lit rfl rfl rfl) rfl ?_
  intro u1
  by_cases e2 : x9 < (M 142 3)
  · have w := w.pos e2
    refine mE_icmp_ge_F (t := 140) c100_94 rfl hx9 u1 e2 ?_
    refine mE_iload c100_97 rfl ?_
    refine mE_iload c100_99 rfl ?_
    refine mE_static1 (as := [.int (Int32.ofInt x6), .int (Int32.ofInt x9)]) (r := []) c100_101 qo100 (by decide) qK12_248 rfl rfl rfl (Nat.le_of_ble_eq_true rfl) (s118 (d := d + 0) hx6 hx9 w.obind) ?_
    rintro v3 _ q5 ⟨rfl, w⟩
    by_cases e6 : v3 = 0
    · have w := w.pos e6
      refine mE_if_ne_F (t := 134) c100_104 rfl q5 e6 ?_
      refine mE_iload c100_107 rfl ?_
      refine mE_iconst c100_109 ?_
      by_cases e7 : x8 = (-1)
      · have w := w.pos e7
        refine mE_icmp_eq_T (t := 130) c100_110 rfl hx8 (r4_n rfl) e7 ?_
        exact t100_130 hx2 hx3 hx4 hx5 hx6 hx7 hx9 w
      · have w := w.neg e7
        refine mE_icmp_eq_F (t := 130) c100_110 rfl hx8 (r4_n rfl) e7 ?_
        refine mE_aload_n c100_113 rfl ?_
        refine mE_getA c100_114 qo100 qF12_21 (ok_lit rfl rfl rfl) rfl ⟨by decide, by decide⟩ ?_
        refine mE_iload c100_117 rfl ?_
        obtain ⟨g8, w⟩ := w.ogd
        refine mE_iaload c100_119 (ok_lit rfl rfl rfl) hx9 g8 ?_
        intro u9
        refine mE_aload_n c100_120 rfl ?_
        refine mE_getA c100_121 qo100 qF12_21 (ok_lit rfl rfl rfl) rfl ⟨by decide, by decide⟩ ?_
        refine mE_iload c100_124 rfl ?_
        obtain ⟨g10, w⟩ := w.ogd
        refine mE_iaload c100_126 (ok_lit rfl rfl rfl) hx8 g10 ?_
        intro u11
        by_cases e12 : (M 146 (x8).toNat) < (M 146 (x9).toNat)
        · have w := w.pos e12
          refine mE_icmp_le_F (t := 134) c100_127 rfl u9 u11 e12 ?_
          exact t100_130 hx2 hx3 hx4 hx5 hx6 hx7 hx9 w
        · have w := w.neg e12
          refine mE_icmp_le_T (t := 134) c100_127 rfl u9 u11 e12 ?_
          exact t100_134 hx2 hx3 hx4 hx5 hx6 hx7 hx8 hx9 w
    · have w := w.neg e6
      refine mE_if_ne_T (t := 134) c100_104 rfl q5 e6 ?_
      exact t100_134 hx2 hx3 hx4 hx5 hx6 hx7 hx8 hx9 w
  · have w := w.neg e2
    refine mE_icmp_ge_T (t := 140) c100_94 rfl hx9 u1 e2 ?_
    have w := w.oinr
    refine mE_iload c100_140 rfl ?_
    refine mE_iconst c100_142 ?_
    refine mE_iload c100_143 rfl ?_
    refine mE_ishl c100_145 ?_
    refine mE_ior c100_146 ?_
    refine mE_istore (ls2 := [some (.ref 142), some (.int y1), some (.int (Int32.ofInt x2)), some (.int (Int32.ofInt x3)), some (.int (Int32.ofInt x4)), some (.int (Int32.ofInt x5)), some (.int (Int32.ofInt (bOr x6 (bShl 1 x8)))), some (.int (Int32.ofInt x7)), some (.int (Int32.ofInt x8)), some (.int (Int32.ofInt x9))]) c100_147 (Nat.le_of_ble_eq_true rfl) rfl ?_
    refine mE_aload_n c100_149 rfl ?_
    refine mE_getA c100_150 qo100 qF12_14 (ok_lit rfl rfl rfl) rfl ⟨by decide, by decide⟩ ?_
    refine mE_ldc (x := 36059) c100_153 qo100 qI12_213 rfl ?_
    refine mE_iload c100_155 rfl ?_
    obtain ⟨g3, w⟩ := w.ogd
    refine mE_iadd c100_157 ?_
    obtain ⟨g4, w⟩ := w.ogd
    refine mE_iaload c100_158 (ok_lit rfl rfl rfl) g3 g4 ?_
    intro u5
    refine mE_istore (ls2 := [some (.ref 142), some (.int y1), some (.int (Int32.ofInt x2)), some (.int (Int32.ofInt x3)), some (.int (Int32.ofInt x4)), some (.int (Int32.ofInt x5)), some (.int (Int32.ofInt (bOr x6 (bShl 1 x8)))), some (.int (Int32.ofInt x7)), some (.int (Int32.ofInt x8)), some (.int (Int32.ofInt (M 144 ((36059 + x8)).toNat)))]) c100_159 (Nat.le_of_ble_eq_true rfl) rfl ?_
    refine mE_iload_n c100_161 rfl ?_
    refine mE_aload_n c100_162 rfl ?_
    refine mE_getA c100_163 qo100 qF12_58 (ok_lit rfl rfl rfl) rfl ⟨by decide, by decide⟩ ?_
    refine mE_iload c100_166 rfl ?_
    obtain ⟨g6, w⟩ := w.ogd
    refine mE_iaload c100_168 (ok_lit rfl rfl rfl) hx8 g6 ?_
    intro u7
    refine mE_static1 (as := [.int (Int32.ofInt x3), .int (Int32.ofInt (M 158 (x8).toNat))]) (r := []) c100_169 qo100 (by decide) qK12_248 rfl rfl rfl (Nat.le_of_ble_eq_true rfl) (s118 (d := d + 0) hx3 u7 w.obind) ?_
    rintro v8 _ q10 ⟨rfl, w⟩
    by_cases e11 : v8 = 0
    · have w := w.pos e11
      refine mE_if_eq_T (t := 194) c100_172 rfl q10 e11 ?_
      exact t100_194 hx2 hx3 hx4 hx5 (r4_or _ _) hx7 u5 w
    · have w := w.neg e11
      refine mE_if_eq_F (t := 194) c100_172 rfl q10 e11 ?_
      refine mE_iload c100_175 rfl ?_
      refine mE_iload c100_177 rfl ?_
      obtain ⟨g12, w⟩ := w.ogd
      refine mE_iadd c100_179 ?_
      refine mE_iload_n c100_180 rfl ?_
      by_cases e13 : x2 < (x5 + (M 144 ((36059 + x8)).toNat))
      · have w := w.pos e13
        refine mE_icmp_gt_T (t := 194) c100_181 rfl g12 hx2 e13 ?_
        exact t100_194 hx2 hx3 hx4 hx5 (r4_or _ _) hx7 u5 w
      · have w := w.neg e13
        refine mE_icmp_gt_F (t := 194) c100_181 rfl g12 hx2 e13 ?_
        refine mE_iload c100_184 rfl ?_
        refine mE_iload c100_186 rfl ?_
        refine mE_iadd c100_188 ?_
        refine mE_istore (ls2 := [some (.ref 142), some (.int y1), some (.int (Int32.ofInt x2)), some (.int (Int32.ofInt x3)), some (.int (Int32.ofInt x4)), some (.int (Int32.ofInt (x5 + (M 144 ((36059 + x8)).toNat)))), some (.int (Int32.ofInt (bOr x6 (bShl 1 x8)))), some (.int (Int32.ofInt x7)), some (.int (Int32.ofInt x8)), some (.int (Int32.ofInt (M 144 ((36059 + x8)).toNat)))]) c100_189 (Nat.le_of_ble_eq_true rfl) rfl ?_
        refine mE_goto (t := 201) c100_191 rfl ?_
        exact t100_201 hx2 hx3 hx4 g12 (r4_or _ _) hx7 w
theorem t100_88 {X : Nat × Nat × qC} {d : Nat} {x2 : Int} {x3 : Int} {x4 : Int} {x5 : Int} {x6 : Int} {x7 : Int} {x8 : Int} {x9 : Int} {M : Mm} {y1 : Int32} {R : Int → Prop} (hx2 : R4 x2) (hx3 : R4 x3) (hx4 : R4 x4) (hx5 : R4 x5) (hx6 : R4 x6) (hx7 : R4 x7) (hx8 : R4 x8) (hx9 : R4 x9) (w : Wp (f100_88 x2 x3 x4 x5 x6 x7 x8 x9 M) (Sum.elim (E100_73 X d x2 x3 M R) R)) : mE X (d + 1) 100 1 88 [some (.ref 142), some (.int y1), some (.int (Int32.ofInt x2)), some (.int (Int32.ofInt x3)), some (.int (Int32.ofInt x4)), some (.int (Int32.ofInt x5)), some (.int (Int32.ofInt x6)), some (.int (Int32.ofInt x7)), some (.int (Int32.ofInt x8)), some (.int (Int32.ofInt x9))] [] M (fun v M2 => M = M2 ∧ R v) :=
  Wp.olp (f := fun s : Int × Int => lb100_88 x2 x3 x4 x5 x6 x7 s.1 s.2 M) (s := (x8, x9)) (E := E100_88 X d x2 x3 x4 x5 x6 x7 M R) w (fun s w hx8 hx9 _ => tb100_88 hx2 hx3 hx4 hx5 hx6 hx7 hx8 hx9 w) hx8 hx9 _
noncomputable def lb100_73 (x2 : Int) (x3 : Int) (x4 : Int) (x5 : Int) (x6 : Int) (x7 : Int) (M : Mm) : Option ((Int × Int × Int × Int) ⊕ (Int)) :=
  if x7 < (M 142 3) then
  (f100_88 x2 x3 x4 x5 x6 x7 (-1) 0 M)
  else
  (oinr (some x4))
noncomputable def f100_73 (x2 : Int) (x3 : Int) (x4 : Int) (x5 : Int) (x6 : Int) (x7 : Int) (M : Mm) : Option (Int) := lp (fun s : Int × Int × Int × Int => lb100_73 x2 x3 s.1 s.2.1 s.2.2.1 s.2.2.2 M) (x4, x5, x6, x7)
theorem tb100_73 {X : Nat × Nat × qC} {d : Nat} {x2 : Int} {x3 : Int} {x4 : Int} {x5 : Int} {x6 : Int} {x7 : Int} {M : Mm} {y1 : Int32} {o8 : Option Value} {o9 : Option Value} {R : Int → Prop} (hx2 : R4 x2) (hx3 : R4 x3) (hx4 : R4 x4) (hx5 : R4 x5) (hx6 : R4 x6) (hx7 : R4 x7) (w : Wp (lb100_73 x2 x3 x4 x5 x6 x7 M) (Sum.elim (E100_73 X d x2 x3 M R) R)) : mE X (d + 1) 100 1 73 [some (.ref 142), some (.int y1), some (.int (Int32.ofInt x2)), some (.int (Int32.ofInt x3)), some (.int (Int32.ofInt x4)), some (.int (Int32.ofInt x5)), some (.int (Int32.ofInt x6)), some (.int (Int32.ofInt x7)), o8, o9] [] M (fun v M2 => M = M2 ∧ R v) := by
  refine mE_iload c100_73 rfl ?_
  refine mE_aload_n c100_75 rfl ?_
  refine mE_getI c100_76 qo100 qF12_186 (ok_lit rfl rfl rfl) rfl ?_
  intro u1
  by_cases e2 : x7 < (M 142 3)
  · have w := w.pos e2
    refine mE_icmp_ge_F (t := 207) c100_79 rfl hx7 u1 e2 ?_
    refine mE_iconst c100_82 ?_
    refine mE_istore (ls2 := [some (.ref 142), some (.int y1), some (.int (Int32.ofInt x2)), some (.int (Int32.ofInt x3)), some (.int (Int32.ofInt x4)), some (.int (Int32.ofInt x5)), some (.int (Int32.ofInt x6)), some (.int (Int32.ofInt x7)), some (.int (Int32.ofInt (-1))), o9]) c100_83 (Nat.le_of_ble_eq_true rfl) rfl ?_
    refine mE_iconst c100_85 ?_
    refine mE_istore (ls2 := [some (.ref 142), some (.int y1), some (.int (Int32.ofInt x2)), some (.int (Int32.ofInt x3)), some (.int (Int32.ofInt x4)), some (.int (Int32.ofInt x5)), some (.int (Int32.ofInt x6)), some (.int (Int32.ofInt x7)), some (.int (Int32.ofInt (-1))), some (.int (Int32.ofInt 0))]) c100_86 (Nat.le_of_ble_eq_true rfl) rfl ?_
    exact t100_88 hx2 hx3 hx4 hx5 hx6 hx7 (r4_n rfl) (r4_n rfl) w
  · have w := w.neg e2
    refine mE_icmp_ge_T (t := 207) c100_79 rfl hx7 u1 e2 ?_
    have w := w.oinr
    refine mE_iload c100_207 rfl ?_
    exact mE_iret c100_209 qr100 hx4 ⟨rfl, w.osome⟩
theorem t100_73 {X : Nat × Nat × qC} {d : Nat} {x2 : Int} {x3 : Int} {x4 : Int} {x5 : Int} {x6 : Int} {x7 : Int} {M : Mm} {y1 : Int32} {o8 : Option Value} {o9 : Option Value} {R : Int → Prop} (hx2 : R4 x2) (hx3 : R4 x3) (hx4 : R4 x4) (hx5 : R4 x5) (hx6 : R4 x6) (hx7 : R4 x7) (w : Wp (f100_73 x2 x3 x4 x5 x6 x7 M) R) : mE X (d + 1) 100 1 73 [some (.ref 142), some (.int y1), some (.int (Int32.ofInt x2)), some (.int (Int32.ofInt x3)), some (.int (Int32.ofInt x4)), some (.int (Int32.ofInt x5)), some (.int (Int32.ofInt x6)), some (.int (Int32.ofInt x7)), o8, o9] [] M (fun v M2 => M = M2 ∧ R v) :=
  Wp.olp (f := fun s : Int × Int × Int × Int => lb100_73 x2 x3 s.1 s.2.1 s.2.2.1 s.2.2.2 M) (s := (x4, x5, x6, x7)) (E := E100_73 X d x2 x3 M R) w (fun s w hx4 hx5 hx6 hx7 _ _ _ => tb100_73 hx2 hx3 hx4 hx5 hx6 hx7 w) hx4 hx5 hx6 hx7 _ _ _
noncomputable def lb100_7 (x1 : Int) (x2 : Int) (x3 : Int) (x4 : Int) (M : Mm) : Option ((Int × Int × Int) ⊕ (Int)) :=
  if x4 < (M 142 5) then
  ((f118 x1 x4 M).bind fun v3 =>
  if v3 = 0 then
  (f100_55 x1 x2 x3 x4 M)
  else
  (gd (0 ≤ x4 ∧ x4 < 9) (
  gd (R4 (x2 + (M 154 (x4).toNat))) (
  gd (0 ≤ (M 153 (x4).toNat) ∧ (M 153 (x4).toNat) < 8) (
  f100_55 x1 (x2 + (M 154 (x4).toNat)) (bOr x3 (bShl 1 (M 158 ((M 153 (x4).toNat)).toNat))) x4 M)))))
  else
  (oinr (f100_73 x2 x3 0 0 0 0 M))
noncomputable def f100_7 (x1 : Int) (x2 : Int) (x3 : Int) (x4 : Int) (M : Mm) : Option (Int) := lp (fun s : Int × Int × Int => lb100_7 x1 s.1 s.2.1 s.2.2 M) (x2, x3, x4)
theorem tb100_7 {X : Nat × Nat × qC} {d : Nat} {x1 : Int} {x2 : Int} {x3 : Int} {x4 : Int} {M : Mm}  {R : Int → Prop} (hx1 : R4 x1) (hx2 : R4 x2) (hx3 : R4 x3) (hx4 : R4 x4) (w : Wp (lb100_7 x1 x2 x3 x4 M) (Sum.elim (E100_7 X d x1 M R) R)) : mE X (d + 1) 100 1 7 [some (.ref 142), some (.int (Int32.ofInt x1)), some (.int (Int32.ofInt x2)), some (.int (Int32.ofInt x3)), some (.int (Int32.ofInt x4)), none, none, none, none, none] [] M (fun v M2 => M = M2 ∧ R v) := by
  refine mE_iload c100_7 rfl ?_
  refine mE_aload_n c100_9 rfl ?_
  refine mE_getI c100_10 qo100 qF12_197 (ok_lit rfl rfl rfl) rfl ?_
  intro u1
  by_cases e2 : x4 < (M 142 5)
  · have w := w.pos e2
    refine mE_icmp_ge_F (t := 61) c100_13 rfl hx4 u1 e2 ?_
    refine mE_iload_n c100_16 rfl ?_
    refine mE_iload c100_17 rfl ?_
    refine mE_static1 (as := [.int (Int32.ofInt x1), .int (Int32.ofInt x4)]) (r := []) c100_19 qo100 (by decide) qK12_248 rfl rfl rfl (Nat.le_of_ble_eq_true rfl) (s118 (d := d + 0) hx1 hx4 w.obind) ?_
    rintro v3 _ q5 ⟨rfl, w⟩
    by_cases e6 : v3 = 0
    · have w := w.pos e6
      refine mE_if_ne_F (t := 28) c100_22 rfl q5 e6 ?_
      refine mE_goto (t := 55) c100_25 rfl ?_
      exact t100_55 hx1 hx2 hx3 hx4 w
    · have w := w.neg e6
      refine mE_if_ne_T (t := 28) c100_22 rfl q5 e6 ?_
      refine mE_iload_n c100_28 rfl ?_
      refine mE_aload_n c100_29 rfl ?_
      refine mE_getA c100_30 qo100 qF12_45 (ok_lit rfl rfl rfl) rfl ⟨by decide, by decide⟩ ?_
      refine mE_iload c100_33 rfl ?_
      obtain ⟨g7, w⟩ := w.ogd
      refine mE_iaload c100_35 (ok_lit rfl rfl rfl) hx4 g7 ?_
      intro u8
      obtain ⟨g9, w⟩ := w.ogd
      refine mE_iadd c100_36 ?_
      refine mE_istore_n (ls2 := [some (.ref 142), some (.int (Int32.ofInt x1)), some (.int (Int32.ofInt (x2 + (M 154 (x4).toNat)))), some (.int (Int32.ofInt x3)), some (.int (Int32.ofInt x4)), none, none, none, none, none]) c100_37 (Nat.le_of_ble_eq_true rfl) rfl ?_
      refine mE_iload_n c100_38 rfl ?_
      refine mE_iconst c100_39 ?_
      refine mE_aload_n c100_40 rfl ?_
      refine mE_getA c100_41 qo100 qF12_58 (ok_lit rfl rfl rfl) rfl ⟨by decide, by decide⟩ ?_
      refine mE_aload_n c100_44 rfl ?_
      refine mE_getA c100_45 qo100 qF12_42 (ok_lit rfl rfl rfl) rfl ⟨by decide, by decide⟩ ?_
      refine mE_iload c100_48 rfl ?_
      refine mE_iaload c100_50 (ok_lit rfl rfl rfl) hx4 g7 ?_
      intro u10
      obtain ⟨g11, w⟩ := w.ogd
      refine mE_iaload c100_51 (ok_lit rfl rfl rfl) u10 g11 ?_
      intro u12
      refine mE_ishl c100_52 ?_
      refine mE_ior c100_53 ?_
      refine mE_istore_n (ls2 := [some (.ref 142), some (.int (Int32.ofInt x1)), some (.int (Int32.ofInt (x2 + (M 154 (x4).toNat)))), some (.int (Int32.ofInt (bOr x3 (bShl 1 (M 158 ((M 153 (x4).toNat)).toNat))))), some (.int (Int32.ofInt x4)), none, none, none, none, none]) c100_54 (Nat.le_of_ble_eq_true rfl) rfl ?_
      exact t100_55 hx1 g9 (r4_or _ _) hx4 w
  · have w := w.neg e2
    refine mE_icmp_ge_T (t := 61) c100_13 rfl hx4 u1 e2 ?_
    have w := w.oinr
    refine mE_iconst c100_61 ?_
    refine mE_istore (ls2 := [some (.ref 142), some (.int (Int32.ofInt x1)), some (.int (Int32.ofInt x2)), some (.int (Int32.ofInt x3)), some (.int (Int32.ofInt 0)), none, none, none, none, none]) c100_62 (Nat.le_of_ble_eq_true rfl) rfl ?_
    refine mE_iconst c100_64 ?_
    refine mE_istore (ls2 := [some (.ref 142), some (.int (Int32.ofInt x1)), some (.int (Int32.ofInt x2)), some (.int (Int32.ofInt x3)), some (.int (Int32.ofInt 0)), some (.int (Int32.ofInt 0)), none, none, none, none]) c100_65 (Nat.le_of_ble_eq_true rfl) rfl ?_
    refine mE_iconst c100_67 ?_
    refine mE_istore (ls2 := [some (.ref 142), some (.int (Int32.ofInt x1)), some (.int (Int32.ofInt x2)), some (.int (Int32.ofInt x3)), some (.int (Int32.ofInt 0)), some (.int (Int32.ofInt 0)), some (.int (Int32.ofInt 0)), none, none, none]) c100_68 (Nat.le_of_ble_eq_true rfl) rfl ?_
    refine mE_iconst c100_70 ?_
    refine mE_istore (ls2 := [some (.ref 142), some (.int (Int32.ofInt x1)), some (.int (Int32.ofInt x2)), some (.int (Int32.ofInt x3)), some (.int (Int32.ofInt 0)), some (.int (Int32.ofInt 0)), some (.int (Int32.ofInt 0)), some (.int (Int32.ofInt 0)), none, none]) c100_71 (Nat.le_of_ble_eq_true rfl) rfl ?_
    exact t100_73 hx2 hx3 (r4_n rfl) (r4_n rfl) (r4_n rfl) (r4_n rfl) w
theorem t100_7 {X : Nat × Nat × qC} {d : Nat} {x1 : Int} {x2 : Int} {x3 : Int} {x4 : Int} {M : Mm}  {R : Int → Prop} (hx1 : R4 x1) (hx2 : R4 x2) (hx3 : R4 x3) (hx4 : R4 x4) (w : Wp (f100_7 x1 x2 x3 x4 M) R) : mE X (d + 1) 100 1 7 [some (.ref 142), some (.int (Int32.ofInt x1)), some (.int (Int32.ofInt x2)), some (.int (Int32.ofInt x3)), some (.int (Int32.ofInt x4)), none, none, none, none, none] [] M (fun v M2 => M = M2 ∧ R v) :=
  Wp.olp (f := fun s : Int × Int × Int => lb100_7 x1 s.1 s.2.1 s.2.2 M) (s := (x2, x3, x4)) (E := E100_7 X d x1 M R) w (fun s w hx2 hx3 hx4 => tb100_7 hx1 hx2 hx3 hx4 w) hx2 hx3 hx4
noncomputable def f100 (x1 : Int) (M : Mm) : Option (Int) :=
  f100_7 x1 0 0 0 M
theorem t100 {X : Nat × Nat × qC} {d : Nat} {x1 : Int} {M : Mm}  {R : Int → Prop} (hx1 : R4 x1) (w : Wp (f100 x1 M) R) : mE X (d + 1) 100 1 0 [some (.ref 142), some (.int (Int32.ofInt x1)), none, none, none, none, none, none, none, none] [] M (fun v M2 => M = M2 ∧ R v) := by
  refine mE_iconst c100_0 ?_
  refine mE_istore_n (ls2 := [some (.ref 142), some (.int (Int32.ofInt x1)), some (.int (Int32.ofInt 0)), none, none, none, none, none, none, none]) c100_1 (Nat.le_of_ble_eq_true rfl) rfl ?_
  refine mE_iconst c100_2 ?_
  refine mE_istore_n (ls2 := [some (.ref 142), some (.int (Int32.ofInt x1)), some (.int (Int32.ofInt 0)), some (.int (Int32.ofInt 0)), none, none, none, none, none, none]) c100_3 (Nat.le_of_ble_eq_true rfl) rfl ?_
  refine mE_iconst c100_4 ?_
  refine mE_istore (ls2 := [some (.ref 142), some (.int (Int32.ofInt x1)), some (.int (Int32.ofInt 0)), some (.int (Int32.ofInt 0)), some (.int (Int32.ofInt 0)), none, none, none, none, none]) c100_5 (Nat.le_of_ble_eq_true rfl) rfl ?_
  exact t100_7 hx1 (r4_n rfl) (r4_n rfl) (r4_n rfl) w
theorem s100 {X : Nat × Nat × qC} {d : Nat} {x1 : Int} {M : Mm} {R : Int → Prop} (hx1 : R4 x1) (w : Wp (f100 x1 M) R) : mC X (d + 2) 100 1 [.ref 142, .int (Int32.ofInt x1)] M (fun v M2 => M = M2 ∧ R v) :=
  mC_of (qent_mk qx100 rfl rfl rfl) (t100 hx1 w)
/-! SaggingNetModel.darkWith -/
noncomputable def f101 (x1 : Int) (x2 : Int) (M : Mm) : Option (Int) :=
  gd (0 ≤ (bOr x1 (bShl 1 x2)) ∧ (bOr x1 (bShl 1 x2)) < 512) (
  if (M 198 ((bOr x1 (bShl 1 x2))).toNat) < 0 then
  (some (-1))
  else
  ((f88 x2 x1 M).bind fun v4 =>
  if v4 = 0 then
  (some (-1))
  else
  (gd (0 ≤ x2 ∧ x2 < 9) (
  (f100 x1 M).bind fun v10 =>
  gd (R8 ((M 157 (x2).toNat) * v10)) (
  gd (R8 ((M 198 ((bOr x1 (bShl 1 x2))).toNat) + ((M 157 (x2).toNat) * v10))) (
  some ((M 198 ((bOr x1 (bShl 1 x2))).toNat) + ((M 157 (x2).toNat) * v10))))))))
theorem t101 {X : Nat × Nat × qC} {d : Nat} {x1 : Int} {x2 : Int} {M : Mm}  {R : Int → Prop} (hx1 : R4 x1) (hx2 : R4 x2) (w : Wp (f101 x1 x2 M) R) : mE X (d + 2) 101 2 0 [some (.ref 142), some (.int (Int32.ofInt x1)), some (.int (Int32.ofInt x2)), none, none] [] M (fun v M2 => M = M2 ∧ R v) := by
  refine mE_aload_n c101_0 rfl ?_
  refine mE_getA c101_1 qo101 qF12_179 (ok_lit rfl rfl rfl) rfl ⟨by decide, by decide⟩ ?_
  refine mE_iload_n c101_4 rfl ?_
  refine mE_iconst c101_5 ?_
  refine mE_iload_n c101_6 rfl ?_
  refine mE_ishl c101_7 ?_
  refine mE_ior c101_8 ?_
  obtain ⟨g1, w⟩ := w.ogd
  refine mE_laload c101_9 (ok_lit rfl rfl rfl) (r4_or _ _) g1 ?_
  intro u2
  refine mE_lstore_n (ls2 := [some (.ref 142), some (.int (Int32.ofInt x1)), some (.int (Int32.ofInt x2)), some (.long (Int64.ofInt (M 198 ((bOr x1 (bShl 1 x2))).toNat))), none]) c101_10 (Nat.le_of_ble_eq_true rfl) rfl ?_
  refine mE_lload_n c101_11 rfl ?_
  refine mE_lconst (x := 0) c101_12 rfl ?_
  by_cases e3 : (M 198 ((bOr x1 (bShl 1 x2))).toNat) < 0
  · have w := w.pos e3
    refine mE_lcmp_lt_T (t := 26) c101_13 c101_14 rfl u2 (r8_n rfl) e3 ?_
    refine mE_ldc2_w (x := (-1)) c101_26 qo101 qJ12_482 rfl ?_
    refine mE_goto (t := 48) c101_29 rfl ?_
    exact mE_lret c101_48 qr101 (r8_n rfl) ⟨rfl, w.osome⟩
  · have w := w.neg e3
    refine mE_lcmp_lt_F (t := 26) c101_13 c101_14 rfl u2 (r8_n rfl) e3 ?_
    refine mE_aload_n c101_17 rfl ?_
    refine mE_iload_n c101_18 rfl ?_
    refine mE_iload_n c101_19 rfl ?_
    refine mE_virtual1 (b := 142) (as := [.int (Int32.ofInt x2), .int (Int32.ofInt x1)]) (r := []) c101_20 qo101 qK12_524 qo88 rfl rfl rfl (ok_lit rfl rfl rfl) (Nat.le_of_ble_eq_true rfl) (s88 (d := d + 0) hx2 hx1 w.obind) ?_
    rintro v4 _ q6 ⟨rfl, w⟩
    by_cases e7 : v4 = 0
    · have w := w.pos e7
      refine mE_if_ne_F (t := 32) c101_23 rfl q6 e7 ?_
      refine mE_ldc2_w (x := (-1)) c101_26 qo101 qJ12_482 rfl ?_
      refine mE_goto (t := 48) c101_29 rfl ?_
      exact mE_lret c101_48 qr101 (r8_n rfl) ⟨rfl, w.osome⟩
    · have w := w.neg e7
      refine mE_if_ne_T (t := 32) c101_23 rfl q6 e7 ?_
      refine mE_lload_n c101_32 rfl ?_
      refine mE_aload_n c101_33 rfl ?_
      refine mE_getA c101_34 qo101 qF12_55 (ok_lit rfl rfl rfl) rfl ⟨by decide, by decide⟩ ?_
      refine mE_iload_n c101_37 rfl ?_
      obtain ⟨g8, w⟩ := w.ogd
      refine mE_iaload c101_38 (ok_lit rfl rfl rfl) hx2 g8 ?_
      intro u9
      refine mE_i2l c101_39 u9 ?_
      refine mE_aload_n c101_40 rfl ?_
      refine mE_iload_n c101_41 rfl ?_
      refine mE_virtual1 (b := 142) (as := [.int (Int32.ofInt x1)]) (r := [.long (Int64.ofInt (M 157 (x2).toNat)), .long (Int64.ofInt (M 198 ((bOr x1 (bShl 1 x2))).toNat))]) c101_42 qo101 qK12_527 qo100 rfl rfl rfl (ok_lit rfl rfl rfl) (Nat.le_of_ble_eq_true rfl) (s100 (d := d + 0) hx1 w.obind) ?_
      rintro v10 _ q12 ⟨rfl, w⟩
      refine mE_i2l c101_45 q12 ?_
      obtain ⟨g13, w⟩ := w.ogd
      refine mE_lmul c101_46 ?_
      obtain ⟨g14, w⟩ := w.ogd
      refine mE_ladd c101_47 ?_
      exact mE_lret c101_48 qr101 g14 ⟨rfl, w.osome⟩
theorem s101 {X : Nat × Nat × qC} {d : Nat} {x1 : Int} {x2 : Int} {M : Mm} {R : Int → Prop} (hx1 : R4 x1) (hx2 : R4 x2) (w : Wp (f101 x1 x2 M) R) : mC X (d + 3) 101 2 [.ref 142, .int (Int32.ofInt x1), .int (Int32.ofInt x2)] M (fun v M2 => M = M2 ∧ R v) :=
  mC_of (qent_mk qx101 rfl rfl rfl) (t101 hx1 hx2 w)
/-! SaggingNetModel.again -/
def E83_200 (X : Nat × Nat × qC) (d : Nat) (x1 : Int) (x3 : Int) (x5 : Int) (M : Mm) (R : Int × Mm → Prop) : Int → Prop := fun s => R4 s → ∀ (y2 : Int32), mE X (d + 3) 83 2 200 [some (.ref 142), some (.int (Int32.ofInt x1)), some (.int y2), some (.int (Int32.ofInt x3)), some (.int (Int32.ofInt s)), some (.int (Int32.ofInt x5)), none] [] M (fun v M2 => R (v, M2))
def E83_191 (X : Nat × Nat × qC) (d : Nat) (x1 : Int) (M : Mm) (R : Int × Mm → Prop) : Int × Int × Int → Prop := fun s => R4 s.1 → R4 s.2.1 → R4 s.2.2 → ∀ (y2 : Int32), mE X (d + 3) 83 2 191 [some (.ref 142), some (.int (Int32.ofInt x1)), some (.int y2), some (.int (Int32.ofInt s.1)), some (.int (Int32.ofInt s.2.1)), some (.int (Int32.ofInt s.2.2)), none] [] M (fun v M2 => R (v, M2))
def E83_76 (X : Nat × Nat × qC) (d : Nat) (x1 : Int) (x3 : Int) (R : Int × Mm → Prop) : Int × Mm → Prop := fun s => R4 s.1 → ∀ (y2 : Int32), ∀ (o5 : Option Value), mE X (d + 3) 83 2 76 [some (.ref 142), some (.int (Int32.ofInt x1)), some (.int y2), some (.int (Int32.ofInt x3)), some (.int (Int32.ofInt s.1)), o5, none] [] s.2 (fun v M2 => R (v, M2))
def E83_60 (X : Nat × Nat × qC) (d : Nat) (x1 : Int) (R : Int × Mm → Prop) : Int × Mm → Prop := fun s => R4 s.1 → ∀ (y2 : Int32), ∀ (o4 : Option Value), ∀ (o5 : Option Value), mE X (d + 3) 83 2 60 [some (.ref 142), some (.int (Int32.ofInt x1)), some (.int y2), some (.int (Int32.ofInt s.1)), o4, o5, none] [] s.2 (fun v M2 => R (v, M2))
noncomputable def f83_226 (x1 : Int) (x3 : Int) (x4 : Int) (x5 : Int) (M : Mm) : Option ((Int) ⊕ ((Int × Int × Int) ⊕ (Int × Mm))) :=
  gd (R4 (x4 + 1)) (
  some (.inl ((x4 + 1))))
theorem t83_226 {X : Nat × Nat × qC} {d : Nat} {x1 : Int} {x3 : Int} {x4 : Int} {x5 : Int} {M : Mm} {y2 : Int32} {R : Int × Mm → Prop} (hx1 : R4 x1) (hx3 : R4 x3) (hx4 : R4 x4) (hx5 : R4 x5) (w : Wp (f83_226 x1 x3 x4 x5 M) (Sum.elim (E83_200 X d x1 x3 x5 M R) (Sum.elim (E83_191 X d x1 M R) R))) : mE X (d + 3) 83 2 226 [some (.ref 142), some (.int (Int32.ofInt x1)), some (.int y2), some (.int (Int32.ofInt x3)), some (.int (Int32.ofInt x4)), some (.int (Int32.ofInt x5)), none] [] M (fun v M2 => R (v, M2)) := by
  obtain ⟨g1, w⟩ := w.ogd
  refine mE_iinc (ls2 := [some (.ref 142), some (.int (Int32.ofInt x1)), some (.int y2), some (.int (Int32.ofInt x3)), some (.int (Int32.ofInt (x4 + 1))), some (.int (Int32.ofInt x5)), none]) c83_226 rfl (Nat.le_of_ble_eq_true rfl) rfl ?_
  refine mE_goto (t := 200) c83_229 rfl ?_
  exact w.osome g1 _
noncomputable def lb83_200 (x1 : Int) (x3 : Int) (x5 : Int) (x4 : Int) (M : Mm) : Option ((Int) ⊕ ((Int × Int × Int) ⊕ (Int × Mm))) :=
  (f118 x3 x4 M).bind fun v1 =>
  if v1 = 0 then
  ((f101 x3 x4 M).bind fun v5 =>
  gd (0 ≤ x3 ∧ x3 < 512) (
  if v5 = (M 198 (x3).toNat) then
  (oinr (gd (R4 (x5 + 1)) (
  some (.inl ((bOr x3 (bShl 1 x4)), x4, (x5 + 1))))))
  else
  (f83_226 x1 x3 x4 x5 M)))
  else
  (f83_226 x1 x3 x4 x5 M)
noncomputable def f83_200 (x1 : Int) (x3 : Int) (x5 : Int) (x4 : Int) (M : Mm) : Option ((Int × Int × Int) ⊕ (Int × Mm)) := lp (fun s : Int => lb83_200 x1 x3 x5 s M) x4
theorem tb83_200 {X : Nat × Nat × qC} {d : Nat} {x1 : Int} {x3 : Int} {x5 : Int} {x4 : Int} {M : Mm} {y2 : Int32} {R : Int × Mm → Prop} (hx1 : R4 x1) (hx3 : R4 x3) (hx5 : R4 x5) (hx4 : R4 x4) (w : Wp (lb83_200 x1 x3 x5 x4 M) (Sum.elim (E83_200 X d x1 x3 x5 M R) (Sum.elim (E83_191 X d x1 M R) R))) : mE X (d + 3) 83 2 200 [some (.ref 142), some (.int (Int32.ofInt x1)), some (.int y2), some (.int (Int32.ofInt x3)), some (.int (Int32.ofInt x4)), some (.int (Int32.ofInt x5)), none] [] M (fun v M2 => R (v, M2)) := by
  refine mE_iload_n c83_200 rfl ?_
  refine mE_iload c83_201 rfl ?_
  refine mE_static1 (as := [.int (Int32.ofInt x3), .int (Int32.ofInt x4)]) (r := []) c83_203 qo83 (by decide) qK12_248 rfl rfl rfl (Nat.le_of_ble_eq_true rfl) (s118 (d := d + 2) hx3 hx4 w.obind) ?_
  rintro v1 _ q3 ⟨rfl, w⟩
  by_cases e4 : v1 = 0
  · have w := w.pos e4
    refine mE_if_ne_F (t := 226) c83_206 rfl q3 e4 ?_
    refine mE_aload_n c83_209 rfl ?_
    refine mE_iload_n c83_210 rfl ?_
    refine mE_iload c83_211 rfl ?_
    refine mE_virtual2 (b := 142) (as := [.int (Int32.ofInt x3), .int (Int32.ofInt x4)]) (r := []) c83_213 qo83 qK12_532 qo101 rfl rfl rfl (ok_lit rfl rfl rfl) (Nat.le_of_ble_eq_true rfl) (s101 (d := d + 0) hx3 hx4 w.obind) ?_
    rintro v5 _ q7 ⟨rfl, w⟩
    refine mE_aload_n c83_216 rfl ?_
    refine mE_getA c83_217 qo83 qF12_179 (ok_lit rfl rfl rfl) rfl ⟨by decide, by decide⟩ ?_
    refine mE_iload_n c83_220 rfl ?_
    obtain ⟨g8, w⟩ := w.ogd
    refine mE_laload c83_221 (ok_lit rfl rfl rfl) hx3 g8 ?_
    intro u9
    by_cases e10 : v5 = (M 198 (x3).toNat)
    · have w := w.pos e10
      refine mE_lcmp_eq_T (t := 232) c83_222 c83_223 rfl q7 u9 e10 ?_
      have w := w.oinr
      refine mE_iload_n c83_232 rfl ?_
      refine mE_iconst c83_233 ?_
      refine mE_iload c83_234 rfl ?_
      refine mE_ishl c83_236 ?_
      refine mE_ior c83_237 ?_
      refine mE_istore_n (ls2 := [some (.ref 142), some (.int (Int32.ofInt x1)), some (.int y2), some (.int (Int32.ofInt (bOr x3 (bShl 1 x4)))), some (.int (Int32.ofInt x4)), some (.int (Int32.ofInt x5)), none]) c83_238 (Nat.le_of_ble_eq_true rfl) rfl ?_
      obtain ⟨g11, w⟩ := w.ogd
      refine mE_iinc (ls2 := [some (.ref 142), some (.int (Int32.ofInt x1)), some (.int y2), some (.int (Int32.ofInt (bOr x3 (bShl 1 x4)))), some (.int (Int32.ofInt x4)), some (.int (Int32.ofInt (x5 + 1))), none]) c83_239 rfl (Nat.le_of_ble_eq_true rfl) rfl ?_
      refine mE_goto (t := 191) c83_242 rfl ?_
      exact w.osome (r4_or _ _) hx4 g11 _
    · have w := w.neg e10
      refine mE_lcmp_eq_F (t := 232) c83_222 c83_223 rfl q7 u9 e10 ?_
      exact t83_226 hx1 hx3 hx4 hx5 w
  · have w := w.neg e4
    refine mE_if_ne_T (t := 226) c83_206 rfl q3 e4 ?_
    exact t83_226 hx1 hx3 hx4 hx5 w
theorem t83_200 {X : Nat × Nat × qC} {d : Nat} {x1 : Int} {x3 : Int} {x5 : Int} {x4 : Int} {M : Mm} {y2 : Int32} {R : Int × Mm → Prop} (hx1 : R4 x1) (hx3 : R4 x3) (hx5 : R4 x5) (hx4 : R4 x4) (w : Wp (f83_200 x1 x3 x5 x4 M) (Sum.elim (E83_191 X d x1 M R) R)) : mE X (d + 3) 83 2 200 [some (.ref 142), some (.int (Int32.ofInt x1)), some (.int y2), some (.int (Int32.ofInt x3)), some (.int (Int32.ofInt x4)), some (.int (Int32.ofInt x5)), none] [] M (fun v M2 => R (v, M2)) :=
  Wp.olp (f := fun s : Int => lb83_200 x1 x3 x5 s M) (s := x4) (E := E83_200 X d x1 x3 x5 M R) w (fun s w hx4 _ => tb83_200 hx1 hx3 hx5 hx4 w) hx4 _
noncomputable def lb83_191 (x1 : Int) (x3 : Int) (x4 : Int) (x5 : Int) (M : Mm) : Option ((Int × Int × Int) ⊕ (Int × Mm)) :=
  if x1 < x5 then
  (oinr (some (x4, M)))
  else
  (f83_200 x1 x3 x5 0 M)
noncomputable def f83_191 (x1 : Int) (x3 : Int) (x4 : Int) (x5 : Int) (M : Mm) : Option (Int × Mm) := lp (fun s : Int × Int × Int => lb83_191 x1 s.1 s.2.1 s.2.2 M) (x3, x4, x5)
theorem tb83_191 {X : Nat × Nat × qC} {d : Nat} {x1 : Int} {x3 : Int} {x4 : Int} {x5 : Int} {M : Mm} {y2 : Int32} {R : Int × Mm → Prop} (hx1 : R4 x1) (hx3 : R4 x3) (hx4 : R4 x4) (hx5 : R4 x5) (w : Wp (lb83_191 x1 x3 x4 x5 M) (Sum.elim (E83_191 X d x1 M R) R)) : mE X (d + 3) 83 2 191 [some (.ref 142), some (.int (Int32.ofInt x1)), some (.int y2), some (.int (Int32.ofInt x3)), some (.int (Int32.ofInt x4)), some (.int (Int32.ofInt x5)), none] [] M (fun v M2 => R (v, M2)) := by
  refine mE_iload c83_191 rfl ?_
  refine mE_iload_n c83_193 rfl ?_
  by_cases e1 : x1 < x5
  · have w := w.pos e1
    refine mE_icmp_gt_T (t := 245) c83_194 rfl hx5 hx1 e1 ?_
    have w := w.oinr
    refine mE_iload c83_245 rfl ?_
    refine mE_i2l c83_247 hx4 ?_
    exact mE_lret c83_248 qr83 (R4.to8 hx4) w.osome
  · have w := w.neg e1
    refine mE_icmp_gt_F (t := 245) c83_194 rfl hx5 hx1 e1 ?_
    refine mE_iconst c83_197 ?_
    refine mE_istore (ls2 := [some (.ref 142), some (.int (Int32.ofInt x1)), some (.int y2), some (.int (Int32.ofInt x3)), some (.int (Int32.ofInt 0)), some (.int (Int32.ofInt x5)), none]) c83_198 (Nat.le_of_ble_eq_true rfl) rfl ?_
    exact t83_200 hx1 hx3 hx5 (r4_n rfl) w
theorem t83_191 {X : Nat × Nat × qC} {d : Nat} {x1 : Int} {x3 : Int} {x4 : Int} {x5 : Int} {M : Mm} {y2 : Int32} {R : Int × Mm → Prop} (hx1 : R4 x1) (hx3 : R4 x3) (hx4 : R4 x4) (hx5 : R4 x5) (w : Wp (f83_191 x1 x3 x4 x5 M) R) : mE X (d + 3) 83 2 191 [some (.ref 142), some (.int (Int32.ofInt x1)), some (.int y2), some (.int (Int32.ofInt x3)), some (.int (Int32.ofInt x4)), some (.int (Int32.ofInt x5)), none] [] M (fun v M2 => R (v, M2)) :=
  Wp.olp (f := fun s : Int × Int × Int => lb83_191 x1 s.1 s.2.1 s.2.2 M) (s := (x3, x4, x5)) (E := E83_191 X d x1 M R) w (fun s w hx3 hx4 hx5 _ => tb83_191 hx1 hx3 hx4 hx5 w) hx3 hx4 hx5 _
noncomputable def f83_144 (x1 : Int) (x3 : Int) (x4 : Int) (M : Mm) : Option ((Int × Mm) ⊕ ((Int × Mm) ⊕ (Int × Mm))) :=
  gd (R4 (x4 + 1)) (
  some (.inl ((x4 + 1), M)))
theorem t83_144 {X : Nat × Nat × qC} {d : Nat} {x1 : Int} {x3 : Int} {x4 : Int} {M : Mm} {y2 : Int32} {o5 : Option Value} {R : Int × Mm → Prop} (hx1 : R4 x1) (hx3 : R4 x3) (hx4 : R4 x4) (w : Wp (f83_144 x1 x3 x4 M) (Sum.elim (E83_76 X d x1 x3 R) (Sum.elim (E83_60 X d x1 R) R))) : mE X (d + 3) 83 2 144 [some (.ref 142), some (.int (Int32.ofInt x1)), some (.int y2), some (.int (Int32.ofInt x3)), some (.int (Int32.ofInt x4)), o5, none] [] M (fun v M2 => R (v, M2)) := by
  obtain ⟨g1, w⟩ := w.ogd
  refine mE_iinc (ls2 := [some (.ref 142), some (.int (Int32.ofInt x1)), some (.int y2), some (.int (Int32.ofInt x3)), some (.int (Int32.ofInt (x4 + 1))), o5, none]) c83_144 rfl (Nat.le_of_ble_eq_true rfl) rfl ?_
  refine mE_goto (t := 76) c83_147 rfl ?_
  exact w.osome g1 _ _
noncomputable def f83_136 (x1 : Int) (x3 : Int) (x4 : Int) (l5 : Int) (M : Mm) : Option ((Int × Mm) ⊕ ((Int × Mm) ⊕ (Int × Mm))) :=
  gd (0 ≤ x3 ∧ x3 < 512) (
  mlet (ms M 198 (x3).toNat l5) fun M2 =>
  f83_144 x1 x3 x4 M2)
theorem t83_136 {X : Nat × Nat × qC} {d : Nat} {x1 : Int} {x3 : Int} {x4 : Int} {l5 : Int} {M : Mm} {y2 : Int32} {R : Int × Mm → Prop} (hx1 : R4 x1) (hx3 : R4 x3) (hx4 : R4 x4) (hl5 : R8 l5) (w : Wp (f83_136 x1 x3 x4 l5 M) (Sum.elim (E83_76 X d x1 x3 R) (Sum.elim (E83_60 X d x1 R) R))) : mE X (d + 3) 83 2 136 [some (.ref 142), some (.int (Int32.ofInt x1)), some (.int y2), some (.int (Int32.ofInt x3)), some (.int (Int32.ofInt x4)), some (.long (Int64.ofInt l5)), none] [] M (fun v M2 => R (v, M2)) := by
  refine mE_aload_n c83_136 rfl ?_
  refine mE_getA c83_137 qo83 qF12_179 (ok_lit rfl rfl rfl) rfl ⟨by decide, by decide⟩ ?_
  refine mE_iload_n c83_140 rfl ?_
  refine mE_lload c83_141 rfl ?_
  obtain ⟨g1, w⟩ := w.ogd
  obtain ⟨M2, m3, w⟩ := w.mlet
  refine mE_lastore c83_143 (ok_lit rfl rfl rfl) hx3 g1 hl5 ?_
  refine mE_M m3 ?_
  exact t83_144 hx1 hx3 hx4 w
noncomputable def lb83_76 (x1 : Int) (x3 : Int) (x4 : Int) (M : Mm) : Option ((Int × Mm) ⊕ ((Int × Mm) ⊕ (Int × Mm))) :=
  if x4 < (M 142 5) then
  ((f118 x3 x4 M).bind fun v3 =>
  if v3 = 0 then
  ((f101 x3 x4 M).bind fun v7 =>
  if v7 < 0 then
  (f83_144 x1 x3 x4 M)
  else
  (gd (0 ≤ x3 ∧ x3 < 512) (
  if (M 198 (x3).toNat) < 0 then
  (f83_136 x1 x3 x4 v7 M)
  else
  (if v7 < (M 198 (x3).toNat) then
  (f83_136 x1 x3 x4 v7 M)
  else
  (f83_144 x1 x3 x4 M)))))
  else
  (f83_144 x1 x3 x4 M))
  else
  (oinr (gd (R4 (x3 + (-1))) (
  some (.inl ((x3 + (-1)), M)))))
noncomputable def f83_76 (x1 : Int) (x3 : Int) (x4 : Int) (M : Mm) : Option ((Int × Mm) ⊕ (Int × Mm)) := lp (fun s : Int × Mm => lb83_76 x1 x3 s.1 s.2) (x4, M)
theorem tb83_76 {X : Nat × Nat × qC} {d : Nat} {x1 : Int} {x3 : Int} {x4 : Int} {M : Mm} {y2 : Int32} {o5 : Option Value} {R : Int × Mm → Prop} (hx1 : R4 x1) (hx3 : R4 x3) (hx4 : R4 x4) (w : Wp (lb83_76 x1 x3 x4 M) (Sum.elim (E83_76 X d x1 x3 R) (Sum.elim (E83_60 X d x1 R) R))) : mE X (d + 3) 83 2 76 [some (.ref 142), some (.int (Int32.ofInt x1)), some (.int y2), some (.int (Int32.ofInt x3)), some (.int (Int32.ofInt x4)), o5, none] [] M (fun v M2 => R (v, M2)) := by
  refine mE_iload c83_76 rfl ?_
  refine mE_aload_n c83_78 rfl ?_
  refine mE_getI c83_79 qo83 qF12_197 (ok_lit rfl rfl rfl) rfl ?_
  intro u1
  by_cases e2 : x4 < (M 142 5)
  · have w := w.pos e2
    refine mE_icmp_ge_F (t := 150) c83_82 rfl hx4 u1 e2 ?_
    refine mE_iload_n c83_85 rfl ?_
    refine mE_iload c83_86 rfl ?_
    refine mE_static1 (as := [.int (Int32.ofInt x3), .int (Int32.ofInt x4)]) (r := []) c83_88 qo83 (by decide) qK12_248 rfl rfl rfl (Nat.le_of_ble_eq_true rfl) (s118 (d := d + 2) hx3 hx4 w.obind) ?_
    rintro v3 _ q5 ⟨rfl, w⟩
    by_cases e6 : v3 = 0
    · have w := w.pos e6
      refine mE_if_eq_T (t := 97) c83_91 rfl q5 e6 ?_
      refine mE_aload_n c83_97 rfl ?_
      refine mE_iload_n c83_98 rfl ?_
      refine mE_iload c83_99 rfl ?_
      refine mE_virtual2 (b := 142) (as := [.int (Int32.ofInt x3), .int (Int32.ofInt x4)]) (r := []) c83_101 qo83 qK12_532 qo101 rfl rfl rfl (ok_lit rfl rfl rfl) (Nat.le_of_ble_eq_true rfl) (s101 (d := d + 0) hx3 hx4 w.obind) ?_
      rintro v7 _ q9 ⟨rfl, w⟩
      refine mE_lstore (ls2 := [some (.ref 142), some (.int (Int32.ofInt x1)), some (.int y2), some (.int (Int32.ofInt x3)), some (.int (Int32.ofInt x4)), some (.long (Int64.ofInt v7)), none]) c83_104 (Nat.le_of_ble_eq_true rfl) rfl ?_
      refine mE_lload c83_106 rfl ?_
      refine mE_lconst (x := 0) c83_108 rfl ?_
      by_cases e10 : v7 < 0
      · have w := w.pos e10
        refine mE_lcmp_lt_T (t := 144) c83_109 c83_110 rfl q9 (r8_n rfl) e10 ?_
        exact t83_144 hx1 hx3 hx4 w
      · have w := w.neg e10
        refine mE_lcmp_lt_F (t := 144) c83_109 c83_110 rfl q9 (r8_n rfl) e10 ?_
        refine mE_aload_n c83_113 rfl ?_
        refine mE_getA c83_114 qo83 qF12_179 (ok_lit rfl rfl rfl) rfl ⟨by decide, by decide⟩ ?_
        refine mE_iload_n c83_117 rfl ?_
        obtain ⟨g11, w⟩ := w.ogd
        refine mE_laload c83_118 (ok_lit rfl rfl rfl) hx3 g11 ?_
        intro u12
        refine mE_lconst (x := 0) c83_119 rfl ?_
        by_cases e13 : (M 198 (x3).toNat) < 0
        · have w := w.pos e13
          refine mE_lcmp_lt_T (t := 136) c83_120 c83_121 rfl u12 (r8_n rfl) e13 ?_
          exact t83_136 hx1 hx3 hx4 q9 w
        · have w := w.neg e13
          refine mE_lcmp_lt_F (t := 136) c83_120 c83_121 rfl u12 (r8_n rfl) e13 ?_
          refine mE_lload c83_124 rfl ?_
          refine mE_aload_n c83_126 rfl ?_
          refine mE_getA c83_127 qo83 qF12_179 (ok_lit rfl rfl rfl) rfl ⟨by decide, by decide⟩ ?_
          refine mE_iload_n c83_130 rfl ?_
          refine mE_laload c83_131 (ok_lit rfl rfl rfl) hx3 g11 ?_
          intro u14
          by_cases e15 : v7 < (M 198 (x3).toNat)
          · have w := w.pos e15
            refine mE_lcmp_ge_F (t := 144) c83_132 c83_133 rfl q9 u14 e15 ?_
            exact t83_136 hx1 hx3 hx4 q9 w
          · have w := w.neg e15
            refine mE_lcmp_ge_T (t := 144) c83_132 c83_133 rfl q9 u14 e15 ?_
            exact t83_144 hx1 hx3 hx4 w
    · have w := w.neg e6
      refine mE_if_eq_F (t := 97) c83_91 rfl q5 e6 ?_
      refine mE_goto (t := 144) c83_94 rfl ?_
      exact t83_144 hx1 hx3 hx4 w
  · have w := w.neg e2
    refine mE_icmp_ge_T (t := 150) c83_82 rfl hx4 u1 e2 ?_
    have w := w.oinr
    obtain ⟨g3, w⟩ := w.ogd
    refine mE_iinc (ls2 := [some (.ref 142), some (.int (Int32.ofInt x1)), some (.int y2), some (.int (Int32.ofInt (x3 + (-1)))), some (.int (Int32.ofInt x4)), o5, none]) c83_150 rfl (Nat.le_of_ble_eq_true rfl) rfl ?_
    refine mE_goto (t := 60) c83_153 rfl ?_
    exact w.osome g3 _ _ _
theorem t83_76 {X : Nat × Nat × qC} {d : Nat} {x1 : Int} {x3 : Int} {x4 : Int} {M : Mm} {y2 : Int32} {o5 : Option Value} {R : Int × Mm → Prop} (hx1 : R4 x1) (hx3 : R4 x3) (hx4 : R4 x4) (w : Wp (f83_76 x1 x3 x4 M) (Sum.elim (E83_60 X d x1 R) R)) : mE X (d + 3) 83 2 76 [some (.ref 142), some (.int (Int32.ofInt x1)), some (.int y2), some (.int (Int32.ofInt x3)), some (.int (Int32.ofInt x4)), o5, none] [] M (fun v M2 => R (v, M2)) :=
  Wp.olp (f := fun s : Int × Mm => lb83_76 x1 x3 s.1 s.2) (s := (x4, M)) (E := E83_76 X d x1 x3 R) w (fun s w hx4 _ _ => tb83_76 hx1 hx3 hx4 w) hx4 _ _
noncomputable def lb83_60 (x1 : Int) (x3 : Int) (M : Mm) : Option ((Int × Mm) ⊕ (Int × Mm)) :=
  if x3 < 0 then
  (oinr (if (M 198 0) < 0 then
  (some ((-2), M))
  else
  (if x1 = (-1) then
  (some ((M 198 0), M))
  else
  (f83_191 x1 0 (-1) 0 M))))
  else
  (gd (0 ≤ x3 ∧ x3 < 512) (
  mlet (ms M 198 (x3).toNat (-1)) fun M3 =>
  f83_76 x1 x3 0 M3))
noncomputable def f83_60 (x1 : Int) (x3 : Int) (M : Mm) : Option (Int × Mm) := lp (fun s : Int × Mm => lb83_60 x1 s.1 s.2) (x3, M)
theorem tb83_60 {X : Nat × Nat × qC} {d : Nat} {x1 : Int} {x3 : Int} {M : Mm} {y2 : Int32} {o4 : Option Value} {o5 : Option Value} {R : Int × Mm → Prop} (hx1 : R4 x1) (hx3 : R4 x3) (w : Wp (lb83_60 x1 x3 M) (Sum.elim (E83_60 X d x1 R) R)) : mE X (d + 3) 83 2 60 [some (.ref 142), some (.int (Int32.ofInt x1)), some (.int y2), some (.int (Int32.ofInt x3)), o4, o5, none] [] M (fun v M2 => R (v, M2)) := by
  refine mE_iload_n c83_60 rfl ?_
  by_cases e1 : x3 < 0
  · have w := w.pos e1
    refine mE_if_lt_T (t := 156) c83_61 rfl hx3 e1 ?_
    have w := w.oinr
    refine mE_aload_n c83_156 rfl ?_
    refine mE_getA c83_157 qo83 qF12_179 (ok_lit rfl rfl rfl) rfl ⟨by decide, by decide⟩ ?_
    refine mE_iconst c83_160 ?_
    refine mE_laload c83_161 (ok_lit rfl rfl rfl) (r4_n rfl) (by decide) ?_
    intro u2
    refine mE_lconst (x := 0) c83_162 rfl ?_
    by_cases e3 : (M 198 0) < 0
    · have w := w.pos e3
      refine mE_lcmp_ge_F (t := 171) c83_163 c83_164 rfl u2 (r8_n rfl) e3 ?_
      refine mE_ldc2_w (x := (-2)) c83_167 qo83 qJ12_530 rfl ?_
      exact mE_lret c83_170 qr83 (r8_n rfl) w.osome
    · have w := w.neg e3
      refine mE_lcmp_ge_T (t := 171) c83_163 c83_164 rfl u2 (r8_n rfl) e3 ?_
      refine mE_iload_n c83_171 rfl ?_
      refine mE_iconst c83_172 ?_
      by_cases e4 : x1 = (-1)
      · have w := w.pos e4
        refine mE_icmp_ne_F (t := 183) c83_173 rfl hx1 (r4_n rfl) e4 ?_
        refine mE_aload_n c83_176 rfl ?_
        refine mE_getA c83_177 qo83 qF12_179 (ok_lit rfl rfl rfl) rfl ⟨by decide, by decide⟩ ?_
        refine mE_iconst c83_180 ?_
        refine mE_laload c83_181 (ok_lit rfl rfl rfl) (r4_n rfl) (by decide) ?_
        intro u5
        exact mE_lret c83_182 qr83 u5 w.osome
      · have w := w.neg e4
        refine mE_icmp_ne_T (t := 183) c83_173 rfl hx1 (r4_n rfl) e4 ?_
        refine mE_iconst c83_183 ?_
        refine mE_istore_n (ls2 := [some (.ref 142), some (.int (Int32.ofInt x1)), some (.int y2), some (.int (Int32.ofInt 0)), o4, o5, none]) c83_184 (Nat.le_of_ble_eq_true rfl) rfl ?_
        refine mE_iconst c83_185 ?_
        refine mE_istore (ls2 := [some (.ref 142), some (.int (Int32.ofInt x1)), some (.int y2), some (.int (Int32.ofInt 0)), some (.int (Int32.ofInt (-1))), o5, none]) c83_186 (Nat.le_of_ble_eq_true rfl) rfl ?_
        refine mE_iconst c83_188 ?_
        refine mE_istore (ls2 := [some (.ref 142), some (.int (Int32.ofInt x1)), some (.int y2), some (.int (Int32.ofInt 0)), some (.int (Int32.ofInt (-1))), some (.int (Int32.ofInt 0)), none]) c83_189 (Nat.le_of_ble_eq_true rfl) rfl ?_
        exact t83_191 hx1 (r4_n rfl) (r4_n rfl) (r4_n rfl) w
  · have w := w.neg e1
    refine mE_if_lt_F (t := 156) c83_61 rfl hx3 e1 ?_
    refine mE_aload_n c83_64 rfl ?_
    refine mE_getA c83_65 qo83 qF12_179 (ok_lit rfl rfl rfl) rfl ⟨by decide, by decide⟩ ?_
    refine mE_iload_n c83_68 rfl ?_
    refine mE_ldc2_w (x := (-1)) c83_69 qo83 qJ12_482 rfl ?_
    obtain ⟨g2, w⟩ := w.ogd
    obtain ⟨M3, m4, w⟩ := w.mlet
    refine mE_lastore c83_72 (ok_lit rfl rfl rfl) hx3 g2 (r8_n rfl) ?_
    refine mE_M m4 ?_
    refine mE_iconst c83_73 ?_
    refine mE_istore (ls2 := [some (.ref 142), some (.int (Int32.ofInt x1)), some (.int y2), some (.int (Int32.ofInt x3)), some (.int (Int32.ofInt 0)), o5, none]) c83_74 (Nat.le_of_ble_eq_true rfl) rfl ?_
    exact t83_76 hx1 hx3 (r4_n rfl) w
theorem t83_60 {X : Nat × Nat × qC} {d : Nat} {x1 : Int} {x3 : Int} {M : Mm} {y2 : Int32} {o4 : Option Value} {o5 : Option Value} {R : Int × Mm → Prop} (hx1 : R4 x1) (hx3 : R4 x3) (w : Wp (f83_60 x1 x3 M) R) : mE X (d + 3) 83 2 60 [some (.ref 142), some (.int (Int32.ofInt x1)), some (.int y2), some (.int (Int32.ofInt x3)), o4, o5, none] [] M (fun v M2 => R (v, M2)) :=
  Wp.olp (f := fun s : Int × Mm => lb83_60 x1 s.1 s.2) (s := (x3, M)) (E := E83_60 X d x1 R) w (fun s w hx3 _ _ _ => tb83_60 hx1 hx3 w) hx3 _ _ _
noncomputable def f83 (x1 : Int) (M : Mm) : Option (Int × Mm) :=
  if (M 142 5) = 0 then
  (some ((-2), M))
  else
  (gd (R4 ((M 142 5) - 1)) (
  (f143 x1 (-1) ((M 142 5) - 1) M).bind fun v5 =>
  if v5 = 0 then
  (some ((-1), M))
  else
  ((f117 36000 1 M).bind fun M10 =>
  gd (R4 ((bShl 1 (M10 142 5)) - 1)) (
  gd (0 ≤ ((bShl 1 (M10 142 5)) - 1) ∧ ((bShl 1 (M10 142 5)) - 1) < 512) (
  mlet (ms M10 198 (((bShl 1 (M10 142 5)) - 1)).toNat 0) fun M15 =>
  gd (R4 (((bShl 1 (M10 142 5)) - 1) - 1)) (
  f83_60 x1 (((bShl 1 (M10 142 5)) - 1) - 1) M15))))))
theorem t83 {X : Nat × Nat × qC} {d : Nat} {x1 : Int} {M : Mm}  {R : Int × Mm → Prop} (hx1 : R4 x1) (w : Wp (f83 x1 M) R) : mE X (d + 3) 83 2 0 [some (.ref 142), some (.int (Int32.ofInt x1)), none, none, none, none, none] [] M (fun v M2 => R (v, M2)) := by
  refine mE_aload_n c83_0 rfl ?_
  refine mE_getI c83_1 qo83 qF12_197 (ok_lit rfl rfl rfl) rfl ?_
  intro u1
  by_cases e2 : (M 142 5) = 0
  · have w := w.pos e2
    refine mE_if_ne_F (t := 11) c83_4 rfl u1 e2 ?_
    refine mE_ldc2_w (x := (-2)) c83_7 qo83 qJ12_530 rfl ?_
    exact mE_lret c83_10 qr83 (r8_n rfl) w.osome
  · have w := w.neg e2
    refine mE_if_ne_T (t := 11) c83_4 rfl u1 e2 ?_
    refine mE_iload_n c83_11 rfl ?_
    refine mE_i2l c83_12 hx1 ?_
    refine mE_ldc2_w (x := (-1)) c83_13 qo83 qJ12_482 rfl ?_
    refine mE_aload_n c83_16 rfl ?_
    refine mE_getI c83_17 qo83 qF12_197 (ok_lit rfl rfl rfl) rfl ?_
    intro u3
    refine mE_iconst c83_20 ?_
    obtain ⟨g4, w⟩ := w.ogd
    refine mE_isub c83_21 ?_
    refine mE_i2l c83_22 g4 ?_
    refine mE_static1 (as := [.long (Int64.ofInt x1), .long (Int64.ofInt (-1)), .long (Int64.ofInt ((M 142 5) - 1))]) (r := []) c83_23 qo83 (by decide) qK12_190 rfl rfl rfl (Nat.le_of_ble_eq_true rfl) (s143 (d := d + 2) (R4.to8 hx1) (r8_n rfl) (R4.to8 g4) w.obind) ?_
    rintro v5 _ q7 ⟨rfl, w⟩
    by_cases e8 : v5 = 0
    · have w := w.pos e8
      refine mE_if_ne_F (t := 33) c83_26 rfl q7 e8 ?_
      refine mE_ldc2_w (x := (-1)) c83_29 qo83 qJ12_482 rfl ?_
      exact mE_lret c83_32 qr83 (r8_n rfl) w.osome
    · have w := w.neg e8
      refine mE_if_ne_T (t := 33) c83_26 rfl q7 e8 ?_
      refine mE_aload_n c83_33 rfl ?_
      refine mE_ldc (x := 36000) c83_34 qo83 qI12_230 rfl ?_
      refine mE_iconst c83_36 ?_
      refine mE_virtual0 (b := 142) (as := [.int (Int32.ofInt 36000), .int (Int32.ofInt 1)]) (r := []) c83_37 qo83 qK12_263 qo117 rfl rfl rfl (ok_lit rfl rfl rfl) (Nat.le_of_ble_eq_true rfl) (s117 (d := d + 2) (r4_n rfl) (r4_n rfl) w.obind) ?_
      intro _ M10 w
      refine mE_iconst c83_40 ?_
      refine mE_aload_n c83_41 rfl ?_
      refine mE_getI c83_42 qo83 qF12_197 (ok_lit rfl rfl rfl) rfl ?_
      intro u12
      refine mE_ishl c83_45 ?_
      refine mE_iconst c83_46 ?_
      obtain ⟨g13, w⟩ := w.ogd
      refine mE_isub c83_47 ?_
      refine mE_istore_n (ls2 := [some (.ref 142), some (.int (Int32.ofInt x1)), some (.int (Int32.ofInt ((bShl 1 (M10 142 5)) - 1))), none, none, none, none]) c83_48 (Nat.le_of_ble_eq_true rfl) rfl ?_
      refine mE_aload_n c83_49 rfl ?_
      refine mE_getA c83_50 qo83 qF12_179 (ok_lit rfl rfl rfl) rfl ⟨by decide, by decide⟩ ?_
      refine mE_iload_n c83_53 rfl ?_
      refine mE_lconst (x := 0) c83_54 rfl ?_
      obtain ⟨g14, w⟩ := w.ogd
      obtain ⟨M15, m16, w⟩ := w.mlet
      refine mE_lastore c83_55 (ok_lit rfl rfl rfl) g13 g14 (r8_n rfl) ?_
      refine mE_M m16 ?_
      refine mE_iload_n c83_56 rfl ?_
      refine mE_iconst c83_57 ?_
      obtain ⟨g17, w⟩ := w.ogd
      refine mE_isub c83_58 ?_
      refine mE_istore_n (ls2 := [some (.ref 142), some (.int (Int32.ofInt x1)), some (.int (Int32.ofInt ((bShl 1 (M10 142 5)) - 1))), some (.int (Int32.ofInt (((bShl 1 (M10 142 5)) - 1) - 1))), none, none, none]) c83_59 (Nat.le_of_ble_eq_true rfl) rfl ?_
      exact t83_60 hx1 g17 w
theorem s83 {X : Nat × Nat × qC} {d : Nat} {x1 : Int} {M : Mm} {R : Int × Mm → Prop} (hx1 : R4 x1) (w : Wp (f83 x1 M) R) : mC X (d + 4) 83 2 [.ref 142, .int (Int32.ofInt x1)] M (fun v M2 => R (v, M2)) :=
  mC_of (qent_mk qx83 rfl rfl rfl) (t83 hx1 w)
/-! SaggingNetModel.bear -/
noncomputable def f84 (x1 : Int) (M : Mm) : Option (Int) :=
  gd (R4 ((M 142 2) - 1)) (
  (f143 x1 0 ((M 142 2) - 1) M).bind fun v3 =>
  if v3 = 0 then
  (some (-1))
  else
  (gd (0 ≤ x1 ∧ x1 < 500) (
  some (M 182 (x1).toNat))))
theorem t84 {X : Nat × Nat × qC} {d : Nat} {x1 : Int} {M : Mm}  {R : Int → Prop} (hx1 : R4 x1) (w : Wp (f84 x1 M) R) : mE X (d + 1) 84 1 0 [some (.ref 142), some (.int (Int32.ofInt x1))] [] M (fun v M2 => M = M2 ∧ R v) := by
  refine mE_iload_n c84_0 rfl ?_
  refine mE_i2l c84_1 hx1 ?_
  refine mE_lconst (x := 0) c84_2 rfl ?_
  refine mE_aload_n c84_3 rfl ?_
  refine mE_getI c84_4 qo84 qF12_202 (ok_lit rfl rfl rfl) rfl ?_
  intro u1
  refine mE_iconst c84_7 ?_
  obtain ⟨g2, w⟩ := w.ogd
  refine mE_isub c84_8 ?_
  refine mE_i2l c84_9 g2 ?_
  refine mE_static1 (as := [.long (Int64.ofInt x1), .long (Int64.ofInt 0), .long (Int64.ofInt ((M 142 2) - 1))]) (r := []) c84_10 qo84 (by decide) qK12_190 rfl rfl rfl (Nat.le_of_ble_eq_true rfl) (s143 (d := d + 0) (R4.to8 hx1) (r8_n rfl) (R4.to8 g2) w.obind) ?_
  rintro v3 _ q5 ⟨rfl, w⟩
  by_cases e6 : v3 = 0
  · have w := w.pos e6
    refine mE_if_eq_T (t := 25) c84_13 rfl q5 e6 ?_
    refine mE_iconst c84_25 ?_
    exact mE_iret c84_26 qr84 (r4_n rfl) ⟨rfl, w.osome⟩
  · have w := w.neg e6
    refine mE_if_eq_F (t := 25) c84_13 rfl q5 e6 ?_
    refine mE_aload_n c84_16 rfl ?_
    refine mE_getA c84_17 qo84 qF12_131 (ok_lit rfl rfl rfl) rfl ⟨by decide, by decide⟩ ?_
    refine mE_iload_n c84_20 rfl ?_
    obtain ⟨g7, w⟩ := w.ogd
    refine mE_iaload c84_21 (ok_lit rfl rfl rfl) hx1 g7 ?_
    intro u8
    refine mE_goto (t := 26) c84_22 rfl ?_
    exact mE_iret c84_26 qr84 u8 ⟨rfl, w.osome⟩
theorem s84 {X : Nat × Nat × qC} {d : Nat} {x1 : Int} {M : Mm} {R : Int → Prop} (hx1 : R4 x1) (w : Wp (f84 x1 M) R) : mC X (d + 2) 84 1 [.ref 142, .int (Int32.ofInt x1)] M (fun v M2 => M = M2 ∧ R v) :=
  mC_of (qent_mk qx84 rfl rfl rfl) (t84 hx1 w)
/-! SaggingNetModel.isRow -/
noncomputable def f129 (x1 : Int) (M : Mm) : Option (Int) :=
  gd (R4 ((M 142 8) - 1)) (
  (f143 x1 0 ((M 142 8) - 1) M).bind fun v3 =>
  gd (v3 = 0 ∨ v3 = 1) (
  some v3))
theorem t129 {X : Nat × Nat × qC} {d : Nat} {x1 : Int} {M : Mm}  {R : Int → Prop} (hx1 : R4 x1) (w : Wp (f129 x1 M) R) : mE X (d + 1) 129 1 0 [some (.ref 142), some (.int (Int32.ofInt x1))] [] M (fun v M2 => M = M2 ∧ R v) := by
  refine mE_iload_n c129_0 rfl ?_
  refine mE_i2l c129_1 hx1 ?_
  refine mE_lconst (x := 0) c129_2 rfl ?_
  refine mE_aload_n c129_3 rfl ?_
  refine mE_getI c129_4 qo129 qF12_505 (ok_lit rfl rfl rfl) rfl ?_
  intro u1
  refine mE_iconst c129_7 ?_
  obtain ⟨g2, w⟩ := w.ogd
  refine mE_isub c129_8 ?_
  refine mE_i2l c129_9 g2 ?_
  refine mE_static1 (as := [.long (Int64.ofInt x1), .long (Int64.ofInt 0), .long (Int64.ofInt ((M 142 8) - 1))]) (r := []) c129_10 qo129 (by decide) qK12_190 rfl rfl rfl (Nat.le_of_ble_eq_true rfl) (s143 (d := d + 0) (R4.to8 hx1) (r8_n rfl) (R4.to8 g2) w.obind) ?_
  rintro v3 _ q5 ⟨rfl, w⟩
  obtain ⟨g6, w⟩ := w.ogd
  exact mE_zret c129_13 qr129 g6 ⟨rfl, w.osome⟩
theorem s129 {X : Nat × Nat × qC} {d : Nat} {x1 : Int} {M : Mm} {R : Int → Prop} (hx1 : R4 x1) (w : Wp (f129 x1 M) R) : mC X (d + 2) 129 1 [.ref 142, .int (Int32.ofInt x1)] M (fun v M2 => M = M2 ∧ R v) :=
  mC_of (qent_mk qx129 rfl rfl rfl) (t129 hx1 w)
/-! SaggingNetModel.before -/
noncomputable def f85 (x1 : Int) (x2 : Int) (M : Mm) : Option (Int × Mm) :=
  if (M 142 9) = 100 then
  (some (0, M))
  else
  ((f129 x1 M).bind fun v3 =>
  if v3 = 0 then
  (some (0, M))
  else
  ((f129 x2 M).bind fun v7 =>
  if v7 = 0 then
  (some (0, M))
  else
  (if x1 = x2 then
  (some (0, M))
  else
  (gd (0 ≤ (M 142 9) ∧ (M 142 9) < 100) (
  mlet (ms M 195 ((M 142 9)).toNat x1) fun M14 =>
  gd (0 ≤ (M14 142 9) ∧ (M14 142 9) < 100) (
  mlet (ms M14 196 ((M14 142 9)).toNat x2) fun M18 =>
  gd (R4 ((M18 142 9) + 1)) (
  mlet (ms M18 142 9 ((M18 142 9) + 1)) fun M22 =>
  some (1, M22))))))))
theorem t85 {X : Nat × Nat × qC} {d : Nat} {x1 : Int} {x2 : Int} {M : Mm}  {R : Int × Mm → Prop} (hx1 : R4 x1) (hx2 : R4 x2) (w : Wp (f85 x1 x2 M) R) : mE X (d + 2) 85 1 0 [some (.ref 142), some (.int (Int32.ofInt x1)), some (.int (Int32.ofInt x2))] [] M (fun v M2 => R (v, M2)) := by
  refine mE_aload_n c85_0 rfl ?_
  refine mE_getI c85_1 qo85 qF12_510 (ok_lit rfl rfl rfl) rfl ?_
  intro u1
  refine mE_bipush (x := 100) c85_4 rfl ?_
  by_cases e2 : (M 142 9) = 100
  · have w := w.pos e2
    refine mE_icmp_eq_T (t := 30) c85_6 rfl u1 (r4_n rfl) e2 ?_
    refine mE_iconst c85_30 ?_
    exact mE_zret c85_31 qr85 (Or.inl rfl) w.osome
  · have w := w.neg e2
    refine mE_icmp_eq_F (t := 30) c85_6 rfl u1 (r4_n rfl) e2 ?_
    refine mE_aload_n c85_9 rfl ?_
    refine mE_iload_n c85_10 rfl ?_
    refine mE_virtual1 (b := 142) (as := [.int (Int32.ofInt x1)]) (r := []) c85_11 qo85 qK12_513 qo129 rfl rfl rfl (ok_lit rfl rfl rfl) (Nat.le_of_ble_eq_true rfl) (s129 (d := d + 0) hx1 w.obind) ?_
    rintro v3 _ q5 ⟨rfl, w⟩
    by_cases e6 : v3 = 0
    · have w := w.pos e6
      refine mE_if_eq_T (t := 30) c85_14 rfl q5 e6 ?_
      refine mE_iconst c85_30 ?_
      exact mE_zret c85_31 qr85 (Or.inl rfl) w.osome
    · have w := w.neg e6
      refine mE_if_eq_F (t := 30) c85_14 rfl q5 e6 ?_
      refine mE_aload_n c85_17 rfl ?_
      refine mE_iload_n c85_18 rfl ?_
      refine mE_virtual1 (b := 142) (as := [.int (Int32.ofInt x2)]) (r := []) c85_19 qo85 qK12_513 qo129 rfl rfl rfl (ok_lit rfl rfl rfl) (Nat.le_of_ble_eq_true rfl) (s129 (d := d + 0) hx2 w.obind) ?_
      rintro v7 _ q9 ⟨rfl, w⟩
      by_cases e10 : v7 = 0
      · have w := w.pos e10
        refine mE_if_eq_T (t := 30) c85_22 rfl q9 e10 ?_
        refine mE_iconst c85_30 ?_
        exact mE_zret c85_31 qr85 (Or.inl rfl) w.osome
      · have w := w.neg e10
        refine mE_if_eq_F (t := 30) c85_22 rfl q9 e10 ?_
        refine mE_iload_n c85_25 rfl ?_
        refine mE_iload_n c85_26 rfl ?_
        by_cases e11 : x1 = x2
        · have w := w.pos e11
          refine mE_icmp_ne_F (t := 32) c85_27 rfl hx1 hx2 e11 ?_
          refine mE_iconst c85_30 ?_
          exact mE_zret c85_31 qr85 (Or.inl rfl) w.osome
        · have w := w.neg e11
          refine mE_icmp_ne_T (t := 32) c85_27 rfl hx1 hx2 e11 ?_
          refine mE_aload_n c85_32 rfl ?_
          refine mE_getA c85_33 qo85 qF12_170 (ok_lit rfl rfl rfl) rfl ⟨by decide, by decide⟩ ?_
          refine mE_aload_n c85_36 rfl ?_
          refine mE_getI c85_37 qo85 qF12_510 (ok_lit rfl rfl rfl) rfl ?_
          intro u12
          refine mE_iload_n c85_40 rfl ?_
          obtain ⟨g13, w⟩ := w.ogd
          obtain ⟨M14, m15, w⟩ := w.mlet
          refine mE_iastore c85_41 (ok_lit rfl rfl rfl) u12 g13 hx1 ?_
          refine mE_M m15 ?_
          refine mE_aload_n c85_42 rfl ?_
          refine mE_getA c85_43 qo85 qF12_173 (ok_lit rfl rfl rfl) rfl ⟨by decide, by decide⟩ ?_
          refine mE_aload_n c85_46 rfl ?_
          refine mE_getI c85_47 qo85 qF12_510 (ok_lit rfl rfl rfl) rfl ?_
          intro u16
          refine mE_iload_n c85_50 rfl ?_
          obtain ⟨g17, w⟩ := w.ogd
          obtain ⟨M18, m19, w⟩ := w.mlet
          refine mE_iastore c85_51 (ok_lit rfl rfl rfl) u16 g17 hx2 ?_
          refine mE_M m19 ?_
          refine mE_aload_n c85_52 rfl ?_
          refine mE_dup c85_53 rfl ?_
          refine mE_getI c85_54 qo85 qF12_510 (ok_lit rfl rfl rfl) rfl ?_
          intro u20
          refine mE_iconst c85_57 ?_
          obtain ⟨g21, w⟩ := w.ogd
          refine mE_iadd c85_58 ?_
          obtain ⟨M22, m23, w⟩ := w.mlet
          refine mE_putI c85_59 qo85 qF12_510 qz12_9 (ok_lit rfl rfl rfl) (Nat.le_of_ble_eq_true rfl) rfl g21 (by rw [qy12_9]; rfl) ?_
          refine mE_M m23 ?_
          refine mE_iconst c85_62 ?_
          exact mE_zret c85_63 qr85 (Or.inr rfl) w.osome
theorem s85 {X : Nat × Nat × qC} {d : Nat} {x1 : Int} {x2 : Int} {M : Mm} {R : Int × Mm → Prop} (hx1 : R4 x1) (hx2 : R4 x2) (w : Wp (f85 x1 x2 M) R) : mC X (d + 3) 85 1 [.ref 142, .int (Int32.ofInt x1), .int (Int32.ofInt x2)] M (fun v M2 => R (v, M2)) :=
  mC_of (qent_mk qx85 rfl rfl rfl) (t85 hx1 hx2 w)
/-! SaggingNetModel.isWorks -/
noncomputable def f137 (x1 : Int) (M : Mm) : Option (Int) :=
  gd (R4 ((M 142 5) - 1)) (
  (f143 x1 0 ((M 142 5) - 1) M).bind fun v3 =>
  gd (v3 = 0 ∨ v3 = 1) (
  some v3))
theorem t137 {X : Nat × Nat × qC} {d : Nat} {x1 : Int} {M : Mm}  {R : Int → Prop} (hx1 : R4 x1) (w : Wp (f137 x1 M) R) : mE X (d + 1) 137 1 0 [some (.ref 142), some (.int (Int32.ofInt x1))] [] M (fun v M2 => M = M2 ∧ R v) := by
  refine mE_iload_n c137_0 rfl ?_
  refine mE_i2l c137_1 hx1 ?_
  refine mE_lconst (x := 0) c137_2 rfl ?_
  refine mE_aload_n c137_3 rfl ?_
  refine mE_getI c137_4 qo137 qF12_197 (ok_lit rfl rfl rfl) rfl ?_
  intro u1
  refine mE_iconst c137_7 ?_
  obtain ⟨g2, w⟩ := w.ogd
  refine mE_isub c137_8 ?_
  refine mE_i2l c137_9 g2 ?_
  refine mE_static1 (as := [.long (Int64.ofInt x1), .long (Int64.ofInt 0), .long (Int64.ofInt ((M 142 5) - 1))]) (r := []) c137_10 qo137 (by decide) qK12_190 rfl rfl rfl (Nat.le_of_ble_eq_true rfl) (s143 (d := d + 0) (R4.to8 hx1) (r8_n rfl) (R4.to8 g2) w.obind) ?_
  rintro v3 _ q5 ⟨rfl, w⟩
  obtain ⟨g6, w⟩ := w.ogd
  exact mE_zret c137_13 qr137 g6 ⟨rfl, w.osome⟩
theorem s137 {X : Nat × Nat × qC} {d : Nat} {x1 : Int} {M : Mm} {R : Int → Prop} (hx1 : R4 x1) (w : Wp (f137 x1 M) R) : mC X (d + 2) 137 1 [.ref 142, .int (Int32.ofInt x1)] M (fun v M2 => M = M2 ∧ R v) :=
  mC_of (qent_mk qx137 rfl rfl rfl) (t137 hx1 w)
/-! SaggingNetModel.begins -/
noncomputable def f86 (x1 : Int) (x2 : Int) (x3 : Int) (M : Mm) : Option (Int × Mm) :=
  (f137 x1 M).bind fun v1 =>
  if v1 = 0 then
  (some (0, M))
  else
  ((f143 x3 1 100 M).bind fun v5 =>
  if v5 = 0 then
  (some (0, M))
  else
  (gd (0 ≤ x1 ∧ x1 < 9) (
  gd (x2 = 0 ∨ x2 = 1) (
  mlet (ms M 156 (x1).toNat x2) fun M11 =>
  mlet (ms M11 157 (x1).toNat x3) fun M13 =>
  some (1, M13)))))
theorem t86 {X : Nat × Nat × qC} {d : Nat} {x1 : Int} {x2 : Int} {x3 : Int} {M : Mm}  {R : Int × Mm → Prop} (hx1 : R4 x1) (hx2 : R4 x2) (hx3 : R4 x3) (w : Wp (f86 x1 x2 x3 M) R) : mE X (d + 2) 86 1 0 [some (.ref 142), some (.int (Int32.ofInt x1)), some (.int (Int32.ofInt x2)), some (.int (Int32.ofInt x3))] [] M (fun v M2 => R (v, M2)) := by
  refine mE_aload_n c86_0 rfl ?_
  refine mE_iload_n c86_1 rfl ?_
  refine mE_virtual1 (b := 142) (as := [.int (Int32.ofInt x1)]) (r := []) c86_2 qo86 qK12_231 qo137 rfl rfl rfl (ok_lit rfl rfl rfl) (Nat.le_of_ble_eq_true rfl) (s137 (d := d + 0) hx1 w.obind) ?_
  rintro v1 _ q3 ⟨rfl, w⟩
  by_cases e4 : v1 = 0
  · have w := w.pos e4
    refine mE_if_eq_T (t := 20) c86_5 rfl q3 e4 ?_
    refine mE_iconst c86_20 ?_
    exact mE_zret c86_21 qr86 (Or.inl rfl) w.osome
  · have w := w.neg e4
    refine mE_if_eq_F (t := 20) c86_5 rfl q3 e4 ?_
    refine mE_iload_n c86_8 rfl ?_
    refine mE_i2l c86_9 hx3 ?_
    refine mE_lconst (x := 1) c86_10 rfl ?_
    refine mE_ldc2_w (x := 100) c86_11 qo86 qJ12_277 rfl ?_
    refine mE_static1 (as := [.long (Int64.ofInt x3), .long (Int64.ofInt 1), .long (Int64.ofInt 100)]) (r := []) c86_14 qo86 (by decide) qK12_190 rfl rfl rfl (Nat.le_of_ble_eq_true rfl) (s143 (d := d + 1) (R4.to8 hx3) (r8_n rfl) (r8_n rfl) w.obind) ?_
    rintro v5 _ q7 ⟨rfl, w⟩
    by_cases e8 : v5 = 0
    · have w := w.pos e8
      refine mE_if_ne_F (t := 22) c86_17 rfl q7 e8 ?_
      refine mE_iconst c86_20 ?_
      exact mE_zret c86_21 qr86 (Or.inl rfl) w.osome
    · have w := w.neg e8
      refine mE_if_ne_T (t := 22) c86_17 rfl q7 e8 ?_
      refine mE_aload_n c86_22 rfl ?_
      refine mE_getA c86_23 qo86 qF12_51 (ok_lit rfl rfl rfl) rfl ⟨by decide, by decide⟩ ?_
      refine mE_iload_n c86_26 rfl ?_
      refine mE_iload_n c86_27 rfl ?_
      obtain ⟨g9, w⟩ := w.ogd
      obtain ⟨g10, w⟩ := w.ogd
      obtain ⟨M11, m12, w⟩ := w.mlet
      refine mE_zastore c86_28 (ok_lit rfl rfl rfl) hx1 g9 g10 ?_
      refine mE_M m12 ?_
      refine mE_aload_n c86_29 rfl ?_
      refine mE_getA c86_30 qo86 qF12_55 (ok_lit rfl rfl rfl) rfl ⟨by decide, by decide⟩ ?_
      refine mE_iload_n c86_33 rfl ?_
      refine mE_iload_n c86_34 rfl ?_
      obtain ⟨M13, m14, w⟩ := w.mlet
      refine mE_iastore c86_35 (ok_lit rfl rfl rfl) hx1 g9 hx3 ?_
      refine mE_M m14 ?_
      refine mE_iconst c86_36 ?_
      exact mE_zret c86_37 qr86 (Or.inr rfl) w.osome
theorem s86 {X : Nat × Nat × qC} {d : Nat} {x1 : Int} {x2 : Int} {x3 : Int} {M : Mm} {R : Int × Mm → Prop} (hx1 : R4 x1) (hx2 : R4 x2) (hx3 : R4 x3) (w : Wp (f86 x1 x2 x3 M) R) : mC X (d + 3) 86 1 [.ref 142, .int (Int32.ofInt x1), .int (Int32.ofInt x2), .int (Int32.ofInt x3)] M (fun v M2 => R (v, M2)) :=
  mC_of (qent_mk qx86 rfl rfl rfl) (t86 hx1 hx2 hx3 w)
/-! SaggingNetModel.bounds -/
noncomputable def f87 (x1 : Int) (x2 : Int) (x3 : Int) (M : Mm) : Option (Mm) :=
  gd (R4 (5 * x1)) (
  gd (R4 ((5 * x1) + x2)) (
  gd (0 ≤ ((5 * x1) + x2) ∧ ((5 * x1) + x2) < 25) (
  if x3 < (M 197 (((5 * x1) + x2)).toNat) then
  (mlet (ms M 197 (((5 * x1) + x2)).toNat x3) fun M6 =>
  some M6)
  else
  (mlet (ms M 197 (((5 * x1) + x2)).toNat (M 197 (((5 * x1) + x2)).toNat)) fun M7 =>
  some M7))))
theorem t87 {X : Nat × Nat × qC} {d : Nat} {x1 : Int} {x2 : Int} {x3 : Int} {M : Mm}  {R : Mm → Prop} (hx1 : R4 x1) (hx2 : R4 x2) (hx3 : R4 x3) (w : Wp (f87 x1 x2 x3 M) R) : mE X (d + 0) 87 0 0 [some (.ref 142), some (.int (Int32.ofInt x1)), some (.int (Int32.ofInt x2)), some (.int (Int32.ofInt x3))] [] M (fun v M2 => R M2) := by
  refine mE_aload_n c87_0 rfl ?_
  refine mE_getA c87_1 qo87 qF12_176 (ok_lit rfl rfl rfl) rfl ⟨by decide, by decide⟩ ?_
  refine mE_iconst c87_4 ?_
  refine mE_iload_n c87_5 rfl ?_
  obtain ⟨g1, w⟩ := w.ogd
  refine mE_imul c87_6 ?_
  refine mE_iload_n c87_7 rfl ?_
  obtain ⟨g2, w⟩ := w.ogd
  refine mE_iadd c87_8 ?_
  refine mE_iload_n c87_9 rfl ?_
  refine mE_aload_n c87_10 rfl ?_
  refine mE_getA c87_11 qo87 qF12_176 (ok_lit rfl rfl rfl) rfl ⟨by decide, by decide⟩ ?_
  refine mE_iconst c87_14 ?_
  refine mE_iload_n c87_15 rfl ?_
  refine mE_imul c87_16 ?_
  refine mE_iload_n c87_17 rfl ?_
  refine mE_iadd c87_18 ?_
  obtain ⟨g3, w⟩ := w.ogd
  refine mE_iaload c87_19 (ok_lit rfl rfl rfl) g2 g3 ?_
  intro u4
  by_cases e5 : x3 < (M 197 (((5 * x1) + x2)).toNat)
  · have w := w.pos e5
    refine mE_icmp_ge_F (t := 27) c87_20 rfl hx3 u4 e5 ?_
    refine mE_iload_n c87_23 rfl ?_
    refine mE_goto (t := 37) c87_24 rfl ?_
    obtain ⟨M6, m7, w⟩ := w.mlet
    refine mE_iastore c87_37 (ok_lit rfl rfl rfl) g2 g3 hx3 ?_
    refine mE_M m7 ?_
    exact mE_vret c87_38 qr87 w.osome
  · have w := w.neg e5
    refine mE_icmp_ge_T (t := 27) c87_20 rfl hx3 u4 e5 ?_
    refine mE_aload_n c87_27 rfl ?_
    refine mE_getA c87_28 qo87 qF12_176 (ok_lit rfl rfl rfl) rfl ⟨by decide, by decide⟩ ?_
    refine mE_iconst c87_31 ?_
    refine mE_iload_n c87_32 rfl ?_
    refine mE_imul c87_33 ?_
    refine mE_iload_n c87_34 rfl ?_
    refine mE_iadd c87_35 ?_
    refine mE_iaload c87_36 (ok_lit rfl rfl rfl) g2 g3 ?_
    intro u6
    obtain ⟨M7, m8, w⟩ := w.mlet
    refine mE_iastore c87_37 (ok_lit rfl rfl rfl) g2 g3 u6 ?_
    refine mE_M m8 ?_
    exact mE_vret c87_38 qr87 w.osome
theorem s87 {X : Nat × Nat × qC} {d : Nat} {x1 : Int} {x2 : Int} {x3 : Int} {M : Mm} {R : Mm → Prop} (hx1 : R4 x1) (hx2 : R4 x2) (hx3 : R4 x3) (w : Wp (f87 x1 x2 x3 M) R) : mC X (d + 1) 87 0 [.ref 142, .int (Int32.ofInt x1), .int (Int32.ofInt x2), .int (Int32.ofInt x3)] M (fun v M2 => R M2) :=
  mC_of (qent_mk qx87 rfl rfl rfl) (t87 hx1 hx2 hx3 w)
/-! SaggingNetModel.copies -/
def E96_2 (X : Nat × Nat × qC) (d : Nat) (x1 : Int) (x2 : Int) (R : Mm → Prop) : Int × Mm → Prop := fun s => R4 s.1 → mE X (d + 0) 96 0 2 [some (.ref 142), some (.int (Int32.ofInt x1)), some (.int (Int32.ofInt x2)), some (.int (Int32.ofInt s.1))] [] s.2 (fun v M2 => R M2)
noncomputable def lb96_2 (x1 : Int) (x2 : Int) (x3 : Int) (M : Mm) : Option ((Int × Mm) ⊕ (Mm)) :=
  if x3 < 72 then
  (gd (R4 (x2 + x3)) (
  gd (R4 (x1 + x3)) (
  gd (0 ≤ (x1 + x3) ∧ (x1 + x3) < 36400) (
  gd (0 ≤ (x2 + x3) ∧ (x2 + x3) < 36400) (
  mlet (ms M 144 ((x2 + x3)).toNat (M 144 ((x1 + x3)).toNat)) fun M7 =>
  gd (R4 (x3 + 1)) (
  some (.inl ((x3 + 1), M7))))))))
  else
  (oinr (some M))
noncomputable def f96_2 (x1 : Int) (x2 : Int) (x3 : Int) (M : Mm) : Option (Mm) := lp (fun s : Int × Mm => lb96_2 x1 x2 s.1 s.2) (x3, M)
theorem tb96_2 {X : Nat × Nat × qC} {d : Nat} {x1 : Int} {x2 : Int} {x3 : Int} {M : Mm}  {R : Mm → Prop} (hx1 : R4 x1) (hx2 : R4 x2) (hx3 : R4 x3) (w : Wp (lb96_2 x1 x2 x3 M) (Sum.elim (E96_2 X d x1 x2 R) R)) : mE X (d + 0) 96 0 2 [some (.ref 142), some (.int (Int32.ofInt x1)), some (.int (Int32.ofInt x2)), some (.int (Int32.ofInt x3))] [] M (fun v M2 => R M2) := by
  refine mE_iload_n c96_2 rfl ?_
  refine mE_bipush (x := 72) c96_3 rfl ?_
  by_cases e1 : x3 < 72
  · have w := w.pos e1
    refine mE_icmp_ge_F (t := 30) c96_5 rfl hx3 (r4_n rfl) e1 ?_
    refine mE_aload_n c96_8 rfl ?_
    refine mE_getA c96_9 qo96 qF12_14 (ok_lit rfl rfl rfl) rfl ⟨by decide, by decide⟩ ?_
    refine mE_iload_n c96_12 rfl ?_
    refine mE_iload_n c96_13 rfl ?_
    obtain ⟨g2, w⟩ := w.ogd
    refine mE_iadd c96_14 ?_
    refine mE_aload_n c96_15 rfl ?_
    refine mE_getA c96_16 qo96 qF12_14 (ok_lit rfl rfl rfl) rfl ⟨by decide, by decide⟩ ?_
    refine mE_iload_n c96_19 rfl ?_
    refine mE_iload_n c96_20 rfl ?_
    obtain ⟨g3, w⟩ := w.ogd
    refine mE_iadd c96_21 ?_
    obtain ⟨g4, w⟩ := w.ogd
    refine mE_iaload c96_22 (ok_lit rfl rfl rfl) g3 g4 ?_
    intro u5
    obtain ⟨g6, w⟩ := w.ogd
    obtain ⟨M7, m8, w⟩ := w.mlet
    refine mE_iastore c96_23 (ok_lit rfl rfl rfl) g2 g6 u5 ?_
    refine mE_M m8 ?_
    obtain ⟨g9, w⟩ := w.ogd
    refine mE_iinc (ls2 := [some (.ref 142), some (.int (Int32.ofInt x1)), some (.int (Int32.ofInt x2)), some (.int (Int32.ofInt (x3 + 1)))]) c96_24 rfl (Nat.le_of_ble_eq_true rfl) rfl ?_
    refine mE_goto (t := 2) c96_27 rfl ?_
    exact w.osome g9
  · have w := w.neg e1
    refine mE_icmp_ge_T (t := 30) c96_5 rfl hx3 (r4_n rfl) e1 ?_
    have w := w.oinr
    exact mE_vret c96_30 qr96 w.osome
theorem t96_2 {X : Nat × Nat × qC} {d : Nat} {x1 : Int} {x2 : Int} {x3 : Int} {M : Mm}  {R : Mm → Prop} (hx1 : R4 x1) (hx2 : R4 x2) (hx3 : R4 x3) (w : Wp (f96_2 x1 x2 x3 M) R) : mE X (d + 0) 96 0 2 [some (.ref 142), some (.int (Int32.ofInt x1)), some (.int (Int32.ofInt x2)), some (.int (Int32.ofInt x3))] [] M (fun v M2 => R M2) :=
  Wp.olp (f := fun s : Int × Mm => lb96_2 x1 x2 s.1 s.2) (s := (x3, M)) (E := E96_2 X d x1 x2 R) w (fun s w hx3 => tb96_2 hx1 hx2 hx3 w) hx3
noncomputable def f96 (x1 : Int) (x2 : Int) (M : Mm) : Option (Mm) :=
  f96_2 x1 x2 0 M
theorem t96 {X : Nat × Nat × qC} {d : Nat} {x1 : Int} {x2 : Int} {M : Mm}  {R : Mm → Prop} (hx1 : R4 x1) (hx2 : R4 x2) (w : Wp (f96 x1 x2 M) R) : mE X (d + 0) 96 0 0 [some (.ref 142), some (.int (Int32.ofInt x1)), some (.int (Int32.ofInt x2)), none] [] M (fun v M2 => R M2) := by
  refine mE_iconst c96_0 ?_
  refine mE_istore_n (ls2 := [some (.ref 142), some (.int (Int32.ofInt x1)), some (.int (Int32.ofInt x2)), some (.int (Int32.ofInt 0))]) c96_1 (Nat.le_of_ble_eq_true rfl) rfl ?_
  exact t96_2 hx1 hx2 (r4_n rfl) w
theorem s96 {X : Nat × Nat × qC} {d : Nat} {x1 : Int} {x2 : Int} {M : Mm} {R : Mm → Prop} (hx1 : R4 x1) (hx2 : R4 x2) (w : Wp (f96 x1 x2 M) R) : mC X (d + 1) 96 0 [.ref 142, .int (Int32.ofInt x1), .int (Int32.ofInt x2)] M (fun v M2 => R M2) :=
  mC_of (qent_mk qx96 rfl rfl rfl) (t96 hx1 hx2 w)
/-! SaggingNetModel.mostOf -/
def E148_5 (X : Nat × Nat × qC) (d : Nat) (x1 : Int) (x2 : Int) (M : Mm) (R : Int → Prop) : Int × Int → Prop := fun s => R4 s.1 → R4 s.2 → mE X (d + 0) 148 1 5 [some (.ref 142), some (.int (Int32.ofInt x1)), some (.int (Int32.ofInt x2)), some (.int (Int32.ofInt s.1)), some (.int (Int32.ofInt s.2))] [] M (fun v M2 => M = M2 ∧ R v)
noncomputable def lb148_5 (x1 : Int) (x2 : Int) (x3 : Int) (x4 : Int) (M : Mm) : Option ((Int × Int) ⊕ (Int)) :=
  if x4 < (M 142 5) then
  (gd (R4 (x1 + 42)) (
  gd (R4 ((x1 + 42) + x4)) (
  gd (0 ≤ ((x1 + 42) + x4) ∧ ((x1 + 42) + x4) < 36400) (
  if (M 144 (((x1 + 42) + x4)).toNat) = 1 then
  (gd (0 ≤ x4 ∧ x4 < 9) (
  gd (0 ≤ (M 153 (x4).toNat) ∧ (M 153 (x4).toNat) < 8) (
  if (M 158 ((M 153 (x4).toNat)).toNat) = x2 then
  (gd (R4 (x3 + (M 154 (x4).toNat))) (
  gd (R4 (x4 + 1)) (
  some (.inl ((x3 + (M 154 (x4).toNat)), (x4 + 1))))))
  else
  (gd (R4 (x3 + 0)) (
  gd (R4 (x4 + 1)) (
  some (.inl ((x3 + 0), (x4 + 1)))))))))
  else
  (gd (R4 (x3 + 0)) (
  gd (R4 (x4 + 1)) (
  some (.inl ((x3 + 0), (x4 + 1))))))))))
  else
  (oinr (some x3))
noncomputable def f148_5 (x1 : Int) (x2 : Int) (x3 : Int) (x4 : Int) (M : Mm) : Option (Int) := lp (fun s : Int × Int => lb148_5 x1 x2 s.1 s.2 M) (x3, x4)
theorem tb148_5 {X : Nat × Nat × qC} {d : Nat} {x1 : Int} {x2 : Int} {x3 : Int} {x4 : Int} {M : Mm}  {R : Int → Prop} (hx1 : R4 x1) (hx2 : R4 x2) (hx3 : R4 x3) (hx4 : R4 x4) (w : Wp (lb148_5 x1 x2 x3 x4 M) (Sum.elim (E148_5 X d x1 x2 M R) R)) : mE X (d + 0) 148 1 5 [some (.ref 142), some (.int (Int32.ofInt x1)), some (.int (Int32.ofInt x2)), some (.int (Int32.ofInt x3)), some (.int (Int32.ofInt x4))] [] M (fun v M2 => M = M2 ∧ R v) := by
  refine mE_iload c148_5 rfl ?_
  refine mE_aload_n c148_7 rfl ?_
  refine mE_getI c148_8 qo148 qF12_197 (ok_lit rfl rfl rfl) rfl ?_
  intro u1
  by_cases e2 : x4 < (M 142 5)
  · have w := w.pos e2
    refine mE_icmp_ge_F (t := 66) c148_11 rfl hx4 u1 e2 ?_
    refine mE_iload_n c148_14 rfl ?_
    refine mE_aload_n c148_15 rfl ?_
    refine mE_getA c148_16 qo148 qF12_14 (ok_lit rfl rfl rfl) rfl ⟨by decide, by decide⟩ ?_
    refine mE_iload_n c148_19 rfl ?_
    refine mE_bipush (x := 42) c148_20 rfl ?_
    obtain ⟨g3, w⟩ := w.ogd
    refine mE_iadd c148_22 ?_
    refine mE_iload c148_23 rfl ?_
    obtain ⟨g4, w⟩ := w.ogd
    refine mE_iadd c148_25 ?_
    obtain ⟨g5, w⟩ := w.ogd
    refine mE_iaload c148_26 (ok_lit rfl rfl rfl) g4 g5 ?_
    intro u6
    refine mE_iconst c148_27 ?_
    by_cases e7 : (M 144 (((x1 + 42) + x4)).toNat) = 1
    · have w := w.pos e7
      refine mE_icmp_ne_F (t := 57) c148_28 rfl u6 (r4_n rfl) e7 ?_
      refine mE_aload_n c148_31 rfl ?_
      refine mE_getA c148_32 qo148 qF12_58 (ok_lit rfl rfl rfl) rfl ⟨by decide, by decide⟩ ?_
      refine mE_aload_n c148_35 rfl ?_
      refine mE_getA c148_36 qo148 qF12_42 (ok_lit rfl rfl rfl) rfl ⟨by decide, by decide⟩ ?_
      refine mE_iload c148_39 rfl ?_
      obtain ⟨g8, w⟩ := w.ogd
      refine mE_iaload c148_41 (ok_lit rfl rfl rfl) hx4 g8 ?_
      intro u9
      obtain ⟨g10, w⟩ := w.ogd
      refine mE_iaload c148_42 (ok_lit rfl rfl rfl) u9 g10 ?_
      intro u11
      refine mE_iload_n c148_43 rfl ?_
      by_cases e12 : (M 158 ((M 153 (x4).toNat)).toNat) = x2
      · have w := w.pos e12
        refine mE_icmp_ne_F (t := 57) c148_44 rfl u11 hx2 e12 ?_
        refine mE_aload_n c148_47 rfl ?_
        refine mE_getA c148_48 qo148 qF12_45 (ok_lit rfl rfl rfl) rfl ⟨by decide, by decide⟩ ?_
        refine mE_iload c148_51 rfl ?_
        refine mE_iaload c148_53 (ok_lit rfl rfl rfl) hx4 g8 ?_
        intro u13
        refine mE_goto (t := 58) c148_54 rfl ?_
        obtain ⟨g14, w⟩ := w.ogd
        refine mE_iadd c148_58 ?_
        refine mE_istore_n (ls2 := [some (.ref 142), some (.int (Int32.ofInt x1)), some (.int (Int32.ofInt x2)), some (.int (Int32.ofInt (x3 + (M 154 (x4).toNat)))), some (.int (Int32.ofInt x4))]) c148_59 (Nat.le_of_ble_eq_true rfl) rfl ?_
        obtain ⟨g15, w⟩ := w.ogd
        refine mE_iinc (ls2 := [some (.ref 142), some (.int (Int32.ofInt x1)), some (.int (Int32.ofInt x2)), some (.int (Int32.ofInt (x3 + (M 154 (x4).toNat)))), some (.int (Int32.ofInt (x4 + 1)))]) c148_60 rfl (Nat.le_of_ble_eq_true rfl) rfl ?_
        refine mE_goto (t := 5) c148_63 rfl ?_
        exact w.osome g14 g15
      · have w := w.neg e12
        refine mE_icmp_ne_T (t := 57) c148_44 rfl u11 hx2 e12 ?_
        refine mE_iconst c148_57 ?_
        obtain ⟨g13, w⟩ := w.ogd
        refine mE_iadd c148_58 ?_
        refine mE_istore_n (ls2 := [some (.ref 142), some (.int (Int32.ofInt x1)), some (.int (Int32.ofInt x2)), some (.int (Int32.ofInt (x3 + 0))), some (.int (Int32.ofInt x4))]) c148_59 (Nat.le_of_ble_eq_true rfl) rfl ?_
        obtain ⟨g14, w⟩ := w.ogd
        refine mE_iinc (ls2 := [some (.ref 142), some (.int (Int32.ofInt x1)), some (.int (Int32.ofInt x2)), some (.int (Int32.ofInt (x3 + 0))), some (.int (Int32.ofInt (x4 + 1)))]) c148_60 rfl (Nat.le_of_ble_eq_true rfl) rfl ?_
        refine mE_goto (t := 5) c148_63 rfl ?_
        exact w.osome g13 g14
    · have w := w.neg e7
      refine mE_icmp_ne_T (t := 57) c148_28 rfl u6 (r4_n rfl) e7 ?_
      refine mE_iconst c148_57 ?_
      obtain ⟨g8, w⟩ := w.ogd
      refine mE_iadd c148_58 ?_
      refine mE_istore_n (ls2 := [some (.ref 142), some (.int (Int32.ofInt x1)), some (.int (Int32.ofInt x2)), some (.int (Int32.ofInt (x3 + 0))), some (.int (Int32.ofInt x4))]) c148_59 (Nat.le_of_ble_eq_true rfl) rfl ?_
      obtain ⟨g9, w⟩ := w.ogd
      refine mE_iinc (ls2 := [some (.ref 142), some (.int (Int32.ofInt x1)), some (.int (Int32.ofInt x2)), some (.int (Int32.ofInt (x3 + 0))), some (.int (Int32.ofInt (x4 + 1)))]) c148_60 rfl (Nat.le_of_ble_eq_true rfl) rfl ?_
      refine mE_goto (t := 5) c148_63 rfl ?_
      exact w.osome g8 g9
  · have w := w.neg e2
    refine mE_icmp_ge_T (t := 66) c148_11 rfl hx4 u1 e2 ?_
    have w := w.oinr
    refine mE_iload_n c148_66 rfl ?_
    exact mE_iret c148_67 qr148 hx3 ⟨rfl, w.osome⟩
theorem t148_5 {X : Nat × Nat × qC} {d : Nat} {x1 : Int} {x2 : Int} {x3 : Int} {x4 : Int} {M : Mm}  {R : Int → Prop} (hx1 : R4 x1) (hx2 : R4 x2) (hx3 : R4 x3) (hx4 : R4 x4) (w : Wp (f148_5 x1 x2 x3 x4 M) R) : mE X (d + 0) 148 1 5 [some (.ref 142), some (.int (Int32.ofInt x1)), some (.int (Int32.ofInt x2)), some (.int (Int32.ofInt x3)), some (.int (Int32.ofInt x4))] [] M (fun v M2 => M = M2 ∧ R v) :=
  Wp.olp (f := fun s : Int × Int => lb148_5 x1 x2 s.1 s.2 M) (s := (x3, x4)) (E := E148_5 X d x1 x2 M R) w (fun s w hx3 hx4 => tb148_5 hx1 hx2 hx3 hx4 w) hx3 hx4
noncomputable def f148 (x1 : Int) (x2 : Int) (M : Mm) : Option (Int) :=
  f148_5 x1 x2 0 0 M
theorem t148 {X : Nat × Nat × qC} {d : Nat} {x1 : Int} {x2 : Int} {M : Mm}  {R : Int → Prop} (hx1 : R4 x1) (hx2 : R4 x2) (w : Wp (f148 x1 x2 M) R) : mE X (d + 0) 148 1 0 [some (.ref 142), some (.int (Int32.ofInt x1)), some (.int (Int32.ofInt x2)), none, none] [] M (fun v M2 => M = M2 ∧ R v) := by
  refine mE_iconst c148_0 ?_
  refine mE_istore_n (ls2 := [some (.ref 142), some (.int (Int32.ofInt x1)), some (.int (Int32.ofInt x2)), some (.int (Int32.ofInt 0)), none]) c148_1 (Nat.le_of_ble_eq_true rfl) rfl ?_
  refine mE_iconst c148_2 ?_
  refine mE_istore (ls2 := [some (.ref 142), some (.int (Int32.ofInt x1)), some (.int (Int32.ofInt x2)), some (.int (Int32.ofInt 0)), some (.int (Int32.ofInt 0))]) c148_3 (Nat.le_of_ble_eq_true rfl) rfl ?_
  exact t148_5 hx1 hx2 (r4_n rfl) (r4_n rfl) w
theorem s148 {X : Nat × Nat × qC} {d : Nat} {x1 : Int} {x2 : Int} {M : Mm} {R : Int → Prop} (hx1 : R4 x1) (hx2 : R4 x2) (w : Wp (f148 x1 x2 M) R) : mC X (d + 1) 148 1 [.ref 142, .int (Int32.ofInt x1), .int (Int32.ofInt x2)] M (fun v M2 => M = M2 ∧ R v) :=
  mC_of (qent_mk qx148 rfl rfl rfl) (t148 hx1 hx2 w)
/-! SaggingNetModel.loadOf -/
noncomputable def f145 (x1 : Int) (x2 : Int) (M : Mm) : Option (Int) :=
  gd (R4 (x1 + 51)) (
  gd (R4 ((x1 + 51) + x2)) (
  gd (0 ≤ ((x1 + 51) + x2) ∧ ((x1 + 51) + x2) < 36400) (
  if (M 144 (((x1 + 51) + x2)).toNat) = 1 then
  (some 0)
  else
  (gd (R4 (x1 + 59)) (
  gd (R4 ((x1 + 59) + x2)) (
  gd (0 ≤ ((x1 + 59) + x2) ∧ ((x1 + 59) + x2) < 36400) (
  some (M 144 (((x1 + 59) + x2)).toNat))))))))
theorem t145 {X : Nat × Nat × qC} {d : Nat} {x1 : Int} {x2 : Int} {M : Mm}  {R : Int → Prop} (hx1 : R4 x1) (hx2 : R4 x2) (w : Wp (f145 x1 x2 M) R) : mE X (d + 0) 145 1 0 [some (.ref 142), some (.int (Int32.ofInt x1)), some (.int (Int32.ofInt x2))] [] M (fun v M2 => M = M2 ∧ R v) := by
  refine mE_aload_n c145_0 rfl ?_
  refine mE_getA c145_1 qo145 qF12_14 (ok_lit rfl rfl rfl) rfl ⟨by decide, by decide⟩ ?_
  refine mE_iload_n c145_4 rfl ?_
  refine mE_bipush (x := 51) c145_5 rfl ?_
  obtain ⟨g1, w⟩ := w.ogd
  refine mE_iadd c145_7 ?_
  refine mE_iload_n c145_8 rfl ?_
  obtain ⟨g2, w⟩ := w.ogd
  refine mE_iadd c145_9 ?_
  obtain ⟨g3, w⟩ := w.ogd
  refine mE_iaload c145_10 (ok_lit rfl rfl rfl) g2 g3 ?_
  intro u4
  refine mE_iconst c145_11 ?_
  by_cases e5 : (M 144 (((x1 + 51) + x2)).toNat) = 1
  · have w := w.pos e5
    refine mE_icmp_ne_F (t := 19) c145_12 rfl u4 (r4_n rfl) e5 ?_
    refine mE_iconst c145_15 ?_
    refine mE_goto (t := 30) c145_16 rfl ?_
    exact mE_iret c145_30 qr145 (r4_n rfl) ⟨rfl, w.osome⟩
  · have w := w.neg e5
    refine mE_icmp_ne_T (t := 19) c145_12 rfl u4 (r4_n rfl) e5 ?_
    refine mE_aload_n c145_19 rfl ?_
    refine mE_getA c145_20 qo145 qF12_14 (ok_lit rfl rfl rfl) rfl ⟨by decide, by decide⟩ ?_
    refine mE_iload_n c145_23 rfl ?_
    refine mE_bipush (x := 59) c145_24 rfl ?_
    obtain ⟨g6, w⟩ := w.ogd
    refine mE_iadd c145_26 ?_
    refine mE_iload_n c145_27 rfl ?_
    obtain ⟨g7, w⟩ := w.ogd
    refine mE_iadd c145_28 ?_
    obtain ⟨g8, w⟩ := w.ogd
    refine mE_iaload c145_29 (ok_lit rfl rfl rfl) g7 g8 ?_
    intro u9
    exact mE_iret c145_30 qr145 u9 ⟨rfl, w.osome⟩
theorem s145 {X : Nat × Nat × qC} {d : Nat} {x1 : Int} {x2 : Int} {M : Mm} {R : Int → Prop} (hx1 : R4 x1) (hx2 : R4 x2) (w : Wp (f145 x1 x2 M) R) : mC X (d + 1) 145 1 [.ref 142, .int (Int32.ofInt x1), .int (Int32.ofInt x2)] M (fun v M2 => M = M2 ∧ R v) :=
  mC_of (qent_mk qx145 rfl rfl rfl) (t145 hx1 hx2 w)
/-! SaggingNetModel.loadsOf -/
def E146_5 (X : Nat × Nat × qC) (d : Nat) (x1 : Int) (x2 : Int) (M : Mm) (R : Int → Prop) : Int × Int → Prop := fun s => R4 s.1 → R4 s.2 → mE X (d + 1) 146 1 5 [some (.ref 142), some (.int (Int32.ofInt x1)), some (.int (Int32.ofInt x2)), some (.int (Int32.ofInt s.1)), some (.int (Int32.ofInt s.2))] [] M (fun v M2 => M = M2 ∧ R v)
noncomputable def lb146_5 (x1 : Int) (x2 : Int) (x3 : Int) (x4 : Int) (M : Mm) : Option ((Int × Int) ⊕ (Int)) :=
  if x4 < (M 142 3) then
  (gd (0 ≤ x4 ∧ x4 < 8) (
  if (M 158 (x4).toNat) = x2 then
  ((f145 x1 x4 M).bind fun v6 =>
  gd (R4 (x3 + v6)) (
  gd (R4 (x4 + 1)) (
  some (.inl ((x3 + v6), (x4 + 1))))))
  else
  (gd (R4 (x3 + 0)) (
  gd (R4 (x4 + 1)) (
  some (.inl ((x3 + 0), (x4 + 1))))))))
  else
  (oinr (some x3))
noncomputable def f146_5 (x1 : Int) (x2 : Int) (x3 : Int) (x4 : Int) (M : Mm) : Option (Int) := lp (fun s : Int × Int => lb146_5 x1 x2 s.1 s.2 M) (x3, x4)
theorem tb146_5 {X : Nat × Nat × qC} {d : Nat} {x1 : Int} {x2 : Int} {x3 : Int} {x4 : Int} {M : Mm}  {R : Int → Prop} (hx1 : R4 x1) (hx2 : R4 x2) (hx3 : R4 x3) (hx4 : R4 x4) (w : Wp (lb146_5 x1 x2 x3 x4 M) (Sum.elim (E146_5 X d x1 x2 M R) R)) : mE X (d + 1) 146 1 5 [some (.ref 142), some (.int (Int32.ofInt x1)), some (.int (Int32.ofInt x2)), some (.int (Int32.ofInt x3)), some (.int (Int32.ofInt x4))] [] M (fun v M2 => M = M2 ∧ R v) := by
  refine mE_iload c146_5 rfl ?_
  refine mE_aload_n c146_7 rfl ?_
  refine mE_getI c146_8 qo146 qF12_186 (ok_lit rfl rfl rfl) rfl ?_
  intro u1
  by_cases e2 : x4 < (M 142 3)
  · have w := w.pos e2
    refine mE_icmp_ge_F (t := 45) c146_11 rfl hx4 u1 e2 ?_
    refine mE_iload_n c146_14 rfl ?_
    refine mE_aload_n c146_15 rfl ?_
    refine mE_getA c146_16 qo146 qF12_58 (ok_lit rfl rfl rfl) rfl ⟨by decide, by decide⟩ ?_
    refine mE_iload c146_19 rfl ?_
    obtain ⟨g3, w⟩ := w.ogd
    refine mE_iaload c146_21 (ok_lit rfl rfl rfl) hx4 g3 ?_
    intro u4
    refine mE_iload_n c146_22 rfl ?_
    by_cases e5 : (M 158 (x4).toNat) = x2
    · have w := w.pos e5
      refine mE_icmp_ne_F (t := 36) c146_23 rfl u4 hx2 e5 ?_
      refine mE_aload_n c146_26 rfl ?_
      refine mE_iload_n c146_27 rfl ?_
      refine mE_iload c146_28 rfl ?_
      refine mE_virtual1 (b := 142) (as := [.int (Int32.ofInt x1), .int (Int32.ofInt x4)]) (r := [.int (Int32.ofInt x3)]) c146_30 qo146 qK12_235 qo145 rfl rfl rfl (ok_lit rfl rfl rfl) (Nat.le_of_ble_eq_true rfl) (s145 (d := d + 0) hx1 hx4 w.obind) ?_
      rintro v6 _ q8 ⟨rfl, w⟩
      refine mE_goto (t := 37) c146_33 rfl ?_
      obtain ⟨g9, w⟩ := w.ogd
      refine mE_iadd c146_37 ?_
      refine mE_istore_n (ls2 := [some (.ref 142), some (.int (Int32.ofInt x1)), some (.int (Int32.ofInt x2)), some (.int (Int32.ofInt (x3 + v6))), some (.int (Int32.ofInt x4))]) c146_38 (Nat.le_of_ble_eq_true rfl) rfl ?_
      obtain ⟨g10, w⟩ := w.ogd
      refine mE_iinc (ls2 := [some (.ref 142), some (.int (Int32.ofInt x1)), some (.int (Int32.ofInt x2)), some (.int (Int32.ofInt (x3 + v6))), some (.int (Int32.ofInt (x4 + 1)))]) c146_39 rfl (Nat.le_of_ble_eq_true rfl) rfl ?_
      refine mE_goto (t := 5) c146_42 rfl ?_
      exact w.osome g9 g10
    · have w := w.neg e5
      refine mE_icmp_ne_T (t := 36) c146_23 rfl u4 hx2 e5 ?_
      refine mE_iconst c146_36 ?_
      obtain ⟨g6, w⟩ := w.ogd
      refine mE_iadd c146_37 ?_
      refine mE_istore_n (ls2 := [some (.ref 142), some (.int (Int32.ofInt x1)), some (.int (Int32.ofInt x2)), some (.int (Int32.ofInt (x3 + 0))), some (.int (Int32.ofInt x4))]) c146_38 (Nat.le_of_ble_eq_true rfl) rfl ?_
      obtain ⟨g7, w⟩ := w.ogd
      refine mE_iinc (ls2 := [some (.ref 142), some (.int (Int32.ofInt x1)), some (.int (Int32.ofInt x2)), some (.int (Int32.ofInt (x3 + 0))), some (.int (Int32.ofInt (x4 + 1)))]) c146_39 rfl (Nat.le_of_ble_eq_true rfl) rfl ?_
      refine mE_goto (t := 5) c146_42 rfl ?_
      exact w.osome g6 g7
  · have w := w.neg e2
    refine mE_icmp_ge_T (t := 45) c146_11 rfl hx4 u1 e2 ?_
    have w := w.oinr
    refine mE_iload_n c146_45 rfl ?_
    exact mE_iret c146_46 qr146 hx3 ⟨rfl, w.osome⟩
theorem t146_5 {X : Nat × Nat × qC} {d : Nat} {x1 : Int} {x2 : Int} {x3 : Int} {x4 : Int} {M : Mm}  {R : Int → Prop} (hx1 : R4 x1) (hx2 : R4 x2) (hx3 : R4 x3) (hx4 : R4 x4) (w : Wp (f146_5 x1 x2 x3 x4 M) R) : mE X (d + 1) 146 1 5 [some (.ref 142), some (.int (Int32.ofInt x1)), some (.int (Int32.ofInt x2)), some (.int (Int32.ofInt x3)), some (.int (Int32.ofInt x4))] [] M (fun v M2 => M = M2 ∧ R v) :=
  Wp.olp (f := fun s : Int × Int => lb146_5 x1 x2 s.1 s.2 M) (s := (x3, x4)) (E := E146_5 X d x1 x2 M R) w (fun s w hx3 hx4 => tb146_5 hx1 hx2 hx3 hx4 w) hx3 hx4
noncomputable def f146 (x1 : Int) (x2 : Int) (M : Mm) : Option (Int) :=
  f146_5 x1 x2 0 0 M
theorem t146 {X : Nat × Nat × qC} {d : Nat} {x1 : Int} {x2 : Int} {M : Mm}  {R : Int → Prop} (hx1 : R4 x1) (hx2 : R4 x2) (w : Wp (f146 x1 x2 M) R) : mE X (d + 1) 146 1 0 [some (.ref 142), some (.int (Int32.ofInt x1)), some (.int (Int32.ofInt x2)), none, none] [] M (fun v M2 => M = M2 ∧ R v) := by
  refine mE_iconst c146_0 ?_
  refine mE_istore_n (ls2 := [some (.ref 142), some (.int (Int32.ofInt x1)), some (.int (Int32.ofInt x2)), some (.int (Int32.ofInt 0)), none]) c146_1 (Nat.le_of_ble_eq_true rfl) rfl ?_
  refine mE_iconst c146_2 ?_
  refine mE_istore (ls2 := [some (.ref 142), some (.int (Int32.ofInt x1)), some (.int (Int32.ofInt x2)), some (.int (Int32.ofInt 0)), some (.int (Int32.ofInt 0))]) c146_3 (Nat.le_of_ble_eq_true rfl) rfl ?_
  exact t146_5 hx1 hx2 (r4_n rfl) (r4_n rfl) w
theorem s146 {X : Nat × Nat × qC} {d : Nat} {x1 : Int} {x2 : Int} {M : Mm} {R : Int → Prop} (hx1 : R4 x1) (hx2 : R4 x2) (w : Wp (f146 x1 x2 M) R) : mC X (d + 2) 146 1 [.ref 142, .int (Int32.ofInt x1), .int (Int32.ofInt x2)] M (fun v M2 => M = M2 ∧ R v) :=
  mC_of (qent_mk qx146 rfl rfl rfl) (t146 hx1 hx2 w)
