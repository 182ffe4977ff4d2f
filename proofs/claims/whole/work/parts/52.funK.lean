/-! SaggingNetModel.shown -/
noncomputable def f166 (x1 : Int) (x2 : Int) (x3 : Int) (M : Mm) : Option (Int) :=
  (f126 x1 M).bind fun v1 =>
  if v1 = 0 then
  (some (-1))
  else
  ((f136 x2 M).bind fun v5 =>
  if v5 = 0 then
  (some (-1))
  else
  ((f143 x3 0 2 M).bind fun v9 =>
  if v9 = 0 then
  (some (-1))
  else
  (gd (0 ≤ x1 ∧ x1 < 4) (
  if (M 190 (x1).toNat) = (-1) then
  (some (-1))
  else
  ((f167 x1 x2 M).bind fun v16 =>
  if v16 = 0 then
  (some (-1))
  else
  (if x3 = 0 then
  (gd (R4 (14 * (M 190 (x1).toNat))) (
  gd (R4 ((14 * (M 190 (x1).toNat)) + x2)) (
  gd (0 ≤ ((14 * (M 190 (x1).toNat)) + x2) ∧ ((14 * (M 190 (x1).toNat)) + x2) < 7000) (
  if (M 184 (((14 * (M 190 (x1).toNat)) + x2)).toNat) = 0 then
  (some 0)
  else
  (some 1)))))
  else
  (if x3 = 1 then
  (gd (R4 (14 * (M 190 (x1).toNat))) (
  gd (R4 ((14 * (M 190 (x1).toNat)) + x2)) (
  gd (0 ≤ ((14 * (M 190 (x1).toNat)) + x2) ∧ ((14 * (M 190 (x1).toNat)) + x2) < 7000) (
  some (M 183 (((14 * (M 190 (x1).toNat)) + x2)).toNat)))))
  else
  (some (M 190 (x1).toNat)))))))))
theorem t166 {X : Nat × Nat × qC} {d : Nat} {x1 : Int} {x2 : Int} {x3 : Int} {M : Mm}  {R : Int → Prop} (hx1 : R4 x1) (hx2 : R4 x2) (hx3 : R4 x3) (w : Wp (f166 x1 x2 x3 M) R) : mE X (d + 2) 166 2 0 [some (.ref 142), some (.int (Int32.ofInt x1)), some (.int (Int32.ofInt x2)), some (.int (Int32.ofInt x3))] [] M (fun v M2 => M = M2 ∧ R v) := by
  refine mE_iload_n c166_0 rfl ?_
  refine mE_static1 (as := [.int (Int32.ofInt x1)]) (r := []) c166_1 qo166 (by decide) qK12_205 rfl rfl rfl (Nat.le_of_ble_eq_true rfl) (s126 (d := d + 0) hx1 w.obind) ?_
  rintro v1 _ q3 ⟨rfl, w⟩
  by_cases e4 : v1 = 0
  · have w := w.pos e4
    refine mE_if_eq_T (t := 46) c166_4 rfl q3 e4 ?_
    refine mE_ldc2_w (x := (-1)) c166_46 qo166 qJ12_482 rfl ?_
    exact mE_lret c166_49 qr166 (r8_n rfl) ⟨rfl, w.osome⟩
  · have w := w.neg e4
    refine mE_if_eq_F (t := 46) c166_4 rfl q3 e4 ?_
    refine mE_aload_n c166_7 rfl ?_
    refine mE_iload_n c166_8 rfl ?_
    refine mE_virtual1 (b := 142) (as := [.int (Int32.ofInt x2)]) (r := []) c166_9 qo166 qK12_224 qo136 rfl rfl rfl (ok_lit rfl rfl rfl) (Nat.le_of_ble_eq_true rfl) (s136 (d := d + 0) hx2 w.obind) ?_
    rintro v5 _ q7 ⟨rfl, w⟩
    by_cases e8 : v5 = 0
    · have w := w.pos e8
      refine mE_if_eq_T (t := 46) c166_12 rfl q7 e8 ?_
      refine mE_ldc2_w (x := (-1)) c166_46 qo166 qJ12_482 rfl ?_
      exact mE_lret c166_49 qr166 (r8_n rfl) ⟨rfl, w.osome⟩
    · have w := w.neg e8
      refine mE_if_eq_F (t := 46) c166_12 rfl q7 e8 ?_
      refine mE_iload_n c166_15 rfl ?_
      refine mE_i2l c166_16 hx3 ?_
      refine mE_lconst (x := 0) c166_17 rfl ?_
      refine mE_ldc2_w (x := 2) c166_18 qo166 qJ12_477 rfl ?_
      refine mE_static1 (as := [.long (Int64.ofInt x3), .long (Int64.ofInt 0), .long (Int64.ofInt 2)]) (r := []) c166_21 qo166 (by decide) qK12_190 rfl rfl rfl (Nat.le_of_ble_eq_true rfl) (s143 (d := d + 1) (R4.to8 hx3) (r8_n rfl) (r8_n rfl) w.obind) ?_
      rintro v9 _ q11 ⟨rfl, w⟩
      by_cases e12 : v9 = 0
      · have w := w.pos e12
        refine mE_if_eq_T (t := 46) c166_24 rfl q11 e12 ?_
        refine mE_ldc2_w (x := (-1)) c166_46 qo166 qJ12_482 rfl ?_
        exact mE_lret c166_49 qr166 (r8_n rfl) ⟨rfl, w.osome⟩
      · have w := w.neg e12
        refine mE_if_eq_F (t := 46) c166_24 rfl q11 e12 ?_
        refine mE_aload_n c166_27 rfl ?_
        refine mE_getA c166_28 qo166 qF12_155 (ok_lit rfl rfl rfl) rfl ⟨by decide, by decide⟩ ?_
        refine mE_iload_n c166_31 rfl ?_
        obtain ⟨g13, w⟩ := w.ogd
        refine mE_iaload c166_32 (ok_lit rfl rfl rfl) hx1 g13 ?_
        intro u14
        refine mE_iconst c166_33 ?_
        by_cases e15 : (M 190 (x1).toNat) = (-1)
        · have w := w.pos e15
          refine mE_icmp_eq_T (t := 46) c166_34 rfl u14 (r4_n rfl) e15 ?_
          refine mE_ldc2_w (x := (-1)) c166_46 qo166 qJ12_482 rfl ?_
          exact mE_lret c166_49 qr166 (r8_n rfl) ⟨rfl, w.osome⟩
        · have w := w.neg e15
          refine mE_icmp_eq_F (t := 46) c166_34 rfl u14 (r4_n rfl) e15 ?_
          refine mE_aload_n c166_37 rfl ?_
          refine mE_iload_n c166_38 rfl ?_
          refine mE_iload_n c166_39 rfl ?_
          refine mE_virtual1 (b := 142) (as := [.int (Int32.ofInt x1), .int (Int32.ofInt x2)]) (r := []) c166_40 qo166 qK12_479 qo167 rfl rfl rfl (ok_lit rfl rfl rfl) (Nat.le_of_ble_eq_true rfl) (s167 (d := d + 1) hx1 hx2 w.obind) ?_
          rintro v16 _ q18 ⟨rfl, w⟩
          by_cases e19 : v16 = 0
          · have w := w.pos e19
            refine mE_if_ne_F (t := 50) c166_43 rfl q18 e19 ?_
            refine mE_ldc2_w (x := (-1)) c166_46 qo166 qJ12_482 rfl ?_
            exact mE_lret c166_49 qr166 (r8_n rfl) ⟨rfl, w.osome⟩
          · have w := w.neg e19
            refine mE_if_ne_T (t := 50) c166_43 rfl q18 e19 ?_
            refine mE_iload_n c166_50 rfl ?_
            by_cases e20 : x3 = 0
            · have w := w.pos e20
              refine mE_if_ne_F (t := 81) c166_51 rfl hx3 e20 ?_
              refine mE_aload_n c166_54 rfl ?_
              refine mE_getA c166_55 qo166 qF12_137 (ok_lit rfl rfl rfl) rfl ⟨by decide, by decide⟩ ?_
              refine mE_bipush (x := 14) c166_58 rfl ?_
              refine mE_aload_n c166_60 rfl ?_
              refine mE_getA c166_61 qo166 qF12_155 (ok_lit rfl rfl rfl) rfl ⟨by decide, by decide⟩ ?_
              refine mE_iload_n c166_64 rfl ?_
              refine mE_iaload c166_65 (ok_lit rfl rfl rfl) hx1 g13 ?_
              intro u21
              obtain ⟨g22, w⟩ := w.ogd
              refine mE_imul c166_66 ?_
              refine mE_iload_n c166_67 rfl ?_
              obtain ⟨g23, w⟩ := w.ogd
              refine mE_iadd c166_68 ?_
              obtain ⟨g24, w⟩ := w.ogd
              refine mE_zaload c166_69 (ok_lit rfl rfl rfl) g23 g24 ?_
              intro u25
              by_cases e26 : (M 184 (((14 * (M 190 (x1).toNat)) + x2)).toNat) = 0
              · have w := w.pos e26
                refine mE_if_eq_T (t := 77) c166_70 rfl u25 e26 ?_
                refine mE_lconst (x := 0) c166_77 rfl ?_
                refine mE_goto (t := 113) c166_78 rfl ?_
                exact mE_lret c166_113 qr166 (r8_n rfl) ⟨rfl, w.osome⟩
              · have w := w.neg e26
                refine mE_if_eq_F (t := 77) c166_70 rfl u25 e26 ?_
                refine mE_lconst (x := 1) c166_73 rfl ?_
                refine mE_goto (t := 113) c166_74 rfl ?_
                exact mE_lret c166_113 qr166 (r8_n rfl) ⟨rfl, w.osome⟩
            · have w := w.neg e20
              refine mE_if_ne_T (t := 81) c166_51 rfl hx3 e20 ?_
              refine mE_iload_n c166_81 rfl ?_
              refine mE_iconst c166_82 ?_
              by_cases e21 : x3 = 1
              · have w := w.pos e21
                refine mE_icmp_ne_F (t := 106) c166_83 rfl hx3 (r4_n rfl) e21 ?_
                refine mE_aload_n c166_86 rfl ?_
                refine mE_getA c166_87 qo166 qF12_134 (ok_lit rfl rfl rfl) rfl ⟨by decide, by decide⟩ ?_
                refine mE_bipush (x := 14) c166_90 rfl ?_
                refine mE_aload_n c166_92 rfl ?_
                refine mE_getA c166_93 qo166 qF12_155 (ok_lit rfl rfl rfl) rfl ⟨by decide, by decide⟩ ?_
                refine mE_iload_n c166_96 rfl ?_
                refine mE_iaload c166_97 (ok_lit rfl rfl rfl) hx1 g13 ?_
                intro u22
                obtain ⟨g23, w⟩ := w.ogd
                refine mE_imul c166_98 ?_
                refine mE_iload_n c166_99 rfl ?_
                obtain ⟨g24, w⟩ := w.ogd
                refine mE_iadd c166_100 ?_
                obtain ⟨g25, w⟩ := w.ogd
                refine mE_iaload c166_101 (ok_lit rfl rfl rfl) g24 g25 ?_
                intro u26
                refine mE_i2l c166_102 u26 ?_
                refine mE_goto (t := 113) c166_103 rfl ?_
                exact mE_lret c166_113 qr166 (R4.to8 u26) ⟨rfl, w.osome⟩
              · have w := w.neg e21
                refine mE_icmp_ne_T (t := 106) c166_83 rfl hx3 (r4_n rfl) e21 ?_
                refine mE_aload_n c166_106 rfl ?_
                refine mE_getA c166_107 qo166 qF12_155 (ok_lit rfl rfl rfl) rfl ⟨by decide, by decide⟩ ?_
                refine mE_iload_n c166_110 rfl ?_
                refine mE_iaload c166_111 (ok_lit rfl rfl rfl) hx1 g13 ?_
                intro u22
                refine mE_i2l c166_112 u22 ?_
                exact mE_lret c166_113 qr166 (R4.to8 u22) ⟨rfl, w.osome⟩
theorem s166 {X : Nat × Nat × qC} {d : Nat} {x1 : Int} {x2 : Int} {x3 : Int} {M : Mm} {R : Int → Prop} (hx1 : R4 x1) (hx2 : R4 x2) (hx3 : R4 x3) (w : Wp (f166 x1 x2 x3 M) R) : mC X (d + 3) 166 2 [.ref 142, .int (Int32.ofInt x1), .int (Int32.ofInt x2), .int (Int32.ofInt x3)] M (fun v M2 => M = M2 ∧ R v) :=
  mC_of (qent_mk qx166 rfl rfl rfl) (t166 hx1 hx2 hx3 w)
/-! SaggingNetModel.sign -/
def E168_45 (X : Nat × Nat × qC) (d : Nat) (x1 : Int) (x2 : Int) (M : Mm) (R : Int → Prop) : Int → Prop := fun s => R4 s → ∀ (o4 : Option Value), ∀ (o5 : Option Value), mE X (d + 2) 168 1 45 [some (.ref 142), some (.int (Int32.ofInt x1)), some (.int (Int32.ofInt x2)), some (.int (Int32.ofInt s)), o4, o5] [] M (fun v M2 => M = M2 ∧ R v)
def E168_35 (X : Nat × Nat × qC) (d : Nat) (x1 : Int) (M : Mm) (R : Int → Prop) : Int → Prop := fun s => R4 s → ∀ (o3 : Option Value), ∀ (o4 : Option Value), ∀ (o5 : Option Value), mE X (d + 2) 168 1 35 [some (.ref 142), some (.int (Int32.ofInt x1)), some (.int (Int32.ofInt s)), o3, o4, o5] [] M (fun v M2 => M = M2 ∧ R v)
noncomputable def f168_119 (x1 : Int) (x2 : Int) (x3 : Int) (M : Mm) : Option ((Int) ⊕ ((Int) ⊕ (Int))) :=
  gd (R4 (x3 + 1)) (
  some (.inl ((x3 + 1))))
theorem t168_119 {X : Nat × Nat × qC} {d : Nat} {x1 : Int} {x2 : Int} {x3 : Int} {M : Mm} {y4 : Int32} {y5 : Int32} {R : Int → Prop} (hx1 : R4 x1) (hx2 : R4 x2) (hx3 : R4 x3) (w : Wp (f168_119 x1 x2 x3 M) (Sum.elim (E168_45 X d x1 x2 M R) (Sum.elim (E168_35 X d x1 M R) R))) : mE X (d + 2) 168 1 119 [some (.ref 142), some (.int (Int32.ofInt x1)), some (.int (Int32.ofInt x2)), some (.int (Int32.ofInt x3)), some (.int y4), some (.int y5)] [] M (fun v M2 => M = M2 ∧ R v) := by
  obtain ⟨g1, w⟩ := w.ogd
  refine mE_iinc (ls2 := [some (.ref 142), some (.int (Int32.ofInt x1)), some (.int (Int32.ofInt x2)), some (.int (Int32.ofInt (x3 + 1))), some (.int y4), some (.int y5)]) c168_119 rfl (Nat.le_of_ble_eq_true rfl) rfl ?_
  refine mE_goto (t := 45) c168_122 rfl ?_
  exact w.osome g1 _ _
noncomputable def lb168_45 (x1 : Int) (x2 : Int) (x3 : Int) (M : Mm) : Option ((Int) ⊕ ((Int) ⊕ (Int))) :=
  if x3 < (M 142 4) then
  (gd (R4 (14 * x2)) (
  gd (R4 ((14 * x2) + x3)) (
  gd (0 ≤ x1 ∧ x1 < 4) (
  gd (R4 (14 * (M 190 (x1).toNat))) (
  gd (R4 ((14 * (M 190 (x1).toNat)) + x3)) (
  (f167 x1 x3 M).bind fun v9 =>
  if v9 = 0 then
  (f168_119 x1 x2 x3 M)
  else
  (gd (0 ≤ ((14 * x2) + x3) ∧ ((14 * x2) + x3) < 7000) (
  gd (0 ≤ ((14 * (M 190 (x1).toNat)) + x3) ∧ ((14 * (M 190 (x1).toNat)) + x3) < 7000) (
  if (M 184 (((14 * x2) + x3)).toNat) = (M 184 (((14 * (M 190 (x1).toNat)) + x3)).toNat) then
  (if (M 183 (((14 * x2) + x3)).toNat) = (M 183 (((14 * (M 190 (x1).toNat)) + x3)).toNat) then
  (f168_119 x1 x2 x3 M)
  else
  (oinr (oinr (some x2))))
  else
  (oinr (oinr (some x2))))))))))))
  else
  (oinr (gd (R4 (x2 + 1)) (
  some (.inl ((x2 + 1))))))
noncomputable def f168_45 (x1 : Int) (x2 : Int) (x3 : Int) (M : Mm) : Option ((Int) ⊕ (Int)) := lp (fun s : Int => lb168_45 x1 x2 s M) x3
theorem tb168_45 {X : Nat × Nat × qC} {d : Nat} {x1 : Int} {x2 : Int} {x3 : Int} {M : Mm} {o4 : Option Value} {o5 : Option Value} {R : Int → Prop} (hx1 : R4 x1) (hx2 : R4 x2) (hx3 : R4 x3) (w : Wp (lb168_45 x1 x2 x3 M) (Sum.elim (E168_45 X d x1 x2 M R) (Sum.elim (E168_35 X d x1 M R) R))) : mE X (d + 2) 168 1 45 [some (.ref 142), some (.int (Int32.ofInt x1)), some (.int (Int32.ofInt x2)), some (.int (Int32.ofInt x3)), o4, o5] [] M (fun v M2 => M = M2 ∧ R v) := by
  refine mE_iload_n c168_45 rfl ?_
  refine mE_aload_n c168_46 rfl ?_
  refine mE_getI c168_47 qo168 qF12_194 (ok_lit rfl rfl rfl) rfl ?_
  intro u1
  by_cases e2 : x3 < (M 142 4)
  · have w := w.pos e2
    refine mE_icmp_ge_F (t := 125) c168_50 rfl hx3 u1 e2 ?_
    refine mE_bipush (x := 14) c168_53 rfl ?_
    refine mE_iload_n c168_55 rfl ?_
    obtain ⟨g3, w⟩ := w.ogd
    refine mE_imul c168_56 ?_
    refine mE_iload_n c168_57 rfl ?_
    obtain ⟨g4, w⟩ := w.ogd
    refine mE_iadd c168_58 ?_
    refine mE_istore (ls2 := [some (.ref 142), some (.int (Int32.ofInt x1)), some (.int (Int32.ofInt x2)), some (.int (Int32.ofInt x3)), some (.int (Int32.ofInt ((14 * x2) + x3))), o5]) c168_59 (Nat.le_of_ble_eq_true rfl) rfl ?_
    refine mE_bipush (x := 14) c168_61 rfl ?_
    refine mE_aload_n c168_63 rfl ?_
    refine mE_getA c168_64 qo168 qF12_155 (ok_lit rfl rfl rfl) rfl ⟨by decide, by decide⟩ ?_
    refine mE_iload_n c168_67 rfl ?_
    obtain ⟨g5, w⟩ := w.ogd
    refine mE_iaload c168_68 (ok_lit rfl rfl rfl) hx1 g5 ?_
    intro u6
    obtain ⟨g7, w⟩ := w.ogd
    refine mE_imul c168_69 ?_
    refine mE_iload_n c168_70 rfl ?_
    obtain ⟨g8, w⟩ := w.ogd
    refine mE_iadd c168_71 ?_
    refine mE_istore (ls2 := [some (.ref 142), some (.int (Int32.ofInt x1)), some (.int (Int32.ofInt x2)), some (.int (Int32.ofInt x3)), some (.int (Int32.ofInt ((14 * x2) + x3))), some (.int (Int32.ofInt ((14 * (M 190 (x1).toNat)) + x3)))]) c168_72 (Nat.le_of_ble_eq_true rfl) rfl ?_
    refine mE_aload_n c168_74 rfl ?_
    refine mE_iload_n c168_75 rfl ?_
    refine mE_iload_n c168_76 rfl ?_
    refine mE_virtual1 (b := 142) (as := [.int (Int32.ofInt x1), .int (Int32.ofInt x3)]) (r := []) c168_77 qo168 qK12_479 qo167 rfl rfl rfl (ok_lit rfl rfl rfl) (Nat.le_of_ble_eq_true rfl) (s167 (d := d + 1) hx1 hx3 w.obind) ?_
    rintro v9 _ q11 ⟨rfl, w⟩
    by_cases e12 : v9 = 0
    · have w := w.pos e12
      refine mE_if_eq_T (t := 119) c168_80 rfl q11 e12 ?_
      exact t168_119 hx1 hx2 hx3 w
    · have w := w.neg e12
      refine mE_if_eq_F (t := 119) c168_80 rfl q11 e12 ?_
      refine mE_aload_n c168_83 rfl ?_
      refine mE_getA c168_84 qo168 qF12_137 (ok_lit rfl rfl rfl) rfl ⟨by decide, by decide⟩ ?_
      refine mE_iload c168_87 rfl ?_
      obtain ⟨g13, w⟩ := w.ogd
      refine mE_zaload c168_89 (ok_lit rfl rfl rfl) g4 g13 ?_
      intro u14
      refine mE_aload_n c168_90 rfl ?_
      refine mE_getA c168_91 qo168 qF12_137 (ok_lit rfl rfl rfl) rfl ⟨by decide, by decide⟩ ?_
      refine mE_iload c168_94 rfl ?_
      obtain ⟨g15, w⟩ := w.ogd
      refine mE_zaload c168_96 (ok_lit rfl rfl rfl) g8 g15 ?_
      intro u16
      by_cases e17 : (M 184 (((14 * x2) + x3)).toNat) = (M 184 (((14 * (M 190 (x1).toNat)) + x3)).toNat)
      · have w := w.pos e17
        refine mE_icmp_ne_F (t := 117) c168_97 rfl u14 u16 e17 ?_
        refine mE_aload_n c168_100 rfl ?_
        refine mE_getA c168_101 qo168 qF12_134 (ok_lit rfl rfl rfl) rfl ⟨by decide, by decide⟩ ?_
        refine mE_iload c168_104 rfl ?_
        refine mE_iaload c168_106 (ok_lit rfl rfl rfl) g4 g13 ?_
        intro u18
        refine mE_aload_n c168_107 rfl ?_
        refine mE_getA c168_108 qo168 qF12_134 (ok_lit rfl rfl rfl) rfl ⟨by decide, by decide⟩ ?_
        refine mE_iload c168_111 rfl ?_
        refine mE_iaload c168_113 (ok_lit rfl rfl rfl) g8 g15 ?_
        intro u19
        by_cases e20 : (M 183 (((14 * x2) + x3)).toNat) = (M 183 (((14 * (M 190 (x1).toNat)) + x3)).toNat)
        · have w := w.pos e20
          refine mE_icmp_eq_T (t := 119) c168_114 rfl u18 u19 e20 ?_
          exact t168_119 hx1 hx2 hx3 w
        · have w := w.neg e20
          refine mE_icmp_eq_F (t := 119) c168_114 rfl u18 u19 e20 ?_
          have w := w.oinr
          have w := w.oinr
          refine mE_iload_n c168_117 rfl ?_
          exact mE_iret c168_118 qr168 hx2 ⟨rfl, w.osome⟩
      · have w := w.neg e17
        refine mE_icmp_ne_T (t := 117) c168_97 rfl u14 u16 e17 ?_
        have w := w.oinr
        have w := w.oinr
        refine mE_iload_n c168_117 rfl ?_
        exact mE_iret c168_118 qr168 hx2 ⟨rfl, w.osome⟩
  · have w := w.neg e2
    refine mE_icmp_ge_T (t := 125) c168_50 rfl hx3 u1 e2 ?_
    have w := w.oinr
    obtain ⟨g3, w⟩ := w.ogd
    refine mE_iinc (ls2 := [some (.ref 142), some (.int (Int32.ofInt x1)), some (.int (Int32.ofInt (x2 + 1))), some (.int (Int32.ofInt x3)), o4, o5]) c168_125 rfl (Nat.le_of_ble_eq_true rfl) rfl ?_
    refine mE_goto (t := 35) c168_128 rfl ?_
    exact w.osome g3 _ _ _
theorem t168_45 {X : Nat × Nat × qC} {d : Nat} {x1 : Int} {x2 : Int} {x3 : Int} {M : Mm} {o4 : Option Value} {o5 : Option Value} {R : Int → Prop} (hx1 : R4 x1) (hx2 : R4 x2) (hx3 : R4 x3) (w : Wp (f168_45 x1 x2 x3 M) (Sum.elim (E168_35 X d x1 M R) R)) : mE X (d + 2) 168 1 45 [some (.ref 142), some (.int (Int32.ofInt x1)), some (.int (Int32.ofInt x2)), some (.int (Int32.ofInt x3)), o4, o5] [] M (fun v M2 => M = M2 ∧ R v) :=
  Wp.olp (f := fun s : Int => lb168_45 x1 x2 s M) (s := x3) (E := E168_45 X d x1 x2 M R) w (fun s w hx3 _ _ => tb168_45 hx1 hx2 hx3 w) hx3 _ _
noncomputable def lb168_35 (x1 : Int) (x2 : Int) (M : Mm) : Option ((Int) ⊕ (Int)) :=
  if x2 < (M 142 2) then
  (f168_45 x1 x2 0 M)
  else
  (oinr (some (-1)))
noncomputable def f168_35 (x1 : Int) (x2 : Int) (M : Mm) : Option (Int) := lp (fun s : Int => lb168_35 x1 s M) x2
theorem tb168_35 {X : Nat × Nat × qC} {d : Nat} {x1 : Int} {x2 : Int} {M : Mm} {o3 : Option Value} {o4 : Option Value} {o5 : Option Value} {R : Int → Prop} (hx1 : R4 x1) (hx2 : R4 x2) (w : Wp (lb168_35 x1 x2 M) (Sum.elim (E168_35 X d x1 M R) R)) : mE X (d + 2) 168 1 35 [some (.ref 142), some (.int (Int32.ofInt x1)), some (.int (Int32.ofInt x2)), o3, o4, o5] [] M (fun v M2 => M = M2 ∧ R v) := by
  refine mE_iload_n c168_35 rfl ?_
  refine mE_aload_n c168_36 rfl ?_
  refine mE_getI c168_37 qo168 qF12_202 (ok_lit rfl rfl rfl) rfl ?_
  intro u1
  by_cases e2 : x2 < (M 142 2)
  · have w := w.pos e2
    refine mE_icmp_ge_F (t := 131) c168_40 rfl hx2 u1 e2 ?_
    refine mE_iconst c168_43 ?_
    refine mE_istore_n (ls2 := [some (.ref 142), some (.int (Int32.ofInt x1)), some (.int (Int32.ofInt x2)), some (.int (Int32.ofInt 0)), o4, o5]) c168_44 (Nat.le_of_ble_eq_true rfl) rfl ?_
    exact t168_45 hx1 hx2 (r4_n rfl) w
  · have w := w.neg e2
    refine mE_icmp_ge_T (t := 131) c168_40 rfl hx2 u1 e2 ?_
    have w := w.oinr
    refine mE_iconst c168_131 ?_
    exact mE_iret c168_132 qr168 (r4_n rfl) ⟨rfl, w.osome⟩
theorem t168_35 {X : Nat × Nat × qC} {d : Nat} {x1 : Int} {x2 : Int} {M : Mm} {o3 : Option Value} {o4 : Option Value} {o5 : Option Value} {R : Int → Prop} (hx1 : R4 x1) (hx2 : R4 x2) (w : Wp (f168_35 x1 x2 M) R) : mE X (d + 2) 168 1 35 [some (.ref 142), some (.int (Int32.ofInt x1)), some (.int (Int32.ofInt x2)), o3, o4, o5] [] M (fun v M2 => M = M2 ∧ R v) :=
  Wp.olp (f := fun s : Int => lb168_35 x1 s M) (s := x2) (E := E168_35 X d x1 M R) w (fun s w hx2 _ _ _ => tb168_35 hx1 hx2 w) hx2 _ _ _
noncomputable def f168 (x1 : Int) (M : Mm) : Option (Int) :=
  (f126 x1 M).bind fun v1 =>
  if v1 = 0 then
  (some (-1))
  else
  (gd (0 ≤ x1 ∧ x1 < 4) (
  if (M 188 (x1).toNat) = 0 then
  (some (-1))
  else
  (if (M 190 (x1).toNat) = (-1) then
  (some (-1))
  else
  (f168_35 x1 (M 189 (x1).toNat) M))))
theorem t168 {X : Nat × Nat × qC} {d : Nat} {x1 : Int} {M : Mm}  {R : Int → Prop} (hx1 : R4 x1) (w : Wp (f168 x1 M) R) : mE X (d + 2) 168 1 0 [some (.ref 142), some (.int (Int32.ofInt x1)), none, none, none, none] [] M (fun v M2 => M = M2 ∧ R v) := by
  refine mE_iload_n c168_0 rfl ?_
  refine mE_static1 (as := [.int (Int32.ofInt x1)]) (r := []) c168_1 qo168 (by decide) qK12_205 rfl rfl rfl (Nat.le_of_ble_eq_true rfl) (s126 (d := d + 0) hx1 w.obind) ?_
  rintro v1 _ q3 ⟨rfl, w⟩
  by_cases e4 : v1 = 0
  · have w := w.pos e4
    refine mE_if_eq_T (t := 26) c168_4 rfl q3 e4 ?_
    refine mE_iconst c168_26 ?_
    exact mE_iret c168_27 qr168 (r4_n rfl) ⟨rfl, w.osome⟩
  · have w := w.neg e4
    refine mE_if_eq_F (t := 26) c168_4 rfl q3 e4 ?_
    refine mE_aload_n c168_7 rfl ?_
    refine mE_getA c168_8 qo168 qF12_149 (ok_lit rfl rfl rfl) rfl ⟨by decide, by decide⟩ ?_
    refine mE_iload_n c168_11 rfl ?_
    obtain ⟨g5, w⟩ := w.ogd
    refine mE_zaload c168_12 (ok_lit rfl rfl rfl) hx1 g5 ?_
    intro u6
    by_cases e7 : (M 188 (x1).toNat) = 0
    · have w := w.pos e7
      refine mE_if_eq_T (t := 26) c168_13 rfl u6 e7 ?_
      refine mE_iconst c168_26 ?_
      exact mE_iret c168_27 qr168 (r4_n rfl) ⟨rfl, w.osome⟩
    · have w := w.neg e7
      refine mE_if_eq_F (t := 26) c168_13 rfl u6 e7 ?_
      refine mE_aload_n c168_16 rfl ?_
      refine mE_getA c168_17 qo168 qF12_155 (ok_lit rfl rfl rfl) rfl ⟨by decide, by decide⟩ ?_
      refine mE_iload_n c168_20 rfl ?_
      refine mE_iaload c168_21 (ok_lit rfl rfl rfl) hx1 g5 ?_
      intro u8
      refine mE_iconst c168_22 ?_
      by_cases e9 : (M 190 (x1).toNat) = (-1)
      · have w := w.pos e9
        refine mE_icmp_ne_F (t := 28) c168_23 rfl u8 (r4_n rfl) e9 ?_
        refine mE_iconst c168_26 ?_
        exact mE_iret c168_27 qr168 (r4_n rfl) ⟨rfl, w.osome⟩
      · have w := w.neg e9
        refine mE_icmp_ne_T (t := 28) c168_23 rfl u8 (r4_n rfl) e9 ?_
        refine mE_aload_n c168_28 rfl ?_
        refine mE_getA c168_29 qo168 qF12_152 (ok_lit rfl rfl rfl) rfl ⟨by decide, by decide⟩ ?_
        refine mE_iload_n c168_32 rfl ?_
        refine mE_iaload c168_33 (ok_lit rfl rfl rfl) hx1 g5 ?_
        intro u10
        refine mE_istore_n (ls2 := [some (.ref 142), some (.int (Int32.ofInt x1)), some (.int (Int32.ofInt (M 189 (x1).toNat))), none, none, none]) c168_34 (Nat.le_of_ble_eq_true rfl) rfl ?_
        exact t168_35 hx1 u10 w
theorem s168 {X : Nat × Nat × qC} {d : Nat} {x1 : Int} {M : Mm} {R : Int → Prop} (hx1 : R4 x1) (w : Wp (f168 x1 M) R) : mC X (d + 3) 168 1 [.ref 142, .int (Int32.ofInt x1)] M (fun v M2 => M = M2 ∧ R v) :=
  mC_of (qent_mk qx168 rfl rfl rfl) (t168 hx1 w)
/-! SaggingNetModel.spot -/
noncomputable def f171 (x1 : Int) (x2 : Int) (x3 : Int) (M : Mm) : Option (Int × Mm) :=
  if 0 < (M 142 2) then
  (some ((-1), M))
  else
  (if (M 142 3) = 8 then
  (some ((-1), M))
  else
  ((f126 x1 M).bind fun v5 =>
  if v5 = 0 then
  (some ((-1), M))
  else
  ((f143 x2 0 2000 M).bind fun v9 =>
  if v9 = 0 then
  (some ((-1), M))
  else
  ((f143 x3 0 9 M).bind fun v13 =>
  if v13 = 0 then
  (some ((-1), M))
  else
  (gd (0 ≤ (M 142 3) ∧ (M 142 3) < 8) (
  mlet (ms M 145 ((M 142 3)).toNat x1) fun M19 =>
  gd (0 ≤ (M19 142 3) ∧ (M19 142 3) < 8) (
  mlet (ms M19 146 ((M19 142 3)).toNat x3) fun M23 =>
  gd (R4 (36059 + (M23 142 3))) (
  gd (0 ≤ (36059 + (M23 142 3)) ∧ (36059 + (M23 142 3)) < 36400) (
  mlet (ms M23 144 ((36059 + (M23 142 3))).toNat x2) fun M28 =>
  gd (R4 ((M28 142 3) + 1)) (
  mlet (ms M28 142 3 ((M28 142 3) + 1)) fun M32 =>
  gd (R4 ((M32 142 3) - 1)) (
  some (((M32 142 3) - 1), M32))))))))))))
theorem t171 {X : Nat × Nat × qC} {d : Nat} {x1 : Int} {x2 : Int} {x3 : Int} {M : Mm}  {R : Int × Mm → Prop} (hx1 : R4 x1) (hx2 : R4 x2) (hx3 : R4 x3) (w : Wp (f171 x1 x2 x3 M) R) : mE X (d + 2) 171 1 0 [some (.ref 142), some (.int (Int32.ofInt x1)), some (.int (Int32.ofInt x2)), some (.int (Int32.ofInt x3))] [] M (fun v M2 => R (v, M2)) := by
  refine mE_aload_n c171_0 rfl ?_
  refine mE_getI c171_1 qo171 qF12_202 (ok_lit rfl rfl rfl) rfl ?_
  intro u1
  by_cases e2 : 0 < (M 142 2)
  · have w := w.pos e2
    refine mE_if_gt_T (t := 47) c171_4 rfl u1 e2 ?_
    refine mE_iconst c171_47 ?_
    exact mE_iret c171_48 qr171 (r4_n rfl) w.osome
  · have w := w.neg e2
    refine mE_if_gt_F (t := 47) c171_4 rfl u1 e2 ?_
    refine mE_aload_n c171_7 rfl ?_
    refine mE_getI c171_8 qo171 qF12_186 (ok_lit rfl rfl rfl) rfl ?_
    intro u3
    refine mE_bipush (x := 8) c171_11 rfl ?_
    by_cases e4 : (M 142 3) = 8
    · have w := w.pos e4
      refine mE_icmp_eq_T (t := 47) c171_13 rfl u3 (r4_n rfl) e4 ?_
      refine mE_iconst c171_47 ?_
      exact mE_iret c171_48 qr171 (r4_n rfl) w.osome
    · have w := w.neg e4
      refine mE_icmp_eq_F (t := 47) c171_13 rfl u3 (r4_n rfl) e4 ?_
      refine mE_iload_n c171_16 rfl ?_
      refine mE_static1 (as := [.int (Int32.ofInt x1)]) (r := []) c171_17 qo171 (by decide) qK12_205 rfl rfl rfl (Nat.le_of_ble_eq_true rfl) (s126 (d := d + 0) hx1 w.obind) ?_
      rintro v5 _ q7 ⟨rfl, w⟩
      by_cases e8 : v5 = 0
      · have w := w.pos e8
        refine mE_if_eq_T (t := 47) c171_20 rfl q7 e8 ?_
        refine mE_iconst c171_47 ?_
        exact mE_iret c171_48 qr171 (r4_n rfl) w.osome
      · have w := w.neg e8
        refine mE_if_eq_F (t := 47) c171_20 rfl q7 e8 ?_
        refine mE_iload_n c171_23 rfl ?_
        refine mE_i2l c171_24 hx2 ?_
        refine mE_lconst (x := 0) c171_25 rfl ?_
        refine mE_ldc2_w (x := 2000) c171_26 qo171 qJ12_209 rfl ?_
        refine mE_static1 (as := [.long (Int64.ofInt x2), .long (Int64.ofInt 0), .long (Int64.ofInt 2000)]) (r := []) c171_29 qo171 (by decide) qK12_190 rfl rfl rfl (Nat.le_of_ble_eq_true rfl) (s143 (d := d + 1) (R4.to8 hx2) (r8_n rfl) (r8_n rfl) w.obind) ?_
        rintro v9 _ q11 ⟨rfl, w⟩
        by_cases e12 : v9 = 0
        · have w := w.pos e12
          refine mE_if_eq_T (t := 47) c171_32 rfl q11 e12 ?_
          refine mE_iconst c171_47 ?_
          exact mE_iret c171_48 qr171 (r4_n rfl) w.osome
        · have w := w.neg e12
          refine mE_if_eq_F (t := 47) c171_32 rfl q11 e12 ?_
          refine mE_iload_n c171_35 rfl ?_
          refine mE_i2l c171_36 hx3 ?_
          refine mE_lconst (x := 0) c171_37 rfl ?_
          refine mE_ldc2_w (x := 9) c171_38 qo171 qJ12_211 rfl ?_
          refine mE_static1 (as := [.long (Int64.ofInt x3), .long (Int64.ofInt 0), .long (Int64.ofInt 9)]) (r := []) c171_41 qo171 (by decide) qK12_190 rfl rfl rfl (Nat.le_of_ble_eq_true rfl) (s143 (d := d + 1) (R4.to8 hx3) (r8_n rfl) (r8_n rfl) w.obind) ?_
          rintro v13 _ q15 ⟨rfl, w⟩
          by_cases e16 : v13 = 0
          · have w := w.pos e16
            refine mE_if_ne_F (t := 49) c171_44 rfl q15 e16 ?_
            refine mE_iconst c171_47 ?_
            exact mE_iret c171_48 qr171 (r4_n rfl) w.osome
          · have w := w.neg e16
            refine mE_if_ne_T (t := 49) c171_44 rfl q15 e16 ?_
            refine mE_aload_n c171_49 rfl ?_
            refine mE_getA c171_50 qo171 qF12_18 (ok_lit rfl rfl rfl) rfl ⟨by decide, by decide⟩ ?_
            refine mE_aload_n c171_53 rfl ?_
            refine mE_getI c171_54 qo171 qF12_186 (ok_lit rfl rfl rfl) rfl ?_
            intro u17
            refine mE_iload_n c171_57 rfl ?_
            obtain ⟨g18, w⟩ := w.ogd
            obtain ⟨M19, m20, w⟩ := w.mlet
            refine mE_iastore c171_58 (ok_lit rfl rfl rfl) u17 g18 hx1 ?_
            refine mE_M m20 ?_
            refine mE_aload_n c171_59 rfl ?_
            refine mE_getA c171_60 qo171 qF12_21 (ok_lit rfl rfl rfl) rfl ⟨by decide, by decide⟩ ?_
            refine mE_aload_n c171_63 rfl ?_
            refine mE_getI c171_64 qo171 qF12_186 (ok_lit rfl rfl rfl) rfl ?_
            intro u21
            refine mE_iload_n c171_67 rfl ?_
            obtain ⟨g22, w⟩ := w.ogd
            obtain ⟨M23, m24, w⟩ := w.mlet
            refine mE_iastore c171_68 (ok_lit rfl rfl rfl) u21 g22 hx3 ?_
            refine mE_M m24 ?_
            refine mE_aload_n c171_69 rfl ?_
            refine mE_getA c171_70 qo171 qF12_14 (ok_lit rfl rfl rfl) rfl ⟨by decide, by decide⟩ ?_
            refine mE_ldc (x := 36059) c171_73 qo171 qI12_213 rfl ?_
            refine mE_aload_n c171_75 rfl ?_
            refine mE_getI c171_76 qo171 qF12_186 (ok_lit rfl rfl rfl) rfl ?_
            intro u25
            obtain ⟨g26, w⟩ := w.ogd
            refine mE_iadd c171_79 ?_
            refine mE_iload_n c171_80 rfl ?_
            obtain ⟨g27, w⟩ := w.ogd
            obtain ⟨M28, m29, w⟩ := w.mlet
            refine mE_iastore c171_81 (ok_lit rfl rfl rfl) g26 g27 hx2 ?_
            refine mE_M m29 ?_
            refine mE_aload_n c171_82 rfl ?_
            refine mE_dup c171_83 rfl ?_
            refine mE_getI c171_84 qo171 qF12_186 (ok_lit rfl rfl rfl) rfl ?_
            intro u30
            refine mE_iconst c171_87 ?_
            obtain ⟨g31, w⟩ := w.ogd
            refine mE_iadd c171_88 ?_
            obtain ⟨M32, m33, w⟩ := w.mlet
            refine mE_putI c171_89 qo171 qF12_186 qz12_3 (ok_lit rfl rfl rfl) (Nat.le_of_ble_eq_true rfl) rfl g31 (by rw [qy12_3]; rfl) ?_
            refine mE_M m33 ?_
            refine mE_aload_n c171_92 rfl ?_
            refine mE_getI c171_93 qo171 qF12_186 (ok_lit rfl rfl rfl) rfl ?_
            intro u34
            refine mE_iconst c171_96 ?_
            obtain ⟨g35, w⟩ := w.ogd
            refine mE_isub c171_97 ?_
            exact mE_iret c171_98 qr171 g35 w.osome
theorem s171 {X : Nat × Nat × qC} {d : Nat} {x1 : Int} {x2 : Int} {x3 : Int} {M : Mm} {R : Int × Mm → Prop} (hx1 : R4 x1) (hx2 : R4 x2) (hx3 : R4 x3) (w : Wp (f171 x1 x2 x3 M) R) : mC X (d + 3) 171 1 [.ref 142, .int (Int32.ofInt x1), .int (Int32.ofInt x2), .int (Int32.ofInt x3)] M (fun v M2 => R (v, M2)) :=
  mC_of (qent_mk qx171 rfl rfl rfl) (t171 hx1 hx2 hx3 w)
/-! SaggingNetModel.spotIs -/
noncomputable def f172 (x1 : Int) (x2 : Int) (M : Mm) : Option (Int × Mm) :=
  (f132 x1 M).bind fun v1 =>
  if v1 = 0 then
  (some ((-1), M))
  else
  ((f174 M).bind fun M6 =>
  if x2 = 0 then
  (gd (R4 (36059 + x1)) (
  gd (0 ≤ (36059 + x1) ∧ (36059 + x1) < 36400) (
  some ((M6 144 ((36059 + x1)).toNat), M6))))
  else
  (if x2 = 1 then
  (gd (R4 (36051 + x1)) (
  gd (0 ≤ (36051 + x1) ∧ (36051 + x1) < 36400) (
  some ((M6 144 ((36051 + x1)).toNat), M6))))
  else
  (if x2 = 2 then
  (gd (R4 (36195 + x1)) (
  gd (0 ≤ (36195 + x1) ∧ (36195 + x1) < 36400) (
  some ((M6 144 ((36195 + x1)).toNat), M6))))
  else
  (if x2 = 3 then
  (gd (0 ≤ x1 ∧ x1 < 8) (
  some ((M6 158 (x1).toNat), M6)))
  else
  (if x2 = 4 then
  (gd (0 ≤ x1 ∧ x1 < 8) (
  gd (0 ≤ (M6 158 (x1).toNat) ∧ (M6 158 (x1).toNat) < 8) (
  some ((M6 160 ((M6 158 (x1).toNat)).toNat), M6))))
  else
  (some ((-1), M6)))))))
theorem t172 {X : Nat × Nat × qC} {d : Nat} {x1 : Int} {x2 : Int} {M : Mm}  {R : Int × Mm → Prop} (hx1 : R4 x1) (hx2 : R4 x2) (w : Wp (f172 x1 x2 M) R) : mE X (d + 5) 172 1 0 [some (.ref 142), some (.int (Int32.ofInt x1)), some (.int (Int32.ofInt x2))] [] M (fun v M2 => R (v, M2)) := by
  refine mE_aload_n c172_0 rfl ?_
  refine mE_iload_n c172_1 rfl ?_
  refine mE_virtual1 (b := 142) (as := [.int (Int32.ofInt x1)]) (r := []) c172_2 qo172 qK12_214 qo132 rfl rfl rfl (ok_lit rfl rfl rfl) (Nat.le_of_ble_eq_true rfl) (s132 (d := d + 3) hx1 w.obind) ?_
  rintro v1 _ q3 ⟨rfl, w⟩
  by_cases e4 : v1 = 0
  · have w := w.pos e4
    refine mE_if_ne_F (t := 10) c172_5 rfl q3 e4 ?_
    refine mE_iconst c172_8 ?_
    exact mE_iret c172_9 qr172 (r4_n rfl) w.osome
  · have w := w.neg e4
    refine mE_if_ne_T (t := 10) c172_5 rfl q3 e4 ?_
    refine mE_aload_n c172_10 rfl ?_
    refine mE_virtual0 (b := 142) (as := []) (r := []) c172_11 qo172 qK12_466 qo174 rfl rfl rfl (ok_lit rfl rfl rfl) (Nat.le_of_ble_eq_true rfl) (s174 (d := d + 0) w.obind) ?_
    intro _ M6 w
    refine mE_iload_n c172_14 rfl ?_
    by_cases e8 : x2 = 0
    · have w := w.pos e8
      refine mE_table (off := 33) (t := 48) c172_15 hx2 e8 (by decide) rfl rfl ?_
      refine mE_aload_n c172_48 rfl ?_
      refine mE_getA c172_49 qo172 qF12_14 (ok_lit rfl rfl rfl) rfl ⟨by decide, by decide⟩ ?_
      refine mE_ldc (x := 36059) c172_52 qo172 qI12_213 rfl ?_
      refine mE_iload_n c172_54 rfl ?_
      obtain ⟨g9, w⟩ := w.ogd
      refine mE_iadd c172_55 ?_
      obtain ⟨g10, w⟩ := w.ogd
      refine mE_iaload c172_56 (ok_lit rfl rfl rfl) g9 g10 ?_
      intro u11
      exact mE_iret c172_57 qr172 u11 w.osome
    have w := w.neg e8
    by_cases e9 : x2 = 1
    · have w := w.pos e9
      refine mE_table (off := 43) (t := 58) c172_15 hx2 e9 (by decide) rfl rfl ?_
      refine mE_aload_n c172_58 rfl ?_
      refine mE_getA c172_59 qo172 qF12_14 (ok_lit rfl rfl rfl) rfl ⟨by decide, by decide⟩ ?_
      refine mE_ldc (x := 36051) c172_62 qo172 qI12_234 rfl ?_
      refine mE_iload_n c172_64 rfl ?_
      obtain ⟨g10, w⟩ := w.ogd
      refine mE_iadd c172_65 ?_
      obtain ⟨g11, w⟩ := w.ogd
      refine mE_iaload c172_66 (ok_lit rfl rfl rfl) g10 g11 ?_
      intro u12
      exact mE_iret c172_67 qr172 u12 w.osome
    have w := w.neg e9
    by_cases e10 : x2 = 2
    · have w := w.pos e10
      refine mE_table (off := 53) (t := 68) c172_15 hx2 e10 (by decide) rfl rfl ?_
      refine mE_aload_n c172_68 rfl ?_
      refine mE_getA c172_69 qo172 qF12_14 (ok_lit rfl rfl rfl) rfl ⟨by decide, by decide⟩ ?_
      refine mE_ldc_w (x := 36195) c172_72 qo172 qI12_470 rfl ?_
      refine mE_iload_n c172_75 rfl ?_
      obtain ⟨g11, w⟩ := w.ogd
      refine mE_iadd c172_76 ?_
      obtain ⟨g12, w⟩ := w.ogd
      refine mE_iaload c172_77 (ok_lit rfl rfl rfl) g11 g12 ?_
      intro u13
      exact mE_iret c172_78 qr172 u13 w.osome
    have w := w.neg e10
    by_cases e11 : x2 = 3
    · have w := w.pos e11
      refine mE_table (off := 64) (t := 79) c172_15 hx2 e11 (by decide) rfl rfl ?_
      refine mE_aload_n c172_79 rfl ?_
      refine mE_getA c172_80 qo172 qF12_58 (ok_lit rfl rfl rfl) rfl ⟨by decide, by decide⟩ ?_
      refine mE_iload_n c172_83 rfl ?_
      obtain ⟨g12, w⟩ := w.ogd
      refine mE_iaload c172_84 (ok_lit rfl rfl rfl) hx1 g12 ?_
      intro u13
      exact mE_iret c172_85 qr172 u13 w.osome
    have w := w.neg e11
    by_cases e12 : x2 = 4
    · have w := w.pos e12
      refine mE_table (off := 71) (t := 86) c172_15 hx2 e12 (by decide) rfl rfl ?_
      refine mE_aload_n c172_86 rfl ?_
      refine mE_getA c172_87 qo172 qF12_64 (ok_lit rfl rfl rfl) rfl ⟨by decide, by decide⟩ ?_
      refine mE_aload_n c172_90 rfl ?_
      refine mE_getA c172_91 qo172 qF12_58 (ok_lit rfl rfl rfl) rfl ⟨by decide, by decide⟩ ?_
      refine mE_iload_n c172_94 rfl ?_
      obtain ⟨g13, w⟩ := w.ogd
      refine mE_iaload c172_95 (ok_lit rfl rfl rfl) hx1 g13 ?_
      intro u14
      obtain ⟨g15, w⟩ := w.ogd
      refine mE_iaload c172_96 (ok_lit rfl rfl rfl) u14 g15 ?_
      intro u16
      exact mE_iret c172_97 qr172 u16 w.osome
    have w := w.neg e12
    refine mE_tableD (t := 98) c172_15 hx2 (by omega) rfl ?_
    refine mE_iconst c172_98 ?_
    exact mE_iret c172_99 qr172 (r4_n rfl) w.osome
theorem s172 {X : Nat × Nat × qC} {d : Nat} {x1 : Int} {x2 : Int} {M : Mm} {R : Int × Mm → Prop} (hx1 : R4 x1) (hx2 : R4 x2) (w : Wp (f172 x1 x2 M) R) : mC X (d + 6) 172 1 [.ref 142, .int (Int32.ofInt x1), .int (Int32.ofInt x2)] M (fun v M2 => R (v, M2)) :=
  mC_of (qent_mk qx172 rfl rfl rfl) (t172 hx1 hx2 w)
/-! SaggingNetModel.stop -/
noncomputable def f176 (x1 : Int) (x2 : Int) (M : Mm) : Option (Int × Mm) :=
  (f126 x1 M).bind fun v1 =>
  if v1 = 0 then
  (some (0, M))
  else
  (gd (0 ≤ x1 ∧ x1 < 4) (
  if (M 188 (x1).toNat) = x2 then
  (some (0, M))
  else
  (gd (x2 = 0 ∨ x2 = 1) (
  mlet (ms M 188 (x1).toNat x2) fun M9 =>
  mlet (ms M9 189 (x1).toNat (M9 142 2)) fun M12 =>
  some (1, M12)))))
theorem t176 {X : Nat × Nat × qC} {d : Nat} {x1 : Int} {x2 : Int} {M : Mm}  {R : Int × Mm → Prop} (hx1 : R4 x1) (hx2 : R4 x2) (w : Wp (f176 x1 x2 M) R) : mE X (d + 2) 176 1 0 [some (.ref 142), some (.int (Int32.ofInt x1)), some (.int (Int32.ofInt x2))] [] M (fun v M2 => R (v, M2)) := by
  refine mE_iload_n c176_0 rfl ?_
  refine mE_static1 (as := [.int (Int32.ofInt x1)]) (r := []) c176_1 qo176 (by decide) qK12_205 rfl rfl rfl (Nat.le_of_ble_eq_true rfl) (s126 (d := d + 0) hx1 w.obind) ?_
  rintro v1 _ q3 ⟨rfl, w⟩
  by_cases e4 : v1 = 0
  · have w := w.pos e4
    refine mE_if_eq_T (t := 17) c176_4 rfl q3 e4 ?_
    refine mE_iconst c176_17 ?_
    exact mE_zret c176_18 qr176 (Or.inl rfl) w.osome
  · have w := w.neg e4
    refine mE_if_eq_F (t := 17) c176_4 rfl q3 e4 ?_
    refine mE_aload_n c176_7 rfl ?_
    refine mE_getA c176_8 qo176 qF12_149 (ok_lit rfl rfl rfl) rfl ⟨by decide, by decide⟩ ?_
    refine mE_iload_n c176_11 rfl ?_
    obtain ⟨g5, w⟩ := w.ogd
    refine mE_zaload c176_12 (ok_lit rfl rfl rfl) hx1 g5 ?_
    intro u6
    refine mE_iload_n c176_13 rfl ?_
    by_cases e7 : (M 188 (x1).toNat) = x2
    · have w := w.pos e7
      refine mE_icmp_ne_F (t := 19) c176_14 rfl u6 hx2 e7 ?_
      refine mE_iconst c176_17 ?_
      exact mE_zret c176_18 qr176 (Or.inl rfl) w.osome
    · have w := w.neg e7
      refine mE_icmp_ne_T (t := 19) c176_14 rfl u6 hx2 e7 ?_
      refine mE_aload_n c176_19 rfl ?_
      refine mE_getA c176_20 qo176 qF12_149 (ok_lit rfl rfl rfl) rfl ⟨by decide, by decide⟩ ?_
      refine mE_iload_n c176_23 rfl ?_
      refine mE_iload_n c176_24 rfl ?_
      obtain ⟨g8, w⟩ := w.ogd
      obtain ⟨M9, m10, w⟩ := w.mlet
      refine mE_zastore c176_25 (ok_lit rfl rfl rfl) hx1 g5 g8 ?_
      refine mE_M m10 ?_
      refine mE_aload_n c176_26 rfl ?_
      refine mE_getA c176_27 qo176 qF12_152 (ok_lit rfl rfl rfl) rfl ⟨by decide, by decide⟩ ?_
      refine mE_iload_n c176_30 rfl ?_
      refine mE_aload_n c176_31 rfl ?_
      refine mE_getI c176_32 qo176 qF12_202 (ok_lit rfl rfl rfl) rfl ?_
      intro u11
      obtain ⟨M12, m13, w⟩ := w.mlet
      refine mE_iastore c176_35 (ok_lit rfl rfl rfl) hx1 g5 u11 ?_
      refine mE_M m13 ?_
      refine mE_iconst c176_36 ?_
      exact mE_zret c176_37 qr176 (Or.inr rfl) w.osome
theorem s176 {X : Nat × Nat × qC} {d : Nat} {x1 : Int} {x2 : Int} {M : Mm} {R : Int × Mm → Prop} (hx1 : R4 x1) (hx2 : R4 x2) (w : Wp (f176 x1 x2 M) R) : mC X (d + 3) 176 1 [.ref 142, .int (Int32.ofInt x1), .int (Int32.ofInt x2)] M (fun v M2 => R (v, M2)) :=
  mC_of (qent_mk qx176 rfl rfl rfl) (t176 hx1 hx2 w)
/-! SaggingNetModel.tree -/
noncomputable def f180 (x1 : Int) (x2 : Int) (M : Mm) : Option (Int × Mm) :=
  (f136 x1 M).bind fun v1 =>
  if v1 = 0 then
  (some (0, M))
  else
  ((f143 x2 0 100000 M).bind fun v5 =>
  if v5 = 0 then
  (some (0, M))
  else
  (gd (R4 (36028 + x1)) (
  gd (0 ≤ (36028 + x1) ∧ (36028 + x1) < 36400) (
  mlet (ms M 144 ((36028 + x1)).toNat x2) fun M11 =>
  some (1, M11)))))
theorem t180 {X : Nat × Nat × qC} {d : Nat} {x1 : Int} {x2 : Int} {M : Mm}  {R : Int × Mm → Prop} (hx1 : R4 x1) (hx2 : R4 x2) (w : Wp (f180 x1 x2 M) R) : mE X (d + 2) 180 1 0 [some (.ref 142), some (.int (Int32.ofInt x1)), some (.int (Int32.ofInt x2))] [] M (fun v M2 => R (v, M2)) := by
  refine mE_aload_n c180_0 rfl ?_
  refine mE_iload_n c180_1 rfl ?_
  refine mE_virtual1 (b := 142) (as := [.int (Int32.ofInt x1)]) (r := []) c180_2 qo180 qK12_224 qo136 rfl rfl rfl (ok_lit rfl rfl rfl) (Nat.le_of_ble_eq_true rfl) (s136 (d := d + 0) hx1 w.obind) ?_
  rintro v1 _ q3 ⟨rfl, w⟩
  by_cases e4 : v1 = 0
  · have w := w.pos e4
    refine mE_if_eq_T (t := 20) c180_5 rfl q3 e4 ?_
    refine mE_iconst c180_20 ?_
    exact mE_zret c180_21 qr180 (Or.inl rfl) w.osome
  · have w := w.neg e4
    refine mE_if_eq_F (t := 20) c180_5 rfl q3 e4 ?_
    refine mE_iload_n c180_8 rfl ?_
    refine mE_i2l c180_9 hx2 ?_
    refine mE_lconst (x := 0) c180_10 rfl ?_
    refine mE_ldc2_w (x := 100000) c180_11 qo180 qJ12_219 rfl ?_
    refine mE_static1 (as := [.long (Int64.ofInt x2), .long (Int64.ofInt 0), .long (Int64.ofInt 100000)]) (r := []) c180_14 qo180 (by decide) qK12_190 rfl rfl rfl (Nat.le_of_ble_eq_true rfl) (s143 (d := d + 1) (R4.to8 hx2) (r8_n rfl) (r8_n rfl) w.obind) ?_
    rintro v5 _ q7 ⟨rfl, w⟩
    by_cases e8 : v5 = 0
    · have w := w.pos e8
      refine mE_if_ne_F (t := 22) c180_17 rfl q7 e8 ?_
      refine mE_iconst c180_20 ?_
      exact mE_zret c180_21 qr180 (Or.inl rfl) w.osome
    · have w := w.neg e8
      refine mE_if_ne_T (t := 22) c180_17 rfl q7 e8 ?_
      refine mE_aload_n c180_22 rfl ?_
      refine mE_getA c180_23 qo180 qF12_14 (ok_lit rfl rfl rfl) rfl ⟨by decide, by decide⟩ ?_
      refine mE_ldc (x := 36028) c180_26 qo180 qI12_227 rfl ?_
      refine mE_iload_n c180_28 rfl ?_
      obtain ⟨g9, w⟩ := w.ogd
      refine mE_iadd c180_29 ?_
      refine mE_iload_n c180_30 rfl ?_
      obtain ⟨g10, w⟩ := w.ogd
      obtain ⟨M11, m12, w⟩ := w.mlet
      refine mE_iastore c180_31 (ok_lit rfl rfl rfl) g9 g10 hx2 ?_
      refine mE_M m12 ?_
      refine mE_iconst c180_32 ?_
      exact mE_zret c180_33 qr180 (Or.inr rfl) w.osome
theorem s180 {X : Nat × Nat × qC} {d : Nat} {x1 : Int} {x2 : Int} {M : Mm} {R : Int × Mm → Prop} (hx1 : R4 x1) (hx2 : R4 x2) (w : Wp (f180 x1 x2 M) R) : mC X (d + 3) 180 1 [.ref 142, .int (Int32.ofInt x1), .int (Int32.ofInt x2)] M (fun v M2 => R (v, M2)) :=
  mC_of (qent_mk qx180 rfl rfl rfl) (t180 hx1 hx2 w)
/-! SaggingNetModel.turn -/
noncomputable def f181_44 (x1 : Int) (x2 : Int) (M : Mm) : Option (Int × Mm) :=
  gd (R4 (36000 + x1)) (
  if x2 = 0 then
  (gd (0 ≤ (36000 + x1) ∧ (36000 + x1) < 36400) (
  mlet (ms M 144 ((36000 + x1)).toNat 1) fun M4 =>
  some (1, M4)))
  else
  (gd (0 ≤ (36000 + x1) ∧ (36000 + x1) < 36400) (
  mlet (ms M 144 ((36000 + x1)).toNat 0) fun M4 =>
  some (1, M4))))
theorem t181_44 {X : Nat × Nat × qC} {d : Nat} {x1 : Int} {x2 : Int} {M : Mm}  {R : Int × Mm → Prop} (hx1 : R4 x1) (hx2 : R4 x2) (w : Wp (f181_44 x1 x2 M) R) : mE X (d + 2) 181 1 44 [some (.ref 142), some (.int (Int32.ofInt x1)), some (.int (Int32.ofInt x2))] [] M (fun v M2 => R (v, M2)) := by
  refine mE_aload_n c181_44 rfl ?_
  refine mE_getA c181_45 qo181 qF12_14 (ok_lit rfl rfl rfl) rfl ⟨by decide, by decide⟩ ?_
  refine mE_ldc (x := 36000) c181_48 qo181 qI12_230 rfl ?_
  refine mE_iload_n c181_50 rfl ?_
  obtain ⟨g1, w⟩ := w.ogd
  refine mE_iadd c181_51 ?_
  refine mE_iload_n c181_52 rfl ?_
  by_cases e2 : x2 = 0
  · have w := w.pos e2
    refine mE_if_eq_T (t := 60) c181_53 rfl hx2 e2 ?_
    refine mE_iconst c181_60 ?_
    obtain ⟨g3, w⟩ := w.ogd
    obtain ⟨M4, m5, w⟩ := w.mlet
    refine mE_iastore c181_61 (ok_lit rfl rfl rfl) g1 g3 (r4_n rfl) ?_
    refine mE_M m5 ?_
    refine mE_iconst c181_62 ?_
    exact mE_zret c181_63 qr181 (Or.inr rfl) w.osome
  · have w := w.neg e2
    refine mE_if_eq_F (t := 60) c181_53 rfl hx2 e2 ?_
    refine mE_iconst c181_56 ?_
    refine mE_goto (t := 61) c181_57 rfl ?_
    obtain ⟨g3, w⟩ := w.ogd
    obtain ⟨M4, m5, w⟩ := w.mlet
    refine mE_iastore c181_61 (ok_lit rfl rfl rfl) g1 g3 (r4_n rfl) ?_
    refine mE_M m5 ?_
    refine mE_iconst c181_62 ?_
    exact mE_zret c181_63 qr181 (Or.inr rfl) w.osome
noncomputable def f181 (x1 : Int) (x2 : Int) (M : Mm) : Option (Int × Mm) :=
  (f136 x1 M).bind fun v1 =>
  if v1 = 0 then
  (some (0, M))
  else
  (gd (R4 (36000 + x1)) (
  gd (0 ≤ (36000 + x1) ∧ (36000 + x1) < 36400) (
  if (M 144 ((36000 + x1)).toNat) = 3 then
  (some (0, M))
  else
  (if (M 144 ((36000 + x1)).toNat) = 0 then
  (if 1 = x2 then
  (some (0, M))
  else
  (f181_44 x1 x2 M))
  else
  (if 0 = x2 then
  (some (0, M))
  else
  (f181_44 x1 x2 M))))))
theorem t181 {X : Nat × Nat × qC} {d : Nat} {x1 : Int} {x2 : Int} {M : Mm}  {R : Int × Mm → Prop} (hx1 : R4 x1) (hx2 : R4 x2) (w : Wp (f181 x1 x2 M) R) : mE X (d + 2) 181 1 0 [some (.ref 142), some (.int (Int32.ofInt x1)), some (.int (Int32.ofInt x2))] [] M (fun v M2 => R (v, M2)) := by
  refine mE_aload_n c181_0 rfl ?_
  refine mE_iload_n c181_1 rfl ?_
  refine mE_virtual1 (b := 142) (as := [.int (Int32.ofInt x1)]) (r := []) c181_2 qo181 qK12_224 qo136 rfl rfl rfl (ok_lit rfl rfl rfl) (Nat.le_of_ble_eq_true rfl) (s136 (d := d + 0) hx1 w.obind) ?_
  rintro v1 _ q3 ⟨rfl, w⟩
  by_cases e4 : v1 = 0
  · have w := w.pos e4
    refine mE_if_eq_T (t := 42) c181_5 rfl q3 e4 ?_
    refine mE_iconst c181_42 ?_
    exact mE_zret c181_43 qr181 (Or.inl rfl) w.osome
  · have w := w.neg e4
    refine mE_if_eq_F (t := 42) c181_5 rfl q3 e4 ?_
    refine mE_aload_n c181_8 rfl ?_
    refine mE_getA c181_9 qo181 qF12_14 (ok_lit rfl rfl rfl) rfl ⟨by decide, by decide⟩ ?_
    refine mE_ldc (x := 36000) c181_12 qo181 qI12_230 rfl ?_
    refine mE_iload_n c181_14 rfl ?_
    obtain ⟨g5, w⟩ := w.ogd
    refine mE_iadd c181_15 ?_
    obtain ⟨g6, w⟩ := w.ogd
    refine mE_iaload c181_16 (ok_lit rfl rfl rfl) g5 g6 ?_
    intro u7
    refine mE_iconst c181_17 ?_
    by_cases e8 : (M 144 ((36000 + x1)).toNat) = 3
    · have w := w.pos e8
      refine mE_icmp_eq_T (t := 42) c181_18 rfl u7 (r4_n rfl) e8 ?_
      refine mE_iconst c181_42 ?_
      exact mE_zret c181_43 qr181 (Or.inl rfl) w.osome
    · have w := w.neg e8
      refine mE_icmp_eq_F (t := 42) c181_18 rfl u7 (r4_n rfl) e8 ?_
      refine mE_aload_n c181_21 rfl ?_
      refine mE_getA c181_22 qo181 qF12_14 (ok_lit rfl rfl rfl) rfl ⟨by decide, by decide⟩ ?_
      refine mE_ldc (x := 36000) c181_25 qo181 qI12_230 rfl ?_
      refine mE_iload_n c181_27 rfl ?_
      refine mE_iadd c181_28 ?_
      refine mE_iaload c181_29 (ok_lit rfl rfl rfl) g5 g6 ?_
      intro u9
      by_cases e10 : (M 144 ((36000 + x1)).toNat) = 0
      · have w := w.pos e10
        refine mE_if_ne_F (t := 37) c181_30 rfl u9 e10 ?_
        refine mE_iconst c181_33 ?_
        refine mE_goto (t := 38) c181_34 rfl ?_
        refine mE_iload_n c181_38 rfl ?_
        by_cases e11 : 1 = x2
        · have w := w.pos e11
          refine mE_icmp_ne_F (t := 44) c181_39 rfl (r4_n rfl) hx2 e11 ?_
          refine mE_iconst c181_42 ?_
          exact mE_zret c181_43 qr181 (Or.inl rfl) w.osome
        · have w := w.neg e11
          refine mE_icmp_ne_T (t := 44) c181_39 rfl (r4_n rfl) hx2 e11 ?_
          exact t181_44 hx1 hx2 w
      · have w := w.neg e10
        refine mE_if_ne_T (t := 37) c181_30 rfl u9 e10 ?_
        refine mE_iconst c181_37 ?_
        refine mE_iload_n c181_38 rfl ?_
        by_cases e11 : 0 = x2
        · have w := w.pos e11
          refine mE_icmp_ne_F (t := 44) c181_39 rfl (r4_n rfl) hx2 e11 ?_
          refine mE_iconst c181_42 ?_
          exact mE_zret c181_43 qr181 (Or.inl rfl) w.osome
        · have w := w.neg e11
          refine mE_icmp_ne_T (t := 44) c181_39 rfl (r4_n rfl) hx2 e11 ?_
          exact t181_44 hx1 hx2 w
theorem s181 {X : Nat × Nat × qC} {d : Nat} {x1 : Int} {x2 : Int} {M : Mm} {R : Int × Mm → Prop} (hx1 : R4 x1) (hx2 : R4 x2) (w : Wp (f181 x1 x2 M) R) : mC X (d + 3) 181 1 [.ref 142, .int (Int32.ofInt x1), .int (Int32.ofInt x2)] M (fun v M2 => R (v, M2)) :=
  mC_of (qent_mk qx181 rfl rfl rfl) (t181 hx1 hx2 w)
/-! SaggingNetModel.wire -/
noncomputable def f185 (x1 : Int) (x2 : Int) (x3 : Int) (x4 : Int) (x5 : Int) (M : Mm) : Option (Int × Mm) :=
  if 0 < (M 142 2) then
  (some ((-1), M))
  else
  (if (M 142 4) = 14 then
  (some ((-1), M))
  else
  ((f132 x1 M).bind fun v5 =>
  if v5 = 0 then
  (some ((-1), M))
  else
  ((f132 x2 M).bind fun v9 =>
  if v9 = 0 then
  (some ((-1), M))
  else
  (if x1 = x2 then
  (some ((-1), M))
  else
  ((f143 x3 1 3 M).bind fun v14 =>
  if v14 = 0 then
  (some ((-1), M))
  else
  ((f143 x4 1 5000 M).bind fun v18 =>
  if v18 = 0 then
  (some ((-1), M))
  else
  ((f143 x5 1 100000 M).bind fun v22 =>
  if v22 = 0 then
  (some ((-1), M))
  else
  (gd (0 ≤ (M 142 4) ∧ (M 142 4) < 14) (
  mlet (ms M 147 ((M 142 4)).toNat x1) fun M28 =>
  gd (0 ≤ (M28 142 4) ∧ (M28 142 4) < 14) (
  mlet (ms M28 148 ((M28 142 4)).toNat x2) fun M32 =>
  gd (0 ≤ (M32 142 4) ∧ (M32 142 4) < 14) (
  mlet (ms M32 149 ((M32 142 4)).toNat x3) fun M36 =>
  gd (0 ≤ (M36 142 4) ∧ (M36 142 4) < 14) (
  mlet (ms M36 150 ((M36 142 4)).toNat x4) fun M40 =>
  gd (0 ≤ (M40 142 4) ∧ (M40 142 4) < 14) (
  mlet (ms M40 151 ((M40 142 4)).toNat x5) fun M44 =>
  gd (R4 ((M44 142 4) + 1)) (
  mlet (ms M44 142 4 ((M44 142 4) + 1)) fun M48 =>
  gd (R4 ((M48 142 4) - 1)) (
  some (((M48 142 4) - 1), M48))))))))))))))))
theorem t185 {X : Nat × Nat × qC} {d : Nat} {x1 : Int} {x2 : Int} {x3 : Int} {x4 : Int} {x5 : Int} {M : Mm}  {R : Int × Mm → Prop} (hx1 : R4 x1) (hx2 : R4 x2) (hx3 : R4 x3) (hx4 : R4 x4) (hx5 : R4 x5) (w : Wp (f185 x1 x2 x3 x4 x5 M) R) : mE X (d + 2) 185 1 0 [some (.ref 142), some (.int (Int32.ofInt x1)), some (.int (Int32.ofInt x2)), some (.int (Int32.ofInt x3)), some (.int (Int32.ofInt x4)), some (.int (Int32.ofInt x5))] [] M (fun v M2 => R (v, M2)) := by
  refine mE_aload_n c185_0 rfl ?_
  refine mE_getI c185_1 qo185 qF12_202 (ok_lit rfl rfl rfl) rfl ?_
  intro u1
  by_cases e2 : 0 < (M 142 2)
  · have w := w.pos e2
    refine mE_if_gt_T (t := 75) c185_4 rfl u1 e2 ?_
    refine mE_iconst c185_75 ?_
    exact mE_iret c185_76 qr185 (r4_n rfl) w.osome
  · have w := w.neg e2
    refine mE_if_gt_F (t := 75) c185_4 rfl u1 e2 ?_
    refine mE_aload_n c185_7 rfl ?_
    refine mE_getI c185_8 qo185 qF12_194 (ok_lit rfl rfl rfl) rfl ?_
    intro u3
    refine mE_bipush (x := 14) c185_11 rfl ?_
    by_cases e4 : (M 142 4) = 14
    · have w := w.pos e4
      refine mE_icmp_eq_T (t := 75) c185_13 rfl u3 (r4_n rfl) e4 ?_
      refine mE_iconst c185_75 ?_
      exact mE_iret c185_76 qr185 (r4_n rfl) w.osome
    · have w := w.neg e4
      refine mE_icmp_eq_F (t := 75) c185_13 rfl u3 (r4_n rfl) e4 ?_
      refine mE_aload_n c185_16 rfl ?_
      refine mE_iload_n c185_17 rfl ?_
      refine mE_virtual1 (b := 142) (as := [.int (Int32.ofInt x1)]) (r := []) c185_18 qo185 qK12_214 qo132 rfl rfl rfl (ok_lit rfl rfl rfl) (Nat.le_of_ble_eq_true rfl) (s132 (d := d + 0) hx1 w.obind) ?_
      rintro v5 _ q7 ⟨rfl, w⟩
      by_cases e8 : v5 = 0
      · have w := w.pos e8
        refine mE_if_eq_T (t := 75) c185_21 rfl q7 e8 ?_
        refine mE_iconst c185_75 ?_
        exact mE_iret c185_76 qr185 (r4_n rfl) w.osome
      · have w := w.neg e8
        refine mE_if_eq_F (t := 75) c185_21 rfl q7 e8 ?_
        refine mE_aload_n c185_24 rfl ?_
        refine mE_iload_n c185_25 rfl ?_
        refine mE_virtual1 (b := 142) (as := [.int (Int32.ofInt x2)]) (r := []) c185_26 qo185 qK12_214 qo132 rfl rfl rfl (ok_lit rfl rfl rfl) (Nat.le_of_ble_eq_true rfl) (s132 (d := d + 0) hx2 w.obind) ?_
        rintro v9 _ q11 ⟨rfl, w⟩
        by_cases e12 : v9 = 0
        · have w := w.pos e12
          refine mE_if_eq_T (t := 75) c185_29 rfl q11 e12 ?_
          refine mE_iconst c185_75 ?_
          exact mE_iret c185_76 qr185 (r4_n rfl) w.osome
        · have w := w.neg e12
          refine mE_if_eq_F (t := 75) c185_29 rfl q11 e12 ?_
          refine mE_iload_n c185_32 rfl ?_
          refine mE_iload_n c185_33 rfl ?_
          by_cases e13 : x1 = x2
          · have w := w.pos e13
            refine mE_icmp_eq_T (t := 75) c185_34 rfl hx1 hx2 e13 ?_
            refine mE_iconst c185_75 ?_
            exact mE_iret c185_76 qr185 (r4_n rfl) w.osome
          · have w := w.neg e13
            refine mE_icmp_eq_F (t := 75) c185_34 rfl hx1 hx2 e13 ?_
            refine mE_iload_n c185_37 rfl ?_
            refine mE_i2l c185_38 hx3 ?_
            refine mE_lconst (x := 1) c185_39 rfl ?_
            refine mE_ldc2_w (x := 3) c185_40 qo185 qJ12_200 rfl ?_
            refine mE_static1 (as := [.long (Int64.ofInt x3), .long (Int64.ofInt 1), .long (Int64.ofInt 3)]) (r := []) c185_43 qo185 (by decide) qK12_190 rfl rfl rfl (Nat.le_of_ble_eq_true rfl) (s143 (d := d + 1) (R4.to8 hx3) (r8_n rfl) (r8_n rfl) w.obind) ?_
            rintro v14 _ q16 ⟨rfl, w⟩
            by_cases e17 : v14 = 0
            · have w := w.pos e17
              refine mE_if_eq_T (t := 75) c185_46 rfl q16 e17 ?_
              refine mE_iconst c185_75 ?_
              exact mE_iret c185_76 qr185 (r4_n rfl) w.osome
            · have w := w.neg e17
              refine mE_if_eq_F (t := 75) c185_46 rfl q16 e17 ?_
              refine mE_iload c185_49 rfl ?_
              refine mE_i2l c185_51 hx4 ?_
              refine mE_lconst (x := 1) c185_52 rfl ?_
              refine mE_ldc2_w (x := 5000) c185_53 qo185 qJ12_217 rfl ?_
              refine mE_static1 (as := [.long (Int64.ofInt x4), .long (Int64.ofInt 1), .long (Int64.ofInt 5000)]) (r := []) c185_56 qo185 (by decide) qK12_190 rfl rfl rfl (Nat.le_of_ble_eq_true rfl) (s143 (d := d + 1) (R4.to8 hx4) (r8_n rfl) (r8_n rfl) w.obind) ?_
              rintro v18 _ q20 ⟨rfl, w⟩
              by_cases e21 : v18 = 0
              · have w := w.pos e21
                refine mE_if_eq_T (t := 75) c185_59 rfl q20 e21 ?_
                refine mE_iconst c185_75 ?_
                exact mE_iret c185_76 qr185 (r4_n rfl) w.osome
              · have w := w.neg e21
                refine mE_if_eq_F (t := 75) c185_59 rfl q20 e21 ?_
                refine mE_iload c185_62 rfl ?_
                refine mE_i2l c185_64 hx5 ?_
                refine mE_lconst (x := 1) c185_65 rfl ?_
                refine mE_ldc2_w (x := 100000) c185_66 qo185 qJ12_219 rfl ?_
                refine mE_static1 (as := [.long (Int64.ofInt x5), .long (Int64.ofInt 1), .long (Int64.ofInt 100000)]) (r := []) c185_69 qo185 (by decide) qK12_190 rfl rfl rfl (Nat.le_of_ble_eq_true rfl) (s143 (d := d + 1) (R4.to8 hx5) (r8_n rfl) (r8_n rfl) w.obind) ?_
                rintro v22 _ q24 ⟨rfl, w⟩
                by_cases e25 : v22 = 0
                · have w := w.pos e25
                  refine mE_if_ne_F (t := 77) c185_72 rfl q24 e25 ?_
                  refine mE_iconst c185_75 ?_
                  exact mE_iret c185_76 qr185 (r4_n rfl) w.osome
                · have w := w.neg e25
                  refine mE_if_ne_T (t := 77) c185_72 rfl q24 e25 ?_
                  refine mE_aload_n c185_77 rfl ?_
                  refine mE_getA c185_78 qo185 qF12_24 (ok_lit rfl rfl rfl) rfl ⟨by decide, by decide⟩ ?_
                  refine mE_aload_n c185_81 rfl ?_
                  refine mE_getI c185_82 qo185 qF12_194 (ok_lit rfl rfl rfl) rfl ?_
                  intro u26
                  refine mE_iload_n c185_85 rfl ?_
                  obtain ⟨g27, w⟩ := w.ogd
                  obtain ⟨M28, m29, w⟩ := w.mlet
                  refine mE_iastore c185_86 (ok_lit rfl rfl rfl) u26 g27 hx1 ?_
                  refine mE_M m29 ?_
                  refine mE_aload_n c185_87 rfl ?_
                  refine mE_getA c185_88 qo185 qF12_27 (ok_lit rfl rfl rfl) rfl ⟨by decide, by decide⟩ ?_
                  refine mE_aload_n c185_91 rfl ?_
                  refine mE_getI c185_92 qo185 qF12_194 (ok_lit rfl rfl rfl) rfl ?_
                  intro u30
                  refine mE_iload_n c185_95 rfl ?_
                  obtain ⟨g31, w⟩ := w.ogd
                  obtain ⟨M32, m33, w⟩ := w.mlet
                  refine mE_iastore c185_96 (ok_lit rfl rfl rfl) u30 g31 hx2 ?_
                  refine mE_M m33 ?_
                  refine mE_aload_n c185_97 rfl ?_
                  refine mE_getA c185_98 qo185 qF12_30 (ok_lit rfl rfl rfl) rfl ⟨by decide, by decide⟩ ?_
                  refine mE_aload_n c185_101 rfl ?_
                  refine mE_getI c185_102 qo185 qF12_194 (ok_lit rfl rfl rfl) rfl ?_
                  intro u34
                  refine mE_iload_n c185_105 rfl ?_
                  obtain ⟨g35, w⟩ := w.ogd
                  obtain ⟨M36, m37, w⟩ := w.mlet
                  refine mE_iastore c185_106 (ok_lit rfl rfl rfl) u34 g35 hx3 ?_
                  refine mE_M m37 ?_
                  refine mE_aload_n c185_107 rfl ?_
                  refine mE_getA c185_108 qo185 qF12_33 (ok_lit rfl rfl rfl) rfl ⟨by decide, by decide⟩ ?_
                  refine mE_aload_n c185_111 rfl ?_
                  refine mE_getI c185_112 qo185 qF12_194 (ok_lit rfl rfl rfl) rfl ?_
                  intro u38
                  refine mE_iload c185_115 rfl ?_
                  obtain ⟨g39, w⟩ := w.ogd
                  obtain ⟨M40, m41, w⟩ := w.mlet
                  refine mE_iastore c185_117 (ok_lit rfl rfl rfl) u38 g39 hx4 ?_
                  refine mE_M m41 ?_
                  refine mE_aload_n c185_118 rfl ?_
                  refine mE_getA c185_119 qo185 qF12_36 (ok_lit rfl rfl rfl) rfl ⟨by decide, by decide⟩ ?_
                  refine mE_aload_n c185_122 rfl ?_
                  refine mE_getI c185_123 qo185 qF12_194 (ok_lit rfl rfl rfl) rfl ?_
                  intro u42
                  refine mE_iload c185_126 rfl ?_
                  obtain ⟨g43, w⟩ := w.ogd
                  obtain ⟨M44, m45, w⟩ := w.mlet
                  refine mE_iastore c185_128 (ok_lit rfl rfl rfl) u42 g43 hx5 ?_
                  refine mE_M m45 ?_
                  refine mE_aload_n c185_129 rfl ?_
                  refine mE_dup c185_130 rfl ?_
                  refine mE_getI c185_131 qo185 qF12_194 (ok_lit rfl rfl rfl) rfl ?_
                  intro u46
                  refine mE_iconst c185_134 ?_
                  obtain ⟨g47, w⟩ := w.ogd
                  refine mE_iadd c185_135 ?_
                  obtain ⟨M48, m49, w⟩ := w.mlet
                  refine mE_putI c185_136 qo185 qF12_194 qz12_4 (ok_lit rfl rfl rfl) (Nat.le_of_ble_eq_true rfl) rfl g47 (by rw [qy12_4]; rfl) ?_
                  refine mE_M m49 ?_
                  refine mE_aload_n c185_139 rfl ?_
                  refine mE_getI c185_140 qo185 qF12_194 (ok_lit rfl rfl rfl) rfl ?_
                  intro u50
                  refine mE_iconst c185_143 ?_
                  obtain ⟨g51, w⟩ := w.ogd
                  refine mE_isub c185_144 ?_
                  exact mE_iret c185_145 qr185 g51 w.osome
theorem s185 {X : Nat × Nat × qC} {d : Nat} {x1 : Int} {x2 : Int} {x3 : Int} {x4 : Int} {x5 : Int} {M : Mm} {R : Int × Mm → Prop} (hx1 : R4 x1) (hx2 : R4 x2) (hx3 : R4 x3) (hx4 : R4 x4) (hx5 : R4 x5) (w : Wp (f185 x1 x2 x3 x4 x5 M) R) : mC X (d + 3) 185 1 [.ref 142, .int (Int32.ofInt x1), .int (Int32.ofInt x2), .int (Int32.ofInt x3), .int (Int32.ofInt x4), .int (Int32.ofInt x5)] M (fun v M2 => R (v, M2)) :=
  mC_of (qent_mk qx185 rfl rfl rfl) (t185 hx1 hx2 hx3 hx4 hx5 w)
/-! SaggingNetModel.wireIs -/
noncomputable def f186 (x1 : Int) (x2 : Int) (M : Mm) : Option (Int × Mm) :=
  (f136 x1 M).bind fun v1 =>
  if v1 = 0 then
  (some ((-1), M))
  else
  (if x2 = 0 then
  (gd (R4 (36000 + x1)) (
  gd (0 ≤ (36000 + x1) ∧ (36000 + x1) < 36400) (
  some ((M 144 ((36000 + x1)).toNat), M))))
  else
  (if x2 = 1 then
  (gd (R4 (36014 + x1)) (
  gd (0 ≤ (36014 + x1) ∧ (36014 + x1) < 36400) (
  some ((M 144 ((36014 + x1)).toNat), M))))
  else
  (if x2 = 2 then
  (gd (R4 (36028 + x1)) (
  gd (0 ≤ (36028 + x1) ∧ (36028 + x1) < 36400) (
  some ((M 144 ((36028 + x1)).toNat), M))))
  else
  (if x2 = 3 then
  (obnd (f89 M) fun v9 M10 =>
  (f118 v9 x1 M10).bind fun v12 =>
  if v12 = 0 then
  (some (0, M10))
  else
  (some (1, M10)))
  else
  (some ((-1), M))))))
theorem t186 {X : Nat × Nat × qC} {d : Nat} {x1 : Int} {x2 : Int} {M : Mm}  {R : Int × Mm → Prop} (hx1 : R4 x1) (hx2 : R4 x2) (w : Wp (f186 x1 x2 M) R) : mE X (d + 6) 186 1 0 [some (.ref 142), some (.int (Int32.ofInt x1)), some (.int (Int32.ofInt x2))] [] M (fun v M2 => R (v, M2)) := by
  refine mE_aload_n c186_0 rfl ?_
  refine mE_iload_n c186_1 rfl ?_
  refine mE_virtual1 (b := 142) (as := [.int (Int32.ofInt x1)]) (r := []) c186_2 qo186 qK12_224 qo136 rfl rfl rfl (ok_lit rfl rfl rfl) (Nat.le_of_ble_eq_true rfl) (s136 (d := d + 4) hx1 w.obind) ?_
  rintro v1 _ q3 ⟨rfl, w⟩
  by_cases e4 : v1 = 0
  · have w := w.pos e4
    refine mE_if_ne_F (t := 10) c186_5 rfl q3 e4 ?_
    refine mE_iconst c186_8 ?_
    exact mE_iret c186_9 qr186 (r4_n rfl) w.osome
  · have w := w.neg e4
    refine mE_if_ne_T (t := 10) c186_5 rfl q3 e4 ?_
    refine mE_iload_n c186_10 rfl ?_
    by_cases e5 : x2 = 0
    · have w := w.pos e5
      refine mE_table (off := 29) (t := 40) c186_11 hx2 e5 (by decide) rfl rfl ?_
      refine mE_aload_n c186_40 rfl ?_
      refine mE_getA c186_41 qo186 qF12_14 (ok_lit rfl rfl rfl) rfl ⟨by decide, by decide⟩ ?_
      refine mE_ldc (x := 36000) c186_44 qo186 qI12_230 rfl ?_
      refine mE_iload_n c186_46 rfl ?_
      obtain ⟨g6, w⟩ := w.ogd
      refine mE_iadd c186_47 ?_
      obtain ⟨g7, w⟩ := w.ogd
      refine mE_iaload c186_48 (ok_lit rfl rfl rfl) g6 g7 ?_
      intro u8
      exact mE_iret c186_49 qr186 u8 w.osome
    have w := w.neg e5
    by_cases e6 : x2 = 1
    · have w := w.pos e6
      refine mE_table (off := 39) (t := 50) c186_11 hx2 e6 (by decide) rfl rfl ?_
      refine mE_aload_n c186_50 rfl ?_
      refine mE_getA c186_51 qo186 qF12_14 (ok_lit rfl rfl rfl) rfl ⟨by decide, by decide⟩ ?_
      refine mE_ldc_w (x := 36014) c186_54 qo186 qI12_469 rfl ?_
      refine mE_iload_n c186_57 rfl ?_
      obtain ⟨g7, w⟩ := w.ogd
      refine mE_iadd c186_58 ?_
      obtain ⟨g8, w⟩ := w.ogd
      refine mE_iaload c186_59 (ok_lit rfl rfl rfl) g7 g8 ?_
      intro u9
      exact mE_iret c186_60 qr186 u9 w.osome
    have w := w.neg e6
    by_cases e7 : x2 = 2
    · have w := w.pos e7
      refine mE_table (off := 50) (t := 61) c186_11 hx2 e7 (by decide) rfl rfl ?_
      refine mE_aload_n c186_61 rfl ?_
      refine mE_getA c186_62 qo186 qF12_14 (ok_lit rfl rfl rfl) rfl ⟨by decide, by decide⟩ ?_
      refine mE_ldc (x := 36028) c186_65 qo186 qI12_227 rfl ?_
      refine mE_iload_n c186_67 rfl ?_
      obtain ⟨g8, w⟩ := w.ogd
      refine mE_iadd c186_68 ?_
      obtain ⟨g9, w⟩ := w.ogd
      refine mE_iaload c186_69 (ok_lit rfl rfl rfl) g8 g9 ?_
      intro u10
      exact mE_iret c186_70 qr186 u10 w.osome
    have w := w.neg e7
    by_cases e8 : x2 = 3
    · have w := w.pos e8
      refine mE_table (off := 60) (t := 71) c186_11 hx2 e8 (by decide) rfl rfl ?_
      refine mE_aload_n c186_71 rfl ?_
      refine mE_virtual1 (b := 142) (as := []) (r := []) c186_72 qo186 qK12_455 qo89 rfl rfl rfl (ok_lit rfl rfl rfl) (Nat.le_of_ble_eq_true rfl) (s89 (d := d + 0) w.oc) ?_
      intro v9 M10 q11 w
      refine mE_iload_n c186_75 rfl ?_
      refine mE_static1 (as := [.int (Int32.ofInt v9), .int (Int32.ofInt x1)]) (r := []) c186_76 qo186 (by decide) qK12_248 rfl rfl rfl (Nat.le_of_ble_eq_true rfl) (s118 (d := d + 5) q11 hx1 w.obind) ?_
      rintro v12 _ q14 ⟨rfl, w⟩
      by_cases e15 : v12 = 0
      · have w := w.pos e15
        refine mE_if_eq_T (t := 86) c186_79 rfl q14 e15 ?_
        refine mE_iconst c186_86 ?_
        exact mE_iret c186_87 qr186 (r4_n rfl) w.osome
      · have w := w.neg e15
        refine mE_if_eq_F (t := 86) c186_79 rfl q14 e15 ?_
        refine mE_iconst c186_82 ?_
        refine mE_goto (t := 87) c186_83 rfl ?_
        exact mE_iret c186_87 qr186 (r4_n rfl) w.osome
    have w := w.neg e8
    refine mE_tableD (t := 88) c186_11 hx2 (by omega) rfl ?_
    refine mE_iconst c186_88 ?_
    exact mE_iret c186_89 qr186 (r4_n rfl) w.osome
theorem s186 {X : Nat × Nat × qC} {d : Nat} {x1 : Int} {x2 : Int} {M : Mm} {R : Int × Mm → Prop} (hx1 : R4 x1) (hx2 : R4 x2) (w : Wp (f186 x1 x2 M) R) : mC X (d + 7) 186 1 [.ref 142, .int (Int32.ofInt x1), .int (Int32.ofInt x2)] M (fun v M2 => R (v, M2)) :=
  mC_of (qent_mk qx186 rfl rfl rfl) (t186 hx1 hx2 w)
/-! SaggingNetModel.works -/
noncomputable def f188 (x1 : Int) (x2 : Int) (x3 : Int) (M : Mm) : Option (Int × Mm) :=
  if 0 < (M 142 2) then
  (some ((-1), M))
  else
  (if (M 142 5) = 9 then
  (some ((-1), M))
  else
  ((f132 x1 M).bind fun v5 =>
  if v5 = 0 then
  (some ((-1), M))
  else
  ((f143 x2 1 5000 M).bind fun v9 =>
  if v9 = 0 then
  (some ((-1), M))
  else
  ((f143 x3 0 99 M).bind fun v13 =>
  if v13 = 0 then
  (some ((-1), M))
  else
  (gd (0 ≤ (M 142 5) ∧ (M 142 5) < 9) (
  mlet (ms M 153 ((M 142 5)).toNat x1) fun M19 =>
  gd (0 ≤ (M19 142 5) ∧ (M19 142 5) < 9) (
  mlet (ms M19 154 ((M19 142 5)).toNat x2) fun M23 =>
  gd (0 ≤ (M23 142 5) ∧ (M23 142 5) < 9) (
  mlet (ms M23 155 ((M23 142 5)).toNat x3) fun M27 =>
  gd (R4 (36042 + (M27 142 5))) (
  gd (0 ≤ (36042 + (M27 142 5)) ∧ (36042 + (M27 142 5)) < 36400) (
  mlet (ms M27 144 ((36042 + (M27 142 5))).toNat 1) fun M32 =>
  gd (R4 ((M32 142 5) + 1)) (
  mlet (ms M32 142 5 ((M32 142 5) + 1)) fun M36 =>
  gd (R4 ((M36 142 5) - 1)) (
  some (((M36 142 5) - 1), M36)))))))))))))
theorem t188 {X : Nat × Nat × qC} {d : Nat} {x1 : Int} {x2 : Int} {x3 : Int} {M : Mm}  {R : Int × Mm → Prop} (hx1 : R4 x1) (hx2 : R4 x2) (hx3 : R4 x3) (w : Wp (f188 x1 x2 x3 M) R) : mE X (d + 2) 188 1 0 [some (.ref 142), some (.int (Int32.ofInt x1)), some (.int (Int32.ofInt x2)), some (.int (Int32.ofInt x3))] [] M (fun v M2 => R (v, M2)) := by
  refine mE_aload_n c188_0 rfl ?_
  refine mE_getI c188_1 qo188 qF12_202 (ok_lit rfl rfl rfl) rfl ?_
  intro u1
  by_cases e2 : 0 < (M 142 2)
  · have w := w.pos e2
    refine mE_if_gt_T (t := 48) c188_4 rfl u1 e2 ?_
    refine mE_iconst c188_48 ?_
    exact mE_iret c188_49 qr188 (r4_n rfl) w.osome
  · have w := w.neg e2
    refine mE_if_gt_F (t := 48) c188_4 rfl u1 e2 ?_
    refine mE_aload_n c188_7 rfl ?_
    refine mE_getI c188_8 qo188 qF12_197 (ok_lit rfl rfl rfl) rfl ?_
    intro u3
    refine mE_bipush (x := 9) c188_11 rfl ?_
    by_cases e4 : (M 142 5) = 9
    · have w := w.pos e4
      refine mE_icmp_eq_T (t := 48) c188_13 rfl u3 (r4_n rfl) e4 ?_
      refine mE_iconst c188_48 ?_
      exact mE_iret c188_49 qr188 (r4_n rfl) w.osome
    · have w := w.neg e4
      refine mE_icmp_eq_F (t := 48) c188_13 rfl u3 (r4_n rfl) e4 ?_
      refine mE_aload_n c188_16 rfl ?_
      refine mE_iload_n c188_17 rfl ?_
      refine mE_virtual1 (b := 142) (as := [.int (Int32.ofInt x1)]) (r := []) c188_18 qo188 qK12_214 qo132 rfl rfl rfl (ok_lit rfl rfl rfl) (Nat.le_of_ble_eq_true rfl) (s132 (d := d + 0) hx1 w.obind) ?_
      rintro v5 _ q7 ⟨rfl, w⟩
      by_cases e8 : v5 = 0
      · have w := w.pos e8
        refine mE_if_eq_T (t := 48) c188_21 rfl q7 e8 ?_
        refine mE_iconst c188_48 ?_
        exact mE_iret c188_49 qr188 (r4_n rfl) w.osome
      · have w := w.neg e8
        refine mE_if_eq_F (t := 48) c188_21 rfl q7 e8 ?_
        refine mE_iload_n c188_24 rfl ?_
        refine mE_i2l c188_25 hx2 ?_
        refine mE_lconst (x := 1) c188_26 rfl ?_
        refine mE_ldc2_w (x := 5000) c188_27 qo188 qJ12_217 rfl ?_
        refine mE_static1 (as := [.long (Int64.ofInt x2), .long (Int64.ofInt 1), .long (Int64.ofInt 5000)]) (r := []) c188_30 qo188 (by decide) qK12_190 rfl rfl rfl (Nat.le_of_ble_eq_true rfl) (s143 (d := d + 1) (R4.to8 hx2) (r8_n rfl) (r8_n rfl) w.obind) ?_
        rintro v9 _ q11 ⟨rfl, w⟩
        by_cases e12 : v9 = 0
        · have w := w.pos e12
          refine mE_if_eq_T (t := 48) c188_33 rfl q11 e12 ?_
          refine mE_iconst c188_48 ?_
          exact mE_iret c188_49 qr188 (r4_n rfl) w.osome
        · have w := w.neg e12
          refine mE_if_eq_F (t := 48) c188_33 rfl q11 e12 ?_
          refine mE_iload_n c188_36 rfl ?_
          refine mE_i2l c188_37 hx3 ?_
          refine mE_lconst (x := 0) c188_38 rfl ?_
          refine mE_ldc2_w (x := 99) c188_39 qo188 qJ12_221 rfl ?_
          refine mE_static1 (as := [.long (Int64.ofInt x3), .long (Int64.ofInt 0), .long (Int64.ofInt 99)]) (r := []) c188_42 qo188 (by decide) qK12_190 rfl rfl rfl (Nat.le_of_ble_eq_true rfl) (s143 (d := d + 1) (R4.to8 hx3) (r8_n rfl) (r8_n rfl) w.obind) ?_
          rintro v13 _ q15 ⟨rfl, w⟩
          by_cases e16 : v13 = 0
          · have w := w.pos e16
            refine mE_if_ne_F (t := 50) c188_45 rfl q15 e16 ?_
            refine mE_iconst c188_48 ?_
            exact mE_iret c188_49 qr188 (r4_n rfl) w.osome
          · have w := w.neg e16
            refine mE_if_ne_T (t := 50) c188_45 rfl q15 e16 ?_
            refine mE_aload_n c188_50 rfl ?_
            refine mE_getA c188_51 qo188 qF12_42 (ok_lit rfl rfl rfl) rfl ⟨by decide, by decide⟩ ?_
            refine mE_aload_n c188_54 rfl ?_
            refine mE_getI c188_55 qo188 qF12_197 (ok_lit rfl rfl rfl) rfl ?_
            intro u17
            refine mE_iload_n c188_58 rfl ?_
            obtain ⟨g18, w⟩ := w.ogd
            obtain ⟨M19, m20, w⟩ := w.mlet
            refine mE_iastore c188_59 (ok_lit rfl rfl rfl) u17 g18 hx1 ?_
            refine mE_M m20 ?_
            refine mE_aload_n c188_60 rfl ?_
            refine mE_getA c188_61 qo188 qF12_45 (ok_lit rfl rfl rfl) rfl ⟨by decide, by decide⟩ ?_
            refine mE_aload_n c188_64 rfl ?_
            refine mE_getI c188_65 qo188 qF12_197 (ok_lit rfl rfl rfl) rfl ?_
            intro u21
            refine mE_iload_n c188_68 rfl ?_
            obtain ⟨g22, w⟩ := w.ogd
            obtain ⟨M23, m24, w⟩ := w.mlet
            refine mE_iastore c188_69 (ok_lit rfl rfl rfl) u21 g22 hx2 ?_
            refine mE_M m24 ?_
            refine mE_aload_n c188_70 rfl ?_
            refine mE_getA c188_71 qo188 qF12_48 (ok_lit rfl rfl rfl) rfl ⟨by decide, by decide⟩ ?_
            refine mE_aload_n c188_74 rfl ?_
            refine mE_getI c188_75 qo188 qF12_197 (ok_lit rfl rfl rfl) rfl ?_
            intro u25
            refine mE_iload_n c188_78 rfl ?_
            obtain ⟨g26, w⟩ := w.ogd
            obtain ⟨M27, m28, w⟩ := w.mlet
            refine mE_iastore c188_79 (ok_lit rfl rfl rfl) u25 g26 hx3 ?_
            refine mE_M m28 ?_
            refine mE_aload_n c188_80 rfl ?_
            refine mE_getA c188_81 qo188 qF12_14 (ok_lit rfl rfl rfl) rfl ⟨by decide, by decide⟩ ?_
            refine mE_ldc (x := 36042) c188_84 qo188 qI12_223 rfl ?_
            refine mE_aload_n c188_86 rfl ?_
            refine mE_getI c188_87 qo188 qF12_197 (ok_lit rfl rfl rfl) rfl ?_
            intro u29
            obtain ⟨g30, w⟩ := w.ogd
            refine mE_iadd c188_90 ?_
            refine mE_iconst c188_91 ?_
            obtain ⟨g31, w⟩ := w.ogd
            obtain ⟨M32, m33, w⟩ := w.mlet
            refine mE_iastore c188_92 (ok_lit rfl rfl rfl) g30 g31 (r4_n rfl) ?_
            refine mE_M m33 ?_
            refine mE_aload_n c188_93 rfl ?_
            refine mE_dup c188_94 rfl ?_
            refine mE_getI c188_95 qo188 qF12_197 (ok_lit rfl rfl rfl) rfl ?_
            intro u34
            refine mE_iconst c188_98 ?_
            obtain ⟨g35, w⟩ := w.ogd
            refine mE_iadd c188_99 ?_
            obtain ⟨M36, m37, w⟩ := w.mlet
            refine mE_putI c188_100 qo188 qF12_197 qz12_5 (ok_lit rfl rfl rfl) (Nat.le_of_ble_eq_true rfl) rfl g35 (by rw [qy12_5]; rfl) ?_
            refine mE_M m37 ?_
            refine mE_aload_n c188_103 rfl ?_
            refine mE_getI c188_104 qo188 qF12_197 (ok_lit rfl rfl rfl) rfl ?_
            intro u38
            refine mE_iconst c188_107 ?_
            obtain ⟨g39, w⟩ := w.ogd
            refine mE_isub c188_108 ?_
            exact mE_iret c188_109 qr188 g39 w.osome
theorem s188 {X : Nat × Nat × qC} {d : Nat} {x1 : Int} {x2 : Int} {x3 : Int} {M : Mm} {R : Int × Mm → Prop} (hx1 : R4 x1) (hx2 : R4 x2) (hx3 : R4 x3) (w : Wp (f188 x1 x2 x3 M) R) : mC X (d + 3) 188 1 [.ref 142, .int (Int32.ofInt x1), .int (Int32.ofInt x2), .int (Int32.ofInt x3)] M (fun v M2 => R (v, M2)) :=
  mC_of (qent_mk qx188 rfl rfl rfl) (t188 hx1 hx2 hx3 w)
/-! SaggingNetModel.worksAre -/
noncomputable def f189 (x1 : Int) (x2 : Int) (M : Mm) : Option (Int × Mm) :=
  (f137 x1 M).bind fun v1 =>
  if v1 = 0 then
  (some ((-1), M))
  else
  ((f143 x2 0 1 M).bind fun v5 =>
  if v5 = 0 then
  (some ((-1), M))
  else
  (if x2 = 0 then
  (gd (R4 (36042 + x1)) (
  gd (0 ≤ (36042 + x1) ∧ (36042 + x1) < 36400) (
  some ((M 144 ((36042 + x1)).toNat), M))))
  else
  ((f174 M).bind fun M11 =>
  gd (0 ≤ x1 ∧ x1 < 9) (
  some ((M11 159 (x1).toNat), M11)))))
theorem t189 {X : Nat × Nat × qC} {d : Nat} {x1 : Int} {x2 : Int} {M : Mm}  {R : Int × Mm → Prop} (hx1 : R4 x1) (hx2 : R4 x2) (w : Wp (f189 x1 x2 M) R) : mE X (d + 5) 189 1 0 [some (.ref 142), some (.int (Int32.ofInt x1)), some (.int (Int32.ofInt x2))] [] M (fun v M2 => R (v, M2)) := by
  refine mE_aload_n c189_0 rfl ?_
  refine mE_iload_n c189_1 rfl ?_
  refine mE_virtual1 (b := 142) (as := [.int (Int32.ofInt x1)]) (r := []) c189_2 qo189 qK12_231 qo137 rfl rfl rfl (ok_lit rfl rfl rfl) (Nat.le_of_ble_eq_true rfl) (s137 (d := d + 3) hx1 w.obind) ?_
  rintro v1 _ q3 ⟨rfl, w⟩
  by_cases e4 : v1 = 0
  · have w := w.pos e4
    refine mE_if_eq_T (t := 18) c189_5 rfl q3 e4 ?_
    refine mE_iconst c189_18 ?_
    exact mE_iret c189_19 qr189 (r4_n rfl) w.osome
  · have w := w.neg e4
    refine mE_if_eq_F (t := 18) c189_5 rfl q3 e4 ?_
    refine mE_iload_n c189_8 rfl ?_
    refine mE_i2l c189_9 hx2 ?_
    refine mE_lconst (x := 0) c189_10 rfl ?_
    refine mE_lconst (x := 1) c189_11 rfl ?_
    refine mE_static1 (as := [.long (Int64.ofInt x2), .long (Int64.ofInt 0), .long (Int64.ofInt 1)]) (r := []) c189_12 qo189 (by decide) qK12_190 rfl rfl rfl (Nat.le_of_ble_eq_true rfl) (s143 (d := d + 4) (R4.to8 hx2) (r8_n rfl) (r8_n rfl) w.obind) ?_
    rintro v5 _ q7 ⟨rfl, w⟩
    by_cases e8 : v5 = 0
    · have w := w.pos e8
      refine mE_if_ne_F (t := 20) c189_15 rfl q7 e8 ?_
      refine mE_iconst c189_18 ?_
      exact mE_iret c189_19 qr189 (r4_n rfl) w.osome
    · have w := w.neg e8
      refine mE_if_ne_T (t := 20) c189_15 rfl q7 e8 ?_
      refine mE_iload_n c189_20 rfl ?_
      by_cases e9 : x2 = 0
      · have w := w.pos e9
        refine mE_if_ne_F (t := 34) c189_21 rfl hx2 e9 ?_
        refine mE_aload_n c189_24 rfl ?_
        refine mE_getA c189_25 qo189 qF12_14 (ok_lit rfl rfl rfl) rfl ⟨by decide, by decide⟩ ?_
        refine mE_ldc (x := 36042) c189_28 qo189 qI12_223 rfl ?_
        refine mE_iload_n c189_30 rfl ?_
        obtain ⟨g10, w⟩ := w.ogd
        refine mE_iadd c189_31 ?_
        obtain ⟨g11, w⟩ := w.ogd
        refine mE_iaload c189_32 (ok_lit rfl rfl rfl) g10 g11 ?_
        intro u12
        exact mE_iret c189_33 qr189 u12 w.osome
      · have w := w.neg e9
        refine mE_if_ne_T (t := 34) c189_21 rfl hx2 e9 ?_
        refine mE_aload_n c189_34 rfl ?_
        refine mE_virtual0 (b := 142) (as := []) (r := []) c189_35 qo189 qK12_466 qo174 rfl rfl rfl (ok_lit rfl rfl rfl) (Nat.le_of_ble_eq_true rfl) (s174 (d := d + 0) w.obind) ?_
        intro _ M11 w
        refine mE_aload_n c189_38 rfl ?_
        refine mE_getA c189_39 qo189 qF12_61 (ok_lit rfl rfl rfl) rfl ⟨by decide, by decide⟩ ?_
        refine mE_iload_n c189_42 rfl ?_
        obtain ⟨g13, w⟩ := w.ogd
        refine mE_iaload c189_43 (ok_lit rfl rfl rfl) hx1 g13 ?_
        intro u14
        exact mE_iret c189_44 qr189 u14 w.osome
theorem s189 {X : Nat × Nat × qC} {d : Nat} {x1 : Int} {x2 : Int} {M : Mm} {R : Int × Mm → Prop} (hx1 : R4 x1) (hx2 : R4 x2) (w : Wp (f189 x1 x2 M) R) : mC X (d + 6) 189 1 [.ref 142, .int (Int32.ofInt x1), .int (Int32.ofInt x2)] M (fun v M2 => R (v, M2)) :=
  mC_of (qent_mk qx189 rfl rfl rfl) (t189 hx1 hx2 w)
