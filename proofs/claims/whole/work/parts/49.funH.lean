/-! SaggingNetModel.opens -/
noncomputable def f150_18  (M : Mm) : Option (Mm) :=
  gd (R4 ((M 142 49) + 1)) (
  mlet (ms M 142 49 ((M 142 49) + 1)) fun M3 =>
  (f120 M3).bind fun v5 =>
  (f155 v5 M3).bind fun M9 =>
  some M9)
theorem t150_18 {X : Nat × Nat × qC} {d : Nat}  {M : Mm}  {R : Mm → Prop}  (w : Wp (f150_18  M) R) : mE X (d + 1) 150 0 18 [some (.ref 142)] [] M (fun v M2 => R M2) := by
  refine mE_aload_n c150_18 rfl ?_
  refine mE_dup c150_19 rfl ?_
  refine mE_getI c150_20 qo150 qF12_309 (ok_lit rfl rfl rfl) rfl ?_
  intro u1
  refine mE_iconst c150_23 ?_
  obtain ⟨g2, w⟩ := w.ogd
  refine mE_iadd c150_24 ?_
  obtain ⟨M3, m4, w⟩ := w.mlet
  refine mE_putI c150_25 qo150 qF12_309 qz12_49 (ok_lit rfl rfl rfl) (Nat.le_of_ble_eq_true rfl) rfl g2 (by rw [qy12_49]; rfl) ?_
  refine mE_M m4 ?_
  refine mE_aload_n c150_28 rfl ?_
  refine mE_aload_n c150_29 rfl ?_
  refine mE_virtual1 (b := 142) (as := []) (r := [.ref 142]) c150_30 qo150 qK12_315 qo120 rfl rfl rfl (ok_lit rfl rfl rfl) (Nat.le_of_ble_eq_true rfl) (s120 (d := d + 0) w.obind) ?_
  rintro v5 _ q7 ⟨rfl, w⟩
  refine mE_virtual0 (b := 142) (as := [.int (Int32.ofInt v5)]) (r := []) c150_33 qo150 qK12_319 qo155 rfl rfl rfl (ok_lit rfl rfl rfl) (Nat.le_of_ble_eq_true rfl) (s155 (d := d + 0) q7 w.obind) ?_
  intro _ M9 w
  exact mE_vret c150_36 qr150 w.osome
noncomputable def f150  (M : Mm) : Option (Mm) :=
  if (M 142 49) = 6 then
  ((f190 5 (M 142 44) M).bind fun M5 =>
  f150_18 M5)
  else
  (f150_18 M)
theorem t150 {X : Nat × Nat × qC} {d : Nat}  {M : Mm}  {R : Mm → Prop}  (w : Wp (f150  M) R) : mE X (d + 1) 150 0 0 [some (.ref 142)] [] M (fun v M2 => R M2) := by
  refine mE_aload_n c150_0 rfl ?_
  refine mE_getI c150_1 qo150 qF12_309 (ok_lit rfl rfl rfl) rfl ?_
  intro u1
  refine mE_bipush (x := 6) c150_4 rfl ?_
  by_cases e2 : (M 142 49) = 6
  · have w := w.pos e2
    refine mE_icmp_ne_F (t := 18) c150_6 rfl u1 (r4_n rfl) e2 ?_
    refine mE_aload_n c150_9 rfl ?_
    refine mE_iconst c150_10 ?_
    refine mE_aload_n c150_11 rfl ?_
    refine mE_getI c150_12 qo150 qF12_290 (ok_lit rfl rfl rfl) rfl ?_
    intro u3
    refine mE_virtual0 (b := 142) (as := [.int (Int32.ofInt 5), .int (Int32.ofInt (M 142 44))]) (r := []) c150_15 qo150 qK12_312 qo190 rfl rfl rfl (ok_lit rfl rfl rfl) (Nat.le_of_ble_eq_true rfl) (s190 (d := d + 0) (r4_n rfl) u3 w.obind) ?_
    intro _ M5 w
    exact t150_18  w
  · have w := w.neg e2
    refine mE_icmp_ne_T (t := 18) c150_6 rfl u1 (r4_n rfl) e2 ?_
    exact t150_18  w
theorem s150 {X : Nat × Nat × qC} {d : Nat}  {M : Mm} {R : Mm → Prop}  (w : Wp (f150  M) R) : mC X (d + 2) 150 0 [.ref 142] M (fun v M2 => R M2) :=
  mC_of (qent_mk qx150 rfl rfl rfl) (t150  w)
/-! SaggingNetModel.seesDigit -/
noncomputable def f160  (M : Mm) : Option (Int) :=
  (f120 M).bind fun v1 =>
  (f143 v1 48 57 M).bind fun v4 =>
  gd (v4 = 0 ∨ v4 = 1) (
  some v4)
theorem t160 {X : Nat × Nat × qC} {d : Nat}  {M : Mm}  {R : Int → Prop}  (w : Wp (f160  M) R) : mE X (d + 1) 160 1 0 [some (.ref 142)] [] M (fun v M2 => M = M2 ∧ R v) := by
  refine mE_aload_n c160_0 rfl ?_
  refine mE_virtual1 (b := 142) (as := []) (r := []) c160_1 qo160 qK12_315 qo120 rfl rfl rfl (ok_lit rfl rfl rfl) (Nat.le_of_ble_eq_true rfl) (s120 (d := d + 0) w.obind) ?_
  rintro v1 _ q3 ⟨rfl, w⟩
  refine mE_i2l c160_4 q3 ?_
  refine mE_ldc2_w (x := 48) c160_5 qo160 qJ12_322 rfl ?_
  refine mE_ldc2_w (x := 57) c160_8 qo160 qJ12_324 rfl ?_
  refine mE_static1 (as := [.long (Int64.ofInt v1), .long (Int64.ofInt 48), .long (Int64.ofInt 57)]) (r := []) c160_11 qo160 (by decide) qK12_190 rfl rfl rfl (Nat.le_of_ble_eq_true rfl) (s143 (d := d + 0) (R4.to8 q3) (r8_n rfl) (r8_n rfl) w.obind) ?_
  rintro v4 _ q6 ⟨rfl, w⟩
  obtain ⟨g7, w⟩ := w.ogd
  exact mE_zret c160_14 qr160 g7 ⟨rfl, w.osome⟩
theorem s160 {X : Nat × Nat × qC} {d : Nat}  {M : Mm} {R : Int → Prop}  (w : Wp (f160  M) R) : mC X (d + 2) 160 1 [.ref 142] M (fun v M2 => M = M2 ∧ R v) :=
  mC_of (qent_mk qx160 rfl rfl rfl) (t160  w)
/-! SaggingNetModel.reads -/
def E156_7 (X : Nat × Nat × qC) (d : Nat) (x1 : Int) (R : Int × Mm → Prop) : Int × Mm → Prop := fun s => R4 s.1 → mE X (d + 2) 156 1 7 [some (.ref 142), some (.int (Int32.ofInt x1)), some (.int (Int32.ofInt s.1))] [] s.2 (fun v M2 => R (v, M2))
noncomputable def f156_41 (x1 : Int) (x2 : Int) (M : Mm) : Option ((Int × Mm) ⊕ (Int × Mm)) :=
  gd (R4 (10 * x2)) (
  (f120 M).bind fun v2 =>
  gd (R4 ((10 * x2) + v2)) (
  gd (R4 (((10 * x2) + v2) - 48)) (
  gd (R4 ((M 142 44) + 1)) (
  mlet (ms M 142 44 ((M 142 44) + 1)) fun M9 =>
  some (.inl ((((10 * x2) + v2) - 48), M9))))))
theorem t156_41 {X : Nat × Nat × qC} {d : Nat} {x1 : Int} {x2 : Int} {M : Mm}  {R : Int × Mm → Prop} (hx1 : R4 x1) (hx2 : R4 x2) (w : Wp (f156_41 x1 x2 M) (Sum.elim (E156_7 X d x1 R) R)) : mE X (d + 2) 156 1 41 [some (.ref 142), some (.int (Int32.ofInt x1)), some (.int (Int32.ofInt x2))] [] M (fun v M2 => R (v, M2)) := by
  refine mE_bipush (x := 10) c156_41 rfl ?_
  refine mE_iload_n c156_43 rfl ?_
  obtain ⟨g1, w⟩ := w.ogd
  refine mE_imul c156_44 ?_
  refine mE_aload_n c156_45 rfl ?_
  refine mE_virtual1 (b := 142) (as := []) (r := [.int (Int32.ofInt (10 * x2))]) c156_46 qo156 qK12_315 qo120 rfl rfl rfl (ok_lit rfl rfl rfl) (Nat.le_of_ble_eq_true rfl) (s120 (d := d + 1) w.obind) ?_
  rintro v2 _ q4 ⟨rfl, w⟩
  obtain ⟨g5, w⟩ := w.ogd
  refine mE_iadd c156_49 ?_
  refine mE_bipush (x := 48) c156_50 rfl ?_
  obtain ⟨g6, w⟩ := w.ogd
  refine mE_isub c156_52 ?_
  refine mE_istore_n (ls2 := [some (.ref 142), some (.int (Int32.ofInt x1)), some (.int (Int32.ofInt (((10 * x2) + v2) - 48)))]) c156_53 (Nat.le_of_ble_eq_true rfl) rfl ?_
  refine mE_aload_n c156_54 rfl ?_
  refine mE_dup c156_55 rfl ?_
  refine mE_getI c156_56 qo156 qF12_290 (ok_lit rfl rfl rfl) rfl ?_
  intro u7
  refine mE_iconst c156_59 ?_
  obtain ⟨g8, w⟩ := w.ogd
  refine mE_iadd c156_60 ?_
  obtain ⟨M9, m10, w⟩ := w.mlet
  refine mE_putI c156_61 qo156 qF12_290 qz12_44 (ok_lit rfl rfl rfl) (Nat.le_of_ble_eq_true rfl) rfl g8 (by rw [qy12_44]; rfl) ?_
  refine mE_M m10 ?_
  refine mE_goto (t := 7) c156_64 rfl ?_
  exact w.osome g6
noncomputable def lb156_7 (x1 : Int) (x2 : Int) (M : Mm) : Option ((Int × Mm) ⊕ (Int × Mm)) :=
  (f124 M).bind fun v1 =>
  if v1 = 0 then
  (oinr (some (x2, M)))
  else
  ((f160 M).bind fun v5 =>
  if v5 = 0 then
  (oinr (some (x2, M)))
  else
  (gd (R4 (x1 + 6)) (
  if (M 142 44) = (x1 + 6) then
  ((f190 2 (M 142 44) M).bind fun M14 =>
  f156_41 x1 x2 M14)
  else
  (f156_41 x1 x2 M))))
noncomputable def f156_7 (x1 : Int) (x2 : Int) (M : Mm) : Option (Int × Mm) := lp (fun s : Int × Mm => lb156_7 x1 s.1 s.2) (x2, M)
theorem tb156_7 {X : Nat × Nat × qC} {d : Nat} {x1 : Int} {x2 : Int} {M : Mm}  {R : Int × Mm → Prop} (hx1 : R4 x1) (hx2 : R4 x2) (w : Wp (lb156_7 x1 x2 M) (Sum.elim (E156_7 X d x1 R) R)) : mE X (d + 2) 156 1 7 [some (.ref 142), some (.int (Int32.ofInt x1)), some (.int (Int32.ofInt x2))] [] M (fun v M2 => R (v, M2)) := by
  refine mE_aload_n c156_7 rfl ?_
  refine mE_virtual1 (b := 142) (as := []) (r := []) c156_8 qo156 qK12_299 qo124 rfl rfl rfl (ok_lit rfl rfl rfl) (Nat.le_of_ble_eq_true rfl) (s124 (d := d + 1) w.obind) ?_
  rintro v1 _ q3 ⟨rfl, w⟩
  by_cases e4 : v1 = 0
  · have w := w.pos e4
    refine mE_if_eq_T (t := 67) c156_11 rfl q3 e4 ?_
    have w := w.oinr
    refine mE_iload_n c156_67 rfl ?_
    exact mE_iret c156_68 qr156 hx2 w.osome
  · have w := w.neg e4
    refine mE_if_eq_F (t := 67) c156_11 rfl q3 e4 ?_
    refine mE_aload_n c156_14 rfl ?_
    refine mE_virtual1 (b := 142) (as := []) (r := []) c156_15 qo156 qK12_326 qo160 rfl rfl rfl (ok_lit rfl rfl rfl) (Nat.le_of_ble_eq_true rfl) (s160 (d := d + 0) w.obind) ?_
    rintro v5 _ q7 ⟨rfl, w⟩
    by_cases e8 : v5 = 0
    · have w := w.pos e8
      refine mE_if_eq_T (t := 67) c156_18 rfl q7 e8 ?_
      have w := w.oinr
      refine mE_iload_n c156_67 rfl ?_
      exact mE_iret c156_68 qr156 hx2 w.osome
    · have w := w.neg e8
      refine mE_if_eq_F (t := 67) c156_18 rfl q7 e8 ?_
      refine mE_aload_n c156_21 rfl ?_
      refine mE_getI c156_22 qo156 qF12_290 (ok_lit rfl rfl rfl) rfl ?_
      intro u9
      refine mE_iload_n c156_25 rfl ?_
      refine mE_bipush (x := 6) c156_26 rfl ?_
      obtain ⟨g10, w⟩ := w.ogd
      refine mE_iadd c156_28 ?_
      by_cases e11 : (M 142 44) = (x1 + 6)
      · have w := w.pos e11
        refine mE_icmp_ne_F (t := 41) c156_29 rfl u9 g10 e11 ?_
        refine mE_aload_n c156_32 rfl ?_
        refine mE_iconst c156_33 ?_
        refine mE_aload_n c156_34 rfl ?_
        refine mE_getI c156_35 qo156 qF12_290 (ok_lit rfl rfl rfl) rfl ?_
        intro u12
        refine mE_virtual0 (b := 142) (as := [.int (Int32.ofInt 2), .int (Int32.ofInt (M 142 44))]) (r := []) c156_38 qo156 qK12_312 qo190 rfl rfl rfl (ok_lit rfl rfl rfl) (Nat.le_of_ble_eq_true rfl) (s190 (d := d + 1) (r4_n rfl) u12 w.obind) ?_
        intro _ M14 w
        exact t156_41 hx1 hx2 w
      · have w := w.neg e11
        refine mE_icmp_ne_T (t := 41) c156_29 rfl u9 g10 e11 ?_
        exact t156_41 hx1 hx2 w
theorem t156_7 {X : Nat × Nat × qC} {d : Nat} {x1 : Int} {x2 : Int} {M : Mm}  {R : Int × Mm → Prop} (hx1 : R4 x1) (hx2 : R4 x2) (w : Wp (f156_7 x1 x2 M) R) : mE X (d + 2) 156 1 7 [some (.ref 142), some (.int (Int32.ofInt x1)), some (.int (Int32.ofInt x2))] [] M (fun v M2 => R (v, M2)) :=
  Wp.olp (f := fun s : Int × Mm => lb156_7 x1 s.1 s.2) (s := (x2, M)) (E := E156_7 X d x1 R) w (fun s w hx2 => tb156_7 hx1 hx2 w) hx2
noncomputable def f156  (M : Mm) : Option (Int × Mm) :=
  f156_7 (M 142 44) 0 M
theorem t156 {X : Nat × Nat × qC} {d : Nat}  {M : Mm}  {R : Int × Mm → Prop}  (w : Wp (f156  M) R) : mE X (d + 2) 156 1 0 [some (.ref 142), none, none] [] M (fun v M2 => R (v, M2)) := by
  refine mE_aload_n c156_0 rfl ?_
  refine mE_getI c156_1 qo156 qF12_290 (ok_lit rfl rfl rfl) rfl ?_
  intro u1
  refine mE_istore_n (ls2 := [some (.ref 142), some (.int (Int32.ofInt (M 142 44))), none]) c156_4 (Nat.le_of_ble_eq_true rfl) rfl ?_
  refine mE_iconst c156_5 ?_
  refine mE_istore_n (ls2 := [some (.ref 142), some (.int (Int32.ofInt (M 142 44))), some (.int (Int32.ofInt 0))]) c156_6 (Nat.le_of_ble_eq_true rfl) rfl ?_
  exact t156_7 u1 (r4_n rfl) w
theorem s156 {X : Nat × Nat × qC} {d : Nat}  {M : Mm} {R : Int × Mm → Prop}  (w : Wp (f156  M) R) : mC X (d + 3) 156 1 [.ref 142] M (fun v M2 => R (v, M2)) :=
  mC_of (qent_mk qx156 rfl rfl rfl) (t156  w)
/-! SaggingNetModel.emit -/
noncomputable def f103 (x1 : Int) (x2 : Int) (M : Mm) : Option (Mm) :=
  (f124 M).bind fun v1 =>
  if v1 = 0 then
  (some M)
  else
  (gd (0 ≤ (M 142 48) ∧ (M 142 48) < 160) (
  mlet (ms M 175 ((M 142 48)).toNat x1) fun M7 =>
  gd (0 ≤ (M7 142 48) ∧ (M7 142 48) < 160) (
  mlet (ms M7 176 ((M7 142 48)).toNat x2) fun M11 =>
  gd (R4 ((M11 142 48) + 1)) (
  mlet (ms M11 142 48 ((M11 142 48) + 1)) fun M15 =>
  some M15))))
theorem t103 {X : Nat × Nat × qC} {d : Nat} {x1 : Int} {x2 : Int} {M : Mm}  {R : Mm → Prop} (hx1 : R4 x1) (hx2 : R4 x2) (w : Wp (f103 x1 x2 M) R) : mE X (d + 1) 103 0 0 [some (.ref 142), some (.int (Int32.ofInt x1)), some (.int (Int32.ofInt x2))] [] M (fun v M2 => R M2) := by
  refine mE_aload_n c103_0 rfl ?_
  refine mE_virtual1 (b := 142) (as := []) (r := []) c103_1 qo103 qK12_299 qo124 rfl rfl rfl (ok_lit rfl rfl rfl) (Nat.le_of_ble_eq_true rfl) (s124 (d := d + 0) w.obind) ?_
  rintro v1 _ q3 ⟨rfl, w⟩
  by_cases e4 : v1 = 0
  · have w := w.pos e4
    refine mE_if_ne_F (t := 8) c103_4 rfl q3 e4 ?_
    exact mE_vret c103_7 qr103 w.osome
  · have w := w.neg e4
    refine mE_if_ne_T (t := 8) c103_4 rfl q3 e4 ?_
    refine mE_aload_n c103_8 rfl ?_
    refine mE_getA c103_9 qo103 qF12_110 (ok_lit rfl rfl rfl) rfl ⟨by decide, by decide⟩ ?_
    refine mE_aload_n c103_12 rfl ?_
    refine mE_getI c103_13 qo103 qF12_303 (ok_lit rfl rfl rfl) rfl ?_
    intro u5
    refine mE_iload_n c103_16 rfl ?_
    obtain ⟨g6, w⟩ := w.ogd
    obtain ⟨M7, m8, w⟩ := w.mlet
    refine mE_iastore c103_17 (ok_lit rfl rfl rfl) u5 g6 hx1 ?_
    refine mE_M m8 ?_
    refine mE_aload_n c103_18 rfl ?_
    refine mE_getA c103_19 qo103 qF12_113 (ok_lit rfl rfl rfl) rfl ⟨by decide, by decide⟩ ?_
    refine mE_aload_n c103_22 rfl ?_
    refine mE_getI c103_23 qo103 qF12_303 (ok_lit rfl rfl rfl) rfl ?_
    intro u9
    refine mE_iload_n c103_26 rfl ?_
    obtain ⟨g10, w⟩ := w.ogd
    obtain ⟨M11, m12, w⟩ := w.mlet
    refine mE_iastore c103_27 (ok_lit rfl rfl rfl) u9 g10 hx2 ?_
    refine mE_M m12 ?_
    refine mE_aload_n c103_28 rfl ?_
    refine mE_dup c103_29 rfl ?_
    refine mE_getI c103_30 qo103 qF12_303 (ok_lit rfl rfl rfl) rfl ?_
    intro u13
    refine mE_iconst c103_33 ?_
    obtain ⟨g14, w⟩ := w.ogd
    refine mE_iadd c103_34 ?_
    obtain ⟨M15, m16, w⟩ := w.mlet
    refine mE_putI c103_35 qo103 qF12_303 qz12_48 (ok_lit rfl rfl rfl) (Nat.le_of_ble_eq_true rfl) rfl g14 (by rw [qy12_48]; rfl) ?_
    refine mE_M m16 ?_
    exact mE_vret c103_38 qr103 w.osome
theorem s103 {X : Nat × Nat × qC} {d : Nat} {x1 : Int} {x2 : Int} {M : Mm} {R : Mm → Prop} (hx1 : R4 x1) (hx2 : R4 x2) (w : Wp (f103 x1 x2 M) R) : mC X (d + 2) 103 0 [.ref 142, .int (Int32.ofInt x1), .int (Int32.ofInt x2)] M (fun v M2 => R M2) :=
  mC_of (qent_mk qx103 rfl rfl rfl) (t103 hx1 hx2 w)
/-! SaggingNetModel.isValue -/
noncomputable def f135 (x1 : Int) (M : Mm) : Option (Int) :=
  if x1 = 109 then
  (some 1)
  else
  (if x1 = 105 then
  (some 1)
  else
  (if x1 = 107 then
  (some 1)
  else
  (if x1 = 114 then
  (some 1)
  else
  (if x1 = 100 then
  (some 1)
  else
  (if x1 = 110 then
  (some 1)
  else
  (gd (0 ≤ (M 142 47) ∧ (M 142 47) < 12) (
  if (M 172 ((M 142 47)).toNat) = 116 then
  (if x1 = 102 then
  (some 1)
  else
  (if x1 = 108 then
  (some 1)
  else
  (if x1 = 119 then
  (some 1)
  else
  (some 0))))
  else
  (if x1 = 103 then
  (some 1)
  else
  (if x1 = 120 then
  (some 1)
  else
  (some 0))))))))))
theorem t135 {X : Nat × Nat × qC} {d : Nat} {x1 : Int} {M : Mm}  {R : Int → Prop} (hx1 : R4 x1) (w : Wp (f135 x1 M) R) : mE X (d + 0) 135 1 0 [some (.ref 142), some (.int (Int32.ofInt x1))] [] M (fun v M2 => M = M2 ∧ R v) := by
  refine mE_iload_n c135_0 rfl ?_
  refine mE_bipush (x := 109) c135_1 rfl ?_
  by_cases e1 : x1 = 109
  · have w := w.pos e1
    refine mE_icmp_eq_T (t := 36) c135_3 rfl hx1 (r4_n rfl) e1 ?_
    refine mE_iconst c135_36 ?_
    exact mE_zret c135_37 qr135 (Or.inr rfl) ⟨rfl, w.osome⟩
  · have w := w.neg e1
    refine mE_icmp_eq_F (t := 36) c135_3 rfl hx1 (r4_n rfl) e1 ?_
    refine mE_iload_n c135_6 rfl ?_
    refine mE_bipush (x := 105) c135_7 rfl ?_
    by_cases e2 : x1 = 105
    · have w := w.pos e2
      refine mE_icmp_eq_T (t := 36) c135_9 rfl hx1 (r4_n rfl) e2 ?_
      refine mE_iconst c135_36 ?_
      exact mE_zret c135_37 qr135 (Or.inr rfl) ⟨rfl, w.osome⟩
    · have w := w.neg e2
      refine mE_icmp_eq_F (t := 36) c135_9 rfl hx1 (r4_n rfl) e2 ?_
      refine mE_iload_n c135_12 rfl ?_
      refine mE_bipush (x := 107) c135_13 rfl ?_
      by_cases e3 : x1 = 107
      · have w := w.pos e3
        refine mE_icmp_eq_T (t := 36) c135_15 rfl hx1 (r4_n rfl) e3 ?_
        refine mE_iconst c135_36 ?_
        exact mE_zret c135_37 qr135 (Or.inr rfl) ⟨rfl, w.osome⟩
      · have w := w.neg e3
        refine mE_icmp_eq_F (t := 36) c135_15 rfl hx1 (r4_n rfl) e3 ?_
        refine mE_iload_n c135_18 rfl ?_
        refine mE_bipush (x := 114) c135_19 rfl ?_
        by_cases e4 : x1 = 114
        · have w := w.pos e4
          refine mE_icmp_eq_T (t := 36) c135_21 rfl hx1 (r4_n rfl) e4 ?_
          refine mE_iconst c135_36 ?_
          exact mE_zret c135_37 qr135 (Or.inr rfl) ⟨rfl, w.osome⟩
        · have w := w.neg e4
          refine mE_icmp_eq_F (t := 36) c135_21 rfl hx1 (r4_n rfl) e4 ?_
          refine mE_iload_n c135_24 rfl ?_
          refine mE_bipush (x := 100) c135_25 rfl ?_
          by_cases e5 : x1 = 100
          · have w := w.pos e5
            refine mE_icmp_eq_T (t := 36) c135_27 rfl hx1 (r4_n rfl) e5 ?_
            refine mE_iconst c135_36 ?_
            exact mE_zret c135_37 qr135 (Or.inr rfl) ⟨rfl, w.osome⟩
          · have w := w.neg e5
            refine mE_icmp_eq_F (t := 36) c135_27 rfl hx1 (r4_n rfl) e5 ?_
            refine mE_iload_n c135_30 rfl ?_
            refine mE_bipush (x := 110) c135_31 rfl ?_
            by_cases e6 : x1 = 110
            · have w := w.pos e6
              refine mE_icmp_ne_F (t := 38) c135_33 rfl hx1 (r4_n rfl) e6 ?_
              refine mE_iconst c135_36 ?_
              exact mE_zret c135_37 qr135 (Or.inr rfl) ⟨rfl, w.osome⟩
            · have w := w.neg e6
              refine mE_icmp_ne_T (t := 38) c135_33 rfl hx1 (r4_n rfl) e6 ?_
              refine mE_aload_n c135_38 rfl ?_
              refine mE_getA c135_39 qo135 qF12_101 (ok_lit rfl rfl rfl) rfl ⟨by decide, by decide⟩ ?_
              refine mE_aload_n c135_42 rfl ?_
              refine mE_getI c135_43 qo135 qF12_329 (ok_lit rfl rfl rfl) rfl ?_
              intro u7
              obtain ⟨g8, w⟩ := w.ogd
              refine mE_iaload c135_46 (ok_lit rfl rfl rfl) u7 g8 ?_
              intro u9
              refine mE_bipush (x := 116) c135_47 rfl ?_
              by_cases e10 : (M 172 ((M 142 47)).toNat) = 116
              · have w := w.pos e10
                refine mE_icmp_ne_F (t := 78) c135_49 rfl u9 (r4_n rfl) e10 ?_
                refine mE_iload_n c135_52 rfl ?_
                refine mE_bipush (x := 102) c135_53 rfl ?_
                by_cases e11 : x1 = 102
                · have w := w.pos e11
                  refine mE_icmp_eq_T (t := 70) c135_55 rfl hx1 (r4_n rfl) e11 ?_
                  refine mE_iconst c135_70 ?_
                  refine mE_goto (t := 95) c135_71 rfl ?_
                  exact mE_zret c135_95 qr135 (Or.inr rfl) ⟨rfl, w.osome⟩
                · have w := w.neg e11
                  refine mE_icmp_eq_F (t := 70) c135_55 rfl hx1 (r4_n rfl) e11 ?_
                  refine mE_iload_n c135_58 rfl ?_
                  refine mE_bipush (x := 108) c135_59 rfl ?_
                  by_cases e12 : x1 = 108
                  · have w := w.pos e12
                    refine mE_icmp_eq_T (t := 70) c135_61 rfl hx1 (r4_n rfl) e12 ?_
                    refine mE_iconst c135_70 ?_
                    refine mE_goto (t := 95) c135_71 rfl ?_
                    exact mE_zret c135_95 qr135 (Or.inr rfl) ⟨rfl, w.osome⟩
                  · have w := w.neg e12
                    refine mE_icmp_eq_F (t := 70) c135_61 rfl hx1 (r4_n rfl) e12 ?_
                    refine mE_iload_n c135_64 rfl ?_
                    refine mE_bipush (x := 119) c135_65 rfl ?_
                    by_cases e13 : x1 = 119
                    · have w := w.pos e13
                      refine mE_icmp_ne_F (t := 74) c135_67 rfl hx1 (r4_n rfl) e13 ?_
                      refine mE_iconst c135_70 ?_
                      refine mE_goto (t := 95) c135_71 rfl ?_
                      exact mE_zret c135_95 qr135 (Or.inr rfl) ⟨rfl, w.osome⟩
                    · have w := w.neg e13
                      refine mE_icmp_ne_T (t := 74) c135_67 rfl hx1 (r4_n rfl) e13 ?_
                      refine mE_iconst c135_74 ?_
                      refine mE_goto (t := 95) c135_75 rfl ?_
                      exact mE_zret c135_95 qr135 (Or.inl rfl) ⟨rfl, w.osome⟩
              · have w := w.neg e10
                refine mE_icmp_ne_T (t := 78) c135_49 rfl u9 (r4_n rfl) e10 ?_
                refine mE_iload_n c135_78 rfl ?_
                refine mE_bipush (x := 103) c135_79 rfl ?_
                by_cases e11 : x1 = 103
                · have w := w.pos e11
                  refine mE_icmp_eq_T (t := 90) c135_81 rfl hx1 (r4_n rfl) e11 ?_
                  refine mE_iconst c135_90 ?_
                  refine mE_goto (t := 95) c135_91 rfl ?_
                  exact mE_zret c135_95 qr135 (Or.inr rfl) ⟨rfl, w.osome⟩
                · have w := w.neg e11
                  refine mE_icmp_eq_F (t := 90) c135_81 rfl hx1 (r4_n rfl) e11 ?_
                  refine mE_iload_n c135_84 rfl ?_
                  refine mE_bipush (x := 120) c135_85 rfl ?_
                  by_cases e12 : x1 = 120
                  · have w := w.pos e12
                    refine mE_icmp_ne_F (t := 94) c135_87 rfl hx1 (r4_n rfl) e12 ?_
                    refine mE_iconst c135_90 ?_
                    refine mE_goto (t := 95) c135_91 rfl ?_
                    exact mE_zret c135_95 qr135 (Or.inr rfl) ⟨rfl, w.osome⟩
                  · have w := w.neg e12
                    refine mE_icmp_ne_T (t := 94) c135_87 rfl hx1 (r4_n rfl) e12 ?_
                    refine mE_iconst c135_94 ?_
                    exact mE_zret c135_95 qr135 (Or.inl rfl) ⟨rfl, w.osome⟩
theorem s135 {X : Nat × Nat × qC} {d : Nat} {x1 : Int} {M : Mm} {R : Int → Prop} (hx1 : R4 x1) (w : Wp (f135 x1 M) R) : mC X (d + 1) 135 1 [.ref 142, .int (Int32.ofInt x1)] M (fun v M2 => M = M2 ∧ R v) :=
  mC_of (qent_mk qx135 rfl rfl rfl) (t135 hx1 w)
/-! SaggingNetModel.factor -/
def E106_0 (X : Nat × Nat × qC) (d : Nat)  (R : Mm → Prop) : Mm → Prop := fun s => mE X (d + 3) 106 0 0 [some (.ref 142)] [] s (fun v M2 => R M2)
noncomputable def f106_23  (M : Mm) : Option (Mm) :=
  (f124 M).bind fun v1 =>
  if v1 = 0 then
  (some M)
  else
  ((f160 M).bind fun v5 =>
  if v5 = 0 then
  ((f120 M).bind fun v9 =>
  (f135 v9 M).bind fun v12 =>
  if v12 = 0 then
  ((f190 1 (M 142 44) M).bind fun M18 =>
  some M18)
  else
  ((f120 M).bind fun v16 =>
  (f103 1 v16 M).bind fun M20 =>
  gd (R4 ((M20 142 44) + 1)) (
  mlet (ms M20 142 44 ((M20 142 44) + 1)) fun M24 =>
  some M24)))
  else
  (obnd (f156 M) fun v9 M10 =>
  (f103 0 v9 M10).bind fun M13 =>
  some M13))
theorem t106_23 {X : Nat × Nat × qC} {d : Nat}  {M : Mm}  {R : Mm → Prop}  (w : Wp (f106_23  M) R) : mE X (d + 3) 106 0 23 [some (.ref 142)] [] M (fun v M2 => R M2) := by
  refine mE_aload_n c106_23 rfl ?_
  refine mE_virtual1 (b := 142) (as := []) (r := []) c106_24 qo106 qK12_299 qo124 rfl rfl rfl (ok_lit rfl rfl rfl) (Nat.le_of_ble_eq_true rfl) (s124 (d := d + 2) w.obind) ?_
  rintro v1 _ q3 ⟨rfl, w⟩
  by_cases e4 : v1 = 0
  · have w := w.pos e4
    refine mE_if_ne_F (t := 31) c106_27 rfl q3 e4 ?_
    exact mE_vret c106_30 qr106 w.osome
  · have w := w.neg e4
    refine mE_if_ne_T (t := 31) c106_27 rfl q3 e4 ?_
    refine mE_aload_n c106_31 rfl ?_
    refine mE_virtual1 (b := 142) (as := []) (r := []) c106_32 qo106 qK12_326 qo160 rfl rfl rfl (ok_lit rfl rfl rfl) (Nat.le_of_ble_eq_true rfl) (s160 (d := d + 1) w.obind) ?_
    rintro v5 _ q7 ⟨rfl, w⟩
    by_cases e8 : v5 = 0
    · have w := w.pos e8
      refine mE_if_eq_T (t := 50) c106_35 rfl q7 e8 ?_
      refine mE_aload_n c106_50 rfl ?_
      refine mE_aload_n c106_51 rfl ?_
      refine mE_virtual1 (b := 142) (as := []) (r := [.ref 142]) c106_52 qo106 qK12_315 qo120 rfl rfl rfl (ok_lit rfl rfl rfl) (Nat.le_of_ble_eq_true rfl) (s120 (d := d + 2) w.obind) ?_
      rintro v9 _ q11 ⟨rfl, w⟩
      refine mE_virtual1 (b := 142) (as := [.int (Int32.ofInt v9)]) (r := []) c106_55 qo106 qK12_350 qo135 rfl rfl rfl (ok_lit rfl rfl rfl) (Nat.le_of_ble_eq_true rfl) (s135 (d := d + 2) q11 w.obind) ?_
      rintro v12 _ q14 ⟨rfl, w⟩
      by_cases e15 : v12 = 0
      · have w := w.pos e15
        refine mE_if_eq_T (t := 83) c106_58 rfl q14 e15 ?_
        refine mE_aload_n c106_83 rfl ?_
        refine mE_iconst c106_84 ?_
        refine mE_aload_n c106_85 rfl ?_
        refine mE_getI c106_86 qo106 qF12_290 (ok_lit rfl rfl rfl) rfl ?_
        intro u16
        refine mE_virtual0 (b := 142) (as := [.int (Int32.ofInt 1), .int (Int32.ofInt (M 142 44))]) (r := []) c106_89 qo106 qK12_312 qo190 rfl rfl rfl (ok_lit rfl rfl rfl) (Nat.le_of_ble_eq_true rfl) (s190 (d := d + 2) (r4_n rfl) u16 w.obind) ?_
        intro _ M18 w
        exact mE_vret c106_92 qr106 w.osome
      · have w := w.neg e15
        refine mE_if_eq_F (t := 83) c106_58 rfl q14 e15 ?_
        refine mE_aload_n c106_61 rfl ?_
        refine mE_iconst c106_62 ?_
        refine mE_aload_n c106_63 rfl ?_
        refine mE_virtual1 (b := 142) (as := []) (r := [.int (Int32.ofInt 1), .ref 142]) c106_64 qo106 qK12_315 qo120 rfl rfl rfl (ok_lit rfl rfl rfl) (Nat.le_of_ble_eq_true rfl) (s120 (d := d + 2) w.obind) ?_
        rintro v16 _ q18 ⟨rfl, w⟩
        refine mE_virtual0 (b := 142) (as := [.int (Int32.ofInt 1), .int (Int32.ofInt v16)]) (r := []) c106_67 qo106 qK12_341 qo103 rfl rfl rfl (ok_lit rfl rfl rfl) (Nat.le_of_ble_eq_true rfl) (s103 (d := d + 1) (r4_n rfl) q18 w.obind) ?_
        intro _ M20 w
        refine mE_aload_n c106_70 rfl ?_
        refine mE_dup c106_71 rfl ?_
        refine mE_getI c106_72 qo106 qF12_290 (ok_lit rfl rfl rfl) rfl ?_
        intro u22
        refine mE_iconst c106_75 ?_
        obtain ⟨g23, w⟩ := w.ogd
        refine mE_iadd c106_76 ?_
        obtain ⟨M24, m25, w⟩ := w.mlet
        refine mE_putI c106_77 qo106 qF12_290 qz12_44 (ok_lit rfl rfl rfl) (Nat.le_of_ble_eq_true rfl) rfl g23 (by rw [qy12_44]; rfl) ?_
        refine mE_M m25 ?_
        refine mE_goto (t := 92) c106_80 rfl ?_
        exact mE_vret c106_92 qr106 w.osome
    · have w := w.neg e8
      refine mE_if_eq_F (t := 50) c106_35 rfl q7 e8 ?_
      refine mE_aload_n c106_38 rfl ?_
      refine mE_iconst c106_39 ?_
      refine mE_aload_n c106_40 rfl ?_
      refine mE_virtual1 (b := 142) (as := []) (r := [.int (Int32.ofInt 0), .ref 142]) c106_41 qo106 qK12_347 qo156 rfl rfl rfl (ok_lit rfl rfl rfl) (Nat.le_of_ble_eq_true rfl) (s156 (d := d + 0) w.oc) ?_
      intro v9 M10 q11 w
      refine mE_virtual0 (b := 142) (as := [.int (Int32.ofInt 0), .int (Int32.ofInt v9)]) (r := []) c106_44 qo106 qK12_341 qo103 rfl rfl rfl (ok_lit rfl rfl rfl) (Nat.le_of_ble_eq_true rfl) (s103 (d := d + 1) (r4_n rfl) q11 w.obind) ?_
      intro _ M13 w
      refine mE_goto (t := 92) c106_47 rfl ?_
      exact mE_vret c106_92 qr106 w.osome
noncomputable def lb106_0  (M : Mm) : Option ((Mm) ⊕ (Mm)) :=
  (f124 M).bind fun v1 =>
  if v1 = 0 then
  (oinr (f106_23 M))
  else
  ((f120 M).bind fun v5 =>
  if v5 = 91 then
  ((f150 M).bind fun M10 =>
  some (.inl (M10)))
  else
  (oinr (f106_23 M)))
noncomputable def f106_0  (M : Mm) : Option (Mm) := lp (fun s : Mm => lb106_0   s) M
theorem tb106_0 {X : Nat × Nat × qC} {d : Nat}  {M : Mm}  {R : Mm → Prop}  (w : Wp (lb106_0  M) (Sum.elim (E106_0 X d  R) R)) : mE X (d + 3) 106 0 0 [some (.ref 142)] [] M (fun v M2 => R M2) := by
  refine mE_aload_n c106_0 rfl ?_
  refine mE_virtual1 (b := 142) (as := []) (r := []) c106_1 qo106 qK12_299 qo124 rfl rfl rfl (ok_lit rfl rfl rfl) (Nat.le_of_ble_eq_true rfl) (s124 (d := d + 2) w.obind) ?_
  rintro v1 _ q3 ⟨rfl, w⟩
  by_cases e4 : v1 = 0
  · have w := w.pos e4
    refine mE_if_eq_T (t := 23) c106_4 rfl q3 e4 ?_
    have w := w.oinr
    exact t106_23  w
  · have w := w.neg e4
    refine mE_if_eq_F (t := 23) c106_4 rfl q3 e4 ?_
    refine mE_aload_n c106_7 rfl ?_
    refine mE_virtual1 (b := 142) (as := []) (r := []) c106_8 qo106 qK12_315 qo120 rfl rfl rfl (ok_lit rfl rfl rfl) (Nat.le_of_ble_eq_true rfl) (s120 (d := d + 2) w.obind) ?_
    rintro v5 _ q7 ⟨rfl, w⟩
    refine mE_bipush (x := 91) c106_11 rfl ?_
    by_cases e8 : v5 = 91
    · have w := w.pos e8
      refine mE_icmp_ne_F (t := 23) c106_13 rfl q7 (r4_n rfl) e8 ?_
      refine mE_aload_n c106_16 rfl ?_
      refine mE_virtual0 (b := 142) (as := []) (r := []) c106_17 qo106 qK12_344 qo150 rfl rfl rfl (ok_lit rfl rfl rfl) (Nat.le_of_ble_eq_true rfl) (s150 (d := d + 1) w.obind) ?_
      intro _ M10 w
      refine mE_goto (t := 0) c106_20 rfl ?_
      exact w.osome 
    · have w := w.neg e8
      refine mE_icmp_ne_T (t := 23) c106_13 rfl q7 (r4_n rfl) e8 ?_
      have w := w.oinr
      exact t106_23  w
theorem t106_0 {X : Nat × Nat × qC} {d : Nat}  {M : Mm}  {R : Mm → Prop}  (w : Wp (f106_0  M) R) : mE X (d + 3) 106 0 0 [some (.ref 142)] [] M (fun v M2 => R M2) :=
  Wp.olp (f := fun s : Mm => lb106_0   s) (s := M) (E := E106_0 X d  R) w (fun s w  => tb106_0  w) 
noncomputable def f106  (M : Mm) : Option (Mm) := f106_0  M
theorem s106 {X : Nat × Nat × qC} {d : Nat}  {M : Mm} {R : Mm → Prop}  (w : Wp (f106  M) R) : mC X (d + 4) 106 0 [.ref 142] M (fun v M2 => R M2) :=
  mC_of (qent_mk qx106 rfl rfl rfl) (t106_0  w)
/-! SaggingNetModel.isTimes -/
noncomputable def f133 (x0 : Int) (M : Mm) : Option (Int) :=
  if x0 = 42 then
  (some 1)
  else
  (if x0 = 47 then
  (some 1)
  else
  (if x0 = 37 then
  (some 1)
  else
  (some 0)))
theorem t133 {X : Nat × Nat × qC} {d : Nat} {x0 : Int} {M : Mm}  {R : Int → Prop} (hx0 : R4 x0) (w : Wp (f133 x0 M) R) : mE X (d + 0) 133 1 0 [some (.int (Int32.ofInt x0))] [] M (fun v M2 => M = M2 ∧ R v) := by
  refine mE_iload_n c133_0 rfl ?_
  refine mE_bipush (x := 42) c133_1 rfl ?_
  by_cases e1 : x0 = 42
  · have w := w.pos e1
    refine mE_icmp_eq_T (t := 18) c133_3 rfl hx0 (r4_n rfl) e1 ?_
    refine mE_iconst c133_18 ?_
    refine mE_goto (t := 23) c133_19 rfl ?_
    exact mE_zret c133_23 qr133 (Or.inr rfl) ⟨rfl, w.osome⟩
  · have w := w.neg e1
    refine mE_icmp_eq_F (t := 18) c133_3 rfl hx0 (r4_n rfl) e1 ?_
    refine mE_iload_n c133_6 rfl ?_
    refine mE_bipush (x := 47) c133_7 rfl ?_
    by_cases e2 : x0 = 47
    · have w := w.pos e2
      refine mE_icmp_eq_T (t := 18) c133_9 rfl hx0 (r4_n rfl) e2 ?_
      refine mE_iconst c133_18 ?_
      refine mE_goto (t := 23) c133_19 rfl ?_
      exact mE_zret c133_23 qr133 (Or.inr rfl) ⟨rfl, w.osome⟩
    · have w := w.neg e2
      refine mE_icmp_eq_F (t := 18) c133_9 rfl hx0 (r4_n rfl) e2 ?_
      refine mE_iload_n c133_12 rfl ?_
      refine mE_bipush (x := 37) c133_13 rfl ?_
      by_cases e3 : x0 = 37
      · have w := w.pos e3
        refine mE_icmp_ne_F (t := 22) c133_15 rfl hx0 (r4_n rfl) e3 ?_
        refine mE_iconst c133_18 ?_
        refine mE_goto (t := 23) c133_19 rfl ?_
        exact mE_zret c133_23 qr133 (Or.inr rfl) ⟨rfl, w.osome⟩
      · have w := w.neg e3
        refine mE_icmp_ne_T (t := 22) c133_15 rfl hx0 (r4_n rfl) e3 ?_
        refine mE_iconst c133_22 ?_
        exact mE_zret c133_23 qr133 (Or.inl rfl) ⟨rfl, w.osome⟩
theorem s133 {X : Nat × Nat × qC} {d : Nat} {x0 : Int} {M : Mm} {R : Int → Prop} (hx0 : R4 x0) (w : Wp (f133 x0 M) R) : mC X (d + 1) 133 1 [.int (Int32.ofInt x0)] M (fun v M2 => M = M2 ∧ R v) :=
  mC_of (qent_mk qx133 rfl rfl rfl) (t133 hx0 w)
/-! SaggingNetModel.isPlus -/
noncomputable def f128 (x0 : Int) (M : Mm) : Option (Int) :=
  if x0 = 43 then
  (some 1)
  else
  (if x0 = 45 then
  (some 1)
  else
  (some 0))
theorem t128 {X : Nat × Nat × qC} {d : Nat} {x0 : Int} {M : Mm}  {R : Int → Prop} (hx0 : R4 x0) (w : Wp (f128 x0 M) R) : mE X (d + 0) 128 1 0 [some (.int (Int32.ofInt x0))] [] M (fun v M2 => M = M2 ∧ R v) := by
  refine mE_iload_n c128_0 rfl ?_
  refine mE_bipush (x := 43) c128_1 rfl ?_
  by_cases e1 : x0 = 43
  · have w := w.pos e1
    refine mE_icmp_eq_T (t := 12) c128_3 rfl hx0 (r4_n rfl) e1 ?_
    refine mE_iconst c128_12 ?_
    refine mE_goto (t := 17) c128_13 rfl ?_
    exact mE_zret c128_17 qr128 (Or.inr rfl) ⟨rfl, w.osome⟩
  · have w := w.neg e1
    refine mE_icmp_eq_F (t := 12) c128_3 rfl hx0 (r4_n rfl) e1 ?_
    refine mE_iload_n c128_6 rfl ?_
    refine mE_bipush (x := 45) c128_7 rfl ?_
    by_cases e2 : x0 = 45
    · have w := w.pos e2
      refine mE_icmp_ne_F (t := 16) c128_9 rfl hx0 (r4_n rfl) e2 ?_
      refine mE_iconst c128_12 ?_
      refine mE_goto (t := 17) c128_13 rfl ?_
      exact mE_zret c128_17 qr128 (Or.inr rfl) ⟨rfl, w.osome⟩
    · have w := w.neg e2
      refine mE_icmp_ne_T (t := 16) c128_9 rfl hx0 (r4_n rfl) e2 ?_
      refine mE_iconst c128_16 ?_
      exact mE_zret c128_17 qr128 (Or.inl rfl) ⟨rfl, w.osome⟩
theorem s128 {X : Nat × Nat × qC} {d : Nat} {x0 : Int} {M : Mm} {R : Int → Prop} (hx0 : R4 x0) (w : Wp (f128 x0 M) R) : mC X (d + 1) 128 1 [.int (Int32.ofInt x0)] M (fun v M2 => M = M2 ∧ R v) :=
  mC_of (qent_mk qx128 rfl rfl rfl) (t128 hx0 w)
/-! SaggingNetModel.top -/
noncomputable def f179  (M : Mm) : Option (Int) :=
  if 0 < (M 142 50) then
  (gd (R4 ((M 142 50) - 1)) (
  gd (0 ≤ ((M 142 50) - 1) ∧ ((M 142 50) - 1) < 200) (
  some (M 177 (((M 142 50) - 1)).toNat))))
  else
  (some 0)
theorem t179 {X : Nat × Nat × qC} {d : Nat}  {M : Mm}  {R : Int → Prop}  (w : Wp (f179  M) R) : mE X (d + 0) 179 1 0 [some (.ref 142)] [] M (fun v M2 => M = M2 ∧ R v) := by
  refine mE_aload_n c179_0 rfl ?_
  refine mE_getI c179_1 qo179 qF12_306 (ok_lit rfl rfl rfl) rfl ?_
  intro u1
  by_cases e2 : 0 < (M 142 50)
  · have w := w.pos e2
    refine mE_if_le_F (t := 21) c179_4 rfl u1 e2 ?_
    refine mE_aload_n c179_7 rfl ?_
    refine mE_getA c179_8 qo179 qF12_116 (ok_lit rfl rfl rfl) rfl ⟨by decide, by decide⟩ ?_
    refine mE_aload_n c179_11 rfl ?_
    refine mE_getI c179_12 qo179 qF12_306 (ok_lit rfl rfl rfl) rfl ?_
    intro u3
    refine mE_iconst c179_15 ?_
    obtain ⟨g4, w⟩ := w.ogd
    refine mE_isub c179_16 ?_
    obtain ⟨g5, w⟩ := w.ogd
    refine mE_iaload c179_17 (ok_lit rfl rfl rfl) g4 g5 ?_
    intro u6
    refine mE_goto (t := 22) c179_18 rfl ?_
    exact mE_iret c179_22 qr179 u6 ⟨rfl, w.osome⟩
  · have w := w.neg e2
    refine mE_if_le_T (t := 21) c179_4 rfl u1 e2 ?_
    refine mE_iconst c179_21 ?_
    exact mE_iret c179_22 qr179 (r4_n rfl) ⟨rfl, w.osome⟩
theorem s179 {X : Nat × Nat × qC} {d : Nat}  {M : Mm} {R : Int → Prop}  (w : Wp (f179  M) R) : mC X (d + 1) 179 1 [.ref 142] M (fun v M2 => M = M2 ∧ R v) :=
  mC_of (qent_mk qx179 rfl rfl rfl) (t179  w)
/-! SaggingNetModel.sums -/
def E177_0 (X : Nat × Nat × qC) (d : Nat) (x1 : Int) (R : Mm → Prop) : Mm → Prop := fun s => mE X (d + 2) 177 0 0 [some (.ref 142), some (.int (Int32.ofInt x1))] [] s (fun v M2 => R M2)
noncomputable def f177_24 (x1 : Int) (M : Mm) : Option ((Mm) ⊕ (Mm)) :=
  (f179 M).bind fun v1 =>
  (f103 v1 0 M).bind fun M5 =>
  gd (R4 ((M5 142 50) - 1)) (
  mlet (ms M5 142 50 ((M5 142 50) - 1)) fun M9 =>
  some (.inl (M9)))
theorem t177_24 {X : Nat × Nat × qC} {d : Nat} {x1 : Int} {M : Mm}  {R : Mm → Prop} (hx1 : R4 x1) (w : Wp (f177_24 x1 M) (Sum.elim (E177_0 X d x1 R) R)) : mE X (d + 2) 177 0 24 [some (.ref 142), some (.int (Int32.ofInt x1))] [] M (fun v M2 => R M2) := by
  refine mE_aload_n c177_24 rfl ?_
  refine mE_aload_n c177_25 rfl ?_
  refine mE_virtual1 (b := 142) (as := []) (r := [.ref 142]) c177_26 qo177 qK12_332 qo179 rfl rfl rfl (ok_lit rfl rfl rfl) (Nat.le_of_ble_eq_true rfl) (s179 (d := d + 1) w.obind) ?_
  rintro v1 _ q3 ⟨rfl, w⟩
  refine mE_iconst c177_29 ?_
  refine mE_virtual0 (b := 142) (as := [.int (Int32.ofInt v1), .int (Int32.ofInt 0)]) (r := []) c177_30 qo177 qK12_341 qo103 rfl rfl rfl (ok_lit rfl rfl rfl) (Nat.le_of_ble_eq_true rfl) (s103 (d := d + 0) q3 (r4_n rfl) w.obind) ?_
  intro _ M5 w
  refine mE_aload_n c177_33 rfl ?_
  refine mE_dup c177_34 rfl ?_
  refine mE_getI c177_35 qo177 qF12_306 (ok_lit rfl rfl rfl) rfl ?_
  intro u7
  refine mE_iconst c177_38 ?_
  obtain ⟨g8, w⟩ := w.ogd
  refine mE_isub c177_39 ?_
  obtain ⟨M9, m10, w⟩ := w.mlet
  refine mE_putI c177_40 qo177 qF12_306 qz12_50 (ok_lit rfl rfl rfl) (Nat.le_of_ble_eq_true rfl) rfl g8 (by rw [qy12_50]; rfl) ?_
  refine mE_M m10 ?_
  refine mE_goto (t := 0) c177_43 rfl ?_
  exact w.osome 
noncomputable def lb177_0 (x1 : Int) (M : Mm) : Option ((Mm) ⊕ (Mm)) :=
  (f179 M).bind fun v1 =>
  (f133 v1 M).bind fun v4 =>
  if v4 = 0 then
  (if x1 = 0 then
  (oinr (some M))
  else
  ((f179 M).bind fun v9 =>
  (f128 v9 M).bind fun v12 =>
  if v12 = 0 then
  (oinr (some M))
  else
  (f177_24 x1 M)))
  else
  (f177_24 x1 M)
noncomputable def f177_0 (x1 : Int) (M : Mm) : Option (Mm) := lp (fun s : Mm => lb177_0 x1  s) M
theorem tb177_0 {X : Nat × Nat × qC} {d : Nat} {x1 : Int} {M : Mm}  {R : Mm → Prop} (hx1 : R4 x1) (w : Wp (lb177_0 x1 M) (Sum.elim (E177_0 X d x1 R) R)) : mE X (d + 2) 177 0 0 [some (.ref 142), some (.int (Int32.ofInt x1))] [] M (fun v M2 => R M2) := by
  refine mE_aload_n c177_0 rfl ?_
  refine mE_virtual1 (b := 142) (as := []) (r := []) c177_1 qo177 qK12_332 qo179 rfl rfl rfl (ok_lit rfl rfl rfl) (Nat.le_of_ble_eq_true rfl) (s179 (d := d + 1) w.obind) ?_
  rintro v1 _ q3 ⟨rfl, w⟩
  refine mE_static1 (as := [.int (Int32.ofInt v1)]) (r := []) c177_4 qo177 (by decide) qK12_335 rfl rfl rfl (Nat.le_of_ble_eq_true rfl) (s133 (d := d + 1) q3 w.obind) ?_
  rintro v4 _ q6 ⟨rfl, w⟩
  by_cases e7 : v4 = 0
  · have w := w.pos e7
    refine mE_if_ne_F (t := 24) c177_7 rfl q6 e7 ?_
    refine mE_iload_n c177_10 rfl ?_
    by_cases e8 : x1 = 0
    · have w := w.pos e8
      refine mE_if_eq_T (t := 46) c177_11 rfl hx1 e8 ?_
      have w := w.oinr
      exact mE_vret c177_46 qr177 w.osome
    · have w := w.neg e8
      refine mE_if_eq_F (t := 46) c177_11 rfl hx1 e8 ?_
      refine mE_aload_n c177_14 rfl ?_
      refine mE_virtual1 (b := 142) (as := []) (r := []) c177_15 qo177 qK12_332 qo179 rfl rfl rfl (ok_lit rfl rfl rfl) (Nat.le_of_ble_eq_true rfl) (s179 (d := d + 1) w.obind) ?_
      rintro v9 _ q11 ⟨rfl, w⟩
      refine mE_static1 (as := [.int (Int32.ofInt v9)]) (r := []) c177_18 qo177 (by decide) qK12_338 rfl rfl rfl (Nat.le_of_ble_eq_true rfl) (s128 (d := d + 1) q11 w.obind) ?_
      rintro v12 _ q14 ⟨rfl, w⟩
      by_cases e15 : v12 = 0
      · have w := w.pos e15
        refine mE_if_eq_T (t := 46) c177_21 rfl q14 e15 ?_
        have w := w.oinr
        exact mE_vret c177_46 qr177 w.osome
      · have w := w.neg e15
        refine mE_if_eq_F (t := 46) c177_21 rfl q14 e15 ?_
        exact t177_24 hx1 w
  · have w := w.neg e7
    refine mE_if_ne_T (t := 24) c177_7 rfl q6 e7 ?_
    exact t177_24 hx1 w
theorem t177_0 {X : Nat × Nat × qC} {d : Nat} {x1 : Int} {M : Mm}  {R : Mm → Prop} (hx1 : R4 x1) (w : Wp (f177_0 x1 M) R) : mE X (d + 2) 177 0 0 [some (.ref 142), some (.int (Int32.ofInt x1))] [] M (fun v M2 => R M2) :=
  Wp.olp (f := fun s : Mm => lb177_0 x1  s) (s := M) (E := E177_0 X d x1 R) w (fun s w  => tb177_0 hx1 w) 
noncomputable def f177 (x1 : Int) (M : Mm) : Option (Mm) := f177_0 x1 M
theorem s177 {X : Nat × Nat × qC} {d : Nat} {x1 : Int} {M : Mm} {R : Mm → Prop} (hx1 : R4 x1) (w : Wp (f177 x1 M) R) : mC X (d + 3) 177 0 [.ref 142, .int (Int32.ofInt x1)] M (fun v M2 => R M2) :=
  mC_of (qent_mk qx177 rfl rfl rfl) (t177_0 hx1 w)
/-! SaggingNetModel.isSign -/
noncomputable def f131 (x0 : Int) (M : Mm) : Option (Int) :=
  if x0 = 60 then
  (some 1)
  else
  (if x0 = 62 then
  (some 1)
  else
  (if x0 = 61 then
  (some 1)
  else
  (some 0)))
theorem t131 {X : Nat × Nat × qC} {d : Nat} {x0 : Int} {M : Mm}  {R : Int → Prop} (hx0 : R4 x0) (w : Wp (f131 x0 M) R) : mE X (d + 0) 131 1 0 [some (.int (Int32.ofInt x0))] [] M (fun v M2 => M = M2 ∧ R v) := by
  refine mE_iload_n c131_0 rfl ?_
  refine mE_bipush (x := 60) c131_1 rfl ?_
  by_cases e1 : x0 = 60
  · have w := w.pos e1
    refine mE_icmp_eq_T (t := 18) c131_3 rfl hx0 (r4_n rfl) e1 ?_
    refine mE_iconst c131_18 ?_
    refine mE_goto (t := 23) c131_19 rfl ?_
    exact mE_zret c131_23 qr131 (Or.inr rfl) ⟨rfl, w.osome⟩
  · have w := w.neg e1
    refine mE_icmp_eq_F (t := 18) c131_3 rfl hx0 (r4_n rfl) e1 ?_
    refine mE_iload_n c131_6 rfl ?_
    refine mE_bipush (x := 62) c131_7 rfl ?_
    by_cases e2 : x0 = 62
    · have w := w.pos e2
      refine mE_icmp_eq_T (t := 18) c131_9 rfl hx0 (r4_n rfl) e2 ?_
      refine mE_iconst c131_18 ?_
      refine mE_goto (t := 23) c131_19 rfl ?_
      exact mE_zret c131_23 qr131 (Or.inr rfl) ⟨rfl, w.osome⟩
    · have w := w.neg e2
      refine mE_icmp_eq_F (t := 18) c131_9 rfl hx0 (r4_n rfl) e2 ?_
      refine mE_iload_n c131_12 rfl ?_
      refine mE_bipush (x := 61) c131_13 rfl ?_
      by_cases e3 : x0 = 61
      · have w := w.pos e3
        refine mE_icmp_ne_F (t := 22) c131_15 rfl hx0 (r4_n rfl) e3 ?_
        refine mE_iconst c131_18 ?_
        refine mE_goto (t := 23) c131_19 rfl ?_
        exact mE_zret c131_23 qr131 (Or.inr rfl) ⟨rfl, w.osome⟩
      · have w := w.neg e3
        refine mE_icmp_ne_T (t := 22) c131_15 rfl hx0 (r4_n rfl) e3 ?_
        refine mE_iconst c131_22 ?_
        exact mE_zret c131_23 qr131 (Or.inl rfl) ⟨rfl, w.osome⟩
theorem s131 {X : Nat × Nat × qC} {d : Nat} {x0 : Int} {M : Mm} {R : Int → Prop} (hx0 : R4 x0) (w : Wp (f131 x0 M) R) : mC X (d + 1) 131 1 [.int (Int32.ofInt x0)] M (fun v M2 => M = M2 ∧ R v) :=
  mC_of (qent_mk qx131 rfl rfl rfl) (t131 hx0 w)
/-! SaggingNetModel.goesOn -/
noncomputable def f116_137 (x1 : Int) (M : Mm) : Option (Int × Mm) :=
  (f155 x1 M).bind fun M2 =>
  some (1, M2)
theorem t116_137 {X : Nat × Nat × qC} {d : Nat} {x1 : Int} {M : Mm}  {R : Int × Mm → Prop} (hx1 : R4 x1) (w : Wp (f116_137 x1 M) R) : mE X (d + 3) 116 1 137 [some (.ref 142), some (.int (Int32.ofInt x1))] [] M (fun v M2 => R (v, M2)) := by
  refine mE_aload_n c116_137 rfl ?_
  refine mE_iload_n c116_138 rfl ?_
  refine mE_virtual0 (b := 142) (as := [.int (Int32.ofInt x1)]) (r := []) c116_139 qo116 qK12_319 qo155 rfl rfl rfl (ok_lit rfl rfl rfl) (Nat.le_of_ble_eq_true rfl) (s155 (d := d + 2) hx1 w.obind) ?_
  intro _ M2 w
  refine mE_iconst c116_142 ?_
  exact mE_zret c116_143 qr116 (Or.inr rfl) w.osome
noncomputable def f116_128 (x1 : Int) (M : Mm) : Option (Int × Mm) :=
  (f190 1 (M 142 44) M).bind fun M3 =>
  f116_137 x1 M3
theorem t116_128 {X : Nat × Nat × qC} {d : Nat} {x1 : Int} {M : Mm}  {R : Int × Mm → Prop} (hx1 : R4 x1) (w : Wp (f116_128 x1 M) R) : mE X (d + 3) 116 1 128 [some (.ref 142), some (.int (Int32.ofInt x1))] [] M (fun v M2 => R (v, M2)) := by
  refine mE_aload_n c116_128 rfl ?_
  refine mE_iconst c116_129 ?_
  refine mE_aload_n c116_130 rfl ?_
  refine mE_getI c116_131 qo116 qF12_290 (ok_lit rfl rfl rfl) rfl ?_
  intro u1
  refine mE_virtual0 (b := 142) (as := [.int (Int32.ofInt 1), .int (Int32.ofInt (M 142 44))]) (r := []) c116_134 qo116 qK12_312 qo190 rfl rfl rfl (ok_lit rfl rfl rfl) (Nat.le_of_ble_eq_true rfl) (s190 (d := d + 2) (r4_n rfl) u1 w.obind) ?_
  intro _ M3 w
  exact t116_137 hx1 w
noncomputable def f116_19 (x1 : Int) (M : Mm) : Option (Int × Mm) :=
  (f128 x1 M).bind fun v1 =>
  (f177 v1 M).bind fun M5 =>
  (f155 x1 M5).bind fun M8 =>
  some (1, M8)
theorem t116_19 {X : Nat × Nat × qC} {d : Nat} {x1 : Int} {M : Mm}  {R : Int × Mm → Prop} (hx1 : R4 x1) (w : Wp (f116_19 x1 M) R) : mE X (d + 3) 116 1 19 [some (.ref 142), some (.int (Int32.ofInt x1))] [] M (fun v M2 => R (v, M2)) := by
  refine mE_aload_n c116_19 rfl ?_
  refine mE_iload_n c116_20 rfl ?_
  refine mE_static1 (as := [.int (Int32.ofInt x1)]) (r := [.ref 142]) c116_21 qo116 (by decide) qK12_338 rfl rfl rfl (Nat.le_of_ble_eq_true rfl) (s128 (d := d + 2) hx1 w.obind) ?_
  rintro v1 _ q3 ⟨rfl, w⟩
  refine mE_virtual0 (b := 142) (as := [.int (Int32.ofInt v1)]) (r := []) c116_24 qo116 qK12_353 qo177 rfl rfl rfl (ok_lit rfl rfl rfl) (Nat.le_of_ble_eq_true rfl) (s177 (d := d + 0) q3 w.obind) ?_
  intro _ M5 w
  refine mE_aload_n c116_27 rfl ?_
  refine mE_iload_n c116_28 rfl ?_
  refine mE_virtual0 (b := 142) (as := [.int (Int32.ofInt x1)]) (r := []) c116_29 qo116 qK12_319 qo155 rfl rfl rfl (ok_lit rfl rfl rfl) (Nat.le_of_ble_eq_true rfl) (s155 (d := d + 2) hx1 w.obind) ?_
  intro _ M8 w
  refine mE_iconst c116_32 ?_
  exact mE_zret c116_33 qr116 (Or.inr rfl) w.osome
noncomputable def f116  (M : Mm) : Option (Int × Mm) :=
  (f120 M).bind fun v1 =>
  (f133 v1 M).bind fun v4 =>
  if v4 = 0 then
  ((f128 v1 M).bind fun v8 =>
  if v8 = 0 then
  ((f177 1 M).bind fun M13 =>
  if v1 = 93 then
  ((f179 M13).bind fun v16 =>
  if v16 = 91 then
  (gd (R4 ((M13 142 50) - 1)) (
  mlet (ms M13 142 50 ((M13 142 50) - 1)) fun M22 =>
  gd (R4 ((M22 142 49) - 1)) (
  mlet (ms M22 142 49 ((M22 142 49) - 1)) fun M26 =>
  gd (R4 ((M26 142 44) + 1)) (
  mlet (ms M26 142 44 ((M26 142 44) + 1)) fun M30 =>
  mlet (ms M30 142 52 1) fun M32 =>
  some (1, M32)))))
  else
  ((f190 1 (M13 142 44) M13).bind fun M22 =>
  some (0, M22)))
  else
  ((f131 v1 M13).bind fun v16 =>
  if v16 = 0 then
  ((f179 M13).bind fun v20 =>
  (f131 v20 M13).bind fun v23 =>
  if v23 = 0 then
  ((f190 1 (M13 142 44) M13).bind fun M29 =>
  some (0, M29))
  else
  ((f179 M13).bind fun v27 =>
  (f103 v27 0 M13).bind fun M31 =>
  gd (R4 ((M31 142 50) - 1)) (
  mlet (ms M31 142 50 ((M31 142 50) - 1)) fun M35 =>
  some (0, M35))))
  else
  ((f179 M13).bind fun v20 =>
  if v20 = 91 then
  (f116_128 v1 M13)
  else
  ((f179 M13).bind fun v24 =>
  (f131 v24 M13).bind fun v27 =>
  if v27 = 0 then
  (f116_137 v1 M13)
  else
  (f116_128 v1 M13)))))
  else
  (f116_19 v1 M))
  else
  (f116_19 v1 M)
theorem t116 {X : Nat × Nat × qC} {d : Nat}  {M : Mm}  {R : Int × Mm → Prop}  (w : Wp (f116  M) R) : mE X (d + 3) 116 1 0 [some (.ref 142), none] [] M (fun v M2 => R (v, M2)) := by
  refine mE_aload_n c116_0 rfl ?_
  refine mE_virtual1 (b := 142) (as := []) (r := []) c116_1 qo116 qK12_315 qo120 rfl rfl rfl (ok_lit rfl rfl rfl) (Nat.le_of_ble_eq_true rfl) (s120 (d := d + 2) w.obind) ?_
  rintro v1 _ q3 ⟨rfl, w⟩
  refine mE_istore_n (ls2 := [some (.ref 142), some (.int (Int32.ofInt v1))]) c116_4 (Nat.le_of_ble_eq_true rfl) rfl ?_
  refine mE_iload_n c116_5 rfl ?_
  refine mE_static1 (as := [.int (Int32.ofInt v1)]) (r := []) c116_6 qo116 (by decide) qK12_335 rfl rfl rfl (Nat.le_of_ble_eq_true rfl) (s133 (d := d + 2) q3 w.obind) ?_
  rintro v4 _ q6 ⟨rfl, w⟩
  by_cases e7 : v4 = 0
  · have w := w.pos e7
    refine mE_if_ne_F (t := 19) c116_9 rfl q6 e7 ?_
    refine mE_iload_n c116_12 rfl ?_
    refine mE_static1 (as := [.int (Int32.ofInt v1)]) (r := []) c116_13 qo116 (by decide) qK12_338 rfl rfl rfl (Nat.le_of_ble_eq_true rfl) (s128 (d := d + 2) q3 w.obind) ?_
    rintro v8 _ q10 ⟨rfl, w⟩
    by_cases e11 : v8 = 0
    · have w := w.pos e11
      refine mE_if_eq_T (t := 34) c116_16 rfl q10 e11 ?_
      refine mE_aload_n c116_34 rfl ?_
      refine mE_iconst c116_35 ?_
      refine mE_virtual0 (b := 142) (as := [.int (Int32.ofInt 1)]) (r := []) c116_36 qo116 qK12_353 qo177 rfl rfl rfl (ok_lit rfl rfl rfl) (Nat.le_of_ble_eq_true rfl) (s177 (d := d + 0) (r4_n rfl) w.obind) ?_
      intro _ M13 w
      refine mE_iload_n c116_39 rfl ?_
      refine mE_bipush (x := 93) c116_40 rfl ?_
      by_cases e15 : v1 = 93
      · have w := w.pos e15
        refine mE_icmp_ne_F (t := 102) c116_42 rfl q3 (r4_n rfl) e15 ?_
        refine mE_aload_n c116_45 rfl ?_
        refine mE_virtual1 (b := 142) (as := []) (r := []) c116_46 qo116 qK12_332 qo179 rfl rfl rfl (ok_lit rfl rfl rfl) (Nat.le_of_ble_eq_true rfl) (s179 (d := d + 2) w.obind) ?_
        rintro v16 _ q18 ⟨rfl, w⟩
        refine mE_bipush (x := 91) c116_49 rfl ?_
        by_cases e19 : v16 = 91
        · have w := w.pos e19
          refine mE_icmp_eq_T (t := 65) c116_51 rfl q18 (r4_n rfl) e19 ?_
          refine mE_aload_n c116_65 rfl ?_
          refine mE_dup c116_66 rfl ?_
          refine mE_getI c116_67 qo116 qF12_306 (ok_lit rfl rfl rfl) rfl ?_
          intro u20
          refine mE_iconst c116_70 ?_
          obtain ⟨g21, w⟩ := w.ogd
          refine mE_isub c116_71 ?_
          obtain ⟨M22, m23, w⟩ := w.mlet
          refine mE_putI c116_72 qo116 qF12_306 qz12_50 (ok_lit rfl rfl rfl) (Nat.le_of_ble_eq_true rfl) rfl g21 (by rw [qy12_50]; rfl) ?_
          refine mE_M m23 ?_
          refine mE_aload_n c116_75 rfl ?_
          refine mE_dup c116_76 rfl ?_
          refine mE_getI c116_77 qo116 qF12_309 (ok_lit rfl rfl rfl) rfl ?_
          intro u24
          refine mE_iconst c116_80 ?_
          obtain ⟨g25, w⟩ := w.ogd
          refine mE_isub c116_81 ?_
          obtain ⟨M26, m27, w⟩ := w.mlet
          refine mE_putI c116_82 qo116 qF12_309 qz12_49 (ok_lit rfl rfl rfl) (Nat.le_of_ble_eq_true rfl) rfl g25 (by rw [qy12_49]; rfl) ?_
          refine mE_M m27 ?_
          refine mE_aload_n c116_85 rfl ?_
          refine mE_dup c116_86 rfl ?_
          refine mE_getI c116_87 qo116 qF12_290 (ok_lit rfl rfl rfl) rfl ?_
          intro u28
          refine mE_iconst c116_90 ?_
          obtain ⟨g29, w⟩ := w.ogd
          refine mE_iadd c116_91 ?_
          obtain ⟨M30, m31, w⟩ := w.mlet
          refine mE_putI c116_92 qo116 qF12_290 qz12_44 (ok_lit rfl rfl rfl) (Nat.le_of_ble_eq_true rfl) rfl g29 (by rw [qy12_44]; rfl) ?_
          refine mE_M m31 ?_
          refine mE_aload_n c116_95 rfl ?_
          refine mE_iconst c116_96 ?_
          obtain ⟨M32, m33, w⟩ := w.mlet
          refine mE_putI c116_97 qo116 qF12_357 qz12_52 (ok_lit rfl rfl rfl) (Nat.le_of_ble_eq_true rfl) rfl (r4_n rfl) (by rw [qy12_52]; exact fit01 (Or.inr rfl)) ?_
          refine mE_M m33 ?_
          refine mE_iconst c116_100 ?_
          exact mE_zret c116_101 qr116 (Or.inr rfl) w.osome
        · have w := w.neg e19
          refine mE_icmp_eq_F (t := 65) c116_51 rfl q18 (r4_n rfl) e19 ?_
          refine mE_aload_n c116_54 rfl ?_
          refine mE_iconst c116_55 ?_
          refine mE_aload_n c116_56 rfl ?_
          refine mE_getI c116_57 qo116 qF12_290 (ok_lit rfl rfl rfl) rfl ?_
          intro u20
          refine mE_virtual0 (b := 142) (as := [.int (Int32.ofInt 1), .int (Int32.ofInt (M13 142 44))]) (r := []) c116_60 qo116 qK12_312 qo190 rfl rfl rfl (ok_lit rfl rfl rfl) (Nat.le_of_ble_eq_true rfl) (s190 (d := d + 2) (r4_n rfl) u20 w.obind) ?_
          intro _ M22 w
          refine mE_iconst c116_63 ?_
          exact mE_zret c116_64 qr116 (Or.inl rfl) w.osome
      · have w := w.neg e15
        refine mE_icmp_ne_T (t := 102) c116_42 rfl q3 (r4_n rfl) e15 ?_
        refine mE_iload_n c116_102 rfl ?_
        refine mE_static1 (as := [.int (Int32.ofInt v1)]) (r := []) c116_103 qo116 (by decide) qK12_361 rfl rfl rfl (Nat.le_of_ble_eq_true rfl) (s131 (d := d + 2) q3 w.obind) ?_
        rintro v16 _ q18 ⟨rfl, w⟩
        by_cases e19 : v16 = 0
        · have w := w.pos e19
          refine mE_if_eq_T (t := 144) c116_106 rfl q18 e19 ?_
          refine mE_aload_n c116_144 rfl ?_
          refine mE_virtual1 (b := 142) (as := []) (r := []) c116_145 qo116 qK12_332 qo179 rfl rfl rfl (ok_lit rfl rfl rfl) (Nat.le_of_ble_eq_true rfl) (s179 (d := d + 2) w.obind) ?_
          rintro v20 _ q22 ⟨rfl, w⟩
          refine mE_static1 (as := [.int (Int32.ofInt v20)]) (r := []) c116_148 qo116 (by decide) qK12_361 rfl rfl rfl (Nat.le_of_ble_eq_true rfl) (s131 (d := d + 2) q22 w.obind) ?_
          rintro v23 _ q25 ⟨rfl, w⟩
          by_cases e26 : v23 = 0
          · have w := w.pos e26
            refine mE_if_eq_T (t := 176) c116_151 rfl q25 e26 ?_
            refine mE_aload_n c116_176 rfl ?_
            refine mE_iconst c116_177 ?_
            refine mE_aload_n c116_178 rfl ?_
            refine mE_getI c116_179 qo116 qF12_290 (ok_lit rfl rfl rfl) rfl ?_
            intro u27
            refine mE_virtual0 (b := 142) (as := [.int (Int32.ofInt 1), .int (Int32.ofInt (M13 142 44))]) (r := []) c116_182 qo116 qK12_312 qo190 rfl rfl rfl (ok_lit rfl rfl rfl) (Nat.le_of_ble_eq_true rfl) (s190 (d := d + 2) (r4_n rfl) u27 w.obind) ?_
            intro _ M29 w
            refine mE_iconst c116_185 ?_
            exact mE_zret c116_186 qr116 (Or.inl rfl) w.osome
          · have w := w.neg e26
            refine mE_if_eq_F (t := 176) c116_151 rfl q25 e26 ?_
            refine mE_aload_n c116_154 rfl ?_
            refine mE_aload_n c116_155 rfl ?_
            refine mE_virtual1 (b := 142) (as := []) (r := [.ref 142]) c116_156 qo116 qK12_332 qo179 rfl rfl rfl (ok_lit rfl rfl rfl) (Nat.le_of_ble_eq_true rfl) (s179 (d := d + 2) w.obind) ?_
            rintro v27 _ q29 ⟨rfl, w⟩
            refine mE_iconst c116_159 ?_
            refine mE_virtual0 (b := 142) (as := [.int (Int32.ofInt v27), .int (Int32.ofInt 0)]) (r := []) c116_160 qo116 qK12_341 qo103 rfl rfl rfl (ok_lit rfl rfl rfl) (Nat.le_of_ble_eq_true rfl) (s103 (d := d + 1) q29 (r4_n rfl) w.obind) ?_
            intro _ M31 w
            refine mE_aload_n c116_163 rfl ?_
            refine mE_dup c116_164 rfl ?_
            refine mE_getI c116_165 qo116 qF12_306 (ok_lit rfl rfl rfl) rfl ?_
            intro u33
            refine mE_iconst c116_168 ?_
            obtain ⟨g34, w⟩ := w.ogd
            refine mE_isub c116_169 ?_
            obtain ⟨M35, m36, w⟩ := w.mlet
            refine mE_putI c116_170 qo116 qF12_306 qz12_50 (ok_lit rfl rfl rfl) (Nat.le_of_ble_eq_true rfl) rfl g34 (by rw [qy12_50]; rfl) ?_
            refine mE_M m36 ?_
            refine mE_goto (t := 185) c116_173 rfl ?_
            refine mE_iconst c116_185 ?_
            exact mE_zret c116_186 qr116 (Or.inl rfl) w.osome
        · have w := w.neg e19
          refine mE_if_eq_F (t := 144) c116_106 rfl q18 e19 ?_
          refine mE_aload_n c116_109 rfl ?_
          refine mE_virtual1 (b := 142) (as := []) (r := []) c116_110 qo116 qK12_332 qo179 rfl rfl rfl (ok_lit rfl rfl rfl) (Nat.le_of_ble_eq_true rfl) (s179 (d := d + 2) w.obind) ?_
          rintro v20 _ q22 ⟨rfl, w⟩
          refine mE_bipush (x := 91) c116_113 rfl ?_
          by_cases e23 : v20 = 91
          · have w := w.pos e23
            refine mE_icmp_eq_T (t := 128) c116_115 rfl q22 (r4_n rfl) e23 ?_
            exact t116_128 q3 w
          · have w := w.neg e23
            refine mE_icmp_eq_F (t := 128) c116_115 rfl q22 (r4_n rfl) e23 ?_
            refine mE_aload_n c116_118 rfl ?_
            refine mE_virtual1 (b := 142) (as := []) (r := []) c116_119 qo116 qK12_332 qo179 rfl rfl rfl (ok_lit rfl rfl rfl) (Nat.le_of_ble_eq_true rfl) (s179 (d := d + 2) w.obind) ?_
            rintro v24 _ q26 ⟨rfl, w⟩
            refine mE_static1 (as := [.int (Int32.ofInt v24)]) (r := []) c116_122 qo116 (by decide) qK12_361 rfl rfl rfl (Nat.le_of_ble_eq_true rfl) (s131 (d := d + 2) q26 w.obind) ?_
            rintro v27 _ q29 ⟨rfl, w⟩
            by_cases e30 : v27 = 0
            · have w := w.pos e30
              refine mE_if_eq_T (t := 137) c116_125 rfl q29 e30 ?_
              exact t116_137 q3 w
            · have w := w.neg e30
              refine mE_if_eq_F (t := 137) c116_125 rfl q29 e30 ?_
              exact t116_128 q3 w
    · have w := w.neg e11
      refine mE_if_eq_F (t := 34) c116_16 rfl q10 e11 ?_
      exact t116_19 q3 w
  · have w := w.neg e7
    refine mE_if_ne_T (t := 19) c116_9 rfl q6 e7 ?_
    exact t116_19 q3 w
theorem s116 {X : Nat × Nat × qC} {d : Nat}  {M : Mm} {R : Int × Mm → Prop}  (w : Wp (f116  M) R) : mC X (d + 4) 116 1 [.ref 142] M (fun v M2 => R (v, M2)) :=
  mC_of (qent_mk qx116 rfl rfl rfl) (t116  w)
/-! SaggingNetModel.ends -/
def E104_0 (X : Nat × Nat × qC) (d : Nat)  (R : Mm → Prop) : Mm → Prop := fun s => mE X (d + 2) 104 0 0 [some (.ref 142)] [] s (fun v M2 => R M2)
noncomputable def lb104_0  (M : Mm) : Option ((Mm) ⊕ (Mm)) :=
  (f179 M).bind fun v1 =>
  if v1 = 33 then
  ((f103 2 0 M).bind fun M6 =>
  gd (R4 ((M6 142 50) - 1)) (
  mlet (ms M6 142 50 ((M6 142 50) - 1)) fun M10 =>
  gd (R4 ((M10 142 49) - 1)) (
  mlet (ms M10 142 49 ((M10 142 49) - 1)) fun M14 =>
  some (.inl (M14)))))
  else
  (oinr (some M))
noncomputable def f104_0  (M : Mm) : Option (Mm) := lp (fun s : Mm => lb104_0   s) M
theorem tb104_0 {X : Nat × Nat × qC} {d : Nat}  {M : Mm}  {R : Mm → Prop}  (w : Wp (lb104_0  M) (Sum.elim (E104_0 X d  R) R)) : mE X (d + 2) 104 0 0 [some (.ref 142)] [] M (fun v M2 => R M2) := by
  refine mE_aload_n c104_0 rfl ?_
  refine mE_virtual1 (b := 142) (as := []) (r := []) c104_1 qo104 qK12_332 qo179 rfl rfl rfl (ok_lit rfl rfl rfl) (Nat.le_of_ble_eq_true rfl) (s179 (d := d + 1) w.obind) ?_
  rintro v1 _ q3 ⟨rfl, w⟩
  refine mE_bipush (x := 33) c104_4 rfl ?_
  by_cases e4 : v1 = 33
  · have w := w.pos e4
    refine mE_icmp_ne_F (t := 38) c104_6 rfl q3 (r4_n rfl) e4 ?_
    refine mE_aload_n c104_9 rfl ?_
    refine mE_iconst c104_10 ?_
    refine mE_iconst c104_11 ?_
    refine mE_virtual0 (b := 142) (as := [.int (Int32.ofInt 2), .int (Int32.ofInt 0)]) (r := []) c104_12 qo104 qK12_341 qo103 rfl rfl rfl (ok_lit rfl rfl rfl) (Nat.le_of_ble_eq_true rfl) (s103 (d := d + 0) (r4_n rfl) (r4_n rfl) w.obind) ?_
    intro _ M6 w
    refine mE_aload_n c104_15 rfl ?_
    refine mE_dup c104_16 rfl ?_
    refine mE_getI c104_17 qo104 qF12_306 (ok_lit rfl rfl rfl) rfl ?_
    intro u8
    refine mE_iconst c104_20 ?_
    obtain ⟨g9, w⟩ := w.ogd
    refine mE_isub c104_21 ?_
    obtain ⟨M10, m11, w⟩ := w.mlet
    refine mE_putI c104_22 qo104 qF12_306 qz12_50 (ok_lit rfl rfl rfl) (Nat.le_of_ble_eq_true rfl) rfl g9 (by rw [qy12_50]; rfl) ?_
    refine mE_M m11 ?_
    refine mE_aload_n c104_25 rfl ?_
    refine mE_dup c104_26 rfl ?_
    refine mE_getI c104_27 qo104 qF12_309 (ok_lit rfl rfl rfl) rfl ?_
    intro u12
    refine mE_iconst c104_30 ?_
    obtain ⟨g13, w⟩ := w.ogd
    refine mE_isub c104_31 ?_
    obtain ⟨M14, m15, w⟩ := w.mlet
    refine mE_putI c104_32 qo104 qF12_309 qz12_49 (ok_lit rfl rfl rfl) (Nat.le_of_ble_eq_true rfl) rfl g13 (by rw [qy12_49]; rfl) ?_
    refine mE_M m15 ?_
    refine mE_goto (t := 0) c104_35 rfl ?_
    exact w.osome 
  · have w := w.neg e4
    refine mE_icmp_ne_T (t := 38) c104_6 rfl q3 (r4_n rfl) e4 ?_
    have w := w.oinr
    exact mE_vret c104_38 qr104 w.osome
theorem t104_0 {X : Nat × Nat × qC} {d : Nat}  {M : Mm}  {R : Mm → Prop}  (w : Wp (f104_0  M) R) : mE X (d + 2) 104 0 0 [some (.ref 142)] [] M (fun v M2 => R M2) :=
  Wp.olp (f := fun s : Mm => lb104_0   s) (s := M) (E := E104_0 X d  R) w (fun s w  => tb104_0  w) 
noncomputable def f104  (M : Mm) : Option (Mm) := f104_0  M
theorem s104 {X : Nat × Nat × qC} {d : Nat}  {M : Mm} {R : Mm → Prop}  (w : Wp (f104  M) R) : mC X (d + 3) 104 0 [.ref 142] M (fun v M2 => R M2) :=
  mC_of (qent_mk qx104 rfl rfl rfl) (t104_0  w)
/-! SaggingNetModel.pieceOfC -/
def E152_39 (X : Nat × Nat × qC) (d : Nat)  (R : Mm → Prop) : Int × Mm → Prop := fun s => R4 s.1 → mE X (d + 4) 152 0 39 [some (.ref 142), some (.int (Int32.ofInt s.1))] [] s.2 (fun v M2 => R M2)
def E152_0 (X : Nat × Nat × qC) (d : Nat)  (R : Mm → Prop) : Mm → Prop := fun s => mE X (d + 4) 152 0 0 [some (.ref 142), none] [] s (fun v M2 => R M2)
noncomputable def f152_89  (M : Mm) : Option (Mm) :=
  (f124 M).bind fun v1 =>
  if v1 = 0 then
  (some M)
  else
  ((f104 M).bind fun M6 =>
  some M6)
theorem t152_89 {X : Nat × Nat × qC} {d : Nat}  {M : Mm} {y1 : Int32} {R : Mm → Prop}  (w : Wp (f152_89  M) R) : mE X (d + 4) 152 0 89 [some (.ref 142), some (.int y1)] [] M (fun v M2 => R M2) := by
  refine mE_aload_n c152_89 rfl ?_
  refine mE_virtual1 (b := 142) (as := []) (r := []) c152_90 qo152 qK12_299 qo124 rfl rfl rfl (ok_lit rfl rfl rfl) (Nat.le_of_ble_eq_true rfl) (s124 (d := d + 3) w.obind) ?_
  rintro v1 _ q3 ⟨rfl, w⟩
  by_cases e4 : v1 = 0
  · have w := w.pos e4
    refine mE_if_eq_T (t := 100) c152_93 rfl q3 e4 ?_
    exact mE_vret c152_100 qr152 w.osome
  · have w := w.neg e4
    refine mE_if_eq_F (t := 100) c152_93 rfl q3 e4 ?_
    refine mE_aload_n c152_96 rfl ?_
    refine mE_virtual0 (b := 142) (as := []) (r := []) c152_97 qo152 qK12_370 qo104 rfl rfl rfl (ok_lit rfl rfl rfl) (Nat.le_of_ble_eq_true rfl) (s104 (d := d + 1) w.obind) ?_
    intro _ M6 w
    exact mE_vret c152_100 qr152 w.osome
noncomputable def f152_84  (M : Mm) : Option ((Int × Mm) ⊕ (Mm)) :=
  some (.inl (0, M))
theorem t152_84 {X : Nat × Nat × qC} {d : Nat}  {M : Mm} {y1 : Int32} {R : Mm → Prop}  (w : Wp (f152_84  M) (Sum.elim (E152_39 X d  R) R)) : mE X (d + 4) 152 0 84 [some (.ref 142), some (.int y1)] [] M (fun v M2 => R M2) := by
  refine mE_iconst c152_84 ?_
  refine mE_istore_n (ls2 := [some (.ref 142), some (.int (Int32.ofInt 0))]) c152_85 (Nat.le_of_ble_eq_true rfl) rfl ?_
  refine mE_goto (t := 39) c152_86 rfl ?_
  exact w.osome (r4_n rfl)
noncomputable def f152_61  (M : Mm) : Option ((Int × Mm) ⊕ (Mm)) :=
  mlet (ms M 142 52 0) fun M1 =>
  (f124 M1).bind fun v3 =>
  if v3 = 0 then
  (f152_84 M1)
  else
  (obnd (f116 M1) fun v7 M8 =>
  if v7 = 0 then
  (f152_84 M8)
  else
  (some (.inl (1, M8))))
theorem t152_61 {X : Nat × Nat × qC} {d : Nat}  {M : Mm} {y1 : Int32} {R : Mm → Prop}  (w : Wp (f152_61  M) (Sum.elim (E152_39 X d  R) R)) : mE X (d + 4) 152 0 61 [some (.ref 142), some (.int y1)] [] M (fun v M2 => R M2) := by
  refine mE_aload_n c152_61 rfl ?_
  refine mE_iconst c152_62 ?_
  obtain ⟨M1, m2, w⟩ := w.mlet
  refine mE_putI c152_63 qo152 qF12_357 qz12_52 (ok_lit rfl rfl rfl) (Nat.le_of_ble_eq_true rfl) rfl (r4_n rfl) (by rw [qy12_52]; exact fit01 (Or.inl rfl)) ?_
  refine mE_M m2 ?_
  refine mE_aload_n c152_66 rfl ?_
  refine mE_virtual1 (b := 142) (as := []) (r := []) c152_67 qo152 qK12_299 qo124 rfl rfl rfl (ok_lit rfl rfl rfl) (Nat.le_of_ble_eq_true rfl) (s124 (d := d + 3) w.obind) ?_
  rintro v3 _ q5 ⟨rfl, w⟩
  by_cases e6 : v3 = 0
  · have w := w.pos e6
    refine mE_if_eq_T (t := 84) c152_70 rfl q5 e6 ?_
    exact t152_84  w
  · have w := w.neg e6
    refine mE_if_eq_F (t := 84) c152_70 rfl q5 e6 ?_
    refine mE_aload_n c152_73 rfl ?_
    refine mE_virtual1 (b := 142) (as := []) (r := []) c152_74 qo152 qK12_367 qo116 rfl rfl rfl (ok_lit rfl rfl rfl) (Nat.le_of_ble_eq_true rfl) (s116 (d := d + 0) w.oc) ?_
    intro v7 M8 q9 w
    by_cases e10 : v7 = 0
    · have w := w.pos e10
      refine mE_if_eq_T (t := 84) c152_77 rfl q9 e10 ?_
      exact t152_84  w
    · have w := w.neg e10
      refine mE_if_eq_F (t := 84) c152_77 rfl q9 e10 ?_
      refine mE_iconst c152_80 ?_
      refine mE_goto (t := 85) c152_81 rfl ?_
      refine mE_istore_n (ls2 := [some (.ref 142), some (.int (Int32.ofInt 1))]) c152_85 (Nat.le_of_ble_eq_true rfl) rfl ?_
      refine mE_goto (t := 39) c152_86 rfl ?_
      exact w.osome (r4_n rfl)
noncomputable def lb152_39 (x1 : Int) (M : Mm) : Option ((Int × Mm) ⊕ (Mm)) :=
  if x1 = 0 then
  (oinr (f152_89 M))
  else
  ((f124 M).bind fun v2 =>
  if v2 = 0 then
  (oinr (f152_89 M))
  else
  (if (M 142 52) = 0 then
  ((f106 M).bind fun M9 =>
  f152_61 M9)
  else
  (f152_61 M)))
noncomputable def f152_39 (x1 : Int) (M : Mm) : Option (Mm) := lp (fun s : Int × Mm => lb152_39  s.1 s.2) (x1, M)
theorem tb152_39 {X : Nat × Nat × qC} {d : Nat} {x1 : Int} {M : Mm}  {R : Mm → Prop} (hx1 : R4 x1) (w : Wp (lb152_39 x1 M) (Sum.elim (E152_39 X d  R) R)) : mE X (d + 4) 152 0 39 [some (.ref 142), some (.int (Int32.ofInt x1))] [] M (fun v M2 => R M2) := by
  refine mE_iload_n c152_39 rfl ?_
  by_cases e1 : x1 = 0
  · have w := w.pos e1
    refine mE_if_eq_T (t := 89) c152_40 rfl hx1 e1 ?_
    have w := w.oinr
    exact t152_89  w
  · have w := w.neg e1
    refine mE_if_eq_F (t := 89) c152_40 rfl hx1 e1 ?_
    refine mE_aload_n c152_43 rfl ?_
    refine mE_virtual1 (b := 142) (as := []) (r := []) c152_44 qo152 qK12_299 qo124 rfl rfl rfl (ok_lit rfl rfl rfl) (Nat.le_of_ble_eq_true rfl) (s124 (d := d + 3) w.obind) ?_
    rintro v2 _ q4 ⟨rfl, w⟩
    by_cases e5 : v2 = 0
    · have w := w.pos e5
      refine mE_if_eq_T (t := 89) c152_47 rfl q4 e5 ?_
      have w := w.oinr
      exact t152_89  w
    · have w := w.neg e5
      refine mE_if_eq_F (t := 89) c152_47 rfl q4 e5 ?_
      refine mE_aload_n c152_50 rfl ?_
      refine mE_getI c152_51 qo152 qF12_357 (ok_lit rfl rfl rfl) rfl ?_
      intro u6
      by_cases e7 : (M 142 52) = 0
      · have w := w.pos e7
        refine mE_if_ne_F (t := 61) c152_54 rfl u6 e7 ?_
        refine mE_aload_n c152_57 rfl ?_
        refine mE_virtual0 (b := 142) (as := []) (r := []) c152_58 qo152 qK12_364 qo106 rfl rfl rfl (ok_lit rfl rfl rfl) (Nat.le_of_ble_eq_true rfl) (s106 (d := d + 0) w.obind) ?_
        intro _ M9 w
        exact t152_61  w
      · have w := w.neg e7
        refine mE_if_ne_T (t := 61) c152_54 rfl u6 e7 ?_
        exact t152_61  w
theorem t152_39 {X : Nat × Nat × qC} {d : Nat} {x1 : Int} {M : Mm}  {R : Mm → Prop} (hx1 : R4 x1) (w : Wp (f152_39 x1 M) R) : mE X (d + 4) 152 0 39 [some (.ref 142), some (.int (Int32.ofInt x1))] [] M (fun v M2 => R M2) :=
  Wp.olp (f := fun s : Int × Mm => lb152_39  s.1 s.2) (s := (x1, M)) (E := E152_39 X d  R) w (fun s w hx1 => tb152_39 hx1 w) hx1
noncomputable def f152_32  (M : Mm) : Option (Mm) :=
  mlet (ms M 142 52 0) fun M1 =>
  f152_39 1 M1
theorem t152_32 {X : Nat × Nat × qC} {d : Nat}  {M : Mm}  {R : Mm → Prop}  (w : Wp (f152_32  M) R) : mE X (d + 4) 152 0 32 [some (.ref 142), none] [] M (fun v M2 => R M2) := by
  refine mE_iconst c152_32 ?_
  refine mE_istore_n (ls2 := [some (.ref 142), some (.int (Int32.ofInt 1))]) c152_33 (Nat.le_of_ble_eq_true rfl) rfl ?_
  refine mE_aload_n c152_34 rfl ?_
  refine mE_iconst c152_35 ?_
  obtain ⟨M1, m2, w⟩ := w.mlet
  refine mE_putI c152_36 qo152 qF12_357 qz12_52 (ok_lit rfl rfl rfl) (Nat.le_of_ble_eq_true rfl) rfl (r4_n rfl) (by rw [qy12_52]; exact fit01 (Or.inl rfl)) ?_
  refine mE_M m2 ?_
  exact t152_39 (r4_n rfl) w
noncomputable def f152_25  (M : Mm) : Option ((Mm) ⊕ (Mm)) :=
  (f150 M).bind fun M2 =>
  some (.inl (M2))
theorem t152_25 {X : Nat × Nat × qC} {d : Nat}  {M : Mm}  {R : Mm → Prop}  (w : Wp (f152_25  M) (Sum.elim (E152_0 X d  R) R)) : mE X (d + 4) 152 0 25 [some (.ref 142), none] [] M (fun v M2 => R M2) := by
  refine mE_aload_n c152_25 rfl ?_
  refine mE_virtual0 (b := 142) (as := []) (r := []) c152_26 qo152 qK12_344 qo150 rfl rfl rfl (ok_lit rfl rfl rfl) (Nat.le_of_ble_eq_true rfl) (s150 (d := d + 2) w.obind) ?_
  intro _ M2 w
  refine mE_goto (t := 0) c152_29 rfl ?_
  exact w.osome 
noncomputable def lb152_0  (M : Mm) : Option ((Mm) ⊕ (Mm)) :=
  (f124 M).bind fun v1 =>
  if v1 = 0 then
  (oinr (f152_32 M))
  else
  ((f120 M).bind fun v5 =>
  if v5 = 33 then
  (f152_25 M)
  else
  ((f120 M).bind fun v9 =>
  if v9 = 40 then
  (f152_25 M)
  else
  (oinr (f152_32 M))))
noncomputable def f152_0  (M : Mm) : Option (Mm) := lp (fun s : Mm => lb152_0   s) M
theorem tb152_0 {X : Nat × Nat × qC} {d : Nat}  {M : Mm}  {R : Mm → Prop}  (w : Wp (lb152_0  M) (Sum.elim (E152_0 X d  R) R)) : mE X (d + 4) 152 0 0 [some (.ref 142), none] [] M (fun v M2 => R M2) := by
  refine mE_aload_n c152_0 rfl ?_
  refine mE_virtual1 (b := 142) (as := []) (r := []) c152_1 qo152 qK12_299 qo124 rfl rfl rfl (ok_lit rfl rfl rfl) (Nat.le_of_ble_eq_true rfl) (s124 (d := d + 3) w.obind) ?_
  rintro v1 _ q3 ⟨rfl, w⟩
  by_cases e4 : v1 = 0
  · have w := w.pos e4
    refine mE_if_eq_T (t := 32) c152_4 rfl q3 e4 ?_
    have w := w.oinr
    exact t152_32  w
  · have w := w.neg e4
    refine mE_if_eq_F (t := 32) c152_4 rfl q3 e4 ?_
    refine mE_aload_n c152_7 rfl ?_
    refine mE_virtual1 (b := 142) (as := []) (r := []) c152_8 qo152 qK12_315 qo120 rfl rfl rfl (ok_lit rfl rfl rfl) (Nat.le_of_ble_eq_true rfl) (s120 (d := d + 3) w.obind) ?_
    rintro v5 _ q7 ⟨rfl, w⟩
    refine mE_bipush (x := 33) c152_11 rfl ?_
    by_cases e8 : v5 = 33
    · have w := w.pos e8
      refine mE_icmp_eq_T (t := 25) c152_13 rfl q7 (r4_n rfl) e8 ?_
      exact t152_25  w
    · have w := w.neg e8
      refine mE_icmp_eq_F (t := 25) c152_13 rfl q7 (r4_n rfl) e8 ?_
      refine mE_aload_n c152_16 rfl ?_
      refine mE_virtual1 (b := 142) (as := []) (r := []) c152_17 qo152 qK12_315 qo120 rfl rfl rfl (ok_lit rfl rfl rfl) (Nat.le_of_ble_eq_true rfl) (s120 (d := d + 3) w.obind) ?_
      rintro v9 _ q11 ⟨rfl, w⟩
      refine mE_bipush (x := 40) c152_20 rfl ?_
      by_cases e12 : v9 = 40
      · have w := w.pos e12
        refine mE_icmp_ne_F (t := 32) c152_22 rfl q11 (r4_n rfl) e12 ?_
        exact t152_25  w
      · have w := w.neg e12
        refine mE_icmp_ne_T (t := 32) c152_22 rfl q11 (r4_n rfl) e12 ?_
        have w := w.oinr
        exact t152_32  w
theorem t152_0 {X : Nat × Nat × qC} {d : Nat}  {M : Mm}  {R : Mm → Prop}  (w : Wp (f152_0  M) R) : mE X (d + 4) 152 0 0 [some (.ref 142), none] [] M (fun v M2 => R M2) :=
  Wp.olp (f := fun s : Mm => lb152_0   s) (s := M) (E := E152_0 X d  R) w (fun s w  => tb152_0  w) 
noncomputable def f152  (M : Mm) : Option (Mm) := f152_0  M
theorem s152 {X : Nat × Nat × qC} {d : Nat}  {M : Mm} {R : Mm → Prop}  (w : Wp (f152  M) R) : mC X (d + 5) 152 0 [.ref 142] M (fun v M2 => R M2) :=
  mC_of (qent_mk qx152 rfl rfl rfl) (t152_0  w)
/-! SaggingNetModel.joins -/
def E138_0 (X : Nat × Nat × qC) (d : Nat) (x1 : Int) (R : Mm → Prop) : Mm → Prop := fun s => mE X (d + 2) 138 0 0 [some (.ref 142), some (.int (Int32.ofInt x1))] [] s (fun v M2 => R M2)
noncomputable def f138_22 (x1 : Int) (M : Mm) : Option ((Mm) ⊕ (Mm)) :=
  (f179 M).bind fun v1 =>
  (f103 v1 0 M).bind fun M5 =>
  gd (R4 ((M5 142 50) - 1)) (
  mlet (ms M5 142 50 ((M5 142 50) - 1)) fun M9 =>
  some (.inl (M9)))
theorem t138_22 {X : Nat × Nat × qC} {d : Nat} {x1 : Int} {M : Mm}  {R : Mm → Prop} (hx1 : R4 x1) (w : Wp (f138_22 x1 M) (Sum.elim (E138_0 X d x1 R) R)) : mE X (d + 2) 138 0 22 [some (.ref 142), some (.int (Int32.ofInt x1))] [] M (fun v M2 => R M2) := by
  refine mE_aload_n c138_22 rfl ?_
  refine mE_aload_n c138_23 rfl ?_
  refine mE_virtual1 (b := 142) (as := []) (r := [.ref 142]) c138_24 qo138 qK12_332 qo179 rfl rfl rfl (ok_lit rfl rfl rfl) (Nat.le_of_ble_eq_true rfl) (s179 (d := d + 1) w.obind) ?_
  rintro v1 _ q3 ⟨rfl, w⟩
  refine mE_iconst c138_27 ?_
  refine mE_virtual0 (b := 142) (as := [.int (Int32.ofInt v1), .int (Int32.ofInt 0)]) (r := []) c138_28 qo138 qK12_341 qo103 rfl rfl rfl (ok_lit rfl rfl rfl) (Nat.le_of_ble_eq_true rfl) (s103 (d := d + 0) q3 (r4_n rfl) w.obind) ?_
  intro _ M5 w
  refine mE_aload_n c138_31 rfl ?_
  refine mE_dup c138_32 rfl ?_
  refine mE_getI c138_33 qo138 qF12_306 (ok_lit rfl rfl rfl) rfl ?_
  intro u7
  refine mE_iconst c138_36 ?_
  obtain ⟨g8, w⟩ := w.ogd
  refine mE_isub c138_37 ?_
  obtain ⟨M9, m10, w⟩ := w.mlet
  refine mE_putI c138_38 qo138 qF12_306 qz12_50 (ok_lit rfl rfl rfl) (Nat.le_of_ble_eq_true rfl) rfl g8 (by rw [qy12_50]; rfl) ?_
  refine mE_M m10 ?_
  refine mE_goto (t := 0) c138_41 rfl ?_
  exact w.osome 
noncomputable def lb138_0 (x1 : Int) (M : Mm) : Option ((Mm) ⊕ (Mm)) :=
  (f179 M).bind fun v1 =>
  if v1 = 38 then
  (f138_22 x1 M)
  else
  (if x1 = 0 then
  (oinr (some M))
  else
  ((f179 M).bind fun v6 =>
  if v6 = 124 then
  (f138_22 x1 M)
  else
  (oinr (some M))))
noncomputable def f138_0 (x1 : Int) (M : Mm) : Option (Mm) := lp (fun s : Mm => lb138_0 x1  s) M
theorem tb138_0 {X : Nat × Nat × qC} {d : Nat} {x1 : Int} {M : Mm}  {R : Mm → Prop} (hx1 : R4 x1) (w : Wp (lb138_0 x1 M) (Sum.elim (E138_0 X d x1 R) R)) : mE X (d + 2) 138 0 0 [some (.ref 142), some (.int (Int32.ofInt x1))] [] M (fun v M2 => R M2) := by
  refine mE_aload_n c138_0 rfl ?_
  refine mE_virtual1 (b := 142) (as := []) (r := []) c138_1 qo138 qK12_332 qo179 rfl rfl rfl (ok_lit rfl rfl rfl) (Nat.le_of_ble_eq_true rfl) (s179 (d := d + 1) w.obind) ?_
  rintro v1 _ q3 ⟨rfl, w⟩
  refine mE_bipush (x := 38) c138_4 rfl ?_
  by_cases e4 : v1 = 38
  · have w := w.pos e4
    refine mE_icmp_eq_T (t := 22) c138_6 rfl q3 (r4_n rfl) e4 ?_
    exact t138_22 hx1 w
  · have w := w.neg e4
    refine mE_icmp_eq_F (t := 22) c138_6 rfl q3 (r4_n rfl) e4 ?_
    refine mE_iload_n c138_9 rfl ?_
    by_cases e5 : x1 = 0
    · have w := w.pos e5
      refine mE_if_eq_T (t := 44) c138_10 rfl hx1 e5 ?_
      have w := w.oinr
      exact mE_vret c138_44 qr138 w.osome
    · have w := w.neg e5
      refine mE_if_eq_F (t := 44) c138_10 rfl hx1 e5 ?_
      refine mE_aload_n c138_13 rfl ?_
      refine mE_virtual1 (b := 142) (as := []) (r := []) c138_14 qo138 qK12_332 qo179 rfl rfl rfl (ok_lit rfl rfl rfl) (Nat.le_of_ble_eq_true rfl) (s179 (d := d + 1) w.obind) ?_
      rintro v6 _ q8 ⟨rfl, w⟩
      refine mE_bipush (x := 124) c138_17 rfl ?_
      by_cases e9 : v6 = 124
      · have w := w.pos e9
        refine mE_icmp_ne_F (t := 44) c138_19 rfl q8 (r4_n rfl) e9 ?_
        exact t138_22 hx1 w
      · have w := w.neg e9
        refine mE_icmp_ne_T (t := 44) c138_19 rfl q8 (r4_n rfl) e9 ?_
        have w := w.oinr
        exact mE_vret c138_44 qr138 w.osome
theorem t138_0 {X : Nat × Nat × qC} {d : Nat} {x1 : Int} {M : Mm}  {R : Mm → Prop} (hx1 : R4 x1) (w : Wp (f138_0 x1 M) R) : mE X (d + 2) 138 0 0 [some (.ref 142), some (.int (Int32.ofInt x1))] [] M (fun v M2 => R M2) :=
  Wp.olp (f := fun s : Mm => lb138_0 x1  s) (s := M) (E := E138_0 X d x1 R) w (fun s w  => tb138_0 hx1 w) 
noncomputable def f138 (x1 : Int) (M : Mm) : Option (Mm) := f138_0 x1 M
theorem s138 {X : Nat × Nat × qC} {d : Nat} {x1 : Int} {M : Mm} {R : Mm → Prop} (hx1 : R4 x1) (w : Wp (f138 x1 M) R) : mC X (d + 3) 138 0 [.ref 142, .int (Int32.ofInt x1)] M (fun v M2 => R M2) :=
  mC_of (qent_mk qx138 rfl rfl rfl) (t138_0 hx1 w)
/-! SaggingNetModel.goesBehind -/
noncomputable def f114_17 (x1 : Int) (M : Mm) : Option (Int × Mm) :=
  if x1 = 124 then
  ((f138 1 M).bind fun M3 =>
  (f155 x1 M3).bind fun M6 =>
  some (1, M6))
  else
  ((f138 0 M).bind fun M3 =>
  (f155 x1 M3).bind fun M6 =>
  some (1, M6))
theorem t114_17 {X : Nat × Nat × qC} {d : Nat} {x1 : Int} {M : Mm}  {R : Int × Mm → Prop} (hx1 : R4 x1) (w : Wp (f114_17 x1 M) R) : mE X (d + 3) 114 1 17 [some (.ref 142), some (.int (Int32.ofInt x1))] [] M (fun v M2 => R (v, M2)) := by
  refine mE_aload_n c114_17 rfl ?_
  refine mE_iload_n c114_18 rfl ?_
  refine mE_bipush (x := 124) c114_19 rfl ?_
  by_cases e1 : x1 = 124
  · have w := w.pos e1
    refine mE_icmp_ne_F (t := 28) c114_21 rfl hx1 (r4_n rfl) e1 ?_
    refine mE_iconst c114_24 ?_
    refine mE_goto (t := 29) c114_25 rfl ?_
    refine mE_virtual0 (b := 142) (as := [.int (Int32.ofInt 1)]) (r := []) c114_29 qo114 qK12_373 qo138 rfl rfl rfl (ok_lit rfl rfl rfl) (Nat.le_of_ble_eq_true rfl) (s138 (d := d + 0) (r4_n rfl) w.obind) ?_
    intro _ M3 w
    refine mE_aload_n c114_32 rfl ?_
    refine mE_iload_n c114_33 rfl ?_
    refine mE_virtual0 (b := 142) (as := [.int (Int32.ofInt x1)]) (r := []) c114_34 qo114 qK12_319 qo155 rfl rfl rfl (ok_lit rfl rfl rfl) (Nat.le_of_ble_eq_true rfl) (s155 (d := d + 2) hx1 w.obind) ?_
    intro _ M6 w
    refine mE_iconst c114_37 ?_
    exact mE_zret c114_38 qr114 (Or.inr rfl) w.osome
  · have w := w.neg e1
    refine mE_icmp_ne_T (t := 28) c114_21 rfl hx1 (r4_n rfl) e1 ?_
    refine mE_iconst c114_28 ?_
    refine mE_virtual0 (b := 142) (as := [.int (Int32.ofInt 0)]) (r := []) c114_29 qo114 qK12_373 qo138 rfl rfl rfl (ok_lit rfl rfl rfl) (Nat.le_of_ble_eq_true rfl) (s138 (d := d + 0) (r4_n rfl) w.obind) ?_
    intro _ M3 w
    refine mE_aload_n c114_32 rfl ?_
    refine mE_iload_n c114_33 rfl ?_
    refine mE_virtual0 (b := 142) (as := [.int (Int32.ofInt x1)]) (r := []) c114_34 qo114 qK12_319 qo155 rfl rfl rfl (ok_lit rfl rfl rfl) (Nat.le_of_ble_eq_true rfl) (s155 (d := d + 2) hx1 w.obind) ?_
    intro _ M6 w
    refine mE_iconst c114_37 ?_
    exact mE_zret c114_38 qr114 (Or.inr rfl) w.osome
noncomputable def f114_114  (M : Mm) : Option (Int × Mm) :=
  (f104 M).bind fun M2 =>
  some (0, M2)
theorem t114_114 {X : Nat × Nat × qC} {d : Nat}  {M : Mm} {y1 : Int32} {R : Int × Mm → Prop}  (w : Wp (f114_114  M) R) : mE X (d + 3) 114 1 114 [some (.ref 142), some (.int y1)] [] M (fun v M2 => R (v, M2)) := by
  refine mE_aload_n c114_114 rfl ?_
  refine mE_virtual0 (b := 142) (as := []) (r := []) c114_115 qo114 qK12_370 qo104 rfl rfl rfl (ok_lit rfl rfl rfl) (Nat.le_of_ble_eq_true rfl) (s104 (d := d + 0) w.obind) ?_
  intro _ M2 w
  refine mE_iconst c114_118 ?_
  exact mE_zret c114_119 qr114 (Or.inl rfl) w.osome
noncomputable def f114  (M : Mm) : Option (Int × Mm) :=
  (f120 M).bind fun v1 =>
  if v1 = 38 then
  (f114_17 v1 M)
  else
  (if v1 = 124 then
  (f114_17 v1 M)
  else
  (if v1 = 41 then
  ((f138 1 M).bind fun M8 =>
  gd (R4 ((M8 142 50) - 1)) (
  mlet (ms M8 142 50 ((M8 142 50) - 1)) fun M12 =>
  gd (R4 ((M12 142 49) - 1)) (
  mlet (ms M12 142 49 ((M12 142 49) - 1)) fun M16 =>
  gd (R4 ((M16 142 44) + 1)) (
  mlet (ms M16 142 44 ((M16 142 44) + 1)) fun M20 =>
  if (M20 142 50) = 0 then
  (mlet (ms M20 142 51 1) fun M24 =>
  if (M24 142 51) = 0 then
  (f114_114 M24)
  else
  (some (0, M24)))
  else
  (mlet (ms M20 142 51 0) fun M24 =>
  if (M24 142 51) = 0 then
  (f114_114 M24)
  else
  (some (0, M24)))))))
  else
  ((f190 1 (M 142 44) M).bind fun M9 =>
  some (0, M9))))
theorem t114 {X : Nat × Nat × qC} {d : Nat}  {M : Mm}  {R : Int × Mm → Prop}  (w : Wp (f114  M) R) : mE X (d + 3) 114 1 0 [some (.ref 142), none] [] M (fun v M2 => R (v, M2)) := by
  refine mE_aload_n c114_0 rfl ?_
  refine mE_virtual1 (b := 142) (as := []) (r := []) c114_1 qo114 qK12_315 qo120 rfl rfl rfl (ok_lit rfl rfl rfl) (Nat.le_of_ble_eq_true rfl) (s120 (d := d + 2) w.obind) ?_
  rintro v1 _ q3 ⟨rfl, w⟩
  refine mE_istore_n (ls2 := [some (.ref 142), some (.int (Int32.ofInt v1))]) c114_4 (Nat.le_of_ble_eq_true rfl) rfl ?_
  refine mE_iload_n c114_5 rfl ?_
  refine mE_bipush (x := 38) c114_6 rfl ?_
  by_cases e4 : v1 = 38
  · have w := w.pos e4
    refine mE_icmp_eq_T (t := 17) c114_8 rfl q3 (r4_n rfl) e4 ?_
    exact t114_17 q3 w
  · have w := w.neg e4
    refine mE_icmp_eq_F (t := 17) c114_8 rfl q3 (r4_n rfl) e4 ?_
    refine mE_iload_n c114_11 rfl ?_
    refine mE_bipush (x := 124) c114_12 rfl ?_
    by_cases e5 : v1 = 124
    · have w := w.pos e5
      refine mE_icmp_ne_F (t := 39) c114_14 rfl q3 (r4_n rfl) e5 ?_
      exact t114_17 q3 w
    · have w := w.neg e5
      refine mE_icmp_ne_T (t := 39) c114_14 rfl q3 (r4_n rfl) e5 ?_
      refine mE_iload_n c114_39 rfl ?_
      refine mE_bipush (x := 41) c114_40 rfl ?_
      by_cases e6 : v1 = 41
      · have w := w.pos e6
        refine mE_icmp_eq_T (t := 56) c114_42 rfl q3 (r4_n rfl) e6 ?_
        refine mE_aload_n c114_56 rfl ?_
        refine mE_iconst c114_57 ?_
        refine mE_virtual0 (b := 142) (as := [.int (Int32.ofInt 1)]) (r := []) c114_58 qo114 qK12_373 qo138 rfl rfl rfl (ok_lit rfl rfl rfl) (Nat.le_of_ble_eq_true rfl) (s138 (d := d + 0) (r4_n rfl) w.obind) ?_
        intro _ M8 w
        refine mE_aload_n c114_61 rfl ?_
        refine mE_dup c114_62 rfl ?_
        refine mE_getI c114_63 qo114 qF12_306 (ok_lit rfl rfl rfl) rfl ?_
        intro u10
        refine mE_iconst c114_66 ?_
        obtain ⟨g11, w⟩ := w.ogd
        refine mE_isub c114_67 ?_
        obtain ⟨M12, m13, w⟩ := w.mlet
        refine mE_putI c114_68 qo114 qF12_306 qz12_50 (ok_lit rfl rfl rfl) (Nat.le_of_ble_eq_true rfl) rfl g11 (by rw [qy12_50]; rfl) ?_
        refine mE_M m13 ?_
        refine mE_aload_n c114_71 rfl ?_
        refine mE_dup c114_72 rfl ?_
        refine mE_getI c114_73 qo114 qF12_309 (ok_lit rfl rfl rfl) rfl ?_
        intro u14
        refine mE_iconst c114_76 ?_
        obtain ⟨g15, w⟩ := w.ogd
        refine mE_isub c114_77 ?_
        obtain ⟨M16, m17, w⟩ := w.mlet
        refine mE_putI c114_78 qo114 qF12_309 qz12_49 (ok_lit rfl rfl rfl) (Nat.le_of_ble_eq_true rfl) rfl g15 (by rw [qy12_49]; rfl) ?_
        refine mE_M m17 ?_
        refine mE_aload_n c114_81 rfl ?_
        refine mE_dup c114_82 rfl ?_
        refine mE_getI c114_83 qo114 qF12_290 (ok_lit rfl rfl rfl) rfl ?_
        intro u18
        refine mE_iconst c114_86 ?_
        obtain ⟨g19, w⟩ := w.ogd
        refine mE_iadd c114_87 ?_
        obtain ⟨M20, m21, w⟩ := w.mlet
        refine mE_putI c114_88 qo114 qF12_290 qz12_44 (ok_lit rfl rfl rfl) (Nat.le_of_ble_eq_true rfl) rfl g19 (by rw [qy12_44]; rfl) ?_
        refine mE_M m21 ?_
        refine mE_aload_n c114_91 rfl ?_
        refine mE_aload_n c114_92 rfl ?_
        refine mE_getI c114_93 qo114 qF12_306 (ok_lit rfl rfl rfl) rfl ?_
        intro u22
        by_cases e23 : (M20 142 50) = 0
        · have w := w.pos e23
          refine mE_if_ne_F (t := 103) c114_96 rfl u22 e23 ?_
          refine mE_iconst c114_99 ?_
          refine mE_goto (t := 104) c114_100 rfl ?_
          obtain ⟨M24, m25, w⟩ := w.mlet
          refine mE_putI c114_104 qo114 qF12_376 qz12_51 (ok_lit rfl rfl rfl) (Nat.le_of_ble_eq_true rfl) rfl (r4_n rfl) (by rw [qy12_51]; exact fit01 (Or.inr rfl)) ?_
          refine mE_M m25 ?_
          refine mE_aload_n c114_107 rfl ?_
          refine mE_getI c114_108 qo114 qF12_376 (ok_lit rfl rfl rfl) rfl ?_
          intro u26
          by_cases e27 : (M24 142 51) = 0
          · have w := w.pos e27
            refine mE_if_ne_F (t := 118) c114_111 rfl u26 e27 ?_
            exact t114_114  w
          · have w := w.neg e27
            refine mE_if_ne_T (t := 118) c114_111 rfl u26 e27 ?_
            refine mE_iconst c114_118 ?_
            exact mE_zret c114_119 qr114 (Or.inl rfl) w.osome
        · have w := w.neg e23
          refine mE_if_ne_T (t := 103) c114_96 rfl u22 e23 ?_
          refine mE_iconst c114_103 ?_
          obtain ⟨M24, m25, w⟩ := w.mlet
          refine mE_putI c114_104 qo114 qF12_376 qz12_51 (ok_lit rfl rfl rfl) (Nat.le_of_ble_eq_true rfl) rfl (r4_n rfl) (by rw [qy12_51]; exact fit01 (Or.inl rfl)) ?_
          refine mE_M m25 ?_
          refine mE_aload_n c114_107 rfl ?_
          refine mE_getI c114_108 qo114 qF12_376 (ok_lit rfl rfl rfl) rfl ?_
          intro u26
          by_cases e27 : (M24 142 51) = 0
          · have w := w.pos e27
            refine mE_if_ne_F (t := 118) c114_111 rfl u26 e27 ?_
            exact t114_114  w
          · have w := w.neg e27
            refine mE_if_ne_T (t := 118) c114_111 rfl u26 e27 ?_
            refine mE_iconst c114_118 ?_
            exact mE_zret c114_119 qr114 (Or.inl rfl) w.osome
      · have w := w.neg e6
        refine mE_icmp_eq_F (t := 56) c114_42 rfl q3 (r4_n rfl) e6 ?_
        refine mE_aload_n c114_45 rfl ?_
        refine mE_iconst c114_46 ?_
        refine mE_aload_n c114_47 rfl ?_
        refine mE_getI c114_48 qo114 qF12_290 (ok_lit rfl rfl rfl) rfl ?_
        intro u7
        refine mE_virtual0 (b := 142) (as := [.int (Int32.ofInt 1), .int (Int32.ofInt (M 142 44))]) (r := []) c114_51 qo114 qK12_312 qo190 rfl rfl rfl (ok_lit rfl rfl rfl) (Nat.le_of_ble_eq_true rfl) (s190 (d := d + 2) (r4_n rfl) u7 w.obind) ?_
        intro _ M9 w
        refine mE_iconst c114_54 ?_
        exact mE_zret c114_55 qr114 (Or.inl rfl) w.osome
theorem s114 {X : Nat × Nat × qC} {d : Nat}  {M : Mm} {R : Int × Mm → Prop}  (w : Wp (f114  M) R) : mC X (d + 4) 114 1 [.ref 142] M (fun v M2 => R (v, M2)) :=
  mC_of (qent_mk qx114 rfl rfl rfl) (t114  w)
/-! SaggingNetModel.condition -/
def E94_47 (X : Nat × Nat × qC) (d : Nat)  (R : Mm → Prop) : Int × Mm → Prop := fun s => R4 s.1 → mE X (d + 5) 94 0 47 [some (.ref 142), some (.int (Int32.ofInt s.1))] [] s.2 (fun v M2 => R M2)
noncomputable def f94_69 (x1 : Int) (M : Mm) : Option ((Int × Mm) ⊕ (Mm)) :=
  (f124 M).bind fun v1 =>
  if v1 = 0 then
  (some (.inl (x1, M)))
  else
  (obnd (f114 M) fun v5 M6 =>
  some (.inl (v5, M6)))
theorem t94_69 {X : Nat × Nat × qC} {d : Nat} {x1 : Int} {M : Mm}  {R : Mm → Prop} (hx1 : R4 x1) (w : Wp (f94_69 x1 M) (Sum.elim (E94_47 X d  R) R)) : mE X (d + 5) 94 0 69 [some (.ref 142), some (.int (Int32.ofInt x1))] [] M (fun v M2 => R M2) := by
  refine mE_aload_n c94_69 rfl ?_
  refine mE_virtual1 (b := 142) (as := []) (r := []) c94_70 qo94 qK12_299 qo124 rfl rfl rfl (ok_lit rfl rfl rfl) (Nat.le_of_ble_eq_true rfl) (s124 (d := d + 4) w.obind) ?_
  rintro v1 _ q3 ⟨rfl, w⟩
  by_cases e4 : v1 = 0
  · have w := w.pos e4
    refine mE_if_eq_T (t := 47) c94_73 rfl q3 e4 ?_
    exact w.osome hx1
  · have w := w.neg e4
    refine mE_if_eq_F (t := 47) c94_73 rfl q3 e4 ?_
    refine mE_aload_n c94_76 rfl ?_
    refine mE_virtual1 (b := 142) (as := []) (r := []) c94_77 qo94 qK12_382 qo114 rfl rfl rfl (ok_lit rfl rfl rfl) (Nat.le_of_ble_eq_true rfl) (s114 (d := d + 1) w.oc) ?_
    intro v5 M6 q7 w
    refine mE_istore_n (ls2 := [some (.ref 142), some (.int (Int32.ofInt v5))]) c94_80 (Nat.le_of_ble_eq_true rfl) rfl ?_
    refine mE_goto (t := 47) c94_81 rfl ?_
    exact w.osome q7
noncomputable def lb94_47 (x1 : Int) (M : Mm) : Option ((Int × Mm) ⊕ (Mm)) :=
  (f124 M).bind fun v1 =>
  if v1 = 0 then
  (oinr (some M))
  else
  (if (M 142 51) = 0 then
  (if x1 = 0 then
  (f94_69 x1 M)
  else
  ((f152 M).bind fun M9 =>
  f94_69 x1 M9))
  else
  (oinr (some M)))
noncomputable def f94_47 (x1 : Int) (M : Mm) : Option (Mm) := lp (fun s : Int × Mm => lb94_47  s.1 s.2) (x1, M)
theorem tb94_47 {X : Nat × Nat × qC} {d : Nat} {x1 : Int} {M : Mm}  {R : Mm → Prop} (hx1 : R4 x1) (w : Wp (lb94_47 x1 M) (Sum.elim (E94_47 X d  R) R)) : mE X (d + 5) 94 0 47 [some (.ref 142), some (.int (Int32.ofInt x1))] [] M (fun v M2 => R M2) := by
  refine mE_aload_n c94_47 rfl ?_
  refine mE_virtual1 (b := 142) (as := []) (r := []) c94_48 qo94 qK12_299 qo124 rfl rfl rfl (ok_lit rfl rfl rfl) (Nat.le_of_ble_eq_true rfl) (s124 (d := d + 4) w.obind) ?_
  rintro v1 _ q3 ⟨rfl, w⟩
  by_cases e4 : v1 = 0
  · have w := w.pos e4
    refine mE_if_eq_T (t := 84) c94_51 rfl q3 e4 ?_
    have w := w.oinr
    exact mE_vret c94_84 qr94 w.osome
  · have w := w.neg e4
    refine mE_if_eq_F (t := 84) c94_51 rfl q3 e4 ?_
    refine mE_aload_n c94_54 rfl ?_
    refine mE_getI c94_55 qo94 qF12_376 (ok_lit rfl rfl rfl) rfl ?_
    intro u5
    by_cases e6 : (M 142 51) = 0
    · have w := w.pos e6
      refine mE_if_ne_F (t := 84) c94_58 rfl u5 e6 ?_
      refine mE_iload_n c94_61 rfl ?_
      by_cases e7 : x1 = 0
      · have w := w.pos e7
        refine mE_if_eq_T (t := 69) c94_62 rfl hx1 e7 ?_
        exact t94_69 hx1 w
      · have w := w.neg e7
        refine mE_if_eq_F (t := 69) c94_62 rfl hx1 e7 ?_
        refine mE_aload_n c94_65 rfl ?_
        refine mE_virtual0 (b := 142) (as := []) (r := []) c94_66 qo94 qK12_379 qo152 rfl rfl rfl (ok_lit rfl rfl rfl) (Nat.le_of_ble_eq_true rfl) (s152 (d := d + 0) w.obind) ?_
        intro _ M9 w
        exact t94_69 hx1 w
    · have w := w.neg e6
      refine mE_if_ne_T (t := 84) c94_58 rfl u5 e6 ?_
      have w := w.oinr
      exact mE_vret c94_84 qr94 w.osome
theorem t94_47 {X : Nat × Nat × qC} {d : Nat} {x1 : Int} {M : Mm}  {R : Mm → Prop} (hx1 : R4 x1) (w : Wp (f94_47 x1 M) R) : mE X (d + 5) 94 0 47 [some (.ref 142), some (.int (Int32.ofInt x1))] [] M (fun v M2 => R M2) :=
  Wp.olp (f := fun s : Int × Mm => lb94_47  s.1 s.2) (s := (x1, M)) (E := E94_47 X d  R) w (fun s w hx1 => tb94_47 hx1 w) hx1
noncomputable def f94_33  (M : Mm) : Option (Mm) :=
  (f124 M).bind fun v1 =>
  if v1 = 0 then
  (some M)
  else
  ((f150 M).bind fun M6 =>
  f94_47 1 M6)
theorem t94_33 {X : Nat × Nat × qC} {d : Nat}  {M : Mm}  {R : Mm → Prop}  (w : Wp (f94_33  M) R) : mE X (d + 5) 94 0 33 [some (.ref 142), none] [] M (fun v M2 => R M2) := by
  refine mE_aload_n c94_33 rfl ?_
  refine mE_virtual1 (b := 142) (as := []) (r := []) c94_34 qo94 qK12_299 qo124 rfl rfl rfl (ok_lit rfl rfl rfl) (Nat.le_of_ble_eq_true rfl) (s124 (d := d + 4) w.obind) ?_
  rintro v1 _ q3 ⟨rfl, w⟩
  by_cases e4 : v1 = 0
  · have w := w.pos e4
    refine mE_if_ne_F (t := 41) c94_37 rfl q3 e4 ?_
    exact mE_vret c94_40 qr94 w.osome
  · have w := w.neg e4
    refine mE_if_ne_T (t := 41) c94_37 rfl q3 e4 ?_
    refine mE_aload_n c94_41 rfl ?_
    refine mE_virtual0 (b := 142) (as := []) (r := []) c94_42 qo94 qK12_344 qo150 rfl rfl rfl (ok_lit rfl rfl rfl) (Nat.le_of_ble_eq_true rfl) (s150 (d := d + 3) w.obind) ?_
    intro _ M6 w
    refine mE_iconst c94_45 ?_
    refine mE_istore_n (ls2 := [some (.ref 142), some (.int (Int32.ofInt 1))]) c94_46 (Nat.le_of_ble_eq_true rfl) rfl ?_
    exact t94_47 (r4_n rfl) w
noncomputable def f94  (M : Mm) : Option (Mm) :=
  mlet (ms M 142 50 0) fun M1 =>
  mlet (ms M1 142 49 0) fun M3 =>
  mlet (ms M3 142 51 0) fun M5 =>
  (f120 M5).bind fun v7 =>
  if v7 = 40 then
  (f94_33 M5)
  else
  ((f190 1 (M5 142 44) M5).bind fun M13 =>
  f94_33 M13)
theorem t94 {X : Nat × Nat × qC} {d : Nat}  {M : Mm}  {R : Mm → Prop}  (w : Wp (f94  M) R) : mE X (d + 5) 94 0 0 [some (.ref 142), none] [] M (fun v M2 => R M2) := by
  refine mE_aload_n c94_0 rfl ?_
  refine mE_iconst c94_1 ?_
  obtain ⟨M1, m2, w⟩ := w.mlet
  refine mE_putI c94_2 qo94 qF12_306 qz12_50 (ok_lit rfl rfl rfl) (Nat.le_of_ble_eq_true rfl) rfl (r4_n rfl) (by rw [qy12_50]; rfl) ?_
  refine mE_M m2 ?_
  refine mE_aload_n c94_5 rfl ?_
  refine mE_iconst c94_6 ?_
  obtain ⟨M3, m4, w⟩ := w.mlet
  refine mE_putI c94_7 qo94 qF12_309 qz12_49 (ok_lit rfl rfl rfl) (Nat.le_of_ble_eq_true rfl) rfl (r4_n rfl) (by rw [qy12_49]; rfl) ?_
  refine mE_M m4 ?_
  refine mE_aload_n c94_10 rfl ?_
  refine mE_iconst c94_11 ?_
  obtain ⟨M5, m6, w⟩ := w.mlet
  refine mE_putI c94_12 qo94 qF12_376 qz12_51 (ok_lit rfl rfl rfl) (Nat.le_of_ble_eq_true rfl) rfl (r4_n rfl) (by rw [qy12_51]; exact fit01 (Or.inl rfl)) ?_
  refine mE_M m6 ?_
  refine mE_aload_n c94_15 rfl ?_
  refine mE_virtual1 (b := 142) (as := []) (r := []) c94_16 qo94 qK12_315 qo120 rfl rfl rfl (ok_lit rfl rfl rfl) (Nat.le_of_ble_eq_true rfl) (s120 (d := d + 4) w.obind) ?_
  rintro v7 _ q9 ⟨rfl, w⟩
  refine mE_bipush (x := 40) c94_19 rfl ?_
  by_cases e10 : v7 = 40
  · have w := w.pos e10
    refine mE_icmp_eq_T (t := 33) c94_21 rfl q9 (r4_n rfl) e10 ?_
    exact t94_33  w
  · have w := w.neg e10
    refine mE_icmp_eq_F (t := 33) c94_21 rfl q9 (r4_n rfl) e10 ?_
    refine mE_aload_n c94_24 rfl ?_
    refine mE_iconst c94_25 ?_
    refine mE_aload_n c94_26 rfl ?_
    refine mE_getI c94_27 qo94 qF12_290 (ok_lit rfl rfl rfl) rfl ?_
    intro u11
    refine mE_virtual0 (b := 142) (as := [.int (Int32.ofInt 1), .int (Int32.ofInt (M5 142 44))]) (r := []) c94_30 qo94 qK12_312 qo190 rfl rfl rfl (ok_lit rfl rfl rfl) (Nat.le_of_ble_eq_true rfl) (s190 (d := d + 4) (r4_n rfl) u11 w.obind) ?_
    intro _ M13 w
    exact t94_33  w
theorem s94 {X : Nat × Nat × qC} {d : Nat}  {M : Mm} {R : Mm → Prop}  (w : Wp (f94  M) R) : mC X (d + 6) 94 0 [.ref 142] M (fun v M2 => R M2) :=
  mC_of (qent_mk qx94 rfl rfl rfl) (t94  w)
/-! SaggingNetModel.clause -/
noncomputable def f91_47 (x1 : Int) (M : Mm) : Option (Mm) :=
  (f124 M).bind fun v1 =>
  if v1 = 0 then
  (some M)
  else
  (gd (0 ≤ (M 142 47) ∧ (M 142 47) < 12) (
  mlet (ms M 172 ((M 142 47)).toNat x1) fun M7 =>
  gd (0 ≤ (M7 142 47) ∧ (M7 142 47) < 12) (
  mlet (ms M7 173 ((M7 142 47)).toNat (M7 142 48)) fun M12 =>
  gd (R4 ((M12 142 44) + 1)) (
  mlet (ms M12 142 44 ((M12 142 44) + 1)) fun M16 =>
  (f94 M16).bind fun M19 =>
  gd (0 ≤ (M19 142 47) ∧ (M19 142 47) < 12) (
  mlet (ms M19 174 ((M19 142 47)).toNat (M19 142 48)) fun M24 =>
  gd (R4 ((M24 142 47) + 1)) (
  mlet (ms M24 142 47 ((M24 142 47) + 1)) fun M28 =>
  some M28))))))
theorem t91_47 {X : Nat × Nat × qC} {d : Nat} {x1 : Int} {M : Mm}  {R : Mm → Prop} (hx1 : R4 x1) (w : Wp (f91_47 x1 M) R) : mE X (d + 6) 91 0 47 [some (.ref 142), some (.int (Int32.ofInt x1))] [] M (fun v M2 => R M2) := by
  refine mE_aload_n c91_47 rfl ?_
  refine mE_virtual1 (b := 142) (as := []) (r := []) c91_48 qo91 qK12_299 qo124 rfl rfl rfl (ok_lit rfl rfl rfl) (Nat.le_of_ble_eq_true rfl) (s124 (d := d + 5) w.obind) ?_
  rintro v1 _ q3 ⟨rfl, w⟩
  by_cases e4 : v1 = 0
  · have w := w.pos e4
    refine mE_if_ne_F (t := 55) c91_51 rfl q3 e4 ?_
    exact mE_vret c91_54 qr91 w.osome
  · have w := w.neg e4
    refine mE_if_ne_T (t := 55) c91_51 rfl q3 e4 ?_
    refine mE_aload_n c91_55 rfl ?_
    refine mE_getA c91_56 qo91 qF12_101 (ok_lit rfl rfl rfl) rfl ⟨by decide, by decide⟩ ?_
    refine mE_aload_n c91_59 rfl ?_
    refine mE_getI c91_60 qo91 qF12_329 (ok_lit rfl rfl rfl) rfl ?_
    intro u5
    refine mE_iload_n c91_63 rfl ?_
    obtain ⟨g6, w⟩ := w.ogd
    obtain ⟨M7, m8, w⟩ := w.mlet
    refine mE_iastore c91_64 (ok_lit rfl rfl rfl) u5 g6 hx1 ?_
    refine mE_M m8 ?_
    refine mE_aload_n c91_65 rfl ?_
    refine mE_getA c91_66 qo91 qF12_104 (ok_lit rfl rfl rfl) rfl ⟨by decide, by decide⟩ ?_
    refine mE_aload_n c91_69 rfl ?_
    refine mE_getI c91_70 qo91 qF12_329 (ok_lit rfl rfl rfl) rfl ?_
    intro u9
    refine mE_aload_n c91_73 rfl ?_
    refine mE_getI c91_74 qo91 qF12_303 (ok_lit rfl rfl rfl) rfl ?_
    intro u10
    obtain ⟨g11, w⟩ := w.ogd
    obtain ⟨M12, m13, w⟩ := w.mlet
    refine mE_iastore c91_77 (ok_lit rfl rfl rfl) u9 g11 u10 ?_
    refine mE_M m13 ?_
    refine mE_aload_n c91_78 rfl ?_
    refine mE_dup c91_79 rfl ?_
    refine mE_getI c91_80 qo91 qF12_290 (ok_lit rfl rfl rfl) rfl ?_
    intro u14
    refine mE_iconst c91_83 ?_
    obtain ⟨g15, w⟩ := w.ogd
    refine mE_iadd c91_84 ?_
    obtain ⟨M16, m17, w⟩ := w.mlet
    refine mE_putI c91_85 qo91 qF12_290 qz12_44 (ok_lit rfl rfl rfl) (Nat.le_of_ble_eq_true rfl) rfl g15 (by rw [qy12_44]; rfl) ?_
    refine mE_M m17 ?_
    refine mE_aload_n c91_88 rfl ?_
    refine mE_virtual0 (b := 142) (as := []) (r := []) c91_89 qo91 qK12_385 qo94 rfl rfl rfl (ok_lit rfl rfl rfl) (Nat.le_of_ble_eq_true rfl) (s94 (d := d + 0) w.obind) ?_
    intro _ M19 w
    refine mE_aload_n c91_92 rfl ?_
    refine mE_getA c91_93 qo91 qF12_107 (ok_lit rfl rfl rfl) rfl ⟨by decide, by decide⟩ ?_
    refine mE_aload_n c91_96 rfl ?_
    refine mE_getI c91_97 qo91 qF12_329 (ok_lit rfl rfl rfl) rfl ?_
    intro u21
    refine mE_aload_n c91_100 rfl ?_
    refine mE_getI c91_101 qo91 qF12_303 (ok_lit rfl rfl rfl) rfl ?_
    intro u22
    obtain ⟨g23, w⟩ := w.ogd
    obtain ⟨M24, m25, w⟩ := w.mlet
    refine mE_iastore c91_104 (ok_lit rfl rfl rfl) u21 g23 u22 ?_
    refine mE_M m25 ?_
    refine mE_aload_n c91_105 rfl ?_
    refine mE_dup c91_106 rfl ?_
    refine mE_getI c91_107 qo91 qF12_329 (ok_lit rfl rfl rfl) rfl ?_
    intro u26
    refine mE_iconst c91_110 ?_
    obtain ⟨g27, w⟩ := w.ogd
    refine mE_iadd c91_111 ?_
    obtain ⟨M28, m29, w⟩ := w.mlet
    refine mE_putI c91_112 qo91 qF12_329 qz12_47 (ok_lit rfl rfl rfl) (Nat.le_of_ble_eq_true rfl) rfl g27 (by rw [qy12_47]; rfl) ?_
    refine mE_M m29 ?_
    exact mE_vret c91_115 qr91 w.osome
noncomputable def f91_29 (x1 : Int) (M : Mm) : Option (Mm) :=
  if (M 142 47) = 12 then
  ((f190 4 (M 142 44) M).bind fun M5 =>
  f91_47 x1 M5)
  else
  (f91_47 x1 M)
theorem t91_29 {X : Nat × Nat × qC} {d : Nat} {x1 : Int} {M : Mm}  {R : Mm → Prop} (hx1 : R4 x1) (w : Wp (f91_29 x1 M) R) : mE X (d + 6) 91 0 29 [some (.ref 142), some (.int (Int32.ofInt x1))] [] M (fun v M2 => R M2) := by
  refine mE_aload_n c91_29 rfl ?_
  refine mE_getI c91_30 qo91 qF12_329 (ok_lit rfl rfl rfl) rfl ?_
  intro u1
  refine mE_bipush (x := 12) c91_33 rfl ?_
  by_cases e2 : (M 142 47) = 12
  · have w := w.pos e2
    refine mE_icmp_ne_F (t := 47) c91_35 rfl u1 (r4_n rfl) e2 ?_
    refine mE_aload_n c91_38 rfl ?_
    refine mE_iconst c91_39 ?_
    refine mE_aload_n c91_40 rfl ?_
    refine mE_getI c91_41 qo91 qF12_290 (ok_lit rfl rfl rfl) rfl ?_
    intro u3
    refine mE_virtual0 (b := 142) (as := [.int (Int32.ofInt 4), .int (Int32.ofInt (M 142 44))]) (r := []) c91_44 qo91 qK12_312 qo190 rfl rfl rfl (ok_lit rfl rfl rfl) (Nat.le_of_ble_eq_true rfl) (s190 (d := d + 5) (r4_n rfl) u3 w.obind) ?_
    intro _ M5 w
    exact t91_47 hx1 w
  · have w := w.neg e2
    refine mE_icmp_ne_T (t := 47) c91_35 rfl u1 (r4_n rfl) e2 ?_
    exact t91_47 hx1 w
noncomputable def f91  (M : Mm) : Option (Mm) :=
  (f120 M).bind fun v1 =>
  if v1 = 116 then
  (f91_29 v1 M)
  else
  (if v1 = 111 then
  (f91_29 v1 M)
  else
  ((f190 1 (M 142 44) M).bind fun M8 =>
  f91_47 v1 M8))
theorem t91 {X : Nat × Nat × qC} {d : Nat}  {M : Mm}  {R : Mm → Prop}  (w : Wp (f91  M) R) : mE X (d + 6) 91 0 0 [some (.ref 142), none] [] M (fun v M2 => R M2) := by
  refine mE_aload_n c91_0 rfl ?_
  refine mE_virtual1 (b := 142) (as := []) (r := []) c91_1 qo91 qK12_315 qo120 rfl rfl rfl (ok_lit rfl rfl rfl) (Nat.le_of_ble_eq_true rfl) (s120 (d := d + 5) w.obind) ?_
  rintro v1 _ q3 ⟨rfl, w⟩
  refine mE_istore_n (ls2 := [some (.ref 142), some (.int (Int32.ofInt v1))]) c91_4 (Nat.le_of_ble_eq_true rfl) rfl ?_
  refine mE_iload_n c91_5 rfl ?_
  refine mE_bipush (x := 116) c91_6 rfl ?_
  by_cases e4 : v1 = 116
  · have w := w.pos e4
    refine mE_icmp_eq_T (t := 29) c91_8 rfl q3 (r4_n rfl) e4 ?_
    exact t91_29 q3 w
  · have w := w.neg e4
    refine mE_icmp_eq_F (t := 29) c91_8 rfl q3 (r4_n rfl) e4 ?_
    refine mE_iload_n c91_11 rfl ?_
    refine mE_bipush (x := 111) c91_12 rfl ?_
    by_cases e5 : v1 = 111
    · have w := w.pos e5
      refine mE_icmp_eq_T (t := 29) c91_14 rfl q3 (r4_n rfl) e5 ?_
      exact t91_29 q3 w
    · have w := w.neg e5
      refine mE_icmp_eq_F (t := 29) c91_14 rfl q3 (r4_n rfl) e5 ?_
      refine mE_aload_n c91_17 rfl ?_
      refine mE_iconst c91_18 ?_
      refine mE_aload_n c91_19 rfl ?_
      refine mE_getI c91_20 qo91 qF12_290 (ok_lit rfl rfl rfl) rfl ?_
      intro u6
      refine mE_virtual0 (b := 142) (as := [.int (Int32.ofInt 1), .int (Int32.ofInt (M 142 44))]) (r := []) c91_23 qo91 qK12_312 qo190 rfl rfl rfl (ok_lit rfl rfl rfl) (Nat.le_of_ble_eq_true rfl) (s190 (d := d + 5) (r4_n rfl) u6 w.obind) ?_
      intro _ M8 w
      refine mE_goto (t := 47) c91_26 rfl ?_
      exact t91_47 q3 w
theorem s91 {X : Nat × Nat × qC} {d : Nat}  {M : Mm} {R : Mm → Prop}  (w : Wp (f91  M) R) : mC X (d + 7) 91 0 [.ref 142] M (fun v M2 => R M2) :=
  mC_of (qent_mk qx91 rfl rfl rfl) (t91  w)
/-! SaggingNetModel.isLand -/
noncomputable def f126 (x0 : Int) (M : Mm) : Option (Int) :=
  (f143 x0 0 3 M).bind fun v1 =>
  gd (v1 = 0 ∨ v1 = 1) (
  some v1)
theorem t126 {X : Nat × Nat × qC} {d : Nat} {x0 : Int} {M : Mm}  {R : Int → Prop} (hx0 : R4 x0) (w : Wp (f126 x0 M) R) : mE X (d + 1) 126 1 0 [some (.int (Int32.ofInt x0))] [] M (fun v M2 => M = M2 ∧ R v) := by
  refine mE_iload_n c126_0 rfl ?_
  refine mE_i2l c126_1 hx0 ?_
  refine mE_lconst (x := 0) c126_2 rfl ?_
  refine mE_ldc2_w (x := 3) c126_3 qo126 qJ12_200 rfl ?_
  refine mE_static1 (as := [.long (Int64.ofInt x0), .long (Int64.ofInt 0), .long (Int64.ofInt 3)]) (r := []) c126_6 qo126 (by decide) qK12_190 rfl rfl rfl (Nat.le_of_ble_eq_true rfl) (s143 (d := d + 0) (R4.to8 hx0) (r8_n rfl) (r8_n rfl) w.obind) ?_
  rintro v1 _ q3 ⟨rfl, w⟩
  obtain ⟨g4, w⟩ := w.ogd
  exact mE_zret c126_9 qr126 g4 ⟨rfl, w.osome⟩
theorem s126 {X : Nat × Nat × qC} {d : Nat} {x0 : Int} {M : Mm} {R : Int → Prop} (hx0 : R4 x0) (w : Wp (f126 x0 M) R) : mC X (d + 2) 126 1 [.int (Int32.ofInt x0)] M (fun v M2 => M = M2 ∧ R v) :=
  mC_of (qent_mk qx126 rfl rfl rfl) (t126 hx0 w)
/-! SaggingNetModel.clock -/
noncomputable def f92 (x1 : Int) (x2 : Int) (x3 : Int) (M : Mm) : Option (Int × Mm) :=
  (f126 x1 M).bind fun v1 =>
  if v1 = 0 then
  (some (0, M))
  else
  ((f143 x2 (-100) 100 M).bind fun v5 =>
  if v5 = 0 then
  (some (0, M))
  else
  ((f143 x3 x2 100 M).bind fun v9 =>
  if v9 = 0 then
  (some (0, M))
  else
  (gd (0 ≤ x1 ∧ x1 < 4) (
  mlet (ms M 191 (x1).toNat x2) fun M14 =>
  mlet (ms M14 192 (x1).toNat x3) fun M16 =>
  some (1, M16)))))
theorem t92 {X : Nat × Nat × qC} {d : Nat} {x1 : Int} {x2 : Int} {x3 : Int} {M : Mm}  {R : Int × Mm → Prop} (hx1 : R4 x1) (hx2 : R4 x2) (hx3 : R4 x3) (w : Wp (f92 x1 x2 x3 M) R) : mE X (d + 2) 92 1 0 [some (.ref 142), some (.int (Int32.ofInt x1)), some (.int (Int32.ofInt x2)), some (.int (Int32.ofInt x3))] [] M (fun v M2 => R (v, M2)) := by
  refine mE_iload_n c92_0 rfl ?_
  refine mE_static1 (as := [.int (Int32.ofInt x1)]) (r := []) c92_1 qo92 (by decide) qK12_205 rfl rfl rfl (Nat.le_of_ble_eq_true rfl) (s126 (d := d + 0) hx1 w.obind) ?_
  rintro v1 _ q3 ⟨rfl, w⟩
  by_cases e4 : v1 = 0
  · have w := w.pos e4
    refine mE_if_eq_T (t := 34) c92_4 rfl q3 e4 ?_
    refine mE_iconst c92_34 ?_
    exact mE_zret c92_35 qr92 (Or.inl rfl) w.osome
  · have w := w.neg e4
    refine mE_if_eq_F (t := 34) c92_4 rfl q3 e4 ?_
    refine mE_iload_n c92_7 rfl ?_
    refine mE_i2l c92_8 hx2 ?_
    refine mE_ldc2_w (x := (-100)) c92_9 qo92 qJ12_503 rfl ?_
    refine mE_ldc2_w (x := 100) c92_12 qo92 qJ12_277 rfl ?_
    refine mE_static1 (as := [.long (Int64.ofInt x2), .long (Int64.ofInt (-100)), .long (Int64.ofInt 100)]) (r := []) c92_15 qo92 (by decide) qK12_190 rfl rfl rfl (Nat.le_of_ble_eq_true rfl) (s143 (d := d + 1) (R4.to8 hx2) (r8_n rfl) (r8_n rfl) w.obind) ?_
    rintro v5 _ q7 ⟨rfl, w⟩
    by_cases e8 : v5 = 0
    · have w := w.pos e8
      refine mE_if_eq_T (t := 34) c92_18 rfl q7 e8 ?_
      refine mE_iconst c92_34 ?_
      exact mE_zret c92_35 qr92 (Or.inl rfl) w.osome
    · have w := w.neg e8
      refine mE_if_eq_F (t := 34) c92_18 rfl q7 e8 ?_
      refine mE_iload_n c92_21 rfl ?_
      refine mE_i2l c92_22 hx3 ?_
      refine mE_iload_n c92_23 rfl ?_
      refine mE_i2l c92_24 hx2 ?_
      refine mE_ldc2_w (x := 100) c92_25 qo92 qJ12_277 rfl ?_
      refine mE_static1 (as := [.long (Int64.ofInt x3), .long (Int64.ofInt x2), .long (Int64.ofInt 100)]) (r := []) c92_28 qo92 (by decide) qK12_190 rfl rfl rfl (Nat.le_of_ble_eq_true rfl) (s143 (d := d + 1) (R4.to8 hx3) (R4.to8 hx2) (r8_n rfl) w.obind) ?_
      rintro v9 _ q11 ⟨rfl, w⟩
      by_cases e12 : v9 = 0
      · have w := w.pos e12
        refine mE_if_ne_F (t := 36) c92_31 rfl q11 e12 ?_
        refine mE_iconst c92_34 ?_
        exact mE_zret c92_35 qr92 (Or.inl rfl) w.osome
      · have w := w.neg e12
        refine mE_if_ne_T (t := 36) c92_31 rfl q11 e12 ?_
        refine mE_aload_n c92_36 rfl ?_
        refine mE_getA c92_37 qo92 qF12_158 (ok_lit rfl rfl rfl) rfl ⟨by decide, by decide⟩ ?_
        refine mE_iload_n c92_40 rfl ?_
        refine mE_iload_n c92_41 rfl ?_
        obtain ⟨g13, w⟩ := w.ogd
        obtain ⟨M14, m15, w⟩ := w.mlet
        refine mE_iastore c92_42 (ok_lit rfl rfl rfl) hx1 g13 hx2 ?_
        refine mE_M m15 ?_
        refine mE_aload_n c92_43 rfl ?_
        refine mE_getA c92_44 qo92 qF12_161 (ok_lit rfl rfl rfl) rfl ⟨by decide, by decide⟩ ?_
        refine mE_iload_n c92_47 rfl ?_
        refine mE_iload_n c92_48 rfl ?_
        obtain ⟨M16, m17, w⟩ := w.mlet
        refine mE_iastore c92_49 (ok_lit rfl rfl rfl) hx1 g13 hx3 ?_
        refine mE_M m17 ?_
        refine mE_iconst c92_50 ?_
        exact mE_zret c92_51 qr92 (Or.inr rfl) w.osome
theorem s92 {X : Nat × Nat × qC} {d : Nat} {x1 : Int} {x2 : Int} {x3 : Int} {M : Mm} {R : Int × Mm → Prop} (hx1 : R4 x1) (hx2 : R4 x2) (hx3 : R4 x3) (w : Wp (f92 x1 x2 x3 M) R) : mC X (d + 3) 92 1 [.ref 142, .int (Int32.ofInt x1), .int (Int32.ofInt x2), .int (Int32.ofInt x3)] M (fun v M2 => R (v, M2)) :=
  mC_of (qent_mk qx92 rfl rfl rfl) (t92 hx1 hx2 hx3 w)
/-! SaggingNetModel.comes -/
noncomputable def f93 (x1 : Int) (x2 : Int) (M : Mm) : Option (Mm) :=
  gd (0 ≤ (M 142 59) ∧ (M 142 59) < 64) (
  mlet (ms M 180 ((M 142 59)).toNat x1) fun M3 =>
  gd (0 ≤ (M3 142 59) ∧ (M3 142 59) < 64) (
  mlet (ms M3 181 ((M3 142 59)).toNat x2) fun M7 =>
  gd (R4 ((M7 142 59) + 1)) (
  mlet (ms M7 142 59 ((M7 142 59) + 1)) fun M11 =>
  some M11)))
theorem t93 {X : Nat × Nat × qC} {d : Nat} {x1 : Int} {x2 : Int} {M : Mm}  {R : Mm → Prop} (hx1 : R4 x1) (hx2 : R4 x2) (w : Wp (f93 x1 x2 M) R) : mE X (d + 0) 93 0 0 [some (.ref 142), some (.int (Int32.ofInt x1)), some (.int (Int32.ofInt x2))] [] M (fun v M2 => R M2) := by
  refine mE_aload_n c93_0 rfl ?_
  refine mE_getA c93_1 qo93 qF12_125 (ok_lit rfl rfl rfl) rfl ⟨by decide, by decide⟩ ?_
  refine mE_aload_n c93_4 rfl ?_
  refine mE_getI c93_5 qo93 qF12_424 (ok_lit rfl rfl rfl) rfl ?_
  intro u1
  refine mE_iload_n c93_8 rfl ?_
  obtain ⟨g2, w⟩ := w.ogd
  obtain ⟨M3, m4, w⟩ := w.mlet
  refine mE_iastore c93_9 (ok_lit rfl rfl rfl) u1 g2 hx1 ?_
  refine mE_M m4 ?_
  refine mE_aload_n c93_10 rfl ?_
  refine mE_getA c93_11 qo93 qF12_128 (ok_lit rfl rfl rfl) rfl ⟨by decide, by decide⟩ ?_
  refine mE_aload_n c93_14 rfl ?_
  refine mE_getI c93_15 qo93 qF12_424 (ok_lit rfl rfl rfl) rfl ?_
  intro u5
  refine mE_iload_n c93_18 rfl ?_
  obtain ⟨g6, w⟩ := w.ogd
  obtain ⟨M7, m8, w⟩ := w.mlet
  refine mE_iastore c93_19 (ok_lit rfl rfl rfl) u5 g6 hx2 ?_
  refine mE_M m8 ?_
  refine mE_aload_n c93_20 rfl ?_
  refine mE_dup c93_21 rfl ?_
  refine mE_getI c93_22 qo93 qF12_424 (ok_lit rfl rfl rfl) rfl ?_
  intro u9
  refine mE_iconst c93_25 ?_
  obtain ⟨g10, w⟩ := w.ogd
  refine mE_iadd c93_26 ?_
  obtain ⟨M11, m12, w⟩ := w.mlet
  refine mE_putI c93_27 qo93 qF12_424 qz12_59 (ok_lit rfl rfl rfl) (Nat.le_of_ble_eq_true rfl) rfl g10 (by rw [qy12_59]; rfl) ?_
  refine mE_M m12 ?_
  exact mE_vret c93_30 qr93 w.osome
theorem s93 {X : Nat × Nat × qC} {d : Nat} {x1 : Int} {x2 : Int} {M : Mm} {R : Mm → Prop} (hx1 : R4 x1) (hx2 : R4 x2) (w : Wp (f93 x1 x2 M) R) : mC X (d + 1) 93 0 [.ref 142, .int (Int32.ofInt x1), .int (Int32.ofInt x2)] M (fun v M2 => R M2) :=
  mC_of (qent_mk qx93 rfl rfl rfl) (t93 hx1 hx2 w)
/-! SaggingNetModel.cool -/
noncomputable def f95 (x1 : Int) (M : Mm) : Option (Int × Mm) :=
  (f143 x1 0 1000 M).bind fun v1 =>
  if v1 = 0 then
  (some (0, M))
  else
  (mlet (ms M 144 36069 x1) fun M5 =>
  some (1, M5))
theorem t95 {X : Nat × Nat × qC} {d : Nat} {x1 : Int} {M : Mm}  {R : Int × Mm → Prop} (hx1 : R4 x1) (w : Wp (f95 x1 M) R) : mE X (d + 1) 95 1 0 [some (.ref 142), some (.int (Int32.ofInt x1))] [] M (fun v M2 => R (v, M2)) := by
  refine mE_iload_n c95_0 rfl ?_
  refine mE_i2l c95_1 hx1 ?_
  refine mE_lconst (x := 0) c95_2 rfl ?_
  refine mE_ldc2_w (x := 1000) c95_3 qo95 qJ12_228 rfl ?_
  refine mE_static1 (as := [.long (Int64.ofInt x1), .long (Int64.ofInt 0), .long (Int64.ofInt 1000)]) (r := []) c95_6 qo95 (by decide) qK12_190 rfl rfl rfl (Nat.le_of_ble_eq_true rfl) (s143 (d := d + 0) (R4.to8 hx1) (r8_n rfl) (r8_n rfl) w.obind) ?_
  rintro v1 _ q3 ⟨rfl, w⟩
  by_cases e4 : v1 = 0
  · have w := w.pos e4
    refine mE_if_ne_F (t := 14) c95_9 rfl q3 e4 ?_
    refine mE_iconst c95_12 ?_
    exact mE_zret c95_13 qr95 (Or.inl rfl) w.osome
  · have w := w.neg e4
    refine mE_if_ne_T (t := 14) c95_9 rfl q3 e4 ?_
    refine mE_aload_n c95_14 rfl ?_
    refine mE_getA c95_15 qo95 qF12_14 (ok_lit rfl rfl rfl) rfl ⟨by decide, by decide⟩ ?_
    refine mE_ldc (x := 36069) c95_18 qo95 qI12_185 rfl ?_
    refine mE_iload_n c95_20 rfl ?_
    obtain ⟨M5, m6, w⟩ := w.mlet
    refine mE_iastore c95_21 (ok_lit rfl rfl rfl) (r4_n rfl) (by decide) hx1 ?_
    refine mE_M m6 ?_
    refine mE_iconst c95_22 ?_
    exact mE_zret c95_23 qr95 (Or.inr rfl) w.osome
theorem s95 {X : Nat × Nat × qC} {d : Nat} {x1 : Int} {M : Mm} {R : Int × Mm → Prop} (hx1 : R4 x1) (w : Wp (f95 x1 M) R) : mC X (d + 2) 95 1 [.ref 142, .int (Int32.ofInt x1)] M (fun v M2 => R (v, M2)) :=
  mC_of (qent_mk qx95 rfl rfl rfl) (t95 hx1 w)
/-! SaggingNetModel.isWire -/
noncomputable def f136 (x1 : Int) (M : Mm) : Option (Int) :=
  gd (R4 ((M 142 4) - 1)) (
  (f143 x1 0 ((M 142 4) - 1) M).bind fun v3 =>
  gd (v3 = 0 ∨ v3 = 1) (
  some v3))
theorem t136 {X : Nat × Nat × qC} {d : Nat} {x1 : Int} {M : Mm}  {R : Int → Prop} (hx1 : R4 x1) (w : Wp (f136 x1 M) R) : mE X (d + 1) 136 1 0 [some (.ref 142), some (.int (Int32.ofInt x1))] [] M (fun v M2 => M = M2 ∧ R v) := by
  refine mE_iload_n c136_0 rfl ?_
  refine mE_i2l c136_1 hx1 ?_
  refine mE_lconst (x := 0) c136_2 rfl ?_
  refine mE_aload_n c136_3 rfl ?_
  refine mE_getI c136_4 qo136 qF12_194 (ok_lit rfl rfl rfl) rfl ?_
  intro u1
  refine mE_iconst c136_7 ?_
  obtain ⟨g2, w⟩ := w.ogd
  refine mE_isub c136_8 ?_
  refine mE_i2l c136_9 g2 ?_
  refine mE_static1 (as := [.long (Int64.ofInt x1), .long (Int64.ofInt 0), .long (Int64.ofInt ((M 142 4) - 1))]) (r := []) c136_10 qo136 (by decide) qK12_190 rfl rfl rfl (Nat.le_of_ble_eq_true rfl) (s143 (d := d + 0) (R4.to8 hx1) (r8_n rfl) (R4.to8 g2) w.obind) ?_
  rintro v3 _ q5 ⟨rfl, w⟩
  obtain ⟨g6, w⟩ := w.ogd
  exact mE_zret c136_13 qr136 g6 ⟨rfl, w.osome⟩
theorem s136 {X : Nat × Nat × qC} {d : Nat} {x1 : Int} {M : Mm} {R : Int → Prop} (hx1 : R4 x1) (w : Wp (f136 x1 M) R) : mC X (d + 2) 136 1 [.ref 142, .int (Int32.ofInt x1)] M (fun v M2 => M = M2 ∧ R v) :=
  mC_of (qent_mk qx136 rfl rfl rfl) (t136 hx1 w)
/-! SaggingNetModel.cost -/
noncomputable def f97 (x1 : Int) (x2 : Int) (M : Mm) : Option (Int × Mm) :=
  (f136 x1 M).bind fun v1 =>
  if v1 = 0 then
  (some (0, M))
  else
  ((f143 x2 1 1000 M).bind fun v5 =>
  if v5 = 0 then
  (some (0, M))
  else
  (gd (0 ≤ x1 ∧ x1 < 14) (
  mlet (ms M 152 (x1).toNat x2) fun M10 =>
  some (1, M10))))
theorem t97 {X : Nat × Nat × qC} {d : Nat} {x1 : Int} {x2 : Int} {M : Mm}  {R : Int × Mm → Prop} (hx1 : R4 x1) (hx2 : R4 x2) (w : Wp (f97 x1 x2 M) R) : mE X (d + 2) 97 1 0 [some (.ref 142), some (.int (Int32.ofInt x1)), some (.int (Int32.ofInt x2))] [] M (fun v M2 => R (v, M2)) := by
  refine mE_aload_n c97_0 rfl ?_
  refine mE_iload_n c97_1 rfl ?_
  refine mE_virtual1 (b := 142) (as := [.int (Int32.ofInt x1)]) (r := []) c97_2 qo97 qK12_224 qo136 rfl rfl rfl (ok_lit rfl rfl rfl) (Nat.le_of_ble_eq_true rfl) (s136 (d := d + 0) hx1 w.obind) ?_
  rintro v1 _ q3 ⟨rfl, w⟩
  by_cases e4 : v1 = 0
  · have w := w.pos e4
    refine mE_if_eq_T (t := 20) c97_5 rfl q3 e4 ?_
    refine mE_iconst c97_20 ?_
    exact mE_zret c97_21 qr97 (Or.inl rfl) w.osome
  · have w := w.neg e4
    refine mE_if_eq_F (t := 20) c97_5 rfl q3 e4 ?_
    refine mE_iload_n c97_8 rfl ?_
    refine mE_i2l c97_9 hx2 ?_
    refine mE_lconst (x := 1) c97_10 rfl ?_
    refine mE_ldc2_w (x := 1000) c97_11 qo97 qJ12_228 rfl ?_
    refine mE_static1 (as := [.long (Int64.ofInt x2), .long (Int64.ofInt 1), .long (Int64.ofInt 1000)]) (r := []) c97_14 qo97 (by decide) qK12_190 rfl rfl rfl (Nat.le_of_ble_eq_true rfl) (s143 (d := d + 1) (R4.to8 hx2) (r8_n rfl) (r8_n rfl) w.obind) ?_
    rintro v5 _ q7 ⟨rfl, w⟩
    by_cases e8 : v5 = 0
    · have w := w.pos e8
      refine mE_if_ne_F (t := 22) c97_17 rfl q7 e8 ?_
      refine mE_iconst c97_20 ?_
      exact mE_zret c97_21 qr97 (Or.inl rfl) w.osome
    · have w := w.neg e8
      refine mE_if_ne_T (t := 22) c97_17 rfl q7 e8 ?_
      refine mE_aload_n c97_22 rfl ?_
      refine mE_getA c97_23 qo97 qF12_39 (ok_lit rfl rfl rfl) rfl ⟨by decide, by decide⟩ ?_
      refine mE_iload_n c97_26 rfl ?_
      refine mE_iload_n c97_27 rfl ?_
      obtain ⟨g9, w⟩ := w.ogd
      obtain ⟨M10, m11, w⟩ := w.mlet
      refine mE_iastore c97_28 (ok_lit rfl rfl rfl) hx1 g9 hx2 ?_
      refine mE_M m11 ?_
      refine mE_iconst c97_29 ?_
      exact mE_zret c97_30 qr97 (Or.inr rfl) w.osome
theorem s97 {X : Nat × Nat × qC} {d : Nat} {x1 : Int} {x2 : Int} {M : Mm} {R : Int × Mm → Prop} (hx1 : R4 x1) (hx2 : R4 x2) (w : Wp (f97 x1 x2 M) R) : mC X (d + 3) 97 1 [.ref 142, .int (Int32.ofInt x1), .int (Int32.ofInt x2)] M (fun v M2 => R (v, M2)) :=
  mC_of (qent_mk qx97 rfl rfl rfl) (t97 hx1 hx2 w)
/-! SaggingNetModel.shedLoads -/
def E163_5 (X : Nat × Nat × qC) (d : Nat) (x1 : Int) (M : Mm) (R : Int → Prop) : Int × Int → Prop := fun s => R8 s.1 → R4 s.2 → mE X (d + 0) 163 2 5 [some (.ref 142), some (.int (Int32.ofInt x1)), some (.long (Int64.ofInt s.1)), none, some (.int (Int32.ofInt s.2))] [] M (fun v M2 => M = M2 ∧ R v)
noncomputable def lb163_5 (x1 : Int) (l2 : Int) (x4 : Int) (M : Mm) : Option ((Int × Int) ⊕ (Int)) :=
  if x4 < (M 142 3) then
  (gd (R4 (x1 + 51)) (
  gd (R4 ((x1 + 51) + x4)) (
  gd (0 ≤ ((x1 + 51) + x4) ∧ ((x1 + 51) + x4) < 36400) (
  if (M 144 (((x1 + 51) + x4)).toNat) = 1 then
  (gd (R4 (x1 + 59)) (
  gd (R4 ((x1 + 59) + x4)) (
  gd (0 ≤ ((x1 + 59) + x4) ∧ ((x1 + 59) + x4) < 36400) (
  gd (R8 (l2 + (M 144 (((x1 + 59) + x4)).toNat))) (
  gd (R4 (x4 + 1)) (
  some (.inl ((l2 + (M 144 (((x1 + 59) + x4)).toNat)), (x4 + 1)))))))))
  else
  (gd (R8 (l2 + 0)) (
  gd (R4 (x4 + 1)) (
  some (.inl ((l2 + 0), (x4 + 1))))))))))
  else
  (oinr (some l2))
noncomputable def f163_5 (x1 : Int) (l2 : Int) (x4 : Int) (M : Mm) : Option (Int) := lp (fun s : Int × Int => lb163_5 x1 s.1 s.2 M) (l2, x4)
theorem tb163_5 {X : Nat × Nat × qC} {d : Nat} {x1 : Int} {l2 : Int} {x4 : Int} {M : Mm}  {R : Int → Prop} (hx1 : R4 x1) (hl2 : R8 l2) (hx4 : R4 x4) (w : Wp (lb163_5 x1 l2 x4 M) (Sum.elim (E163_5 X d x1 M R) R)) : mE X (d + 0) 163 2 5 [some (.ref 142), some (.int (Int32.ofInt x1)), some (.long (Int64.ofInt l2)), none, some (.int (Int32.ofInt x4))] [] M (fun v M2 => M = M2 ∧ R v) := by
  refine mE_iload c163_5 rfl ?_
  refine mE_aload_n c163_7 rfl ?_
  refine mE_getI c163_8 qo163 qF12_186 (ok_lit rfl rfl rfl) rfl ?_
  intro u1
  by_cases e2 : x4 < (M 142 3)
  · have w := w.pos e2
    refine mE_icmp_ge_F (t := 56) c163_11 rfl hx4 u1 e2 ?_
    refine mE_lload_n c163_14 rfl ?_
    refine mE_aload_n c163_15 rfl ?_
    refine mE_getA c163_16 qo163 qF12_14 (ok_lit rfl rfl rfl) rfl ⟨by decide, by decide⟩ ?_
    refine mE_iload_n c163_19 rfl ?_
    refine mE_bipush (x := 51) c163_20 rfl ?_
    obtain ⟨g3, w⟩ := w.ogd
    refine mE_iadd c163_22 ?_
    refine mE_iload c163_23 rfl ?_
    obtain ⟨g4, w⟩ := w.ogd
    refine mE_iadd c163_25 ?_
    obtain ⟨g5, w⟩ := w.ogd
    refine mE_iaload c163_26 (ok_lit rfl rfl rfl) g4 g5 ?_
    intro u6
    refine mE_iconst c163_27 ?_
    by_cases e7 : (M 144 (((x1 + 51) + x4)).toNat) = 1
    · have w := w.pos e7
      refine mE_icmp_ne_F (t := 47) c163_28 rfl u6 (r4_n rfl) e7 ?_
      refine mE_aload_n c163_31 rfl ?_
      refine mE_getA c163_32 qo163 qF12_14 (ok_lit rfl rfl rfl) rfl ⟨by decide, by decide⟩ ?_
      refine mE_iload_n c163_35 rfl ?_
      refine mE_bipush (x := 59) c163_36 rfl ?_
      obtain ⟨g8, w⟩ := w.ogd
      refine mE_iadd c163_38 ?_
      refine mE_iload c163_39 rfl ?_
      obtain ⟨g9, w⟩ := w.ogd
      refine mE_iadd c163_41 ?_
      obtain ⟨g10, w⟩ := w.ogd
      refine mE_iaload c163_42 (ok_lit rfl rfl rfl) g9 g10 ?_
      intro u11
      refine mE_i2l c163_43 u11 ?_
      refine mE_goto (t := 48) c163_44 rfl ?_
      obtain ⟨g12, w⟩ := w.ogd
      refine mE_ladd c163_48 ?_
      refine mE_lstore_n (ls2 := [some (.ref 142), some (.int (Int32.ofInt x1)), some (.long (Int64.ofInt (l2 + (M 144 (((x1 + 59) + x4)).toNat)))), none, some (.int (Int32.ofInt x4))]) c163_49 (Nat.le_of_ble_eq_true rfl) rfl ?_
      obtain ⟨g13, w⟩ := w.ogd
      refine mE_iinc (ls2 := [some (.ref 142), some (.int (Int32.ofInt x1)), some (.long (Int64.ofInt (l2 + (M 144 (((x1 + 59) + x4)).toNat)))), none, some (.int (Int32.ofInt (x4 + 1)))]) c163_50 rfl (Nat.le_of_ble_eq_true rfl) rfl ?_
      refine mE_goto (t := 5) c163_53 rfl ?_
      exact w.osome g12 g13
    · have w := w.neg e7
      refine mE_icmp_ne_T (t := 47) c163_28 rfl u6 (r4_n rfl) e7 ?_
      refine mE_lconst (x := 0) c163_47 rfl ?_
      obtain ⟨g8, w⟩ := w.ogd
      refine mE_ladd c163_48 ?_
      refine mE_lstore_n (ls2 := [some (.ref 142), some (.int (Int32.ofInt x1)), some (.long (Int64.ofInt (l2 + 0))), none, some (.int (Int32.ofInt x4))]) c163_49 (Nat.le_of_ble_eq_true rfl) rfl ?_
      obtain ⟨g9, w⟩ := w.ogd
      refine mE_iinc (ls2 := [some (.ref 142), some (.int (Int32.ofInt x1)), some (.long (Int64.ofInt (l2 + 0))), none, some (.int (Int32.ofInt (x4 + 1)))]) c163_50 rfl (Nat.le_of_ble_eq_true rfl) rfl ?_
      refine mE_goto (t := 5) c163_53 rfl ?_
      exact w.osome g8 g9
  · have w := w.neg e2
    refine mE_icmp_ge_T (t := 56) c163_11 rfl hx4 u1 e2 ?_
    have w := w.oinr
    refine mE_lload_n c163_56 rfl ?_
    exact mE_lret c163_57 qr163 hl2 ⟨rfl, w.osome⟩
theorem t163_5 {X : Nat × Nat × qC} {d : Nat} {x1 : Int} {l2 : Int} {x4 : Int} {M : Mm}  {R : Int → Prop} (hx1 : R4 x1) (hl2 : R8 l2) (hx4 : R4 x4) (w : Wp (f163_5 x1 l2 x4 M) R) : mE X (d + 0) 163 2 5 [some (.ref 142), some (.int (Int32.ofInt x1)), some (.long (Int64.ofInt l2)), none, some (.int (Int32.ofInt x4))] [] M (fun v M2 => M = M2 ∧ R v) :=
  Wp.olp (f := fun s : Int × Int => lb163_5 x1 s.1 s.2 M) (s := (l2, x4)) (E := E163_5 X d x1 M R) w (fun s w hl2 hx4 => tb163_5 hx1 hl2 hx4 w) hl2 hx4
noncomputable def f163 (x1 : Int) (M : Mm) : Option (Int) :=
  f163_5 x1 0 0 M
theorem t163 {X : Nat × Nat × qC} {d : Nat} {x1 : Int} {M : Mm}  {R : Int → Prop} (hx1 : R4 x1) (w : Wp (f163 x1 M) R) : mE X (d + 0) 163 2 0 [some (.ref 142), some (.int (Int32.ofInt x1)), none, none, none] [] M (fun v M2 => M = M2 ∧ R v) := by
  refine mE_lconst (x := 0) c163_0 rfl ?_
  refine mE_lstore_n (ls2 := [some (.ref 142), some (.int (Int32.ofInt x1)), some (.long (Int64.ofInt 0)), none, none]) c163_1 (Nat.le_of_ble_eq_true rfl) rfl ?_
  refine mE_iconst c163_2 ?_
  refine mE_istore (ls2 := [some (.ref 142), some (.int (Int32.ofInt x1)), some (.long (Int64.ofInt 0)), none, some (.int (Int32.ofInt 0))]) c163_3 (Nat.le_of_ble_eq_true rfl) rfl ?_
  exact t163_5 hx1 (r8_n rfl) (r4_n rfl) w
theorem s163 {X : Nat × Nat × qC} {d : Nat} {x1 : Int} {M : Mm} {R : Int → Prop} (hx1 : R4 x1) (w : Wp (f163 x1 M) R) : mC X (d + 1) 163 2 [.ref 142, .int (Int32.ofInt x1)] M (fun v M2 => M = M2 ∧ R v) :=
  mC_of (qent_mk qx163 rfl rfl rfl) (t163 hx1 w)
/-! SaggingNetModel.count -/
noncomputable def f98 (x1 : Int) (M : Mm) : Option (Int) :=
  gd (R4 (19 + (M 142 4))) (
  (f143 x1 20 (19 + (M 142 4)) M).bind fun v3 =>
  if v3 = 0 then
  (if x1 = 0 then
  (some (M 142 2))
  else
  (if x1 = 1 then
  (some (M 142 3))
  else
  (if x1 = 2 then
  (some (M 142 4))
  else
  (if x1 = 3 then
  (some (M 142 5))
  else
  (if x1 = 4 then
  (some (M 142 7))
  else
  (if x1 = 5 then
  (some (M 142 6))
  else
  (if x1 = 6 then
  (some (M 142 8))
  else
  (if x1 = 7 then
  (some (M 142 9))
  else
  (if x1 = 8 then
  (some (M 142 1))
  else
  (if x1 = 9 then
  (some (M 144 36069))
  else
  (if x1 = 10 then
  ((f163 36000 M).bind fun v18 =>
  gd (R4 v18) (
  some v18))
  else
  (some (-1)))))))))))))
  else
  (gd (R4 (x1 - 20)) (
  gd (0 ≤ (x1 - 20) ∧ (x1 - 20) < 14) (
  some (M 152 ((x1 - 20)).toNat)))))
theorem t98 {X : Nat × Nat × qC} {d : Nat} {x1 : Int} {M : Mm}  {R : Int → Prop} (hx1 : R4 x1) (w : Wp (f98 x1 M) R) : mE X (d + 1) 98 1 0 [some (.ref 142), some (.int (Int32.ofInt x1))] [] M (fun v M2 => M = M2 ∧ R v) := by
  refine mE_iload_n c98_0 rfl ?_
  refine mE_i2l c98_1 hx1 ?_
  refine mE_ldc2_w (x := 20) c98_2 qo98 qJ12_544 rfl ?_
  refine mE_bipush (x := 19) c98_5 rfl ?_
  refine mE_aload_n c98_7 rfl ?_
  refine mE_getI c98_8 qo98 qF12_194 (ok_lit rfl rfl rfl) rfl ?_
  intro u1
  obtain ⟨g2, w⟩ := w.ogd
  refine mE_iadd c98_11 ?_
  refine mE_i2l c98_12 g2 ?_
  refine mE_static1 (as := [.long (Int64.ofInt x1), .long (Int64.ofInt 20), .long (Int64.ofInt (19 + (M 142 4)))]) (r := []) c98_13 qo98 (by decide) qK12_190 rfl rfl rfl (Nat.le_of_ble_eq_true rfl) (s143 (d := d + 0) (R4.to8 hx1) (r8_n rfl) (R4.to8 g2) w.obind) ?_
  rintro v3 _ q5 ⟨rfl, w⟩
  by_cases e6 : v3 = 0
  · have w := w.pos e6
    refine mE_if_eq_T (t := 29) c98_16 rfl q5 e6 ?_
    refine mE_iload_n c98_29 rfl ?_
    by_cases e7 : x1 = 0
    · have w := w.pos e7
      refine mE_table (off := 58) (t := 88) c98_30 hx1 e7 (by decide) rfl rfl ?_
      refine mE_aload_n c98_88 rfl ?_
      refine mE_getI c98_89 qo98 qF12_202 (ok_lit rfl rfl rfl) rfl ?_
      intro u8
      exact mE_iret c98_92 qr98 u8 ⟨rfl, w.osome⟩
    have w := w.neg e7
    by_cases e8 : x1 = 1
    · have w := w.pos e8
      refine mE_table (off := 63) (t := 93) c98_30 hx1 e8 (by decide) rfl rfl ?_
      refine mE_aload_n c98_93 rfl ?_
      refine mE_getI c98_94 qo98 qF12_186 (ok_lit rfl rfl rfl) rfl ?_
      intro u9
      exact mE_iret c98_97 qr98 u9 ⟨rfl, w.osome⟩
    have w := w.neg e8
    by_cases e9 : x1 = 2
    · have w := w.pos e9
      refine mE_table (off := 68) (t := 98) c98_30 hx1 e9 (by decide) rfl rfl ?_
      refine mE_aload_n c98_98 rfl ?_
      refine mE_getI c98_99 qo98 qF12_194 (ok_lit rfl rfl rfl) rfl ?_
      intro u10
      exact mE_iret c98_102 qr98 u10 ⟨rfl, w.osome⟩
    have w := w.neg e9
    by_cases e10 : x1 = 3
    · have w := w.pos e10
      refine mE_table (off := 73) (t := 103) c98_30 hx1 e10 (by decide) rfl rfl ?_
      refine mE_aload_n c98_103 rfl ?_
      refine mE_getI c98_104 qo98 qF12_197 (ok_lit rfl rfl rfl) rfl ?_
      intro u11
      exact mE_iret c98_107 qr98 u11 ⟨rfl, w.osome⟩
    have w := w.neg e10
    by_cases e11 : x1 = 4
    · have w := w.pos e11
      refine mE_table (off := 78) (t := 108) c98_30 hx1 e11 (by decide) rfl rfl ?_
      refine mE_aload_n c98_108 rfl ?_
      refine mE_getI c98_109 qo98 qF12_461 (ok_lit rfl rfl rfl) rfl ?_
      intro u12
      exact mE_iret c98_112 qr98 u12 ⟨rfl, w.osome⟩
    have w := w.neg e11
    by_cases e12 : x1 = 5
    · have w := w.pos e12
      refine mE_table (off := 83) (t := 113) c98_30 hx1 e12 (by decide) rfl rfl ?_
      refine mE_aload_n c98_113 rfl ?_
      refine mE_getI c98_114 qo98 qF12_393 (ok_lit rfl rfl rfl) rfl ?_
      intro u13
      exact mE_iret c98_117 qr98 u13 ⟨rfl, w.osome⟩
    have w := w.neg e12
    by_cases e13 : x1 = 6
    · have w := w.pos e13
      refine mE_table (off := 88) (t := 118) c98_30 hx1 e13 (by decide) rfl rfl ?_
      refine mE_aload_n c98_118 rfl ?_
      refine mE_getI c98_119 qo98 qF12_505 (ok_lit rfl rfl rfl) rfl ?_
      intro u14
      exact mE_iret c98_122 qr98 u14 ⟨rfl, w.osome⟩
    have w := w.neg e13
    by_cases e14 : x1 = 7
    · have w := w.pos e14
      refine mE_table (off := 93) (t := 123) c98_30 hx1 e14 (by decide) rfl rfl ?_
      refine mE_aload_n c98_123 rfl ?_
      refine mE_getI c98_124 qo98 qF12_510 (ok_lit rfl rfl rfl) rfl ?_
      intro u15
      exact mE_iret c98_127 qr98 u15 ⟨rfl, w.osome⟩
    have w := w.neg e14
    by_cases e15 : x1 = 8
    · have w := w.pos e15
      refine mE_table (off := 98) (t := 128) c98_30 hx1 e15 (by decide) rfl rfl ?_
      refine mE_aload_n c98_128 rfl ?_
      refine mE_getI c98_129 qo98 qF12_283 (ok_lit rfl rfl rfl) rfl ?_
      intro u16
      exact mE_iret c98_132 qr98 u16 ⟨rfl, w.osome⟩
    have w := w.neg e15
    by_cases e16 : x1 = 9
    · have w := w.pos e16
      refine mE_table (off := 103) (t := 133) c98_30 hx1 e16 (by decide) rfl rfl ?_
      refine mE_aload_n c98_133 rfl ?_
      refine mE_getA c98_134 qo98 qF12_14 (ok_lit rfl rfl rfl) rfl ⟨by decide, by decide⟩ ?_
      refine mE_ldc (x := 36069) c98_137 qo98 qI12_185 rfl ?_
      refine mE_iaload c98_139 (ok_lit rfl rfl rfl) (r4_n rfl) (by decide) ?_
      intro u17
      exact mE_iret c98_140 qr98 u17 ⟨rfl, w.osome⟩
    have w := w.neg e16
    by_cases e17 : x1 = 10
    · have w := w.pos e17
      refine mE_table (off := 111) (t := 141) c98_30 hx1 e17 (by decide) rfl rfl ?_
      refine mE_aload_n c98_141 rfl ?_
      refine mE_ldc (x := 36000) c98_142 qo98 qI12_230 rfl ?_
      refine mE_virtual2 (b := 142) (as := [.int (Int32.ofInt 36000)]) (r := []) c98_144 qo98 qK12_405 qo163 rfl rfl rfl (ok_lit rfl rfl rfl) (Nat.le_of_ble_eq_true rfl) (s163 (d := d + 0) (r4_n rfl) w.obind) ?_
      rintro v18 _ q20 ⟨rfl, w⟩
      obtain ⟨g21, w⟩ := w.ogd
      refine mE_l2i c98_147 g21 ?_
      exact mE_iret c98_148 qr98 g21 ⟨rfl, w.osome⟩
    have w := w.neg e17
    refine mE_tableD (t := 149) c98_30 hx1 (by omega) rfl ?_
    refine mE_iconst c98_149 ?_
    exact mE_iret c98_150 qr98 (r4_n rfl) ⟨rfl, w.osome⟩
  · have w := w.neg e6
    refine mE_if_eq_F (t := 29) c98_16 rfl q5 e6 ?_
    refine mE_aload_n c98_19 rfl ?_
    refine mE_getA c98_20 qo98 qF12_39 (ok_lit rfl rfl rfl) rfl ⟨by decide, by decide⟩ ?_
    refine mE_iload_n c98_23 rfl ?_
    refine mE_bipush (x := 20) c98_24 rfl ?_
    obtain ⟨g7, w⟩ := w.ogd
    refine mE_isub c98_26 ?_
    obtain ⟨g8, w⟩ := w.ogd
    refine mE_iaload c98_27 (ok_lit rfl rfl rfl) g7 g8 ?_
    intro u9
    exact mE_iret c98_28 qr98 u9 ⟨rfl, w.osome⟩
theorem s98 {X : Nat × Nat × qC} {d : Nat} {x1 : Int} {M : Mm} {R : Int → Prop} (hx1 : R4 x1) (w : Wp (f98 x1 M) R) : mC X (d + 2) 98 1 [.ref 142, .int (Int32.ofInt x1)] M (fun v M2 => M = M2 ∧ R v) :=
  mC_of (qent_mk qx98 rfl rfl rfl) (t98 hx1 w)
/-! SaggingNetModel.isLong -/
noncomputable def f127 (x0 : Int) (M : Mm) : Option (Int) :=
  (f143 x0 1 30 M).bind fun v1 =>
  gd (v1 = 0 ∨ v1 = 1) (
  some v1)
theorem t127 {X : Nat × Nat × qC} {d : Nat} {x0 : Int} {M : Mm}  {R : Int → Prop} (hx0 : R4 x0) (w : Wp (f127 x0 M) R) : mE X (d + 1) 127 1 0 [some (.int (Int32.ofInt x0))] [] M (fun v M2 => M = M2 ∧ R v) := by
  refine mE_iload_n c127_0 rfl ?_
  refine mE_i2l c127_1 hx0 ?_
  refine mE_lconst (x := 1) c127_2 rfl ?_
  refine mE_ldc2_w (x := 30) c127_3 qo127 qJ12_488 rfl ?_
  refine mE_static1 (as := [.long (Int64.ofInt x0), .long (Int64.ofInt 1), .long (Int64.ofInt 30)]) (r := []) c127_6 qo127 (by decide) qK12_190 rfl rfl rfl (Nat.le_of_ble_eq_true rfl) (s143 (d := d + 0) (R4.to8 hx0) (r8_n rfl) (r8_n rfl) w.obind) ?_
  rintro v1 _ q3 ⟨rfl, w⟩
  obtain ⟨g4, w⟩ := w.ogd
  exact mE_zret c127_9 qr127 g4 ⟨rfl, w.osome⟩
theorem s127 {X : Nat × Nat × qC} {d : Nat} {x0 : Int} {M : Mm} {R : Int → Prop} (hx0 : R4 x0) (w : Wp (f127 x0 M) R) : mC X (d + 2) 127 1 [.int (Int32.ofInt x0)] M (fun v M2 => M = M2 ∧ R v) :=
  mC_of (qent_mk qx127 rfl rfl rfl) (t127 hx0 w)
/-! SaggingNetModel.playsFrom -/
def E153_41 (X : Nat × Nat × qC) (d : Nat) (x2 : Int) (R : Mm → Prop) : Int × Mm → Prop := fun s => R4 s.1 → ∀ (y1 : Int32), mE X (d + 1) 153 0 41 [some (.ref 142), some (.int y1), some (.int (Int32.ofInt x2)), some (.int (Int32.ofInt s.1))] [] s.2 (fun v M2 => R M2)
noncomputable def lb153_41 (x2 : Int) (x3 : Int) (M : Mm) : Option ((Int × Mm) ⊕ (Mm)) :=
  if x3 < (M 142 3) then
  (gd (R4 (36339 + x3)) (
  (f118 x2 x3 M).bind fun v4 =>
  if v4 = 0 then
  (gd (0 ≤ (36339 + x3) ∧ (36339 + x3) < 36400) (
  mlet (ms M 144 ((36339 + x3)).toNat (M 144 ((36339 + x3)).toNat)) fun M10 =>
  gd (R4 (x3 + 1)) (
  some (.inl ((x3 + 1), M10)))))
  else
  (gd (0 ≤ (36339 + x3) ∧ (36339 + x3) < 36400) (
  mlet (ms M 144 ((36339 + x3)).toNat 1) fun M9 =>
  gd (R4 (x3 + 1)) (
  some (.inl ((x3 + 1), M9)))))))
  else
  (oinr (some M))
noncomputable def f153_41 (x2 : Int) (x3 : Int) (M : Mm) : Option (Mm) := lp (fun s : Int × Mm => lb153_41 x2 s.1 s.2) (x3, M)
theorem tb153_41 {X : Nat × Nat × qC} {d : Nat} {x2 : Int} {x3 : Int} {M : Mm} {y1 : Int32} {R : Mm → Prop} (hx2 : R4 x2) (hx3 : R4 x3) (w : Wp (lb153_41 x2 x3 M) (Sum.elim (E153_41 X d x2 R) R)) : mE X (d + 1) 153 0 41 [some (.ref 142), some (.int y1), some (.int (Int32.ofInt x2)), some (.int (Int32.ofInt x3))] [] M (fun v M2 => R M2) := by
  refine mE_iload_n c153_41 rfl ?_
  refine mE_aload_n c153_42 rfl ?_
  refine mE_getI c153_43 qo153 qF12_186 (ok_lit rfl rfl rfl) rfl ?_
  intro u1
  by_cases e2 : x3 < (M 142 3)
  · have w := w.pos e2
    refine mE_icmp_ge_F (t := 87) c153_46 rfl hx3 u1 e2 ?_
    refine mE_aload_n c153_49 rfl ?_
    refine mE_getA c153_50 qo153 qF12_14 (ok_lit rfl rfl rfl) rfl ⟨by decide, by decide⟩ ?_
    refine mE_ldc_w (x := 36339) c153_53 qo153 qI12_484 rfl ?_
    refine mE_iload_n c153_56 rfl ?_
    obtain ⟨g3, w⟩ := w.ogd
    refine mE_iadd c153_57 ?_
    refine mE_iload_n c153_58 rfl ?_
    refine mE_iload_n c153_59 rfl ?_
    refine mE_static1 (as := [.int (Int32.ofInt x2), .int (Int32.ofInt x3)]) (r := [.int (Int32.ofInt (36339 + x3)), .ref 144]) c153_60 qo153 (by decide) qK12_248 rfl rfl rfl (Nat.le_of_ble_eq_true rfl) (s118 (d := d + 0) hx2 hx3 w.obind) ?_
    rintro v4 _ q6 ⟨rfl, w⟩
    by_cases e7 : v4 = 0
    · have w := w.pos e7
      refine mE_if_eq_T (t := 70) c153_63 rfl q6 e7 ?_
      refine mE_aload_n c153_70 rfl ?_
      refine mE_getA c153_71 qo153 qF12_14 (ok_lit rfl rfl rfl) rfl ⟨by decide, by decide⟩ ?_
      refine mE_ldc_w (x := 36339) c153_74 qo153 qI12_484 rfl ?_
      refine mE_iload_n c153_77 rfl ?_
      refine mE_iadd c153_78 ?_
      obtain ⟨g8, w⟩ := w.ogd
      refine mE_iaload c153_79 (ok_lit rfl rfl rfl) g3 g8 ?_
      intro u9
      obtain ⟨M10, m11, w⟩ := w.mlet
      refine mE_iastore c153_80 (ok_lit rfl rfl rfl) g3 g8 u9 ?_
      refine mE_M m11 ?_
      obtain ⟨g12, w⟩ := w.ogd
      refine mE_iinc (ls2 := [some (.ref 142), some (.int y1), some (.int (Int32.ofInt x2)), some (.int (Int32.ofInt (x3 + 1)))]) c153_81 rfl (Nat.le_of_ble_eq_true rfl) rfl ?_
      refine mE_goto (t := 41) c153_84 rfl ?_
      exact w.osome g12 _
    · have w := w.neg e7
      refine mE_if_eq_F (t := 70) c153_63 rfl q6 e7 ?_
      refine mE_iconst c153_66 ?_
      refine mE_goto (t := 80) c153_67 rfl ?_
      obtain ⟨g8, w⟩ := w.ogd
      obtain ⟨M9, m10, w⟩ := w.mlet
      refine mE_iastore c153_80 (ok_lit rfl rfl rfl) g3 g8 (r4_n rfl) ?_
      refine mE_M m10 ?_
      obtain ⟨g11, w⟩ := w.ogd
      refine mE_iinc (ls2 := [some (.ref 142), some (.int y1), some (.int (Int32.ofInt x2)), some (.int (Int32.ofInt (x3 + 1)))]) c153_81 rfl (Nat.le_of_ble_eq_true rfl) rfl ?_
      refine mE_goto (t := 41) c153_84 rfl ?_
      exact w.osome g11 _
  · have w := w.neg e2
    refine mE_icmp_ge_T (t := 87) c153_46 rfl hx3 u1 e2 ?_
    have w := w.oinr
    exact mE_vret c153_87 qr153 w.osome
theorem t153_41 {X : Nat × Nat × qC} {d : Nat} {x2 : Int} {x3 : Int} {M : Mm} {y1 : Int32} {R : Mm → Prop} (hx2 : R4 x2) (hx3 : R4 x3) (w : Wp (f153_41 x2 x3 M) R) : mE X (d + 1) 153 0 41 [some (.ref 142), some (.int y1), some (.int (Int32.ofInt x2)), some (.int (Int32.ofInt x3))] [] M (fun v M2 => R M2) :=
  Wp.olp (f := fun s : Int × Mm => lb153_41 x2 s.1 s.2) (s := (x3, M)) (E := E153_41 X d x2 R) w (fun s w hx3 _ => tb153_41 hx2 hx3 w) hx3 _
noncomputable def f153 (x1 : Int) (x2 : Int) (M : Mm) : Option (Mm) :=
  if x1 = (M 142 2) then
  ((f96 36000 36288 M).bind fun M4 =>
  mlet (ms M4 144 36357 (M4 144 36069)) fun M7 =>
  f153_41 x2 0 M7)
  else
  (gd (R4 (72 * x1)) (
  (f96 (72 * x1) 36288 M).bind fun M5 =>
  mlet (ms M5 144 36357 (M5 144 36069)) fun M8 =>
  f153_41 x2 0 M8))
theorem t153 {X : Nat × Nat × qC} {d : Nat} {x1 : Int} {x2 : Int} {M : Mm}  {R : Mm → Prop} (hx1 : R4 x1) (hx2 : R4 x2) (w : Wp (f153 x1 x2 M) R) : mE X (d + 1) 153 0 0 [some (.ref 142), some (.int (Int32.ofInt x1)), some (.int (Int32.ofInt x2)), none] [] M (fun v M2 => R M2) := by
  refine mE_aload_n c153_0 rfl ?_
  refine mE_iload_n c153_1 rfl ?_
  refine mE_aload_n c153_2 rfl ?_
  refine mE_getI c153_3 qo153 qF12_202 (ok_lit rfl rfl rfl) rfl ?_
  intro u1
  by_cases e2 : x1 = (M 142 2)
  · have w := w.pos e2
    refine mE_icmp_ne_F (t := 14) c153_6 rfl hx1 u1 e2 ?_
    refine mE_ldc (x := 36000) c153_9 qo153 qI12_230 rfl ?_
    refine mE_goto (t := 18) c153_11 rfl ?_
    refine mE_ldc_w (x := 36288) c153_18 qo153 qI12_471 rfl ?_
    refine mE_virtual0 (b := 142) (as := [.int (Int32.ofInt 36000), .int (Int32.ofInt 36288)]) (r := []) c153_21 qo153 qK12_444 qo96 rfl rfl rfl (ok_lit rfl rfl rfl) (Nat.le_of_ble_eq_true rfl) (s96 (d := d + 0) (r4_n rfl) (r4_n rfl) w.obind) ?_
    intro _ M4 w
    refine mE_aload_n c153_24 rfl ?_
    refine mE_getA c153_25 qo153 qF12_14 (ok_lit rfl rfl rfl) rfl ⟨by decide, by decide⟩ ?_
    refine mE_ldc_w (x := 36357) c153_28 qo153 qI12_472 rfl ?_
    refine mE_aload_n c153_31 rfl ?_
    refine mE_getA c153_32 qo153 qF12_14 (ok_lit rfl rfl rfl) rfl ⟨by decide, by decide⟩ ?_
    refine mE_ldc (x := 36069) c153_35 qo153 qI12_185 rfl ?_
    refine mE_iaload c153_37 (ok_lit rfl rfl rfl) (r4_n rfl) (by decide) ?_
    intro u6
    obtain ⟨M7, m8, w⟩ := w.mlet
    refine mE_iastore c153_38 (ok_lit rfl rfl rfl) (r4_n rfl) (by decide) u6 ?_
    refine mE_M m8 ?_
    refine mE_iconst c153_39 ?_
    refine mE_istore_n (ls2 := [some (.ref 142), some (.int (Int32.ofInt x1)), some (.int (Int32.ofInt x2)), some (.int (Int32.ofInt 0))]) c153_40 (Nat.le_of_ble_eq_true rfl) rfl ?_
    exact t153_41 hx2 (r4_n rfl) w
  · have w := w.neg e2
    refine mE_icmp_ne_T (t := 14) c153_6 rfl hx1 u1 e2 ?_
    refine mE_bipush (x := 72) c153_14 rfl ?_
    refine mE_iload_n c153_16 rfl ?_
    obtain ⟨g3, w⟩ := w.ogd
    refine mE_imul c153_17 ?_
    refine mE_ldc_w (x := 36288) c153_18 qo153 qI12_471 rfl ?_
    refine mE_virtual0 (b := 142) (as := [.int (Int32.ofInt (72 * x1)), .int (Int32.ofInt 36288)]) (r := []) c153_21 qo153 qK12_444 qo96 rfl rfl rfl (ok_lit rfl rfl rfl) (Nat.le_of_ble_eq_true rfl) (s96 (d := d + 0) g3 (r4_n rfl) w.obind) ?_
    intro _ M5 w
    refine mE_aload_n c153_24 rfl ?_
    refine mE_getA c153_25 qo153 qF12_14 (ok_lit rfl rfl rfl) rfl ⟨by decide, by decide⟩ ?_
    refine mE_ldc_w (x := 36357) c153_28 qo153 qI12_472 rfl ?_
    refine mE_aload_n c153_31 rfl ?_
    refine mE_getA c153_32 qo153 qF12_14 (ok_lit rfl rfl rfl) rfl ⟨by decide, by decide⟩ ?_
    refine mE_ldc (x := 36069) c153_35 qo153 qI12_185 rfl ?_
    refine mE_iaload c153_37 (ok_lit rfl rfl rfl) (r4_n rfl) (by decide) ?_
    intro u7
    obtain ⟨M8, m9, w⟩ := w.mlet
    refine mE_iastore c153_38 (ok_lit rfl rfl rfl) (r4_n rfl) (by decide) u7 ?_
    refine mE_M m9 ?_
    refine mE_iconst c153_39 ?_
    refine mE_istore_n (ls2 := [some (.ref 142), some (.int (Int32.ofInt x1)), some (.int (Int32.ofInt x2)), some (.int (Int32.ofInt 0))]) c153_40 (Nat.le_of_ble_eq_true rfl) rfl ?_
    exact t153_41 hx2 (r4_n rfl) w
theorem s153 {X : Nat × Nat × qC} {d : Nat} {x1 : Int} {x2 : Int} {M : Mm} {R : Mm → Prop} (hx1 : R4 x1) (hx2 : R4 x2) (w : Wp (f153 x1 x2 M) R) : mC X (d + 2) 153 0 [.ref 142, .int (Int32.ofInt x1), .int (Int32.ofInt x2)] M (fun v M2 => R M2) :=
  mC_of (qent_mk qx153 rfl rfl rfl) (t153 hx1 hx2 w)
/-! SaggingNetModel.warms -/
def E184_2 (X : Nat × Nat × qC) (d : Nat) (x1 : Int) (R : Mm → Prop) : Int × Mm → Prop := fun s => R4 s.1 → ∀ (o3 : Option Value), ∀ (o5 : Option Value), mE X (d + 1) 184 0 2 [some (.ref 142), some (.int (Int32.ofInt x1)), some (.int (Int32.ofInt s.1)), o3, none, o5, none] [] s.2 (fun v M2 => R M2)
noncomputable def lb184_2 (x1 : Int) (x2 : Int) (M : Mm) : Option ((Int × Mm) ⊕ (Mm)) :=
  if x2 < (M 142 4) then
  (gd (R4 (x1 + x2)) (
  gd (0 ≤ (x1 + x2) ∧ (x1 + x2) < 36400) (
  if (M 144 ((x1 + x2)).toNat) = 0 then
  (gd (0 ≤ x2 ∧ x2 < 14) (
  (f170 (M 161 (x2).toNat) M).bind fun v9 =>
  gd (R8 (100 * v9)) (
  gd (R8 ((M 162 (x2).toNat) * (M 150 (x2).toNat))) (
  gd (¬ ((M 162 (x2).toNat) * (M 150 (x2).toNat)) = 0) (
  gd (R8 (Int.tdiv (100 * v9) ((M 162 (x2).toNat) * (M 150 (x2).toNat)))) (
  gd (R4 (x1 + 14)) (
  gd (R4 ((x1 + 14) + x2)) (
  gd (0 ≤ ((x1 + 14) + x2) ∧ ((x1 + 14) + x2) < 36400) (
  gd (R8 ((M 144 (((x1 + 14) + x2)).toNat) + (Int.tdiv (100 * v9) ((M 162 (x2).toNat) * (M 150 (x2).toNat))))) (
  gd (R4 (x1 + 69)) (
  gd (0 ≤ (x1 + 69) ∧ (x1 + 69) < 36400) (
  gd (R8 (((M 144 (((x1 + 14) + x2)).toNat) + (Int.tdiv (100 * v9) ((M 162 (x2).toNat) * (M 150 (x2).toNat)))) - (M 144 ((x1 + 69)).toNat))) (
  if (((M 144 (((x1 + 14) + x2)).toNat) + (Int.tdiv (100 * v9) ((M 162 (x2).toNat) * (M 150 (x2).toNat)))) - (M 144 ((x1 + 69)).toNat)) < 0 then
  (gd (R4 0) (
  mlet (ms M 144 (((x1 + 14) + x2)).toNat 0) fun M29 =>
  gd (R4 (x2 + 1)) (
  some (.inl ((x2 + 1), M29)))))
  else
  (if 1000000 < (((M 144 (((x1 + 14) + x2)).toNat) + (Int.tdiv (100 * v9) ((M 162 (x2).toNat) * (M 150 (x2).toNat)))) - (M 144 ((x1 + 69)).toNat)) then
  (gd (R4 1000000) (
  mlet (ms M 144 (((x1 + 14) + x2)).toNat 1000000) fun M30 =>
  gd (R4 (x2 + 1)) (
  some (.inl ((x2 + 1), M30)))))
  else
  (gd (R4 (((M 144 (((x1 + 14) + x2)).toNat) + (Int.tdiv (100 * v9) ((M 162 (x2).toNat) * (M 150 (x2).toNat)))) - (M 144 ((x1 + 69)).toNat))) (
  mlet (ms M 144 (((x1 + 14) + x2)).toNat (((M 144 (((x1 + 14) + x2)).toNat) + (Int.tdiv (100 * v9) ((M 162 (x2).toNat) * (M 150 (x2).toNat)))) - (M 144 ((x1 + 69)).toNat))) fun M30 =>
  gd (R4 (x2 + 1)) (
  some (.inl ((x2 + 1), M30)))))))))))))))))))
  else
  (gd (R4 (x1 + 14)) (
  gd (R4 ((x1 + 14) + x2)) (
  gd (0 ≤ ((x1 + 14) + x2) ∧ ((x1 + 14) + x2) < 36400) (
  gd (R8 ((M 144 (((x1 + 14) + x2)).toNat) + 0)) (
  gd (R4 (x1 + 69)) (
  gd (0 ≤ (x1 + 69) ∧ (x1 + 69) < 36400) (
  gd (R8 (((M 144 (((x1 + 14) + x2)).toNat) + 0) - (M 144 ((x1 + 69)).toNat))) (
  if (((M 144 (((x1 + 14) + x2)).toNat) + 0) - (M 144 ((x1 + 69)).toNat)) < 0 then
  (gd (R4 0) (
  mlet (ms M 144 (((x1 + 14) + x2)).toNat 0) fun M18 =>
  gd (R4 (x2 + 1)) (
  some (.inl ((x2 + 1), M18)))))
  else
  (if 1000000 < (((M 144 (((x1 + 14) + x2)).toNat) + 0) - (M 144 ((x1 + 69)).toNat)) then
  (gd (R4 1000000) (
  mlet (ms M 144 (((x1 + 14) + x2)).toNat 1000000) fun M19 =>
  gd (R4 (x2 + 1)) (
  some (.inl ((x2 + 1), M19)))))
  else
  (gd (R4 (((M 144 (((x1 + 14) + x2)).toNat) + 0) - (M 144 ((x1 + 69)).toNat))) (
  mlet (ms M 144 (((x1 + 14) + x2)).toNat (((M 144 (((x1 + 14) + x2)).toNat) + 0) - (M 144 ((x1 + 69)).toNat))) fun M19 =>
  gd (R4 (x2 + 1)) (
  some (.inl ((x2 + 1), M19)))))))))))))))))
  else
  (oinr (some M))
noncomputable def f184_2 (x1 : Int) (x2 : Int) (M : Mm) : Option (Mm) := lp (fun s : Int × Mm => lb184_2 x1 s.1 s.2) (x2, M)
theorem tb184_2 {X : Nat × Nat × qC} {d : Nat} {x1 : Int} {x2 : Int} {M : Mm} {o3 : Option Value} {o5 : Option Value} {R : Mm → Prop} (hx1 : R4 x1) (hx2 : R4 x2) (w : Wp (lb184_2 x1 x2 M) (Sum.elim (E184_2 X d x1 R) R)) : mE X (d + 1) 184 0 2 [some (.ref 142), some (.int (Int32.ofInt x1)), some (.int (Int32.ofInt x2)), o3, none, o5, none] [] M (fun v M2 => R M2) := by
  refine mE_iload_n c184_2 rfl ?_
  refine mE_aload_n c184_3 rfl ?_
  refine mE_getI c184_4 qo184 qF12_194 (ok_lit rfl rfl rfl) rfl ?_
  intro u1
  by_cases e2 : x2 < (M 142 4)
  · have w := w.pos e2
    refine mE_icmp_ge_F (t := 127) c184_7 rfl hx2 u1 e2 ?_
    refine mE_aload_n c184_10 rfl ?_
    refine mE_getA c184_11 qo184 qF12_14 (ok_lit rfl rfl rfl) rfl ⟨by decide, by decide⟩ ?_
    refine mE_iload_n c184_14 rfl ?_
    refine mE_iload_n c184_15 rfl ?_
    obtain ⟨g3, w⟩ := w.ogd
    refine mE_iadd c184_16 ?_
    obtain ⟨g4, w⟩ := w.ogd
    refine mE_iaload c184_17 (ok_lit rfl rfl rfl) g3 g4 ?_
    intro u5
    by_cases e6 : (M 144 ((x1 + x2)).toNat) = 0
    · have w := w.pos e6
      refine mE_if_ne_F (t := 52) c184_18 rfl u5 e6 ?_
      refine mE_ldc2_w (x := 100) c184_21 qo184 qJ12_277 rfl ?_
      refine mE_aload_n c184_24 rfl ?_
      refine mE_getA c184_25 qo184 qF12_67 (ok_lit rfl rfl rfl) rfl ⟨by decide, by decide⟩ ?_
      refine mE_iload_n c184_28 rfl ?_
      obtain ⟨g7, w⟩ := w.ogd
      refine mE_laload c184_29 (ok_lit rfl rfl rfl) hx2 g7 ?_
      intro u8
      refine mE_static2 (as := [.long (Int64.ofInt (M 161 (x2).toNat))]) (r := [.long (Int64.ofInt 100)]) c184_30 qo184 (by decide) qK12_279 rfl rfl rfl (Nat.le_of_ble_eq_true rfl) (s170 (d := d + 0) u8 w.obind) ?_
      rintro v9 _ q11 ⟨rfl, w⟩
      obtain ⟨g12, w⟩ := w.ogd
      refine mE_lmul c184_33 ?_
      refine mE_aload_n c184_34 rfl ?_
      refine mE_getA c184_35 qo184 qF12_71 (ok_lit rfl rfl rfl) rfl ⟨by decide, by decide⟩ ?_
      refine mE_iload_n c184_38 rfl ?_
      refine mE_laload c184_39 (ok_lit rfl rfl rfl) hx2 g7 ?_
      intro u13
      refine mE_aload_n c184_40 rfl ?_
      refine mE_getA c184_41 qo184 qF12_33 (ok_lit rfl rfl rfl) rfl ⟨by decide, by decide⟩ ?_
      refine mE_iload_n c184_44 rfl ?_
      refine mE_iaload c184_45 (ok_lit rfl rfl rfl) hx2 g7 ?_
      intro u14
      refine mE_i2l c184_46 u14 ?_
      obtain ⟨g15, w⟩ := w.ogd
      refine mE_lmul c184_47 ?_
      obtain ⟨g16, w⟩ := w.ogd
      obtain ⟨g17, w⟩ := w.ogd
      refine mE_ldiv c184_48 g12 g15 g16 ?_
      refine mE_goto (t := 53) c184_49 rfl ?_
      refine mE_lstore_n (ls2 := [some (.ref 142), some (.int (Int32.ofInt x1)), some (.int (Int32.ofInt x2)), some (.long (Int64.ofInt (Int.tdiv (100 * v9) ((M 162 (x2).toNat) * (M 150 (x2).toNat))))), none, o5, none]) c184_53 (Nat.le_of_ble_eq_true rfl) rfl ?_
      refine mE_aload_n c184_54 rfl ?_
      refine mE_getA c184_55 qo184 qF12_14 (ok_lit rfl rfl rfl) rfl ⟨by decide, by decide⟩ ?_
      refine mE_iload_n c184_58 rfl ?_
      refine mE_bipush (x := 14) c184_59 rfl ?_
      obtain ⟨g18, w⟩ := w.ogd
      refine mE_iadd c184_61 ?_
      refine mE_iload_n c184_62 rfl ?_
      obtain ⟨g19, w⟩ := w.ogd
      refine mE_iadd c184_63 ?_
      obtain ⟨g20, w⟩ := w.ogd
      refine mE_iaload c184_64 (ok_lit rfl rfl rfl) g19 g20 ?_
      intro u21
      refine mE_i2l c184_65 u21 ?_
      refine mE_lload_n c184_66 rfl ?_
      obtain ⟨g22, w⟩ := w.ogd
      refine mE_ladd c184_67 ?_
      refine mE_aload_n c184_68 rfl ?_
      refine mE_getA c184_69 qo184 qF12_14 (ok_lit rfl rfl rfl) rfl ⟨by decide, by decide⟩ ?_
      refine mE_iload_n c184_72 rfl ?_
      refine mE_bipush (x := 69) c184_73 rfl ?_
      obtain ⟨g23, w⟩ := w.ogd
      refine mE_iadd c184_75 ?_
      obtain ⟨g24, w⟩ := w.ogd
      refine mE_iaload c184_76 (ok_lit rfl rfl rfl) g23 g24 ?_
      intro u25
      refine mE_i2l c184_77 u25 ?_
      obtain ⟨g26, w⟩ := w.ogd
      refine mE_lsub c184_78 ?_
      refine mE_lstore (ls2 := [some (.ref 142), some (.int (Int32.ofInt x1)), some (.int (Int32.ofInt x2)), some (.long (Int64.ofInt (Int.tdiv (100 * v9) ((M 162 (x2).toNat) * (M 150 (x2).toNat))))), none, some (.long (Int64.ofInt (((M 144 (((x1 + 14) + x2)).toNat) + (Int.tdiv (100 * v9) ((M 162 (x2).toNat) * (M 150 (x2).toNat)))) - (M 144 ((x1 + 69)).toNat)))), none]) c184_79 (Nat.le_of_ble_eq_true rfl) rfl ?_
      refine mE_aload_n c184_81 rfl ?_
      refine mE_getA c184_82 qo184 qF12_14 (ok_lit rfl rfl rfl) rfl ⟨by decide, by decide⟩ ?_
      refine mE_iload_n c184_85 rfl ?_
      refine mE_bipush (x := 14) c184_86 rfl ?_
      refine mE_iadd c184_88 ?_
      refine mE_iload_n c184_89 rfl ?_
      refine mE_iadd c184_90 ?_
      refine mE_lload c184_91 rfl ?_
      refine mE_lconst (x := 0) c184_93 rfl ?_
      by_cases e27 : (((M 144 (((x1 + 14) + x2)).toNat) + (Int.tdiv (100 * v9) ((M 162 (x2).toNat) * (M 150 (x2).toNat)))) - (M 144 ((x1 + 69)).toNat)) < 0
      · have w := w.pos e27
        refine mE_lcmp_ge_F (t := 102) c184_94 c184_95 rfl g26 (r8_n rfl) e27 ?_
        refine mE_lconst (x := 0) c184_98 rfl ?_
        refine mE_goto (t := 119) c184_99 rfl ?_
        obtain ⟨g28, w⟩ := w.ogd
        refine mE_l2i c184_119 g28 ?_
        obtain ⟨M29, m30, w⟩ := w.mlet
        refine mE_iastore c184_120 (ok_lit rfl rfl rfl) g19 g20 g28 ?_
        refine mE_M m30 ?_
        obtain ⟨g31, w⟩ := w.ogd
        refine mE_iinc (ls2 := [some (.ref 142), some (.int (Int32.ofInt x1)), some (.int (Int32.ofInt (x2 + 1))), some (.long (Int64.ofInt (Int.tdiv (100 * v9) ((M 162 (x2).toNat) * (M 150 (x2).toNat))))), none, some (.long (Int64.ofInt (((M 144 (((x1 + 14) + x2)).toNat) + (Int.tdiv (100 * v9) ((M 162 (x2).toNat) * (M 150 (x2).toNat)))) - (M 144 ((x1 + 69)).toNat)))), none]) c184_121 rfl (Nat.le_of_ble_eq_true rfl) rfl ?_
        refine mE_goto (t := 2) c184_124 rfl ?_
        exact w.osome g31 _ _
      · have w := w.neg e27
        refine mE_lcmp_ge_T (t := 102) c184_94 c184_95 rfl g26 (r8_n rfl) e27 ?_
        refine mE_lload c184_102 rfl ?_
        refine mE_ldc2_w (x := 1000000) c184_104 qo184 qJ12_427 rfl ?_
        by_cases e28 : 1000000 < (((M 144 (((x1 + 14) + x2)).toNat) + (Int.tdiv (100 * v9) ((M 162 (x2).toNat) * (M 150 (x2).toNat)))) - (M 144 ((x1 + 69)).toNat))
        · have w := w.pos e28
          refine mE_lcmp_le_F (t := 117) c184_107 c184_108 rfl g26 (r8_n rfl) e28 ?_
          refine mE_ldc2_w (x := 1000000) c184_111 qo184 qJ12_427 rfl ?_
          refine mE_goto (t := 119) c184_114 rfl ?_
          obtain ⟨g29, w⟩ := w.ogd
          refine mE_l2i c184_119 g29 ?_
          obtain ⟨M30, m31, w⟩ := w.mlet
          refine mE_iastore c184_120 (ok_lit rfl rfl rfl) g19 g20 g29 ?_
          refine mE_M m31 ?_
          obtain ⟨g32, w⟩ := w.ogd
          refine mE_iinc (ls2 := [some (.ref 142), some (.int (Int32.ofInt x1)), some (.int (Int32.ofInt (x2 + 1))), some (.long (Int64.ofInt (Int.tdiv (100 * v9) ((M 162 (x2).toNat) * (M 150 (x2).toNat))))), none, some (.long (Int64.ofInt (((M 144 (((x1 + 14) + x2)).toNat) + (Int.tdiv (100 * v9) ((M 162 (x2).toNat) * (M 150 (x2).toNat)))) - (M 144 ((x1 + 69)).toNat)))), none]) c184_121 rfl (Nat.le_of_ble_eq_true rfl) rfl ?_
          refine mE_goto (t := 2) c184_124 rfl ?_
          exact w.osome g32 _ _
        · have w := w.neg e28
          refine mE_lcmp_le_T (t := 117) c184_107 c184_108 rfl g26 (r8_n rfl) e28 ?_
          refine mE_lload c184_117 rfl ?_
          obtain ⟨g29, w⟩ := w.ogd
          refine mE_l2i c184_119 g29 ?_
          obtain ⟨M30, m31, w⟩ := w.mlet
          refine mE_iastore c184_120 (ok_lit rfl rfl rfl) g19 g20 g29 ?_
          refine mE_M m31 ?_
          obtain ⟨g32, w⟩ := w.ogd
          refine mE_iinc (ls2 := [some (.ref 142), some (.int (Int32.ofInt x1)), some (.int (Int32.ofInt (x2 + 1))), some (.long (Int64.ofInt (Int.tdiv (100 * v9) ((M 162 (x2).toNat) * (M 150 (x2).toNat))))), none, some (.long (Int64.ofInt (((M 144 (((x1 + 14) + x2)).toNat) + (Int.tdiv (100 * v9) ((M 162 (x2).toNat) * (M 150 (x2).toNat)))) - (M 144 ((x1 + 69)).toNat)))), none]) c184_121 rfl (Nat.le_of_ble_eq_true rfl) rfl ?_
          refine mE_goto (t := 2) c184_124 rfl ?_
          exact w.osome g32 _ _
    · have w := w.neg e6
      refine mE_if_ne_T (t := 52) c184_18 rfl u5 e6 ?_
      refine mE_lconst (x := 0) c184_52 rfl ?_
      refine mE_lstore_n (ls2 := [some (.ref 142), some (.int (Int32.ofInt x1)), some (.int (Int32.ofInt x2)), some (.long (Int64.ofInt 0)), none, o5, none]) c184_53 (Nat.le_of_ble_eq_true rfl) rfl ?_
      refine mE_aload_n c184_54 rfl ?_
      refine mE_getA c184_55 qo184 qF12_14 (ok_lit rfl rfl rfl) rfl ⟨by decide, by decide⟩ ?_
      refine mE_iload_n c184_58 rfl ?_
      refine mE_bipush (x := 14) c184_59 rfl ?_
      obtain ⟨g7, w⟩ := w.ogd
      refine mE_iadd c184_61 ?_
      refine mE_iload_n c184_62 rfl ?_
      obtain ⟨g8, w⟩ := w.ogd
      refine mE_iadd c184_63 ?_
      obtain ⟨g9, w⟩ := w.ogd
      refine mE_iaload c184_64 (ok_lit rfl rfl rfl) g8 g9 ?_
      intro u10
      refine mE_i2l c184_65 u10 ?_
      refine mE_lload_n c184_66 rfl ?_
      obtain ⟨g11, w⟩ := w.ogd
      refine mE_ladd c184_67 ?_
      refine mE_aload_n c184_68 rfl ?_
      refine mE_getA c184_69 qo184 qF12_14 (ok_lit rfl rfl rfl) rfl ⟨by decide, by decide⟩ ?_
      refine mE_iload_n c184_72 rfl ?_
      refine mE_bipush (x := 69) c184_73 rfl ?_
      obtain ⟨g12, w⟩ := w.ogd
      refine mE_iadd c184_75 ?_
      obtain ⟨g13, w⟩ := w.ogd
      refine mE_iaload c184_76 (ok_lit rfl rfl rfl) g12 g13 ?_
      intro u14
      refine mE_i2l c184_77 u14 ?_
      obtain ⟨g15, w⟩ := w.ogd
      refine mE_lsub c184_78 ?_
      refine mE_lstore (ls2 := [some (.ref 142), some (.int (Int32.ofInt x1)), some (.int (Int32.ofInt x2)), some (.long (Int64.ofInt 0)), none, some (.long (Int64.ofInt (((M 144 (((x1 + 14) + x2)).toNat) + 0) - (M 144 ((x1 + 69)).toNat)))), none]) c184_79 (Nat.le_of_ble_eq_true rfl) rfl ?_
      refine mE_aload_n c184_81 rfl ?_
      refine mE_getA c184_82 qo184 qF12_14 (ok_lit rfl rfl rfl) rfl ⟨by decide, by decide⟩ ?_
      refine mE_iload_n c184_85 rfl ?_
      refine mE_bipush (x := 14) c184_86 rfl ?_
      refine mE_iadd c184_88 ?_
      refine mE_iload_n c184_89 rfl ?_
      refine mE_iadd c184_90 ?_
      refine mE_lload c184_91 rfl ?_
      refine mE_lconst (x := 0) c184_93 rfl ?_
      by_cases e16 : (((M 144 (((x1 + 14) + x2)).toNat) + 0) - (M 144 ((x1 + 69)).toNat)) < 0
      · have w := w.pos e16
        refine mE_lcmp_ge_F (t := 102) c184_94 c184_95 rfl g15 (r8_n rfl) e16 ?_
        refine mE_lconst (x := 0) c184_98 rfl ?_
        refine mE_goto (t := 119) c184_99 rfl ?_
        obtain ⟨g17, w⟩ := w.ogd
        refine mE_l2i c184_119 g17 ?_
        obtain ⟨M18, m19, w⟩ := w.mlet
        refine mE_iastore c184_120 (ok_lit rfl rfl rfl) g8 g9 g17 ?_
        refine mE_M m19 ?_
        obtain ⟨g20, w⟩ := w.ogd
        refine mE_iinc (ls2 := [some (.ref 142), some (.int (Int32.ofInt x1)), some (.int (Int32.ofInt (x2 + 1))), some (.long (Int64.ofInt 0)), none, some (.long (Int64.ofInt (((M 144 (((x1 + 14) + x2)).toNat) + 0) - (M 144 ((x1 + 69)).toNat)))), none]) c184_121 rfl (Nat.le_of_ble_eq_true rfl) rfl ?_
        refine mE_goto (t := 2) c184_124 rfl ?_
        exact w.osome g20 _ _
      · have w := w.neg e16
        refine mE_lcmp_ge_T (t := 102) c184_94 c184_95 rfl g15 (r8_n rfl) e16 ?_
        refine mE_lload c184_102 rfl ?_
        refine mE_ldc2_w (x := 1000000) c184_104 qo184 qJ12_427 rfl ?_
        by_cases e17 : 1000000 < (((M 144 (((x1 + 14) + x2)).toNat) + 0) - (M 144 ((x1 + 69)).toNat))
        · have w := w.pos e17
          refine mE_lcmp_le_F (t := 117) c184_107 c184_108 rfl g15 (r8_n rfl) e17 ?_
          refine mE_ldc2_w (x := 1000000) c184_111 qo184 qJ12_427 rfl ?_
          refine mE_goto (t := 119) c184_114 rfl ?_
          obtain ⟨g18, w⟩ := w.ogd
          refine mE_l2i c184_119 g18 ?_
          obtain ⟨M19, m20, w⟩ := w.mlet
          refine mE_iastore c184_120 (ok_lit rfl rfl rfl) g8 g9 g18 ?_
          refine mE_M m20 ?_
          obtain ⟨g21, w⟩ := w.ogd
          refine mE_iinc (ls2 := [some (.ref 142), some (.int (Int32.ofInt x1)), some (.int (Int32.ofInt (x2 + 1))), some (.long (Int64.ofInt 0)), none, some (.long (Int64.ofInt (((M 144 (((x1 + 14) + x2)).toNat) + 0) - (M 144 ((x1 + 69)).toNat)))), none]) c184_121 rfl (Nat.le_of_ble_eq_true rfl) rfl ?_
          refine mE_goto (t := 2) c184_124 rfl ?_
          exact w.osome g21 _ _
        · have w := w.neg e17
          refine mE_lcmp_le_T (t := 117) c184_107 c184_108 rfl g15 (r8_n rfl) e17 ?_
          refine mE_lload c184_117 rfl ?_
          obtain ⟨g18, w⟩ := w.ogd
          refine mE_l2i c184_119 g18 ?_
          obtain ⟨M19, m20, w⟩ := w.mlet
          refine mE_iastore c184_120 (ok_lit rfl rfl rfl) g8 g9 g18 ?_
          refine mE_M m20 ?_
          obtain ⟨g21, w⟩ := w.ogd
          refine mE_iinc (ls2 := [some (.ref 142), some (.int (Int32.ofInt x1)), some (.int (Int32.ofInt (x2 + 1))), some (.long (Int64.ofInt 0)), none, some (.long (Int64.ofInt (((M 144 (((x1 + 14) + x2)).toNat) + 0) - (M 144 ((x1 + 69)).toNat)))), none]) c184_121 rfl (Nat.le_of_ble_eq_true rfl) rfl ?_
          refine mE_goto (t := 2) c184_124 rfl ?_
          exact w.osome g21 _ _
  · have w := w.neg e2
    refine mE_icmp_ge_T (t := 127) c184_7 rfl hx2 u1 e2 ?_
    have w := w.oinr
    exact mE_vret c184_127 qr184 w.osome
theorem t184_2 {X : Nat × Nat × qC} {d : Nat} {x1 : Int} {x2 : Int} {M : Mm} {o3 : Option Value} {o5 : Option Value} {R : Mm → Prop} (hx1 : R4 x1) (hx2 : R4 x2) (w : Wp (f184_2 x1 x2 M) R) : mE X (d + 1) 184 0 2 [some (.ref 142), some (.int (Int32.ofInt x1)), some (.int (Int32.ofInt x2)), o3, none, o5, none] [] M (fun v M2 => R M2) :=
  Wp.olp (f := fun s : Int × Mm => lb184_2 x1 s.1 s.2) (s := (x2, M)) (E := E184_2 X d x1 R) w (fun s w hx2 _ _ => tb184_2 hx1 hx2 w) hx2 _ _
noncomputable def f184 (x1 : Int) (M : Mm) : Option (Mm) :=
  f184_2 x1 0 M
theorem t184 {X : Nat × Nat × qC} {d : Nat} {x1 : Int} {M : Mm}  {R : Mm → Prop} (hx1 : R4 x1) (w : Wp (f184 x1 M) R) : mE X (d + 1) 184 0 0 [some (.ref 142), some (.int (Int32.ofInt x1)), none, none, none, none, none] [] M (fun v M2 => R M2) := by
  refine mE_iconst c184_0 ?_
  refine mE_istore_n (ls2 := [some (.ref 142), some (.int (Int32.ofInt x1)), some (.int (Int32.ofInt 0)), none, none, none, none]) c184_1 (Nat.le_of_ble_eq_true rfl) rfl ?_
  exact t184_2 hx1 (r4_n rfl) w
theorem s184 {X : Nat × Nat × qC} {d : Nat} {x1 : Int} {M : Mm} {R : Mm → Prop} (hx1 : R4 x1) (w : Wp (f184 x1 M) R) : mC X (d + 2) 184 0 [.ref 142, .int (Int32.ofInt x1)] M (fun v M2 => R M2) :=
  mC_of (qent_mk qx184 rfl rfl rfl) (t184 hx1 w)
/-! SaggingNetModel.worked -/
noncomputable def f187 (x0 : Int) (l1 : Int) (l3 : Int) (M : Mm) : Option (Int) :=
  if x0 = 37 then
  (if l3 = 0 then
  (some 0)
  else
  (gd (¬ l3 = 0) (
  some (w8 (Int.tmod l1 l3)))))
  else
  (if x0 = 42 then
  (some (w8 (l1 * l3)))
  else
  (if x0 = 43 then
  (some (w8 (l1 + l3)))
  else
  (if x0 = 45 then
  (some (w8 (l1 - l3)))
  else
  (if x0 = 47 then
  (if l3 = 0 then
  (some 0)
  else
  (gd (¬ l3 = 0) (
  some (w8 (Int.tdiv l1 l3)))))
  else
  (if x0 = 60 then
  (if l1 < l3 then
  (some 1)
  else
  (some 0))
  else
  (if x0 = 62 then
  (if l3 < l1 then
  (some 1)
  else
  (some 0))
  else
  (if l1 = l3 then
  (some 1)
  else
  (some 0))))))))
theorem t187 {X : Nat × Nat × qC} {d : Nat} {x0 : Int} {l1 : Int} {l3 : Int} {M : Mm}  {R : Int → Prop} (hx0 : R4 x0) (hl1 : R8 l1) (hl3 : R8 l3) (w : Wp (f187 x0 l1 l3 M) R) : mE X (d + 0) 187 2 0 [some (.int (Int32.ofInt x0)), some (.long (Int64.ofInt l1)), none, some (.long (Int64.ofInt l3)), none] [] M (fun v M2 => M = M2 ∧ R v) := by
  refine mE_iload_n c187_0 rfl ?_
  by_cases e1 : x0 = 37
  · have w := w.pos e1
    refine mE_lookup (off := 93) (t := 94) c187_1 hx0 e1 rfl rfl rfl ?_
    refine mE_lload_n c187_94 rfl ?_
    refine mE_lconst (x := 0) c187_95 rfl ?_
    by_cases e2 : l3 = 0
    · have w := w.pos e2
      refine mE_lcmp_ne_F (t := 104) c187_96 c187_97 rfl hl3 (r8_n rfl) e2 ?_
      refine mE_lconst (x := 0) c187_100 rfl ?_
      refine mE_goto (t := 107) c187_101 rfl ?_
      exact mE_lret c187_107 qr187 (r8_n rfl) ⟨rfl, w.osome⟩
    · have w := w.neg e2
      refine mE_lcmp_ne_T (t := 104) c187_96 c187_97 rfl hl3 (r8_n rfl) e2 ?_
      refine mE_lload_n c187_104 rfl ?_
      refine mE_lload_n c187_105 rfl ?_
      obtain ⟨g3, w⟩ := w.ogd
      refine mE_lremW c187_106 hl1 hl3 g3 ?_
      exact mE_lret c187_107 qr187 (r8_w8 _) ⟨rfl, w.osome⟩
  have w := w.neg e1
  by_cases e2 : x0 = 42
  · have w := w.pos e2
    refine mE_lookup (off := 75) (t := 76) c187_1 hx0 e2 rfl rfl rfl ?_
    refine mE_lload_n c187_76 rfl ?_
    refine mE_lload_n c187_77 rfl ?_
    refine mE_lmulW c187_78 ?_
    exact mE_lret c187_79 qr187 (r8_w8 _) ⟨rfl, w.osome⟩
  have w := w.neg e2
  by_cases e3 : x0 = 43
  · have w := w.pos e3
    refine mE_lookup (off := 67) (t := 68) c187_1 hx0 e3 rfl rfl rfl ?_
    refine mE_lload_n c187_68 rfl ?_
    refine mE_lload_n c187_69 rfl ?_
    refine mE_laddW c187_70 ?_
    exact mE_lret c187_71 qr187 (r8_w8 _) ⟨rfl, w.osome⟩
  have w := w.neg e3
  by_cases e4 : x0 = 45
  · have w := w.pos e4
    refine mE_lookup (off := 71) (t := 72) c187_1 hx0 e4 rfl rfl rfl ?_
    refine mE_lload_n c187_72 rfl ?_
    refine mE_lload_n c187_73 rfl ?_
    refine mE_lsubW c187_74 ?_
    exact mE_lret c187_75 qr187 (r8_w8 _) ⟨rfl, w.osome⟩
  have w := w.neg e4
  by_cases e5 : x0 = 47
  · have w := w.pos e5
    refine mE_lookup (off := 79) (t := 80) c187_1 hx0 e5 rfl rfl rfl ?_
    refine mE_lload_n c187_80 rfl ?_
    refine mE_lconst (x := 0) c187_81 rfl ?_
    by_cases e6 : l3 = 0
    · have w := w.pos e6
      refine mE_lcmp_ne_F (t := 90) c187_82 c187_83 rfl hl3 (r8_n rfl) e6 ?_
      refine mE_lconst (x := 0) c187_86 rfl ?_
      refine mE_goto (t := 93) c187_87 rfl ?_
      exact mE_lret c187_93 qr187 (r8_n rfl) ⟨rfl, w.osome⟩
    · have w := w.neg e6
      refine mE_lcmp_ne_T (t := 90) c187_82 c187_83 rfl hl3 (r8_n rfl) e6 ?_
      refine mE_lload_n c187_90 rfl ?_
      refine mE_lload_n c187_91 rfl ?_
      obtain ⟨g7, w⟩ := w.ogd
      refine mE_ldivW c187_92 hl1 hl3 g7 ?_
      exact mE_lret c187_93 qr187 (r8_w8 _) ⟨rfl, w.osome⟩
  have w := w.neg e5
  by_cases e6 : x0 = 60
  · have w := w.pos e6
    refine mE_lookup (off := 107) (t := 108) c187_1 hx0 e6 rfl rfl rfl ?_
    refine mE_lload_n c187_108 rfl ?_
    refine mE_lload_n c187_109 rfl ?_
    by_cases e7 : l1 < l3
    · have w := w.pos e7
      refine mE_lcmp_ge_F (t := 118) c187_110 c187_111 rfl hl1 hl3 e7 ?_
      refine mE_lconst (x := 1) c187_114 rfl ?_
      refine mE_goto (t := 119) c187_115 rfl ?_
      exact mE_lret c187_119 qr187 (r8_n rfl) ⟨rfl, w.osome⟩
    · have w := w.neg e7
      refine mE_lcmp_ge_T (t := 118) c187_110 c187_111 rfl hl1 hl3 e7 ?_
      refine mE_lconst (x := 0) c187_118 rfl ?_
      exact mE_lret c187_119 qr187 (r8_n rfl) ⟨rfl, w.osome⟩
  have w := w.neg e6
  by_cases e7 : x0 = 62
  · have w := w.pos e7
    refine mE_lookup (off := 119) (t := 120) c187_1 hx0 e7 rfl rfl rfl ?_
    refine mE_lload_n c187_120 rfl ?_
    refine mE_lload_n c187_121 rfl ?_
    by_cases e8 : l3 < l1
    · have w := w.pos e8
      refine mE_lcmp_le_F (t := 130) c187_122 c187_123 rfl hl1 hl3 e8 ?_
      refine mE_lconst (x := 1) c187_126 rfl ?_
      refine mE_goto (t := 131) c187_127 rfl ?_
      exact mE_lret c187_131 qr187 (r8_n rfl) ⟨rfl, w.osome⟩
    · have w := w.neg e8
      refine mE_lcmp_le_T (t := 130) c187_122 c187_123 rfl hl1 hl3 e8 ?_
      refine mE_lconst (x := 0) c187_130 rfl ?_
      exact mE_lret c187_131 qr187 (r8_n rfl) ⟨rfl, w.osome⟩
  have w := w.neg e7
  refine mE_lookupD (t := 132) c187_1 hx0 rfl (lkD e1 (lkD e2 (lkD e3 (lkD e4 (lkD e5 (lkD e6 (lkD e7 rfl))))))) rfl ?_
  refine mE_lload_n c187_132 rfl ?_
  refine mE_lload_n c187_133 rfl ?_
  by_cases e8 : l1 = l3
  · have w := w.pos e8
    refine mE_lcmp_ne_F (t := 142) c187_134 c187_135 rfl hl1 hl3 e8 ?_
    refine mE_lconst (x := 1) c187_138 rfl ?_
    refine mE_goto (t := 143) c187_139 rfl ?_
    exact mE_lret c187_143 qr187 (r8_n rfl) ⟨rfl, w.osome⟩
  · have w := w.neg e8
    refine mE_lcmp_ne_T (t := 142) c187_134 c187_135 rfl hl1 hl3 e8 ?_
    refine mE_lconst (x := 0) c187_142 rfl ?_
    exact mE_lret c187_143 qr187 (r8_n rfl) ⟨rfl, w.osome⟩
theorem s187 {X : Nat × Nat × qC} {d : Nat} {x0 : Int} {l1 : Int} {l3 : Int} {M : Mm} {R : Int → Prop} (hx0 : R4 x0) (hl1 : R8 l1) (hl3 : R8 l3) (w : Wp (f187 x0 l1 l3 M) R) : mC X (d + 1) 187 2 [.int (Int32.ofInt x0), .long (Int64.ofInt l1), .long (Int64.ofInt l3)] M (fun v M2 => M = M2 ∧ R v) :=
  mC_of (qent_mk qx187 rfl rfl rfl) (t187 hx0 hl1 hl3 w)
