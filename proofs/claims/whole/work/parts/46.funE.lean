/-! SaggingNet$Events.tellAll -/
def E209_3 (X : Nat × Nat × qC) (d : Nat) (x1 : Int) (x2 : Int) (x3 : Int) (R : Mm → Prop) : Int × Mm → Prop := fun s => R4 s.1 → mE X (d + 1) 209 0 3 [some (.ref 98), some (.int (Int32.ofInt x1)), some (.int (Int32.ofInt x2)), some (.int (Int32.ofInt x3)), some (.int (Int32.ofInt s.1))] [] s.2 (fun v M2 => R M2)
noncomputable def f209_28 (x1 : Int) (x2 : Int) (x3 : Int) (x4 : Int) (M : Mm) : Option ((Int × Mm) ⊕ (Mm)) :=
  gd (R4 (x4 + 1)) (
  some (.inl ((x4 + 1), M)))
theorem t209_28 {X : Nat × Nat × qC} {d : Nat} {x1 : Int} {x2 : Int} {x3 : Int} {x4 : Int} {M : Mm}  {R : Mm → Prop} (hx1 : R4 x1) (hx2 : R4 x2) (hx3 : R4 x3) (hx4 : R4 x4) (w : Wp (f209_28 x1 x2 x3 x4 M) (Sum.elim (E209_3 X d x1 x2 x3 R) R)) : mE X (d + 1) 209 0 28 [some (.ref 98), some (.int (Int32.ofInt x1)), some (.int (Int32.ofInt x2)), some (.int (Int32.ofInt x3)), some (.int (Int32.ofInt x4))] [] M (fun v M2 => R M2) := by
  obtain ⟨g1, w⟩ := w.ogd
  refine mE_iinc (ls2 := [some (.ref 98), some (.int (Int32.ofInt x1)), some (.int (Int32.ofInt x2)), some (.int (Int32.ofInt x3)), some (.int (Int32.ofInt (x4 + 1)))]) c209_28 rfl (Nat.le_of_ble_eq_true rfl) rfl ?_
  refine mE_goto (t := 3) c209_31 rfl ?_
  exact w.osome g1
noncomputable def lb209_3 (x1 : Int) (x2 : Int) (x3 : Int) (x4 : Int) (M : Mm) : Option ((Int × Mm) ⊕ (Mm)) :=
  if x4 < 14 then
  (if (bAnd (bShr x2 x4) 1) = 1 then
  ((f205 x1 x4 x3 M).bind fun M4 =>
  f209_28 x1 x2 x3 x4 M4)
  else
  (f209_28 x1 x2 x3 x4 M))
  else
  (oinr (some M))
noncomputable def f209_3 (x1 : Int) (x2 : Int) (x3 : Int) (x4 : Int) (M : Mm) : Option (Mm) := lp (fun s : Int × Mm => lb209_3 x1 x2 x3 s.1 s.2) (x4, M)
theorem tb209_3 {X : Nat × Nat × qC} {d : Nat} {x1 : Int} {x2 : Int} {x3 : Int} {x4 : Int} {M : Mm}  {R : Mm → Prop} (hx1 : R4 x1) (hx2 : R4 x2) (hx3 : R4 x3) (hx4 : R4 x4) (w : Wp (lb209_3 x1 x2 x3 x4 M) (Sum.elim (E209_3 X d x1 x2 x3 R) R)) : mE X (d + 1) 209 0 3 [some (.ref 98), some (.int (Int32.ofInt x1)), some (.int (Int32.ofInt x2)), some (.int (Int32.ofInt x3)), some (.int (Int32.ofInt x4))] [] M (fun v M2 => R M2) := by
  refine mE_iload c209_3 rfl ?_
  refine mE_bipush (x := 14) c209_5 rfl ?_
  by_cases e1 : x4 < 14
  · have w := w.pos e1
    refine mE_icmp_ge_F (t := 34) c209_7 rfl hx4 (r4_n rfl) e1 ?_
    refine mE_iload_n c209_10 rfl ?_
    refine mE_iload c209_11 rfl ?_
    refine mE_ishr c209_13 ?_
    refine mE_iconst c209_14 ?_
    refine mE_iand c209_15 ?_
    refine mE_iconst c209_16 ?_
    by_cases e2 : (bAnd (bShr x2 x4) 1) = 1
    · have w := w.pos e2
      refine mE_icmp_ne_F (t := 28) c209_17 rfl (r4_and _ _) (r4_n rfl) e2 ?_
      refine mE_aload_n c209_20 rfl ?_
      refine mE_iload_n c209_21 rfl ?_
      refine mE_iload c209_22 rfl ?_
      refine mE_iload_n c209_24 rfl ?_
      refine mE_virtual0 (b := 98) (as := [.int (Int32.ofInt x1), .int (Int32.ofInt x4), .int (Int32.ofInt x3)]) (r := []) c209_25 qo209 qK3_39 qo205 rfl rfl rfl (ok_lit rfl rfl rfl) (Nat.le_of_ble_eq_true rfl) (s205 (d := d + 0) hx1 hx4 hx3 w.obind) ?_
      intro _ M4 w
      exact t209_28 hx1 hx2 hx3 hx4 w
    · have w := w.neg e2
      refine mE_icmp_ne_T (t := 28) c209_17 rfl (r4_and _ _) (r4_n rfl) e2 ?_
      exact t209_28 hx1 hx2 hx3 hx4 w
  · have w := w.neg e1
    refine mE_icmp_ge_T (t := 34) c209_7 rfl hx4 (r4_n rfl) e1 ?_
    have w := w.oinr
    exact mE_vret c209_34 qr209 w.osome
theorem t209_3 {X : Nat × Nat × qC} {d : Nat} {x1 : Int} {x2 : Int} {x3 : Int} {x4 : Int} {M : Mm}  {R : Mm → Prop} (hx1 : R4 x1) (hx2 : R4 x2) (hx3 : R4 x3) (hx4 : R4 x4) (w : Wp (f209_3 x1 x2 x3 x4 M) R) : mE X (d + 1) 209 0 3 [some (.ref 98), some (.int (Int32.ofInt x1)), some (.int (Int32.ofInt x2)), some (.int (Int32.ofInt x3)), some (.int (Int32.ofInt x4))] [] M (fun v M2 => R M2) :=
  Wp.olp (f := fun s : Int × Mm => lb209_3 x1 x2 x3 s.1 s.2) (s := (x4, M)) (E := E209_3 X d x1 x2 x3 R) w (fun s w hx4 => tb209_3 hx1 hx2 hx3 hx4 w) hx4
noncomputable def f209 (x1 : Int) (x2 : Int) (x3 : Int) (M : Mm) : Option (Mm) :=
  f209_3 x1 x2 x3 0 M
theorem t209 {X : Nat × Nat × qC} {d : Nat} {x1 : Int} {x2 : Int} {x3 : Int} {M : Mm}  {R : Mm → Prop} (hx1 : R4 x1) (hx2 : R4 x2) (hx3 : R4 x3) (w : Wp (f209 x1 x2 x3 M) R) : mE X (d + 1) 209 0 0 [some (.ref 98), some (.int (Int32.ofInt x1)), some (.int (Int32.ofInt x2)), some (.int (Int32.ofInt x3)), none] [] M (fun v M2 => R M2) := by
  refine mE_iconst c209_0 ?_
  refine mE_istore (ls2 := [some (.ref 98), some (.int (Int32.ofInt x1)), some (.int (Int32.ofInt x2)), some (.int (Int32.ofInt x3)), some (.int (Int32.ofInt 0))]) c209_1 (Nat.le_of_ble_eq_true rfl) rfl ?_
  exact t209_3 hx1 hx2 hx3 (r4_n rfl) w
theorem s209 {X : Nat × Nat × qC} {d : Nat} {x1 : Int} {x2 : Int} {x3 : Int} {M : Mm} {R : Mm → Prop} (hx1 : R4 x1) (hx2 : R4 x2) (hx3 : R4 x3) (w : Wp (f209 x1 x2 x3 M) R) : mC X (d + 2) 209 0 [.ref 98, .int (Int32.ofInt x1), .int (Int32.ofInt x2), .int (Int32.ofInt x3)] M (fun v M2 => R M2) :=
  mC_of (qent_mk qx209 rfl rfl rfl) (t209 hx1 hx2 hx3 w)
/-! SaggingNet$Events.tell -/
def E208_2 (X : Nat × Nat × qC) (d : Nat) (x2 : Int) (R : Mm → Prop) : Int × Mm → Prop := fun s => R4 s.1 → mE X (d + 2) 208 0 2 [some (.ref 98), some (.ref 73), some (.int (Int32.ofInt x2)), some (.int (Int32.ofInt s.1))] [] s.2 (fun v M2 => R M2)
noncomputable def lb208_2 (x2 : Int) (x3 : Int) (M : Mm) : Option ((Int × Mm) ⊕ (Mm)) :=
  if x3 < (M 79 1) then
  (gd (0 ≤ x3 ∧ x3 < 8) (
  (f205 0 (M 80 (x3).toNat) x2 M).bind fun M6 =>
  gd (R4 (x3 + 1)) (
  some (.inl ((x3 + 1), M6)))))
  else
  (oinr ((f209 1 (M 73 3) x2 M).bind fun M5 =>
  (f209 2 (M5 73 4) x2 M5).bind fun M9 =>
  (f209 3 (M9 73 5) x2 M9).bind fun M13 =>
  some M13))
noncomputable def f208_2 (x2 : Int) (x3 : Int) (M : Mm) : Option (Mm) := lp (fun s : Int × Mm => lb208_2 x2 s.1 s.2) (x3, M)
theorem tb208_2 {X : Nat × Nat × qC} {d : Nat} {x2 : Int} {x3 : Int} {M : Mm}  {R : Mm → Prop} (hx2 : R4 x2) (hx3 : R4 x3) (w : Wp (lb208_2 x2 x3 M) (Sum.elim (E208_2 X d x2 R) R)) : mE X (d + 2) 208 0 2 [some (.ref 98), some (.ref 73), some (.int (Int32.ofInt x2)), some (.int (Int32.ofInt x3))] [] M (fun v M2 => R M2) := by
  refine mE_iload_n c208_2 rfl ?_
  refine mE_aload_n c208_3 rfl ?_
  refine mE_getA c208_4 qo208 qF3_25 (ok_lit rfl rfl rfl) rfl ⟨by decide, by decide⟩ ?_
  refine mE_getI c208_7 qo208 qF3_31 (ok_lit rfl rfl rfl) rfl ?_
  intro u1
  by_cases e2 : x3 < (M 79 1)
  · have w := w.pos e2
    refine mE_icmp_ge_F (t := 34) c208_10 rfl hx3 u1 e2 ?_
    refine mE_aload_n c208_13 rfl ?_
    refine mE_iconst c208_14 ?_
    refine mE_aload_n c208_15 rfl ?_
    refine mE_getA c208_16 qo208 qF3_25 (ok_lit rfl rfl rfl) rfl ⟨by decide, by decide⟩ ?_
    refine mE_getA c208_19 qo208 qF3_36 (ok_lit rfl rfl rfl) rfl ⟨by decide, by decide⟩ ?_
    refine mE_iload_n c208_22 rfl ?_
    obtain ⟨g3, w⟩ := w.ogd
    refine mE_iaload c208_23 (ok_lit rfl rfl rfl) hx3 g3 ?_
    intro u4
    refine mE_iload_n c208_24 rfl ?_
    refine mE_virtual0 (b := 98) (as := [.int (Int32.ofInt 0), .int (Int32.ofInt (M 80 (x3).toNat)), .int (Int32.ofInt x2)]) (r := []) c208_25 qo208 qK3_39 qo205 rfl rfl rfl (ok_lit rfl rfl rfl) (Nat.le_of_ble_eq_true rfl) (s205 (d := d + 1) (r4_n rfl) u4 hx2 w.obind) ?_
    intro _ M6 w
    obtain ⟨g8, w⟩ := w.ogd
    refine mE_iinc (ls2 := [some (.ref 98), some (.ref 73), some (.int (Int32.ofInt x2)), some (.int (Int32.ofInt (x3 + 1)))]) c208_28 rfl (Nat.le_of_ble_eq_true rfl) rfl ?_
    refine mE_goto (t := 2) c208_31 rfl ?_
    exact w.osome g8
  · have w := w.neg e2
    refine mE_icmp_ge_T (t := 34) c208_10 rfl hx3 u1 e2 ?_
    have w := w.oinr
    refine mE_aload_n c208_34 rfl ?_
    refine mE_iconst c208_35 ?_
    refine mE_aload_n c208_36 rfl ?_
    refine mE_getI c208_37 qo208 qF3_43 (ok_lit rfl rfl rfl) rfl ?_
    intro u3
    refine mE_iload_n c208_40 rfl ?_
    refine mE_virtual0 (b := 98) (as := [.int (Int32.ofInt 1), .int (Int32.ofInt (M 73 3)), .int (Int32.ofInt x2)]) (r := []) c208_41 qo208 qK3_46 qo209 rfl rfl rfl (ok_lit rfl rfl rfl) (Nat.le_of_ble_eq_true rfl) (s209 (d := d + 0) (r4_n rfl) u3 hx2 w.obind) ?_
    intro _ M5 w
    refine mE_aload_n c208_44 rfl ?_
    refine mE_iconst c208_45 ?_
    refine mE_aload_n c208_46 rfl ?_
    refine mE_getI c208_47 qo208 qF3_49 (ok_lit rfl rfl rfl) rfl ?_
    intro u7
    refine mE_iload_n c208_50 rfl ?_
    refine mE_virtual0 (b := 98) (as := [.int (Int32.ofInt 2), .int (Int32.ofInt (M5 73 4)), .int (Int32.ofInt x2)]) (r := []) c208_51 qo208 qK3_46 qo209 rfl rfl rfl (ok_lit rfl rfl rfl) (Nat.le_of_ble_eq_true rfl) (s209 (d := d + 0) (r4_n rfl) u7 hx2 w.obind) ?_
    intro _ M9 w
    refine mE_aload_n c208_54 rfl ?_
    refine mE_iconst c208_55 ?_
    refine mE_aload_n c208_56 rfl ?_
    refine mE_getI c208_57 qo208 qF3_52 (ok_lit rfl rfl rfl) rfl ?_
    intro u11
    refine mE_iload_n c208_60 rfl ?_
    refine mE_virtual0 (b := 98) (as := [.int (Int32.ofInt 3), .int (Int32.ofInt (M9 73 5)), .int (Int32.ofInt x2)]) (r := []) c208_61 qo208 qK3_46 qo209 rfl rfl rfl (ok_lit rfl rfl rfl) (Nat.le_of_ble_eq_true rfl) (s209 (d := d + 0) (r4_n rfl) u11 hx2 w.obind) ?_
    intro _ M13 w
    exact mE_vret c208_64 qr208 w.osome
theorem t208_2 {X : Nat × Nat × qC} {d : Nat} {x2 : Int} {x3 : Int} {M : Mm}  {R : Mm → Prop} (hx2 : R4 x2) (hx3 : R4 x3) (w : Wp (f208_2 x2 x3 M) R) : mE X (d + 2) 208 0 2 [some (.ref 98), some (.ref 73), some (.int (Int32.ofInt x2)), some (.int (Int32.ofInt x3))] [] M (fun v M2 => R M2) :=
  Wp.olp (f := fun s : Int × Mm => lb208_2 x2 s.1 s.2) (s := (x3, M)) (E := E208_2 X d x2 R) w (fun s w hx3 => tb208_2 hx2 hx3 w) hx3
noncomputable def f208 (x2 : Int) (M : Mm) : Option (Mm) :=
  f208_2 x2 0 M
theorem t208 {X : Nat × Nat × qC} {d : Nat} {x2 : Int} {M : Mm}  {R : Mm → Prop} (hx2 : R4 x2) (w : Wp (f208 x2 M) R) : mE X (d + 2) 208 0 0 [some (.ref 98), some (.ref 73), some (.int (Int32.ofInt x2)), none] [] M (fun v M2 => R M2) := by
  refine mE_iconst c208_0 ?_
  refine mE_istore_n (ls2 := [some (.ref 98), some (.ref 73), some (.int (Int32.ofInt x2)), some (.int (Int32.ofInt 0))]) c208_1 (Nat.le_of_ble_eq_true rfl) rfl ?_
  exact t208_2 hx2 (r4_n rfl) w
theorem s208 {X : Nat × Nat × qC} {d : Nat} {x2 : Int} {M : Mm} {R : Mm → Prop} (hx2 : R4 x2) (w : Wp (f208 x2 M) R) : mC X (d + 3) 208 0 [.ref 98, .ref 73, .int (Int32.ofInt x2)] M (fun v M2 => R M2) :=
  mC_of (qent_mk qx208 rfl rfl rfl) (t208 hx2 w)
/-! SaggingNet.goes -/
noncomputable def f51_29 (x1 : Int) (r2 : Nat) (M : Mm) : Option (Int × Mm) :=
  (f241 r2 24 M).bind fun M2 =>
  gd (0 ≤ x1 ∧ x1 < 499) (
  gd (R4 ((r2 : Nat) : Int)) (
  mlet (ms M2 29 (x1).toNat ((r2 : Nat) : Int)) fun M6 =>
  obnd (f8 r2 M6) fun v8 M9 =>
  mlet (ms M9 30 (x1).toNat v8) fun M11 =>
  (f219 r2 M11).bind fun M14 =>
  (f225 M14).bind fun M17 =>
  (f232 r2 79 M17).bind fun M20 =>
  (f241 24 74 M20).bind fun M23 =>
  (f208 x1 M23).bind fun M26 =>
  some ((M26 73 2), M26)))
theorem t51_29 {X : Nat × Nat × qC} {d : Nat} {x1 : Int} {r2 : Nat} {M : Mm}  {R : Int × Mm → Prop} (hx1 : R4 x1) (hr2 : isSt X.1 r2) (w : Wp (f51_29 x1 r2 M) R) : mE X (d + 6) 51 1 29 [some (.ref 2), some (.int (Int32.ofInt x1)), some (.ref r2)] [] M (fun v M2 => R (v, M2)) := by
  refine mE_aload_n c51_29 rfl ?_
  refine mE_aload_n c51_30 rfl ?_
  refine mE_getA c51_31 qo51 qF11_19 (ok_lit rfl rfl rfl) rfl ⟨by decide, by decide⟩ ?_
  refine mE_virtual0 (b := r2) (as := [.ref 24]) (r := []) c51_34 qo51 qK11_185 qo241 rfl rfl rfl (ok_st0 hr2) (Nat.le_of_ble_eq_true rfl) (s241 (d := d + 4) hr2 isSt_24 w.obind) ?_
  intro _ M2 w
  refine mE_aload_n c51_37 rfl ?_
  refine mE_getA c51_38 qo51 qF11_23 (ok_lit rfl rfl rfl) rfl ⟨by decide, by decide⟩ ?_
  refine mE_iload_n c51_41 rfl ?_
  refine mE_aload_n c51_42 rfl ?_
  obtain ⟨g4, w⟩ := w.ogd
  obtain ⟨g5, w⟩ := w.ogd
  obtain ⟨M6, m7, w⟩ := w.mlet
  refine mE_aastore c51_43 (ok_lit rfl rfl rfl) hx1 g4 hr2 g5 ?_
  refine mE_M m7 ?_
  refine mE_aload_n c51_44 rfl ?_
  refine mE_getA c51_45 qo51 qF11_27 (ok_lit rfl rfl rfl) rfl ⟨by decide, by decide⟩ ?_
  refine mE_iload_n c51_48 rfl ?_
  refine mE_aload_n c51_49 rfl ?_
  refine mE_getA c51_50 qo51 qF11_41 (ok_lit rfl rfl rfl) rfl ⟨by decide, by decide⟩ ?_
  refine mE_aload_n c51_53 rfl ?_
  refine mE_getA c51_54 qo51 qF11_10 (ok_lit rfl rfl rfl) rfl ⟨by decide, by decide⟩ ?_
  refine mE_aload_n c51_57 rfl ?_
  refine mE_virtual1 (b := 49) (as := [.ref 3, .ref r2]) (r := [.int (Int32.ofInt x1), .ref 30]) c51_58 qo51 qK11_189 qo8 rfl rfl rfl (ok_lit rfl rfl rfl) (Nat.le_of_ble_eq_true rfl) (s8 (d := d + 0) hr2 w.oc) ?_
  intro v8 M9 q10 w
  obtain ⟨M11, m12, w⟩ := w.mlet
  refine mE_iastore c51_61 (ok_lit rfl rfl rfl) hx1 g4 q10 ?_
  refine mE_M m12 ?_
  refine mE_aload_n c51_62 rfl ?_
  refine mE_getA c51_63 qo51 qF11_48 (ok_lit rfl rfl rfl) rfl ⟨by decide, by decide⟩ ?_
  refine mE_aload_n c51_66 rfl ?_
  refine mE_virtual0 (b := 73) (as := [.ref r2]) (r := []) c51_67 qo51 qK11_193 qo219 rfl rfl rfl (ok_lit rfl rfl rfl) (Nat.le_of_ble_eq_true rfl) (s219 (d := d + 3) hr2 w.obind) ?_
  intro _ M14 w
  refine mE_aload_n c51_70 rfl ?_
  refine mE_getA c51_71 qo51 qF11_48 (ok_lit rfl rfl rfl) rfl ⟨by decide, by decide⟩ ?_
  refine mE_aload_n c51_74 rfl ?_
  refine mE_getA c51_75 qo51 qF11_10 (ok_lit rfl rfl rfl) rfl ⟨by decide, by decide⟩ ?_
  refine mE_virtual0 (b := 73) (as := [.ref 3]) (r := []) c51_78 qo51 qK11_196 qo225 rfl rfl rfl (ok_lit rfl rfl rfl) (Nat.le_of_ble_eq_true rfl) (s225 (d := d + 1) w.obind) ?_
  intro _ M17 w
  refine mE_aload_n c51_81 rfl ?_
  refine mE_getA c51_82 qo51 qF11_62 (ok_lit rfl rfl rfl) rfl ⟨by decide, by decide⟩ ?_
  refine mE_aload_n c51_85 rfl ?_
  refine mE_getA c51_86 qo51 qF11_10 (ok_lit rfl rfl rfl) rfl ⟨by decide, by decide⟩ ?_
  refine mE_aload_n c51_89 rfl ?_
  refine mE_aload_n c51_90 rfl ?_
  refine mE_getA c51_91 qo51 qF11_48 (ok_lit rfl rfl rfl) rfl ⟨by decide, by decide⟩ ?_
  refine mE_getA c51_94 qo51 qF11_200 (ok_lit rfl rfl rfl) rfl ⟨by decide, by decide⟩ ?_
  refine mE_virtual0 (b := 102) (as := [.ref 3, .ref r2, .ref 79]) (r := []) c51_97 qo51 qK11_201 qo232 rfl rfl rfl (ok_lit rfl rfl rfl) (Nat.le_of_ble_eq_true rfl) (s232 (d := d + 2) hr2 isSg_79 w.obind) ?_
  intro _ M20 w
  refine mE_aload_n c51_100 rfl ?_
  refine mE_getA c51_101 qo51 qF11_19 (ok_lit rfl rfl rfl) rfl ⟨by decide, by decide⟩ ?_
  refine mE_aload_n c51_104 rfl ?_
  refine mE_getA c51_105 qo51 qF11_48 (ok_lit rfl rfl rfl) rfl ⟨by decide, by decide⟩ ?_
  refine mE_getA c51_108 qo51 qF11_205 (ok_lit rfl rfl rfl) rfl ⟨by decide, by decide⟩ ?_
  refine mE_virtual0 (b := 24) (as := [.ref 74]) (r := []) c51_111 qo51 qK11_185 qo241 rfl rfl rfl (ok_lit rfl rfl rfl) (Nat.le_of_ble_eq_true rfl) (s241 (d := d + 4) isSt_24 isSt_74 w.obind) ?_
  intro _ M23 w
  refine mE_aload_n c51_114 rfl ?_
  refine mE_getA c51_115 qo51 qF11_55 (ok_lit rfl rfl rfl) rfl ⟨by decide, by decide⟩ ?_
  refine mE_aload_n c51_118 rfl ?_
  refine mE_getA c51_119 qo51 qF11_48 (ok_lit rfl rfl rfl) rfl ⟨by decide, by decide⟩ ?_
  refine mE_iload_n c51_122 rfl ?_
  refine mE_virtual0 (b := 98) (as := [.ref 73, .int (Int32.ofInt x1)]) (r := []) c51_123 qo51 qK11_208 qo208 rfl rfl rfl (ok_lit rfl rfl rfl) (Nat.le_of_ble_eq_true rfl) (s208 (d := d + 3) hx1 w.obind) ?_
  intro _ M26 w
  refine mE_aload_n c51_126 rfl ?_
  refine mE_getA c51_127 qo51 qF11_48 (ok_lit rfl rfl rfl) rfl ⟨by decide, by decide⟩ ?_
  refine mE_getI c51_130 qo51 qF11_212 (ok_lit rfl rfl rfl) rfl ?_
  intro u28
  exact mE_iret c51_133 qr51 u28 w.osome
/-! SaggingNet.isSet -/
noncomputable def f57 (x1 : Int) (M : Mm) : Option (Int) :=
  if x1 < 0 then
  (some 0)
  else
  (if (bShr x1 (M 3 0)) = 0 then
  (some 1)
  else
  (some 0))
theorem t57 {X : Nat × Nat × qC} {d : Nat} {x1 : Int} {M : Mm}  {R : Int → Prop} (hx1 : R4 x1) (w : Wp (f57 x1 M) R) : mE X (d + 0) 57 1 0 [some (.ref 2), some (.int (Int32.ofInt x1))] [] M (fun v M2 => M = M2 ∧ R v) := by
  refine mE_iload_n c57_0 rfl ?_
  by_cases e1 : x1 < 0
  · have w := w.pos e1
    refine mE_if_lt_T (t := 20) c57_1 rfl hx1 e1 ?_
    refine mE_iconst c57_20 ?_
    exact mE_zret c57_21 qr57 (Or.inl rfl) ⟨rfl, w.osome⟩
  · have w := w.neg e1
    refine mE_if_lt_F (t := 20) c57_1 rfl hx1 e1 ?_
    refine mE_iload_n c57_4 rfl ?_
    refine mE_aload_n c57_5 rfl ?_
    refine mE_getA c57_6 qo57 qF11_10 (ok_lit rfl rfl rfl) rfl ⟨by decide, by decide⟩ ?_
    refine mE_getI c57_9 qo57 qF11_101 (ok_lit rfl rfl rfl) rfl ?_
    intro u2
    refine mE_ishr c57_12 ?_
    by_cases e3 : (bShr x1 (M 3 0)) = 0
    · have w := w.pos e3
      refine mE_if_ne_F (t := 20) c57_13 rfl (r4_shr _ _) e3 ?_
      refine mE_iconst c57_16 ?_
      refine mE_goto (t := 21) c57_17 rfl ?_
      exact mE_zret c57_21 qr57 (Or.inr rfl) ⟨rfl, w.osome⟩
    · have w := w.neg e3
      refine mE_if_ne_T (t := 20) c57_13 rfl (r4_shr _ _) e3 ?_
      refine mE_iconst c57_20 ?_
      exact mE_zret c57_21 qr57 (Or.inl rfl) ⟨rfl, w.osome⟩
theorem s57 {X : Nat × Nat × qC} {d : Nat} {x1 : Int} {M : Mm} {R : Int → Prop} (hx1 : R4 x1) (w : Wp (f57 x1 M) R) : mC X (d + 1) 57 1 [.ref 2, .int (Int32.ofInt x1)] M (fun v M2 => M = M2 ∧ R v) :=
  mC_of (qent_mk qx57 rfl rfl rfl) (t57 hx1 w)
/-! SaggingNet.holds -/
def E54_27 (X : Nat × Nat × qC) (d : Nat) (x3 : Int) (R : Int × Mm → Prop) : Int × Mm → Prop := fun s => R4 s.1 → ∀ (y1 : Nat), ∀ (y2 : Int32), mE X (d + 5) 54 1 27 [some (.ref 2), some (.ref y1), some (.int y2), some (.int (Int32.ofInt x3)), some (.int (Int32.ofInt s.1))] [] s.2 (fun v M2 => R (v, M2))
noncomputable def lb54_27 (x3 : Int) (x4 : Int) (M : Mm) : Option ((Int × Mm) ⊕ (Int × Mm)) :=
  if x4 < x3 then
  ((f225 M).bind fun M3 =>
  if 0 < (M3 73 2) then
  (oinr (some (0, M3)))
  else
  (gd (R4 (x4 + 1)) (
  some (.inl ((x4 + 1), M3)))))
  else
  (oinr (some (1, M)))
noncomputable def f54_27 (x3 : Int) (x4 : Int) (M : Mm) : Option (Int × Mm) := lp (fun s : Int × Mm => lb54_27 x3 s.1 s.2) (x4, M)
theorem tb54_27 {X : Nat × Nat × qC} {d : Nat} {x3 : Int} {x4 : Int} {M : Mm} {y1 : Nat} {y2 : Int32} {R : Int × Mm → Prop} (hx3 : R4 x3) (hx4 : R4 x4) (w : Wp (lb54_27 x3 x4 M) (Sum.elim (E54_27 X d x3 R) R)) : mE X (d + 5) 54 1 27 [some (.ref 2), some (.ref y1), some (.int y2), some (.int (Int32.ofInt x3)), some (.int (Int32.ofInt x4))] [] M (fun v M2 => R (v, M2)) := by
  refine mE_iload c54_27 rfl ?_
  refine mE_iload_n c54_29 rfl ?_
  by_cases e1 : x4 < x3
  · have w := w.pos e1
    refine mE_icmp_ge_F (t := 62) c54_30 rfl hx4 hx3 e1 ?_
    refine mE_aload_n c54_33 rfl ?_
    refine mE_getA c54_34 qo54 qF11_48 (ok_lit rfl rfl rfl) rfl ⟨by decide, by decide⟩ ?_
    refine mE_aload_n c54_37 rfl ?_
    refine mE_getA c54_38 qo54 qF11_10 (ok_lit rfl rfl rfl) rfl ⟨by decide, by decide⟩ ?_
    refine mE_virtual0 (b := 73) (as := [.ref 3]) (r := []) c54_41 qo54 qK11_196 qo225 rfl rfl rfl (ok_lit rfl rfl rfl) (Nat.le_of_ble_eq_true rfl) (s225 (d := d + 0) w.obind) ?_
    intro _ M3 w
    refine mE_aload_n c54_44 rfl ?_
    refine mE_getA c54_45 qo54 qF11_48 (ok_lit rfl rfl rfl) rfl ⟨by decide, by decide⟩ ?_
    refine mE_getI c54_48 qo54 qF11_212 (ok_lit rfl rfl rfl) rfl ?_
    intro u5
    by_cases e6 : 0 < (M3 73 2)
    · have w := w.pos e6
      refine mE_if_le_F (t := 56) c54_51 rfl u5 e6 ?_
      have w := w.oinr
      refine mE_iconst c54_54 ?_
      exact mE_zret c54_55 qr54 (Or.inl rfl) w.osome
    · have w := w.neg e6
      refine mE_if_le_T (t := 56) c54_51 rfl u5 e6 ?_
      obtain ⟨g7, w⟩ := w.ogd
      refine mE_iinc (ls2 := [some (.ref 2), some (.ref y1), some (.int y2), some (.int (Int32.ofInt x3)), some (.int (Int32.ofInt (x4 + 1)))]) c54_56 rfl (Nat.le_of_ble_eq_true rfl) rfl ?_
      refine mE_goto (t := 27) c54_59 rfl ?_
      exact w.osome g7 _ _
  · have w := w.neg e1
    refine mE_icmp_ge_T (t := 62) c54_30 rfl hx4 hx3 e1 ?_
    have w := w.oinr
    refine mE_iconst c54_62 ?_
    exact mE_zret c54_63 qr54 (Or.inr rfl) w.osome
theorem t54_27 {X : Nat × Nat × qC} {d : Nat} {x3 : Int} {x4 : Int} {M : Mm} {y1 : Nat} {y2 : Int32} {R : Int × Mm → Prop} (hx3 : R4 x3) (hx4 : R4 x4) (w : Wp (f54_27 x3 x4 M) R) : mE X (d + 5) 54 1 27 [some (.ref 2), some (.ref y1), some (.int y2), some (.int (Int32.ofInt x3)), some (.int (Int32.ofInt x4))] [] M (fun v M2 => R (v, M2)) :=
  Wp.olp (f := fun s : Int × Mm => lb54_27 x3 s.1 s.2) (s := (x4, M)) (E := E54_27 X d x3 R) w (fun s w hx4 _ _ => tb54_27 hx3 hx4 w) hx4 _ _
noncomputable def f54 (r1 : Nat) (x2 : Int) (x3 : Int) (M : Mm) : Option (Int × Mm) :=
  (f219 r1 M).bind fun M2 =>
  mlet (ms M2 74 1 (bOr (M2 74 1) x2)) fun M5 =>
  f54_27 x3 0 M5
theorem t54 {X : Nat × Nat × qC} {d : Nat} {r1 : Nat} {x2 : Int} {x3 : Int} {M : Mm}  {R : Int × Mm → Prop} (hr1 : isSt X.1 r1) (hx2 : R4 x2) (hx3 : R4 x3) (w : Wp (f54 r1 x2 x3 M) R) : mE X (d + 5) 54 1 0 [some (.ref 2), some (.ref r1), some (.int (Int32.ofInt x2)), some (.int (Int32.ofInt x3)), none] [] M (fun v M2 => R (v, M2)) := by
  refine mE_aload_n c54_0 rfl ?_
  refine mE_getA c54_1 qo54 qF11_48 (ok_lit rfl rfl rfl) rfl ⟨by decide, by decide⟩ ?_
  refine mE_aload_n c54_4 rfl ?_
  refine mE_virtual0 (b := 73) (as := [.ref r1]) (r := []) c54_5 qo54 qK11_193 qo219 rfl rfl rfl (ok_lit rfl rfl rfl) (Nat.le_of_ble_eq_true rfl) (s219 (d := d + 2) hr1 w.obind) ?_
  intro _ M2 w
  refine mE_aload_n c54_8 rfl ?_
  refine mE_getA c54_9 qo54 qF11_48 (ok_lit rfl rfl rfl) rfl ⟨by decide, by decide⟩ ?_
  refine mE_getA c54_12 qo54 qF11_205 (ok_lit rfl rfl rfl) rfl ⟨by decide, by decide⟩ ?_
  refine mE_dup c54_15 rfl ?_
  refine mE_getI c54_16 qo54 qF11_161 (ok_lit rfl rfl rfl) rfl ?_
  intro u4
  refine mE_iload_n c54_19 rfl ?_
  refine mE_ior c54_20 ?_
  obtain ⟨M5, m6, w⟩ := w.mlet
  refine mE_putI c54_21 qo54 qF11_161 qz8_1 (ok_lit rfl rfl rfl) (Nat.le_of_ble_eq_true rfl) rfl (r4_or _ _) (by rw [qy8_1]; rfl) ?_
  refine mE_M m6 ?_
  refine mE_iconst c54_24 ?_
  refine mE_istore (ls2 := [some (.ref 2), some (.ref r1), some (.int (Int32.ofInt x2)), some (.int (Int32.ofInt x3)), some (.int (Int32.ofInt 0))]) c54_25 (Nat.le_of_ble_eq_true rfl) rfl ?_
  exact t54_27 hx3 (r4_n rfl) w
theorem s54 {X : Nat × Nat × qC} {d : Nat} {r1 : Nat} {x2 : Int} {x3 : Int} {M : Mm} {R : Int × Mm → Prop} (hr1 : isSt X.1 r1) (hx2 : R4 x2) (hx3 : R4 x3) (w : Wp (f54 r1 x2 x3 M) R) : mC X (d + 6) 54 1 [.ref 2, .ref r1, .int (Int32.ofInt x2), .int (Int32.ofInt x3)] M (fun v M2 => R (v, M2)) :=
  mC_of (qent_mk qx54 rfl rfl rfl) (t54 hr1 hx2 hx3 w)
/-! SaggingNet.held -/
noncomputable def f53 (x1 : Int) (x2 : Int) (x3 : Int) (M : Mm) : Option (Int × Mm) :=
  (f57 x2 M).bind fun v1 =>
  if v1 = 0 then
  (some ((-1), M))
  else
  ((f80 x3 1 30 M).bind fun v5 =>
  if v5 = 0 then
  (some ((-1), M))
  else
  ((f73 x1 M).bind fun v9 =>
  if v9 = 0 then
  (some ((-1), M))
  else
  (gd (isSt (M 0 0).toNat v9.toNat) (
  obnd (f54 v9.toNat x2 x3 M) fun v16 M17 =>
  if v16 = 0 then
  (some (0, M17))
  else
  (some (1, M17))))))
theorem t53 {X : Nat × Nat × qC} {d : Nat} {x1 : Int} {x2 : Int} {x3 : Int} {M : Mm}  {R : Int × Mm → Prop} (hx1 : R4 x1) (hx2 : R4 x2) (hx3 : R4 x3) (w : Wp (f53 x1 x2 x3 M) R) : mE X (d + 6) 53 1 0 [some (.ref 2), some (.int (Int32.ofInt x1)), some (.int (Int32.ofInt x2)), some (.int (Int32.ofInt x3)), none] [] M (fun v M2 => R (v, M2)) := by
  refine mE_aload_n c53_0 rfl ?_
  refine mE_iload_n c53_1 rfl ?_
  refine mE_virtual1 (b := 2) (as := [.int (Int32.ofInt x2)]) (r := []) c53_2 qo53 qK11_282 qo57 rfl rfl rfl (ok_lit rfl rfl rfl) (Nat.le_of_ble_eq_true rfl) (s57 (d := d + 5) hx2 w.obind) ?_
  rintro v1 _ q3 ⟨rfl, w⟩
  by_cases e4 : v1 = 0
  · have w := w.pos e4
    refine mE_if_eq_T (t := 18) c53_5 rfl q3 e4 ?_
    refine mE_iconst c53_18 ?_
    exact mE_iret c53_19 qr53 (r4_n rfl) w.osome
  · have w := w.neg e4
    refine mE_if_eq_F (t := 18) c53_5 rfl q3 e4 ?_
    refine mE_iload_n c53_8 rfl ?_
    refine mE_iconst c53_9 ?_
    refine mE_bipush (x := 30) c53_10 rfl ?_
    refine mE_static1 (as := [.int (Int32.ofInt x3), .int (Int32.ofInt 1), .int (Int32.ofInt 30)]) (r := []) c53_12 qo53 (by decide) qK11_108 rfl rfl rfl (Nat.le_of_ble_eq_true rfl) (s80 (d := d + 5) hx3 (r4_n rfl) (r4_n rfl) w.obind) ?_
    rintro v5 _ q7 ⟨rfl, w⟩
    by_cases e8 : v5 = 0
    · have w := w.pos e8
      refine mE_if_ne_F (t := 20) c53_15 rfl q7 e8 ?_
      refine mE_iconst c53_18 ?_
      exact mE_iret c53_19 qr53 (r4_n rfl) w.osome
    · have w := w.neg e8
      refine mE_if_ne_T (t := 20) c53_15 rfl q7 e8 ?_
      refine mE_aload_n c53_20 rfl ?_
      refine mE_iload_n c53_21 rfl ?_
      refine mE_virtual3 (b := 2) (as := [.int (Int32.ofInt x1)]) (r := []) c53_22 qo53 qK11_285 qo73 rfl rfl rfl (ok_lit rfl rfl rfl) (Nat.le_of_ble_eq_true rfl) (s73 (d := d + 4) hx1 w.obind) ?_
      rintro v9 _ q11 ⟨rfl, w⟩
      by_cases e12 : v9 = 0
      · have w := w.pos e12
        rw [if_pos e12]
        refine mE_astoreN (ls2 := [some (.ref 2), some (.int (Int32.ofInt x1)), some (.int (Int32.ofInt x2)), some (.int (Int32.ofInt x3)), some (.null)]) c53_25 (Nat.le_of_ble_eq_true rfl) rfl ?_
        refine mE_aloadN c53_27 rfl ?_
        refine mE_ifnonnull_F c53_29 ?_
        refine mE_iconst c53_32 ?_
        exact mE_iret c53_33 qr53 (r4_n rfl) w.osome
      · have w := w.neg e12
        obtain ⟨g13, w⟩ := w.ogd
        rw [if_neg e12]
        refine mE_n0 (fun z14 => ?_)
        have j15 := n0_st z14 g13
        refine mE_astore (ls2 := [some (.ref 2), some (.int (Int32.ofInt x1)), some (.int (Int32.ofInt x2)), some (.int (Int32.ofInt x3)), some (.ref v9.toNat)]) c53_25 (Nat.le_of_ble_eq_true rfl) rfl ?_
        refine mE_aload c53_27 rfl ?_
        refine mE_ifnonnull_T (t := 34) c53_29 rfl ?_
        refine mE_aload_n c53_34 rfl ?_
        refine mE_aload c53_35 rfl ?_
        refine mE_iload_n c53_37 rfl ?_
        refine mE_iload_n c53_38 rfl ?_
        refine mE_virtual1 (b := 2) (as := [.ref v9.toNat, .int (Int32.ofInt x2), .int (Int32.ofInt x3)]) (r := []) c53_39 qo53 qK11_289 qo54 rfl rfl rfl (ok_lit rfl rfl rfl) (Nat.le_of_ble_eq_true rfl) (s54 (d := d + 0) j15 hx2 hx3 w.oc) ?_
        intro v16 M17 q18 w
        by_cases e19 : v16 = 0
        · have w := w.pos e19
          refine mE_if_eq_T (t := 49) c53_42 rfl q18 e19 ?_
          refine mE_iconst c53_49 ?_
          exact mE_iret c53_50 qr53 (r4_n rfl) w.osome
        · have w := w.neg e19
          refine mE_if_eq_F (t := 49) c53_42 rfl q18 e19 ?_
          refine mE_iconst c53_45 ?_
          refine mE_goto (t := 50) c53_46 rfl ?_
          exact mE_iret c53_50 qr53 (r4_n rfl) w.osome
theorem s53 {X : Nat × Nat × qC} {d : Nat} {x1 : Int} {x2 : Int} {x3 : Int} {M : Mm} {R : Int × Mm → Prop} (hx1 : R4 x1) (hx2 : R4 x2) (hx3 : R4 x3) (w : Wp (f53 x1 x2 x3 M) R) : mC X (d + 7) 53 1 [.ref 2, .int (Int32.ofInt x1), .int (Int32.ofInt x2), .int (Int32.ofInt x3)] M (fun v M2 => R (v, M2)) :=
  mC_of (qent_mk qx53 rfl rfl rfl) (t53 hx1 hx2 hx3 w)
/-! SaggingNet.last -/
def E59_28 (X : Nat × Nat × qC) (d : Nat) (x1 : Int) (x2 : Int) (R : Int × Mm → Prop) : Int × Mm → Prop := fun s => R4 s.1 → ∀ (o4 : Option Value), mE X (d + 6) 59 1 28 [some (.ref 2), some (.int (Int32.ofInt x1)), some (.int (Int32.ofInt x2)), some (.int (Int32.ofInt s.1)), o4] [] s.2 (fun v M2 => R (v, M2))
noncomputable def f59_57 (x1 : Int) (x2 : Int) (x3 : Int) (M : Mm) : Option ((Int × Mm) ⊕ (Int × Mm)) :=
  gd (R4 (x3 + (-1))) (
  some (.inl ((x3 + (-1)), M)))
theorem t59_57 {X : Nat × Nat × qC} {d : Nat} {x1 : Int} {x2 : Int} {x3 : Int} {M : Mm} {o4 : Option Value} {R : Int × Mm → Prop} (hx1 : R4 x1) (hx2 : R4 x2) (hx3 : R4 x3) (w : Wp (f59_57 x1 x2 x3 M) (Sum.elim (E59_28 X d x1 x2 R) R)) : mE X (d + 6) 59 1 57 [some (.ref 2), some (.int (Int32.ofInt x1)), some (.int (Int32.ofInt x2)), some (.int (Int32.ofInt x3)), o4] [] M (fun v M2 => R (v, M2)) := by
  obtain ⟨g1, w⟩ := w.ogd
  refine mE_iinc (ls2 := [some (.ref 2), some (.int (Int32.ofInt x1)), some (.int (Int32.ofInt x2)), some (.int (Int32.ofInt (x3 + (-1)))), o4]) c59_57 rfl (Nat.le_of_ble_eq_true rfl) rfl ?_
  refine mE_goto (t := 28) c59_60 rfl ?_
  exact w.osome g1 _
noncomputable def lb59_28 (x1 : Int) (x2 : Int) (x3 : Int) (M : Mm) : Option ((Int × Mm) ⊕ (Int × Mm)) :=
  if x3 < 0 then
  (oinr (some ((-1), M)))
  else
  ((f73 x3 M).bind fun v2 =>
  if v2 = 0 then
  (f59_57 x1 x2 x3 M)
  else
  (gd (isSt (M 0 0).toNat v2.toNat) (
  obnd (f54 v2.toNat x1 x2 M) fun v9 M10 =>
  if v9 = 0 then
  (f59_57 x1 x2 x3 M10)
  else
  (oinr (some (x3, M10))))))
noncomputable def f59_28 (x1 : Int) (x2 : Int) (x3 : Int) (M : Mm) : Option (Int × Mm) := lp (fun s : Int × Mm => lb59_28 x1 x2 s.1 s.2) (x3, M)
theorem tb59_28 {X : Nat × Nat × qC} {d : Nat} {x1 : Int} {x2 : Int} {x3 : Int} {M : Mm} {o4 : Option Value} {R : Int × Mm → Prop} (hx1 : R4 x1) (hx2 : R4 x2) (hx3 : R4 x3) (w : Wp (lb59_28 x1 x2 x3 M) (Sum.elim (E59_28 X d x1 x2 R) R)) : mE X (d + 6) 59 1 28 [some (.ref 2), some (.int (Int32.ofInt x1)), some (.int (Int32.ofInt x2)), some (.int (Int32.ofInt x3)), o4] [] M (fun v M2 => R (v, M2)) := by
  refine mE_iload_n c59_28 rfl ?_
  by_cases e1 : x3 < 0
  · have w := w.pos e1
    refine mE_if_lt_T (t := 63) c59_29 rfl hx3 e1 ?_
    have w := w.oinr
    refine mE_iconst c59_63 ?_
    exact mE_iret c59_64 qr59 (r4_n rfl) w.osome
  · have w := w.neg e1
    refine mE_if_lt_F (t := 63) c59_29 rfl hx3 e1 ?_
    refine mE_aload_n c59_32 rfl ?_
    refine mE_iload_n c59_33 rfl ?_
    refine mE_virtual3 (b := 2) (as := [.int (Int32.ofInt x3)]) (r := []) c59_34 qo59 qK11_285 qo73 rfl rfl rfl (ok_lit rfl rfl rfl) (Nat.le_of_ble_eq_true rfl) (s73 (d := d + 4) hx3 w.obind) ?_
    rintro v2 _ q4 ⟨rfl, w⟩
    by_cases e5 : v2 = 0
    · have w := w.pos e5
      rw [if_pos e5]
      refine mE_astoreN (ls2 := [some (.ref 2), some (.int (Int32.ofInt x1)), some (.int (Int32.ofInt x2)), some (.int (Int32.ofInt x3)), some (.null)]) c59_37 (Nat.le_of_ble_eq_true rfl) rfl ?_
      refine mE_aloadN c59_39 rfl ?_
      refine mE_ifnull_T (t := 57) c59_41 rfl ?_
      exact t59_57 hx1 hx2 hx3 w
    · have w := w.neg e5
      obtain ⟨g6, w⟩ := w.ogd
      rw [if_neg e5]
      refine mE_n0 (fun z7 => ?_)
      have j8 := n0_st z7 g6
      refine mE_astore (ls2 := [some (.ref 2), some (.int (Int32.ofInt x1)), some (.int (Int32.ofInt x2)), some (.int (Int32.ofInt x3)), some (.ref v2.toNat)]) c59_37 (Nat.le_of_ble_eq_true rfl) rfl ?_
      refine mE_aload c59_39 rfl ?_
      refine mE_ifnull_F c59_41 ?_
      refine mE_aload_n c59_44 rfl ?_
      refine mE_aload c59_45 rfl ?_
      refine mE_iload_n c59_47 rfl ?_
      refine mE_iload_n c59_48 rfl ?_
      refine mE_virtual1 (b := 2) (as := [.ref v2.toNat, .int (Int32.ofInt x1), .int (Int32.ofInt x2)]) (r := []) c59_49 qo59 qK11_289 qo54 rfl rfl rfl (ok_lit rfl rfl rfl) (Nat.le_of_ble_eq_true rfl) (s54 (d := d + 0) j8 hx1 hx2 w.oc) ?_
      intro v9 M10 q11 w
      by_cases e12 : v9 = 0
      · have w := w.pos e12
        refine mE_if_eq_T (t := 57) c59_52 rfl q11 e12 ?_
        exact t59_57 hx1 hx2 hx3 w
      · have w := w.neg e12
        refine mE_if_eq_F (t := 57) c59_52 rfl q11 e12 ?_
        have w := w.oinr
        refine mE_iload_n c59_55 rfl ?_
        exact mE_iret c59_56 qr59 hx3 w.osome
theorem t59_28 {X : Nat × Nat × qC} {d : Nat} {x1 : Int} {x2 : Int} {x3 : Int} {M : Mm} {o4 : Option Value} {R : Int × Mm → Prop} (hx1 : R4 x1) (hx2 : R4 x2) (hx3 : R4 x3) (w : Wp (f59_28 x1 x2 x3 M) R) : mE X (d + 6) 59 1 28 [some (.ref 2), some (.int (Int32.ofInt x1)), some (.int (Int32.ofInt x2)), some (.int (Int32.ofInt x3)), o4] [] M (fun v M2 => R (v, M2)) :=
  Wp.olp (f := fun s : Int × Mm => lb59_28 x1 x2 s.1 s.2) (s := (x3, M)) (E := E59_28 X d x1 x2 R) w (fun s w hx3 _ => tb59_28 hx1 hx2 hx3 w) hx3 _
noncomputable def f59 (x1 : Int) (x2 : Int) (M : Mm) : Option (Int × Mm) :=
  (f57 x1 M).bind fun v1 =>
  if v1 = 0 then
  (some ((-1), M))
  else
  ((f80 x2 1 30 M).bind fun v5 =>
  if v5 = 0 then
  (some ((-1), M))
  else
  (f59_28 x1 x2 (M 24 0) M))
theorem t59 {X : Nat × Nat × qC} {d : Nat} {x1 : Int} {x2 : Int} {M : Mm}  {R : Int × Mm → Prop} (hx1 : R4 x1) (hx2 : R4 x2) (w : Wp (f59 x1 x2 M) R) : mE X (d + 6) 59 1 0 [some (.ref 2), some (.int (Int32.ofInt x1)), some (.int (Int32.ofInt x2)), none, none] [] M (fun v M2 => R (v, M2)) := by
  refine mE_aload_n c59_0 rfl ?_
  refine mE_iload_n c59_1 rfl ?_
  refine mE_virtual1 (b := 2) (as := [.int (Int32.ofInt x1)]) (r := []) c59_2 qo59 qK11_282 qo57 rfl rfl rfl (ok_lit rfl rfl rfl) (Nat.le_of_ble_eq_true rfl) (s57 (d := d + 5) hx1 w.obind) ?_
  rintro v1 _ q3 ⟨rfl, w⟩
  by_cases e4 : v1 = 0
  · have w := w.pos e4
    refine mE_if_eq_T (t := 18) c59_5 rfl q3 e4 ?_
    refine mE_iconst c59_18 ?_
    exact mE_iret c59_19 qr59 (r4_n rfl) w.osome
  · have w := w.neg e4
    refine mE_if_eq_F (t := 18) c59_5 rfl q3 e4 ?_
    refine mE_iload_n c59_8 rfl ?_
    refine mE_iconst c59_9 ?_
    refine mE_bipush (x := 30) c59_10 rfl ?_
    refine mE_static1 (as := [.int (Int32.ofInt x2), .int (Int32.ofInt 1), .int (Int32.ofInt 30)]) (r := []) c59_12 qo59 (by decide) qK11_108 rfl rfl rfl (Nat.le_of_ble_eq_true rfl) (s80 (d := d + 5) hx2 (r4_n rfl) (r4_n rfl) w.obind) ?_
    rintro v5 _ q7 ⟨rfl, w⟩
    by_cases e8 : v5 = 0
    · have w := w.pos e8
      refine mE_if_ne_F (t := 20) c59_15 rfl q7 e8 ?_
      refine mE_iconst c59_18 ?_
      exact mE_iret c59_19 qr59 (r4_n rfl) w.osome
    · have w := w.neg e8
      refine mE_if_ne_T (t := 20) c59_15 rfl q7 e8 ?_
      refine mE_aload_n c59_20 rfl ?_
      refine mE_getA c59_21 qo59 qF11_19 (ok_lit rfl rfl rfl) rfl ⟨by decide, by decide⟩ ?_
      refine mE_getI c59_24 qo59 qF11_97 (ok_lit rfl rfl rfl) rfl ?_
      intro u9
      refine mE_istore_n (ls2 := [some (.ref 2), some (.int (Int32.ofInt x1)), some (.int (Int32.ofInt x2)), some (.int (Int32.ofInt (M 24 0))), none]) c59_27 (Nat.le_of_ble_eq_true rfl) rfl ?_
      exact t59_28 hx1 hx2 u9 w
theorem s59 {X : Nat × Nat × qC} {d : Nat} {x1 : Int} {x2 : Int} {M : Mm} {R : Int × Mm → Prop} (hx1 : R4 x1) (hx2 : R4 x2) (w : Wp (f59 x1 x2 M) R) : mC X (d + 7) 59 1 [.ref 2, .int (Int32.ofInt x1), .int (Int32.ofInt x2)] M (fun v M2 => R (v, M2)) :=
  mC_of (qent_mk qx59 rfl rfl rfl) (t59 hx1 hx2 w)
/-! SaggingNet.leastSet -/
def E61_12 (X : Nat × Nat × qC) (d : Nat) (r1 : Nat) (x2 : Int) (R : Int × Mm → Prop) : Int × Int × Int × Int × Mm → Prop := fun s => R4 s.1 → R4 s.2.1 → R4 s.2.2.1 → R4 s.2.2.2.1 → ∀ (o7 : Option Value), ∀ (o8 : Option Value), ∀ (o9 : Option Value), mE X (d + 6) 61 1 12 [some (.ref 2), some (.ref r1), some (.int (Int32.ofInt x2)), some (.int (Int32.ofInt s.1)), some (.int (Int32.ofInt s.2.1)), some (.int (Int32.ofInt s.2.2.1)), some (.int (Int32.ofInt s.2.2.2.1)), o7, o8, o9] [] s.2.2.2.2 (fun v M2 => R (v, M2))
noncomputable def f61_109 (r1 : Nat) (x2 : Int) (x3 : Int) (x4 : Int) (x5 : Int) (x6 : Int) (M : Mm) : Option ((Int × Int × Int × Int × Mm) ⊕ (Int × Mm)) :=
  gd (R4 (x6 + 1)) (
  some (.inl (x3, x4, x5, (x6 + 1), M)))
theorem t61_109 {X : Nat × Nat × qC} {d : Nat} {r1 : Nat} {x2 : Int} {x3 : Int} {x4 : Int} {x5 : Int} {x6 : Int} {M : Mm} {y7 : Int32} {y8 : Int32} {y9 : Int32} {R : Int × Mm → Prop} (hr1 : isSt X.1 r1) (hx2 : R4 x2) (hx3 : R4 x3) (hx4 : R4 x4) (hx5 : R4 x5) (hx6 : R4 x6) (w : Wp (f61_109 r1 x2 x3 x4 x5 x6 M) (Sum.elim (E61_12 X d r1 x2 R) R)) : mE X (d + 6) 61 1 109 [some (.ref 2), some (.ref r1), some (.int (Int32.ofInt x2)), some (.int (Int32.ofInt x3)), some (.int (Int32.ofInt x4)), some (.int (Int32.ofInt x5)), some (.int (Int32.ofInt x6)), some (.int y7), some (.int y8), some (.int y9)] [] M (fun v M2 => R (v, M2)) := by
  obtain ⟨g1, w⟩ := w.ogd
  refine mE_iinc (ls2 := [some (.ref 2), some (.ref r1), some (.int (Int32.ofInt x2)), some (.int (Int32.ofInt x3)), some (.int (Int32.ofInt x4)), some (.int (Int32.ofInt x5)), some (.int (Int32.ofInt (x6 + 1))), some (.int y7), some (.int y8), some (.int y9)]) c61_109 rfl (Nat.le_of_ble_eq_true rfl) rfl ?_
  refine mE_goto (t := 12) c61_112 rfl ?_
  exact w.osome hx3 hx4 hx5 g1 _ _ _
noncomputable def f61_98 (r1 : Nat) (x2 : Int) (x6 : Int) (x7 : Int) (x8 : Int) (M : Mm) : Option ((Int × Int × Int × Int × Mm) ⊕ (Int × Mm)) :=
  f61_109 r1 x2 x6 x7 x8 x6 M
theorem t61_98 {X : Nat × Nat × qC} {d : Nat} {r1 : Nat} {x2 : Int} {x6 : Int} {x7 : Int} {x8 : Int} {M : Mm} {y3 : Int32} {y4 : Int32} {y5 : Int32} {y9 : Int32} {R : Int × Mm → Prop} (hr1 : isSt X.1 r1) (hx2 : R4 x2) (hx6 : R4 x6) (hx7 : R4 x7) (hx8 : R4 x8) (w : Wp (f61_98 r1 x2 x6 x7 x8 M) (Sum.elim (E61_12 X d r1 x2 R) R)) : mE X (d + 6) 61 1 98 [some (.ref 2), some (.ref r1), some (.int (Int32.ofInt x2)), some (.int y3), some (.int y4), some (.int y5), some (.int (Int32.ofInt x6)), some (.int (Int32.ofInt x7)), some (.int (Int32.ofInt x8)), some (.int y9)] [] M (fun v M2 => R (v, M2)) := by
  refine mE_iload c61_98 rfl ?_
  refine mE_istore_n (ls2 := [some (.ref 2), some (.ref r1), some (.int (Int32.ofInt x2)), some (.int (Int32.ofInt x6)), some (.int y4), some (.int y5), some (.int (Int32.ofInt x6)), some (.int (Int32.ofInt x7)), some (.int (Int32.ofInt x8)), some (.int y9)]) c61_100 (Nat.le_of_ble_eq_true rfl) rfl ?_
  refine mE_iload c61_101 rfl ?_
  refine mE_istore (ls2 := [some (.ref 2), some (.ref r1), some (.int (Int32.ofInt x2)), some (.int (Int32.ofInt x6)), some (.int (Int32.ofInt x7)), some (.int y5), some (.int (Int32.ofInt x6)), some (.int (Int32.ofInt x7)), some (.int (Int32.ofInt x8)), some (.int y9)]) c61_103 (Nat.le_of_ble_eq_true rfl) rfl ?_
  refine mE_iload c61_105 rfl ?_
  refine mE_istore (ls2 := [some (.ref 2), some (.ref r1), some (.int (Int32.ofInt x2)), some (.int (Int32.ofInt x6)), some (.int (Int32.ofInt x7)), some (.int (Int32.ofInt x8)), some (.int (Int32.ofInt x6)), some (.int (Int32.ofInt x7)), some (.int (Int32.ofInt x8)), some (.int y9)]) c61_107 (Nat.le_of_ble_eq_true rfl) rfl ?_
  exact t61_109 hr1 hx2 hx6 hx7 hx8 hx6 w
noncomputable def f61_87 (r1 : Nat) (x2 : Int) (x3 : Int) (x4 : Int) (x5 : Int) (x6 : Int) (x7 : Int) (x8 : Int) (M : Mm) : Option ((Int × Int × Int × Int × Mm) ⊕ (Int × Mm)) :=
  obnd (f54 r1 x6 x2 M) fun v1 M2 =>
  if v1 = 0 then
  (f61_109 r1 x2 x3 x4 x5 x6 M2)
  else
  (f61_98 r1 x2 x6 x7 x8 M2)
theorem t61_87 {X : Nat × Nat × qC} {d : Nat} {r1 : Nat} {x2 : Int} {x3 : Int} {x4 : Int} {x5 : Int} {x6 : Int} {x7 : Int} {x8 : Int} {M : Mm} {y9 : Int32} {R : Int × Mm → Prop} (hr1 : isSt X.1 r1) (hx2 : R4 x2) (hx3 : R4 x3) (hx4 : R4 x4) (hx5 : R4 x5) (hx6 : R4 x6) (hx7 : R4 x7) (hx8 : R4 x8) (w : Wp (f61_87 r1 x2 x3 x4 x5 x6 x7 x8 M) (Sum.elim (E61_12 X d r1 x2 R) R)) : mE X (d + 6) 61 1 87 [some (.ref 2), some (.ref r1), some (.int (Int32.ofInt x2)), some (.int (Int32.ofInt x3)), some (.int (Int32.ofInt x4)), some (.int (Int32.ofInt x5)), some (.int (Int32.ofInt x6)), some (.int (Int32.ofInt x7)), some (.int (Int32.ofInt x8)), some (.int y9)] [] M (fun v M2 => R (v, M2)) := by
  refine mE_aload_n c61_87 rfl ?_
  refine mE_aload_n c61_88 rfl ?_
  refine mE_iload c61_89 rfl ?_
  refine mE_iload_n c61_91 rfl ?_
  refine mE_virtual1 (b := 2) (as := [.ref r1, .int (Int32.ofInt x6), .int (Int32.ofInt x2)]) (r := []) c61_92 qo61 qK11_289 qo54 rfl rfl rfl (ok_lit rfl rfl rfl) (Nat.le_of_ble_eq_true rfl) (s54 (d := d + 0) hr1 hx6 hx2 w.oc) ?_
  intro v1 M2 q3 w
  by_cases e4 : v1 = 0
  · have w := w.pos e4
    refine mE_if_eq_T (t := 109) c61_95 rfl q3 e4 ?_
    exact t61_109 hr1 hx2 hx3 hx4 hx5 hx6 w
  · have w := w.neg e4
    refine mE_if_eq_F (t := 109) c61_95 rfl q3 e4 ?_
    exact t61_98 hr1 hx2 hx6 hx7 hx8 w
noncomputable def lb61_12 (r1 : Nat) (x2 : Int) (x3 : Int) (x4 : Int) (x5 : Int) (x6 : Int) (M : Mm) : Option ((Int × Int × Int × Int × Mm) ⊕ (Int × Mm)) :=
  if x6 < (bShl 1 (M 3 0)) then
  ((f244 r1 (bAnd x6 (bXor (M r1 1) (-1))) M).bind fun v4 =>
  (f1 x6 M).bind fun v7 =>
  if x3 = (-2) then
  (f61_87 r1 x2 x3 x4 x5 x6 v4 v7 M)
  else
  (if v4 < x4 then
  (f61_87 r1 x2 x3 x4 x5 x6 v4 v7 M)
  else
  (if v4 = x4 then
  (if v7 < x5 then
  (f61_87 r1 x2 x3 x4 x5 x6 v4 v7 M)
  else
  (f61_109 r1 x2 x3 x4 x5 x6 M))
  else
  (f61_109 r1 x2 x3 x4 x5 x6 M))))
  else
  (oinr (some (x3, M)))
noncomputable def f61_12 (r1 : Nat) (x2 : Int) (x3 : Int) (x4 : Int) (x5 : Int) (x6 : Int) (M : Mm) : Option (Int × Mm) := lp (fun s : Int × Int × Int × Int × Mm => lb61_12 r1 x2 s.1 s.2.1 s.2.2.1 s.2.2.2.1 s.2.2.2.2) (x3, x4, x5, x6, M)
theorem tb61_12 {X : Nat × Nat × qC} {d : Nat} {r1 : Nat} {x2 : Int} {x3 : Int} {x4 : Int} {x5 : Int} {x6 : Int} {M : Mm} {o7 : Option Value} {o8 : Option Value} {o9 : Option Value} {R : Int × Mm → Prop} (hr1 : isSt X.1 r1) (hx2 : R4 x2) (hx3 : R4 x3) (hx4 : R4 x4) (hx5 : R4 x5) (hx6 : R4 x6) (w : Wp (lb61_12 r1 x2 x3 x4 x5 x6 M) (Sum.elim (E61_12 X d r1 x2 R) R)) : mE X (d + 6) 61 1 12 [some (.ref 2), some (.ref r1), some (.int (Int32.ofInt x2)), some (.int (Int32.ofInt x3)), some (.int (Int32.ofInt x4)), some (.int (Int32.ofInt x5)), some (.int (Int32.ofInt x6)), o7, o8, o9] [] M (fun v M2 => R (v, M2)) := by
  refine mE_iload c61_12 rfl ?_
  refine mE_iconst c61_14 ?_
  refine mE_aload_n c61_15 rfl ?_
  refine mE_getA c61_16 qo61 qF11_10 (ok_lit rfl rfl rfl) rfl ⟨by decide, by decide⟩ ?_
  refine mE_getI c61_19 qo61 qF11_101 (ok_lit rfl rfl rfl) rfl ?_
  intro u1
  refine mE_ishl c61_22 ?_
  by_cases e2 : x6 < (bShl 1 (M 3 0))
  · have w := w.pos e2
    refine mE_icmp_ge_F (t := 115) c61_23 rfl hx6 (r4_shl _ _) e2 ?_
    refine mE_aload_n c61_26 rfl ?_
    refine mE_iload c61_27 rfl ?_
    refine mE_aload_n c61_29 rfl ?_
    refine mE_getI c61_30 qo61 qF11_161 (ok_st0 hr1) rfl ?_
    intro u3
    refine mE_iconst c61_33 ?_
    refine mE_ixor c61_34 ?_
    refine mE_iand c61_35 ?_
    refine mE_virtual1 (b := r1) (as := [.int (Int32.ofInt (bAnd x6 (bXor (M r1 1) (-1))))]) (r := []) c61_36 qo61 qK11_350 qo244 rfl rfl rfl (ok_st0 hr1) (Nat.le_of_ble_eq_true rfl) (s244 (d := d + 5) hr1 (r4_and _ _) w.obind) ?_
    rintro v4 _ q6 ⟨rfl, w⟩
    refine mE_istore (ls2 := [some (.ref 2), some (.ref r1), some (.int (Int32.ofInt x2)), some (.int (Int32.ofInt x3)), some (.int (Int32.ofInt x4)), some (.int (Int32.ofInt x5)), some (.int (Int32.ofInt x6)), some (.int (Int32.ofInt v4)), o8, o9]) c61_39 (Nat.le_of_ble_eq_true rfl) rfl ?_
    refine mE_iload c61_41 rfl ?_
    refine mE_static1 (as := [.int (Int32.ofInt x6)]) (r := []) c61_43 qo61 (by decide) qK11_367 rfl rfl rfl (Nat.le_of_ble_eq_true rfl) (s1 (d := d + 5) hx6 w.obind) ?_
    rintro v7 _ q9 ⟨rfl, w⟩
    refine mE_istore (ls2 := [some (.ref 2), some (.ref r1), some (.int (Int32.ofInt x2)), some (.int (Int32.ofInt x3)), some (.int (Int32.ofInt x4)), some (.int (Int32.ofInt x5)), some (.int (Int32.ofInt x6)), some (.int (Int32.ofInt v4)), some (.int (Int32.ofInt v7)), o9]) c61_46 (Nat.le_of_ble_eq_true rfl) rfl ?_
    refine mE_iload_n c61_48 rfl ?_
    refine mE_bipush (x := (-2)) c61_49 rfl ?_
    by_cases e10 : x3 = (-2)
    · have w := w.pos e10
      refine mE_icmp_eq_T (t := 75) c61_51 rfl hx3 (r4_n rfl) e10 ?_
      refine mE_iconst c61_75 ?_
      refine mE_goto (t := 80) c61_76 rfl ?_
      refine mE_istore (ls2 := [some (.ref 2), some (.ref r1), some (.int (Int32.ofInt x2)), some (.int (Int32.ofInt x3)), some (.int (Int32.ofInt x4)), some (.int (Int32.ofInt x5)), some (.int (Int32.ofInt x6)), some (.int (Int32.ofInt v4)), some (.int (Int32.ofInt v7)), some (.int (Int32.ofInt 1))]) c61_80 (Nat.le_of_ble_eq_true rfl) rfl ?_
      refine mE_iload c61_82 rfl ?_
      refine mE_if_eq_F (t := 109) c61_84 rfl (r4_n rfl) (by decide) ?_
      exact t61_87 hr1 hx2 hx3 hx4 hx5 hx6 q6 q9 w
    · have w := w.neg e10
      refine mE_icmp_eq_F (t := 75) c61_51 rfl hx3 (r4_n rfl) e10 ?_
      refine mE_iload c61_54 rfl ?_
      refine mE_iload c61_56 rfl ?_
      by_cases e11 : v4 < x4
      · have w := w.pos e11
        refine mE_icmp_lt_T (t := 75) c61_58 rfl q6 hx4 e11 ?_
        refine mE_iconst c61_75 ?_
        refine mE_goto (t := 80) c61_76 rfl ?_
        refine mE_istore (ls2 := [some (.ref 2), some (.ref r1), some (.int (Int32.ofInt x2)), some (.int (Int32.ofInt x3)), some (.int (Int32.ofInt x4)), some (.int (Int32.ofInt x5)), some (.int (Int32.ofInt x6)), some (.int (Int32.ofInt v4)), some (.int (Int32.ofInt v7)), some (.int (Int32.ofInt 1))]) c61_80 (Nat.le_of_ble_eq_true rfl) rfl ?_
        refine mE_iload c61_82 rfl ?_
        refine mE_if_eq_F (t := 109) c61_84 rfl (r4_n rfl) (by decide) ?_
        exact t61_87 hr1 hx2 hx3 hx4 hx5 hx6 q6 q9 w
      · have w := w.neg e11
        refine mE_icmp_lt_F (t := 75) c61_58 rfl q6 hx4 e11 ?_
        refine mE_iload c61_61 rfl ?_
        refine mE_iload c61_63 rfl ?_
        by_cases e12 : v4 = x4
        · have w := w.pos e12
          refine mE_icmp_ne_F (t := 79) c61_65 rfl q6 hx4 e12 ?_
          refine mE_iload c61_68 rfl ?_
          refine mE_iload c61_70 rfl ?_
          by_cases e13 : v7 < x5
          · have w := w.pos e13
            refine mE_icmp_ge_F (t := 79) c61_72 rfl q9 hx5 e13 ?_
            refine mE_iconst c61_75 ?_
            refine mE_goto (t := 80) c61_76 rfl ?_
            refine mE_istore (ls2 := [some (.ref 2), some (.ref r1), some (.int (Int32.ofInt x2)), some (.int (Int32.ofInt x3)), some (.int (Int32.ofInt x4)), some (.int (Int32.ofInt x5)), some (.int (Int32.ofInt x6)), some (.int (Int32.ofInt v4)), some (.int (Int32.ofInt v7)), some (.int (Int32.ofInt 1))]) c61_80 (Nat.le_of_ble_eq_true rfl) rfl ?_
            refine mE_iload c61_82 rfl ?_
            refine mE_if_eq_F (t := 109) c61_84 rfl (r4_n rfl) (by decide) ?_
            exact t61_87 hr1 hx2 hx3 hx4 hx5 hx6 q6 q9 w
          · have w := w.neg e13
            refine mE_icmp_ge_T (t := 79) c61_72 rfl q9 hx5 e13 ?_
            refine mE_iconst c61_79 ?_
            refine mE_istore (ls2 := [some (.ref 2), some (.ref r1), some (.int (Int32.ofInt x2)), some (.int (Int32.ofInt x3)), some (.int (Int32.ofInt x4)), some (.int (Int32.ofInt x5)), some (.int (Int32.ofInt x6)), some (.int (Int32.ofInt v4)), some (.int (Int32.ofInt v7)), some (.int (Int32.ofInt 0))]) c61_80 (Nat.le_of_ble_eq_true rfl) rfl ?_
            refine mE_iload c61_82 rfl ?_
            refine mE_if_eq_T (t := 109) c61_84 rfl (r4_n rfl) (by decide) ?_
            exact t61_109 hr1 hx2 hx3 hx4 hx5 hx6 w
        · have w := w.neg e12
          refine mE_icmp_ne_T (t := 79) c61_65 rfl q6 hx4 e12 ?_
          refine mE_iconst c61_79 ?_
          refine mE_istore (ls2 := [some (.ref 2), some (.ref r1), some (.int (Int32.ofInt x2)), some (.int (Int32.ofInt x3)), some (.int (Int32.ofInt x4)), some (.int (Int32.ofInt x5)), some (.int (Int32.ofInt x6)), some (.int (Int32.ofInt v4)), some (.int (Int32.ofInt v7)), some (.int (Int32.ofInt 0))]) c61_80 (Nat.le_of_ble_eq_true rfl) rfl ?_
          refine mE_iload c61_82 rfl ?_
          refine mE_if_eq_T (t := 109) c61_84 rfl (r4_n rfl) (by decide) ?_
          exact t61_109 hr1 hx2 hx3 hx4 hx5 hx6 w
  · have w := w.neg e2
    refine mE_icmp_ge_T (t := 115) c61_23 rfl hx6 (r4_shl _ _) e2 ?_
    have w := w.oinr
    refine mE_iload_n c61_115 rfl ?_
    exact mE_iret c61_116 qr61 hx3 w.osome
theorem t61_12 {X : Nat × Nat × qC} {d : Nat} {r1 : Nat} {x2 : Int} {x3 : Int} {x4 : Int} {x5 : Int} {x6 : Int} {M : Mm} {o7 : Option Value} {o8 : Option Value} {o9 : Option Value} {R : Int × Mm → Prop} (hr1 : isSt X.1 r1) (hx2 : R4 x2) (hx3 : R4 x3) (hx4 : R4 x4) (hx5 : R4 x5) (hx6 : R4 x6) (w : Wp (f61_12 r1 x2 x3 x4 x5 x6 M) R) : mE X (d + 6) 61 1 12 [some (.ref 2), some (.ref r1), some (.int (Int32.ofInt x2)), some (.int (Int32.ofInt x3)), some (.int (Int32.ofInt x4)), some (.int (Int32.ofInt x5)), some (.int (Int32.ofInt x6)), o7, o8, o9] [] M (fun v M2 => R (v, M2)) :=
  Wp.olp (f := fun s : Int × Int × Int × Int × Mm => lb61_12 r1 x2 s.1 s.2.1 s.2.2.1 s.2.2.2.1 s.2.2.2.2) (s := (x3, x4, x5, x6, M)) (E := E61_12 X d r1 x2 R) w (fun s w hx3 hx4 hx5 hx6 _ _ _ => tb61_12 hr1 hx2 hx3 hx4 hx5 hx6 w) hx3 hx4 hx5 hx6 _ _ _
noncomputable def f61 (r1 : Nat) (x2 : Int) (M : Mm) : Option (Int × Mm) :=
  f61_12 r1 x2 (-2) 0 0 0 M
theorem t61 {X : Nat × Nat × qC} {d : Nat} {r1 : Nat} {x2 : Int} {M : Mm}  {R : Int × Mm → Prop} (hr1 : isSt X.1 r1) (hx2 : R4 x2) (w : Wp (f61 r1 x2 M) R) : mE X (d + 6) 61 1 0 [some (.ref 2), some (.ref r1), some (.int (Int32.ofInt x2)), none, none, none, none, none, none, none] [] M (fun v M2 => R (v, M2)) := by
  refine mE_bipush (x := (-2)) c61_0 rfl ?_
  refine mE_istore_n (ls2 := [some (.ref 2), some (.ref r1), some (.int (Int32.ofInt x2)), some (.int (Int32.ofInt (-2))), none, none, none, none, none, none]) c61_2 (Nat.le_of_ble_eq_true rfl) rfl ?_
  refine mE_iconst c61_3 ?_
  refine mE_istore (ls2 := [some (.ref 2), some (.ref r1), some (.int (Int32.ofInt x2)), some (.int (Int32.ofInt (-2))), some (.int (Int32.ofInt 0)), none, none, none, none, none]) c61_4 (Nat.le_of_ble_eq_true rfl) rfl ?_
  refine mE_iconst c61_6 ?_
  refine mE_istore (ls2 := [some (.ref 2), some (.ref r1), some (.int (Int32.ofInt x2)), some (.int (Int32.ofInt (-2))), some (.int (Int32.ofInt 0)), some (.int (Int32.ofInt 0)), none, none, none, none]) c61_7 (Nat.le_of_ble_eq_true rfl) rfl ?_
  refine mE_iconst c61_9 ?_
  refine mE_istore (ls2 := [some (.ref 2), some (.ref r1), some (.int (Int32.ofInt x2)), some (.int (Int32.ofInt (-2))), some (.int (Int32.ofInt 0)), some (.int (Int32.ofInt 0)), some (.int (Int32.ofInt 0)), none, none, none]) c61_10 (Nat.le_of_ble_eq_true rfl) rfl ?_
  exact t61_12 hr1 hx2 (r4_n rfl) (r4_n rfl) (r4_n rfl) (r4_n rfl) w
theorem s61 {X : Nat × Nat × qC} {d : Nat} {r1 : Nat} {x2 : Int} {M : Mm} {R : Int × Mm → Prop} (hr1 : isSt X.1 r1) (hx2 : R4 x2) (w : Wp (f61 r1 x2 M) R) : mC X (d + 7) 61 1 [.ref 2, .ref r1, .int (Int32.ofInt x2)] M (fun v M2 => R (v, M2)) :=
  mC_of (qent_mk qx61 rfl rfl rfl) (t61 hr1 hx2 w)
/-! SaggingNet.least -/
noncomputable def f60 (x1 : Int) (x2 : Int) (M : Mm) : Option (Int × Mm) :=
  (f73 x1 M).bind fun v1 =>
  if v1 = 0 then
  (some ((-1), M))
  else
  (gd (isSt (M 0 0).toNat v1.toNat) (
  (f80 x2 1 30 M).bind fun v8 =>
  if v8 = 0 then
  (some ((-1), M))
  else
  (obnd (f61 v1.toNat x2 M) fun v12 M13 =>
  some (v12, M13))))
theorem t60 {X : Nat × Nat × qC} {d : Nat} {x1 : Int} {x2 : Int} {M : Mm}  {R : Int × Mm → Prop} (hx1 : R4 x1) (hx2 : R4 x2) (w : Wp (f60 x1 x2 M) R) : mE X (d + 7) 60 1 0 [some (.ref 2), some (.int (Int32.ofInt x1)), some (.int (Int32.ofInt x2)), none] [] M (fun v M2 => R (v, M2)) := by
  refine mE_aload_n c60_0 rfl ?_
  refine mE_iload_n c60_1 rfl ?_
  refine mE_virtual3 (b := 2) (as := [.int (Int32.ofInt x1)]) (r := []) c60_2 qo60 qK11_285 qo73 rfl rfl rfl (ok_lit rfl rfl rfl) (Nat.le_of_ble_eq_true rfl) (s73 (d := d + 5) hx1 w.obind) ?_
  rintro v1 _ q3 ⟨rfl, w⟩
  by_cases e4 : v1 = 0
  · have w := w.pos e4
    rw [if_pos e4]
    refine mE_astore_nN (ls2 := [some (.ref 2), some (.int (Int32.ofInt x1)), some (.int (Int32.ofInt x2)), some (.null)]) c60_5 (Nat.le_of_ble_eq_true rfl) rfl ?_
    refine mE_aload_nN c60_6 rfl ?_
    refine mE_ifnull_T (t := 20) c60_7 rfl ?_
    refine mE_iconst c60_20 ?_
    exact mE_iret c60_21 qr60 (r4_n rfl) w.osome
  · have w := w.neg e4
    obtain ⟨g5, w⟩ := w.ogd
    rw [if_neg e4]
    refine mE_n0 (fun z6 => ?_)
    have j7 := n0_st z6 g5
    refine mE_astore_n (ls2 := [some (.ref 2), some (.int (Int32.ofInt x1)), some (.int (Int32.ofInt x2)), some (.ref v1.toNat)]) c60_5 (Nat.le_of_ble_eq_true rfl) rfl ?_
    refine mE_aload_n c60_6 rfl ?_
    refine mE_ifnull_F c60_7 ?_
    refine mE_iload_n c60_10 rfl ?_
    refine mE_iconst c60_11 ?_
    refine mE_bipush (x := 30) c60_12 rfl ?_
    refine mE_static1 (as := [.int (Int32.ofInt x2), .int (Int32.ofInt 1), .int (Int32.ofInt 30)]) (r := []) c60_14 qo60 (by decide) qK11_108 rfl rfl rfl (Nat.le_of_ble_eq_true rfl) (s80 (d := d + 6) hx2 (r4_n rfl) (r4_n rfl) w.obind) ?_
    rintro v8 _ q10 ⟨rfl, w⟩
    by_cases e11 : v8 = 0
    · have w := w.pos e11
      refine mE_if_ne_F (t := 22) c60_17 rfl q10 e11 ?_
      refine mE_iconst c60_20 ?_
      exact mE_iret c60_21 qr60 (r4_n rfl) w.osome
    · have w := w.neg e11
      refine mE_if_ne_T (t := 22) c60_17 rfl q10 e11 ?_
      refine mE_aload_n c60_22 rfl ?_
      refine mE_aload_n c60_23 rfl ?_
      refine mE_iload_n c60_24 rfl ?_
      refine mE_virtual1 (b := 2) (as := [.ref v1.toNat, .int (Int32.ofInt x2)]) (r := []) c60_25 qo60 qK11_293 qo61 rfl rfl rfl (ok_lit rfl rfl rfl) (Nat.le_of_ble_eq_true rfl) (s61 (d := d + 0) j7 hx2 w.oc) ?_
      intro v12 M13 q14 w
      exact mE_iret c60_28 qr60 q14 w.osome
theorem s60 {X : Nat × Nat × qC} {d : Nat} {x1 : Int} {x2 : Int} {M : Mm} {R : Int × Mm → Prop} (hx1 : R4 x1) (hx2 : R4 x2) (w : Wp (f60 x1 x2 M) R) : mC X (d + 8) 60 1 [.ref 2, .int (Int32.ofInt x1), .int (Int32.ofInt x2)] M (fun v M2 => R (v, M2)) :=
  mC_of (qent_mk qx60 rfl rfl rfl) (t60 hx1 hx2 w)
/-! SaggingNet$Net.hasSpot -/
noncomputable def f214 (x1 : Int) (M : Mm) : Option (Int) :=
  if x1 < 0 then
  (some 0)
  else
  (if x1 < (M 3 0) then
  (some 1)
  else
  (some 0))
theorem t214 {X : Nat × Nat × qC} {d : Nat} {x1 : Int} {M : Mm}  {R : Int → Prop} (hx1 : R4 x1) (w : Wp (f214 x1 M) R) : mE X (d + 0) 214 1 0 [some (.ref 3), some (.int (Int32.ofInt x1))] [] M (fun v M2 => M = M2 ∧ R v) := by
  refine mE_iload_n c214_0 rfl ?_
  by_cases e1 : x1 < 0
  · have w := w.pos e1
    refine mE_if_lt_T (t := 16) c214_1 rfl hx1 e1 ?_
    refine mE_iconst c214_16 ?_
    exact mE_zret c214_17 qr214 (Or.inl rfl) ⟨rfl, w.osome⟩
  · have w := w.neg e1
    refine mE_if_lt_F (t := 16) c214_1 rfl hx1 e1 ?_
    refine mE_iload_n c214_4 rfl ?_
    refine mE_aload_n c214_5 rfl ?_
    refine mE_getI c214_6 qo214 qF4_62 (ok_lit rfl rfl rfl) rfl ?_
    intro u2
    by_cases e3 : x1 < (M 3 0)
    · have w := w.pos e3
      refine mE_icmp_ge_F (t := 16) c214_9 rfl hx1 u2 e3 ?_
      refine mE_iconst c214_12 ?_
      refine mE_goto (t := 17) c214_13 rfl ?_
      exact mE_zret c214_17 qr214 (Or.inr rfl) ⟨rfl, w.osome⟩
    · have w := w.neg e3
      refine mE_icmp_ge_T (t := 16) c214_9 rfl hx1 u2 e3 ?_
      refine mE_iconst c214_16 ?_
      exact mE_zret c214_17 qr214 (Or.inl rfl) ⟨rfl, w.osome⟩
theorem s214 {X : Nat × Nat × qC} {d : Nat} {x1 : Int} {M : Mm} {R : Int → Prop} (hx1 : R4 x1) (w : Wp (f214 x1 M) R) : mC X (d + 1) 214 1 [.ref 3, .int (Int32.ofInt x1)] M (fun v M2 => M = M2 ∧ R v) :=
  mC_of (qent_mk qx214 rfl rfl rfl) (t214 hx1 w)
/-! SaggingNet.load -/
noncomputable def f62 (x1 : Int) (x2 : Int) (M : Mm) : Option (Int × Mm) :=
  (f214 x1 M).bind fun v1 =>
  if v1 = 0 then
  (some (0, M))
  else
  ((f80 x2 0 2000 M).bind fun v5 =>
  if v5 = 0 then
  (some (0, M))
  else
  (gd (0 ≤ x1 ∧ x1 < 8) (
  mlet (ms M 25 (x1).toNat x2) fun M10 =>
  some (1, M10))))
theorem t62 {X : Nat × Nat × qC} {d : Nat} {x1 : Int} {x2 : Int} {M : Mm}  {R : Int × Mm → Prop} (hx1 : R4 x1) (hx2 : R4 x2) (w : Wp (f62 x1 x2 M) R) : mE X (d + 1) 62 1 0 [some (.ref 2), some (.int (Int32.ofInt x1)), some (.int (Int32.ofInt x2))] [] M (fun v M2 => R (v, M2)) := by
  refine mE_aload_n c62_0 rfl ?_
  refine mE_getA c62_1 qo62 qF11_10 (ok_lit rfl rfl rfl) rfl ⟨by decide, by decide⟩ ?_
  refine mE_iload_n c62_4 rfl ?_
  refine mE_virtual1 (b := 3) (as := [.int (Int32.ofInt x1)]) (r := []) c62_5 qo62 qK11_122 qo214 rfl rfl rfl (ok_lit rfl rfl rfl) (Nat.le_of_ble_eq_true rfl) (s214 (d := d + 0) hx1 w.obind) ?_
  rintro v1 _ q3 ⟨rfl, w⟩
  by_cases e4 : v1 = 0
  · have w := w.pos e4
    refine mE_if_eq_T (t := 22) c62_8 rfl q3 e4 ?_
    refine mE_iconst c62_22 ?_
    exact mE_zret c62_23 qr62 (Or.inl rfl) w.osome
  · have w := w.neg e4
    refine mE_if_eq_F (t := 22) c62_8 rfl q3 e4 ?_
    refine mE_iload_n c62_11 rfl ?_
    refine mE_iconst c62_12 ?_
    refine mE_sipush (x := 2000) c62_13 rfl ?_
    refine mE_static1 (as := [.int (Int32.ofInt x2), .int (Int32.ofInt 0), .int (Int32.ofInt 2000)]) (r := []) c62_16 qo62 (by decide) qK11_108 rfl rfl rfl (Nat.le_of_ble_eq_true rfl) (s80 (d := d + 0) hx2 (r4_n rfl) (r4_n rfl) w.obind) ?_
    rintro v5 _ q7 ⟨rfl, w⟩
    by_cases e8 : v5 = 0
    · have w := w.pos e8
      refine mE_if_ne_F (t := 24) c62_19 rfl q7 e8 ?_
      refine mE_iconst c62_22 ?_
      exact mE_zret c62_23 qr62 (Or.inl rfl) w.osome
    · have w := w.neg e8
      refine mE_if_ne_T (t := 24) c62_19 rfl q7 e8 ?_
      refine mE_aload_n c62_24 rfl ?_
      refine mE_getA c62_25 qo62 qF11_19 (ok_lit rfl rfl rfl) rfl ⟨by decide, by decide⟩ ?_
      refine mE_getA c62_28 qo62 qF11_112 (ok_lit rfl rfl rfl) rfl ⟨by decide, by decide⟩ ?_
      refine mE_iload_n c62_31 rfl ?_
      refine mE_iload_n c62_32 rfl ?_
      obtain ⟨g9, w⟩ := w.ogd
      obtain ⟨M10, m11, w⟩ := w.mlet
      refine mE_iastore c62_33 (ok_lit rfl rfl rfl) hx1 g9 hx2 ?_
      refine mE_M m11 ?_
      refine mE_iconst c62_34 ?_
      exact mE_zret c62_35 qr62 (Or.inr rfl) w.osome
theorem s62 {X : Nat × Nat × qC} {d : Nat} {x1 : Int} {x2 : Int} {M : Mm} {R : Int × Mm → Prop} (hx1 : R4 x1) (hx2 : R4 x2) (w : Wp (f62 x1 x2 M) R) : mC X (d + 2) 62 1 [.ref 2, .int (Int32.ofInt x1), .int (Int32.ofInt x2)] M (fun v M2 => R (v, M2)) :=
  mC_of (qent_mk qx62 rfl rfl rfl) (t62 hx1 hx2 w)
/-! SaggingNet.mend -/
noncomputable def f63 (x1 : Int) (M : Mm) : Option (Int × Mm) :=
  (f215 x1 M).bind fun v1 =>
  if v1 = 0 then
  (some (0, M))
  else
  (gd (0 ≤ x1 ∧ x1 < 14) (
  if (M 26 (x1).toNat) = 3 then
  (mlet (ms M 26 (x1).toNat 1) fun M8 =>
  some (1, M8))
  else
  (some (0, M))))
theorem t63 {X : Nat × Nat × qC} {d : Nat} {x1 : Int} {M : Mm}  {R : Int × Mm → Prop} (hx1 : R4 x1) (w : Wp (f63 x1 M) R) : mE X (d + 1) 63 1 0 [some (.ref 2), some (.int (Int32.ofInt x1))] [] M (fun v M2 => R (v, M2)) := by
  refine mE_aload_n c63_0 rfl ?_
  refine mE_getA c63_1 qo63 qF11_10 (ok_lit rfl rfl rfl) rfl ⟨by decide, by decide⟩ ?_
  refine mE_iload_n c63_4 rfl ?_
  refine mE_virtual1 (b := 3) (as := [.int (Int32.ofInt x1)]) (r := []) c63_5 qo63 qK11_140 qo215 rfl rfl rfl (ok_lit rfl rfl rfl) (Nat.le_of_ble_eq_true rfl) (s215 (d := d + 0) hx1 w.obind) ?_
  rintro v1 _ q3 ⟨rfl, w⟩
  by_cases e4 : v1 = 0
  · have w := w.pos e4
    refine mE_if_eq_T (t := 24) c63_8 rfl q3 e4 ?_
    refine mE_iconst c63_24 ?_
    exact mE_zret c63_25 qr63 (Or.inl rfl) w.osome
  · have w := w.neg e4
    refine mE_if_eq_F (t := 24) c63_8 rfl q3 e4 ?_
    refine mE_aload_n c63_11 rfl ?_
    refine mE_getA c63_12 qo63 qF11_19 (ok_lit rfl rfl rfl) rfl ⟨by decide, by decide⟩ ?_
    refine mE_getA c63_15 qo63 qF11_149 (ok_lit rfl rfl rfl) rfl ⟨by decide, by decide⟩ ?_
    refine mE_iload_n c63_18 rfl ?_
    obtain ⟨g5, w⟩ := w.ogd
    refine mE_iaload c63_19 (ok_lit rfl rfl rfl) hx1 g5 ?_
    intro u6
    refine mE_iconst c63_20 ?_
    by_cases e7 : (M 26 (x1).toNat) = 3
    · have w := w.pos e7
      refine mE_icmp_eq_T (t := 26) c63_21 rfl u6 (r4_n rfl) e7 ?_
      refine mE_aload_n c63_26 rfl ?_
      refine mE_getA c63_27 qo63 qF11_19 (ok_lit rfl rfl rfl) rfl ⟨by decide, by decide⟩ ?_
      refine mE_getA c63_30 qo63 qF11_149 (ok_lit rfl rfl rfl) rfl ⟨by decide, by decide⟩ ?_
      refine mE_iload_n c63_33 rfl ?_
      refine mE_iconst c63_34 ?_
      obtain ⟨M8, m9, w⟩ := w.mlet
      refine mE_iastore c63_35 (ok_lit rfl rfl rfl) hx1 g5 (r4_n rfl) ?_
      refine mE_M m9 ?_
      refine mE_iconst c63_36 ?_
      exact mE_zret c63_37 qr63 (Or.inr rfl) w.osome
    · have w := w.neg e7
      refine mE_icmp_eq_F (t := 26) c63_21 rfl u6 (r4_n rfl) e7 ?_
      refine mE_iconst c63_24 ?_
      exact mE_zret c63_25 qr63 (Or.inl rfl) w.osome
theorem s63 {X : Nat × Nat × qC} {d : Nat} {x1 : Int} {M : Mm} {R : Int × Mm → Prop} (hx1 : R4 x1) (w : Wp (f63 x1 M) R) : mC X (d + 2) 63 1 [.ref 2, .int (Int32.ofInt x1)] M (fun v M2 => R (v, M2)) :=
  mC_of (qent_mk qx63 rfl rfl rfl) (t63 hx1 w)
/-! SaggingNet$Clocks.bound -/
def E200_77 (X : Nat × Nat × qC) (d : Nat)  (R : Mm → Prop) : Int × Mm → Prop := fun s => R4 s.1 → ∀ (o2 : Option Value), ∀ (o3 : Option Value), mE X (d + 1) 200 0 77 [some (.ref 112), some (.int (Int32.ofInt s.1)), o2, o3] [] s.2 (fun v M2 => R M2)
def E200_35 (X : Nat × Nat × qC) (d : Nat)  (R : Mm → Prop) : Int × Mm → Prop := fun s => R4 s.1 → mE X (d + 1) 200 0 35 [some (.ref 112), some (.int (Int32.ofInt s.1)), none, none] [] s.2 (fun v M2 => R M2)
def E200_2 (X : Nat × Nat × qC) (d : Nat)  (R : Mm → Prop) : Int × Mm → Prop := fun s => R4 s.1 → mE X (d + 1) 200 0 2 [some (.ref 112), some (.int (Int32.ofInt s.1)), none, none] [] s.2 (fun v M2 => R M2)
noncomputable def lb200_77 (x1 : Int) (M : Mm) : Option ((Int × Mm) ⊕ (Mm)) :=
  if x1 < (M 112 1) then
  (gd (0 ≤ x1 ∧ x1 < 100) (
  gd (0 ≤ (M 117 (x1).toNat) ∧ (M 117 (x1).toNat) < 40) (
  gd (0 ≤ (M 118 (x1).toNat) ∧ (M 118 (x1).toNat) < 40) (
  gd (0 ≤ (M 115 ((M 117 (x1).toNat)).toNat) ∧ (M 115 ((M 117 (x1).toNat)).toNat) < 5) (
  gd (0 ≤ (M 115 ((M 118 (x1).toNat)).toNat) ∧ (M 115 ((M 118 (x1).toNat)).toNat) < 5) (
  gd (R4 ((M 116 ((M 118 (x1).toNat)).toNat) - (M 116 ((M 117 (x1).toNat)).toNat))) (
  (f6 (M (120 + ((M 115 ((M 117 (x1).toNat)).toNat)).toNat) ((M 115 ((M 118 (x1).toNat)).toNat)).toNat) ((M 116 ((M 118 (x1).toNat)).toNat) - (M 116 ((M 117 (x1).toNat)).toNat)) M).bind fun v18 =>
  mlet (ms M (120 + ((M 115 ((M 117 (x1).toNat)).toNat)).toNat) ((M 115 ((M 118 (x1).toNat)).toNat)).toNat v18) fun M21 =>
  gd (R4 (x1 + 1)) (
  some (.inl ((x1 + 1), M21))))))))))
  else
  (oinr (some M))
noncomputable def f200_77 (x1 : Int) (M : Mm) : Option (Mm) := lp (fun s : Int × Mm => lb200_77  s.1 s.2) (x1, M)
theorem tb200_77 {X : Nat × Nat × qC} {d : Nat} {x1 : Int} {M : Mm} {o2 : Option Value} {o3 : Option Value} {R : Mm → Prop} (hx1 : R4 x1) (w : Wp (lb200_77 x1 M) (Sum.elim (E200_77 X d  R) R)) : mE X (d + 1) 200 0 77 [some (.ref 112), some (.int (Int32.ofInt x1)), o2, o3] [] M (fun v M2 => R M2) := by
  refine mE_iload_n c200_77 rfl ?_
  refine mE_aload_n c200_78 rfl ?_
  refine mE_getI c200_79 qo200 qF2_39 (ok_lit rfl rfl rfl) rfl ?_
  intro u1
  by_cases e2 : x1 < (M 112 1)
  · have w := w.pos e2
    refine mE_icmp_ge_F (t := 157) c200_82 rfl hx1 u1 e2 ?_
    refine mE_aload_n c200_85 rfl ?_
    refine mE_getA c200_86 qo200 qF2_18 (ok_lit rfl rfl rfl) rfl ⟨by decide, by decide⟩ ?_
    refine mE_aload_n c200_89 rfl ?_
    refine mE_getA c200_90 qo200 qF2_24 (ok_lit rfl rfl rfl) rfl ⟨by decide, by decide⟩ ?_
    refine mE_iload_n c200_93 rfl ?_
    obtain ⟨g3, w⟩ := w.ogd
    refine mE_iaload c200_94 (ok_lit rfl rfl rfl) hx1 g3 ?_
    intro u4
    obtain ⟨g5, w⟩ := w.ogd
    refine mE_iaload c200_95 (ok_lit rfl rfl rfl) u4 g5 ?_
    intro u6
    refine mE_istore_n (ls2 := [some (.ref 112), some (.int (Int32.ofInt x1)), some (.int (Int32.ofInt (M 115 ((M 117 (x1).toNat)).toNat))), o3]) c200_96 (Nat.le_of_ble_eq_true rfl) rfl ?_
    refine mE_aload_n c200_97 rfl ?_
    refine mE_getA c200_98 qo200 qF2_18 (ok_lit rfl rfl rfl) rfl ⟨by decide, by decide⟩ ?_
    refine mE_aload_n c200_101 rfl ?_
    refine mE_getA c200_102 qo200 qF2_27 (ok_lit rfl rfl rfl) rfl ⟨by decide, by decide⟩ ?_
    refine mE_iload_n c200_105 rfl ?_
    refine mE_iaload c200_106 (ok_lit rfl rfl rfl) hx1 g3 ?_
    intro u7
    obtain ⟨g8, w⟩ := w.ogd
    refine mE_iaload c200_107 (ok_lit rfl rfl rfl) u7 g8 ?_
    intro u9
    refine mE_istore_n (ls2 := [some (.ref 112), some (.int (Int32.ofInt x1)), some (.int (Int32.ofInt (M 115 ((M 117 (x1).toNat)).toNat))), some (.int (Int32.ofInt (M 115 ((M 118 (x1).toNat)).toNat)))]) c200_108 (Nat.le_of_ble_eq_true rfl) rfl ?_
    refine mE_aload_n c200_109 rfl ?_
    refine mE_getA c200_110 qo200 qF2_32 (ok_lit rfl rfl rfl) rfl ⟨by decide, by decide⟩ ?_
    refine mE_iload_n c200_113 rfl ?_
    obtain ⟨g10, w⟩ := w.ogd
    refine mE_aaload3 c200_114 (ok_lit rfl rfl rfl) (Or.inr (Or.inl rfl)) u6 g10 ?_
    refine mE_iload_n c200_115 rfl ?_
    refine mE_aload_n c200_116 rfl ?_
    refine mE_getA c200_117 qo200 qF2_32 (ok_lit rfl rfl rfl) rfl ⟨by decide, by decide⟩ ?_
    refine mE_iload_n c200_120 rfl ?_
    refine mE_aaload3 c200_121 (ok_lit rfl rfl rfl) (Or.inr (Or.inl rfl)) u6 g10 ?_
    refine mE_iload_n c200_122 rfl ?_
    obtain ⟨g11, w⟩ := w.ogd
    refine mE_iaload c200_123 (ok_lead g10) u9 g11 ?_
    intro u12
    refine mE_aload_n c200_124 rfl ?_
    refine mE_getA c200_125 qo200 qF2_21 (ok_lit rfl rfl rfl) rfl ⟨by decide, by decide⟩ ?_
    refine mE_aload_n c200_128 rfl ?_
    refine mE_getA c200_129 qo200 qF2_27 (ok_lit rfl rfl rfl) rfl ⟨by decide, by decide⟩ ?_
    refine mE_iload_n c200_132 rfl ?_
    refine mE_iaload c200_133 (ok_lit rfl rfl rfl) hx1 g3 ?_
    intro u13
    refine mE_iaload c200_134 (ok_lit rfl rfl rfl) u13 g8 ?_
    intro u14
    refine mE_aload_n c200_135 rfl ?_
    refine mE_getA c200_136 qo200 qF2_21 (ok_lit rfl rfl rfl) rfl ⟨by decide, by decide⟩ ?_
    refine mE_aload_n c200_139 rfl ?_
    refine mE_getA c200_140 qo200 qF2_24 (ok_lit rfl rfl rfl) rfl ⟨by decide, by decide⟩ ?_
    refine mE_iload_n c200_143 rfl ?_
    refine mE_iaload c200_144 (ok_lit rfl rfl rfl) hx1 g3 ?_
    intro u15
    refine mE_iaload c200_145 (ok_lit rfl rfl rfl) u15 g5 ?_
    intro u16
    obtain ⟨g17, w⟩ := w.ogd
    refine mE_isub c200_146 ?_
    refine mE_static1 (as := [.int (Int32.ofInt (M (120 + ((M 115 ((M 117 (x1).toNat)).toNat)).toNat) ((M 115 ((M 118 (x1).toNat)).toNat)).toNat)), .int (Int32.ofInt ((M 116 ((M 118 (x1).toNat)).toNat) - (M 116 ((M 117 (x1).toNat)).toNat)))]) (r := [.int (Int32.ofInt (M 115 ((M 118 (x1).toNat)).toNat)), .ref (120 + ((M 115 ((M 117 (x1).toNat)).toNat)).toNat)]) c200_147 qo200 (by decide) qK2_55 rfl rfl rfl (Nat.le_of_ble_eq_true rfl) (s6 (d := d + 0) u12 g17 w.obind) ?_
    rintro v18 _ q20 ⟨rfl, w⟩
    obtain ⟨M21, m22, w⟩ := w.mlet
    refine mE_iastore c200_150 (ok_lead g10) u9 g11 q20 ?_
    refine mE_M m22 ?_
    obtain ⟨g23, w⟩ := w.ogd
    refine mE_iinc (ls2 := [some (.ref 112), some (.int (Int32.ofInt (x1 + 1))), some (.int (Int32.ofInt (M 115 ((M 117 (x1).toNat)).toNat))), some (.int (Int32.ofInt (M 115 ((M 118 (x1).toNat)).toNat)))]) c200_151 rfl (Nat.le_of_ble_eq_true rfl) rfl ?_
    refine mE_goto (t := 77) c200_154 rfl ?_
    exact w.osome g23 _ _
  · have w := w.neg e2
    refine mE_icmp_ge_T (t := 157) c200_82 rfl hx1 u1 e2 ?_
    have w := w.oinr
    exact mE_vret c200_157 qr200 w.osome
theorem t200_77 {X : Nat × Nat × qC} {d : Nat} {x1 : Int} {M : Mm} {o2 : Option Value} {o3 : Option Value} {R : Mm → Prop} (hx1 : R4 x1) (w : Wp (f200_77 x1 M) R) : mE X (d + 1) 200 0 77 [some (.ref 112), some (.int (Int32.ofInt x1)), o2, o3] [] M (fun v M2 => R M2) :=
  Wp.olp (f := fun s : Int × Mm => lb200_77  s.1 s.2) (s := (x1, M)) (E := E200_77 X d  R) w (fun s w hx1 _ _ => tb200_77 hx1 w) hx1 _ _
noncomputable def lb200_35 (x1 : Int) (M : Mm) : Option ((Int × Mm) ⊕ (Mm)) :=
  if x1 < 4 then
  (gd (0 ≤ x1 ∧ x1 < 4) (
  gd (0 ≤ x1 ∧ x1 < 5) (
  mlet (ms M (120 + 4) (x1).toNat (M 114 (x1).toNat)) fun M5 =>
  gd (R4 (-(M5 113 (x1).toNat))) (
  mlet (ms M5 (120 + (x1).toNat) 4 (-(M5 113 (x1).toNat))) fun M9 =>
  gd (R4 (x1 + 1)) (
  some (.inl ((x1 + 1), M9)))))))
  else
  (oinr (f200_77 0 M))
noncomputable def f200_35 (x1 : Int) (M : Mm) : Option (Mm) := lp (fun s : Int × Mm => lb200_35  s.1 s.2) (x1, M)
theorem tb200_35 {X : Nat × Nat × qC} {d : Nat} {x1 : Int} {M : Mm}  {R : Mm → Prop} (hx1 : R4 x1) (w : Wp (lb200_35 x1 M) (Sum.elim (E200_35 X d  R) R)) : mE X (d + 1) 200 0 35 [some (.ref 112), some (.int (Int32.ofInt x1)), none, none] [] M (fun v M2 => R M2) := by
  refine mE_iload_n c200_35 rfl ?_
  refine mE_iconst c200_36 ?_
  by_cases e1 : x1 < 4
  · have w := w.pos e1
    refine mE_icmp_ge_F (t := 75) c200_37 rfl hx1 (r4_n rfl) e1 ?_
    refine mE_aload_n c200_40 rfl ?_
    refine mE_getA c200_41 qo200 qF2_32 (ok_lit rfl rfl rfl) rfl ⟨by decide, by decide⟩ ?_
    refine mE_iconst c200_44 ?_
    refine mE_aaload3 c200_45 (ok_lit rfl rfl rfl) (Or.inr (Or.inl rfl)) (r4_n rfl) (by decide) ?_
    refine mE_iload_n c200_46 rfl ?_
    refine mE_aload_n c200_47 rfl ?_
    refine mE_getA c200_48 qo200 qF2_15 (ok_lit rfl rfl rfl) rfl ⟨by decide, by decide⟩ ?_
    refine mE_iload_n c200_51 rfl ?_
    obtain ⟨g2, w⟩ := w.ogd
    refine mE_iaload c200_52 (ok_lit rfl rfl rfl) hx1 g2 ?_
    intro u3
    obtain ⟨g4, w⟩ := w.ogd
    obtain ⟨M5, m6, w⟩ := w.mlet
    refine mE_iastore c200_53 (ok_lead (by decide)) hx1 g4 u3 ?_
    refine mE_M m6 ?_
    refine mE_aload_n c200_54 rfl ?_
    refine mE_getA c200_55 qo200 qF2_32 (ok_lit rfl rfl rfl) rfl ⟨by decide, by decide⟩ ?_
    refine mE_iload_n c200_58 rfl ?_
    refine mE_aaload3 c200_59 (ok_lit rfl rfl rfl) (Or.inr (Or.inl rfl)) hx1 g4 ?_
    refine mE_iconst c200_60 ?_
    refine mE_aload_n c200_61 rfl ?_
    refine mE_getA c200_62 qo200 qF2_9 (ok_lit rfl rfl rfl) rfl ⟨by decide, by decide⟩ ?_
    refine mE_iload_n c200_65 rfl ?_
    refine mE_iaload c200_66 (ok_lit rfl rfl rfl) hx1 g2 ?_
    intro u7
    obtain ⟨g8, w⟩ := w.ogd
    refine mE_ineg c200_67 ?_
    obtain ⟨M9, m10, w⟩ := w.mlet
    refine mE_iastore c200_68 (ok_lead g4) (r4_n rfl) (by decide) g8 ?_
    refine mE_M m10 ?_
    obtain ⟨g11, w⟩ := w.ogd
    refine mE_iinc (ls2 := [some (.ref 112), some (.int (Int32.ofInt (x1 + 1))), none, none]) c200_69 rfl (Nat.le_of_ble_eq_true rfl) rfl ?_
    refine mE_goto (t := 35) c200_72 rfl ?_
    exact w.osome g11
  · have w := w.neg e1
    refine mE_icmp_ge_T (t := 75) c200_37 rfl hx1 (r4_n rfl) e1 ?_
    have w := w.oinr
    refine mE_iconst c200_75 ?_
    refine mE_istore_n (ls2 := [some (.ref 112), some (.int (Int32.ofInt 0)), none, none]) c200_76 (Nat.le_of_ble_eq_true rfl) rfl ?_
    exact t200_77 (r4_n rfl) w
theorem t200_35 {X : Nat × Nat × qC} {d : Nat} {x1 : Int} {M : Mm}  {R : Mm → Prop} (hx1 : R4 x1) (w : Wp (f200_35 x1 M) R) : mE X (d + 1) 200 0 35 [some (.ref 112), some (.int (Int32.ofInt x1)), none, none] [] M (fun v M2 => R M2) :=
  Wp.olp (f := fun s : Int × Mm => lb200_35  s.1 s.2) (s := (x1, M)) (E := E200_35 X d  R) w (fun s w hx1 => tb200_35 hx1 w) hx1
noncomputable def lb200_2 (x1 : Int) (M : Mm) : Option ((Int × Mm) ⊕ (Mm)) :=
  if x1 < 5 then
  (gd (0 ≤ x1 ∧ x1 < 5) (
  (f2 (120 + (x1).toNat) 5 1000000 M).bind fun M4 =>
  mlet (ms M4 (120 + (x1).toNat) (x1).toNat 0) fun M6 =>
  gd (R4 (x1 + 1)) (
  some (.inl ((x1 + 1), M6)))))
  else
  (oinr (f200_35 0 M))
noncomputable def f200_2 (x1 : Int) (M : Mm) : Option (Mm) := lp (fun s : Int × Mm => lb200_2  s.1 s.2) (x1, M)
theorem tb200_2 {X : Nat × Nat × qC} {d : Nat} {x1 : Int} {M : Mm}  {R : Mm → Prop} (hx1 : R4 x1) (w : Wp (lb200_2 x1 M) (Sum.elim (E200_2 X d  R) R)) : mE X (d + 1) 200 0 2 [some (.ref 112), some (.int (Int32.ofInt x1)), none, none] [] M (fun v M2 => R M2) := by
  refine mE_iload_n c200_2 rfl ?_
  refine mE_iconst c200_3 ?_
  by_cases e1 : x1 < 5
  · have w := w.pos e1
    refine mE_icmp_ge_F (t := 33) c200_4 rfl hx1 (r4_n rfl) e1 ?_
    refine mE_aload_n c200_7 rfl ?_
    refine mE_getA c200_8 qo200 qF2_32 (ok_lit rfl rfl rfl) rfl ⟨by decide, by decide⟩ ?_
    refine mE_iload_n c200_11 rfl ?_
    obtain ⟨g2, w⟩ := w.ogd
    refine mE_aaload3 c200_12 (ok_lit rfl rfl rfl) (Or.inr (Or.inl rfl)) hx1 g2 ?_
    refine mE_ldc (x := 1000000) c200_13 qo200 qI2_48 rfl ?_
    refine mE_static0 (as := [.ref (120 + (x1).toNat), .int (Int32.ofInt 1000000)]) (r := []) c200_15 qo200 (by decide) qK2_49 rfl rfl rfl (Nat.le_of_ble_eq_true rfl) (s2 (d := d + 0) (ok_lead g2) (r4_n rfl) w.obind) ?_
    intro _ M4 w
    refine mE_aload_n c200_18 rfl ?_
    refine mE_getA c200_19 qo200 qF2_32 (ok_lit rfl rfl rfl) rfl ⟨by decide, by decide⟩ ?_
    refine mE_iload_n c200_22 rfl ?_
    refine mE_aaload3 c200_23 (ok_lit rfl rfl rfl) (Or.inr (Or.inl rfl)) hx1 g2 ?_
    refine mE_iload_n c200_24 rfl ?_
    refine mE_iconst c200_25 ?_
    obtain ⟨M6, m7, w⟩ := w.mlet
    refine mE_iastore c200_26 (ok_lead g2) hx1 g2 (r4_n rfl) ?_
    refine mE_M m7 ?_
    obtain ⟨g8, w⟩ := w.ogd
    refine mE_iinc (ls2 := [some (.ref 112), some (.int (Int32.ofInt (x1 + 1))), none, none]) c200_27 rfl (Nat.le_of_ble_eq_true rfl) rfl ?_
    refine mE_goto (t := 2) c200_30 rfl ?_
    exact w.osome g8
  · have w := w.neg e1
    refine mE_icmp_ge_T (t := 33) c200_4 rfl hx1 (r4_n rfl) e1 ?_
    have w := w.oinr
    refine mE_iconst c200_33 ?_
    refine mE_istore_n (ls2 := [some (.ref 112), some (.int (Int32.ofInt 0)), none, none]) c200_34 (Nat.le_of_ble_eq_true rfl) rfl ?_
    exact t200_35 (r4_n rfl) w
theorem t200_2 {X : Nat × Nat × qC} {d : Nat} {x1 : Int} {M : Mm}  {R : Mm → Prop} (hx1 : R4 x1) (w : Wp (f200_2 x1 M) R) : mE X (d + 1) 200 0 2 [some (.ref 112), some (.int (Int32.ofInt x1)), none, none] [] M (fun v M2 => R M2) :=
  Wp.olp (f := fun s : Int × Mm => lb200_2  s.1 s.2) (s := (x1, M)) (E := E200_2 X d  R) w (fun s w hx1 => tb200_2 hx1 w) hx1
noncomputable def f200  (M : Mm) : Option (Mm) :=
  f200_2 0 M
theorem t200 {X : Nat × Nat × qC} {d : Nat}  {M : Mm}  {R : Mm → Prop}  (w : Wp (f200  M) R) : mE X (d + 1) 200 0 0 [some (.ref 112), none, none, none] [] M (fun v M2 => R M2) := by
  refine mE_iconst c200_0 ?_
  refine mE_istore_n (ls2 := [some (.ref 112), some (.int (Int32.ofInt 0)), none, none]) c200_1 (Nat.le_of_ble_eq_true rfl) rfl ?_
  exact t200_2 (r4_n rfl) w
theorem s200 {X : Nat × Nat × qC} {d : Nat}  {M : Mm} {R : Mm → Prop}  (w : Wp (f200  M) R) : mC X (d + 2) 200 0 [.ref 112] M (fun v M2 => R M2) :=
  mC_of (qent_mk qx200 rfl rfl rfl) (t200  w)
/-! SaggingNet$Clocks.close -/
def E201_16 (X : Nat × Nat × qC) (d : Nat) (x1 : Int) (x2 : Int) (R : Mm → Prop) : Int × Mm → Prop := fun s => R4 s.1 → mE X (d + 1) 201 0 16 [some (.ref 112), some (.int (Int32.ofInt x1)), some (.int (Int32.ofInt x2)), some (.int (Int32.ofInt s.1))] [] s.2 (fun v M2 => R M2)
def E201_9 (X : Nat × Nat × qC) (d : Nat) (x1 : Int) (R : Mm → Prop) : Int × Mm → Prop := fun s => R4 s.1 → ∀ (o3 : Option Value), mE X (d + 1) 201 0 9 [some (.ref 112), some (.int (Int32.ofInt x1)), some (.int (Int32.ofInt s.1)), o3] [] s.2 (fun v M2 => R M2)
def E201_2 (X : Nat × Nat × qC) (d : Nat)  (R : Mm → Prop) : Int × Mm → Prop := fun s => R4 s.1 → ∀ (o2 : Option Value), ∀ (o3 : Option Value), mE X (d + 1) 201 0 2 [some (.ref 112), some (.int (Int32.ofInt s.1)), o2, o3] [] s.2 (fun v M2 => R M2)
noncomputable def lb201_16 (x1 : Int) (x2 : Int) (x3 : Int) (M : Mm) : Option ((Int × Mm) ⊕ ((Int × Mm) ⊕ ((Int × Mm) ⊕ (Mm)))) :=
  if x3 < 5 then
  (gd (0 ≤ x2 ∧ x2 < 5) (
  gd (0 ≤ x3 ∧ x3 < 5) (
  gd (0 ≤ x1 ∧ x1 < 5) (
  gd (R4 ((M (120 + (x2).toNat) (x1).toNat) + (M (120 + (x1).toNat) (x3).toNat))) (
  (f6 (M (120 + (x2).toNat) (x3).toNat) ((M (120 + (x2).toNat) (x1).toNat) + (M (120 + (x1).toNat) (x3).toNat)) M).bind fun v9 =>
  mlet (ms M (120 + (x2).toNat) (x3).toNat v9) fun M12 =>
  gd (R4 (x3 + 1)) (
  some (.inl ((x3 + 1), M12))))))))
  else
  (oinr (gd (R4 (x2 + 1)) (
  some (.inl ((x2 + 1), M)))))
noncomputable def f201_16 (x1 : Int) (x2 : Int) (x3 : Int) (M : Mm) : Option ((Int × Mm) ⊕ ((Int × Mm) ⊕ (Mm))) := lp (fun s : Int × Mm => lb201_16 x1 x2 s.1 s.2) (x3, M)
theorem tb201_16 {X : Nat × Nat × qC} {d : Nat} {x1 : Int} {x2 : Int} {x3 : Int} {M : Mm}  {R : Mm → Prop} (hx1 : R4 x1) (hx2 : R4 x2) (hx3 : R4 x3) (w : Wp (lb201_16 x1 x2 x3 M) (Sum.elim (E201_16 X d x1 x2 R) (Sum.elim (E201_9 X d x1 R) (Sum.elim (E201_2 X d  R) R)))) : mE X (d + 1) 201 0 16 [some (.ref 112), some (.int (Int32.ofInt x1)), some (.int (Int32.ofInt x2)), some (.int (Int32.ofInt x3))] [] M (fun v M2 => R M2) := by
  refine mE_iload_n c201_16 rfl ?_
  refine mE_iconst c201_17 ?_
  by_cases e1 : x3 < 5
  · have w := w.pos e1
    refine mE_icmp_ge_F (t := 63) c201_18 rfl hx3 (r4_n rfl) e1 ?_
    refine mE_aload_n c201_21 rfl ?_
    refine mE_getA c201_22 qo201 qF2_32 (ok_lit rfl rfl rfl) rfl ⟨by decide, by decide⟩ ?_
    refine mE_iload_n c201_25 rfl ?_
    obtain ⟨g2, w⟩ := w.ogd
    refine mE_aaload3 c201_26 (ok_lit rfl rfl rfl) (Or.inr (Or.inl rfl)) hx2 g2 ?_
    refine mE_iload_n c201_27 rfl ?_
    refine mE_aload_n c201_28 rfl ?_
    refine mE_getA c201_29 qo201 qF2_32 (ok_lit rfl rfl rfl) rfl ⟨by decide, by decide⟩ ?_
    refine mE_iload_n c201_32 rfl ?_
    refine mE_aaload3 c201_33 (ok_lit rfl rfl rfl) (Or.inr (Or.inl rfl)) hx2 g2 ?_
    refine mE_iload_n c201_34 rfl ?_
    obtain ⟨g3, w⟩ := w.ogd
    refine mE_iaload c201_35 (ok_lead g2) hx3 g3 ?_
    intro u4
    refine mE_aload_n c201_36 rfl ?_
    refine mE_getA c201_37 qo201 qF2_32 (ok_lit rfl rfl rfl) rfl ⟨by decide, by decide⟩ ?_
    refine mE_iload_n c201_40 rfl ?_
    refine mE_aaload3 c201_41 (ok_lit rfl rfl rfl) (Or.inr (Or.inl rfl)) hx2 g2 ?_
    refine mE_iload_n c201_42 rfl ?_
    obtain ⟨g5, w⟩ := w.ogd
    refine mE_iaload c201_43 (ok_lead g2) hx1 g5 ?_
    intro u6
    refine mE_aload_n c201_44 rfl ?_
    refine mE_getA c201_45 qo201 qF2_32 (ok_lit rfl rfl rfl) rfl ⟨by decide, by decide⟩ ?_
    refine mE_iload_n c201_48 rfl ?_
    refine mE_aaload3 c201_49 (ok_lit rfl rfl rfl) (Or.inr (Or.inl rfl)) hx1 g5 ?_
    refine mE_iload_n c201_50 rfl ?_
    refine mE_iaload c201_51 (ok_lead g5) hx3 g3 ?_
    intro u7
    obtain ⟨g8, w⟩ := w.ogd
    refine mE_iadd c201_52 ?_
    refine mE_static1 (as := [.int (Int32.ofInt (M (120 + (x2).toNat) (x3).toNat)), .int (Int32.ofInt ((M (120 + (x2).toNat) (x1).toNat) + (M (120 + (x1).toNat) (x3).toNat)))]) (r := [.int (Int32.ofInt x3), .ref (120 + (x2).toNat)]) c201_53 qo201 (by decide) qK2_55 rfl rfl rfl (Nat.le_of_ble_eq_true rfl) (s6 (d := d + 0) u4 g8 w.obind) ?_
    rintro v9 _ q11 ⟨rfl, w⟩
    obtain ⟨M12, m13, w⟩ := w.mlet
    refine mE_iastore c201_56 (ok_lead g2) hx3 g3 q11 ?_
    refine mE_M m13 ?_
    obtain ⟨g14, w⟩ := w.ogd
    refine mE_iinc (ls2 := [some (.ref 112), some (.int (Int32.ofInt x1)), some (.int (Int32.ofInt x2)), some (.int (Int32.ofInt (x3 + 1)))]) c201_57 rfl (Nat.le_of_ble_eq_true rfl) rfl ?_
    refine mE_goto (t := 16) c201_60 rfl ?_
    exact w.osome g14
  · have w := w.neg e1
    refine mE_icmp_ge_T (t := 63) c201_18 rfl hx3 (r4_n rfl) e1 ?_
    have w := w.oinr
    obtain ⟨g2, w⟩ := w.ogd
    refine mE_iinc (ls2 := [some (.ref 112), some (.int (Int32.ofInt x1)), some (.int (Int32.ofInt (x2 + 1))), some (.int (Int32.ofInt x3))]) c201_63 rfl (Nat.le_of_ble_eq_true rfl) rfl ?_
    refine mE_goto (t := 9) c201_66 rfl ?_
    exact w.osome g2 _
theorem t201_16 {X : Nat × Nat × qC} {d : Nat} {x1 : Int} {x2 : Int} {x3 : Int} {M : Mm}  {R : Mm → Prop} (hx1 : R4 x1) (hx2 : R4 x2) (hx3 : R4 x3) (w : Wp (f201_16 x1 x2 x3 M) (Sum.elim (E201_9 X d x1 R) (Sum.elim (E201_2 X d  R) R))) : mE X (d + 1) 201 0 16 [some (.ref 112), some (.int (Int32.ofInt x1)), some (.int (Int32.ofInt x2)), some (.int (Int32.ofInt x3))] [] M (fun v M2 => R M2) :=
  Wp.olp (f := fun s : Int × Mm => lb201_16 x1 x2 s.1 s.2) (s := (x3, M)) (E := E201_16 X d x1 x2 R) w (fun s w hx3 => tb201_16 hx1 hx2 hx3 w) hx3
noncomputable def lb201_9 (x1 : Int) (x2 : Int) (M : Mm) : Option ((Int × Mm) ⊕ ((Int × Mm) ⊕ (Mm))) :=
  if x2 < 5 then
  (f201_16 x1 x2 0 M)
  else
  (oinr (gd (R4 (x1 + 1)) (
  some (.inl ((x1 + 1), M)))))
noncomputable def f201_9 (x1 : Int) (x2 : Int) (M : Mm) : Option ((Int × Mm) ⊕ (Mm)) := lp (fun s : Int × Mm => lb201_9 x1 s.1 s.2) (x2, M)
theorem tb201_9 {X : Nat × Nat × qC} {d : Nat} {x1 : Int} {x2 : Int} {M : Mm} {o3 : Option Value} {R : Mm → Prop} (hx1 : R4 x1) (hx2 : R4 x2) (w : Wp (lb201_9 x1 x2 M) (Sum.elim (E201_9 X d x1 R) (Sum.elim (E201_2 X d  R) R))) : mE X (d + 1) 201 0 9 [some (.ref 112), some (.int (Int32.ofInt x1)), some (.int (Int32.ofInt x2)), o3] [] M (fun v M2 => R M2) := by
  refine mE_iload_n c201_9 rfl ?_
  refine mE_iconst c201_10 ?_
  by_cases e1 : x2 < 5
  · have w := w.pos e1
    refine mE_icmp_ge_F (t := 69) c201_11 rfl hx2 (r4_n rfl) e1 ?_
    refine mE_iconst c201_14 ?_
    refine mE_istore_n (ls2 := [some (.ref 112), some (.int (Int32.ofInt x1)), some (.int (Int32.ofInt x2)), some (.int (Int32.ofInt 0))]) c201_15 (Nat.le_of_ble_eq_true rfl) rfl ?_
    exact t201_16 hx1 hx2 (r4_n rfl) w
  · have w := w.neg e1
    refine mE_icmp_ge_T (t := 69) c201_11 rfl hx2 (r4_n rfl) e1 ?_
    have w := w.oinr
    obtain ⟨g2, w⟩ := w.ogd
    refine mE_iinc (ls2 := [some (.ref 112), some (.int (Int32.ofInt (x1 + 1))), some (.int (Int32.ofInt x2)), o3]) c201_69 rfl (Nat.le_of_ble_eq_true rfl) rfl ?_
    refine mE_goto (t := 2) c201_72 rfl ?_
    exact w.osome g2 _ _
theorem t201_9 {X : Nat × Nat × qC} {d : Nat} {x1 : Int} {x2 : Int} {M : Mm} {o3 : Option Value} {R : Mm → Prop} (hx1 : R4 x1) (hx2 : R4 x2) (w : Wp (f201_9 x1 x2 M) (Sum.elim (E201_2 X d  R) R)) : mE X (d + 1) 201 0 9 [some (.ref 112), some (.int (Int32.ofInt x1)), some (.int (Int32.ofInt x2)), o3] [] M (fun v M2 => R M2) :=
  Wp.olp (f := fun s : Int × Mm => lb201_9 x1 s.1 s.2) (s := (x2, M)) (E := E201_9 X d x1 R) w (fun s w hx2 _ => tb201_9 hx1 hx2 w) hx2 _
noncomputable def lb201_2 (x1 : Int) (M : Mm) : Option ((Int × Mm) ⊕ (Mm)) :=
  if x1 < 5 then
  (f201_9 x1 0 M)
  else
  (oinr (some M))
noncomputable def f201_2 (x1 : Int) (M : Mm) : Option (Mm) := lp (fun s : Int × Mm => lb201_2  s.1 s.2) (x1, M)
theorem tb201_2 {X : Nat × Nat × qC} {d : Nat} {x1 : Int} {M : Mm} {o2 : Option Value} {o3 : Option Value} {R : Mm → Prop} (hx1 : R4 x1) (w : Wp (lb201_2 x1 M) (Sum.elim (E201_2 X d  R) R)) : mE X (d + 1) 201 0 2 [some (.ref 112), some (.int (Int32.ofInt x1)), o2, o3] [] M (fun v M2 => R M2) := by
  refine mE_iload_n c201_2 rfl ?_
  refine mE_iconst c201_3 ?_
  by_cases e1 : x1 < 5
  · have w := w.pos e1
    refine mE_icmp_ge_F (t := 75) c201_4 rfl hx1 (r4_n rfl) e1 ?_
    refine mE_iconst c201_7 ?_
    refine mE_istore_n (ls2 := [some (.ref 112), some (.int (Int32.ofInt x1)), some (.int (Int32.ofInt 0)), o3]) c201_8 (Nat.le_of_ble_eq_true rfl) rfl ?_
    exact t201_9 hx1 (r4_n rfl) w
  · have w := w.neg e1
    refine mE_icmp_ge_T (t := 75) c201_4 rfl hx1 (r4_n rfl) e1 ?_
    have w := w.oinr
    exact mE_vret c201_75 qr201 w.osome
theorem t201_2 {X : Nat × Nat × qC} {d : Nat} {x1 : Int} {M : Mm} {o2 : Option Value} {o3 : Option Value} {R : Mm → Prop} (hx1 : R4 x1) (w : Wp (f201_2 x1 M) R) : mE X (d + 1) 201 0 2 [some (.ref 112), some (.int (Int32.ofInt x1)), o2, o3] [] M (fun v M2 => R M2) :=
  Wp.olp (f := fun s : Int × Mm => lb201_2  s.1 s.2) (s := (x1, M)) (E := E201_2 X d  R) w (fun s w hx1 _ _ => tb201_2 hx1 w) hx1 _ _
noncomputable def f201  (M : Mm) : Option (Mm) :=
  f201_2 0 M
theorem t201 {X : Nat × Nat × qC} {d : Nat}  {M : Mm}  {R : Mm → Prop}  (w : Wp (f201  M) R) : mE X (d + 1) 201 0 0 [some (.ref 112), none, none, none] [] M (fun v M2 => R M2) := by
  refine mE_iconst c201_0 ?_
  refine mE_istore_n (ls2 := [some (.ref 112), some (.int (Int32.ofInt 0)), none, none]) c201_1 (Nat.le_of_ble_eq_true rfl) rfl ?_
  exact t201_2 (r4_n rfl) w
theorem s201 {X : Nat × Nat × qC} {d : Nat}  {M : Mm} {R : Mm → Prop}  (w : Wp (f201  M) R) : mC X (d + 2) 201 0 [.ref 112] M (fun v M2 => R M2) :=
  mC_of (qent_mk qx201 rfl rfl rfl) (t201  w)
/-! SaggingNet$Clocks.compare -/
def E202_10 (X : Nat × Nat × qC) (d : Nat) (x1 : Int) (x2 : Int) (M : Mm) (R : Int × Mm → Prop) : Int → Prop := fun s => R4 s → mE X (d + 2) 202 1 10 [some (.ref 112), some (.int (Int32.ofInt x1)), some (.int (Int32.ofInt x2)), some (.int (Int32.ofInt s)), none, none] [] M (fun v M2 => R (v, M2))
noncomputable def lb202_10 (x1 : Int) (x2 : Int) (x3 : Int) (M : Mm) : Option ((Int) ⊕ (Int × Mm)) :=
  if x3 < 5 then
  (gd (0 ≤ x3 ∧ x3 < 5) (
  if (M (120 + (x3).toNat) (x3).toNat) < 0 then
  (oinr (some (4, M)))
  else
  (gd (R4 (x3 + 1)) (
  some (.inl ((x3 + 1)))))))
  else
  (oinr (gd (0 ≤ x2 ∧ x2 < 40) (
  gd (0 ≤ x1 ∧ x1 < 40) (
  gd (R4 ((M 116 (x2).toNat) - (M 116 (x1).toNat))) (
  gd (0 ≤ (M 115 (x1).toNat) ∧ (M 115 (x1).toNat) < 5) (
  gd (0 ≤ (M 115 (x2).toNat) ∧ (M 115 (x2).toNat) < 5) (
  gd (R4 (-(M (120 + ((M 115 (x2).toNat)).toNat) ((M 115 (x1).toNat)).toNat))) (
  if (M (120 + ((M 115 (x1).toNat)).toNat) ((M 115 (x2).toNat)).toNat) < ((M 116 (x2).toNat) - (M 116 (x1).toNat)) then
  (some (0, M))
  else
  (if ((M 116 (x2).toNat) - (M 116 (x1).toNat)) < (-(M (120 + ((M 115 (x2).toNat)).toNat) ((M 115 (x1).toNat)).toNat)) then
  (some (1, M))
  else
  (if (M (120 + ((M 115 (x1).toNat)).toNat) ((M 115 (x2).toNat)).toNat) = ((M 116 (x2).toNat) - (M 116 (x1).toNat)) then
  (if (-(M (120 + ((M 115 (x2).toNat)).toNat) ((M 115 (x1).toNat)).toNat)) = ((M 116 (x2).toNat) - (M 116 (x1).toNat)) then
  (some (2, M))
  else
  (some (3, M)))
  else
  (some (3, M))))))))))))
noncomputable def f202_10 (x1 : Int) (x2 : Int) (x3 : Int) (M : Mm) : Option (Int × Mm) := lp (fun s : Int => lb202_10 x1 x2 s M) x3
theorem tb202_10 {X : Nat × Nat × qC} {d : Nat} {x1 : Int} {x2 : Int} {x3 : Int} {M : Mm}  {R : Int × Mm → Prop} (hx1 : R4 x1) (hx2 : R4 x2) (hx3 : R4 x3) (w : Wp (lb202_10 x1 x2 x3 M) (Sum.elim (E202_10 X d x1 x2 M R) R)) : mE X (d + 2) 202 1 10 [some (.ref 112), some (.int (Int32.ofInt x1)), some (.int (Int32.ofInt x2)), some (.int (Int32.ofInt x3)), none, none] [] M (fun v M2 => R (v, M2)) := by
  refine mE_iload_n c202_10 rfl ?_
  refine mE_iconst c202_11 ?_
  by_cases e1 : x3 < 5
  · have w := w.pos e1
    refine mE_icmp_ge_F (t := 34) c202_12 rfl hx3 (r4_n rfl) e1 ?_
    refine mE_aload_n c202_15 rfl ?_
    refine mE_getA c202_16 qo202 qF2_32 (ok_lit rfl rfl rfl) rfl ⟨by decide, by decide⟩ ?_
    refine mE_iload_n c202_19 rfl ?_
    obtain ⟨g2, w⟩ := w.ogd
    refine mE_aaload3 c202_20 (ok_lit rfl rfl rfl) (Or.inr (Or.inl rfl)) hx3 g2 ?_
    refine mE_iload_n c202_21 rfl ?_
    refine mE_iaload c202_22 (ok_lead g2) hx3 g2 ?_
    intro u3
    by_cases e4 : (M (120 + (x3).toNat) (x3).toNat) < 0
    · have w := w.pos e4
      refine mE_if_ge_F (t := 28) c202_23 rfl u3 e4 ?_
      have w := w.oinr
      refine mE_iconst c202_26 ?_
      exact mE_iret c202_27 qr202 (r4_n rfl) w.osome
    · have w := w.neg e4
      refine mE_if_ge_T (t := 28) c202_23 rfl u3 e4 ?_
      obtain ⟨g5, w⟩ := w.ogd
      refine mE_iinc (ls2 := [some (.ref 112), some (.int (Int32.ofInt x1)), some (.int (Int32.ofInt x2)), some (.int (Int32.ofInt (x3 + 1))), none, none]) c202_28 rfl (Nat.le_of_ble_eq_true rfl) rfl ?_
      refine mE_goto (t := 10) c202_31 rfl ?_
      exact w.osome g5
  · have w := w.neg e1
    refine mE_icmp_ge_T (t := 34) c202_12 rfl hx3 (r4_n rfl) e1 ?_
    have w := w.oinr
    refine mE_aload_n c202_34 rfl ?_
    refine mE_getA c202_35 qo202 qF2_21 (ok_lit rfl rfl rfl) rfl ⟨by decide, by decide⟩ ?_
    refine mE_iload_n c202_38 rfl ?_
    obtain ⟨g2, w⟩ := w.ogd
    refine mE_iaload c202_39 (ok_lit rfl rfl rfl) hx2 g2 ?_
    intro u3
    refine mE_aload_n c202_40 rfl ?_
    refine mE_getA c202_41 qo202 qF2_21 (ok_lit rfl rfl rfl) rfl ⟨by decide, by decide⟩ ?_
    refine mE_iload_n c202_44 rfl ?_
    obtain ⟨g4, w⟩ := w.ogd
    refine mE_iaload c202_45 (ok_lit rfl rfl rfl) hx1 g4 ?_
    intro u5
    obtain ⟨g6, w⟩ := w.ogd
    refine mE_isub c202_46 ?_
    refine mE_istore_n (ls2 := [some (.ref 112), some (.int (Int32.ofInt x1)), some (.int (Int32.ofInt x2)), some (.int (Int32.ofInt ((M 116 (x2).toNat) - (M 116 (x1).toNat)))), none, none]) c202_47 (Nat.le_of_ble_eq_true rfl) rfl ?_
    refine mE_aload_n c202_48 rfl ?_
    refine mE_getA c202_49 qo202 qF2_32 (ok_lit rfl rfl rfl) rfl ⟨by decide, by decide⟩ ?_
    refine mE_aload_n c202_52 rfl ?_
    refine mE_getA c202_53 qo202 qF2_18 (ok_lit rfl rfl rfl) rfl ⟨by decide, by decide⟩ ?_
    refine mE_iload_n c202_56 rfl ?_
    refine mE_iaload c202_57 (ok_lit rfl rfl rfl) hx1 g4 ?_
    intro u7
    obtain ⟨g8, w⟩ := w.ogd
    refine mE_aaload3 c202_58 (ok_lit rfl rfl rfl) (Or.inr (Or.inl rfl)) u7 g8 ?_
    refine mE_aload_n c202_59 rfl ?_
    refine mE_getA c202_60 qo202 qF2_18 (ok_lit rfl rfl rfl) rfl ⟨by decide, by decide⟩ ?_
    refine mE_iload_n c202_63 rfl ?_
    refine mE_iaload c202_64 (ok_lit rfl rfl rfl) hx2 g2 ?_
    intro u9
    obtain ⟨g10, w⟩ := w.ogd
    refine mE_iaload c202_65 (ok_lead g8) u9 g10 ?_
    intro u11
    refine mE_istore (ls2 := [some (.ref 112), some (.int (Int32.ofInt x1)), some (.int (Int32.ofInt x2)), some (.int (Int32.ofInt ((M 116 (x2).toNat) - (M 116 (x1).toNat)))), some (.int (Int32.ofInt (M (120 + ((M 115 (x1).toNat)).toNat) ((M 115 (x2).toNat)).toNat))), none]) c202_66 (Nat.le_of_ble_eq_true rfl) rfl ?_
    refine mE_aload_n c202_68 rfl ?_
    refine mE_getA c202_69 qo202 qF2_32 (ok_lit rfl rfl rfl) rfl ⟨by decide, by decide⟩ ?_
    refine mE_aload_n c202_72 rfl ?_
    refine mE_getA c202_73 qo202 qF2_18 (ok_lit rfl rfl rfl) rfl ⟨by decide, by decide⟩ ?_
    refine mE_iload_n c202_76 rfl ?_
    refine mE_iaload c202_77 (ok_lit rfl rfl rfl) hx2 g2 ?_
    intro u12
    refine mE_aaload3 c202_78 (ok_lit rfl rfl rfl) (Or.inr (Or.inl rfl)) u12 g10 ?_
    refine mE_aload_n c202_79 rfl ?_
    refine mE_getA c202_80 qo202 qF2_18 (ok_lit rfl rfl rfl) rfl ⟨by decide, by decide⟩ ?_
    refine mE_iload_n c202_83 rfl ?_
    refine mE_iaload c202_84 (ok_lit rfl rfl rfl) hx1 g4 ?_
    intro u13
    refine mE_iaload c202_85 (ok_lead g10) u13 g8 ?_
    intro u14
    obtain ⟨g15, w⟩ := w.ogd
    refine mE_ineg c202_86 ?_
    refine mE_istore (ls2 := [some (.ref 112), some (.int (Int32.ofInt x1)), some (.int (Int32.ofInt x2)), some (.int (Int32.ofInt ((M 116 (x2).toNat) - (M 116 (x1).toNat)))), some (.int (Int32.ofInt (M (120 + ((M 115 (x1).toNat)).toNat) ((M 115 (x2).toNat)).toNat))), some (.int (Int32.ofInt (-(M (120 + ((M 115 (x2).toNat)).toNat) ((M 115 (x1).toNat)).toNat))))]) c202_87 (Nat.le_of_ble_eq_true rfl) rfl ?_
    refine mE_iload c202_89 rfl ?_
    refine mE_iload_n c202_91 rfl ?_
    by_cases e16 : (M (120 + ((M 115 (x1).toNat)).toNat) ((M 115 (x2).toNat)).toNat) < ((M 116 (x2).toNat) - (M 116 (x1).toNat))
    · have w := w.pos e16
      refine mE_icmp_ge_F (t := 97) c202_92 rfl u11 g6 e16 ?_
      refine mE_iconst c202_95 ?_
      exact mE_iret c202_96 qr202 (r4_n rfl) w.osome
    · have w := w.neg e16
      refine mE_icmp_ge_T (t := 97) c202_92 rfl u11 g6 e16 ?_
      refine mE_iload c202_97 rfl ?_
      refine mE_iload_n c202_99 rfl ?_
      by_cases e17 : ((M 116 (x2).toNat) - (M 116 (x1).toNat)) < (-(M (120 + ((M 115 (x2).toNat)).toNat) ((M 115 (x1).toNat)).toNat))
      · have w := w.pos e17
        refine mE_icmp_le_F (t := 105) c202_100 rfl g15 g6 e17 ?_
        refine mE_iconst c202_103 ?_
        exact mE_iret c202_104 qr202 (r4_n rfl) w.osome
      · have w := w.neg e17
        refine mE_icmp_le_T (t := 105) c202_100 rfl g15 g6 e17 ?_
        refine mE_iload c202_105 rfl ?_
        refine mE_iload_n c202_107 rfl ?_
        by_cases e18 : (M (120 + ((M 115 (x1).toNat)).toNat) ((M 115 (x2).toNat)).toNat) = ((M 116 (x2).toNat) - (M 116 (x1).toNat))
        · have w := w.pos e18
          refine mE_icmp_ne_F (t := 121) c202_108 rfl u11 g6 e18 ?_
          refine mE_iload c202_111 rfl ?_
          refine mE_iload_n c202_113 rfl ?_
          by_cases e19 : (-(M (120 + ((M 115 (x2).toNat)).toNat) ((M 115 (x1).toNat)).toNat)) = ((M 116 (x2).toNat) - (M 116 (x1).toNat))
          · have w := w.pos e19
            refine mE_icmp_ne_F (t := 121) c202_114 rfl g15 g6 e19 ?_
            refine mE_iconst c202_117 ?_
            refine mE_goto (t := 122) c202_118 rfl ?_
            exact mE_iret c202_122 qr202 (r4_n rfl) w.osome
          · have w := w.neg e19
            refine mE_icmp_ne_T (t := 121) c202_114 rfl g15 g6 e19 ?_
            refine mE_iconst c202_121 ?_
            exact mE_iret c202_122 qr202 (r4_n rfl) w.osome
        · have w := w.neg e18
          refine mE_icmp_ne_T (t := 121) c202_108 rfl u11 g6 e18 ?_
          refine mE_iconst c202_121 ?_
          exact mE_iret c202_122 qr202 (r4_n rfl) w.osome
theorem t202_10 {X : Nat × Nat × qC} {d : Nat} {x1 : Int} {x2 : Int} {x3 : Int} {M : Mm}  {R : Int × Mm → Prop} (hx1 : R4 x1) (hx2 : R4 x2) (hx3 : R4 x3) (w : Wp (f202_10 x1 x2 x3 M) R) : mE X (d + 2) 202 1 10 [some (.ref 112), some (.int (Int32.ofInt x1)), some (.int (Int32.ofInt x2)), some (.int (Int32.ofInt x3)), none, none] [] M (fun v M2 => R (v, M2)) :=
  Wp.olp (f := fun s : Int => lb202_10 x1 x2 s M) (s := x3) (E := E202_10 X d x1 x2 M R) w (fun s w hx3 => tb202_10 hx1 hx2 hx3 w) hx3
noncomputable def f202 (x1 : Int) (x2 : Int) (M : Mm) : Option (Int × Mm) :=
  (f200 M).bind fun M2 =>
  (f201 M2).bind fun M5 =>
  f202_10 x1 x2 0 M5
theorem t202 {X : Nat × Nat × qC} {d : Nat} {x1 : Int} {x2 : Int} {M : Mm}  {R : Int × Mm → Prop} (hx1 : R4 x1) (hx2 : R4 x2) (w : Wp (f202 x1 x2 M) R) : mE X (d + 2) 202 1 0 [some (.ref 112), some (.int (Int32.ofInt x1)), some (.int (Int32.ofInt x2)), none, none, none] [] M (fun v M2 => R (v, M2)) := by
  refine mE_aload_n c202_0 rfl ?_
  refine mE_virtual0 (b := 112) (as := []) (r := []) c202_1 qo202 qK2_42 qo200 rfl rfl rfl (ok_lit rfl rfl rfl) (Nat.le_of_ble_eq_true rfl) (s200 (d := d + 0) w.obind) ?_
  intro _ M2 w
  refine mE_aload_n c202_4 rfl ?_
  refine mE_virtual0 (b := 112) (as := []) (r := []) c202_5 qo202 qK2_45 qo201 rfl rfl rfl (ok_lit rfl rfl rfl) (Nat.le_of_ble_eq_true rfl) (s201 (d := d + 0) w.obind) ?_
  intro _ M5 w
  refine mE_iconst c202_8 ?_
  refine mE_istore_n (ls2 := [some (.ref 112), some (.int (Int32.ofInt x1)), some (.int (Int32.ofInt x2)), some (.int (Int32.ofInt 0)), none, none]) c202_9 (Nat.le_of_ble_eq_true rfl) rfl ?_
  exact t202_10 hx1 hx2 (r4_n rfl) w
theorem s202 {X : Nat × Nat × qC} {d : Nat} {x1 : Int} {x2 : Int} {M : Mm} {R : Int × Mm → Prop} (hx1 : R4 x1) (hx2 : R4 x2) (w : Wp (f202 x1 x2 M) R) : mC X (d + 3) 202 1 [.ref 112, .int (Int32.ofInt x1), .int (Int32.ofInt x2)] M (fun v M2 => R (v, M2)) :=
  mC_of (qent_mk qx202 rfl rfl rfl) (t202 hx1 hx2 w)
/-! SaggingNet.order -/
noncomputable def f64 (x1 : Int) (x2 : Int) (M : Mm) : Option (Int × Mm) :=
  (f203 x1 M).bind fun v1 =>
  if v1 = 0 then
  (some ((-1), M))
  else
  ((f203 x2 M).bind fun v5 =>
  if v5 = 0 then
  (some ((-1), M))
  else
  (obnd (f202 x1 x2 M) fun v9 M10 =>
  some (v9, M10)))
theorem t64 {X : Nat × Nat × qC} {d : Nat} {x1 : Int} {x2 : Int} {M : Mm}  {R : Int × Mm → Prop} (hx1 : R4 x1) (hx2 : R4 x2) (w : Wp (f64 x1 x2 M) R) : mE X (d + 3) 64 1 0 [some (.ref 2), some (.int (Int32.ofInt x1)), some (.int (Int32.ofInt x2))] [] M (fun v M2 => R (v, M2)) := by
  refine mE_aload_n c64_0 rfl ?_
  refine mE_getA c64_1 qo64 qF11_69 (ok_lit rfl rfl rfl) rfl ⟨by decide, by decide⟩ ?_
  refine mE_iload_n c64_4 rfl ?_
  refine mE_virtual1 (b := 112) (as := [.int (Int32.ofInt x1)]) (r := []) c64_5 qo64 qK11_309 qo203 rfl rfl rfl (ok_lit rfl rfl rfl) (Nat.le_of_ble_eq_true rfl) (s203 (d := d + 2) hx1 w.obind) ?_
  rintro v1 _ q3 ⟨rfl, w⟩
  by_cases e4 : v1 = 0
  · have w := w.pos e4
    refine mE_if_eq_T (t := 22) c64_8 rfl q3 e4 ?_
    refine mE_iconst c64_22 ?_
    exact mE_iret c64_23 qr64 (r4_n rfl) w.osome
  · have w := w.neg e4
    refine mE_if_eq_F (t := 22) c64_8 rfl q3 e4 ?_
    refine mE_aload_n c64_11 rfl ?_
    refine mE_getA c64_12 qo64 qF11_69 (ok_lit rfl rfl rfl) rfl ⟨by decide, by decide⟩ ?_
    refine mE_iload_n c64_15 rfl ?_
    refine mE_virtual1 (b := 112) (as := [.int (Int32.ofInt x2)]) (r := []) c64_16 qo64 qK11_309 qo203 rfl rfl rfl (ok_lit rfl rfl rfl) (Nat.le_of_ble_eq_true rfl) (s203 (d := d + 2) hx2 w.obind) ?_
    rintro v5 _ q7 ⟨rfl, w⟩
    by_cases e8 : v5 = 0
    · have w := w.pos e8
      refine mE_if_ne_F (t := 24) c64_19 rfl q7 e8 ?_
      refine mE_iconst c64_22 ?_
      exact mE_iret c64_23 qr64 (r4_n rfl) w.osome
    · have w := w.neg e8
      refine mE_if_ne_T (t := 24) c64_19 rfl q7 e8 ?_
      refine mE_aload_n c64_24 rfl ?_
      refine mE_getA c64_25 qo64 qF11_69 (ok_lit rfl rfl rfl) rfl ⟨by decide, by decide⟩ ?_
      refine mE_iload_n c64_28 rfl ?_
      refine mE_iload_n c64_29 rfl ?_
      refine mE_virtual1 (b := 112) (as := [.int (Int32.ofInt x1), .int (Int32.ofInt x2)]) (r := []) c64_30 qo64 qK11_318 qo202 rfl rfl rfl (ok_lit rfl rfl rfl) (Nat.le_of_ble_eq_true rfl) (s202 (d := d + 0) hx1 hx2 w.oc) ?_
      intro v9 M10 q11 w
      exact mE_iret c64_33 qr64 q11 w.osome
theorem s64 {X : Nat × Nat × qC} {d : Nat} {x1 : Int} {x2 : Int} {M : Mm} {R : Int × Mm → Prop} (hx1 : R4 x1) (hx2 : R4 x2) (w : Wp (f64 x1 x2 M) R) : mC X (d + 4) 64 1 [.ref 2, .int (Int32.ofInt x1), .int (Int32.ofInt x2)] M (fun v M2 => R (v, M2)) :=
  mC_of (qent_mk qx64 rfl rfl rfl) (t64 hx1 hx2 w)
/-! SaggingNet$Clocks.addRow -/
noncomputable def f198 (x1 : Int) (x2 : Int) (M : Mm) : Option (Int × Mm) :=
  gd (0 ≤ (M 112 0) ∧ (M 112 0) < 40) (
  mlet (ms M 115 ((M 112 0)).toNat x1) fun M3 =>
  gd (0 ≤ (M3 112 0) ∧ (M3 112 0) < 40) (
  mlet (ms M3 116 ((M3 112 0)).toNat x2) fun M7 =>
  gd (R4 ((M7 112 0) + 1)) (
  mlet (ms M7 112 0 ((M7 112 0) + 1)) fun M11 =>
  gd (R4 ((M11 112 0) - 1)) (
  some (((M11 112 0) - 1), M11)))))
theorem t198 {X : Nat × Nat × qC} {d : Nat} {x1 : Int} {x2 : Int} {M : Mm}  {R : Int × Mm → Prop} (hx1 : R4 x1) (hx2 : R4 x2) (w : Wp (f198 x1 x2 M) R) : mE X (d + 0) 198 1 0 [some (.ref 112), some (.int (Int32.ofInt x1)), some (.int (Int32.ofInt x2))] [] M (fun v M2 => R (v, M2)) := by
  refine mE_aload_n c198_0 rfl ?_
  refine mE_getA c198_1 qo198 qF2_18 (ok_lit rfl rfl rfl) rfl ⟨by decide, by decide⟩ ?_
  refine mE_aload_n c198_4 rfl ?_
  refine mE_getI c198_5 qo198 qF2_35 (ok_lit rfl rfl rfl) rfl ?_
  intro u1
  refine mE_iload_n c198_8 rfl ?_
  obtain ⟨g2, w⟩ := w.ogd
  obtain ⟨M3, m4, w⟩ := w.mlet
  refine mE_iastore c198_9 (ok_lit rfl rfl rfl) u1 g2 hx1 ?_
  refine mE_M m4 ?_
  refine mE_aload_n c198_10 rfl ?_
  refine mE_getA c198_11 qo198 qF2_21 (ok_lit rfl rfl rfl) rfl ⟨by decide, by decide⟩ ?_
  refine mE_aload_n c198_14 rfl ?_
  refine mE_getI c198_15 qo198 qF2_35 (ok_lit rfl rfl rfl) rfl ?_
  intro u5
  refine mE_iload_n c198_18 rfl ?_
  obtain ⟨g6, w⟩ := w.ogd
  obtain ⟨M7, m8, w⟩ := w.mlet
  refine mE_iastore c198_19 (ok_lit rfl rfl rfl) u5 g6 hx2 ?_
  refine mE_M m8 ?_
  refine mE_aload_n c198_20 rfl ?_
  refine mE_dup c198_21 rfl ?_
  refine mE_getI c198_22 qo198 qF2_35 (ok_lit rfl rfl rfl) rfl ?_
  intro u9
  refine mE_iconst c198_25 ?_
  obtain ⟨g10, w⟩ := w.ogd
  refine mE_iadd c198_26 ?_
  obtain ⟨M11, m12, w⟩ := w.mlet
  refine mE_putI c198_27 qo198 qF2_35 qz2_0 (ok_lit rfl rfl rfl) (Nat.le_of_ble_eq_true rfl) rfl g10 (by rw [qy2_0]; rfl) ?_
  refine mE_M m12 ?_
  refine mE_aload_n c198_30 rfl ?_
  refine mE_getI c198_31 qo198 qF2_35 (ok_lit rfl rfl rfl) rfl ?_
  intro u13
  refine mE_iconst c198_34 ?_
  obtain ⟨g14, w⟩ := w.ogd
  refine mE_isub c198_35 ?_
  exact mE_iret c198_36 qr198 g14 w.osome
theorem s198 {X : Nat × Nat × qC} {d : Nat} {x1 : Int} {x2 : Int} {M : Mm} {R : Int × Mm → Prop} (hx1 : R4 x1) (hx2 : R4 x2) (w : Wp (f198 x1 x2 M) R) : mC X (d + 1) 198 1 [.ref 112, .int (Int32.ofInt x1), .int (Int32.ofInt x2)] M (fun v M2 => R (v, M2)) :=
  mC_of (qent_mk qx198 rfl rfl rfl) (t198 hx1 hx2 w)
/-! SaggingNet.row -/
noncomputable def f65 (x1 : Int) (x2 : Int) (M : Mm) : Option (Int × Mm) :=
  (f56 x1 M).bind fun v1 =>
  if v1 = 0 then
  (some ((-1), M))
  else
  ((f80 x2 0 9999 M).bind fun v5 =>
  if v5 = 0 then
  (some ((-1), M))
  else
  (if (M 112 0) < 40 then
  (obnd (f198 x1 x2 M) fun v11 M12 =>
  some (v11, M12))
  else
  (some ((-1), M))))
theorem t65 {X : Nat × Nat × qC} {d : Nat} {x1 : Int} {x2 : Int} {M : Mm}  {R : Int × Mm → Prop} (hx1 : R4 x1) (hx2 : R4 x2) (w : Wp (f65 x1 x2 M) R) : mE X (d + 2) 65 1 0 [some (.ref 2), some (.int (Int32.ofInt x1)), some (.int (Int32.ofInt x2))] [] M (fun v M2 => R (v, M2)) := by
  refine mE_iload_n c65_0 rfl ?_
  refine mE_static1 (as := [.int (Int32.ofInt x1)]) (r := []) c65_1 qo65 (by decide) qK11_104 rfl rfl rfl (Nat.le_of_ble_eq_true rfl) (s56 (d := d + 0) hx1 w.obind) ?_
  rintro v1 _ q3 ⟨rfl, w⟩
  by_cases e4 : v1 = 0
  · have w := w.pos e4
    refine mE_if_eq_T (t := 30) c65_4 rfl q3 e4 ?_
    refine mE_iconst c65_30 ?_
    exact mE_iret c65_31 qr65 (r4_n rfl) w.osome
  · have w := w.neg e4
    refine mE_if_eq_F (t := 30) c65_4 rfl q3 e4 ?_
    refine mE_iload_n c65_7 rfl ?_
    refine mE_iconst c65_8 ?_
    refine mE_sipush (x := 9999) c65_9 rfl ?_
    refine mE_static1 (as := [.int (Int32.ofInt x2), .int (Int32.ofInt 0), .int (Int32.ofInt 9999)]) (r := []) c65_12 qo65 (by decide) qK11_108 rfl rfl rfl (Nat.le_of_ble_eq_true rfl) (s80 (d := d + 1) hx2 (r4_n rfl) (r4_n rfl) w.obind) ?_
    rintro v5 _ q7 ⟨rfl, w⟩
    by_cases e8 : v5 = 0
    · have w := w.pos e8
      refine mE_if_eq_T (t := 30) c65_15 rfl q7 e8 ?_
      refine mE_iconst c65_30 ?_
      exact mE_iret c65_31 qr65 (r4_n rfl) w.osome
    · have w := w.neg e8
      refine mE_if_eq_F (t := 30) c65_15 rfl q7 e8 ?_
      refine mE_aload_n c65_18 rfl ?_
      refine mE_getA c65_19 qo65 qF11_69 (ok_lit rfl rfl rfl) rfl ⟨by decide, by decide⟩ ?_
      refine mE_getI c65_22 qo65 qF11_303 (ok_lit rfl rfl rfl) rfl ?_
      intro u9
      refine mE_bipush (x := 40) c65_25 rfl ?_
      by_cases e10 : (M 112 0) < 40
      · have w := w.pos e10
        refine mE_icmp_lt_T (t := 32) c65_27 rfl u9 (r4_n rfl) e10 ?_
        refine mE_aload_n c65_32 rfl ?_
        refine mE_getA c65_33 qo65 qF11_69 (ok_lit rfl rfl rfl) rfl ⟨by decide, by decide⟩ ?_
        refine mE_iload_n c65_36 rfl ?_
        refine mE_iload_n c65_37 rfl ?_
        refine mE_virtual1 (b := 112) (as := [.int (Int32.ofInt x1), .int (Int32.ofInt x2)]) (r := []) c65_38 qo65 qK11_306 qo198 rfl rfl rfl (ok_lit rfl rfl rfl) (Nat.le_of_ble_eq_true rfl) (s198 (d := d + 1) hx1 hx2 w.oc) ?_
        intro v11 M12 q13 w
        exact mE_iret c65_41 qr65 q13 w.osome
      · have w := w.neg e10
        refine mE_icmp_lt_F (t := 32) c65_27 rfl u9 (r4_n rfl) e10 ?_
        refine mE_iconst c65_30 ?_
        exact mE_iret c65_31 qr65 (r4_n rfl) w.osome
theorem s65 {X : Nat × Nat × qC} {d : Nat} {x1 : Int} {x2 : Int} {M : Mm} {R : Int × Mm → Prop} (hx1 : R4 x1) (hx2 : R4 x2) (w : Wp (f65 x1 x2 M) R) : mC X (d + 3) 65 1 [.ref 2, .int (Int32.ofInt x1), .int (Int32.ofInt x2)] M (fun v M2 => R (v, M2)) :=
  mC_of (qent_mk qx65 rfl rfl rfl) (t65 hx1 hx2 w)
/-! SaggingNet.rules -/
noncomputable def f66 (x1 : Int) (M : Mm) : Option (Int × Mm) :=
  (f80 x1 1 160 M).bind fun v1 =>
  if v1 = 0 then
  (some ((-1), M))
  else
  (if (M 132 0) < x1 then
  (some ((-1), M))
  else
  (mlet (ms M 132 0 0) fun M7 =>
  gd (isTx (M7 2 13).toNat) (
  obnd (f25 ((M7 2 13).toNat) x1 M7) fun v10 M11 =>
  if 0 < v10 then
  (gd (isTx (M11 3 4).toNat) (
  gd (isTx (M11 2 13).toNat) (
  mlet (ms M11 3 4 ((((M11 2 13).toNat) : Nat) : Int)) fun M16 =>
  mlet (ms M16 2 13 ((((M11 3 4).toNat) : Nat) : Int)) fun M18 =>
  some (v10, M18))))
  else
  (some (v10, M11)))))
theorem t66 {X : Nat × Nat × qC} {d : Nat} {x1 : Int} {M : Mm}  {R : Int × Mm → Prop} (hx1 : R4 x1) (w : Wp (f66 x1 M) R) : mE X (d + 44) 66 1 0 [some (.ref 2), some (.int (Int32.ofInt x1)), none, none] [] M (fun v M2 => R (v, M2)) := by
  refine mE_iload_n c66_0 rfl ?_
  refine mE_iconst c66_1 ?_
  refine mE_sipush (x := 160) c66_2 rfl ?_
  refine mE_static1 (as := [.int (Int32.ofInt x1), .int (Int32.ofInt 1), .int (Int32.ofInt 160)]) (r := []) c66_5 qo66 (by decide) qK11_108 rfl rfl rfl (Nat.le_of_ble_eq_true rfl) (s80 (d := d + 43) hx1 (r4_n rfl) (r4_n rfl) w.obind) ?_
  rintro v1 _ q3 ⟨rfl, w⟩
  by_cases e4 : v1 = 0
  · have w := w.pos e4
    refine mE_if_eq_T (t := 22) c66_8 rfl q3 e4 ?_
    refine mE_iconst c66_22 ?_
    exact mE_iret c66_23 qr66 (r4_n rfl) w.osome
  · have w := w.neg e4
    refine mE_if_eq_F (t := 22) c66_8 rfl q3 e4 ?_
    refine mE_iload_n c66_11 rfl ?_
    refine mE_aload_n c66_12 rfl ?_
    refine mE_getA c66_13 qo66 qF11_83 (ok_lit rfl rfl rfl) rfl ⟨by decide, by decide⟩ ?_
    refine mE_getI c66_16 qo66 qF11_172 (ok_lit rfl rfl rfl) rfl ?_
    intro u5
    by_cases e6 : (M 132 0) < x1
    · have w := w.pos e6
      refine mE_icmp_le_F (t := 24) c66_19 rfl hx1 u5 e6 ?_
      refine mE_iconst c66_22 ?_
      exact mE_iret c66_23 qr66 (r4_n rfl) w.osome
    · have w := w.neg e6
      refine mE_icmp_le_T (t := 24) c66_19 rfl hx1 u5 e6 ?_
      refine mE_aload_n c66_24 rfl ?_
      refine mE_getA c66_25 qo66 qF11_83 (ok_lit rfl rfl rfl) rfl ⟨by decide, by decide⟩ ?_
      refine mE_iconst c66_28 ?_
      obtain ⟨M7, m8, w⟩ := w.mlet
      refine mE_putI c66_29 qo66 qF11_172 qz9_0 (ok_lit rfl rfl rfl) (Nat.le_of_ble_eq_true rfl) rfl (r4_n rfl) (by rw [qy9_0]; rfl) ?_
      refine mE_M m8 ?_
      refine mE_aload_n c66_32 rfl ?_
      obtain ⟨g9, w⟩ := w.ogd
      refine mE_getT c66_33 qo66 qF11_93 (ok_lit rfl rfl rfl) rfl ⟨by decide, by decide⟩ ?_
      refine mE_aload_n c66_36 rfl ?_
      refine mE_getA c66_37 qo66 qF11_83 (ok_lit rfl rfl rfl) rfl ⟨by decide, by decide⟩ ?_
      refine mE_getA c66_40 qo66 qF11_175 (ok_lit rfl rfl rfl) rfl ⟨by decide, by decide⟩ ?_
      refine mE_iload_n c66_43 rfl ?_
      refine mE_virtual1 (b := ((M7 2 13).toNat)) (as := [.ref 133, .int (Int32.ofInt x1)]) (r := []) c66_44 qo66 qK11_178 qo25 rfl rfl rfl (ok_tx0 g9) (Nat.le_of_ble_eq_true rfl) (s25 (d := d + 0) g9 hx1 w.oc) ?_
      intro v10 M11 q12 w
      refine mE_istore_n (ls2 := [some (.ref 2), some (.int (Int32.ofInt x1)), some (.int (Int32.ofInt v10)), none]) c66_47 (Nat.le_of_ble_eq_true rfl) rfl ?_
      refine mE_iload_n c66_48 rfl ?_
      by_cases e13 : 0 < v10
      · have w := w.pos e13
        refine mE_if_le_F (t := 76) c66_49 rfl q12 e13 ?_
        refine mE_aload_n c66_52 rfl ?_
        refine mE_getA c66_53 qo66 qF11_10 (ok_lit rfl rfl rfl) rfl ⟨by decide, by decide⟩ ?_
        obtain ⟨g14, w⟩ := w.ogd
        refine mE_getT c66_56 qo66 qF11_182 (ok_lit rfl rfl rfl) rfl ⟨by decide, by decide⟩ ?_
        refine mE_astore_n (ls2 := [some (.ref 2), some (.int (Int32.ofInt x1)), some (.int (Int32.ofInt v10)), some (.ref ((M11 3 4).toNat))]) c66_59 (Nat.le_of_ble_eq_true rfl) rfl ?_
        refine mE_aload_n c66_60 rfl ?_
        refine mE_getA c66_61 qo66 qF11_10 (ok_lit rfl rfl rfl) rfl ⟨by decide, by decide⟩ ?_
        refine mE_aload_n c66_64 rfl ?_
        obtain ⟨g15, w⟩ := w.ogd
        refine mE_getT c66_65 qo66 qF11_93 (ok_lit rfl rfl rfl) rfl ⟨by decide, by decide⟩ ?_
        obtain ⟨M16, m17, w⟩ := w.mlet
        refine mE_putT c66_68 qo66 qF11_182 qz4_4 (ok_lit rfl rfl rfl) (Nat.le_of_ble_eq_true rfl) rfl ⟨by decide, by decide⟩ g15 (by rw [qy4_4]; rfl) ?_
        refine mE_M m17 ?_
        refine mE_aload_n c66_71 rfl ?_
        refine mE_aload_n c66_72 rfl ?_
        obtain ⟨M18, m19, w⟩ := w.mlet
        refine mE_putT c66_73 qo66 qF11_93 qz11_13 (ok_lit rfl rfl rfl) (Nat.le_of_ble_eq_true rfl) rfl ⟨by decide, by decide⟩ g14 (by rw [qy11_13]; rfl) ?_
        refine mE_M m19 ?_
        refine mE_iload_n c66_76 rfl ?_
        exact mE_iret c66_77 qr66 q12 w.osome
      · have w := w.neg e13
        refine mE_if_le_T (t := 76) c66_49 rfl q12 e13 ?_
        refine mE_iload_n c66_76 rfl ?_
        exact mE_iret c66_77 qr66 q12 w.osome
theorem s66 {X : Nat × Nat × qC} {d : Nat} {x1 : Int} {M : Mm} {R : Int × Mm → Prop} (hx1 : R4 x1) (w : Wp (f66 x1 M) R) : mC X (d + 45) 66 1 [.ref 2, .int (Int32.ofInt x1)] M (fun v M2 => R (v, M2)) :=
  mC_of (qent_mk qx66 rfl rfl rfl) (t66 hx1 w)
/-! SaggingNet.run -/
noncomputable def f67 (x1 : Int) (x2 : Int) (M : Mm) : Option (Int × Mm) :=
  (f216 x1 M).bind fun v1 =>
  if v1 = 0 then
  (some (0, M))
  else
  ((f245 24 x1 M).bind fun v5 =>
  if v5 = x2 then
  (some (0, M))
  else
  (mlet (ms M 24 2 (bXor (M 24 2) (bShl 1 x1))) fun M10 =>
  some (1, M10)))
theorem t67 {X : Nat × Nat × qC} {d : Nat} {x1 : Int} {x2 : Int} {M : Mm}  {R : Int × Mm → Prop} (hx1 : R4 x1) (hx2 : R4 x2) (w : Wp (f67 x1 x2 M) R) : mE X (d + 1) 67 1 0 [some (.ref 2), some (.int (Int32.ofInt x1)), some (.int (Int32.ofInt x2))] [] M (fun v M2 => R (v, M2)) := by
  refine mE_aload_n c67_0 rfl ?_
  refine mE_getA c67_1 qo67 qF11_10 (ok_lit rfl rfl rfl) rfl ⟨by decide, by decide⟩ ?_
  refine mE_iload_n c67_4 rfl ?_
  refine mE_virtual1 (b := 3) (as := [.int (Int32.ofInt x1)]) (r := []) c67_5 qo67 qK11_152 qo216 rfl rfl rfl (ok_lit rfl rfl rfl) (Nat.le_of_ble_eq_true rfl) (s216 (d := d + 0) hx1 w.obind) ?_
  rintro v1 _ q3 ⟨rfl, w⟩
  by_cases e4 : v1 = 0
  · have w := w.pos e4
    refine mE_if_eq_T (t := 23) c67_8 rfl q3 e4 ?_
    refine mE_iconst c67_23 ?_
    exact mE_zret c67_24 qr67 (Or.inl rfl) w.osome
  · have w := w.neg e4
    refine mE_if_eq_F (t := 23) c67_8 rfl q3 e4 ?_
    refine mE_aload_n c67_11 rfl ?_
    refine mE_getA c67_12 qo67 qF11_19 (ok_lit rfl rfl rfl) rfl ⟨by decide, by decide⟩ ?_
    refine mE_iload_n c67_15 rfl ?_
    refine mE_virtual1 (b := 24) (as := [.int (Int32.ofInt x1)]) (r := []) c67_16 qo67 qK11_155 qo245 rfl rfl rfl (ok_lit rfl rfl rfl) (Nat.le_of_ble_eq_true rfl) (s245 (d := d + 0) isSt_24 hx1 w.obind) ?_
    rintro v5 _ q7 ⟨rfl, w⟩
    refine mE_iload_n c67_19 rfl ?_
    by_cases e8 : v5 = x2
    · have w := w.pos e8
      refine mE_icmp_ne_F (t := 25) c67_20 rfl q7 hx2 e8 ?_
      refine mE_iconst c67_23 ?_
      exact mE_zret c67_24 qr67 (Or.inl rfl) w.osome
    · have w := w.neg e8
      refine mE_icmp_ne_T (t := 25) c67_20 rfl q7 hx2 e8 ?_
      refine mE_aload_n c67_25 rfl ?_
      refine mE_getA c67_26 qo67 qF11_19 (ok_lit rfl rfl rfl) rfl ⟨by decide, by decide⟩ ?_
      refine mE_dup c67_29 rfl ?_
      refine mE_getI c67_30 qo67 qF11_133 (ok_lit rfl rfl rfl) rfl ?_
      intro u9
      refine mE_iconst c67_33 ?_
      refine mE_iload_n c67_34 rfl ?_
      refine mE_ishl c67_35 ?_
      refine mE_ixor c67_36 ?_
      obtain ⟨M10, m11, w⟩ := w.mlet
      refine mE_putI c67_37 qo67 qF11_133 qz8_2 (ok_lit rfl rfl rfl) (Nat.le_of_ble_eq_true rfl) rfl (r4_xor _ _) (by rw [qy8_2]; rfl) ?_
      refine mE_M m11 ?_
      refine mE_iconst c67_40 ?_
      exact mE_zret c67_41 qr67 (Or.inr rfl) w.osome
theorem s67 {X : Nat × Nat × qC} {d : Nat} {x1 : Int} {x2 : Int} {M : Mm} {R : Int × Mm → Prop} (hx1 : R4 x1) (hx2 : R4 x2) (w : Wp (f67 x1 x2 M) R) : mC X (d + 2) 67 1 [.ref 2, .int (Int32.ofInt x1), .int (Int32.ofInt x2)] M (fun v M2 => R (v, M2)) :=
  mC_of (qent_mk qx67 rfl rfl rfl) (t67 hx1 hx2 w)
/-! SaggingNet$State.isDark -/
noncomputable def f243 (r0 : Nat) (x1 : Int) (M : Mm) : Option (Int) :=
  if (bAnd (bShr (M r0 1) x1) 1) = 1 then
  (some 1)
  else
  (some 0)
theorem t243 {X : Nat × Nat × qC} {d : Nat} {r0 : Nat} {x1 : Int} {M : Mm}  {R : Int → Prop} (hr0 : isSt X.1 r0) (hx1 : R4 x1) (w : Wp (f243 r0 x1 M) R) : mE X (d + 0) 243 1 0 [some (.ref r0), some (.int (Int32.ofInt x1))] [] M (fun v M2 => M = M2 ∧ R v) := by
  refine mE_aload_n c243_0 rfl ?_
  refine mE_getI c243_1 qo243 qF8_28 (ok_st0 hr0) rfl ?_
  intro u1
  refine mE_iload_n c243_4 rfl ?_
  refine mE_ishr c243_5 ?_
  refine mE_iconst c243_6 ?_
  refine mE_iand c243_7 ?_
  refine mE_iconst c243_8 ?_
  by_cases e2 : (bAnd (bShr (M r0 1) x1) 1) = 1
  · have w := w.pos e2
    refine mE_icmp_ne_F (t := 16) c243_9 rfl (r4_and _ _) (r4_n rfl) e2 ?_
    refine mE_iconst c243_12 ?_
    refine mE_goto (t := 17) c243_13 rfl ?_
    exact mE_zret c243_17 qr243 (Or.inr rfl) ⟨rfl, w.osome⟩
  · have w := w.neg e2
    refine mE_icmp_ne_T (t := 16) c243_9 rfl (r4_and _ _) (r4_n rfl) e2 ?_
    refine mE_iconst c243_16 ?_
    exact mE_zret c243_17 qr243 (Or.inl rfl) ⟨rfl, w.osome⟩
theorem s243 {X : Nat × Nat × qC} {d : Nat} {r0 : Nat} {x1 : Int} {M : Mm} {R : Int → Prop} (hr0 : isSt X.1 r0) (hx1 : R4 x1) (w : Wp (f243 r0 x1 M) R) : mC X (d + 1) 243 1 [.ref r0, .int (Int32.ofInt x1)] M (fun v M2 => M = M2 ∧ R v) :=
  mC_of (qent_mk qx243 rfl rfl rfl) (t243 hr0 hx1 w)
/-! SaggingNet.shed -/
noncomputable def f68 (x1 : Int) (x2 : Int) (M : Mm) : Option (Int × Mm) :=
  (f214 x1 M).bind fun v1 =>
  if v1 = 0 then
  (some (0, M))
  else
  ((f243 24 x1 M).bind fun v5 =>
  if v5 = x2 then
  (some (0, M))
  else
  (mlet (ms M 24 1 (bXor (M 24 1) (bShl 1 x1))) fun M10 =>
  some (1, M10)))
theorem t68 {X : Nat × Nat × qC} {d : Nat} {x1 : Int} {x2 : Int} {M : Mm}  {R : Int × Mm → Prop} (hx1 : R4 x1) (hx2 : R4 x2) (w : Wp (f68 x1 x2 M) R) : mE X (d + 1) 68 1 0 [some (.ref 2), some (.int (Int32.ofInt x1)), some (.int (Int32.ofInt x2))] [] M (fun v M2 => R (v, M2)) := by
  refine mE_aload_n c68_0 rfl ?_
  refine mE_getA c68_1 qo68 qF11_10 (ok_lit rfl rfl rfl) rfl ⟨by decide, by decide⟩ ?_
  refine mE_iload_n c68_4 rfl ?_
  refine mE_virtual1 (b := 3) (as := [.int (Int32.ofInt x1)]) (r := []) c68_5 qo68 qK11_122 qo214 rfl rfl rfl (ok_lit rfl rfl rfl) (Nat.le_of_ble_eq_true rfl) (s214 (d := d + 0) hx1 w.obind) ?_
  rintro v1 _ q3 ⟨rfl, w⟩
  by_cases e4 : v1 = 0
  · have w := w.pos e4
    refine mE_if_eq_T (t := 23) c68_8 rfl q3 e4 ?_
    refine mE_iconst c68_23 ?_
    exact mE_zret c68_24 qr68 (Or.inl rfl) w.osome
  · have w := w.neg e4
    refine mE_if_eq_F (t := 23) c68_8 rfl q3 e4 ?_
    refine mE_aload_n c68_11 rfl ?_
    refine mE_getA c68_12 qo68 qF11_19 (ok_lit rfl rfl rfl) rfl ⟨by decide, by decide⟩ ?_
    refine mE_iload_n c68_15 rfl ?_
    refine mE_virtual1 (b := 24) (as := [.int (Int32.ofInt x1)]) (r := []) c68_16 qo68 qK11_158 qo243 rfl rfl rfl (ok_lit rfl rfl rfl) (Nat.le_of_ble_eq_true rfl) (s243 (d := d + 0) isSt_24 hx1 w.obind) ?_
    rintro v5 _ q7 ⟨rfl, w⟩
    refine mE_iload_n c68_19 rfl ?_
    by_cases e8 : v5 = x2
    · have w := w.pos e8
      refine mE_icmp_ne_F (t := 25) c68_20 rfl q7 hx2 e8 ?_
      refine mE_iconst c68_23 ?_
      exact mE_zret c68_24 qr68 (Or.inl rfl) w.osome
    · have w := w.neg e8
      refine mE_icmp_ne_T (t := 25) c68_20 rfl q7 hx2 e8 ?_
      refine mE_aload_n c68_25 rfl ?_
      refine mE_getA c68_26 qo68 qF11_19 (ok_lit rfl rfl rfl) rfl ⟨by decide, by decide⟩ ?_
      refine mE_dup c68_29 rfl ?_
      refine mE_getI c68_30 qo68 qF11_161 (ok_lit rfl rfl rfl) rfl ?_
      intro u9
      refine mE_iconst c68_33 ?_
      refine mE_iload_n c68_34 rfl ?_
      refine mE_ishl c68_35 ?_
      refine mE_ixor c68_36 ?_
      obtain ⟨M10, m11, w⟩ := w.mlet
      refine mE_putI c68_37 qo68 qF11_161 qz8_1 (ok_lit rfl rfl rfl) (Nat.le_of_ble_eq_true rfl) rfl (r4_xor _ _) (by rw [qy8_1]; rfl) ?_
      refine mE_M m11 ?_
      refine mE_iconst c68_40 ?_
      exact mE_zret c68_41 qr68 (Or.inr rfl) w.osome
theorem s68 {X : Nat × Nat × qC} {d : Nat} {x1 : Int} {x2 : Int} {M : Mm} {R : Int × Mm → Prop} (hx1 : R4 x1) (hx2 : R4 x2) (w : Wp (f68 x1 x2 M) R) : mC X (d + 2) 68 1 [.ref 2, .int (Int32.ofInt x1), .int (Int32.ofInt x2)] M (fun v M2 => R (v, M2)) :=
  mC_of (qent_mk qx68 rfl rfl rfl) (t68 hx1 hx2 w)
/-! SaggingNet.shown -/
noncomputable def f69 (x1 : Int) (x2 : Int) (x3 : Int) (M : Mm) : Option (Int) :=
  (f56 x1 M).bind fun v1 =>
  if v1 = 0 then
  (some (-1))
  else
  ((f215 x2 M).bind fun v5 =>
  if v5 = 0 then
  (some (-1))
  else
  ((f230 x1 x2 M).bind fun v9 =>
  if v9 = 0 then
  (some (-1))
  else
  (if x3 = 0 then
  (gd (0 ≤ x1 ∧ x1 < 4) (
  some (bAnd (bShr (M 106 (x1).toNat) x2) 1)))
  else
  (if x3 = 1 then
  (gd (0 ≤ x1 ∧ x1 < 4) (
  gd (0 ≤ x2 ∧ x2 < 14) (
  some (M (108 + (x1).toNat) (x2).toNat))))
  else
  (if x3 = 2 then
  (gd (0 ≤ x1 ∧ x1 < 4) (
  some (M 104 (x1).toNat)))
  else
  (some (-1)))))))
theorem t69 {X : Nat × Nat × qC} {d : Nat} {x1 : Int} {x2 : Int} {x3 : Int} {M : Mm}  {R : Int → Prop} (hx1 : R4 x1) (hx2 : R4 x2) (hx3 : R4 x3) (w : Wp (f69 x1 x2 x3 M) R) : mE X (d + 2) 69 2 0 [some (.ref 2), some (.int (Int32.ofInt x1)), some (.int (Int32.ofInt x2)), some (.int (Int32.ofInt x3))] [] M (fun v M2 => M = M2 ∧ R v) := by
  refine mE_iload_n c69_0 rfl ?_
  refine mE_static1 (as := [.int (Int32.ofInt x1)]) (r := []) c69_1 qo69 (by decide) qK11_104 rfl rfl rfl (Nat.le_of_ble_eq_true rfl) (s56 (d := d + 0) hx1 w.obind) ?_
  rintro v1 _ q3 ⟨rfl, w⟩
  by_cases e4 : v1 = 0
  · have w := w.pos e4
    refine mE_if_eq_T (t := 34) c69_4 rfl q3 e4 ?_
    refine mE_ldc2_w (x := (-1)) c69_34 qo69 qJ11_272 rfl ?_
    exact mE_lret c69_37 qr69 (r8_n rfl) ⟨rfl, w.osome⟩
  · have w := w.neg e4
    refine mE_if_eq_F (t := 34) c69_4 rfl q3 e4 ?_
    refine mE_aload_n c69_7 rfl ?_
    refine mE_getA c69_8 qo69 qF11_10 (ok_lit rfl rfl rfl) rfl ⟨by decide, by decide⟩ ?_
    refine mE_iload_n c69_11 rfl ?_
    refine mE_virtual1 (b := 3) (as := [.int (Int32.ofInt x2)]) (r := []) c69_12 qo69 qK11_140 qo215 rfl rfl rfl (ok_lit rfl rfl rfl) (Nat.le_of_ble_eq_true rfl) (s215 (d := d + 1) hx2 w.obind) ?_
    rintro v5 _ q7 ⟨rfl, w⟩
    by_cases e8 : v5 = 0
    · have w := w.pos e8
      refine mE_if_eq_T (t := 34) c69_15 rfl q7 e8 ?_
      refine mE_ldc2_w (x := (-1)) c69_34 qo69 qJ11_272 rfl ?_
      exact mE_lret c69_37 qr69 (r8_n rfl) ⟨rfl, w.osome⟩
    · have w := w.neg e8
      refine mE_if_eq_F (t := 34) c69_15 rfl q7 e8 ?_
      refine mE_aload_n c69_18 rfl ?_
      refine mE_getA c69_19 qo69 qF11_62 (ok_lit rfl rfl rfl) rfl ⟨by decide, by decide⟩ ?_
      refine mE_aload_n c69_22 rfl ?_
      refine mE_getA c69_23 qo69 qF11_10 (ok_lit rfl rfl rfl) rfl ⟨by decide, by decide⟩ ?_
      refine mE_iload_n c69_26 rfl ?_
      refine mE_iload_n c69_27 rfl ?_
      refine mE_virtual1 (b := 102) (as := [.ref 3, .int (Int32.ofInt x1), .int (Int32.ofInt x2)]) (r := []) c69_28 qo69 qK11_268 qo230 rfl rfl rfl (ok_lit rfl rfl rfl) (Nat.le_of_ble_eq_true rfl) (s230 (d := d + 0) hx1 hx2 w.obind) ?_
      rintro v9 _ q11 ⟨rfl, w⟩
      by_cases e12 : v9 = 0
      · have w := w.pos e12
        refine mE_if_ne_F (t := 38) c69_31 rfl q11 e12 ?_
        refine mE_ldc2_w (x := (-1)) c69_34 qo69 qJ11_272 rfl ?_
        exact mE_lret c69_37 qr69 (r8_n rfl) ⟨rfl, w.osome⟩
      · have w := w.neg e12
        refine mE_if_ne_T (t := 38) c69_31 rfl q11 e12 ?_
        refine mE_iload_n c69_38 rfl ?_
        by_cases e13 : x3 = 0
        · have w := w.pos e13
          refine mE_table (off := 25) (t := 64) c69_39 hx3 e13 (by decide) rfl rfl ?_
          refine mE_aload_n c69_64 rfl ?_
          refine mE_getA c69_65 qo69 qF11_62 (ok_lit rfl rfl rfl) rfl ⟨by decide, by decide⟩ ?_
          refine mE_getA c69_68 qo69 qF11_274 (ok_lit rfl rfl rfl) rfl ⟨by decide, by decide⟩ ?_
          refine mE_iload_n c69_71 rfl ?_
          obtain ⟨g14, w⟩ := w.ogd
          refine mE_iaload c69_72 (ok_lit rfl rfl rfl) hx1 g14 ?_
          intro u15
          refine mE_iload_n c69_73 rfl ?_
          refine mE_ishr c69_74 ?_
          refine mE_iconst c69_75 ?_
          refine mE_iand c69_76 ?_
          refine mE_i2l c69_77 (r4_and _ _) ?_
          exact mE_lret c69_78 qr69 (R4.to8 (r4_and _ _)) ⟨rfl, w.osome⟩
        have w := w.neg e13
        by_cases e14 : x3 = 1
        · have w := w.pos e14
          refine mE_table (off := 40) (t := 79) c69_39 hx3 e14 (by decide) rfl rfl ?_
          refine mE_aload_n c69_79 rfl ?_
          refine mE_getA c69_80 qo69 qF11_62 (ok_lit rfl rfl rfl) rfl ⟨by decide, by decide⟩ ?_
          refine mE_getA c69_83 qo69 qF11_277 (ok_lit rfl rfl rfl) rfl ⟨by decide, by decide⟩ ?_
          refine mE_iload_n c69_86 rfl ?_
          obtain ⟨g15, w⟩ := w.ogd
          refine mE_aaload3 c69_87 (ok_lit rfl rfl rfl) (Or.inr (Or.inr rfl)) hx1 g15 ?_
          refine mE_iload_n c69_88 rfl ?_
          obtain ⟨g16, w⟩ := w.ogd
          refine mE_laload c69_89 (ok_scr g15) hx2 g16 ?_
          intro u17
          exact mE_lret c69_90 qr69 u17 ⟨rfl, w.osome⟩
        have w := w.neg e14
        by_cases e15 : x3 = 2
        · have w := w.pos e15
          refine mE_table (off := 52) (t := 91) c69_39 hx3 e15 (by decide) rfl rfl ?_
          refine mE_aload_n c69_91 rfl ?_
          refine mE_getA c69_92 qo69 qF11_62 (ok_lit rfl rfl rfl) rfl ⟨by decide, by decide⟩ ?_
          refine mE_getA c69_95 qo69 qF11_281 (ok_lit rfl rfl rfl) rfl ⟨by decide, by decide⟩ ?_
          refine mE_iload_n c69_98 rfl ?_
          obtain ⟨g16, w⟩ := w.ogd
          refine mE_iaload c69_99 (ok_lit rfl rfl rfl) hx1 g16 ?_
          intro u17
          refine mE_i2l c69_100 u17 ?_
          exact mE_lret c69_101 qr69 (R4.to8 u17) ⟨rfl, w.osome⟩
        have w := w.neg e15
        refine mE_tableD (t := 102) c69_39 hx3 (by omega) rfl ?_
        refine mE_ldc2_w (x := (-1)) c69_102 qo69 qJ11_272 rfl ?_
        exact mE_lret c69_105 qr69 (r8_n rfl) ⟨rfl, w.osome⟩
theorem s69 {X : Nat × Nat × qC} {d : Nat} {x1 : Int} {x2 : Int} {x3 : Int} {M : Mm} {R : Int → Prop} (hx1 : R4 x1) (hx2 : R4 x2) (hx3 : R4 x3) (w : Wp (f69 x1 x2 x3 M) R) : mC X (d + 3) 69 2 [.ref 2, .int (Int32.ofInt x1), .int (Int32.ofInt x2), .int (Int32.ofInt x3)] M (fun v M2 => M = M2 ∧ R v) :=
  mC_of (qent_mk qx69 rfl rfl rfl) (t69 hx1 hx2 hx3 w)
/-! SaggingNet.sign -/
noncomputable def f70 (x1 : Int) (M : Mm) : Option (Int) :=
  (f56 x1 M).bind fun v1 =>
  if v1 = 0 then
  (some (-1))
  else
  (gd (0 ≤ x1 ∧ x1 < 4) (
  some (M 105 (x1).toNat)))
theorem t70 {X : Nat × Nat × qC} {d : Nat} {x1 : Int} {M : Mm}  {R : Int → Prop} (hx1 : R4 x1) (w : Wp (f70 x1 M) R) : mE X (d + 2) 70 1 0 [some (.ref 2), some (.int (Int32.ofInt x1))] [] M (fun v M2 => M = M2 ∧ R v) := by
  refine mE_iload_n c70_0 rfl ?_
  refine mE_static1 (as := [.int (Int32.ofInt x1)]) (r := []) c70_1 qo70 (by decide) qK11_104 rfl rfl rfl (Nat.le_of_ble_eq_true rfl) (s56 (d := d + 0) hx1 w.obind) ?_
  rintro v1 _ q3 ⟨rfl, w⟩
  by_cases e4 : v1 = 0
  · have w := w.pos e4
    refine mE_if_eq_T (t := 19) c70_4 rfl q3 e4 ?_
    refine mE_iconst c70_19 ?_
    exact mE_iret c70_20 qr70 (r4_n rfl) ⟨rfl, w.osome⟩
  · have w := w.neg e4
    refine mE_if_eq_F (t := 19) c70_4 rfl q3 e4 ?_
    refine mE_aload_n c70_7 rfl ?_
    refine mE_getA c70_8 qo70 qF11_62 (ok_lit rfl rfl rfl) rfl ⟨by decide, by decide⟩ ?_
    refine mE_getA c70_11 qo70 qF11_265 (ok_lit rfl rfl rfl) rfl ⟨by decide, by decide⟩ ?_
    refine mE_iload_n c70_14 rfl ?_
    obtain ⟨g5, w⟩ := w.ogd
    refine mE_iaload c70_15 (ok_lit rfl rfl rfl) hx1 g5 ?_
    intro u6
    refine mE_goto (t := 20) c70_16 rfl ?_
    exact mE_iret c70_20 qr70 u6 ⟨rfl, w.osome⟩
theorem s70 {X : Nat × Nat × qC} {d : Nat} {x1 : Int} {M : Mm} {R : Int → Prop} (hx1 : R4 x1) (w : Wp (f70 x1 M) R) : mC X (d + 3) 70 1 [.ref 2, .int (Int32.ofInt x1)] M (fun v M2 => M = M2 ∧ R v) :=
  mC_of (qent_mk qx70 rfl rfl rfl) (t70 hx1 w)
/-! SaggingNet$Net.addSpot -/
def E210_8 (X : Nat × Nat × qC) (d : Nat) (x1 : Int) (x2 : Int) (x3 : Int) (R : Int × Mm → Prop) : Int × Mm → Prop := fun s => R4 s.1 → mE X (d + 0) 210 1 8 [some (.ref 3), some (.int (Int32.ofInt x1)), some (.int (Int32.ofInt x2)), some (.int (Int32.ofInt x3)), some (.int (Int32.ofInt s.1))] [] s.2 (fun v M2 => R (v, M2))
noncomputable def f210_53 (x1 : Int) (x2 : Int) (x3 : Int) (x4 : Int) (M : Mm) : Option (Int × Mm) :=
  gd (0 ≤ x4 ∧ x4 < 8) (
  mlet (ms M 13 (x4).toNat x3) fun M2 =>
  gd (0 ≤ x3 ∧ x3 < 8) (
  mlet (ms M2 11 (x3).toNat x1) fun M5 =>
  mlet (ms M5 12 (x3).toNat x2) fun M7 =>
  gd (R4 ((M7 3 0) + 1)) (
  mlet (ms M7 3 0 ((M7 3 0) + 1)) fun M11 =>
  some (x3, M11))))
theorem t210_53 {X : Nat × Nat × qC} {d : Nat} {x1 : Int} {x2 : Int} {x3 : Int} {x4 : Int} {M : Mm}  {R : Int × Mm → Prop} (hx1 : R4 x1) (hx2 : R4 x2) (hx3 : R4 x3) (hx4 : R4 x4) (w : Wp (f210_53 x1 x2 x3 x4 M) R) : mE X (d + 0) 210 1 53 [some (.ref 3), some (.int (Int32.ofInt x1)), some (.int (Int32.ofInt x2)), some (.int (Int32.ofInt x3)), some (.int (Int32.ofInt x4))] [] M (fun v M2 => R (v, M2)) := by
  refine mE_aload_n c210_53 rfl ?_
  refine mE_getA c210_54 qo210 qF4_29 (ok_lit rfl rfl rfl) rfl ⟨by decide, by decide⟩ ?_
  refine mE_iload c210_57 rfl ?_
  refine mE_iload_n c210_59 rfl ?_
  obtain ⟨g1, w⟩ := w.ogd
  obtain ⟨M2, m3, w⟩ := w.mlet
  refine mE_iastore c210_60 (ok_lit rfl rfl rfl) hx4 g1 hx3 ?_
  refine mE_M m3 ?_
  refine mE_aload_n c210_61 rfl ?_
  refine mE_getA c210_62 qo210 qF4_22 (ok_lit rfl rfl rfl) rfl ⟨by decide, by decide⟩ ?_
  refine mE_iload_n c210_65 rfl ?_
  refine mE_iload_n c210_66 rfl ?_
  obtain ⟨g4, w⟩ := w.ogd
  obtain ⟨M5, m6, w⟩ := w.mlet
  refine mE_iastore c210_67 (ok_lit rfl rfl rfl) hx3 g4 hx1 ?_
  refine mE_M m6 ?_
  refine mE_aload_n c210_68 rfl ?_
  refine mE_getA c210_69 qo210 qF4_26 (ok_lit rfl rfl rfl) rfl ⟨by decide, by decide⟩ ?_
  refine mE_iload_n c210_72 rfl ?_
  refine mE_iload_n c210_73 rfl ?_
  obtain ⟨M7, m8, w⟩ := w.mlet
  refine mE_iastore c210_74 (ok_lit rfl rfl rfl) hx3 g4 hx2 ?_
  refine mE_M m8 ?_
  refine mE_aload_n c210_75 rfl ?_
  refine mE_dup c210_76 rfl ?_
  refine mE_getI c210_77 qo210 qF4_62 (ok_lit rfl rfl rfl) rfl ?_
  intro u9
  refine mE_iconst c210_80 ?_
  obtain ⟨g10, w⟩ := w.ogd
  refine mE_iadd c210_81 ?_
  obtain ⟨M11, m12, w⟩ := w.mlet
  refine mE_putI c210_82 qo210 qF4_62 qz4_0 (ok_lit rfl rfl rfl) (Nat.le_of_ble_eq_true rfl) rfl g10 (by rw [qy4_0]; rfl) ?_
  refine mE_M m12 ?_
  refine mE_iload_n c210_85 rfl ?_
  exact mE_iret c210_86 qr210 hx3 w.osome
noncomputable def lb210_8 (x1 : Int) (x2 : Int) (x3 : Int) (x4 : Int) (M : Mm) : Option ((Int × Mm) ⊕ (Int × Mm)) :=
  if 0 < x4 then
  (gd (R4 (x4 - 1)) (
  gd (0 ≤ (x4 - 1) ∧ (x4 - 1) < 8) (
  gd (0 ≤ (M 13 ((x4 - 1)).toNat) ∧ (M 13 ((x4 - 1)).toNat) < 8) (
  if (M 12 ((M 13 ((x4 - 1)).toNat)).toNat) < x2 then
  (gd (0 ≤ x4 ∧ x4 < 8) (
  mlet (ms M 13 (x4).toNat (M 13 ((x4 - 1)).toNat)) fun M10 =>
  gd (R4 (x4 + (-1))) (
  some (.inl ((x4 + (-1)), M10)))))
  else
  (oinr (f210_53 x1 x2 x3 x4 M))))))
  else
  (oinr (f210_53 x1 x2 x3 x4 M))
noncomputable def f210_8 (x1 : Int) (x2 : Int) (x3 : Int) (x4 : Int) (M : Mm) : Option (Int × Mm) := lp (fun s : Int × Mm => lb210_8 x1 x2 x3 s.1 s.2) (x4, M)
theorem tb210_8 {X : Nat × Nat × qC} {d : Nat} {x1 : Int} {x2 : Int} {x3 : Int} {x4 : Int} {M : Mm}  {R : Int × Mm → Prop} (hx1 : R4 x1) (hx2 : R4 x2) (hx3 : R4 x3) (hx4 : R4 x4) (w : Wp (lb210_8 x1 x2 x3 x4 M) (Sum.elim (E210_8 X d x1 x2 x3 R) R)) : mE X (d + 0) 210 1 8 [some (.ref 3), some (.int (Int32.ofInt x1)), some (.int (Int32.ofInt x2)), some (.int (Int32.ofInt x3)), some (.int (Int32.ofInt x4))] [] M (fun v M2 => R (v, M2)) := by
  refine mE_iload c210_8 rfl ?_
  by_cases e1 : 0 < x4
  · have w := w.pos e1
    refine mE_if_le_F (t := 53) c210_10 rfl hx4 e1 ?_
    refine mE_aload_n c210_13 rfl ?_
    refine mE_getA c210_14 qo210 qF4_26 (ok_lit rfl rfl rfl) rfl ⟨by decide, by decide⟩ ?_
    refine mE_aload_n c210_17 rfl ?_
    refine mE_getA c210_18 qo210 qF4_29 (ok_lit rfl rfl rfl) rfl ⟨by decide, by decide⟩ ?_
    refine mE_iload c210_21 rfl ?_
    refine mE_iconst c210_23 ?_
    obtain ⟨g2, w⟩ := w.ogd
    refine mE_isub c210_24 ?_
    obtain ⟨g3, w⟩ := w.ogd
    refine mE_iaload c210_25 (ok_lit rfl rfl rfl) g2 g3 ?_
    intro u4
    obtain ⟨g5, w⟩ := w.ogd
    refine mE_iaload c210_26 (ok_lit rfl rfl rfl) u4 g5 ?_
    intro u6
    refine mE_iload_n c210_27 rfl ?_
    by_cases e7 : (M 12 ((M 13 ((x4 - 1)).toNat)).toNat) < x2
    · have w := w.pos e7
      refine mE_icmp_ge_F (t := 53) c210_28 rfl u6 hx2 e7 ?_
      refine mE_aload_n c210_31 rfl ?_
      refine mE_getA c210_32 qo210 qF4_29 (ok_lit rfl rfl rfl) rfl ⟨by decide, by decide⟩ ?_
      refine mE_iload c210_35 rfl ?_
      refine mE_aload_n c210_37 rfl ?_
      refine mE_getA c210_38 qo210 qF4_29 (ok_lit rfl rfl rfl) rfl ⟨by decide, by decide⟩ ?_
      refine mE_iload c210_41 rfl ?_
      refine mE_iconst c210_43 ?_
      refine mE_isub c210_44 ?_
      refine mE_iaload c210_45 (ok_lit rfl rfl rfl) g2 g3 ?_
      intro u8
      obtain ⟨g9, w⟩ := w.ogd
      obtain ⟨M10, m11, w⟩ := w.mlet
      refine mE_iastore c210_46 (ok_lit rfl rfl rfl) hx4 g9 u8 ?_
      refine mE_M m11 ?_
      obtain ⟨g12, w⟩ := w.ogd
      refine mE_iinc (ls2 := [some (.ref 3), some (.int (Int32.ofInt x1)), some (.int (Int32.ofInt x2)), some (.int (Int32.ofInt x3)), some (.int (Int32.ofInt (x4 + (-1))))]) c210_47 rfl (Nat.le_of_ble_eq_true rfl) rfl ?_
      refine mE_goto (t := 8) c210_50 rfl ?_
      exact w.osome g12
    · have w := w.neg e7
      refine mE_icmp_ge_T (t := 53) c210_28 rfl u6 hx2 e7 ?_
      have w := w.oinr
      exact t210_53 hx1 hx2 hx3 hx4 w
  · have w := w.neg e1
    refine mE_if_le_T (t := 53) c210_10 rfl hx4 e1 ?_
    have w := w.oinr
    exact t210_53 hx1 hx2 hx3 hx4 w
theorem t210_8 {X : Nat × Nat × qC} {d : Nat} {x1 : Int} {x2 : Int} {x3 : Int} {x4 : Int} {M : Mm}  {R : Int × Mm → Prop} (hx1 : R4 x1) (hx2 : R4 x2) (hx3 : R4 x3) (hx4 : R4 x4) (w : Wp (f210_8 x1 x2 x3 x4 M) R) : mE X (d + 0) 210 1 8 [some (.ref 3), some (.int (Int32.ofInt x1)), some (.int (Int32.ofInt x2)), some (.int (Int32.ofInt x3)), some (.int (Int32.ofInt x4))] [] M (fun v M2 => R (v, M2)) :=
  Wp.olp (f := fun s : Int × Mm => lb210_8 x1 x2 x3 s.1 s.2) (s := (x4, M)) (E := E210_8 X d x1 x2 x3 R) w (fun s w hx4 => tb210_8 hx1 hx2 hx3 hx4 w) hx4
noncomputable def f210 (x1 : Int) (x2 : Int) (M : Mm) : Option (Int × Mm) :=
  f210_8 x1 x2 (M 3 0) (M 3 0) M
theorem t210 {X : Nat × Nat × qC} {d : Nat} {x1 : Int} {x2 : Int} {M : Mm}  {R : Int × Mm → Prop} (hx1 : R4 x1) (hx2 : R4 x2) (w : Wp (f210 x1 x2 M) R) : mE X (d + 0) 210 1 0 [some (.ref 3), some (.int (Int32.ofInt x1)), some (.int (Int32.ofInt x2)), none, none] [] M (fun v M2 => R (v, M2)) := by
  refine mE_aload_n c210_0 rfl ?_
  refine mE_getI c210_1 qo210 qF4_62 (ok_lit rfl rfl rfl) rfl ?_
  intro u1
  refine mE_istore_n (ls2 := [some (.ref 3), some (.int (Int32.ofInt x1)), some (.int (Int32.ofInt x2)), some (.int (Int32.ofInt (M 3 0))), none]) c210_4 (Nat.le_of_ble_eq_true rfl) rfl ?_
  refine mE_iload_n c210_5 rfl ?_
  refine mE_istore (ls2 := [some (.ref 3), some (.int (Int32.ofInt x1)), some (.int (Int32.ofInt x2)), some (.int (Int32.ofInt (M 3 0))), some (.int (Int32.ofInt (M 3 0)))]) c210_6 (Nat.le_of_ble_eq_true rfl) rfl ?_
  exact t210_8 hx1 hx2 u1 u1 w
theorem s210 {X : Nat × Nat × qC} {d : Nat} {x1 : Int} {x2 : Int} {M : Mm} {R : Int × Mm → Prop} (hx1 : R4 x1) (hx2 : R4 x2) (w : Wp (f210 x1 x2 M) R) : mC X (d + 1) 210 1 [.ref 3, .int (Int32.ofInt x1), .int (Int32.ofInt x2)] M (fun v M2 => R (v, M2)) :=
  mC_of (qent_mk qx210 rfl rfl rfl) (t210 hx1 hx2 w)
/-! SaggingNet.spot -/
noncomputable def f71 (x1 : Int) (x2 : Int) (x3 : Int) (M : Mm) : Option (Int × Mm) :=
  if (M 24 0) = 0 then
  (if (M 3 0) < 8 then
  ((f56 x1 M).bind fun v5 =>
  if v5 = 0 then
  (some ((-1), M))
  else
  ((f80 x2 0 2000 M).bind fun v9 =>
  if v9 = 0 then
  (some ((-1), M))
  else
  ((f80 x3 0 9 M).bind fun v13 =>
  if v13 = 0 then
  (some ((-1), M))
  else
  (gd (0 ≤ (M 3 0) ∧ (M 3 0) < 8) (
  mlet (ms M 25 ((M 3 0)).toNat x2) fun M19 =>
  obnd (f210 x1 x3 M19) fun v21 M22 =>
  some (v21, M22))))))
  else
  (some ((-1), M)))
  else
  (some ((-1), M))
theorem t71 {X : Nat × Nat × qC} {d : Nat} {x1 : Int} {x2 : Int} {x3 : Int} {M : Mm}  {R : Int × Mm → Prop} (hx1 : R4 x1) (hx2 : R4 x2) (hx3 : R4 x3) (w : Wp (f71 x1 x2 x3 M) R) : mE X (d + 2) 71 1 0 [some (.ref 2), some (.int (Int32.ofInt x1)), some (.int (Int32.ofInt x2)), some (.int (Int32.ofInt x3)), none] [] M (fun v M2 => R (v, M2)) := by
  refine mE_aload_n c71_0 rfl ?_
  refine mE_getA c71_1 qo71 qF11_19 (ok_lit rfl rfl rfl) rfl ⟨by decide, by decide⟩ ?_
  refine mE_getI c71_4 qo71 qF11_97 (ok_lit rfl rfl rfl) rfl ?_
  intro u1
  by_cases e2 : (M 24 0) = 0
  · have w := w.pos e2
    refine mE_if_ne_F (t := 54) c71_7 rfl u1 e2 ?_
    refine mE_aload_n c71_10 rfl ?_
    refine mE_getA c71_11 qo71 qF11_10 (ok_lit rfl rfl rfl) rfl ⟨by decide, by decide⟩ ?_
    refine mE_getI c71_14 qo71 qF11_101 (ok_lit rfl rfl rfl) rfl ?_
    intro u3
    refine mE_bipush (x := 8) c71_17 rfl ?_
    by_cases e4 : (M 3 0) < 8
    · have w := w.pos e4
      refine mE_icmp_ge_F (t := 54) c71_19 rfl u3 (r4_n rfl) e4 ?_
      refine mE_iload_n c71_22 rfl ?_
      refine mE_static1 (as := [.int (Int32.ofInt x1)]) (r := []) c71_23 qo71 (by decide) qK11_104 rfl rfl rfl (Nat.le_of_ble_eq_true rfl) (s56 (d := d + 0) hx1 w.obind) ?_
      rintro v5 _ q7 ⟨rfl, w⟩
      by_cases e8 : v5 = 0
      · have w := w.pos e8
        refine mE_if_eq_T (t := 54) c71_26 rfl q7 e8 ?_
        refine mE_iconst c71_54 ?_
        refine mE_istore (ls2 := [some (.ref 2), some (.int (Int32.ofInt x1)), some (.int (Int32.ofInt x2)), some (.int (Int32.ofInt x3)), some (.int (Int32.ofInt 0))]) c71_55 (Nat.le_of_ble_eq_true rfl) rfl ?_
        refine mE_iload c71_57 rfl ?_
        refine mE_if_ne_F (t := 64) c71_59 rfl (r4_n rfl) (by decide) ?_
        refine mE_iconst c71_62 ?_
        exact mE_iret c71_63 qr71 (r4_n rfl) w.osome
      · have w := w.neg e8
        refine mE_if_eq_F (t := 54) c71_26 rfl q7 e8 ?_
        refine mE_iload_n c71_29 rfl ?_
        refine mE_iconst c71_30 ?_
        refine mE_sipush (x := 2000) c71_31 rfl ?_
        refine mE_static1 (as := [.int (Int32.ofInt x2), .int (Int32.ofInt 0), .int (Int32.ofInt 2000)]) (r := []) c71_34 qo71 (by decide) qK11_108 rfl rfl rfl (Nat.le_of_ble_eq_true rfl) (s80 (d := d + 1) hx2 (r4_n rfl) (r4_n rfl) w.obind) ?_
        rintro v9 _ q11 ⟨rfl, w⟩
        by_cases e12 : v9 = 0
        · have w := w.pos e12
          refine mE_if_eq_T (t := 54) c71_37 rfl q11 e12 ?_
          refine mE_iconst c71_54 ?_
          refine mE_istore (ls2 := [some (.ref 2), some (.int (Int32.ofInt x1)), some (.int (Int32.ofInt x2)), some (.int (Int32.ofInt x3)), some (.int (Int32.ofInt 0))]) c71_55 (Nat.le_of_ble_eq_true rfl) rfl ?_
          refine mE_iload c71_57 rfl ?_
          refine mE_if_ne_F (t := 64) c71_59 rfl (r4_n rfl) (by decide) ?_
          refine mE_iconst c71_62 ?_
          exact mE_iret c71_63 qr71 (r4_n rfl) w.osome
        · have w := w.neg e12
          refine mE_if_eq_F (t := 54) c71_37 rfl q11 e12 ?_
          refine mE_iload_n c71_40 rfl ?_
          refine mE_iconst c71_41 ?_
          refine mE_bipush (x := 9) c71_42 rfl ?_
          refine mE_static1 (as := [.int (Int32.ofInt x3), .int (Int32.ofInt 0), .int (Int32.ofInt 9)]) (r := []) c71_44 qo71 (by decide) qK11_108 rfl rfl rfl (Nat.le_of_ble_eq_true rfl) (s80 (d := d + 1) hx3 (r4_n rfl) (r4_n rfl) w.obind) ?_
          rintro v13 _ q15 ⟨rfl, w⟩
          by_cases e16 : v13 = 0
          · have w := w.pos e16
            refine mE_if_eq_T (t := 54) c71_47 rfl q15 e16 ?_
            refine mE_iconst c71_54 ?_
            refine mE_istore (ls2 := [some (.ref 2), some (.int (Int32.ofInt x1)), some (.int (Int32.ofInt x2)), some (.int (Int32.ofInt x3)), some (.int (Int32.ofInt 0))]) c71_55 (Nat.le_of_ble_eq_true rfl) rfl ?_
            refine mE_iload c71_57 rfl ?_
            refine mE_if_ne_F (t := 64) c71_59 rfl (r4_n rfl) (by decide) ?_
            refine mE_iconst c71_62 ?_
            exact mE_iret c71_63 qr71 (r4_n rfl) w.osome
          · have w := w.neg e16
            refine mE_if_eq_F (t := 54) c71_47 rfl q15 e16 ?_
            refine mE_iconst c71_50 ?_
            refine mE_goto (t := 55) c71_51 rfl ?_
            refine mE_istore (ls2 := [some (.ref 2), some (.int (Int32.ofInt x1)), some (.int (Int32.ofInt x2)), some (.int (Int32.ofInt x3)), some (.int (Int32.ofInt 1))]) c71_55 (Nat.le_of_ble_eq_true rfl) rfl ?_
            refine mE_iload c71_57 rfl ?_
            refine mE_if_ne_T (t := 64) c71_59 rfl (r4_n rfl) (by decide) ?_
            refine mE_aload_n c71_64 rfl ?_
            refine mE_getA c71_65 qo71 qF11_19 (ok_lit rfl rfl rfl) rfl ⟨by decide, by decide⟩ ?_
            refine mE_getA c71_68 qo71 qF11_112 (ok_lit rfl rfl rfl) rfl ⟨by decide, by decide⟩ ?_
            refine mE_aload_n c71_71 rfl ?_
            refine mE_getA c71_72 qo71 qF11_10 (ok_lit rfl rfl rfl) rfl ⟨by decide, by decide⟩ ?_
            refine mE_getI c71_75 qo71 qF11_101 (ok_lit rfl rfl rfl) rfl ?_
            intro u17
            refine mE_iload_n c71_78 rfl ?_
            obtain ⟨g18, w⟩ := w.ogd
            obtain ⟨M19, m20, w⟩ := w.mlet
            refine mE_iastore c71_79 (ok_lit rfl rfl rfl) u17 g18 hx2 ?_
            refine mE_M m20 ?_
            refine mE_aload_n c71_80 rfl ?_
            refine mE_getA c71_81 qo71 qF11_10 (ok_lit rfl rfl rfl) rfl ⟨by decide, by decide⟩ ?_
            refine mE_iload_n c71_84 rfl ?_
            refine mE_iload_n c71_85 rfl ?_
            refine mE_virtual1 (b := 3) (as := [.int (Int32.ofInt x1), .int (Int32.ofInt x3)]) (r := []) c71_86 qo71 qK11_115 qo210 rfl rfl rfl (ok_lit rfl rfl rfl) (Nat.le_of_ble_eq_true rfl) (s210 (d := d + 1) hx1 hx3 w.oc) ?_
            intro v21 M22 q23 w
            exact mE_iret c71_89 qr71 q23 w.osome
    · have w := w.neg e4
      refine mE_icmp_ge_T (t := 54) c71_19 rfl u3 (r4_n rfl) e4 ?_
      refine mE_iconst c71_54 ?_
      refine mE_istore (ls2 := [some (.ref 2), some (.int (Int32.ofInt x1)), some (.int (Int32.ofInt x2)), some (.int (Int32.ofInt x3)), some (.int (Int32.ofInt 0))]) c71_55 (Nat.le_of_ble_eq_true rfl) rfl ?_
      refine mE_iload c71_57 rfl ?_
      refine mE_if_ne_F (t := 64) c71_59 rfl (r4_n rfl) (by decide) ?_
      refine mE_iconst c71_62 ?_
      exact mE_iret c71_63 qr71 (r4_n rfl) w.osome
  · have w := w.neg e2
    refine mE_if_ne_T (t := 54) c71_7 rfl u1 e2 ?_
    refine mE_iconst c71_54 ?_
    refine mE_istore (ls2 := [some (.ref 2), some (.int (Int32.ofInt x1)), some (.int (Int32.ofInt x2)), some (.int (Int32.ofInt x3)), some (.int (Int32.ofInt 0))]) c71_55 (Nat.le_of_ble_eq_true rfl) rfl ?_
    refine mE_iload c71_57 rfl ?_
    refine mE_if_ne_F (t := 64) c71_59 rfl (r4_n rfl) (by decide) ?_
    refine mE_iconst c71_62 ?_
    exact mE_iret c71_63 qr71 (r4_n rfl) w.osome
theorem s71 {X : Nat × Nat × qC} {d : Nat} {x1 : Int} {x2 : Int} {x3 : Int} {M : Mm} {R : Int × Mm → Prop} (hx1 : R4 x1) (hx2 : R4 x2) (hx3 : R4 x3) (w : Wp (f71 x1 x2 x3 M) R) : mC X (d + 3) 71 1 [.ref 2, .int (Int32.ofInt x1), .int (Int32.ofInt x2), .int (Int32.ofInt x3)] M (fun v M2 => R (v, M2)) :=
  mC_of (qent_mk qx71 rfl rfl rfl) (t71 hx1 hx2 hx3 w)
/-! SaggingNet.spotIs -/
noncomputable def f72 (x1 : Int) (x2 : Int) (M : Mm) : Option (Int × Mm) :=
  (f214 x1 M).bind fun v1 =>
  if v1 = 0 then
  (some ((-1), M))
  else
  ((f80 x2 0 4 M).bind fun v5 =>
  if v5 = 0 then
  (some ((-1), M))
  else
  (if x2 = 0 then
  (gd (0 ≤ x1 ∧ x1 < 8) (
  some ((M 25 (x1).toNat), M)))
  else
  (if x2 = 1 then
  ((f243 24 x1 M).bind fun v11 =>
  if v11 = 0 then
  (some (0, M))
  else
  (some (1, M)))
  else
  ((f238 31 24 M).bind fun M12 =>
  if x2 = 2 then
  (some ((bAnd (bShr (M12 31 0) x1) 1), M12))
  else
  (if x2 = 3 then
  (gd (0 ≤ x1 ∧ x1 < 8) (
  some ((M12 33 (x1).toNat), M12)))
  else
  (gd (0 ≤ x1 ∧ x1 < 8) (
  some ((M12 34 (x1).toNat), M12))))))))
theorem t72 {X : Nat × Nat × qC} {d : Nat} {x1 : Int} {x2 : Int} {M : Mm}  {R : Int × Mm → Prop} (hx1 : R4 x1) (hx2 : R4 x2) (w : Wp (f72 x1 x2 M) R) : mE X (d + 4) 72 1 0 [some (.ref 2), some (.int (Int32.ofInt x1)), some (.int (Int32.ofInt x2))] [] M (fun v M2 => R (v, M2)) := by
  refine mE_aload_n c72_0 rfl ?_
  refine mE_getA c72_1 qo72 qF11_10 (ok_lit rfl rfl rfl) rfl ⟨by decide, by decide⟩ ?_
  refine mE_iload_n c72_4 rfl ?_
  refine mE_virtual1 (b := 3) (as := [.int (Int32.ofInt x1)]) (r := []) c72_5 qo72 qK11_122 qo214 rfl rfl rfl (ok_lit rfl rfl rfl) (Nat.le_of_ble_eq_true rfl) (s214 (d := d + 3) hx1 w.obind) ?_
  rintro v1 _ q3 ⟨rfl, w⟩
  by_cases e4 : v1 = 0
  · have w := w.pos e4
    refine mE_if_eq_T (t := 20) c72_8 rfl q3 e4 ?_
    refine mE_iconst c72_20 ?_
    exact mE_iret c72_21 qr72 (r4_n rfl) w.osome
  · have w := w.neg e4
    refine mE_if_eq_F (t := 20) c72_8 rfl q3 e4 ?_
    refine mE_iload_n c72_11 rfl ?_
    refine mE_iconst c72_12 ?_
    refine mE_iconst c72_13 ?_
    refine mE_static1 (as := [.int (Int32.ofInt x2), .int (Int32.ofInt 0), .int (Int32.ofInt 4)]) (r := []) c72_14 qo72 (by decide) qK11_108 rfl rfl rfl (Nat.le_of_ble_eq_true rfl) (s80 (d := d + 3) hx2 (r4_n rfl) (r4_n rfl) w.obind) ?_
    rintro v5 _ q7 ⟨rfl, w⟩
    by_cases e8 : v5 = 0
    · have w := w.pos e8
      refine mE_if_ne_F (t := 22) c72_17 rfl q7 e8 ?_
      refine mE_iconst c72_20 ?_
      exact mE_iret c72_21 qr72 (r4_n rfl) w.osome
    · have w := w.neg e8
      refine mE_if_ne_T (t := 22) c72_17 rfl q7 e8 ?_
      refine mE_iload_n c72_22 rfl ?_
      by_cases e9 : x2 = 0
      · have w := w.pos e9
        refine mE_if_ne_F (t := 36) c72_23 rfl hx2 e9 ?_
        refine mE_aload_n c72_26 rfl ?_
        refine mE_getA c72_27 qo72 qF11_19 (ok_lit rfl rfl rfl) rfl ⟨by decide, by decide⟩ ?_
        refine mE_getA c72_30 qo72 qF11_112 (ok_lit rfl rfl rfl) rfl ⟨by decide, by decide⟩ ?_
        refine mE_iload_n c72_33 rfl ?_
        obtain ⟨g10, w⟩ := w.ogd
        refine mE_iaload c72_34 (ok_lit rfl rfl rfl) hx1 g10 ?_
        intro u11
        exact mE_iret c72_35 qr72 u11 w.osome
      · have w := w.neg e9
        refine mE_if_ne_T (t := 36) c72_23 rfl hx2 e9 ?_
        refine mE_iload_n c72_36 rfl ?_
        refine mE_iconst c72_37 ?_
        by_cases e10 : x2 = 1
        · have w := w.pos e10
          refine mE_icmp_ne_F (t := 58) c72_38 rfl hx2 (r4_n rfl) e10 ?_
          refine mE_aload_n c72_41 rfl ?_
          refine mE_getA c72_42 qo72 qF11_19 (ok_lit rfl rfl rfl) rfl ⟨by decide, by decide⟩ ?_
          refine mE_iload_n c72_45 rfl ?_
          refine mE_virtual1 (b := 24) (as := [.int (Int32.ofInt x1)]) (r := []) c72_46 qo72 qK11_158 qo243 rfl rfl rfl (ok_lit rfl rfl rfl) (Nat.le_of_ble_eq_true rfl) (s243 (d := d + 3) isSt_24 hx1 w.obind) ?_
          rintro v11 _ q13 ⟨rfl, w⟩
          by_cases e14 : v11 = 0
          · have w := w.pos e14
            refine mE_if_eq_T (t := 56) c72_49 rfl q13 e14 ?_
            refine mE_iconst c72_56 ?_
            exact mE_iret c72_57 qr72 (r4_n rfl) w.osome
          · have w := w.neg e14
            refine mE_if_eq_F (t := 56) c72_49 rfl q13 e14 ?_
            refine mE_iconst c72_52 ?_
            refine mE_goto (t := 57) c72_53 rfl ?_
            exact mE_iret c72_57 qr72 (r4_n rfl) w.osome
        · have w := w.neg e10
          refine mE_icmp_ne_T (t := 58) c72_38 rfl hx2 (r4_n rfl) e10 ?_
          refine mE_aload_n c72_58 rfl ?_
          refine mE_getA c72_59 qo72 qF11_34 (ok_lit rfl rfl rfl) rfl ⟨by decide, by decide⟩ ?_
          refine mE_aload_n c72_62 rfl ?_
          refine mE_getA c72_63 qo72 qF11_10 (ok_lit rfl rfl rfl) rfl ⟨by decide, by decide⟩ ?_
          refine mE_aload_n c72_66 rfl ?_
          refine mE_getA c72_67 qo72 qF11_19 (ok_lit rfl rfl rfl) rfl ⟨by decide, by decide⟩ ?_
          refine mE_virtual0 (b := 31) (as := [.ref 3, .ref 24]) (r := []) c72_70 qo72 qK11_217 qo238 rfl rfl rfl (ok_lit rfl rfl rfl) (Nat.le_of_ble_eq_true rfl) (s238 (d := d + 0) isSg_31 isSt_24 w.obind) ?_
          intro _ M12 w
          refine mE_iload_n c72_73 rfl ?_
          refine mE_iconst c72_74 ?_
          by_cases e14 : x2 = 2
          · have w := w.pos e14
            refine mE_icmp_ne_F (t := 90) c72_75 rfl hx2 (r4_n rfl) e14 ?_
            refine mE_aload_n c72_78 rfl ?_
            refine mE_getA c72_79 qo72 qF11_34 (ok_lit rfl rfl rfl) rfl ⟨by decide, by decide⟩ ?_
            refine mE_getI c72_82 qo72 qF11_235 (ok_lit rfl rfl rfl) rfl ?_
            intro u15
            refine mE_iload_n c72_85 rfl ?_
            refine mE_ishr c72_86 ?_
            refine mE_iconst c72_87 ?_
            refine mE_iand c72_88 ?_
            exact mE_iret c72_89 qr72 (r4_and _ _) w.osome
          · have w := w.neg e14
            refine mE_icmp_ne_T (t := 90) c72_75 rfl hx2 (r4_n rfl) e14 ?_
            refine mE_iload_n c72_90 rfl ?_
            refine mE_iconst c72_91 ?_
            by_cases e15 : x2 = 3
            · have w := w.pos e15
              refine mE_icmp_ne_F (t := 107) c72_92 rfl hx2 (r4_n rfl) e15 ?_
              refine mE_aload_n c72_95 rfl ?_
              refine mE_getA c72_96 qo72 qF11_34 (ok_lit rfl rfl rfl) rfl ⟨by decide, by decide⟩ ?_
              refine mE_getA c72_99 qo72 qF11_236 (ok_lit rfl rfl rfl) rfl ⟨by decide, by decide⟩ ?_
              refine mE_iload_n c72_102 rfl ?_
              obtain ⟨g16, w⟩ := w.ogd
              refine mE_iaload c72_103 (ok_lit rfl rfl rfl) hx1 g16 ?_
              intro u17
              refine mE_goto (t := 116) c72_104 rfl ?_
              exact mE_iret c72_116 qr72 u17 w.osome
            · have w := w.neg e15
              refine mE_icmp_ne_T (t := 107) c72_92 rfl hx2 (r4_n rfl) e15 ?_
              refine mE_aload_n c72_107 rfl ?_
              refine mE_getA c72_108 qo72 qF11_34 (ok_lit rfl rfl rfl) rfl ⟨by decide, by decide⟩ ?_
              refine mE_getA c72_111 qo72 qF11_239 (ok_lit rfl rfl rfl) rfl ⟨by decide, by decide⟩ ?_
              refine mE_iload_n c72_114 rfl ?_
              obtain ⟨g16, w⟩ := w.ogd
              refine mE_iaload c72_115 (ok_lit rfl rfl rfl) hx1 g16 ?_
              intro u17
              exact mE_iret c72_116 qr72 u17 w.osome
theorem s72 {X : Nat × Nat × qC} {d : Nat} {x1 : Int} {x2 : Int} {M : Mm} {R : Int × Mm → Prop} (hx1 : R4 x1) (hx2 : R4 x2) (w : Wp (f72 x1 x2 M) R) : mC X (d + 5) 72 1 [.ref 2, .int (Int32.ofInt x1), .int (Int32.ofInt x2)] M (fun v M2 => R (v, M2)) :=
  mC_of (qent_mk qx72 rfl rfl rfl) (t72 hx1 hx2 w)
/-! SaggingNet.stop -/
noncomputable def f74 (x1 : Int) (x2 : Int) (M : Mm) : Option (Int × Mm) :=
  (f56 x1 M).bind fun v1 =>
  if v1 = 0 then
  (some (0, M))
  else
  (gd (0 ≤ x1 ∧ x1 < 4) (
  if (M 103 (x1).toNat) = x2 then
  (some (0, M))
  else
  (gd (x2 = 0 ∨ x2 = 1) (
  mlet (ms M 103 (x1).toNat x2) fun M9 =>
  mlet (ms M9 105 (x1).toNat (-1)) fun M11 =>
  some (1, M11)))))
theorem t74 {X : Nat × Nat × qC} {d : Nat} {x1 : Int} {x2 : Int} {M : Mm}  {R : Int × Mm → Prop} (hx1 : R4 x1) (hx2 : R4 x2) (w : Wp (f74 x1 x2 M) R) : mE X (d + 2) 74 1 0 [some (.ref 2), some (.int (Int32.ofInt x1)), some (.int (Int32.ofInt x2))] [] M (fun v M2 => R (v, M2)) := by
  refine mE_iload_n c74_0 rfl ?_
  refine mE_static1 (as := [.int (Int32.ofInt x1)]) (r := []) c74_1 qo74 (by decide) qK11_104 rfl rfl rfl (Nat.le_of_ble_eq_true rfl) (s56 (d := d + 0) hx1 w.obind) ?_
  rintro v1 _ q3 ⟨rfl, w⟩
  by_cases e4 : v1 = 0
  · have w := w.pos e4
    refine mE_if_eq_T (t := 20) c74_4 rfl q3 e4 ?_
    refine mE_iconst c74_20 ?_
    exact mE_zret c74_21 qr74 (Or.inl rfl) w.osome
  · have w := w.neg e4
    refine mE_if_eq_F (t := 20) c74_4 rfl q3 e4 ?_
    refine mE_aload_n c74_7 rfl ?_
    refine mE_getA c74_8 qo74 qF11_62 (ok_lit rfl rfl rfl) rfl ⟨by decide, by decide⟩ ?_
    refine mE_getA c74_11 qo74 qF11_261 (ok_lit rfl rfl rfl) rfl ⟨by decide, by decide⟩ ?_
    refine mE_iload_n c74_14 rfl ?_
    obtain ⟨g5, w⟩ := w.ogd
    refine mE_zaload c74_15 (ok_lit rfl rfl rfl) hx1 g5 ?_
    intro u6
    refine mE_iload_n c74_16 rfl ?_
    by_cases e7 : (M 103 (x1).toNat) = x2
    · have w := w.pos e7
      refine mE_icmp_ne_F (t := 22) c74_17 rfl u6 hx2 e7 ?_
      refine mE_iconst c74_20 ?_
      exact mE_zret c74_21 qr74 (Or.inl rfl) w.osome
    · have w := w.neg e7
      refine mE_icmp_ne_T (t := 22) c74_17 rfl u6 hx2 e7 ?_
      refine mE_aload_n c74_22 rfl ?_
      refine mE_getA c74_23 qo74 qF11_62 (ok_lit rfl rfl rfl) rfl ⟨by decide, by decide⟩ ?_
      refine mE_getA c74_26 qo74 qF11_261 (ok_lit rfl rfl rfl) rfl ⟨by decide, by decide⟩ ?_
      refine mE_iload_n c74_29 rfl ?_
      refine mE_iload_n c74_30 rfl ?_
      obtain ⟨g8, w⟩ := w.ogd
      obtain ⟨M9, m10, w⟩ := w.mlet
      refine mE_zastore c74_31 (ok_lit rfl rfl rfl) hx1 g5 g8 ?_
      refine mE_M m10 ?_
      refine mE_aload_n c74_32 rfl ?_
      refine mE_getA c74_33 qo74 qF11_62 (ok_lit rfl rfl rfl) rfl ⟨by decide, by decide⟩ ?_
      refine mE_getA c74_36 qo74 qF11_265 (ok_lit rfl rfl rfl) rfl ⟨by decide, by decide⟩ ?_
      refine mE_iload_n c74_39 rfl ?_
      refine mE_iconst c74_40 ?_
      obtain ⟨M11, m12, w⟩ := w.mlet
      refine mE_iastore c74_41 (ok_lit rfl rfl rfl) hx1 g5 (r4_n rfl) ?_
      refine mE_M m12 ?_
      refine mE_iconst c74_42 ?_
      exact mE_zret c74_43 qr74 (Or.inr rfl) w.osome
theorem s74 {X : Nat × Nat × qC} {d : Nat} {x1 : Int} {x2 : Int} {M : Mm} {R : Int × Mm → Prop} (hx1 : R4 x1) (hx2 : R4 x2) (w : Wp (f74 x1 x2 M) R) : mC X (d + 3) 74 1 [.ref 2, .int (Int32.ofInt x1), .int (Int32.ofInt x2)] M (fun v M2 => R (v, M2)) :=
  mC_of (qent_mk qx74 rfl rfl rfl) (t74 hx1 hx2 w)
/-! SaggingNet.tree -/
noncomputable def f75 (x1 : Int) (x2 : Int) (M : Mm) : Option (Int × Mm) :=
  (f215 x1 M).bind fun v1 =>
  if v1 = 0 then
  (some (0, M))
  else
  ((f80 x2 0 100000 M).bind fun v5 =>
  if v5 = 0 then
  (some (0, M))
  else
  (gd (0 ≤ x1 ∧ x1 < 14) (
  mlet (ms M 28 (x1).toNat x2) fun M10 =>
  some (1, M10))))
theorem t75 {X : Nat × Nat × qC} {d : Nat} {x1 : Int} {x2 : Int} {M : Mm}  {R : Int × Mm → Prop} (hx1 : R4 x1) (hx2 : R4 x2) (w : Wp (f75 x1 x2 M) R) : mE X (d + 1) 75 1 0 [some (.ref 2), some (.int (Int32.ofInt x1)), some (.int (Int32.ofInt x2))] [] M (fun v M2 => R (v, M2)) := by
  refine mE_aload_n c75_0 rfl ?_
  refine mE_getA c75_1 qo75 qF11_10 (ok_lit rfl rfl rfl) rfl ⟨by decide, by decide⟩ ?_
  refine mE_iload_n c75_4 rfl ?_
  refine mE_virtual1 (b := 3) (as := [.int (Int32.ofInt x1)]) (r := []) c75_5 qo75 qK11_140 qo215 rfl rfl rfl (ok_lit rfl rfl rfl) (Nat.le_of_ble_eq_true rfl) (s215 (d := d + 0) hx1 w.obind) ?_
  rintro v1 _ q3 ⟨rfl, w⟩
  by_cases e4 : v1 = 0
  · have w := w.pos e4
    refine mE_if_eq_T (t := 21) c75_8 rfl q3 e4 ?_
    refine mE_iconst c75_21 ?_
    exact mE_zret c75_22 qr75 (Or.inl rfl) w.osome
  · have w := w.neg e4
    refine mE_if_eq_F (t := 21) c75_8 rfl q3 e4 ?_
    refine mE_iload_n c75_11 rfl ?_
    refine mE_iconst c75_12 ?_
    refine mE_ldc (x := 100000) c75_13 qo75 qI11_125 rfl ?_
    refine mE_static1 (as := [.int (Int32.ofInt x2), .int (Int32.ofInt 0), .int (Int32.ofInt 100000)]) (r := []) c75_15 qo75 (by decide) qK11_108 rfl rfl rfl (Nat.le_of_ble_eq_true rfl) (s80 (d := d + 0) hx2 (r4_n rfl) (r4_n rfl) w.obind) ?_
    rintro v5 _ q7 ⟨rfl, w⟩
    by_cases e8 : v5 = 0
    · have w := w.pos e8
      refine mE_if_ne_F (t := 23) c75_18 rfl q7 e8 ?_
      refine mE_iconst c75_21 ?_
      exact mE_zret c75_22 qr75 (Or.inl rfl) w.osome
    · have w := w.neg e8
      refine mE_if_ne_T (t := 23) c75_18 rfl q7 e8 ?_
      refine mE_aload_n c75_23 rfl ?_
      refine mE_getA c75_24 qo75 qF11_19 (ok_lit rfl rfl rfl) rfl ⟨by decide, by decide⟩ ?_
      refine mE_getA c75_27 qo75 qF11_143 (ok_lit rfl rfl rfl) rfl ⟨by decide, by decide⟩ ?_
      refine mE_iload_n c75_30 rfl ?_
      refine mE_iload_n c75_31 rfl ?_
      obtain ⟨g9, w⟩ := w.ogd
      obtain ⟨M10, m11, w⟩ := w.mlet
      refine mE_iastore c75_32 (ok_lit rfl rfl rfl) hx1 g9 hx2 ?_
      refine mE_M m11 ?_
      refine mE_iconst c75_33 ?_
      exact mE_zret c75_34 qr75 (Or.inr rfl) w.osome
theorem s75 {X : Nat × Nat × qC} {d : Nat} {x1 : Int} {x2 : Int} {M : Mm} {R : Int × Mm → Prop} (hx1 : R4 x1) (hx2 : R4 x2) (w : Wp (f75 x1 x2 M) R) : mC X (d + 2) 75 1 [.ref 2, .int (Int32.ofInt x1), .int (Int32.ofInt x2)] M (fun v M2 => R (v, M2)) :=
  mC_of (qent_mk qx75 rfl rfl rfl) (t75 hx1 hx2 w)
/-! SaggingNet.turn -/
noncomputable def f76_47 (x1 : Int) (x2 : Int) (M : Mm) : Option (Int × Mm) :=
  if x2 = 0 then
  (gd (0 ≤ x1 ∧ x1 < 14) (
  mlet (ms M 26 (x1).toNat 1) fun M3 =>
  some (1, M3)))
  else
  (gd (0 ≤ x1 ∧ x1 < 14) (
  mlet (ms M 26 (x1).toNat 0) fun M3 =>
  some (1, M3)))
theorem t76_47 {X : Nat × Nat × qC} {d : Nat} {x1 : Int} {x2 : Int} {M : Mm}  {R : Int × Mm → Prop} (hx1 : R4 x1) (hx2 : R4 x2) (w : Wp (f76_47 x1 x2 M) R) : mE X (d + 1) 76 1 47 [some (.ref 2), some (.int (Int32.ofInt x1)), some (.int (Int32.ofInt x2))] [] M (fun v M2 => R (v, M2)) := by
  refine mE_aload_n c76_47 rfl ?_
  refine mE_getA c76_48 qo76 qF11_19 (ok_lit rfl rfl rfl) rfl ⟨by decide, by decide⟩ ?_
  refine mE_getA c76_51 qo76 qF11_149 (ok_lit rfl rfl rfl) rfl ⟨by decide, by decide⟩ ?_
  refine mE_iload_n c76_54 rfl ?_
  refine mE_iload_n c76_55 rfl ?_
  by_cases e1 : x2 = 0
  · have w := w.pos e1
    refine mE_if_eq_T (t := 63) c76_56 rfl hx2 e1 ?_
    refine mE_iconst c76_63 ?_
    obtain ⟨g2, w⟩ := w.ogd
    obtain ⟨M3, m4, w⟩ := w.mlet
    refine mE_iastore c76_64 (ok_lit rfl rfl rfl) hx1 g2 (r4_n rfl) ?_
    refine mE_M m4 ?_
    refine mE_iconst c76_65 ?_
    exact mE_zret c76_66 qr76 (Or.inr rfl) w.osome
  · have w := w.neg e1
    refine mE_if_eq_F (t := 63) c76_56 rfl hx2 e1 ?_
    refine mE_iconst c76_59 ?_
    refine mE_goto (t := 64) c76_60 rfl ?_
    obtain ⟨g2, w⟩ := w.ogd
    obtain ⟨M3, m4, w⟩ := w.mlet
    refine mE_iastore c76_64 (ok_lit rfl rfl rfl) hx1 g2 (r4_n rfl) ?_
    refine mE_M m4 ?_
    refine mE_iconst c76_65 ?_
    exact mE_zret c76_66 qr76 (Or.inr rfl) w.osome
noncomputable def f76 (x1 : Int) (x2 : Int) (M : Mm) : Option (Int × Mm) :=
  (f215 x1 M).bind fun v1 =>
  if v1 = 0 then
  (some (0, M))
  else
  (gd (0 ≤ x1 ∧ x1 < 14) (
  if (M 26 (x1).toNat) = 3 then
  (some (0, M))
  else
  (if (M 26 (x1).toNat) = 0 then
  (if 1 = x2 then
  (some (0, M))
  else
  (f76_47 x1 x2 M))
  else
  (if 0 = x2 then
  (some (0, M))
  else
  (f76_47 x1 x2 M)))))
theorem t76 {X : Nat × Nat × qC} {d : Nat} {x1 : Int} {x2 : Int} {M : Mm}  {R : Int × Mm → Prop} (hx1 : R4 x1) (hx2 : R4 x2) (w : Wp (f76 x1 x2 M) R) : mE X (d + 1) 76 1 0 [some (.ref 2), some (.int (Int32.ofInt x1)), some (.int (Int32.ofInt x2))] [] M (fun v M2 => R (v, M2)) := by
  refine mE_aload_n c76_0 rfl ?_
  refine mE_getA c76_1 qo76 qF11_10 (ok_lit rfl rfl rfl) rfl ⟨by decide, by decide⟩ ?_
  refine mE_iload_n c76_4 rfl ?_
  refine mE_virtual1 (b := 3) (as := [.int (Int32.ofInt x1)]) (r := []) c76_5 qo76 qK11_140 qo215 rfl rfl rfl (ok_lit rfl rfl rfl) (Nat.le_of_ble_eq_true rfl) (s215 (d := d + 0) hx1 w.obind) ?_
  rintro v1 _ q3 ⟨rfl, w⟩
  by_cases e4 : v1 = 0
  · have w := w.pos e4
    refine mE_if_eq_T (t := 45) c76_8 rfl q3 e4 ?_
    refine mE_iconst c76_45 ?_
    exact mE_zret c76_46 qr76 (Or.inl rfl) w.osome
  · have w := w.neg e4
    refine mE_if_eq_F (t := 45) c76_8 rfl q3 e4 ?_
    refine mE_aload_n c76_11 rfl ?_
    refine mE_getA c76_12 qo76 qF11_19 (ok_lit rfl rfl rfl) rfl ⟨by decide, by decide⟩ ?_
    refine mE_getA c76_15 qo76 qF11_149 (ok_lit rfl rfl rfl) rfl ⟨by decide, by decide⟩ ?_
    refine mE_iload_n c76_18 rfl ?_
    obtain ⟨g5, w⟩ := w.ogd
    refine mE_iaload c76_19 (ok_lit rfl rfl rfl) hx1 g5 ?_
    intro u6
    refine mE_iconst c76_20 ?_
    by_cases e7 : (M 26 (x1).toNat) = 3
    · have w := w.pos e7
      refine mE_icmp_eq_T (t := 45) c76_21 rfl u6 (r4_n rfl) e7 ?_
      refine mE_iconst c76_45 ?_
      exact mE_zret c76_46 qr76 (Or.inl rfl) w.osome
    · have w := w.neg e7
      refine mE_icmp_eq_F (t := 45) c76_21 rfl u6 (r4_n rfl) e7 ?_
      refine mE_aload_n c76_24 rfl ?_
      refine mE_getA c76_25 qo76 qF11_19 (ok_lit rfl rfl rfl) rfl ⟨by decide, by decide⟩ ?_
      refine mE_getA c76_28 qo76 qF11_149 (ok_lit rfl rfl rfl) rfl ⟨by decide, by decide⟩ ?_
      refine mE_iload_n c76_31 rfl ?_
      refine mE_iaload c76_32 (ok_lit rfl rfl rfl) hx1 g5 ?_
      intro u8
      by_cases e9 : (M 26 (x1).toNat) = 0
      · have w := w.pos e9
        refine mE_if_ne_F (t := 40) c76_33 rfl u8 e9 ?_
        refine mE_iconst c76_36 ?_
        refine mE_goto (t := 41) c76_37 rfl ?_
        refine mE_iload_n c76_41 rfl ?_
        by_cases e10 : 1 = x2
        · have w := w.pos e10
          refine mE_icmp_ne_F (t := 47) c76_42 rfl (r4_n rfl) hx2 e10 ?_
          refine mE_iconst c76_45 ?_
          exact mE_zret c76_46 qr76 (Or.inl rfl) w.osome
        · have w := w.neg e10
          refine mE_icmp_ne_T (t := 47) c76_42 rfl (r4_n rfl) hx2 e10 ?_
          exact t76_47 hx1 hx2 w
      · have w := w.neg e9
        refine mE_if_ne_T (t := 40) c76_33 rfl u8 e9 ?_
        refine mE_iconst c76_40 ?_
        refine mE_iload_n c76_41 rfl ?_
        by_cases e10 : 0 = x2
        · have w := w.pos e10
          refine mE_icmp_ne_F (t := 47) c76_42 rfl (r4_n rfl) hx2 e10 ?_
          refine mE_iconst c76_45 ?_
          exact mE_zret c76_46 qr76 (Or.inl rfl) w.osome
        · have w := w.neg e10
          refine mE_icmp_ne_T (t := 47) c76_42 rfl (r4_n rfl) hx2 e10 ?_
          exact t76_47 hx1 hx2 w
theorem s76 {X : Nat × Nat × qC} {d : Nat} {x1 : Int} {x2 : Int} {M : Mm} {R : Int × Mm → Prop} (hx1 : R4 x1) (hx2 : R4 x2) (w : Wp (f76 x1 x2 M) R) : mC X (d + 2) 76 1 [.ref 2, .int (Int32.ofInt x1), .int (Int32.ofInt x2)] M (fun v M2 => R (v, M2)) :=
  mC_of (qent_mk qx76 rfl rfl rfl) (t76 hx1 hx2 w)
/-! SaggingNet$Net.addWire -/
noncomputable def f211 (x1 : Int) (x2 : Int) (x3 : Int) (x4 : Int) (x5 : Int) (M : Mm) : Option (Int × Mm) :=
  gd (0 ≤ (M 3 1) ∧ (M 3 1) < 14) (
  mlet (ms M 14 ((M 3 1)).toNat x1) fun M3 =>
  mlet (ms M3 15 ((M 3 1)).toNat x2) fun M5 =>
  mlet (ms M5 16 ((M 3 1)).toNat x3) fun M7 =>
  mlet (ms M7 17 ((M 3 1)).toNat x4) fun M9 =>
  mlet (ms M9 18 ((M 3 1)).toNat x5) fun M11 =>
  mlet (ms M11 19 ((M 3 1)).toNat 1) fun M13 =>
  gd (R4 ((M13 3 1) + 1)) (
  mlet (ms M13 3 1 ((M13 3 1) + 1)) fun M17 =>
  some ((M 3 1), M17)))
theorem t211 {X : Nat × Nat × qC} {d : Nat} {x1 : Int} {x2 : Int} {x3 : Int} {x4 : Int} {x5 : Int} {M : Mm}  {R : Int × Mm → Prop} (hx1 : R4 x1) (hx2 : R4 x2) (hx3 : R4 x3) (hx4 : R4 x4) (hx5 : R4 x5) (w : Wp (f211 x1 x2 x3 x4 x5 M) R) : mE X (d + 0) 211 1 0 [some (.ref 3), some (.int (Int32.ofInt x1)), some (.int (Int32.ofInt x2)), some (.int (Int32.ofInt x3)), some (.int (Int32.ofInt x4)), some (.int (Int32.ofInt x5)), none] [] M (fun v M2 => R (v, M2)) := by
  refine mE_aload_n c211_0 rfl ?_
  refine mE_getI c211_1 qo211 qF4_65 (ok_lit rfl rfl rfl) rfl ?_
  intro u1
  refine mE_istore (ls2 := [some (.ref 3), some (.int (Int32.ofInt x1)), some (.int (Int32.ofInt x2)), some (.int (Int32.ofInt x3)), some (.int (Int32.ofInt x4)), some (.int (Int32.ofInt x5)), some (.int (Int32.ofInt (M 3 1)))]) c211_4 (Nat.le_of_ble_eq_true rfl) rfl ?_
  refine mE_aload_n c211_6 rfl ?_
  refine mE_getA c211_7 qo211 qF4_32 (ok_lit rfl rfl rfl) rfl ⟨by decide, by decide⟩ ?_
  refine mE_iload c211_10 rfl ?_
  refine mE_iload_n c211_12 rfl ?_
  obtain ⟨g2, w⟩ := w.ogd
  obtain ⟨M3, m4, w⟩ := w.mlet
  refine mE_iastore c211_13 (ok_lit rfl rfl rfl) u1 g2 hx1 ?_
  refine mE_M m4 ?_
  refine mE_aload_n c211_14 rfl ?_
  refine mE_getA c211_15 qo211 qF4_35 (ok_lit rfl rfl rfl) rfl ⟨by decide, by decide⟩ ?_
  refine mE_iload c211_18 rfl ?_
  refine mE_iload_n c211_20 rfl ?_
  obtain ⟨M5, m6, w⟩ := w.mlet
  refine mE_iastore c211_21 (ok_lit rfl rfl rfl) u1 g2 hx2 ?_
  refine mE_M m6 ?_
  refine mE_aload_n c211_22 rfl ?_
  refine mE_getA c211_23 qo211 qF4_38 (ok_lit rfl rfl rfl) rfl ⟨by decide, by decide⟩ ?_
  refine mE_iload c211_26 rfl ?_
  refine mE_iload_n c211_28 rfl ?_
  obtain ⟨M7, m8, w⟩ := w.mlet
  refine mE_iastore c211_29 (ok_lit rfl rfl rfl) u1 g2 hx3 ?_
  refine mE_M m8 ?_
  refine mE_aload_n c211_30 rfl ?_
  refine mE_getA c211_31 qo211 qF4_41 (ok_lit rfl rfl rfl) rfl ⟨by decide, by decide⟩ ?_
  refine mE_iload c211_34 rfl ?_
  refine mE_iload c211_36 rfl ?_
  obtain ⟨M9, m10, w⟩ := w.mlet
  refine mE_iastore c211_38 (ok_lit rfl rfl rfl) u1 g2 hx4 ?_
  refine mE_M m10 ?_
  refine mE_aload_n c211_39 rfl ?_
  refine mE_getA c211_40 qo211 qF4_44 (ok_lit rfl rfl rfl) rfl ⟨by decide, by decide⟩ ?_
  refine mE_iload c211_43 rfl ?_
  refine mE_iload c211_45 rfl ?_
  obtain ⟨M11, m12, w⟩ := w.mlet
  refine mE_iastore c211_47 (ok_lit rfl rfl rfl) u1 g2 hx5 ?_
  refine mE_M m12 ?_
  refine mE_aload_n c211_48 rfl ?_
  refine mE_getA c211_49 qo211 qF4_47 (ok_lit rfl rfl rfl) rfl ⟨by decide, by decide⟩ ?_
  refine mE_iload c211_52 rfl ?_
  refine mE_iconst c211_54 ?_
  obtain ⟨M13, m14, w⟩ := w.mlet
  refine mE_iastore c211_55 (ok_lit rfl rfl rfl) u1 g2 (r4_n rfl) ?_
  refine mE_M m14 ?_
  refine mE_aload_n c211_56 rfl ?_
  refine mE_dup c211_57 rfl ?_
  refine mE_getI c211_58 qo211 qF4_65 (ok_lit rfl rfl rfl) rfl ?_
  intro u15
  refine mE_iconst c211_61 ?_
  obtain ⟨g16, w⟩ := w.ogd
  refine mE_iadd c211_62 ?_
  obtain ⟨M17, m18, w⟩ := w.mlet
  refine mE_putI c211_63 qo211 qF4_65 qz4_1 (ok_lit rfl rfl rfl) (Nat.le_of_ble_eq_true rfl) rfl g16 (by rw [qy4_1]; rfl) ?_
  refine mE_M m18 ?_
  refine mE_iload c211_66 rfl ?_
  exact mE_iret c211_68 qr211 u1 w.osome
theorem s211 {X : Nat × Nat × qC} {d : Nat} {x1 : Int} {x2 : Int} {x3 : Int} {x4 : Int} {x5 : Int} {M : Mm} {R : Int × Mm → Prop} (hx1 : R4 x1) (hx2 : R4 x2) (hx3 : R4 x3) (hx4 : R4 x4) (hx5 : R4 x5) (w : Wp (f211 x1 x2 x3 x4 x5 M) R) : mC X (d + 1) 211 1 [.ref 3, .int (Int32.ofInt x1), .int (Int32.ofInt x2), .int (Int32.ofInt x3), .int (Int32.ofInt x4), .int (Int32.ofInt x5)] M (fun v M2 => R (v, M2)) :=
  mC_of (qent_mk qx211 rfl rfl rfl) (t211 hx1 hx2 hx3 hx4 hx5 w)
