/-! SaggingNet.darkAfterCutting -/
def E44_58 (X : Nat × Nat × qC) (d : Nat) (x3 : Int) (R : Int × Mm → Prop) : Int × Mm → Prop := fun s => R4 s.1 → ∀ (y1 : Int32), ∀ (y2 : Int32), mE X (d + 5) 44 1 58 [some (.ref 2), some (.int y1), some (.int y2), some (.int (Int32.ofInt x3)), some (.int (Int32.ofInt s.1))] [] s.2 (fun v M2 => R (v, M2))
def E44_14 (X : Nat × Nat × qC) (d : Nat) (x1 : Int) (x2 : Int) (x3 : Int) (R : Int × Mm → Prop) : Int × Mm → Prop := fun s => R4 s.1 → mE X (d + 5) 44 1 14 [some (.ref 2), some (.int (Int32.ofInt x1)), some (.int (Int32.ofInt x2)), some (.int (Int32.ofInt x3)), some (.int (Int32.ofInt s.1))] [] s.2 (fun v M2 => R (v, M2))
noncomputable def f44_49 (x1 : Int) (x2 : Int) (x3 : Int) (x4 : Int) (M : Mm) : Option ((Int × Mm) ⊕ (Int × Mm)) :=
  gd (R4 (x4 + 1)) (
  some (.inl ((x4 + 1), M)))
theorem t44_49 {X : Nat × Nat × qC} {d : Nat} {x1 : Int} {x2 : Int} {x3 : Int} {x4 : Int} {M : Mm}  {R : Int × Mm → Prop} (hx1 : R4 x1) (hx2 : R4 x2) (hx3 : R4 x3) (hx4 : R4 x4) (w : Wp (f44_49 x1 x2 x3 x4 M) (Sum.elim (E44_14 X d x1 x2 x3 R) R)) : mE X (d + 5) 44 1 49 [some (.ref 2), some (.int (Int32.ofInt x1)), some (.int (Int32.ofInt x2)), some (.int (Int32.ofInt x3)), some (.int (Int32.ofInt x4))] [] M (fun v M2 => R (v, M2)) := by
  obtain ⟨g1, w⟩ := w.ogd
  refine mE_iinc (ls2 := [some (.ref 2), some (.int (Int32.ofInt x1)), some (.int (Int32.ofInt x2)), some (.int (Int32.ofInt x3)), some (.int (Int32.ofInt (x4 + 1)))]) c44_49 rfl (Nat.le_of_ble_eq_true rfl) rfl ?_
  refine mE_goto (t := 14) c44_52 rfl ?_
  exact w.osome g1
noncomputable def lb44_58 (x3 : Int) (x4 : Int) (M : Mm) : Option ((Int × Mm) ⊕ (Int × Mm)) :=
  if x4 < x3 then
  ((f225 M).bind fun M3 =>
  gd (R4 (x4 + 1)) (
  some (.inl ((x4 + 1), M3))))
  else
  (oinr ((f244 74 (M 74 1) M).bind fun v3 =>
  some (v3, M)))
noncomputable def f44_58 (x3 : Int) (x4 : Int) (M : Mm) : Option (Int × Mm) := lp (fun s : Int × Mm => lb44_58 x3 s.1 s.2) (x4, M)
theorem tb44_58 {X : Nat × Nat × qC} {d : Nat} {x3 : Int} {x4 : Int} {M : Mm} {y1 : Int32} {y2 : Int32} {R : Int × Mm → Prop} (hx3 : R4 x3) (hx4 : R4 x4) (w : Wp (lb44_58 x3 x4 M) (Sum.elim (E44_58 X d x3 R) R)) : mE X (d + 5) 44 1 58 [some (.ref 2), some (.int y1), some (.int y2), some (.int (Int32.ofInt x3)), some (.int (Int32.ofInt x4))] [] M (fun v M2 => R (v, M2)) := by
  refine mE_iload c44_58 rfl ?_
  refine mE_iload_n c44_60 rfl ?_
  by_cases e1 : x4 < x3
  · have w := w.pos e1
    refine mE_icmp_ge_F (t := 81) c44_61 rfl hx4 hx3 e1 ?_
    refine mE_aload_n c44_64 rfl ?_
    refine mE_getA c44_65 qo44 qF11_48 (ok_lit rfl rfl rfl) rfl ⟨by decide, by decide⟩ ?_
    refine mE_aload_n c44_68 rfl ?_
    refine mE_getA c44_69 qo44 qF11_10 (ok_lit rfl rfl rfl) rfl ⟨by decide, by decide⟩ ?_
    refine mE_virtual0 (b := 73) (as := [.ref 3]) (r := []) c44_72 qo44 qK11_196 qo225 rfl rfl rfl (ok_lit rfl rfl rfl) (Nat.le_of_ble_eq_true rfl) (s225 (d := d + 0) w.obind) ?_
    intro _ M3 w
    obtain ⟨g5, w⟩ := w.ogd
    refine mE_iinc (ls2 := [some (.ref 2), some (.int y1), some (.int y2), some (.int (Int32.ofInt x3)), some (.int (Int32.ofInt (x4 + 1)))]) c44_75 rfl (Nat.le_of_ble_eq_true rfl) rfl ?_
    refine mE_goto (t := 58) c44_78 rfl ?_
    exact w.osome g5 _ _
  · have w := w.neg e1
    refine mE_icmp_ge_T (t := 81) c44_61 rfl hx4 hx3 e1 ?_
    have w := w.oinr
    refine mE_aload_n c44_81 rfl ?_
    refine mE_getA c44_82 qo44 qF11_48 (ok_lit rfl rfl rfl) rfl ⟨by decide, by decide⟩ ?_
    refine mE_getA c44_85 qo44 qF11_205 (ok_lit rfl rfl rfl) rfl ⟨by decide, by decide⟩ ?_
    refine mE_aload_n c44_88 rfl ?_
    refine mE_getA c44_89 qo44 qF11_48 (ok_lit rfl rfl rfl) rfl ⟨by decide, by decide⟩ ?_
    refine mE_getA c44_92 qo44 qF11_205 (ok_lit rfl rfl rfl) rfl ⟨by decide, by decide⟩ ?_
    refine mE_getI c44_95 qo44 qF11_161 (ok_lit rfl rfl rfl) rfl ?_
    intro u2
    refine mE_virtual1 (b := 74) (as := [.int (Int32.ofInt (M 74 1))]) (r := []) c44_98 qo44 qK11_350 qo244 rfl rfl rfl (ok_lit rfl rfl rfl) (Nat.le_of_ble_eq_true rfl) (s244 (d := d + 4) isSt_74 u2 w.obind) ?_
    rintro v3 _ q5 ⟨rfl, w⟩
    exact mE_iret c44_101 qr44 q5 w.osome
theorem t44_58 {X : Nat × Nat × qC} {d : Nat} {x3 : Int} {x4 : Int} {M : Mm} {y1 : Int32} {y2 : Int32} {R : Int × Mm → Prop} (hx3 : R4 x3) (hx4 : R4 x4) (w : Wp (f44_58 x3 x4 M) R) : mE X (d + 5) 44 1 58 [some (.ref 2), some (.int y1), some (.int y2), some (.int (Int32.ofInt x3)), some (.int (Int32.ofInt x4))] [] M (fun v M2 => R (v, M2)) :=
  Wp.olp (f := fun s : Int × Mm => lb44_58 x3 s.1 s.2) (s := (x4, M)) (E := E44_58 X d x3 R) w (fun s w hx4 _ _ => tb44_58 hx3 hx4 w) hx4 _ _
noncomputable def lb44_14 (x1 : Int) (x2 : Int) (x3 : Int) (x4 : Int) (M : Mm) : Option ((Int × Mm) ⊕ (Int × Mm)) :=
  if x4 < x2 then
  (if (bAnd (bShr x1 x4) 1) = 1 then
  (gd (0 ≤ x4 ∧ x4 < 8) (
  gd (0 ≤ (M 134 (x4).toNat) ∧ (M 134 (x4).toNat) < 14) (
  mlet (ms M 78 ((M 134 (x4).toNat)).toNat 0) fun M6 =>
  f44_49 x1 x2 x3 x4 M6)))
  else
  (f44_49 x1 x2 x3 x4 M))
  else
  (oinr (f44_58 x3 0 M))
noncomputable def f44_14 (x1 : Int) (x2 : Int) (x3 : Int) (x4 : Int) (M : Mm) : Option (Int × Mm) := lp (fun s : Int × Mm => lb44_14 x1 x2 x3 s.1 s.2) (x4, M)
theorem tb44_14 {X : Nat × Nat × qC} {d : Nat} {x1 : Int} {x2 : Int} {x3 : Int} {x4 : Int} {M : Mm}  {R : Int × Mm → Prop} (hx1 : R4 x1) (hx2 : R4 x2) (hx3 : R4 x3) (hx4 : R4 x4) (w : Wp (lb44_14 x1 x2 x3 x4 M) (Sum.elim (E44_14 X d x1 x2 x3 R) R)) : mE X (d + 5) 44 1 14 [some (.ref 2), some (.int (Int32.ofInt x1)), some (.int (Int32.ofInt x2)), some (.int (Int32.ofInt x3)), some (.int (Int32.ofInt x4))] [] M (fun v M2 => R (v, M2)) := by
  refine mE_iload c44_14 rfl ?_
  refine mE_iload_n c44_16 rfl ?_
  by_cases e1 : x4 < x2
  · have w := w.pos e1
    refine mE_icmp_ge_F (t := 55) c44_17 rfl hx4 hx2 e1 ?_
    refine mE_iload_n c44_20 rfl ?_
    refine mE_iload c44_21 rfl ?_
    refine mE_ishr c44_23 ?_
    refine mE_iconst c44_24 ?_
    refine mE_iand c44_25 ?_
    refine mE_iconst c44_26 ?_
    by_cases e2 : (bAnd (bShr x1 x4) 1) = 1
    · have w := w.pos e2
      refine mE_icmp_ne_F (t := 49) c44_27 rfl (r4_and _ _) (r4_n rfl) e2 ?_
      refine mE_aload_n c44_30 rfl ?_
      refine mE_getA c44_31 qo44 qF11_48 (ok_lit rfl rfl rfl) rfl ⟨by decide, by decide⟩ ?_
      refine mE_getA c44_34 qo44 qF11_205 (ok_lit rfl rfl rfl) rfl ⟨by decide, by decide⟩ ?_
      refine mE_getA c44_37 qo44 qF11_143 (ok_lit rfl rfl rfl) rfl ⟨by decide, by decide⟩ ?_
      refine mE_aload_n c44_40 rfl ?_
      refine mE_getA c44_41 qo44 qF11_87 (ok_lit rfl rfl rfl) rfl ⟨by decide, by decide⟩ ?_
      refine mE_iload c44_44 rfl ?_
      obtain ⟨g3, w⟩ := w.ogd
      refine mE_iaload c44_46 (ok_lit rfl rfl rfl) hx4 g3 ?_
      intro u4
      refine mE_iconst c44_47 ?_
      obtain ⟨g5, w⟩ := w.ogd
      obtain ⟨M6, m7, w⟩ := w.mlet
      refine mE_iastore c44_48 (ok_lit rfl rfl rfl) u4 g5 (r4_n rfl) ?_
      refine mE_M m7 ?_
      exact t44_49 hx1 hx2 hx3 hx4 w
    · have w := w.neg e2
      refine mE_icmp_ne_T (t := 49) c44_27 rfl (r4_and _ _) (r4_n rfl) e2 ?_
      exact t44_49 hx1 hx2 hx3 hx4 w
  · have w := w.neg e1
    refine mE_icmp_ge_T (t := 55) c44_17 rfl hx4 hx2 e1 ?_
    have w := w.oinr
    refine mE_iconst c44_55 ?_
    refine mE_istore (ls2 := [some (.ref 2), some (.int (Int32.ofInt x1)), some (.int (Int32.ofInt x2)), some (.int (Int32.ofInt x3)), some (.int (Int32.ofInt 0))]) c44_56 (Nat.le_of_ble_eq_true rfl) rfl ?_
    exact t44_58 hx3 (r4_n rfl) w
theorem t44_14 {X : Nat × Nat × qC} {d : Nat} {x1 : Int} {x2 : Int} {x3 : Int} {x4 : Int} {M : Mm}  {R : Int × Mm → Prop} (hx1 : R4 x1) (hx2 : R4 x2) (hx3 : R4 x3) (hx4 : R4 x4) (w : Wp (f44_14 x1 x2 x3 x4 M) R) : mE X (d + 5) 44 1 14 [some (.ref 2), some (.int (Int32.ofInt x1)), some (.int (Int32.ofInt x2)), some (.int (Int32.ofInt x3)), some (.int (Int32.ofInt x4))] [] M (fun v M2 => R (v, M2)) :=
  Wp.olp (f := fun s : Int × Mm => lb44_14 x1 x2 x3 s.1 s.2) (s := (x4, M)) (E := E44_14 X d x1 x2 x3 R) w (fun s w hx4 => tb44_14 hx1 hx2 hx3 hx4 w) hx4
noncomputable def f44 (x1 : Int) (x2 : Int) (x3 : Int) (M : Mm) : Option (Int × Mm) :=
  (f219 24 M).bind fun M2 =>
  f44_14 x1 x2 x3 0 M2
theorem t44 {X : Nat × Nat × qC} {d : Nat} {x1 : Int} {x2 : Int} {x3 : Int} {M : Mm}  {R : Int × Mm → Prop} (hx1 : R4 x1) (hx2 : R4 x2) (hx3 : R4 x3) (w : Wp (f44 x1 x2 x3 M) R) : mE X (d + 5) 44 1 0 [some (.ref 2), some (.int (Int32.ofInt x1)), some (.int (Int32.ofInt x2)), some (.int (Int32.ofInt x3)), none] [] M (fun v M2 => R (v, M2)) := by
  refine mE_aload_n c44_0 rfl ?_
  refine mE_getA c44_1 qo44 qF11_48 (ok_lit rfl rfl rfl) rfl ⟨by decide, by decide⟩ ?_
  refine mE_aload_n c44_4 rfl ?_
  refine mE_getA c44_5 qo44 qF11_19 (ok_lit rfl rfl rfl) rfl ⟨by decide, by decide⟩ ?_
  refine mE_virtual0 (b := 73) (as := [.ref 24]) (r := []) c44_8 qo44 qK11_193 qo219 rfl rfl rfl (ok_lit rfl rfl rfl) (Nat.le_of_ble_eq_true rfl) (s219 (d := d + 2) isSt_24 w.obind) ?_
  intro _ M2 w
  refine mE_iconst c44_11 ?_
  refine mE_istore (ls2 := [some (.ref 2), some (.int (Int32.ofInt x1)), some (.int (Int32.ofInt x2)), some (.int (Int32.ofInt x3)), some (.int (Int32.ofInt 0))]) c44_12 (Nat.le_of_ble_eq_true rfl) rfl ?_
  exact t44_14 hx1 hx2 hx3 (r4_n rfl) w
theorem s44 {X : Nat × Nat × qC} {d : Nat} {x1 : Int} {x2 : Int} {x3 : Int} {M : Mm} {R : Int × Mm → Prop} (hx1 : R4 x1) (hx2 : R4 x2) (hx3 : R4 x3) (w : Wp (f44 x1 x2 x3 M) R) : mC X (d + 6) 44 1 [.ref 2, .int (Int32.ofInt x1), .int (Int32.ofInt x2), .int (Int32.ofInt x3)] M (fun v M2 => R (v, M2)) :=
  mC_of (qent_mk qx44 rfl rfl rfl) (t44 hx1 hx2 hx3 w)
/-! SaggingNet.wiresOf -/
def E79_5 (X : Nat × Nat × qC) (d : Nat) (x1 : Int) (x2 : Int) (M : Mm) (R : Int → Prop) : Int × Int → Prop := fun s => R4 s.1 → R4 s.2 → mE X (d + 0) 79 1 5 [some (.ref 2), some (.int (Int32.ofInt x1)), some (.int (Int32.ofInt x2)), some (.int (Int32.ofInt s.1)), some (.int (Int32.ofInt s.2))] [] M (fun v M2 => M = M2 ∧ R v)
noncomputable def f79_33 (x1 : Int) (x2 : Int) (x3 : Int) (x4 : Int) (M : Mm) : Option ((Int × Int) ⊕ (Int)) :=
  gd (R4 (x4 + 1)) (
  some (.inl (x3, (x4 + 1))))
theorem t79_33 {X : Nat × Nat × qC} {d : Nat} {x1 : Int} {x2 : Int} {x3 : Int} {x4 : Int} {M : Mm}  {R : Int → Prop} (hx1 : R4 x1) (hx2 : R4 x2) (hx3 : R4 x3) (hx4 : R4 x4) (w : Wp (f79_33 x1 x2 x3 x4 M) (Sum.elim (E79_5 X d x1 x2 M R) R)) : mE X (d + 0) 79 1 33 [some (.ref 2), some (.int (Int32.ofInt x1)), some (.int (Int32.ofInt x2)), some (.int (Int32.ofInt x3)), some (.int (Int32.ofInt x4))] [] M (fun v M2 => M = M2 ∧ R v) := by
  obtain ⟨g1, w⟩ := w.ogd
  refine mE_iinc (ls2 := [some (.ref 2), some (.int (Int32.ofInt x1)), some (.int (Int32.ofInt x2)), some (.int (Int32.ofInt x3)), some (.int (Int32.ofInt (x4 + 1)))]) c79_33 rfl (Nat.le_of_ble_eq_true rfl) rfl ?_
  refine mE_goto (t := 5) c79_36 rfl ?_
  exact w.osome hx3 g1
noncomputable def lb79_5 (x1 : Int) (x2 : Int) (x3 : Int) (x4 : Int) (M : Mm) : Option ((Int × Int) ⊕ (Int)) :=
  if x4 < x2 then
  (if (bAnd (bShr x1 x4) 1) = 1 then
  (gd (0 ≤ x4 ∧ x4 < 8) (
  f79_33 x1 x2 (bOr x3 (bShl 1 (M 134 (x4).toNat))) x4 M))
  else
  (f79_33 x1 x2 x3 x4 M))
  else
  (oinr (some x3))
noncomputable def f79_5 (x1 : Int) (x2 : Int) (x3 : Int) (x4 : Int) (M : Mm) : Option (Int) := lp (fun s : Int × Int => lb79_5 x1 x2 s.1 s.2 M) (x3, x4)
theorem tb79_5 {X : Nat × Nat × qC} {d : Nat} {x1 : Int} {x2 : Int} {x3 : Int} {x4 : Int} {M : Mm}  {R : Int → Prop} (hx1 : R4 x1) (hx2 : R4 x2) (hx3 : R4 x3) (hx4 : R4 x4) (w : Wp (lb79_5 x1 x2 x3 x4 M) (Sum.elim (E79_5 X d x1 x2 M R) R)) : mE X (d + 0) 79 1 5 [some (.ref 2), some (.int (Int32.ofInt x1)), some (.int (Int32.ofInt x2)), some (.int (Int32.ofInt x3)), some (.int (Int32.ofInt x4))] [] M (fun v M2 => M = M2 ∧ R v) := by
  refine mE_iload c79_5 rfl ?_
  refine mE_iload_n c79_7 rfl ?_
  by_cases e1 : x4 < x2
  · have w := w.pos e1
    refine mE_icmp_ge_F (t := 39) c79_8 rfl hx4 hx2 e1 ?_
    refine mE_iload_n c79_11 rfl ?_
    refine mE_iload c79_12 rfl ?_
    refine mE_ishr c79_14 ?_
    refine mE_iconst c79_15 ?_
    refine mE_iand c79_16 ?_
    refine mE_iconst c79_17 ?_
    by_cases e2 : (bAnd (bShr x1 x4) 1) = 1
    · have w := w.pos e2
      refine mE_icmp_ne_F (t := 33) c79_18 rfl (r4_and _ _) (r4_n rfl) e2 ?_
      refine mE_iload_n c79_21 rfl ?_
      refine mE_iconst c79_22 ?_
      refine mE_aload_n c79_23 rfl ?_
      refine mE_getA c79_24 qo79 qF11_87 (ok_lit rfl rfl rfl) rfl ⟨by decide, by decide⟩ ?_
      refine mE_iload c79_27 rfl ?_
      obtain ⟨g3, w⟩ := w.ogd
      refine mE_iaload c79_29 (ok_lit rfl rfl rfl) hx4 g3 ?_
      intro u4
      refine mE_ishl c79_30 ?_
      refine mE_ior c79_31 ?_
      refine mE_istore_n (ls2 := [some (.ref 2), some (.int (Int32.ofInt x1)), some (.int (Int32.ofInt x2)), some (.int (Int32.ofInt (bOr x3 (bShl 1 (M 134 (x4).toNat))))), some (.int (Int32.ofInt x4))]) c79_32 (Nat.le_of_ble_eq_true rfl) rfl ?_
      exact t79_33 hx1 hx2 (r4_or _ _) hx4 w
    · have w := w.neg e2
      refine mE_icmp_ne_T (t := 33) c79_18 rfl (r4_and _ _) (r4_n rfl) e2 ?_
      exact t79_33 hx1 hx2 hx3 hx4 w
  · have w := w.neg e1
    refine mE_icmp_ge_T (t := 39) c79_8 rfl hx4 hx2 e1 ?_
    have w := w.oinr
    refine mE_iload_n c79_39 rfl ?_
    exact mE_iret c79_40 qr79 hx3 ⟨rfl, w.osome⟩
theorem t79_5 {X : Nat × Nat × qC} {d : Nat} {x1 : Int} {x2 : Int} {x3 : Int} {x4 : Int} {M : Mm}  {R : Int → Prop} (hx1 : R4 x1) (hx2 : R4 x2) (hx3 : R4 x3) (hx4 : R4 x4) (w : Wp (f79_5 x1 x2 x3 x4 M) R) : mE X (d + 0) 79 1 5 [some (.ref 2), some (.int (Int32.ofInt x1)), some (.int (Int32.ofInt x2)), some (.int (Int32.ofInt x3)), some (.int (Int32.ofInt x4))] [] M (fun v M2 => M = M2 ∧ R v) :=
  Wp.olp (f := fun s : Int × Int => lb79_5 x1 x2 s.1 s.2 M) (s := (x3, x4)) (E := E79_5 X d x1 x2 M R) w (fun s w hx3 hx4 => tb79_5 hx1 hx2 hx3 hx4 w) hx3 hx4
noncomputable def f79 (x1 : Int) (x2 : Int) (M : Mm) : Option (Int) :=
  f79_5 x1 x2 0 0 M
theorem t79 {X : Nat × Nat × qC} {d : Nat} {x1 : Int} {x2 : Int} {M : Mm}  {R : Int → Prop} (hx1 : R4 x1) (hx2 : R4 x2) (w : Wp (f79 x1 x2 M) R) : mE X (d + 0) 79 1 0 [some (.ref 2), some (.int (Int32.ofInt x1)), some (.int (Int32.ofInt x2)), none, none] [] M (fun v M2 => M = M2 ∧ R v) := by
  refine mE_iconst c79_0 ?_
  refine mE_istore_n (ls2 := [some (.ref 2), some (.int (Int32.ofInt x1)), some (.int (Int32.ofInt x2)), some (.int (Int32.ofInt 0)), none]) c79_1 (Nat.le_of_ble_eq_true rfl) rfl ?_
  refine mE_iconst c79_2 ?_
  refine mE_istore (ls2 := [some (.ref 2), some (.int (Int32.ofInt x1)), some (.int (Int32.ofInt x2)), some (.int (Int32.ofInt 0)), some (.int (Int32.ofInt 0))]) c79_3 (Nat.le_of_ble_eq_true rfl) rfl ?_
  exact t79_5 hx1 hx2 (r4_n rfl) (r4_n rfl) w
theorem s79 {X : Nat × Nat × qC} {d : Nat} {x1 : Int} {x2 : Int} {M : Mm} {R : Int → Prop} (hx1 : R4 x1) (hx2 : R4 x2) (w : Wp (f79 x1 x2 M) R) : mC X (d + 1) 79 1 [.ref 2, .int (Int32.ofInt x1), .int (Int32.ofInt x2)] M (fun v M2 => M = M2 ∧ R v) :=
  mC_of (qent_mk qx79 rfl rfl rfl) (t79 hx1 hx2 w)
/-! SaggingNet.bestCut -/
def E34_34 (X : Nat × Nat × qC) (d : Nat) (x1 : Int) (x2 : Int) (x3 : Int) (x4 : Int) (x5 : Int) (R : Int × Mm → Prop) : Int × Int × Int × Int × Mm → Prop := fun s => R4 s.1 → R4 s.2.1 → R4 s.2.2.1 → R4 s.2.2.2.1 → ∀ (o10 : Option Value), ∀ (o11 : Option Value), ∀ (o12 : Option Value), mE X (d + 6) 34 1 34 [some (.ref 2), some (.int (Int32.ofInt x1)), some (.int (Int32.ofInt x2)), some (.int (Int32.ofInt x3)), some (.int (Int32.ofInt x4)), some (.int (Int32.ofInt x5)), some (.int (Int32.ofInt s.1)), some (.int (Int32.ofInt s.2.1)), some (.int (Int32.ofInt s.2.2.1)), some (.int (Int32.ofInt s.2.2.2.1)), o10, o11, o12] [] s.2.2.2.2 (fun v M2 => R (v, M2))
noncomputable def f34_138 (x1 : Int) (x2 : Int) (x3 : Int) (x4 : Int) (x5 : Int) (x6 : Int) (x7 : Int) (x8 : Int) (x9 : Int) (M : Mm) : Option ((Int × Int × Int × Int × Mm) ⊕ (Int × Mm)) :=
  gd (R4 (x9 + 1)) (
  some (.inl (x6, x7, x8, (x9 + 1), M)))
theorem t34_138 {X : Nat × Nat × qC} {d : Nat} {x1 : Int} {x2 : Int} {x3 : Int} {x4 : Int} {x5 : Int} {x6 : Int} {x7 : Int} {x8 : Int} {x9 : Int} {M : Mm} {y10 : Int32} {y11 : Int32} {o12 : Option Value} {R : Int × Mm → Prop} (hx1 : R4 x1) (hx2 : R4 x2) (hx3 : R4 x3) (hx4 : R4 x4) (hx5 : R4 x5) (hx6 : R4 x6) (hx7 : R4 x7) (hx8 : R4 x8) (hx9 : R4 x9) (w : Wp (f34_138 x1 x2 x3 x4 x5 x6 x7 x8 x9 M) (Sum.elim (E34_34 X d x1 x2 x3 x4 x5 R) R)) : mE X (d + 6) 34 1 138 [some (.ref 2), some (.int (Int32.ofInt x1)), some (.int (Int32.ofInt x2)), some (.int (Int32.ofInt x3)), some (.int (Int32.ofInt x4)), some (.int (Int32.ofInt x5)), some (.int (Int32.ofInt x6)), some (.int (Int32.ofInt x7)), some (.int (Int32.ofInt x8)), some (.int (Int32.ofInt x9)), some (.int y10), some (.int y11), o12] [] M (fun v M2 => R (v, M2)) := by
  obtain ⟨g1, w⟩ := w.ogd
  refine mE_iinc (ls2 := [some (.ref 2), some (.int (Int32.ofInt x1)), some (.int (Int32.ofInt x2)), some (.int (Int32.ofInt x3)), some (.int (Int32.ofInt x4)), some (.int (Int32.ofInt x5)), some (.int (Int32.ofInt x6)), some (.int (Int32.ofInt x7)), some (.int (Int32.ofInt x8)), some (.int (Int32.ofInt (x9 + 1))), some (.int y10), some (.int y11), o12]) c34_138 rfl (Nat.le_of_ble_eq_true rfl) rfl ?_
  refine mE_goto (t := 34) c34_141 rfl ?_
  exact w.osome hx6 hx7 hx8 g1 _ _ _
noncomputable def f34_126 (x1 : Int) (x2 : Int) (x3 : Int) (x4 : Int) (x5 : Int) (x9 : Int) (x10 : Int) (x12 : Int) (M : Mm) : Option ((Int × Int × Int × Int × Mm) ⊕ (Int × Mm)) :=
  f34_138 x1 x2 x3 x4 x5 x9 x12 x10 x9 M
theorem t34_126 {X : Nat × Nat × qC} {d : Nat} {x1 : Int} {x2 : Int} {x3 : Int} {x4 : Int} {x5 : Int} {x9 : Int} {x10 : Int} {x12 : Int} {M : Mm} {y6 : Int32} {y7 : Int32} {y8 : Int32} {y11 : Int32} {R : Int × Mm → Prop} (hx1 : R4 x1) (hx2 : R4 x2) (hx3 : R4 x3) (hx4 : R4 x4) (hx5 : R4 x5) (hx9 : R4 x9) (hx10 : R4 x10) (hx12 : R4 x12) (w : Wp (f34_126 x1 x2 x3 x4 x5 x9 x10 x12 M) (Sum.elim (E34_34 X d x1 x2 x3 x4 x5 R) R)) : mE X (d + 6) 34 1 126 [some (.ref 2), some (.int (Int32.ofInt x1)), some (.int (Int32.ofInt x2)), some (.int (Int32.ofInt x3)), some (.int (Int32.ofInt x4)), some (.int (Int32.ofInt x5)), some (.int y6), some (.int y7), some (.int y8), some (.int (Int32.ofInt x9)), some (.int (Int32.ofInt x10)), some (.int y11), some (.int (Int32.ofInt x12))] [] M (fun v M2 => R (v, M2)) := by
  refine mE_iload c34_126 rfl ?_
  refine mE_istore (ls2 := [some (.ref 2), some (.int (Int32.ofInt x1)), some (.int (Int32.ofInt x2)), some (.int (Int32.ofInt x3)), some (.int (Int32.ofInt x4)), some (.int (Int32.ofInt x5)), some (.int (Int32.ofInt x9)), some (.int y7), some (.int y8), some (.int (Int32.ofInt x9)), some (.int (Int32.ofInt x10)), some (.int y11), some (.int (Int32.ofInt x12))]) c34_128 (Nat.le_of_ble_eq_true rfl) rfl ?_
  refine mE_iload c34_130 rfl ?_
  refine mE_istore (ls2 := [some (.ref 2), some (.int (Int32.ofInt x1)), some (.int (Int32.ofInt x2)), some (.int (Int32.ofInt x3)), some (.int (Int32.ofInt x4)), some (.int (Int32.ofInt x5)), some (.int (Int32.ofInt x9)), some (.int (Int32.ofInt x12)), some (.int y8), some (.int (Int32.ofInt x9)), some (.int (Int32.ofInt x10)), some (.int y11), some (.int (Int32.ofInt x12))]) c34_132 (Nat.le_of_ble_eq_true rfl) rfl ?_
  refine mE_iload c34_134 rfl ?_
  refine mE_istore (ls2 := [some (.ref 2), some (.int (Int32.ofInt x1)), some (.int (Int32.ofInt x2)), some (.int (Int32.ofInt x3)), some (.int (Int32.ofInt x4)), some (.int (Int32.ofInt x5)), some (.int (Int32.ofInt x9)), some (.int (Int32.ofInt x12)), some (.int (Int32.ofInt x10)), some (.int (Int32.ofInt x9)), some (.int (Int32.ofInt x10)), some (.int y11), some (.int (Int32.ofInt x12))]) c34_136 (Nat.le_of_ble_eq_true rfl) rfl ?_
  exact t34_138 hx1 hx2 hx3 hx4 hx5 hx9 hx12 hx10 hx9 w
noncomputable def f34_80 (x1 : Int) (x2 : Int) (x3 : Int) (x4 : Int) (x5 : Int) (x6 : Int) (x7 : Int) (x8 : Int) (x9 : Int) (x10 : Int) (x11 : Int) (M : Mm) : Option ((Int × Int × Int × Int × Mm) ⊕ (Int × Mm)) :=
  if x11 = 0 then
  (obnd (f44 x9 x4 x2 M) fun v2 M3 =>
  if x7 = (-1) then
  (f34_126 x1 x2 x3 x4 x5 x9 x10 v2 M3)
  else
  (if v2 < x7 then
  (f34_126 x1 x2 x3 x4 x5 x9 x10 v2 M3)
  else
  (if v2 = x7 then
  (if x10 < x8 then
  (f34_126 x1 x2 x3 x4 x5 x9 x10 v2 M3)
  else
  (f34_138 x1 x2 x3 x4 x5 x6 x7 x8 x9 M3))
  else
  (f34_138 x1 x2 x3 x4 x5 x6 x7 x8 x9 M3))))
  else
  (f34_138 x1 x2 x3 x4 x5 x6 x7 x8 x9 M)
theorem t34_80 {X : Nat × Nat × qC} {d : Nat} {x1 : Int} {x2 : Int} {x3 : Int} {x4 : Int} {x5 : Int} {x6 : Int} {x7 : Int} {x8 : Int} {x9 : Int} {x10 : Int} {x11 : Int} {M : Mm} {o12 : Option Value} {R : Int × Mm → Prop} (hx1 : R4 x1) (hx2 : R4 x2) (hx3 : R4 x3) (hx4 : R4 x4) (hx5 : R4 x5) (hx6 : R4 x6) (hx7 : R4 x7) (hx8 : R4 x8) (hx9 : R4 x9) (hx10 : R4 x10) (hx11 : R4 x11) (w : Wp (f34_80 x1 x2 x3 x4 x5 x6 x7 x8 x9 x10 x11 M) (Sum.elim (E34_34 X d x1 x2 x3 x4 x5 R) R)) : mE X (d + 6) 34 1 80 [some (.ref 2), some (.int (Int32.ofInt x1)), some (.int (Int32.ofInt x2)), some (.int (Int32.ofInt x3)), some (.int (Int32.ofInt x4)), some (.int (Int32.ofInt x5)), some (.int (Int32.ofInt x6)), some (.int (Int32.ofInt x7)), some (.int (Int32.ofInt x8)), some (.int (Int32.ofInt x9)), some (.int (Int32.ofInt x10)), some (.int (Int32.ofInt x11)), o12] [] M (fun v M2 => R (v, M2)) := by
  refine mE_iload c34_80 rfl ?_
  by_cases e1 : x11 = 0
  · have w := w.pos e1
    refine mE_if_eq_T (t := 88) c34_82 rfl hx11 e1 ?_
    refine mE_aload_n c34_88 rfl ?_
    refine mE_iload c34_89 rfl ?_
    refine mE_iload c34_91 rfl ?_
    refine mE_iload_n c34_93 rfl ?_
    refine mE_virtual1 (b := 2) (as := [.int (Int32.ofInt x9), .int (Int32.ofInt x4), .int (Int32.ofInt x2)]) (r := []) c34_94 qo34 qK11_379 qo44 rfl rfl rfl (ok_lit rfl rfl rfl) (Nat.le_of_ble_eq_true rfl) (s44 (d := d + 0) hx9 hx4 hx2 w.oc) ?_
    intro v2 M3 q4 w
    refine mE_istore (ls2 := [some (.ref 2), some (.int (Int32.ofInt x1)), some (.int (Int32.ofInt x2)), some (.int (Int32.ofInt x3)), some (.int (Int32.ofInt x4)), some (.int (Int32.ofInt x5)), some (.int (Int32.ofInt x6)), some (.int (Int32.ofInt x7)), some (.int (Int32.ofInt x8)), some (.int (Int32.ofInt x9)), some (.int (Int32.ofInt x10)), some (.int (Int32.ofInt x11)), some (.int (Int32.ofInt v2))]) c34_97 (Nat.le_of_ble_eq_true rfl) rfl ?_
    refine mE_iload c34_99 rfl ?_
    refine mE_iconst c34_101 ?_
    by_cases e5 : x7 = (-1)
    · have w := w.pos e5
      refine mE_icmp_eq_T (t := 126) c34_102 rfl hx7 (r4_n rfl) e5 ?_
      exact t34_126 hx1 hx2 hx3 hx4 hx5 hx9 hx10 q4 w
    · have w := w.neg e5
      refine mE_icmp_eq_F (t := 126) c34_102 rfl hx7 (r4_n rfl) e5 ?_
      refine mE_iload c34_105 rfl ?_
      refine mE_iload c34_107 rfl ?_
      by_cases e6 : v2 < x7
      · have w := w.pos e6
        refine mE_icmp_lt_T (t := 126) c34_109 rfl q4 hx7 e6 ?_
        exact t34_126 hx1 hx2 hx3 hx4 hx5 hx9 hx10 q4 w
      · have w := w.neg e6
        refine mE_icmp_lt_F (t := 126) c34_109 rfl q4 hx7 e6 ?_
        refine mE_iload c34_112 rfl ?_
        refine mE_iload c34_114 rfl ?_
        by_cases e7 : v2 = x7
        · have w := w.pos e7
          refine mE_icmp_ne_F (t := 138) c34_116 rfl q4 hx7 e7 ?_
          refine mE_iload c34_119 rfl ?_
          refine mE_iload c34_121 rfl ?_
          by_cases e8 : x10 < x8
          · have w := w.pos e8
            refine mE_icmp_ge_F (t := 138) c34_123 rfl hx10 hx8 e8 ?_
            exact t34_126 hx1 hx2 hx3 hx4 hx5 hx9 hx10 q4 w
          · have w := w.neg e8
            refine mE_icmp_ge_T (t := 138) c34_123 rfl hx10 hx8 e8 ?_
            exact t34_138 hx1 hx2 hx3 hx4 hx5 hx6 hx7 hx8 hx9 w
        · have w := w.neg e7
          refine mE_icmp_ne_T (t := 138) c34_116 rfl q4 hx7 e7 ?_
          exact t34_138 hx1 hx2 hx3 hx4 hx5 hx6 hx7 hx8 hx9 w
  · have w := w.neg e1
    refine mE_if_eq_F (t := 88) c34_82 rfl hx11 e1 ?_
    refine mE_goto (t := 138) c34_85 rfl ?_
    exact t34_138 hx1 hx2 hx3 hx4 hx5 hx6 hx7 hx8 hx9 w
noncomputable def f34_71 (x1 : Int) (x2 : Int) (x3 : Int) (x4 : Int) (x5 : Int) (x6 : Int) (x7 : Int) (x8 : Int) (x9 : Int) (x10 : Int) (M : Mm) : Option ((Int × Int × Int × Int × Mm) ⊕ (Int × Mm)) :=
  if x1 < x10 then
  (f34_138 x1 x2 x3 x4 x5 x6 x7 x8 x9 M)
  else
  (f34_80 x1 x2 x3 x4 x5 x6 x7 x8 x9 x10 0 M)
theorem t34_71 {X : Nat × Nat × qC} {d : Nat} {x1 : Int} {x2 : Int} {x3 : Int} {x4 : Int} {x5 : Int} {x6 : Int} {x7 : Int} {x8 : Int} {x9 : Int} {x10 : Int} {M : Mm} {o11 : Option Value} {o12 : Option Value} {R : Int × Mm → Prop} (hx1 : R4 x1) (hx2 : R4 x2) (hx3 : R4 x3) (hx4 : R4 x4) (hx5 : R4 x5) (hx6 : R4 x6) (hx7 : R4 x7) (hx8 : R4 x8) (hx9 : R4 x9) (hx10 : R4 x10) (w : Wp (f34_71 x1 x2 x3 x4 x5 x6 x7 x8 x9 x10 M) (Sum.elim (E34_34 X d x1 x2 x3 x4 x5 R) R)) : mE X (d + 6) 34 1 71 [some (.ref 2), some (.int (Int32.ofInt x1)), some (.int (Int32.ofInt x2)), some (.int (Int32.ofInt x3)), some (.int (Int32.ofInt x4)), some (.int (Int32.ofInt x5)), some (.int (Int32.ofInt x6)), some (.int (Int32.ofInt x7)), some (.int (Int32.ofInt x8)), some (.int (Int32.ofInt x9)), some (.int (Int32.ofInt x10)), o11, o12] [] M (fun v M2 => R (v, M2)) := by
  refine mE_iconst c34_71 ?_
  refine mE_istore (ls2 := [some (.ref 2), some (.int (Int32.ofInt x1)), some (.int (Int32.ofInt x2)), some (.int (Int32.ofInt x3)), some (.int (Int32.ofInt x4)), some (.int (Int32.ofInt x5)), some (.int (Int32.ofInt x6)), some (.int (Int32.ofInt x7)), some (.int (Int32.ofInt x8)), some (.int (Int32.ofInt x9)), some (.int (Int32.ofInt x10)), some (.int (Int32.ofInt 0)), o12]) c34_72 (Nat.le_of_ble_eq_true rfl) rfl ?_
  refine mE_iload c34_74 rfl ?_
  refine mE_iload_n c34_76 rfl ?_
  by_cases e1 : x1 < x10
  · have w := w.pos e1
    refine mE_icmp_gt_T (t := 138) c34_77 rfl hx10 hx1 e1 ?_
    exact t34_138 hx1 hx2 hx3 hx4 hx5 hx6 hx7 hx8 hx9 w
  · have w := w.neg e1
    refine mE_icmp_gt_F (t := 138) c34_77 rfl hx10 hx1 e1 ?_
    exact t34_80 hx1 hx2 hx3 hx4 hx5 hx6 hx7 hx8 hx9 hx10 (r4_n rfl) w
noncomputable def lb34_34 (x1 : Int) (x2 : Int) (x3 : Int) (x4 : Int) (x5 : Int) (x6 : Int) (x7 : Int) (x8 : Int) (x9 : Int) (M : Mm) : Option ((Int × Int × Int × Int × Mm) ⊕ (Int × Mm)) :=
  if x9 < (bShl 1 x4) then
  ((f41 x9 x4 M).bind fun v2 =>
  if x7 = x5 then
  (if v2 < x8 then
  (f34_71 x1 x2 x3 x4 x5 x6 x7 x8 x9 v2 M)
  else
  (if x1 < v2 then
  (f34_138 x1 x2 x3 x4 x5 x6 x7 x8 x9 M)
  else
  (f34_80 x1 x2 x3 x4 x5 x6 x7 x8 x9 v2 1 M)))
  else
  (f34_71 x1 x2 x3 x4 x5 x6 x7 x8 x9 v2 M))
  else
  (oinr (if x3 = 0 then
  ((f79 x6 x4 M).bind fun v3 =>
  some (v3, M))
  else
  (some (x7, M))))
noncomputable def f34_34 (x1 : Int) (x2 : Int) (x3 : Int) (x4 : Int) (x5 : Int) (x6 : Int) (x7 : Int) (x8 : Int) (x9 : Int) (M : Mm) : Option (Int × Mm) := lp (fun s : Int × Int × Int × Int × Mm => lb34_34 x1 x2 x3 x4 x5 s.1 s.2.1 s.2.2.1 s.2.2.2.1 s.2.2.2.2) (x6, x7, x8, x9, M)
theorem tb34_34 {X : Nat × Nat × qC} {d : Nat} {x1 : Int} {x2 : Int} {x3 : Int} {x4 : Int} {x5 : Int} {x6 : Int} {x7 : Int} {x8 : Int} {x9 : Int} {M : Mm} {o10 : Option Value} {o11 : Option Value} {o12 : Option Value} {R : Int × Mm → Prop} (hx1 : R4 x1) (hx2 : R4 x2) (hx3 : R4 x3) (hx4 : R4 x4) (hx5 : R4 x5) (hx6 : R4 x6) (hx7 : R4 x7) (hx8 : R4 x8) (hx9 : R4 x9) (w : Wp (lb34_34 x1 x2 x3 x4 x5 x6 x7 x8 x9 M) (Sum.elim (E34_34 X d x1 x2 x3 x4 x5 R) R)) : mE X (d + 6) 34 1 34 [some (.ref 2), some (.int (Int32.ofInt x1)), some (.int (Int32.ofInt x2)), some (.int (Int32.ofInt x3)), some (.int (Int32.ofInt x4)), some (.int (Int32.ofInt x5)), some (.int (Int32.ofInt x6)), some (.int (Int32.ofInt x7)), some (.int (Int32.ofInt x8)), some (.int (Int32.ofInt x9)), o10, o11, o12] [] M (fun v M2 => R (v, M2)) := by
  refine mE_iload c34_34 rfl ?_
  refine mE_iconst c34_36 ?_
  refine mE_iload c34_37 rfl ?_
  refine mE_ishl c34_39 ?_
  by_cases e1 : x9 < (bShl 1 x4)
  · have w := w.pos e1
    refine mE_icmp_ge_F (t := 144) c34_40 rfl hx9 (r4_shl _ _) e1 ?_
    refine mE_aload_n c34_43 rfl ?_
    refine mE_iload c34_44 rfl ?_
    refine mE_iload c34_46 rfl ?_
    refine mE_virtual1 (b := 2) (as := [.int (Int32.ofInt x9), .int (Int32.ofInt x4)]) (r := []) c34_48 qo34 qK11_376 qo41 rfl rfl rfl (ok_lit rfl rfl rfl) (Nat.le_of_ble_eq_true rfl) (s41 (d := d + 5) hx9 hx4 w.obind) ?_
    rintro v2 _ q4 ⟨rfl, w⟩
    refine mE_istore (ls2 := [some (.ref 2), some (.int (Int32.ofInt x1)), some (.int (Int32.ofInt x2)), some (.int (Int32.ofInt x3)), some (.int (Int32.ofInt x4)), some (.int (Int32.ofInt x5)), some (.int (Int32.ofInt x6)), some (.int (Int32.ofInt x7)), some (.int (Int32.ofInt x8)), some (.int (Int32.ofInt x9)), some (.int (Int32.ofInt v2)), o11, o12]) c34_51 (Nat.le_of_ble_eq_true rfl) rfl ?_
    refine mE_iload c34_53 rfl ?_
    refine mE_iload c34_55 rfl ?_
    by_cases e5 : x7 = x5
    · have w := w.pos e5
      refine mE_icmp_ne_F (t := 71) c34_57 rfl hx7 hx5 e5 ?_
      refine mE_iload c34_60 rfl ?_
      refine mE_iload c34_62 rfl ?_
      by_cases e6 : v2 < x8
      · have w := w.pos e6
        refine mE_icmp_lt_T (t := 71) c34_64 rfl q4 hx8 e6 ?_
        exact t34_71 hx1 hx2 hx3 hx4 hx5 hx6 hx7 hx8 hx9 q4 w
      · have w := w.neg e6
        refine mE_icmp_lt_F (t := 71) c34_64 rfl q4 hx8 e6 ?_
        refine mE_iconst c34_67 ?_
        refine mE_goto (t := 72) c34_68 rfl ?_
        refine mE_istore (ls2 := [some (.ref 2), some (.int (Int32.ofInt x1)), some (.int (Int32.ofInt x2)), some (.int (Int32.ofInt x3)), some (.int (Int32.ofInt x4)), some (.int (Int32.ofInt x5)), some (.int (Int32.ofInt x6)), some (.int (Int32.ofInt x7)), some (.int (Int32.ofInt x8)), some (.int (Int32.ofInt x9)), some (.int (Int32.ofInt v2)), some (.int (Int32.ofInt 1)), o12]) c34_72 (Nat.le_of_ble_eq_true rfl) rfl ?_
        refine mE_iload c34_74 rfl ?_
        refine mE_iload_n c34_76 rfl ?_
        by_cases e7 : x1 < v2
        · have w := w.pos e7
          refine mE_icmp_gt_T (t := 138) c34_77 rfl q4 hx1 e7 ?_
          exact t34_138 hx1 hx2 hx3 hx4 hx5 hx6 hx7 hx8 hx9 w
        · have w := w.neg e7
          refine mE_icmp_gt_F (t := 138) c34_77 rfl q4 hx1 e7 ?_
          exact t34_80 hx1 hx2 hx3 hx4 hx5 hx6 hx7 hx8 hx9 q4 (r4_n rfl) w
    · have w := w.neg e5
      refine mE_icmp_ne_T (t := 71) c34_57 rfl hx7 hx5 e5 ?_
      exact t34_71 hx1 hx2 hx3 hx4 hx5 hx6 hx7 hx8 hx9 q4 w
  · have w := w.neg e1
    refine mE_icmp_ge_T (t := 144) c34_40 rfl hx9 (r4_shl _ _) e1 ?_
    have w := w.oinr
    refine mE_iload_n c34_144 rfl ?_
    by_cases e2 : x3 = 0
    · have w := w.pos e2
      refine mE_if_ne_F (t := 159) c34_145 rfl hx3 e2 ?_
      refine mE_aload_n c34_148 rfl ?_
      refine mE_iload c34_149 rfl ?_
      refine mE_iload c34_151 rfl ?_
      refine mE_virtual1 (b := 2) (as := [.int (Int32.ofInt x6), .int (Int32.ofInt x4)]) (r := []) c34_153 qo34 qK11_382 qo79 rfl rfl rfl (ok_lit rfl rfl rfl) (Nat.le_of_ble_eq_true rfl) (s79 (d := d + 5) hx6 hx4 w.obind) ?_
      rintro v3 _ q5 ⟨rfl, w⟩
      refine mE_goto (t := 161) c34_156 rfl ?_
      exact mE_iret c34_161 qr34 q5 w.osome
    · have w := w.neg e2
      refine mE_if_ne_T (t := 159) c34_145 rfl hx3 e2 ?_
      refine mE_iload c34_159 rfl ?_
      exact mE_iret c34_161 qr34 hx7 w.osome
theorem t34_34 {X : Nat × Nat × qC} {d : Nat} {x1 : Int} {x2 : Int} {x3 : Int} {x4 : Int} {x5 : Int} {x6 : Int} {x7 : Int} {x8 : Int} {x9 : Int} {M : Mm} {o10 : Option Value} {o11 : Option Value} {o12 : Option Value} {R : Int × Mm → Prop} (hx1 : R4 x1) (hx2 : R4 x2) (hx3 : R4 x3) (hx4 : R4 x4) (hx5 : R4 x5) (hx6 : R4 x6) (hx7 : R4 x7) (hx8 : R4 x8) (hx9 : R4 x9) (w : Wp (f34_34 x1 x2 x3 x4 x5 x6 x7 x8 x9 M) R) : mE X (d + 6) 34 1 34 [some (.ref 2), some (.int (Int32.ofInt x1)), some (.int (Int32.ofInt x2)), some (.int (Int32.ofInt x3)), some (.int (Int32.ofInt x4)), some (.int (Int32.ofInt x5)), some (.int (Int32.ofInt x6)), some (.int (Int32.ofInt x7)), some (.int (Int32.ofInt x8)), some (.int (Int32.ofInt x9)), o10, o11, o12] [] M (fun v M2 => R (v, M2)) :=
  Wp.olp (f := fun s : Int × Int × Int × Int × Mm => lb34_34 x1 x2 x3 x4 x5 s.1 s.2.1 s.2.2.1 s.2.2.2.1 s.2.2.2.2) (s := (x6, x7, x8, x9, M)) (E := E34_34 X d x1 x2 x3 x4 x5 R) w (fun s w hx6 hx7 hx8 hx9 _ _ _ => tb34_34 hx1 hx2 hx3 hx4 hx5 hx6 hx7 hx8 hx9 w) hx6 hx7 hx8 hx9 _ _ _
noncomputable def f34 (x1 : Int) (x2 : Int) (x3 : Int) (M : Mm) : Option (Int × Mm) :=
  obnd (f47 M) fun v1 M2 =>
  (f244 24 (M2 24 1) M2).bind fun v5 =>
  f34_34 x1 x2 x3 v1 v5 0 (-1) 0 0 M2
theorem t34 {X : Nat × Nat × qC} {d : Nat} {x1 : Int} {x2 : Int} {x3 : Int} {M : Mm}  {R : Int × Mm → Prop} (hx1 : R4 x1) (hx2 : R4 x2) (hx3 : R4 x3) (w : Wp (f34 x1 x2 x3 M) R) : mE X (d + 6) 34 1 0 [some (.ref 2), some (.int (Int32.ofInt x1)), some (.int (Int32.ofInt x2)), some (.int (Int32.ofInt x3)), none, none, none, none, none, none, none, none, none] [] M (fun v M2 => R (v, M2)) := by
  refine mE_aload_n c34_0 rfl ?_
  refine mE_virtual1 (b := 2) (as := []) (r := []) c34_1 qo34 qK11_372 qo47 rfl rfl rfl (ok_lit rfl rfl rfl) (Nat.le_of_ble_eq_true rfl) (s47 (d := d + 5) w.oc) ?_
  intro v1 M2 q3 w
  refine mE_istore (ls2 := [some (.ref 2), some (.int (Int32.ofInt x1)), some (.int (Int32.ofInt x2)), some (.int (Int32.ofInt x3)), some (.int (Int32.ofInt v1)), none, none, none, none, none, none, none, none]) c34_4 (Nat.le_of_ble_eq_true rfl) rfl ?_
  refine mE_aload_n c34_6 rfl ?_
  refine mE_getA c34_7 qo34 qF11_19 (ok_lit rfl rfl rfl) rfl ⟨by decide, by decide⟩ ?_
  refine mE_aload_n c34_10 rfl ?_
  refine mE_getA c34_11 qo34 qF11_19 (ok_lit rfl rfl rfl) rfl ⟨by decide, by decide⟩ ?_
  refine mE_getI c34_14 qo34 qF11_161 (ok_lit rfl rfl rfl) rfl ?_
  intro u4
  refine mE_virtual1 (b := 24) (as := [.int (Int32.ofInt (M2 24 1))]) (r := []) c34_17 qo34 qK11_350 qo244 rfl rfl rfl (ok_lit rfl rfl rfl) (Nat.le_of_ble_eq_true rfl) (s244 (d := d + 5) isSt_24 u4 w.obind) ?_
  rintro v5 _ q7 ⟨rfl, w⟩
  refine mE_istore (ls2 := [some (.ref 2), some (.int (Int32.ofInt x1)), some (.int (Int32.ofInt x2)), some (.int (Int32.ofInt x3)), some (.int (Int32.ofInt v1)), some (.int (Int32.ofInt v5)), none, none, none, none, none, none, none]) c34_20 (Nat.le_of_ble_eq_true rfl) rfl ?_
  refine mE_iconst c34_22 ?_
  refine mE_istore (ls2 := [some (.ref 2), some (.int (Int32.ofInt x1)), some (.int (Int32.ofInt x2)), some (.int (Int32.ofInt x3)), some (.int (Int32.ofInt v1)), some (.int (Int32.ofInt v5)), some (.int (Int32.ofInt 0)), none, none, none, none, none, none]) c34_23 (Nat.le_of_ble_eq_true rfl) rfl ?_
  refine mE_iconst c34_25 ?_
  refine mE_istore (ls2 := [some (.ref 2), some (.int (Int32.ofInt x1)), some (.int (Int32.ofInt x2)), some (.int (Int32.ofInt x3)), some (.int (Int32.ofInt v1)), some (.int (Int32.ofInt v5)), some (.int (Int32.ofInt 0)), some (.int (Int32.ofInt (-1))), none, none, none, none, none]) c34_26 (Nat.le_of_ble_eq_true rfl) rfl ?_
  refine mE_iconst c34_28 ?_
  refine mE_istore (ls2 := [some (.ref 2), some (.int (Int32.ofInt x1)), some (.int (Int32.ofInt x2)), some (.int (Int32.ofInt x3)), some (.int (Int32.ofInt v1)), some (.int (Int32.ofInt v5)), some (.int (Int32.ofInt 0)), some (.int (Int32.ofInt (-1))), some (.int (Int32.ofInt 0)), none, none, none, none]) c34_29 (Nat.le_of_ble_eq_true rfl) rfl ?_
  refine mE_iconst c34_31 ?_
  refine mE_istore (ls2 := [some (.ref 2), some (.int (Int32.ofInt x1)), some (.int (Int32.ofInt x2)), some (.int (Int32.ofInt x3)), some (.int (Int32.ofInt v1)), some (.int (Int32.ofInt v5)), some (.int (Int32.ofInt 0)), some (.int (Int32.ofInt (-1))), some (.int (Int32.ofInt 0)), some (.int (Int32.ofInt 0)), none, none, none]) c34_32 (Nat.le_of_ble_eq_true rfl) rfl ?_
  exact t34_34 hx1 hx2 hx3 q3 q7 (r4_n rfl) (r4_n rfl) (r4_n rfl) (r4_n rfl) w
theorem s34 {X : Nat × Nat × qC} {d : Nat} {x1 : Int} {x2 : Int} {x3 : Int} {M : Mm} {R : Int × Mm → Prop} (hx1 : R4 x1) (hx2 : R4 x2) (hx3 : R4 x3) (w : Wp (f34 x1 x2 x3 M) R) : mC X (d + 7) 34 1 [.ref 2, .int (Int32.ofInt x1), .int (Int32.ofInt x2), .int (Int32.ofInt x3)] M (fun v M2 => R (v, M2)) :=
  mC_of (qent_mk qx34 rfl rfl rfl) (t34 hx1 hx2 hx3 w)
/-! SaggingNet$Net.hasWire -/
noncomputable def f215 (x1 : Int) (M : Mm) : Option (Int) :=
  if x1 < 0 then
  (some 0)
  else
  (if x1 < (M 3 1) then
  (some 1)
  else
  (some 0))
theorem t215 {X : Nat × Nat × qC} {d : Nat} {x1 : Int} {M : Mm}  {R : Int → Prop} (hx1 : R4 x1) (w : Wp (f215 x1 M) R) : mE X (d + 0) 215 1 0 [some (.ref 3), some (.int (Int32.ofInt x1))] [] M (fun v M2 => M = M2 ∧ R v) := by
  refine mE_iload_n c215_0 rfl ?_
  by_cases e1 : x1 < 0
  · have w := w.pos e1
    refine mE_if_lt_T (t := 16) c215_1 rfl hx1 e1 ?_
    refine mE_iconst c215_16 ?_
    exact mE_zret c215_17 qr215 (Or.inl rfl) ⟨rfl, w.osome⟩
  · have w := w.neg e1
    refine mE_if_lt_F (t := 16) c215_1 rfl hx1 e1 ?_
    refine mE_iload_n c215_4 rfl ?_
    refine mE_aload_n c215_5 rfl ?_
    refine mE_getI c215_6 qo215 qF4_65 (ok_lit rfl rfl rfl) rfl ?_
    intro u2
    by_cases e3 : x1 < (M 3 1)
    · have w := w.pos e3
      refine mE_icmp_ge_F (t := 16) c215_9 rfl hx1 u2 e3 ?_
      refine mE_iconst c215_12 ?_
      refine mE_goto (t := 17) c215_13 rfl ?_
      exact mE_zret c215_17 qr215 (Or.inr rfl) ⟨rfl, w.osome⟩
    · have w := w.neg e3
      refine mE_icmp_ge_T (t := 16) c215_9 rfl hx1 u2 e3 ?_
      refine mE_iconst c215_16 ?_
      exact mE_zret c215_17 qr215 (Or.inl rfl) ⟨rfl, w.osome⟩
theorem s215 {X : Nat × Nat × qC} {d : Nat} {x1 : Int} {M : Mm} {R : Int → Prop} (hx1 : R4 x1) (w : Wp (f215 x1 M) R) : mC X (d + 1) 215 1 [.ref 3, .int (Int32.ofInt x1)] M (fun v M2 => M = M2 ∧ R v) :=
  mC_of (qent_mk qx215 rfl rfl rfl) (t215 hx1 w)
/-! SaggingNet$Tape.numberAt -/
def E249_6 (X : Nat × Nat × qC) (d : Nat) (x1 : Int) (M : Mm) (R : Int → Prop) : Int × Int → Prop := fun s => R4 s.1 → R4 s.2 → mE X (d + 0) 249 1 6 [some (.ref 132), some (.int (Int32.ofInt x1)), some (.int (Int32.ofInt s.1)), some (.int (Int32.ofInt s.2))] [] M (fun v M2 => M = M2 ∧ R v)
noncomputable def lb249_6 (x1 : Int) (x2 : Int) (x3 : Int) (M : Mm) : Option ((Int × Int) ⊕ (Int)) :=
  gd (R4 (4 * x1)) (
  gd (R4 ((4 * x1) + 4)) (
  if x3 < ((4 * x1) + 4) then
  (if x3 < 0 then
  (gd (R4 (x3 + 1)) (
  some (.inl ((bOr (bShl x2 8) 0), (x3 + 1)))))
  else
  (if x3 < 200 then
  (gd (0 ≤ x3 ∧ x3 < 200) (
  gd (R4 (x3 + 1)) (
  some (.inl ((bOr (bShl x2 8) (M 133 (x3).toNat)), (x3 + 1))))))
  else
  (gd (R4 (x3 + 1)) (
  some (.inl ((bOr (bShl x2 8) 0), (x3 + 1)))))))
  else
  (oinr (some x2))))
noncomputable def f249_6 (x1 : Int) (x2 : Int) (x3 : Int) (M : Mm) : Option (Int) := lp (fun s : Int × Int => lb249_6 x1 s.1 s.2 M) (x2, x3)
theorem tb249_6 {X : Nat × Nat × qC} {d : Nat} {x1 : Int} {x2 : Int} {x3 : Int} {M : Mm}  {R : Int → Prop} (hx1 : R4 x1) (hx2 : R4 x2) (hx3 : R4 x3) (w : Wp (lb249_6 x1 x2 x3 M) (Sum.elim (E249_6 X d x1 M R) R)) : mE X (d + 0) 249 1 6 [some (.ref 132), some (.int (Int32.ofInt x1)), some (.int (Int32.ofInt x2)), some (.int (Int32.ofInt x3))] [] M (fun v M2 => M = M2 ∧ R v) := by
  refine mE_iload_n c249_6 rfl ?_
  refine mE_iconst c249_7 ?_
  refine mE_iload_n c249_8 rfl ?_
  obtain ⟨g1, w⟩ := w.ogd
  refine mE_imul c249_9 ?_
  refine mE_iconst c249_10 ?_
  obtain ⟨g2, w⟩ := w.ogd
  refine mE_iadd c249_11 ?_
  by_cases e3 : x3 < ((4 * x1) + 4)
  · have w := w.pos e3
    refine mE_icmp_ge_F (t := 48) c249_12 rfl hx3 g2 e3 ?_
    refine mE_iload_n c249_15 rfl ?_
    refine mE_bipush (x := 8) c249_16 rfl ?_
    refine mE_ishl c249_18 ?_
    refine mE_iload_n c249_19 rfl ?_
    by_cases e4 : x3 < 0
    · have w := w.pos e4
      refine mE_if_lt_T (t := 39) c249_20 rfl hx3 e4 ?_
      refine mE_iconst c249_39 ?_
      refine mE_ior c249_40 ?_
      refine mE_istore_n (ls2 := [some (.ref 132), some (.int (Int32.ofInt x1)), some (.int (Int32.ofInt (bOr (bShl x2 8) 0))), some (.int (Int32.ofInt x3))]) c249_41 (Nat.le_of_ble_eq_true rfl) rfl ?_
      obtain ⟨g5, w⟩ := w.ogd
      refine mE_iinc (ls2 := [some (.ref 132), some (.int (Int32.ofInt x1)), some (.int (Int32.ofInt (bOr (bShl x2 8) 0))), some (.int (Int32.ofInt (x3 + 1)))]) c249_42 rfl (Nat.le_of_ble_eq_true rfl) rfl ?_
      refine mE_goto (t := 6) c249_45 rfl ?_
      exact w.osome (r4_or _ _) g5
    · have w := w.neg e4
      refine mE_if_lt_F (t := 39) c249_20 rfl hx3 e4 ?_
      refine mE_iload_n c249_23 rfl ?_
      refine mE_sipush (x := 200) c249_24 rfl ?_
      by_cases e5 : x3 < 200
      · have w := w.pos e5
        refine mE_icmp_ge_F (t := 39) c249_27 rfl hx3 (r4_n rfl) e5 ?_
        refine mE_aload_n c249_30 rfl ?_
        refine mE_getA c249_31 qo249 qF9_9 (ok_lit rfl rfl rfl) rfl ⟨by decide, by decide⟩ ?_
        refine mE_iload_n c249_34 rfl ?_
        obtain ⟨g6, w⟩ := w.ogd
        refine mE_iaload c249_35 (ok_lit rfl rfl rfl) hx3 g6 ?_
        intro u7
        refine mE_goto (t := 40) c249_36 rfl ?_
        refine mE_ior c249_40 ?_
        refine mE_istore_n (ls2 := [some (.ref 132), some (.int (Int32.ofInt x1)), some (.int (Int32.ofInt (bOr (bShl x2 8) (M 133 (x3).toNat)))), some (.int (Int32.ofInt x3))]) c249_41 (Nat.le_of_ble_eq_true rfl) rfl ?_
        obtain ⟨g8, w⟩ := w.ogd
        refine mE_iinc (ls2 := [some (.ref 132), some (.int (Int32.ofInt x1)), some (.int (Int32.ofInt (bOr (bShl x2 8) (M 133 (x3).toNat)))), some (.int (Int32.ofInt (x3 + 1)))]) c249_42 rfl (Nat.le_of_ble_eq_true rfl) rfl ?_
        refine mE_goto (t := 6) c249_45 rfl ?_
        exact w.osome (r4_or _ _) g8
      · have w := w.neg e5
        refine mE_icmp_ge_T (t := 39) c249_27 rfl hx3 (r4_n rfl) e5 ?_
        refine mE_iconst c249_39 ?_
        refine mE_ior c249_40 ?_
        refine mE_istore_n (ls2 := [some (.ref 132), some (.int (Int32.ofInt x1)), some (.int (Int32.ofInt (bOr (bShl x2 8) 0))), some (.int (Int32.ofInt x3))]) c249_41 (Nat.le_of_ble_eq_true rfl) rfl ?_
        obtain ⟨g6, w⟩ := w.ogd
        refine mE_iinc (ls2 := [some (.ref 132), some (.int (Int32.ofInt x1)), some (.int (Int32.ofInt (bOr (bShl x2 8) 0))), some (.int (Int32.ofInt (x3 + 1)))]) c249_42 rfl (Nat.le_of_ble_eq_true rfl) rfl ?_
        refine mE_goto (t := 6) c249_45 rfl ?_
        exact w.osome (r4_or _ _) g6
  · have w := w.neg e3
    refine mE_icmp_ge_T (t := 48) c249_12 rfl hx3 g2 e3 ?_
    have w := w.oinr
    refine mE_iload_n c249_48 rfl ?_
    exact mE_iret c249_49 qr249 hx2 ⟨rfl, w.osome⟩
theorem t249_6 {X : Nat × Nat × qC} {d : Nat} {x1 : Int} {x2 : Int} {x3 : Int} {M : Mm}  {R : Int → Prop} (hx1 : R4 x1) (hx2 : R4 x2) (hx3 : R4 x3) (w : Wp (f249_6 x1 x2 x3 M) R) : mE X (d + 0) 249 1 6 [some (.ref 132), some (.int (Int32.ofInt x1)), some (.int (Int32.ofInt x2)), some (.int (Int32.ofInt x3))] [] M (fun v M2 => M = M2 ∧ R v) :=
  Wp.olp (f := fun s : Int × Int => lb249_6 x1 s.1 s.2 M) (s := (x2, x3)) (E := E249_6 X d x1 M R) w (fun s w hx2 hx3 => tb249_6 hx1 hx2 hx3 w) hx2 hx3
noncomputable def f249 (x1 : Int) (M : Mm) : Option (Int) :=
  gd (R4 (4 * x1)) (
  f249_6 x1 0 (4 * x1) M)
theorem t249 {X : Nat × Nat × qC} {d : Nat} {x1 : Int} {M : Mm}  {R : Int → Prop} (hx1 : R4 x1) (w : Wp (f249 x1 M) R) : mE X (d + 0) 249 1 0 [some (.ref 132), some (.int (Int32.ofInt x1)), none, none] [] M (fun v M2 => M = M2 ∧ R v) := by
  refine mE_iconst c249_0 ?_
  refine mE_istore_n (ls2 := [some (.ref 132), some (.int (Int32.ofInt x1)), some (.int (Int32.ofInt 0)), none]) c249_1 (Nat.le_of_ble_eq_true rfl) rfl ?_
  refine mE_iconst c249_2 ?_
  refine mE_iload_n c249_3 rfl ?_
  obtain ⟨g1, w⟩ := w.ogd
  refine mE_imul c249_4 ?_
  refine mE_istore_n (ls2 := [some (.ref 132), some (.int (Int32.ofInt x1)), some (.int (Int32.ofInt 0)), some (.int (Int32.ofInt (4 * x1)))]) c249_5 (Nat.le_of_ble_eq_true rfl) rfl ?_
  exact t249_6 hx1 (r4_n rfl) g1 w
theorem s249 {X : Nat × Nat × qC} {d : Nat} {x1 : Int} {M : Mm} {R : Int → Prop} (hx1 : R4 x1) (w : Wp (f249 x1 M) R) : mC X (d + 1) 249 1 [.ref 132, .int (Int32.ofInt x1)] M (fun v M2 => M = M2 ∧ R v) :=
  mC_of (qent_mk qx249 rfl rfl rfl) (t249 hx1 w)
/-! SaggingNet.isSoAt -/
noncomputable def f58 (x1 : Int) (M : Mm) : Option (Int) :=
  gd (R4 (Int.tdiv x1 3)) (
  (f215 (Int.tdiv x1 3) M).bind fun v2 =>
  if v2 = 0 then
  (some 0)
  else
  ((f249 x1 M).bind fun v6 =>
  gd (R4 (Int.tmod x1 3)) (
  if (Int.tmod x1 3) = 0 then
  (if v6 = (Int.tdiv x1 3) then
  (some 1)
  else
  (some 0))
  else
  (if (Int.tmod x1 3) = 1 then
  (gd (0 ≤ (Int.tdiv x1 3) ∧ (Int.tdiv x1 3) < 14) (
  if v6 = (M 26 ((Int.tdiv x1 3)).toNat) then
  (some 1)
  else
  (some 0)))
  else
  (gd (0 ≤ (Int.tdiv x1 3) ∧ (Int.tdiv x1 3) < 14) (
  if v6 = (M 27 ((Int.tdiv x1 3)).toNat) then
  (some 1)
  else
  (some 0)))))))
theorem t58 {X : Nat × Nat × qC} {d : Nat} {x1 : Int} {M : Mm}  {R : Int → Prop} (hx1 : R4 x1) (w : Wp (f58 x1 M) R) : mE X (d + 1) 58 1 0 [some (.ref 2), some (.int (Int32.ofInt x1)), none, none] [] M (fun v M2 => M = M2 ∧ R v) := by
  refine mE_iload_n c58_0 rfl ?_
  refine mE_iconst c58_1 ?_
  obtain ⟨g1, w⟩ := w.ogd
  refine mE_idiv c58_2 hx1 (r4_n rfl) (by decide) ?_
  refine mE_istore_n (ls2 := [some (.ref 2), some (.int (Int32.ofInt x1)), some (.int (Int32.ofInt (Int.tdiv x1 3))), none]) c58_3 (Nat.le_of_ble_eq_true rfl) rfl ?_
  refine mE_aload_n c58_4 rfl ?_
  refine mE_getA c58_5 qo58 qF11_10 (ok_lit rfl rfl rfl) rfl ⟨by decide, by decide⟩ ?_
  refine mE_iload_n c58_8 rfl ?_
  refine mE_virtual1 (b := 3) (as := [.int (Int32.ofInt (Int.tdiv x1 3))]) (r := []) c58_9 qo58 qK11_140 qo215 rfl rfl rfl (ok_lit rfl rfl rfl) (Nat.le_of_ble_eq_true rfl) (s215 (d := d + 0) g1 w.obind) ?_
  rintro v2 _ q4 ⟨rfl, w⟩
  by_cases e5 : v2 = 0
  · have w := w.pos e5
    refine mE_if_ne_F (t := 17) c58_12 rfl q4 e5 ?_
    refine mE_iconst c58_15 ?_
    exact mE_zret c58_16 qr58 (Or.inl rfl) ⟨rfl, w.osome⟩
  · have w := w.neg e5
    refine mE_if_ne_T (t := 17) c58_12 rfl q4 e5 ?_
    refine mE_aload_n c58_17 rfl ?_
    refine mE_getA c58_18 qo58 qF11_83 (ok_lit rfl rfl rfl) rfl ⟨by decide, by decide⟩ ?_
    refine mE_iload_n c58_21 rfl ?_
    refine mE_virtual1 (b := 132) (as := [.int (Int32.ofInt x1)]) (r := []) c58_22 qo58 qK11_356 qo249 rfl rfl rfl (ok_lit rfl rfl rfl) (Nat.le_of_ble_eq_true rfl) (s249 (d := d + 0) hx1 w.obind) ?_
    rintro v6 _ q8 ⟨rfl, w⟩
    refine mE_istore_n (ls2 := [some (.ref 2), some (.int (Int32.ofInt x1)), some (.int (Int32.ofInt (Int.tdiv x1 3))), some (.int (Int32.ofInt v6))]) c58_25 (Nat.le_of_ble_eq_true rfl) rfl ?_
    refine mE_iload_n c58_26 rfl ?_
    refine mE_iconst c58_27 ?_
    obtain ⟨g9, w⟩ := w.ogd
    refine mE_irem c58_28 hx1 (r4_n rfl) (by decide) ?_
    by_cases e10 : (Int.tmod x1 3) = 0
    · have w := w.pos e10
      refine mE_lookup (off := 27) (t := 56) c58_29 g9 e10 rfl rfl rfl ?_
      refine mE_iload_n c58_56 rfl ?_
      refine mE_iload_n c58_57 rfl ?_
      by_cases e11 : v6 = (Int.tdiv x1 3)
      · have w := w.pos e11
        refine mE_icmp_ne_F (t := 65) c58_58 rfl q8 g1 e11 ?_
        refine mE_iconst c58_61 ?_
        refine mE_goto (t := 66) c58_62 rfl ?_
        exact mE_zret c58_66 qr58 (Or.inr rfl) ⟨rfl, w.osome⟩
      · have w := w.neg e11
        refine mE_icmp_ne_T (t := 65) c58_58 rfl q8 g1 e11 ?_
        refine mE_iconst c58_65 ?_
        exact mE_zret c58_66 qr58 (Or.inl rfl) ⟨rfl, w.osome⟩
    have w := w.neg e10
    by_cases e11 : (Int.tmod x1 3) = 1
    · have w := w.pos e11
      refine mE_lookup (off := 38) (t := 67) c58_29 g9 e11 rfl rfl rfl ?_
      refine mE_iload_n c58_67 rfl ?_
      refine mE_aload_n c58_68 rfl ?_
      refine mE_getA c58_69 qo58 qF11_19 (ok_lit rfl rfl rfl) rfl ⟨by decide, by decide⟩ ?_
      refine mE_getA c58_72 qo58 qF11_149 (ok_lit rfl rfl rfl) rfl ⟨by decide, by decide⟩ ?_
      refine mE_iload_n c58_75 rfl ?_
      obtain ⟨g12, w⟩ := w.ogd
      refine mE_iaload c58_76 (ok_lit rfl rfl rfl) g1 g12 ?_
      intro u13
      by_cases e14 : v6 = (M 26 ((Int.tdiv x1 3)).toNat)
      · have w := w.pos e14
        refine mE_icmp_ne_F (t := 84) c58_77 rfl q8 u13 e14 ?_
        refine mE_iconst c58_80 ?_
        refine mE_goto (t := 85) c58_81 rfl ?_
        exact mE_zret c58_85 qr58 (Or.inr rfl) ⟨rfl, w.osome⟩
      · have w := w.neg e14
        refine mE_icmp_ne_T (t := 84) c58_77 rfl q8 u13 e14 ?_
        refine mE_iconst c58_84 ?_
        exact mE_zret c58_85 qr58 (Or.inl rfl) ⟨rfl, w.osome⟩
    have w := w.neg e11
    refine mE_lookupD (t := 86) c58_29 g9 rfl (lkD e10 (lkD e11 rfl)) rfl ?_
    refine mE_iload_n c58_86 rfl ?_
    refine mE_aload_n c58_87 rfl ?_
    refine mE_getA c58_88 qo58 qF11_19 (ok_lit rfl rfl rfl) rfl ⟨by decide, by decide⟩ ?_
    refine mE_getA c58_91 qo58 qF11_225 (ok_lit rfl rfl rfl) rfl ⟨by decide, by decide⟩ ?_
    refine mE_iload_n c58_94 rfl ?_
    obtain ⟨g12, w⟩ := w.ogd
    refine mE_iaload c58_95 (ok_lit rfl rfl rfl) g1 g12 ?_
    intro u13
    by_cases e14 : v6 = (M 27 ((Int.tdiv x1 3)).toNat)
    · have w := w.pos e14
      refine mE_icmp_ne_F (t := 103) c58_96 rfl q8 u13 e14 ?_
      refine mE_iconst c58_99 ?_
      refine mE_goto (t := 104) c58_100 rfl ?_
      exact mE_zret c58_104 qr58 (Or.inr rfl) ⟨rfl, w.osome⟩
    · have w := w.neg e14
      refine mE_icmp_ne_T (t := 103) c58_96 rfl q8 u13 e14 ?_
      refine mE_iconst c58_103 ?_
      exact mE_zret c58_104 qr58 (Or.inl rfl) ⟨rfl, w.osome⟩
theorem s58 {X : Nat × Nat × qC} {d : Nat} {x1 : Int} {M : Mm} {R : Int → Prop} (hx1 : R4 x1) (w : Wp (f58 x1 M) R) : mC X (d + 2) 58 1 [.ref 2, .int (Int32.ofInt x1)] M (fun v M2 => M = M2 ∧ R v) :=
  mC_of (qent_mk qx58 rfl rfl rfl) (t58 hx1 w)
/-! SaggingNet.check -/
def E35_38 (X : Nat × Nat × qC) (d : Nat) (x1 : Int) (M : Mm) (R : Int × Mm → Prop) : Int → Prop := fun s => R4 s → mE X (d + 2) 35 1 38 [some (.ref 2), some (.int (Int32.ofInt x1)), some (.int (Int32.ofInt s))] [] M (fun v M2 => R (v, M2))
noncomputable def lb35_38 (x1 : Int) (x2 : Int) (M : Mm) : Option ((Int) ⊕ (Int × Mm)) :=
  gd (R4 (3 * x1)) (
  if x2 < (3 * x1) then
  ((f58 x2 M).bind fun v3 =>
  if v3 = 0 then
  (oinr (some (x2, M)))
  else
  (gd (R4 (x2 + 1)) (
  some (.inl ((x2 + 1))))))
  else
  (oinr (if x1 < (M 3 1) then
  (some ((3 * x1), M))
  else
  (some ((-1), M)))))
noncomputable def f35_38 (x1 : Int) (x2 : Int) (M : Mm) : Option (Int × Mm) := lp (fun s : Int => lb35_38 x1 s M) x2
theorem tb35_38 {X : Nat × Nat × qC} {d : Nat} {x1 : Int} {x2 : Int} {M : Mm}  {R : Int × Mm → Prop} (hx1 : R4 x1) (hx2 : R4 x2) (w : Wp (lb35_38 x1 x2 M) (Sum.elim (E35_38 X d x1 M R) R)) : mE X (d + 2) 35 1 38 [some (.ref 2), some (.int (Int32.ofInt x1)), some (.int (Int32.ofInt x2))] [] M (fun v M2 => R (v, M2)) := by
  refine mE_iload_n c35_38 rfl ?_
  refine mE_iconst c35_39 ?_
  refine mE_iload_n c35_40 rfl ?_
  obtain ⟨g1, w⟩ := w.ogd
  refine mE_imul c35_41 ?_
  by_cases e2 : x2 < (3 * x1)
  · have w := w.pos e2
    refine mE_icmp_ge_F (t := 61) c35_42 rfl hx2 g1 e2 ?_
    refine mE_aload_n c35_45 rfl ?_
    refine mE_iload_n c35_46 rfl ?_
    refine mE_virtual1 (b := 2) (as := [.int (Int32.ofInt x2)]) (r := []) c35_47 qo35 qK11_343 qo58 rfl rfl rfl (ok_lit rfl rfl rfl) (Nat.le_of_ble_eq_true rfl) (s58 (d := d + 0) hx2 w.obind) ?_
    rintro v3 _ q5 ⟨rfl, w⟩
    by_cases e6 : v3 = 0
    · have w := w.pos e6
      refine mE_if_ne_F (t := 55) c35_50 rfl q5 e6 ?_
      have w := w.oinr
      refine mE_iload_n c35_53 rfl ?_
      exact mE_iret c35_54 qr35 hx2 w.osome
    · have w := w.neg e6
      refine mE_if_ne_T (t := 55) c35_50 rfl q5 e6 ?_
      obtain ⟨g7, w⟩ := w.ogd
      refine mE_iinc (ls2 := [some (.ref 2), some (.int (Int32.ofInt x1)), some (.int (Int32.ofInt (x2 + 1)))]) c35_55 rfl (Nat.le_of_ble_eq_true rfl) rfl ?_
      refine mE_goto (t := 38) c35_58 rfl ?_
      exact w.osome g7
  · have w := w.neg e2
    refine mE_icmp_ge_T (t := 61) c35_42 rfl hx2 g1 e2 ?_
    have w := w.oinr
    refine mE_iload_n c35_61 rfl ?_
    refine mE_aload_n c35_62 rfl ?_
    refine mE_getA c35_63 qo35 qF11_10 (ok_lit rfl rfl rfl) rfl ⟨by decide, by decide⟩ ?_
    refine mE_getI c35_66 qo35 qF11_119 (ok_lit rfl rfl rfl) rfl ?_
    intro u3
    by_cases e4 : x1 < (M 3 1)
    · have w := w.pos e4
      refine mE_icmp_ge_F (t := 78) c35_69 rfl hx1 u3 e4 ?_
      refine mE_iconst c35_72 ?_
      refine mE_iload_n c35_73 rfl ?_
      refine mE_imul c35_74 ?_
      refine mE_goto (t := 79) c35_75 rfl ?_
      exact mE_iret c35_79 qr35 g1 w.osome
    · have w := w.neg e4
      refine mE_icmp_ge_T (t := 78) c35_69 rfl hx1 u3 e4 ?_
      refine mE_iconst c35_78 ?_
      exact mE_iret c35_79 qr35 (r4_n rfl) w.osome
theorem t35_38 {X : Nat × Nat × qC} {d : Nat} {x1 : Int} {x2 : Int} {M : Mm}  {R : Int × Mm → Prop} (hx1 : R4 x1) (hx2 : R4 x2) (w : Wp (f35_38 x1 x2 M) R) : mE X (d + 2) 35 1 38 [some (.ref 2), some (.int (Int32.ofInt x1)), some (.int (Int32.ofInt x2))] [] M (fun v M2 => R (v, M2)) :=
  Wp.olp (f := fun s : Int => lb35_38 x1 s M) (s := x2) (E := E35_38 X d x1 M R) w (fun s w hx2 => tb35_38 hx1 hx2 w) hx2
noncomputable def f35 (x1 : Int) (M : Mm) : Option (Int × Mm) :=
  (f80 x1 0 200 M).bind fun v1 =>
  if v1 = 0 then
  (some ((-2), M))
  else
  (gd (R4 (x1 * 12)) (
  if (M 132 0) < (x1 * 12) then
  (some ((-2), M))
  else
  (mlet (ms M 132 0 0) fun M8 =>
  f35_38 x1 0 M8)))
theorem t35 {X : Nat × Nat × qC} {d : Nat} {x1 : Int} {M : Mm}  {R : Int × Mm → Prop} (hx1 : R4 x1) (w : Wp (f35 x1 M) R) : mE X (d + 2) 35 1 0 [some (.ref 2), some (.int (Int32.ofInt x1)), none] [] M (fun v M2 => R (v, M2)) := by
  refine mE_iload_n c35_0 rfl ?_
  refine mE_iconst c35_1 ?_
  refine mE_sipush (x := 200) c35_2 rfl ?_
  refine mE_static1 (as := [.int (Int32.ofInt x1), .int (Int32.ofInt 0), .int (Int32.ofInt 200)]) (r := []) c35_5 qo35 (by decide) qK11_108 rfl rfl rfl (Nat.le_of_ble_eq_true rfl) (s80 (d := d + 1) hx1 (r4_n rfl) (r4_n rfl) w.obind) ?_
  rintro v1 _ q3 ⟨rfl, w⟩
  by_cases e4 : v1 = 0
  · have w := w.pos e4
    refine mE_if_eq_T (t := 25) c35_8 rfl q3 e4 ?_
    refine mE_bipush (x := (-2)) c35_25 rfl ?_
    exact mE_iret c35_27 qr35 (r4_n rfl) w.osome
  · have w := w.neg e4
    refine mE_if_eq_F (t := 25) c35_8 rfl q3 e4 ?_
    refine mE_iload_n c35_11 rfl ?_
    refine mE_bipush (x := 12) c35_12 rfl ?_
    obtain ⟨g5, w⟩ := w.ogd
    refine mE_imul c35_14 ?_
    refine mE_aload_n c35_15 rfl ?_
    refine mE_getA c35_16 qo35 qF11_83 (ok_lit rfl rfl rfl) rfl ⟨by decide, by decide⟩ ?_
    refine mE_getI c35_19 qo35 qF11_172 (ok_lit rfl rfl rfl) rfl ?_
    intro u6
    by_cases e7 : (M 132 0) < (x1 * 12)
    · have w := w.pos e7
      refine mE_icmp_le_F (t := 28) c35_22 rfl g5 u6 e7 ?_
      refine mE_bipush (x := (-2)) c35_25 rfl ?_
      exact mE_iret c35_27 qr35 (r4_n rfl) w.osome
    · have w := w.neg e7
      refine mE_icmp_le_T (t := 28) c35_22 rfl g5 u6 e7 ?_
      refine mE_aload_n c35_28 rfl ?_
      refine mE_getA c35_29 qo35 qF11_83 (ok_lit rfl rfl rfl) rfl ⟨by decide, by decide⟩ ?_
      refine mE_iconst c35_32 ?_
      obtain ⟨M8, m9, w⟩ := w.mlet
      refine mE_putI c35_33 qo35 qF11_172 qz9_0 (ok_lit rfl rfl rfl) (Nat.le_of_ble_eq_true rfl) rfl (r4_n rfl) (by rw [qy9_0]; rfl) ?_
      refine mE_M m9 ?_
      refine mE_iconst c35_36 ?_
      refine mE_istore_n (ls2 := [some (.ref 2), some (.int (Int32.ofInt x1)), some (.int (Int32.ofInt 0))]) c35_37 (Nat.le_of_ble_eq_true rfl) rfl ?_
      exact t35_38 hx1 (r4_n rfl) w
theorem s35 {X : Nat × Nat × qC} {d : Nat} {x1 : Int} {M : Mm} {R : Int × Mm → Prop} (hx1 : R4 x1) (w : Wp (f35 x1 M) R) : mC X (d + 3) 35 1 [.ref 2, .int (Int32.ofInt x1)] M (fun v M2 => R (v, M2)) :=
  mC_of (qent_mk qx35 rfl rfl rfl) (t35 hx1 w)
/-! SaggingNet.isLand -/
noncomputable def f56 (x0 : Int) (M : Mm) : Option (Int) :=
  (f80 x0 0 3 M).bind fun v1 =>
  gd (v1 = 0 ∨ v1 = 1) (
  some v1)
theorem t56 {X : Nat × Nat × qC} {d : Nat} {x0 : Int} {M : Mm}  {R : Int → Prop} (hx0 : R4 x0) (w : Wp (f56 x0 M) R) : mE X (d + 1) 56 1 0 [some (.int (Int32.ofInt x0))] [] M (fun v M2 => M = M2 ∧ R v) := by
  refine mE_iload_n c56_0 rfl ?_
  refine mE_iconst c56_1 ?_
  refine mE_iconst c56_2 ?_
  refine mE_static1 (as := [.int (Int32.ofInt x0), .int (Int32.ofInt 0), .int (Int32.ofInt 3)]) (r := []) c56_3 qo56 (by decide) qK11_108 rfl rfl rfl (Nat.le_of_ble_eq_true rfl) (s80 (d := d + 0) hx0 (r4_n rfl) (r4_n rfl) w.obind) ?_
  rintro v1 _ q3 ⟨rfl, w⟩
  obtain ⟨g4, w⟩ := w.ogd
  exact mE_zret c56_6 qr56 g4 ⟨rfl, w.osome⟩
theorem s56 {X : Nat × Nat × qC} {d : Nat} {x0 : Int} {M : Mm} {R : Int → Prop} (hx0 : R4 x0) (w : Wp (f56 x0 M) R) : mC X (d + 2) 56 1 [.int (Int32.ofInt x0)] M (fun v M2 => M = M2 ∧ R v) :=
  mC_of (qent_mk qx56 rfl rfl rfl) (t56 hx0 w)
/-! SaggingNet.clock -/
noncomputable def f36 (x1 : Int) (x2 : Int) (x3 : Int) (M : Mm) : Option (Int × Mm) :=
  (f56 x1 M).bind fun v1 =>
  if v1 = 0 then
  (some (0, M))
  else
  (if x3 < x2 then
  (some (0, M))
  else
  ((f80 x2 (-100) 100 M).bind fun v6 =>
  if v6 = 0 then
  (some (0, M))
  else
  ((f80 x3 (-100) 100 M).bind fun v10 =>
  if v10 = 0 then
  (some (0, M))
  else
  (gd (0 ≤ x1 ∧ x1 < 4) (
  mlet (ms M 113 (x1).toNat x2) fun M15 =>
  mlet (ms M15 114 (x1).toNat x3) fun M17 =>
  some (1, M17))))))
theorem t36 {X : Nat × Nat × qC} {d : Nat} {x1 : Int} {x2 : Int} {x3 : Int} {M : Mm}  {R : Int × Mm → Prop} (hx1 : R4 x1) (hx2 : R4 x2) (hx3 : R4 x3) (w : Wp (f36 x1 x2 x3 M) R) : mE X (d + 2) 36 1 0 [some (.ref 2), some (.int (Int32.ofInt x1)), some (.int (Int32.ofInt x2)), some (.int (Int32.ofInt x3))] [] M (fun v M2 => R (v, M2)) := by
  refine mE_iload_n c36_0 rfl ?_
  refine mE_static1 (as := [.int (Int32.ofInt x1)]) (r := []) c36_1 qo36 (by decide) qK11_104 rfl rfl rfl (Nat.le_of_ble_eq_true rfl) (s56 (d := d + 0) hx1 w.obind) ?_
  rintro v1 _ q3 ⟨rfl, w⟩
  by_cases e4 : v1 = 0
  · have w := w.pos e4
    refine mE_if_eq_T (t := 34) c36_4 rfl q3 e4 ?_
    refine mE_iconst c36_34 ?_
    exact mE_zret c36_35 qr36 (Or.inl rfl) w.osome
  · have w := w.neg e4
    refine mE_if_eq_F (t := 34) c36_4 rfl q3 e4 ?_
    refine mE_iload_n c36_7 rfl ?_
    refine mE_iload_n c36_8 rfl ?_
    by_cases e5 : x3 < x2
    · have w := w.pos e5
      refine mE_icmp_gt_T (t := 34) c36_9 rfl hx2 hx3 e5 ?_
      refine mE_iconst c36_34 ?_
      exact mE_zret c36_35 qr36 (Or.inl rfl) w.osome
    · have w := w.neg e5
      refine mE_icmp_gt_F (t := 34) c36_9 rfl hx2 hx3 e5 ?_
      refine mE_iload_n c36_12 rfl ?_
      refine mE_bipush (x := (-100)) c36_13 rfl ?_
      refine mE_bipush (x := 100) c36_15 rfl ?_
      refine mE_static1 (as := [.int (Int32.ofInt x2), .int (Int32.ofInt (-100)), .int (Int32.ofInt 100)]) (r := []) c36_17 qo36 (by decide) qK11_108 rfl rfl rfl (Nat.le_of_ble_eq_true rfl) (s80 (d := d + 1) hx2 (r4_n rfl) (r4_n rfl) w.obind) ?_
      rintro v6 _ q8 ⟨rfl, w⟩
      by_cases e9 : v6 = 0
      · have w := w.pos e9
        refine mE_if_eq_T (t := 34) c36_20 rfl q8 e9 ?_
        refine mE_iconst c36_34 ?_
        exact mE_zret c36_35 qr36 (Or.inl rfl) w.osome
      · have w := w.neg e9
        refine mE_if_eq_F (t := 34) c36_20 rfl q8 e9 ?_
        refine mE_iload_n c36_23 rfl ?_
        refine mE_bipush (x := (-100)) c36_24 rfl ?_
        refine mE_bipush (x := 100) c36_26 rfl ?_
        refine mE_static1 (as := [.int (Int32.ofInt x3), .int (Int32.ofInt (-100)), .int (Int32.ofInt 100)]) (r := []) c36_28 qo36 (by decide) qK11_108 rfl rfl rfl (Nat.le_of_ble_eq_true rfl) (s80 (d := d + 1) hx3 (r4_n rfl) (r4_n rfl) w.obind) ?_
        rintro v10 _ q12 ⟨rfl, w⟩
        by_cases e13 : v10 = 0
        · have w := w.pos e13
          refine mE_if_ne_F (t := 36) c36_31 rfl q12 e13 ?_
          refine mE_iconst c36_34 ?_
          exact mE_zret c36_35 qr36 (Or.inl rfl) w.osome
        · have w := w.neg e13
          refine mE_if_ne_T (t := 36) c36_31 rfl q12 e13 ?_
          refine mE_aload_n c36_36 rfl ?_
          refine mE_getA c36_37 qo36 qF11_69 (ok_lit rfl rfl rfl) rfl ⟨by decide, by decide⟩ ?_
          refine mE_getA c36_40 qo36 qF11_297 (ok_lit rfl rfl rfl) rfl ⟨by decide, by decide⟩ ?_
          refine mE_iload_n c36_43 rfl ?_
          refine mE_iload_n c36_44 rfl ?_
          obtain ⟨g14, w⟩ := w.ogd
          obtain ⟨M15, m16, w⟩ := w.mlet
          refine mE_iastore c36_45 (ok_lit rfl rfl rfl) hx1 g14 hx2 ?_
          refine mE_M m16 ?_
          refine mE_aload_n c36_46 rfl ?_
          refine mE_getA c36_47 qo36 qF11_69 (ok_lit rfl rfl rfl) rfl ⟨by decide, by decide⟩ ?_
          refine mE_getA c36_50 qo36 qF11_300 (ok_lit rfl rfl rfl) rfl ⟨by decide, by decide⟩ ?_
          refine mE_iload_n c36_53 rfl ?_
          refine mE_iload_n c36_54 rfl ?_
          obtain ⟨M17, m18, w⟩ := w.mlet
          refine mE_iastore c36_55 (ok_lit rfl rfl rfl) hx1 g14 hx3 ?_
          refine mE_M m18 ?_
          refine mE_iconst c36_56 ?_
          exact mE_zret c36_57 qr36 (Or.inr rfl) w.osome
theorem s36 {X : Nat × Nat × qC} {d : Nat} {x1 : Int} {x2 : Int} {x3 : Int} {M : Mm} {R : Int × Mm → Prop} (hx1 : R4 x1) (hx2 : R4 x2) (hx3 : R4 x3) (w : Wp (f36 x1 x2 x3 M) R) : mC X (d + 3) 36 1 [.ref 2, .int (Int32.ofInt x1), .int (Int32.ofInt x2), .int (Int32.ofInt x3)] M (fun v M2 => R (v, M2)) :=
  mC_of (qent_mk qx36 rfl rfl rfl) (t36 hx1 hx2 hx3 w)
/-! SaggingNet$Play.hasCome -/
def E222_71 (X : Nat × Nat × qC) (d : Nat) (x2 : Int) (M : Mm) (R : Int → Prop) : Int → Prop := fun s => R4 s → ∀ (y1 : Int32), mE X (d + 0) 222 1 71 [some (.ref 73), some (.int y1), some (.int (Int32.ofInt x2)), some (.int (Int32.ofInt s))] [] M (fun v M2 => M = M2 ∧ R v)
noncomputable def lb222_71 (x2 : Int) (x3 : Int) (M : Mm) : Option ((Int) ⊕ (Int)) :=
  if x3 < (M 79 1) then
  (gd (0 ≤ x3 ∧ x3 < 8) (
  if (M 80 (x3).toNat) = x2 then
  (oinr (some 1))
  else
  (gd (R4 (x3 + 1)) (
  some (.inl ((x3 + 1)))))))
  else
  (oinr (some 0))
noncomputable def f222_71 (x2 : Int) (x3 : Int) (M : Mm) : Option (Int) := lp (fun s : Int => lb222_71 x2 s M) x3
theorem tb222_71 {X : Nat × Nat × qC} {d : Nat} {x2 : Int} {x3 : Int} {M : Mm} {y1 : Int32} {R : Int → Prop} (hx2 : R4 x2) (hx3 : R4 x3) (w : Wp (lb222_71 x2 x3 M) (Sum.elim (E222_71 X d x2 M R) R)) : mE X (d + 0) 222 1 71 [some (.ref 73), some (.int y1), some (.int (Int32.ofInt x2)), some (.int (Int32.ofInt x3))] [] M (fun v M2 => M = M2 ∧ R v) := by
  refine mE_iload_n c222_71 rfl ?_
  refine mE_aload_n c222_72 rfl ?_
  refine mE_getA c222_73 qo222 qF5_21 (ok_lit rfl rfl rfl) rfl ⟨by decide, by decide⟩ ?_
  refine mE_getI c222_76 qo222 qF5_85 (ok_lit rfl rfl rfl) rfl ?_
  intro u1
  by_cases e2 : x3 < (M 79 1)
  · have w := w.pos e2
    refine mE_icmp_ge_F (t := 103) c222_79 rfl hx3 u1 e2 ?_
    refine mE_aload_n c222_82 rfl ?_
    refine mE_getA c222_83 qo222 qF5_21 (ok_lit rfl rfl rfl) rfl ⟨by decide, by decide⟩ ?_
    refine mE_getA c222_86 qo222 qF5_91 (ok_lit rfl rfl rfl) rfl ⟨by decide, by decide⟩ ?_
    refine mE_iload_n c222_89 rfl ?_
    obtain ⟨g3, w⟩ := w.ogd
    refine mE_iaload c222_90 (ok_lit rfl rfl rfl) hx3 g3 ?_
    intro u4
    refine mE_iload_n c222_91 rfl ?_
    by_cases e5 : (M 80 (x3).toNat) = x2
    · have w := w.pos e5
      refine mE_icmp_ne_F (t := 97) c222_92 rfl u4 hx2 e5 ?_
      have w := w.oinr
      refine mE_iconst c222_95 ?_
      exact mE_zret c222_96 qr222 (Or.inr rfl) ⟨rfl, w.osome⟩
    · have w := w.neg e5
      refine mE_icmp_ne_T (t := 97) c222_92 rfl u4 hx2 e5 ?_
      obtain ⟨g6, w⟩ := w.ogd
      refine mE_iinc (ls2 := [some (.ref 73), some (.int y1), some (.int (Int32.ofInt x2)), some (.int (Int32.ofInt (x3 + 1)))]) c222_97 rfl (Nat.le_of_ble_eq_true rfl) rfl ?_
      refine mE_goto (t := 71) c222_100 rfl ?_
      exact w.osome g6 _
  · have w := w.neg e2
    refine mE_icmp_ge_T (t := 103) c222_79 rfl hx3 u1 e2 ?_
    have w := w.oinr
    refine mE_iconst c222_103 ?_
    exact mE_zret c222_104 qr222 (Or.inl rfl) ⟨rfl, w.osome⟩
theorem t222_71 {X : Nat × Nat × qC} {d : Nat} {x2 : Int} {x3 : Int} {M : Mm} {y1 : Int32} {R : Int → Prop} (hx2 : R4 x2) (hx3 : R4 x3) (w : Wp (f222_71 x2 x3 M) R) : mE X (d + 0) 222 1 71 [some (.ref 73), some (.int y1), some (.int (Int32.ofInt x2)), some (.int (Int32.ofInt x3))] [] M (fun v M2 => M = M2 ∧ R v) :=
  Wp.olp (f := fun s : Int => lb222_71 x2 s M) (s := x3) (E := E222_71 X d x2 M R) w (fun s w hx3 _ => tb222_71 hx2 hx3 w) hx3 _
noncomputable def f222 (x1 : Int) (x2 : Int) (M : Mm) : Option (Int) :=
  if x1 = 1 then
  (if (bAnd (bShr (M 73 3) x2) 1) = 1 then
  (some 1)
  else
  (some 0))
  else
  (if x1 = 2 then
  (if (bAnd (bShr (M 73 4) x2) 1) = 1 then
  (some 1)
  else
  (some 0))
  else
  (if x1 = 3 then
  (if (bAnd (bShr (M 73 5) x2) 1) = 1 then
  (some 1)
  else
  (some 0))
  else
  (f222_71 x2 0 M)))
theorem t222 {X : Nat × Nat × qC} {d : Nat} {x1 : Int} {x2 : Int} {M : Mm}  {R : Int → Prop} (hx1 : R4 x1) (hx2 : R4 x2) (w : Wp (f222 x1 x2 M) R) : mE X (d + 0) 222 1 0 [some (.ref 73), some (.int (Int32.ofInt x1)), some (.int (Int32.ofInt x2)), none] [] M (fun v M2 => M = M2 ∧ R v) := by
  refine mE_iload_n c222_0 rfl ?_
  refine mE_iconst c222_1 ?_
  by_cases e1 : x1 = 1
  · have w := w.pos e1
    refine mE_icmp_ne_F (t := 23) c222_2 rfl hx1 (r4_n rfl) e1 ?_
    refine mE_aload_n c222_5 rfl ?_
    refine mE_getI c222_6 qo222 qF5_48 (ok_lit rfl rfl rfl) rfl ?_
    intro u2
    refine mE_iload_n c222_9 rfl ?_
    refine mE_ishr c222_10 ?_
    refine mE_iconst c222_11 ?_
    refine mE_iand c222_12 ?_
    refine mE_iconst c222_13 ?_
    by_cases e3 : (bAnd (bShr (M 73 3) x2) 1) = 1
    · have w := w.pos e3
      refine mE_icmp_ne_F (t := 21) c222_14 rfl (r4_and _ _) (r4_n rfl) e3 ?_
      refine mE_iconst c222_17 ?_
      refine mE_goto (t := 22) c222_18 rfl ?_
      exact mE_zret c222_22 qr222 (Or.inr rfl) ⟨rfl, w.osome⟩
    · have w := w.neg e3
      refine mE_icmp_ne_T (t := 21) c222_14 rfl (r4_and _ _) (r4_n rfl) e3 ?_
      refine mE_iconst c222_21 ?_
      exact mE_zret c222_22 qr222 (Or.inl rfl) ⟨rfl, w.osome⟩
  · have w := w.neg e1
    refine mE_icmp_ne_T (t := 23) c222_2 rfl hx1 (r4_n rfl) e1 ?_
    refine mE_iload_n c222_23 rfl ?_
    refine mE_iconst c222_24 ?_
    by_cases e2 : x1 = 2
    · have w := w.pos e2
      refine mE_icmp_ne_F (t := 46) c222_25 rfl hx1 (r4_n rfl) e2 ?_
      refine mE_aload_n c222_28 rfl ?_
      refine mE_getI c222_29 qo222 qF5_51 (ok_lit rfl rfl rfl) rfl ?_
      intro u3
      refine mE_iload_n c222_32 rfl ?_
      refine mE_ishr c222_33 ?_
      refine mE_iconst c222_34 ?_
      refine mE_iand c222_35 ?_
      refine mE_iconst c222_36 ?_
      by_cases e4 : (bAnd (bShr (M 73 4) x2) 1) = 1
      · have w := w.pos e4
        refine mE_icmp_ne_F (t := 44) c222_37 rfl (r4_and _ _) (r4_n rfl) e4 ?_
        refine mE_iconst c222_40 ?_
        refine mE_goto (t := 45) c222_41 rfl ?_
        exact mE_zret c222_45 qr222 (Or.inr rfl) ⟨rfl, w.osome⟩
      · have w := w.neg e4
        refine mE_icmp_ne_T (t := 44) c222_37 rfl (r4_and _ _) (r4_n rfl) e4 ?_
        refine mE_iconst c222_44 ?_
        exact mE_zret c222_45 qr222 (Or.inl rfl) ⟨rfl, w.osome⟩
    · have w := w.neg e2
      refine mE_icmp_ne_T (t := 46) c222_25 rfl hx1 (r4_n rfl) e2 ?_
      refine mE_iload_n c222_46 rfl ?_
      refine mE_iconst c222_47 ?_
      by_cases e3 : x1 = 3
      · have w := w.pos e3
        refine mE_icmp_ne_F (t := 69) c222_48 rfl hx1 (r4_n rfl) e3 ?_
        refine mE_aload_n c222_51 rfl ?_
        refine mE_getI c222_52 qo222 qF5_54 (ok_lit rfl rfl rfl) rfl ?_
        intro u4
        refine mE_iload_n c222_55 rfl ?_
        refine mE_ishr c222_56 ?_
        refine mE_iconst c222_57 ?_
        refine mE_iand c222_58 ?_
        refine mE_iconst c222_59 ?_
        by_cases e5 : (bAnd (bShr (M 73 5) x2) 1) = 1
        · have w := w.pos e5
          refine mE_icmp_ne_F (t := 67) c222_60 rfl (r4_and _ _) (r4_n rfl) e5 ?_
          refine mE_iconst c222_63 ?_
          refine mE_goto (t := 68) c222_64 rfl ?_
          exact mE_zret c222_68 qr222 (Or.inr rfl) ⟨rfl, w.osome⟩
        · have w := w.neg e5
          refine mE_icmp_ne_T (t := 67) c222_60 rfl (r4_and _ _) (r4_n rfl) e5 ?_
          refine mE_iconst c222_67 ?_
          exact mE_zret c222_68 qr222 (Or.inl rfl) ⟨rfl, w.osome⟩
      · have w := w.neg e3
        refine mE_icmp_ne_T (t := 69) c222_48 rfl hx1 (r4_n rfl) e3 ?_
        refine mE_iconst c222_69 ?_
        refine mE_istore_n (ls2 := [some (.ref 73), some (.int (Int32.ofInt x1)), some (.int (Int32.ofInt x2)), some (.int (Int32.ofInt 0))]) c222_70 (Nat.le_of_ble_eq_true rfl) rfl ?_
        exact t222_71 hx2 (r4_n rfl) w
theorem s222 {X : Nat × Nat × qC} {d : Nat} {x1 : Int} {x2 : Int} {M : Mm} {R : Int → Prop} (hx1 : R4 x1) (hx2 : R4 x2) (w : Wp (f222 x1 x2 M) R) : mC X (d + 1) 222 1 [.ref 73, .int (Int32.ofInt x1), .int (Int32.ofInt x2)] M (fun v M2 => M = M2 ∧ R v) :=
  mC_of (qent_mk qx222 rfl rfl rfl) (t222 hx1 hx2 w)
/-! SaggingNet.comesWithout -/
noncomputable def f37_71 (x2 : Int) (M : Mm) : Option (Int × Mm) :=
  (f225 M).bind fun M2 =>
  gd (0 ≤ x2 ∧ x2 < 400) (
  (f222 (M2 99 (x2).toNat) (M2 100 (x2).toNat) M2).bind fun v7 =>
  gd (v7 = 0 ∨ v7 = 1) (
  some (v7, M2)))
theorem t37_71 {X : Nat × Nat × qC} {d : Nat} {x2 : Int} {M : Mm} {y1 : Int32} {y3 : Nat} {R : Int × Mm → Prop} (hx2 : R4 x2) (w : Wp (f37_71 x2 M) R) : mE X (d + 5) 37 1 71 [some (.ref 2), some (.int y1), some (.int (Int32.ofInt x2)), some (.ref y3)] [] M (fun v M2 => R (v, M2)) := by
  refine mE_aload_n c37_71 rfl ?_
  refine mE_getA c37_72 qo37 qF11_48 (ok_lit rfl rfl rfl) rfl ⟨by decide, by decide⟩ ?_
  refine mE_aload_n c37_75 rfl ?_
  refine mE_getA c37_76 qo37 qF11_10 (ok_lit rfl rfl rfl) rfl ⟨by decide, by decide⟩ ?_
  refine mE_virtual0 (b := 73) (as := [.ref 3]) (r := []) c37_79 qo37 qK11_196 qo225 rfl rfl rfl (ok_lit rfl rfl rfl) (Nat.le_of_ble_eq_true rfl) (s225 (d := d + 0) w.obind) ?_
  intro _ M2 w
  refine mE_aload_n c37_82 rfl ?_
  refine mE_getA c37_83 qo37 qF11_48 (ok_lit rfl rfl rfl) rfl ⟨by decide, by decide⟩ ?_
  refine mE_aload_n c37_86 rfl ?_
  refine mE_getA c37_87 qo37 qF11_55 (ok_lit rfl rfl rfl) rfl ⟨by decide, by decide⟩ ?_
  refine mE_getA c37_90 qo37 qF11_245 (ok_lit rfl rfl rfl) rfl ⟨by decide, by decide⟩ ?_
  refine mE_iload_n c37_93 rfl ?_
  obtain ⟨g4, w⟩ := w.ogd
  refine mE_iaload c37_94 (ok_lit rfl rfl rfl) hx2 g4 ?_
  intro u5
  refine mE_aload_n c37_95 rfl ?_
  refine mE_getA c37_96 qo37 qF11_55 (ok_lit rfl rfl rfl) rfl ⟨by decide, by decide⟩ ?_
  refine mE_getA c37_99 qo37 qF11_248 (ok_lit rfl rfl rfl) rfl ⟨by decide, by decide⟩ ?_
  refine mE_iload_n c37_102 rfl ?_
  refine mE_iaload c37_103 (ok_lit rfl rfl rfl) hx2 g4 ?_
  intro u6
  refine mE_virtual1 (b := 73) (as := [.int (Int32.ofInt (M2 99 (x2).toNat)), .int (Int32.ofInt (M2 100 (x2).toNat))]) (r := []) c37_104 qo37 qK11_363 qo222 rfl rfl rfl (ok_lit rfl rfl rfl) (Nat.le_of_ble_eq_true rfl) (s222 (d := d + 4) u5 u6 w.obind) ?_
  rintro v7 _ q9 ⟨rfl, w⟩
  obtain ⟨g10, w⟩ := w.ogd
  exact mE_zret c37_107 qr37 g10 w.osome
noncomputable def f37 (x1 : Int) (x2 : Int) (r3 : Nat) (M : Mm) : Option (Int × Mm) :=
  (f219 r3 M).bind fun M2 =>
  gd (0 ≤ x1 ∧ x1 < 400) (
  if (M2 99 (x1).toNat) = 3 then
  (mlet (ms M2 74 2 (bOr (M2 74 2) (bShl 1 (M2 100 (x1).toNat)))) fun M9 =>
  f37_71 x2 M9)
  else
  (gd (0 ≤ (M2 100 (x1).toNat) ∧ (M2 100 (x1).toNat) < 14) (
  mlet (ms M2 76 ((M2 100 (x1).toNat)).toNat 0) fun M9 =>
  f37_71 x2 M9)))
theorem t37 {X : Nat × Nat × qC} {d : Nat} {x1 : Int} {x2 : Int} {r3 : Nat} {M : Mm}  {R : Int × Mm → Prop} (hx1 : R4 x1) (hx2 : R4 x2) (hr3 : isSt X.1 r3) (w : Wp (f37 x1 x2 r3 M) R) : mE X (d + 5) 37 1 0 [some (.ref 2), some (.int (Int32.ofInt x1)), some (.int (Int32.ofInt x2)), some (.ref r3)] [] M (fun v M2 => R (v, M2)) := by
  refine mE_aload_n c37_0 rfl ?_
  refine mE_getA c37_1 qo37 qF11_48 (ok_lit rfl rfl rfl) rfl ⟨by decide, by decide⟩ ?_
  refine mE_aload_n c37_4 rfl ?_
  refine mE_virtual0 (b := 73) (as := [.ref r3]) (r := []) c37_5 qo37 qK11_193 qo219 rfl rfl rfl (ok_lit rfl rfl rfl) (Nat.le_of_ble_eq_true rfl) (s219 (d := d + 2) hr3 w.obind) ?_
  intro _ M2 w
  refine mE_aload_n c37_8 rfl ?_
  refine mE_getA c37_9 qo37 qF11_55 (ok_lit rfl rfl rfl) rfl ⟨by decide, by decide⟩ ?_
  refine mE_getA c37_12 qo37 qF11_245 (ok_lit rfl rfl rfl) rfl ⟨by decide, by decide⟩ ?_
  refine mE_iload_n c37_15 rfl ?_
  obtain ⟨g4, w⟩ := w.ogd
  refine mE_iaload c37_16 (ok_lit rfl rfl rfl) hx1 g4 ?_
  intro u5
  refine mE_iconst c37_17 ?_
  by_cases e6 : (M2 99 (x1).toNat) = 3
  · have w := w.pos e6
    refine mE_icmp_ne_F (t := 50) c37_18 rfl u5 (r4_n rfl) e6 ?_
    refine mE_aload_n c37_21 rfl ?_
    refine mE_getA c37_22 qo37 qF11_48 (ok_lit rfl rfl rfl) rfl ⟨by decide, by decide⟩ ?_
    refine mE_getA c37_25 qo37 qF11_205 (ok_lit rfl rfl rfl) rfl ⟨by decide, by decide⟩ ?_
    refine mE_dup c37_28 rfl ?_
    refine mE_getI c37_29 qo37 qF11_133 (ok_lit rfl rfl rfl) rfl ?_
    intro u7
    refine mE_iconst c37_32 ?_
    refine mE_aload_n c37_33 rfl ?_
    refine mE_getA c37_34 qo37 qF11_55 (ok_lit rfl rfl rfl) rfl ⟨by decide, by decide⟩ ?_
    refine mE_getA c37_37 qo37 qF11_248 (ok_lit rfl rfl rfl) rfl ⟨by decide, by decide⟩ ?_
    refine mE_iload_n c37_40 rfl ?_
    refine mE_iaload c37_41 (ok_lit rfl rfl rfl) hx1 g4 ?_
    intro u8
    refine mE_ishl c37_42 ?_
    refine mE_ior c37_43 ?_
    obtain ⟨M9, m10, w⟩ := w.mlet
    refine mE_putI c37_44 qo37 qF11_133 qz8_2 (ok_lit rfl rfl rfl) (Nat.le_of_ble_eq_true rfl) rfl (r4_or _ _) (by rw [qy8_2]; rfl) ?_
    refine mE_M m10 ?_
    refine mE_goto (t := 71) c37_47 rfl ?_
    exact t37_71 hx2 w
  · have w := w.neg e6
    refine mE_icmp_ne_T (t := 50) c37_18 rfl u5 (r4_n rfl) e6 ?_
    refine mE_aload_n c37_50 rfl ?_
    refine mE_getA c37_51 qo37 qF11_48 (ok_lit rfl rfl rfl) rfl ⟨by decide, by decide⟩ ?_
    refine mE_getA c37_54 qo37 qF11_205 (ok_lit rfl rfl rfl) rfl ⟨by decide, by decide⟩ ?_
    refine mE_getA c37_57 qo37 qF11_149 (ok_lit rfl rfl rfl) rfl ⟨by decide, by decide⟩ ?_
    refine mE_aload_n c37_60 rfl ?_
    refine mE_getA c37_61 qo37 qF11_55 (ok_lit rfl rfl rfl) rfl ⟨by decide, by decide⟩ ?_
    refine mE_getA c37_64 qo37 qF11_248 (ok_lit rfl rfl rfl) rfl ⟨by decide, by decide⟩ ?_
    refine mE_iload_n c37_67 rfl ?_
    refine mE_iaload c37_68 (ok_lit rfl rfl rfl) hx1 g4 ?_
    intro u7
    refine mE_iconst c37_69 ?_
    obtain ⟨g8, w⟩ := w.ogd
    obtain ⟨M9, m10, w⟩ := w.mlet
    refine mE_iastore c37_70 (ok_lit rfl rfl rfl) u7 g8 (r4_n rfl) ?_
    refine mE_M m10 ?_
    exact t37_71 hx2 w
theorem s37 {X : Nat × Nat × qC} {d : Nat} {x1 : Int} {x2 : Int} {r3 : Nat} {M : Mm} {R : Int × Mm → Prop} (hx1 : R4 x1) (hx2 : R4 x2) (hr3 : isSt X.1 r3) (w : Wp (f37 x1 x2 r3 M) R) : mC X (d + 6) 37 1 [.ref 2, .int (Int32.ofInt x1), .int (Int32.ofInt x2), .ref r3] M (fun v M2 => R (v, M2)) :=
  mC_of (qent_mk qx37 rfl rfl rfl) (t37 hx1 hx2 hr3 w)
/-! SaggingNet.cool -/
noncomputable def f38 (x1 : Int) (M : Mm) : Option (Int × Mm) :=
  (f80 x1 0 1000 M).bind fun v1 =>
  if v1 = 0 then
  (some (0, M))
  else
  (mlet (ms M 3 3 x1) fun M5 =>
  some (1, M5))
theorem t38 {X : Nat × Nat × qC} {d : Nat} {x1 : Int} {M : Mm}  {R : Int × Mm → Prop} (hx1 : R4 x1) (w : Wp (f38 x1 M) R) : mE X (d + 1) 38 1 0 [some (.ref 2), some (.int (Int32.ofInt x1))] [] M (fun v M2 => R (v, M2)) := by
  refine mE_iload_n c38_0 rfl ?_
  refine mE_iconst c38_1 ?_
  refine mE_sipush (x := 1000) c38_2 rfl ?_
  refine mE_static1 (as := [.int (Int32.ofInt x1), .int (Int32.ofInt 0), .int (Int32.ofInt 1000)]) (r := []) c38_5 qo38 (by decide) qK11_108 rfl rfl rfl (Nat.le_of_ble_eq_true rfl) (s80 (d := d + 0) hx1 (r4_n rfl) (r4_n rfl) w.obind) ?_
  rintro v1 _ q3 ⟨rfl, w⟩
  by_cases e4 : v1 = 0
  · have w := w.pos e4
    refine mE_if_ne_F (t := 13) c38_8 rfl q3 e4 ?_
    refine mE_iconst c38_11 ?_
    exact mE_zret c38_12 qr38 (Or.inl rfl) w.osome
  · have w := w.neg e4
    refine mE_if_ne_T (t := 13) c38_8 rfl q3 e4 ?_
    refine mE_aload_n c38_13 rfl ?_
    refine mE_getA c38_14 qo38 qF11_10 (ok_lit rfl rfl rfl) rfl ⟨by decide, by decide⟩ ?_
    refine mE_iload_n c38_17 rfl ?_
    obtain ⟨M5, m6, w⟩ := w.mlet
    refine mE_putI c38_18 qo38 qF11_146 qz4_3 (ok_lit rfl rfl rfl) (Nat.le_of_ble_eq_true rfl) rfl hx1 (by rw [qy4_3]; rfl) ?_
    refine mE_M m6 ?_
    refine mE_iconst c38_21 ?_
    exact mE_zret c38_22 qr38 (Or.inr rfl) w.osome
theorem s38 {X : Nat × Nat × qC} {d : Nat} {x1 : Int} {M : Mm} {R : Int × Mm → Prop} (hx1 : R4 x1) (w : Wp (f38 x1 M) R) : mC X (d + 2) 38 1 [.ref 2, .int (Int32.ofInt x1)] M (fun v M2 => R (v, M2)) :=
  mC_of (qent_mk qx38 rfl rfl rfl) (t38 hx1 w)
/-! SaggingNet.cost -/
noncomputable def f39 (x1 : Int) (x2 : Int) (M : Mm) : Option (Int × Mm) :=
  (f215 x1 M).bind fun v1 =>
  if v1 = 0 then
  (some (0, M))
  else
  ((f80 x2 1 1000 M).bind fun v5 =>
  if v5 = 0 then
  (some (0, M))
  else
  (gd (0 ≤ x1 ∧ x1 < 14) (
  mlet (ms M 19 (x1).toNat x2) fun M10 =>
  some (1, M10))))
theorem t39 {X : Nat × Nat × qC} {d : Nat} {x1 : Int} {x2 : Int} {M : Mm}  {R : Int × Mm → Prop} (hx1 : R4 x1) (hx2 : R4 x2) (w : Wp (f39 x1 x2 M) R) : mE X (d + 1) 39 1 0 [some (.ref 2), some (.int (Int32.ofInt x1)), some (.int (Int32.ofInt x2))] [] M (fun v M2 => R (v, M2)) := by
  refine mE_aload_n c39_0 rfl ?_
  refine mE_getA c39_1 qo39 qF11_10 (ok_lit rfl rfl rfl) rfl ⟨by decide, by decide⟩ ?_
  refine mE_iload_n c39_4 rfl ?_
  refine mE_virtual1 (b := 3) (as := [.int (Int32.ofInt x1)]) (r := []) c39_5 qo39 qK11_140 qo215 rfl rfl rfl (ok_lit rfl rfl rfl) (Nat.le_of_ble_eq_true rfl) (s215 (d := d + 0) hx1 w.obind) ?_
  rintro v1 _ q3 ⟨rfl, w⟩
  by_cases e4 : v1 = 0
  · have w := w.pos e4
    refine mE_if_eq_T (t := 22) c39_8 rfl q3 e4 ?_
    refine mE_iconst c39_22 ?_
    exact mE_zret c39_23 qr39 (Or.inl rfl) w.osome
  · have w := w.neg e4
    refine mE_if_eq_F (t := 22) c39_8 rfl q3 e4 ?_
    refine mE_iload_n c39_11 rfl ?_
    refine mE_iconst c39_12 ?_
    refine mE_sipush (x := 1000) c39_13 rfl ?_
    refine mE_static1 (as := [.int (Int32.ofInt x2), .int (Int32.ofInt 1), .int (Int32.ofInt 1000)]) (r := []) c39_16 qo39 (by decide) qK11_108 rfl rfl rfl (Nat.le_of_ble_eq_true rfl) (s80 (d := d + 0) hx2 (r4_n rfl) (r4_n rfl) w.obind) ?_
    rintro v5 _ q7 ⟨rfl, w⟩
    by_cases e8 : v5 = 0
    · have w := w.pos e8
      refine mE_if_ne_F (t := 24) c39_19 rfl q7 e8 ?_
      refine mE_iconst c39_22 ?_
      exact mE_zret c39_23 qr39 (Or.inl rfl) w.osome
    · have w := w.neg e8
      refine mE_if_ne_T (t := 24) c39_19 rfl q7 e8 ?_
      refine mE_aload_n c39_24 rfl ?_
      refine mE_getA c39_25 qo39 qF11_10 (ok_lit rfl rfl rfl) rfl ⟨by decide, by decide⟩ ?_
      refine mE_getA c39_28 qo39 qF11_337 (ok_lit rfl rfl rfl) rfl ⟨by decide, by decide⟩ ?_
      refine mE_iload_n c39_31 rfl ?_
      refine mE_iload_n c39_32 rfl ?_
      obtain ⟨g9, w⟩ := w.ogd
      obtain ⟨M10, m11, w⟩ := w.mlet
      refine mE_iastore c39_33 (ok_lit rfl rfl rfl) hx1 g9 hx2 ?_
      refine mE_M m11 ?_
      refine mE_iconst c39_34 ?_
      exact mE_zret c39_35 qr39 (Or.inr rfl) w.osome
theorem s39 {X : Nat × Nat × qC} {d : Nat} {x1 : Int} {x2 : Int} {M : Mm} {R : Int × Mm → Prop} (hx1 : R4 x1) (hx2 : R4 x2) (w : Wp (f39 x1 x2 M) R) : mC X (d + 2) 39 1 [.ref 2, .int (Int32.ofInt x1), .int (Int32.ofInt x2)] M (fun v M2 => R (v, M2)) :=
  mC_of (qent_mk qx39 rfl rfl rfl) (t39 hx1 hx2 w)
/-! SaggingNet.costAt -/
noncomputable def f40 (x1 : Int) (M : Mm) : Option (Int) :=
  if x1 < 20 then
  (some (-1))
  else
  (gd (R4 (x1 - 20)) (
  if (x1 - 20) < (M 3 1) then
  (gd (0 ≤ (x1 - 20) ∧ (x1 - 20) < 14) (
  some (M 19 ((x1 - 20)).toNat)))
  else
  (some (-1))))
theorem t40 {X : Nat × Nat × qC} {d : Nat} {x1 : Int} {M : Mm}  {R : Int → Prop} (hx1 : R4 x1) (w : Wp (f40 x1 M) R) : mE X (d + 0) 40 1 0 [some (.ref 2), some (.int (Int32.ofInt x1))] [] M (fun v M2 => M = M2 ∧ R v) := by
  refine mE_iload_n c40_0 rfl ?_
  refine mE_bipush (x := 20) c40_1 rfl ?_
  by_cases e1 : x1 < 20
  · have w := w.pos e1
    refine mE_icmp_lt_T (t := 20) c40_3 rfl hx1 (r4_n rfl) e1 ?_
    refine mE_iconst c40_20 ?_
    exact mE_iret c40_21 qr40 (r4_n rfl) ⟨rfl, w.osome⟩
  · have w := w.neg e1
    refine mE_icmp_lt_F (t := 20) c40_3 rfl hx1 (r4_n rfl) e1 ?_
    refine mE_iload_n c40_6 rfl ?_
    refine mE_bipush (x := 20) c40_7 rfl ?_
    obtain ⟨g2, w⟩ := w.ogd
    refine mE_isub c40_9 ?_
    refine mE_aload_n c40_10 rfl ?_
    refine mE_getA c40_11 qo40 qF11_10 (ok_lit rfl rfl rfl) rfl ⟨by decide, by decide⟩ ?_
    refine mE_getI c40_14 qo40 qF11_119 (ok_lit rfl rfl rfl) rfl ?_
    intro u3
    by_cases e4 : (x1 - 20) < (M 3 1)
    · have w := w.pos e4
      refine mE_icmp_lt_T (t := 22) c40_17 rfl g2 u3 e4 ?_
      refine mE_aload_n c40_22 rfl ?_
      refine mE_getA c40_23 qo40 qF11_10 (ok_lit rfl rfl rfl) rfl ⟨by decide, by decide⟩ ?_
      refine mE_getA c40_26 qo40 qF11_337 (ok_lit rfl rfl rfl) rfl ⟨by decide, by decide⟩ ?_
      refine mE_iload_n c40_29 rfl ?_
      refine mE_bipush (x := 20) c40_30 rfl ?_
      refine mE_isub c40_32 ?_
      obtain ⟨g5, w⟩ := w.ogd
      refine mE_iaload c40_33 (ok_lit rfl rfl rfl) g2 g5 ?_
      intro u6
      exact mE_iret c40_34 qr40 u6 ⟨rfl, w.osome⟩
    · have w := w.neg e4
      refine mE_icmp_lt_F (t := 22) c40_17 rfl g2 u3 e4 ?_
      refine mE_iconst c40_20 ?_
      exact mE_iret c40_21 qr40 (r4_n rfl) ⟨rfl, w.osome⟩
theorem s40 {X : Nat × Nat × qC} {d : Nat} {x1 : Int} {M : Mm} {R : Int → Prop} (hx1 : R4 x1) (w : Wp (f40 x1 M) R) : mC X (d + 1) 40 1 [.ref 2, .int (Int32.ofInt x1)] M (fun v M2 => M = M2 ∧ R v) :=
  mC_of (qent_mk qx40 rfl rfl rfl) (t40 hx1 w)
/-! SaggingNet.count -/
noncomputable def f42 (x1 : Int) (M : Mm) : Option (Int) :=
  if x1 = 0 then
  (some (M 24 0))
  else
  (if x1 = 1 then
  (some (M 3 0))
  else
  (if x1 = 2 then
  (some (M 3 1))
  else
  (if x1 = 3 then
  (some (M 3 2))
  else
  (if x1 = 4 then
  (some (M 98 0))
  else
  (if x1 = 5 then
  (gd (isTx (M 3 4).toNat) (
  some (M ((M 3 4).toNat) 0)))
  else
  (if x1 = 6 then
  (some (M 112 0))
  else
  (if x1 = 7 then
  (some (M 112 1))
  else
  (if x1 = 8 then
  (some (M 132 0))
  else
  (if x1 = 9 then
  (some (M 3 3))
  else
  (if x1 = 10 then
  ((f244 24 (M 24 1) M).bind fun v13 =>
  some v13)
  else
  ((f40 x1 M).bind fun v12 =>
  some v12)))))))))))
theorem t42 {X : Nat × Nat × qC} {d : Nat} {x1 : Int} {M : Mm}  {R : Int → Prop} (hx1 : R4 x1) (w : Wp (f42 x1 M) R) : mE X (d + 1) 42 1 0 [some (.ref 2), some (.int (Int32.ofInt x1))] [] M (fun v M2 => M = M2 ∧ R v) := by
  refine mE_iload_n c42_0 rfl ?_
  by_cases e1 : x1 = 0
  · have w := w.pos e1
    refine mE_table (off := 59) (t := 60) c42_1 hx1 e1 (by decide) rfl rfl ?_
    refine mE_aload_n c42_60 rfl ?_
    refine mE_getA c42_61 qo42 qF11_19 (ok_lit rfl rfl rfl) rfl ⟨by decide, by decide⟩ ?_
    refine mE_getI c42_64 qo42 qF11_97 (ok_lit rfl rfl rfl) rfl ?_
    intro u2
    exact mE_iret c42_67 qr42 u2 ⟨rfl, w.osome⟩
  have w := w.neg e1
  by_cases e2 : x1 = 1
  · have w := w.pos e2
    refine mE_table (off := 67) (t := 68) c42_1 hx1 e2 (by decide) rfl rfl ?_
    refine mE_aload_n c42_68 rfl ?_
    refine mE_getA c42_69 qo42 qF11_10 (ok_lit rfl rfl rfl) rfl ⟨by decide, by decide⟩ ?_
    refine mE_getI c42_72 qo42 qF11_101 (ok_lit rfl rfl rfl) rfl ?_
    intro u3
    exact mE_iret c42_75 qr42 u3 ⟨rfl, w.osome⟩
  have w := w.neg e2
  by_cases e3 : x1 = 2
  · have w := w.pos e3
    refine mE_table (off := 75) (t := 76) c42_1 hx1 e3 (by decide) rfl rfl ?_
    refine mE_aload_n c42_76 rfl ?_
    refine mE_getA c42_77 qo42 qF11_10 (ok_lit rfl rfl rfl) rfl ⟨by decide, by decide⟩ ?_
    refine mE_getI c42_80 qo42 qF11_119 (ok_lit rfl rfl rfl) rfl ?_
    intro u4
    exact mE_iret c42_83 qr42 u4 ⟨rfl, w.osome⟩
  have w := w.neg e3
  by_cases e4 : x1 = 3
  · have w := w.pos e4
    refine mE_table (off := 83) (t := 84) c42_1 hx1 e4 (by decide) rfl rfl ?_
    refine mE_aload_n c42_84 rfl ?_
    refine mE_getA c42_85 qo42 qF11_10 (ok_lit rfl rfl rfl) rfl ⟨by decide, by decide⟩ ?_
    refine mE_getI c42_88 qo42 qF11_130 (ok_lit rfl rfl rfl) rfl ?_
    intro u5
    exact mE_iret c42_91 qr42 u5 ⟨rfl, w.osome⟩
  have w := w.neg e4
  by_cases e5 : x1 = 4
  · have w := w.pos e5
    refine mE_table (off := 91) (t := 92) c42_1 hx1 e5 (by decide) rfl rfl ?_
    refine mE_aload_n c42_92 rfl ?_
    refine mE_getA c42_93 qo42 qF11_55 (ok_lit rfl rfl rfl) rfl ⟨by decide, by decide⟩ ?_
    refine mE_getI c42_96 qo42 qF11_346 (ok_lit rfl rfl rfl) rfl ?_
    intro u6
    exact mE_iret c42_99 qr42 u6 ⟨rfl, w.osome⟩
  have w := w.neg e5
  by_cases e6 : x1 = 5
  · have w := w.pos e6
    refine mE_table (off := 99) (t := 100) c42_1 hx1 e6 (by decide) rfl rfl ?_
    refine mE_aload_n c42_100 rfl ?_
    refine mE_getA c42_101 qo42 qF11_10 (ok_lit rfl rfl rfl) rfl ⟨by decide, by decide⟩ ?_
    obtain ⟨g7, w⟩ := w.ogd
    refine mE_getT c42_104 qo42 qF11_182 (ok_lit rfl rfl rfl) rfl ⟨by decide, by decide⟩ ?_
    refine mE_getI c42_107 qo42 qF11_347 (ok_tx0 g7) rfl ?_
    intro u8
    exact mE_iret c42_110 qr42 u8 ⟨rfl, w.osome⟩
  have w := w.neg e6
  by_cases e7 : x1 = 6
  · have w := w.pos e7
    refine mE_table (off := 110) (t := 111) c42_1 hx1 e7 (by decide) rfl rfl ?_
    refine mE_aload_n c42_111 rfl ?_
    refine mE_getA c42_112 qo42 qF11_69 (ok_lit rfl rfl rfl) rfl ⟨by decide, by decide⟩ ?_
    refine mE_getI c42_115 qo42 qF11_303 (ok_lit rfl rfl rfl) rfl ?_
    intro u8
    exact mE_iret c42_118 qr42 u8 ⟨rfl, w.osome⟩
  have w := w.neg e7
  by_cases e8 : x1 = 7
  · have w := w.pos e8
    refine mE_table (off := 118) (t := 119) c42_1 hx1 e8 (by decide) rfl rfl ?_
    refine mE_aload_n c42_119 rfl ?_
    refine mE_getA c42_120 qo42 qF11_69 (ok_lit rfl rfl rfl) rfl ⟨by decide, by decide⟩ ?_
    refine mE_getI c42_123 qo42 qF11_312 (ok_lit rfl rfl rfl) rfl ?_
    intro u9
    exact mE_iret c42_126 qr42 u9 ⟨rfl, w.osome⟩
  have w := w.neg e8
  by_cases e9 : x1 = 8
  · have w := w.pos e9
    refine mE_table (off := 126) (t := 127) c42_1 hx1 e9 (by decide) rfl rfl ?_
    refine mE_aload_n c42_127 rfl ?_
    refine mE_getA c42_128 qo42 qF11_83 (ok_lit rfl rfl rfl) rfl ⟨by decide, by decide⟩ ?_
    refine mE_getI c42_131 qo42 qF11_172 (ok_lit rfl rfl rfl) rfl ?_
    intro u10
    exact mE_iret c42_134 qr42 u10 ⟨rfl, w.osome⟩
  have w := w.neg e9
  by_cases e10 : x1 = 9
  · have w := w.pos e10
    refine mE_table (off := 134) (t := 135) c42_1 hx1 e10 (by decide) rfl rfl ?_
    refine mE_aload_n c42_135 rfl ?_
    refine mE_getA c42_136 qo42 qF11_10 (ok_lit rfl rfl rfl) rfl ⟨by decide, by decide⟩ ?_
    refine mE_getI c42_139 qo42 qF11_146 (ok_lit rfl rfl rfl) rfl ?_
    intro u11
    exact mE_iret c42_142 qr42 u11 ⟨rfl, w.osome⟩
  have w := w.neg e10
  by_cases e11 : x1 = 10
  · have w := w.pos e11
    refine mE_table (off := 142) (t := 143) c42_1 hx1 e11 (by decide) rfl rfl ?_
    refine mE_aload_n c42_143 rfl ?_
    refine mE_getA c42_144 qo42 qF11_19 (ok_lit rfl rfl rfl) rfl ⟨by decide, by decide⟩ ?_
    refine mE_aload_n c42_147 rfl ?_
    refine mE_getA c42_148 qo42 qF11_19 (ok_lit rfl rfl rfl) rfl ⟨by decide, by decide⟩ ?_
    refine mE_getI c42_151 qo42 qF11_161 (ok_lit rfl rfl rfl) rfl ?_
    intro u12
    refine mE_virtual1 (b := 24) (as := [.int (Int32.ofInt (M 24 1))]) (r := []) c42_154 qo42 qK11_350 qo244 rfl rfl rfl (ok_lit rfl rfl rfl) (Nat.le_of_ble_eq_true rfl) (s244 (d := d + 0) isSt_24 u12 w.obind) ?_
    rintro v13 _ q15 ⟨rfl, w⟩
    exact mE_iret c42_157 qr42 q15 ⟨rfl, w.osome⟩
  have w := w.neg e11
  refine mE_tableD (t := 158) c42_1 hx1 (by omega) rfl ?_
  refine mE_aload_n c42_158 rfl ?_
  refine mE_iload_n c42_159 rfl ?_
  refine mE_virtual1 (b := 2) (as := [.int (Int32.ofInt x1)]) (r := []) c42_160 qo42 qK11_353 qo40 rfl rfl rfl (ok_lit rfl rfl rfl) (Nat.le_of_ble_eq_true rfl) (s40 (d := d + 0) hx1 w.obind) ?_
  rintro v12 _ q14 ⟨rfl, w⟩
  exact mE_iret c42_163 qr42 q14 ⟨rfl, w.osome⟩
theorem s42 {X : Nat × Nat × qC} {d : Nat} {x1 : Int} {M : Mm} {R : Int → Prop} (hx1 : R4 x1) (w : Wp (f42 x1 M) R) : mC X (d + 2) 42 1 [.ref 2, .int (Int32.ofInt x1)] M (fun v M2 => M = M2 ∧ R v) :=
  mC_of (qent_mk qx42 rfl rfl rfl) (t42 hx1 w)
/-! SaggingNet.cut -/
noncomputable def f43 (x1 : Int) (x2 : Int) (x3 : Int) (M : Mm) : Option (Int × Mm) :=
  (f80 x1 0 10000 M).bind fun v1 =>
  if v1 = 0 then
  (some ((-1), M))
  else
  ((f80 x2 1 30 M).bind fun v5 =>
  if v5 = 0 then
  (some ((-1), M))
  else
  ((f80 x3 0 1 M).bind fun v9 =>
  if v9 = 0 then
  (some ((-1), M))
  else
  (obnd (f34 x1 x2 x3 M) fun v13 M14 =>
  some (v13, M14))))
theorem t43 {X : Nat × Nat × qC} {d : Nat} {x1 : Int} {x2 : Int} {x3 : Int} {M : Mm}  {R : Int × Mm → Prop} (hx1 : R4 x1) (hx2 : R4 x2) (hx3 : R4 x3) (w : Wp (f43 x1 x2 x3 M) R) : mE X (d + 7) 43 1 0 [some (.ref 2), some (.int (Int32.ofInt x1)), some (.int (Int32.ofInt x2)), some (.int (Int32.ofInt x3))] [] M (fun v M2 => R (v, M2)) := by
  refine mE_iload_n c43_0 rfl ?_
  refine mE_iconst c43_1 ?_
  refine mE_sipush (x := 10000) c43_2 rfl ?_
  refine mE_static1 (as := [.int (Int32.ofInt x1), .int (Int32.ofInt 0), .int (Int32.ofInt 10000)]) (r := []) c43_5 qo43 (by decide) qK11_108 rfl rfl rfl (Nat.le_of_ble_eq_true rfl) (s80 (d := d + 6) hx1 (r4_n rfl) (r4_n rfl) w.obind) ?_
  rintro v1 _ q3 ⟨rfl, w⟩
  by_cases e4 : v1 = 0
  · have w := w.pos e4
    refine mE_if_eq_T (t := 30) c43_8 rfl q3 e4 ?_
    refine mE_iconst c43_30 ?_
    exact mE_iret c43_31 qr43 (r4_n rfl) w.osome
  · have w := w.neg e4
    refine mE_if_eq_F (t := 30) c43_8 rfl q3 e4 ?_
    refine mE_iload_n c43_11 rfl ?_
    refine mE_iconst c43_12 ?_
    refine mE_bipush (x := 30) c43_13 rfl ?_
    refine mE_static1 (as := [.int (Int32.ofInt x2), .int (Int32.ofInt 1), .int (Int32.ofInt 30)]) (r := []) c43_15 qo43 (by decide) qK11_108 rfl rfl rfl (Nat.le_of_ble_eq_true rfl) (s80 (d := d + 6) hx2 (r4_n rfl) (r4_n rfl) w.obind) ?_
    rintro v5 _ q7 ⟨rfl, w⟩
    by_cases e8 : v5 = 0
    · have w := w.pos e8
      refine mE_if_eq_T (t := 30) c43_18 rfl q7 e8 ?_
      refine mE_iconst c43_30 ?_
      exact mE_iret c43_31 qr43 (r4_n rfl) w.osome
    · have w := w.neg e8
      refine mE_if_eq_F (t := 30) c43_18 rfl q7 e8 ?_
      refine mE_iload_n c43_21 rfl ?_
      refine mE_iconst c43_22 ?_
      refine mE_iconst c43_23 ?_
      refine mE_static1 (as := [.int (Int32.ofInt x3), .int (Int32.ofInt 0), .int (Int32.ofInt 1)]) (r := []) c43_24 qo43 (by decide) qK11_108 rfl rfl rfl (Nat.le_of_ble_eq_true rfl) (s80 (d := d + 6) hx3 (r4_n rfl) (r4_n rfl) w.obind) ?_
      rintro v9 _ q11 ⟨rfl, w⟩
      by_cases e12 : v9 = 0
      · have w := w.pos e12
        refine mE_if_ne_F (t := 32) c43_27 rfl q11 e12 ?_
        refine mE_iconst c43_30 ?_
        exact mE_iret c43_31 qr43 (r4_n rfl) w.osome
      · have w := w.neg e12
        refine mE_if_ne_T (t := 32) c43_27 rfl q11 e12 ?_
        refine mE_aload_n c43_32 rfl ?_
        refine mE_iload_n c43_33 rfl ?_
        refine mE_iload_n c43_34 rfl ?_
        refine mE_iload_n c43_35 rfl ?_
        refine mE_virtual1 (b := 2) (as := [.int (Int32.ofInt x1), .int (Int32.ofInt x2), .int (Int32.ofInt x3)]) (r := []) c43_36 qo43 qK11_340 qo34 rfl rfl rfl (ok_lit rfl rfl rfl) (Nat.le_of_ble_eq_true rfl) (s34 (d := d + 0) hx1 hx2 hx3 w.oc) ?_
        intro v13 M14 q15 w
        exact mE_iret c43_39 qr43 q15 w.osome
theorem s43 {X : Nat × Nat × qC} {d : Nat} {x1 : Int} {x2 : Int} {x3 : Int} {M : Mm} {R : Int × Mm → Prop} (hx1 : R4 x1) (hx2 : R4 x2) (hx3 : R4 x3) (w : Wp (f43 x1 x2 x3 M) R) : mC X (d + 8) 43 1 [.ref 2, .int (Int32.ofInt x1), .int (Int32.ofInt x2), .int (Int32.ofInt x3)] M (fun v M2 => R (v, M2)) :=
  mC_of (qent_mk qx43 rfl rfl rfl) (t43 hx1 hx2 hx3 w)
/-! SaggingNet$Events.has -/
noncomputable def f206 (x1 : Int) (M : Mm) : Option (Int) :=
  if x1 < 0 then
  (some 0)
  else
  (if x1 < (M 98 0) then
  (some 1)
  else
  (some 0))
theorem t206 {X : Nat × Nat × qC} {d : Nat} {x1 : Int} {M : Mm}  {R : Int → Prop} (hx1 : R4 x1) (w : Wp (f206 x1 M) R) : mE X (d + 0) 206 1 0 [some (.ref 98), some (.int (Int32.ofInt x1))] [] M (fun v M2 => M = M2 ∧ R v) := by
  refine mE_iload_n c206_0 rfl ?_
  by_cases e1 : x1 < 0
  · have w := w.pos e1
    refine mE_if_lt_T (t := 16) c206_1 rfl hx1 e1 ?_
    refine mE_iconst c206_16 ?_
    exact mE_zret c206_17 qr206 (Or.inl rfl) ⟨rfl, w.osome⟩
  · have w := w.neg e1
    refine mE_if_lt_F (t := 16) c206_1 rfl hx1 e1 ?_
    refine mE_iload_n c206_4 rfl ?_
    refine mE_aload_n c206_5 rfl ?_
    refine mE_getI c206_6 qo206 qF3_21 (ok_lit rfl rfl rfl) rfl ?_
    intro u2
    by_cases e3 : x1 < (M 98 0)
    · have w := w.pos e3
      refine mE_icmp_ge_F (t := 16) c206_9 rfl hx1 u2 e3 ?_
      refine mE_iconst c206_12 ?_
      refine mE_goto (t := 17) c206_13 rfl ?_
      exact mE_zret c206_17 qr206 (Or.inr rfl) ⟨rfl, w.osome⟩
    · have w := w.neg e3
      refine mE_icmp_ge_T (t := 16) c206_9 rfl hx1 u2 e3 ?_
      refine mE_iconst c206_16 ?_
      exact mE_zret c206_17 qr206 (Or.inl rfl) ⟨rfl, w.osome⟩
theorem s206 {X : Nat × Nat × qC} {d : Nat} {x1 : Int} {M : Mm} {R : Int → Prop} (hx1 : R4 x1) (w : Wp (f206 x1 M) R) : mC X (d + 1) 206 1 [.ref 98, .int (Int32.ofInt x1)] M (fun v M2 => M = M2 ∧ R v) :=
  mC_of (qent_mk qx206 rfl rfl rfl) (t206 hx1 w)
/-! SaggingNet.stateAt -/
noncomputable def f73 (x1 : Int) (M : Mm) : Option (Int) :=
  if x1 = (M 24 0) then
  (some ((24 : Nat) : Int))
  else
  ((f52 x1 M).bind fun v3 =>
  if v3 = 0 then
  (some 0)
  else
  (gd (0 ≤ x1 ∧ x1 < 499) (
  gd (0 < (M 29 (x1).toNat)) (
  some (((M 29 (x1).toNat).toNat : Nat) : Int)))))
theorem t73 {X : Nat × Nat × qC} {d : Nat} {x1 : Int} {M : Mm}  {R : Int → Prop} (hx1 : R4 x1) (w : Wp (f73 x1 M) R) : mE X (d + 1) 73 3 0 [some (.ref 2), some (.int (Int32.ofInt x1))] [] M (fun v M2 => M = M2 ∧ R v) := by
  refine mE_iload_n c73_0 rfl ?_
  refine mE_aload_n c73_1 rfl ?_
  refine mE_getA c73_2 qo73 qF11_19 (ok_lit rfl rfl rfl) rfl ⟨by decide, by decide⟩ ?_
  refine mE_getI c73_5 qo73 qF11_97 (ok_lit rfl rfl rfl) rfl ?_
  intro u1
  by_cases e2 : x1 = (M 24 0)
  · have w := w.pos e2
    refine mE_icmp_ne_F (t := 16) c73_8 rfl hx1 u1 e2 ?_
    refine mE_aload_n c73_11 rfl ?_
    refine mE_getA c73_12 qo73 qF11_19 (ok_lit rfl rfl rfl) rfl ⟨by decide, by decide⟩ ?_
    exact mE_aret c73_15 qr73 (by decide) ⟨rfl, w.osome⟩
  · have w := w.neg e2
    refine mE_icmp_ne_T (t := 16) c73_8 rfl hx1 u1 e2 ?_
    refine mE_aload_n c73_16 rfl ?_
    refine mE_iload_n c73_17 rfl ?_
    refine mE_virtual1 (b := 2) (as := [.int (Int32.ofInt x1)]) (r := []) c73_18 qo73 qK11_258 qo52 rfl rfl rfl (ok_lit rfl rfl rfl) (Nat.le_of_ble_eq_true rfl) (s52 (d := d + 0) hx1 w.obind) ?_
    rintro v3 _ q5 ⟨rfl, w⟩
    by_cases e6 : v3 = 0
    · have w := w.pos e6
      refine mE_if_eq_T (t := 33) c73_21 rfl q5 e6 ?_
      refine mE_null c73_33 ?_
      exact mE_aretN c73_34 qr73 ⟨rfl, w.osome⟩
    · have w := w.neg e6
      refine mE_if_eq_F (t := 33) c73_21 rfl q5 e6 ?_
      refine mE_aload_n c73_24 rfl ?_
      refine mE_getA c73_25 qo73 qF11_23 (ok_lit rfl rfl rfl) rfl ⟨by decide, by decide⟩ ?_
      refine mE_iload_n c73_28 rfl ?_
      obtain ⟨g7, w⟩ := w.ogd
      obtain ⟨g8, w⟩ := w.ogd
      refine mE_aaload2 c73_29 (ok_lit rfl rfl rfl) (Or.inl rfl) hx1 g7 (by omega) ?_
      refine mE_goto (t := 34) c73_30 rfl ?_
      exact mE_aret c73_34 qr73 (by omega) ⟨rfl, w.osome⟩
theorem s73 {X : Nat × Nat × qC} {d : Nat} {x1 : Int} {M : Mm} {R : Int → Prop} (hx1 : R4 x1) (w : Wp (f73 x1 M) R) : mC X (d + 2) 73 3 [.ref 2, .int (Int32.ofInt x1)] M (fun v M2 => M = M2 ∧ R v) :=
  mC_of (qent_mk qx73 rfl rfl rfl) (t73 hx1 w)
/-! SaggingNet.firstThatLedTo -/
def E49_22 (X : Nat × Nat × qC) (d : Nat) (x1 : Int) (r2 : Nat) (R : Int × Mm → Prop) : Int × Mm → Prop := fun s => R4 s.1 → ∀ (o4 : Option Value), mE X (d + 6) 49 1 22 [some (.ref 2), some (.int (Int32.ofInt x1)), some (.ref r2), some (.int (Int32.ofInt s.1)), o4] [] s.2 (fun v M2 => R (v, M2))
noncomputable def f49_86 (x1 : Int) (r2 : Nat) (x3 : Int) (M : Mm) : Option ((Int × Mm) ⊕ (Int × Mm)) :=
  gd (R4 (x3 + 1)) (
  some (.inl ((x3 + 1), M)))
theorem t49_86 {X : Nat × Nat × qC} {d : Nat} {x1 : Int} {r2 : Nat} {x3 : Int} {M : Mm} {y4 : Int32} {R : Int × Mm → Prop} (hx1 : R4 x1) (hr2 : isSt X.1 r2) (hx3 : R4 x3) (w : Wp (f49_86 x1 r2 x3 M) (Sum.elim (E49_22 X d x1 r2 R) R)) : mE X (d + 6) 49 1 86 [some (.ref 2), some (.int (Int32.ofInt x1)), some (.ref r2), some (.int (Int32.ofInt x3)), some (.int y4)] [] M (fun v M2 => R (v, M2)) := by
  obtain ⟨g1, w⟩ := w.ogd
  refine mE_iinc (ls2 := [some (.ref 2), some (.int (Int32.ofInt x1)), some (.ref r2), some (.int (Int32.ofInt (x3 + 1))), some (.int y4)]) c49_86 rfl (Nat.le_of_ble_eq_true rfl) rfl ?_
  refine mE_goto (t := 22) c49_89 rfl ?_
  exact w.osome g1 _
noncomputable def lb49_22 (x1 : Int) (r2 : Nat) (x3 : Int) (M : Mm) : Option ((Int × Mm) ⊕ (Int × Mm)) :=
  if x3 < x1 then
  (gd (0 ≤ x3 ∧ x3 < 400) (
  gd (0 ≤ x1 ∧ x1 < 400) (
  gd (R4 ((M 101 (x1).toNat) - 1)) (
  if (M 101 (x3).toNat) = ((M 101 (x1).toNat) - 1) then
  (if (M 99 (x3).toNat) = 0 then
  (f49_86 x1 r2 x3 M)
  else
  (obnd (f37 x3 x1 r2 M) fun v10 M11 =>
  if v10 = 0 then
  (oinr (some (x3, M11)))
  else
  (f49_86 x1 r2 x3 M11)))
  else
  (f49_86 x1 r2 x3 M)))))
  else
  (oinr (some ((-1), M)))
noncomputable def f49_22 (x1 : Int) (r2 : Nat) (x3 : Int) (M : Mm) : Option (Int × Mm) := lp (fun s : Int × Mm => lb49_22 x1 r2 s.1 s.2) (x3, M)
theorem tb49_22 {X : Nat × Nat × qC} {d : Nat} {x1 : Int} {r2 : Nat} {x3 : Int} {M : Mm} {o4 : Option Value} {R : Int × Mm → Prop} (hx1 : R4 x1) (hr2 : isSt X.1 r2) (hx3 : R4 x3) (w : Wp (lb49_22 x1 r2 x3 M) (Sum.elim (E49_22 X d x1 r2 R) R)) : mE X (d + 6) 49 1 22 [some (.ref 2), some (.int (Int32.ofInt x1)), some (.ref r2), some (.int (Int32.ofInt x3)), o4] [] M (fun v M2 => R (v, M2)) := by
  refine mE_iload_n c49_22 rfl ?_
  refine mE_iload_n c49_23 rfl ?_
  by_cases e1 : x3 < x1
  · have w := w.pos e1
    refine mE_icmp_ge_F (t := 92) c49_24 rfl hx3 hx1 e1 ?_
    refine mE_aload_n c49_27 rfl ?_
    refine mE_getA c49_28 qo49 qF11_55 (ok_lit rfl rfl rfl) rfl ⟨by decide, by decide⟩ ?_
    refine mE_getA c49_31 qo49 qF11_251 (ok_lit rfl rfl rfl) rfl ⟨by decide, by decide⟩ ?_
    refine mE_iload_n c49_34 rfl ?_
    obtain ⟨g2, w⟩ := w.ogd
    refine mE_iaload c49_35 (ok_lit rfl rfl rfl) hx3 g2 ?_
    intro u3
    refine mE_aload_n c49_36 rfl ?_
    refine mE_getA c49_37 qo49 qF11_55 (ok_lit rfl rfl rfl) rfl ⟨by decide, by decide⟩ ?_
    refine mE_getA c49_40 qo49 qF11_251 (ok_lit rfl rfl rfl) rfl ⟨by decide, by decide⟩ ?_
    refine mE_iload_n c49_43 rfl ?_
    obtain ⟨g4, w⟩ := w.ogd
    refine mE_iaload c49_44 (ok_lit rfl rfl rfl) hx1 g4 ?_
    intro u5
    refine mE_iconst c49_45 ?_
    obtain ⟨g6, w⟩ := w.ogd
    refine mE_isub c49_46 ?_
    by_cases e7 : (M 101 (x3).toNat) = ((M 101 (x1).toNat) - 1)
    · have w := w.pos e7
      refine mE_icmp_ne_F (t := 54) c49_47 rfl u3 g6 e7 ?_
      refine mE_iconst c49_50 ?_
      refine mE_goto (t := 55) c49_51 rfl ?_
      refine mE_istore (ls2 := [some (.ref 2), some (.int (Int32.ofInt x1)), some (.ref r2), some (.int (Int32.ofInt x3)), some (.int (Int32.ofInt 1))]) c49_55 (Nat.le_of_ble_eq_true rfl) rfl ?_
      refine mE_iload c49_57 rfl ?_
      refine mE_if_eq_F (t := 86) c49_59 rfl (r4_n rfl) (by decide) ?_
      refine mE_aload_n c49_62 rfl ?_
      refine mE_getA c49_63 qo49 qF11_55 (ok_lit rfl rfl rfl) rfl ⟨by decide, by decide⟩ ?_
      refine mE_getA c49_66 qo49 qF11_245 (ok_lit rfl rfl rfl) rfl ⟨by decide, by decide⟩ ?_
      refine mE_iload_n c49_69 rfl ?_
      refine mE_iaload c49_70 (ok_lit rfl rfl rfl) hx3 g2 ?_
      intro u8
      by_cases e9 : (M 99 (x3).toNat) = 0
      · have w := w.pos e9
        refine mE_if_eq_T (t := 86) c49_71 rfl u8 e9 ?_
        exact t49_86 hx1 hr2 hx3 w
      · have w := w.neg e9
        refine mE_if_eq_F (t := 86) c49_71 rfl u8 e9 ?_
        refine mE_aload_n c49_74 rfl ?_
        refine mE_iload_n c49_75 rfl ?_
        refine mE_iload_n c49_76 rfl ?_
        refine mE_aload_n c49_77 rfl ?_
        refine mE_virtual1 (b := 2) (as := [.int (Int32.ofInt x3), .int (Int32.ofInt x1), .ref r2]) (r := []) c49_78 qo49 qK11_359 qo37 rfl rfl rfl (ok_lit rfl rfl rfl) (Nat.le_of_ble_eq_true rfl) (s37 (d := d + 0) hx3 hx1 hr2 w.oc) ?_
        intro v10 M11 q12 w
        by_cases e13 : v10 = 0
        · have w := w.pos e13
          refine mE_if_ne_F (t := 86) c49_81 rfl q12 e13 ?_
          have w := w.oinr
          refine mE_iload_n c49_84 rfl ?_
          exact mE_iret c49_85 qr49 hx3 w.osome
        · have w := w.neg e13
          refine mE_if_ne_T (t := 86) c49_81 rfl q12 e13 ?_
          exact t49_86 hx1 hr2 hx3 w
    · have w := w.neg e7
      refine mE_icmp_ne_T (t := 54) c49_47 rfl u3 g6 e7 ?_
      refine mE_iconst c49_54 ?_
      refine mE_istore (ls2 := [some (.ref 2), some (.int (Int32.ofInt x1)), some (.ref r2), some (.int (Int32.ofInt x3)), some (.int (Int32.ofInt 0))]) c49_55 (Nat.le_of_ble_eq_true rfl) rfl ?_
      refine mE_iload c49_57 rfl ?_
      refine mE_if_eq_T (t := 86) c49_59 rfl (r4_n rfl) (by decide) ?_
      exact t49_86 hx1 hr2 hx3 w
  · have w := w.neg e1
    refine mE_icmp_ge_T (t := 92) c49_24 rfl hx3 hx1 e1 ?_
    have w := w.oinr
    refine mE_iconst c49_92 ?_
    exact mE_iret c49_93 qr49 (r4_n rfl) w.osome
theorem t49_22 {X : Nat × Nat × qC} {d : Nat} {x1 : Int} {r2 : Nat} {x3 : Int} {M : Mm} {o4 : Option Value} {R : Int × Mm → Prop} (hx1 : R4 x1) (hr2 : isSt X.1 r2) (hx3 : R4 x3) (w : Wp (f49_22 x1 r2 x3 M) R) : mE X (d + 6) 49 1 22 [some (.ref 2), some (.int (Int32.ofInt x1)), some (.ref r2), some (.int (Int32.ofInt x3)), o4] [] M (fun v M2 => R (v, M2)) :=
  Wp.olp (f := fun s : Int × Mm => lb49_22 x1 r2 s.1 s.2) (s := (x3, M)) (E := E49_22 X d x1 r2 R) w (fun s w hx3 _ => tb49_22 hx1 hr2 hx3 w) hx3 _
noncomputable def f49 (x1 : Int) (M : Mm) : Option (Int × Mm) :=
  gd (0 ≤ x1 ∧ x1 < 400) (
  (f73 (M 101 (x1).toNat) M).bind fun v3 =>
  if v3 = 0 then
  (some ((-1), M))
  else
  (gd (isSt (M 0 0).toNat v3.toNat) (
  f49_22 x1 v3.toNat 0 M)))
theorem t49 {X : Nat × Nat × qC} {d : Nat} {x1 : Int} {M : Mm}  {R : Int × Mm → Prop} (hx1 : R4 x1) (w : Wp (f49 x1 M) R) : mE X (d + 6) 49 1 0 [some (.ref 2), some (.int (Int32.ofInt x1)), none, none, none] [] M (fun v M2 => R (v, M2)) := by
  refine mE_aload_n c49_0 rfl ?_
  refine mE_aload_n c49_1 rfl ?_
  refine mE_getA c49_2 qo49 qF11_55 (ok_lit rfl rfl rfl) rfl ⟨by decide, by decide⟩ ?_
  refine mE_getA c49_5 qo49 qF11_251 (ok_lit rfl rfl rfl) rfl ⟨by decide, by decide⟩ ?_
  refine mE_iload_n c49_8 rfl ?_
  obtain ⟨g1, w⟩ := w.ogd
  refine mE_iaload c49_9 (ok_lit rfl rfl rfl) hx1 g1 ?_
  intro u2
  refine mE_virtual3 (b := 2) (as := [.int (Int32.ofInt (M 101 (x1).toNat))]) (r := []) c49_10 qo49 qK11_285 qo73 rfl rfl rfl (ok_lit rfl rfl rfl) (Nat.le_of_ble_eq_true rfl) (s73 (d := d + 4) u2 w.obind) ?_
  rintro v3 _ q5 ⟨rfl, w⟩
  by_cases e6 : v3 = 0
  · have w := w.pos e6
    rw [if_pos e6]
    refine mE_astore_nN (ls2 := [some (.ref 2), some (.int (Int32.ofInt x1)), some (.null), none, none]) c49_13 (Nat.le_of_ble_eq_true rfl) rfl ?_
    refine mE_aload_nN c49_14 rfl ?_
    refine mE_ifnonnull_F c49_15 ?_
    refine mE_iconst c49_18 ?_
    exact mE_iret c49_19 qr49 (r4_n rfl) w.osome
  · have w := w.neg e6
    obtain ⟨g7, w⟩ := w.ogd
    rw [if_neg e6]
    refine mE_n0 (fun z8 => ?_)
    have j9 := n0_st z8 g7
    refine mE_astore_n (ls2 := [some (.ref 2), some (.int (Int32.ofInt x1)), some (.ref v3.toNat), none, none]) c49_13 (Nat.le_of_ble_eq_true rfl) rfl ?_
    refine mE_aload_n c49_14 rfl ?_
    refine mE_ifnonnull_T (t := 20) c49_15 rfl ?_
    refine mE_iconst c49_20 ?_
    refine mE_istore_n (ls2 := [some (.ref 2), some (.int (Int32.ofInt x1)), some (.ref v3.toNat), some (.int (Int32.ofInt 0)), none]) c49_21 (Nat.le_of_ble_eq_true rfl) rfl ?_
    exact t49_22 hx1 j9 (r4_n rfl) w
theorem s49 {X : Nat × Nat × qC} {d : Nat} {x1 : Int} {M : Mm} {R : Int × Mm → Prop} (hx1 : R4 x1) (w : Wp (f49 x1 M) R) : mC X (d + 7) 49 1 [.ref 2, .int (Int32.ofInt x1)] M (fun v M2 => R (v, M2)) :=
  mC_of (qent_mk qx49 rfl rfl rfl) (t49 hx1 w)
/-! SaggingNet.event -/
noncomputable def f45 (x1 : Int) (x2 : Int) (M : Mm) : Option (Int × Mm) :=
  (f206 x1 M).bind fun v1 =>
  if v1 = 0 then
  (some ((-1), M))
  else
  (if x2 = 0 then
  (gd (0 ≤ x1 ∧ x1 < 400) (
  some ((M 99 (x1).toNat), M)))
  else
  (if x2 = 1 then
  (gd (0 ≤ x1 ∧ x1 < 400) (
  some ((M 100 (x1).toNat), M)))
  else
  (if x2 = 2 then
  (gd (0 ≤ x1 ∧ x1 < 400) (
  some ((M 101 (x1).toNat), M)))
  else
  (if x2 = 3 then
  (obnd (f49 x1 M) fun v9 M10 =>
  some (v9, M10))
  else
  (some ((-1), M))))))
theorem t45 {X : Nat × Nat × qC} {d : Nat} {x1 : Int} {x2 : Int} {M : Mm}  {R : Int × Mm → Prop} (hx1 : R4 x1) (hx2 : R4 x2) (w : Wp (f45 x1 x2 M) R) : mE X (d + 7) 45 1 0 [some (.ref 2), some (.int (Int32.ofInt x1)), some (.int (Int32.ofInt x2))] [] M (fun v M2 => R (v, M2)) := by
  refine mE_aload_n c45_0 rfl ?_
  refine mE_getA c45_1 qo45 qF11_55 (ok_lit rfl rfl rfl) rfl ⟨by decide, by decide⟩ ?_
  refine mE_iload_n c45_4 rfl ?_
  refine mE_virtual1 (b := 98) (as := [.int (Int32.ofInt x1)]) (r := []) c45_5 qo45 qK11_242 qo206 rfl rfl rfl (ok_lit rfl rfl rfl) (Nat.le_of_ble_eq_true rfl) (s206 (d := d + 6) hx1 w.obind) ?_
  rintro v1 _ q3 ⟨rfl, w⟩
  by_cases e4 : v1 = 0
  · have w := w.pos e4
    refine mE_if_ne_F (t := 13) c45_8 rfl q3 e4 ?_
    refine mE_iconst c45_11 ?_
    exact mE_iret c45_12 qr45 (r4_n rfl) w.osome
  · have w := w.neg e4
    refine mE_if_ne_T (t := 13) c45_8 rfl q3 e4 ?_
    refine mE_iload_n c45_13 rfl ?_
    by_cases e5 : x2 = 0
    · have w := w.pos e5
      refine mE_table (off := 30) (t := 44) c45_14 hx2 e5 (by decide) rfl rfl ?_
      refine mE_aload_n c45_44 rfl ?_
      refine mE_getA c45_45 qo45 qF11_55 (ok_lit rfl rfl rfl) rfl ⟨by decide, by decide⟩ ?_
      refine mE_getA c45_48 qo45 qF11_245 (ok_lit rfl rfl rfl) rfl ⟨by decide, by decide⟩ ?_
      refine mE_iload_n c45_51 rfl ?_
      obtain ⟨g6, w⟩ := w.ogd
      refine mE_iaload c45_52 (ok_lit rfl rfl rfl) hx1 g6 ?_
      intro u7
      exact mE_iret c45_53 qr45 u7 w.osome
    have w := w.neg e5
    by_cases e6 : x2 = 1
    · have w := w.pos e6
      refine mE_table (off := 40) (t := 54) c45_14 hx2 e6 (by decide) rfl rfl ?_
      refine mE_aload_n c45_54 rfl ?_
      refine mE_getA c45_55 qo45 qF11_55 (ok_lit rfl rfl rfl) rfl ⟨by decide, by decide⟩ ?_
      refine mE_getA c45_58 qo45 qF11_248 (ok_lit rfl rfl rfl) rfl ⟨by decide, by decide⟩ ?_
      refine mE_iload_n c45_61 rfl ?_
      obtain ⟨g7, w⟩ := w.ogd
      refine mE_iaload c45_62 (ok_lit rfl rfl rfl) hx1 g7 ?_
      intro u8
      exact mE_iret c45_63 qr45 u8 w.osome
    have w := w.neg e6
    by_cases e7 : x2 = 2
    · have w := w.pos e7
      refine mE_table (off := 50) (t := 64) c45_14 hx2 e7 (by decide) rfl rfl ?_
      refine mE_aload_n c45_64 rfl ?_
      refine mE_getA c45_65 qo45 qF11_55 (ok_lit rfl rfl rfl) rfl ⟨by decide, by decide⟩ ?_
      refine mE_getA c45_68 qo45 qF11_251 (ok_lit rfl rfl rfl) rfl ⟨by decide, by decide⟩ ?_
      refine mE_iload_n c45_71 rfl ?_
      obtain ⟨g8, w⟩ := w.ogd
      refine mE_iaload c45_72 (ok_lit rfl rfl rfl) hx1 g8 ?_
      intro u9
      exact mE_iret c45_73 qr45 u9 w.osome
    have w := w.neg e7
    by_cases e8 : x2 = 3
    · have w := w.pos e8
      refine mE_table (off := 60) (t := 74) c45_14 hx2 e8 (by decide) rfl rfl ?_
      refine mE_aload_n c45_74 rfl ?_
      refine mE_iload_n c45_75 rfl ?_
      refine mE_virtual1 (b := 2) (as := [.int (Int32.ofInt x1)]) (r := []) c45_76 qo45 qK11_254 qo49 rfl rfl rfl (ok_lit rfl rfl rfl) (Nat.le_of_ble_eq_true rfl) (s49 (d := d + 0) hx1 w.oc) ?_
      intro v9 M10 q11 w
      exact mE_iret c45_79 qr45 q11 w.osome
    have w := w.neg e8
    refine mE_tableD (t := 80) c45_14 hx2 (by omega) rfl ?_
    refine mE_iconst c45_80 ?_
    exact mE_iret c45_81 qr45 (r4_n rfl) w.osome
theorem s45 {X : Nat × Nat × qC} {d : Nat} {x1 : Int} {x2 : Int} {M : Mm} {R : Int × Mm → Prop} (hx1 : R4 x1) (hx2 : R4 x2) (w : Wp (f45 x1 x2 M) R) : mC X (d + 8) 45 1 [.ref 2, .int (Int32.ofInt x1), .int (Int32.ofInt x2)] M (fun v M2 => R (v, M2)) :=
  mC_of (qent_mk qx45 rfl rfl rfl) (t45 hx1 hx2 w)
/-! SaggingNet$Tape.hasRoom -/
noncomputable def f247  (M : Mm) : Option (Int) :=
  if 180 < (M 132 0) then
  (some 0)
  else
  (some 1)
theorem t247 {X : Nat × Nat × qC} {d : Nat}  {M : Mm}  {R : Int → Prop}  (w : Wp (f247  M) R) : mE X (d + 0) 247 1 0 [some (.ref 132)] [] M (fun v M2 => M = M2 ∧ R v) := by
  refine mE_aload_n c247_0 rfl ?_
  refine mE_getI c247_1 qo247 qF9_13 (ok_lit rfl rfl rfl) rfl ?_
  intro u1
  refine mE_sipush (x := 180) c247_4 rfl ?_
  by_cases e2 : 180 < (M 132 0)
  · have w := w.pos e2
    refine mE_icmp_gt_T (t := 14) c247_7 rfl u1 (r4_n rfl) e2 ?_
    refine mE_iconst c247_14 ?_
    exact mE_zret c247_15 qr247 (Or.inl rfl) ⟨rfl, w.osome⟩
  · have w := w.neg e2
    refine mE_icmp_gt_F (t := 14) c247_7 rfl u1 (r4_n rfl) e2 ?_
    refine mE_iconst c247_10 ?_
    refine mE_goto (t := 15) c247_11 rfl ?_
    exact mE_zret c247_15 qr247 (Or.inr rfl) ⟨rfl, w.osome⟩
theorem s247 {X : Nat × Nat × qC} {d : Nat}  {M : Mm} {R : Int → Prop}  (w : Wp (f247  M) R) : mC X (d + 1) 247 1 [.ref 132] M (fun v M2 => M = M2 ∧ R v) :=
  mC_of (qent_mk qx247 rfl rfl rfl) (t247  w)
/-! SaggingNet$Tape.append -/
def E246_3 (X : Nat × Nat × qC) (d : Nat) (x1 : Int) (R : Mm → Prop) : Int × Mm → Prop := fun s => R4 s.1 → mE X (d + 0) 246 0 3 [some (.ref 132), some (.int (Int32.ofInt x1)), some (.int (Int32.ofInt s.1))] [] s.2 (fun v M2 => R M2)
noncomputable def f246_43 (x1 : Int) (x2 : Int) (M : Mm) : Option ((Int × Mm) ⊕ (Mm)) :=
  gd (R4 (x2 + (-8))) (
  some (.inl ((x2 + (-8)), M)))
theorem t246_43 {X : Nat × Nat × qC} {d : Nat} {x1 : Int} {x2 : Int} {M : Mm}  {R : Mm → Prop} (hx1 : R4 x1) (hx2 : R4 x2) (w : Wp (f246_43 x1 x2 M) (Sum.elim (E246_3 X d x1 R) R)) : mE X (d + 0) 246 0 43 [some (.ref 132), some (.int (Int32.ofInt x1)), some (.int (Int32.ofInt x2))] [] M (fun v M2 => R M2) := by
  obtain ⟨g1, w⟩ := w.ogd
  refine mE_iinc (ls2 := [some (.ref 132), some (.int (Int32.ofInt x1)), some (.int (Int32.ofInt (x2 + (-8))))]) c246_43 rfl (Nat.le_of_ble_eq_true rfl) rfl ?_
  refine mE_goto (t := 3) c246_46 rfl ?_
  exact w.osome g1
noncomputable def lb246_3 (x1 : Int) (x2 : Int) (M : Mm) : Option ((Int × Mm) ⊕ (Mm)) :=
  if x2 < 0 then
  (oinr (some M))
  else
  (if (M 132 0) < 200 then
  (gd (0 ≤ (M 132 0) ∧ (M 132 0) < 200) (
  mlet (ms M 133 ((M 132 0)).toNat (bAnd (bUshr x1 x2) 255)) fun M6 =>
  gd (R4 ((M6 132 0) + 1)) (
  mlet (ms M6 132 0 ((M6 132 0) + 1)) fun M10 =>
  f246_43 x1 x2 M10)))
  else
  (f246_43 x1 x2 M))
noncomputable def f246_3 (x1 : Int) (x2 : Int) (M : Mm) : Option (Mm) := lp (fun s : Int × Mm => lb246_3 x1 s.1 s.2) (x2, M)
theorem tb246_3 {X : Nat × Nat × qC} {d : Nat} {x1 : Int} {x2 : Int} {M : Mm}  {R : Mm → Prop} (hx1 : R4 x1) (hx2 : R4 x2) (w : Wp (lb246_3 x1 x2 M) (Sum.elim (E246_3 X d x1 R) R)) : mE X (d + 0) 246 0 3 [some (.ref 132), some (.int (Int32.ofInt x1)), some (.int (Int32.ofInt x2))] [] M (fun v M2 => R M2) := by
  refine mE_iload_n c246_3 rfl ?_
  by_cases e1 : x2 < 0
  · have w := w.pos e1
    refine mE_if_lt_T (t := 49) c246_4 rfl hx2 e1 ?_
    have w := w.oinr
    exact mE_vret c246_49 qr246 w.osome
  · have w := w.neg e1
    refine mE_if_lt_F (t := 49) c246_4 rfl hx2 e1 ?_
    refine mE_aload_n c246_7 rfl ?_
    refine mE_getI c246_8 qo246 qF9_13 (ok_lit rfl rfl rfl) rfl ?_
    intro u2
    refine mE_sipush (x := 200) c246_11 rfl ?_
    by_cases e3 : (M 132 0) < 200
    · have w := w.pos e3
      refine mE_icmp_ge_F (t := 43) c246_14 rfl u2 (r4_n rfl) e3 ?_
      refine mE_aload_n c246_17 rfl ?_
      refine mE_getA c246_18 qo246 qF9_9 (ok_lit rfl rfl rfl) rfl ⟨by decide, by decide⟩ ?_
      refine mE_aload_n c246_21 rfl ?_
      refine mE_getI c246_22 qo246 qF9_13 (ok_lit rfl rfl rfl) rfl ?_
      intro u4
      refine mE_iload_n c246_25 rfl ?_
      refine mE_iload_n c246_26 rfl ?_
      refine mE_iushr c246_27 ?_
      refine mE_sipush (x := 255) c246_28 rfl ?_
      refine mE_iand c246_31 ?_
      obtain ⟨g5, w⟩ := w.ogd
      obtain ⟨M6, m7, w⟩ := w.mlet
      refine mE_iastore c246_32 (ok_lit rfl rfl rfl) u4 g5 (r4_and _ _) ?_
      refine mE_M m7 ?_
      refine mE_aload_n c246_33 rfl ?_
      refine mE_dup c246_34 rfl ?_
      refine mE_getI c246_35 qo246 qF9_13 (ok_lit rfl rfl rfl) rfl ?_
      intro u8
      refine mE_iconst c246_38 ?_
      obtain ⟨g9, w⟩ := w.ogd
      refine mE_iadd c246_39 ?_
      obtain ⟨M10, m11, w⟩ := w.mlet
      refine mE_putI c246_40 qo246 qF9_13 qz9_0 (ok_lit rfl rfl rfl) (Nat.le_of_ble_eq_true rfl) rfl g9 (by rw [qy9_0]; rfl) ?_
      refine mE_M m11 ?_
      exact t246_43 hx1 hx2 w
    · have w := w.neg e3
      refine mE_icmp_ge_T (t := 43) c246_14 rfl u2 (r4_n rfl) e3 ?_
      exact t246_43 hx1 hx2 w
theorem t246_3 {X : Nat × Nat × qC} {d : Nat} {x1 : Int} {x2 : Int} {M : Mm}  {R : Mm → Prop} (hx1 : R4 x1) (hx2 : R4 x2) (w : Wp (f246_3 x1 x2 M) R) : mE X (d + 0) 246 0 3 [some (.ref 132), some (.int (Int32.ofInt x1)), some (.int (Int32.ofInt x2))] [] M (fun v M2 => R M2) :=
  Wp.olp (f := fun s : Int × Mm => lb246_3 x1 s.1 s.2) (s := (x2, M)) (E := E246_3 X d x1 R) w (fun s w hx2 => tb246_3 hx1 hx2 w) hx2
noncomputable def f246 (x1 : Int) (M : Mm) : Option (Mm) :=
  f246_3 x1 24 M
theorem t246 {X : Nat × Nat × qC} {d : Nat} {x1 : Int} {M : Mm}  {R : Mm → Prop} (hx1 : R4 x1) (w : Wp (f246 x1 M) R) : mE X (d + 0) 246 0 0 [some (.ref 132), some (.int (Int32.ofInt x1)), none] [] M (fun v M2 => R M2) := by
  refine mE_bipush (x := 24) c246_0 rfl ?_
  refine mE_istore_n (ls2 := [some (.ref 132), some (.int (Int32.ofInt x1)), some (.int (Int32.ofInt 24))]) c246_2 (Nat.le_of_ble_eq_true rfl) rfl ?_
  exact t246_3 hx1 (r4_n rfl) w
theorem s246 {X : Nat × Nat × qC} {d : Nat} {x1 : Int} {M : Mm} {R : Mm → Prop} (hx1 : R4 x1) (w : Wp (f246 x1 M) R) : mC X (d + 1) 246 0 [.ref 132, .int (Int32.ofInt x1)] M (fun v M2 => R M2) :=
  mC_of (qent_mk qx246 rfl rfl rfl) (t246 hx1 w)
/-! SaggingNet.feed -/
noncomputable def f46 (x1 : Int) (x2 : Int) (x3 : Int) (x4 : Int) (x5 : Int) (M : Mm) : Option (Int × Mm) :=
  (f247 M).bind fun v1 =>
  if v1 = 0 then
  (some ((-1), M))
  else
  ((f246 x1 M).bind fun M6 =>
  (f246 x2 M6).bind fun M9 =>
  (f246 x3 M9).bind fun M12 =>
  (f246 x4 M12).bind fun M15 =>
  (f246 x5 M15).bind fun M18 =>
  some ((M18 132 0), M18))
theorem t46 {X : Nat × Nat × qC} {d : Nat} {x1 : Int} {x2 : Int} {x3 : Int} {x4 : Int} {x5 : Int} {M : Mm}  {R : Int × Mm → Prop} (hx1 : R4 x1) (hx2 : R4 x2) (hx3 : R4 x3) (hx4 : R4 x4) (hx5 : R4 x5) (w : Wp (f46 x1 x2 x3 x4 x5 M) R) : mE X (d + 1) 46 1 0 [some (.ref 2), some (.int (Int32.ofInt x1)), some (.int (Int32.ofInt x2)), some (.int (Int32.ofInt x3)), some (.int (Int32.ofInt x4)), some (.int (Int32.ofInt x5))] [] M (fun v M2 => R (v, M2)) := by
  refine mE_aload_n c46_0 rfl ?_
  refine mE_getA c46_1 qo46 qF11_83 (ok_lit rfl rfl rfl) rfl ⟨by decide, by decide⟩ ?_
  refine mE_virtual1 (b := 132) (as := []) (r := []) c46_4 qo46 qK11_164 qo247 rfl rfl rfl (ok_lit rfl rfl rfl) (Nat.le_of_ble_eq_true rfl) (s247 (d := d + 0) w.obind) ?_
  rintro v1 _ q3 ⟨rfl, w⟩
  by_cases e4 : v1 = 0
  · have w := w.pos e4
    refine mE_if_ne_F (t := 12) c46_7 rfl q3 e4 ?_
    refine mE_iconst c46_10 ?_
    exact mE_iret c46_11 qr46 (r4_n rfl) w.osome
  · have w := w.neg e4
    refine mE_if_ne_T (t := 12) c46_7 rfl q3 e4 ?_
    refine mE_aload_n c46_12 rfl ?_
    refine mE_getA c46_13 qo46 qF11_83 (ok_lit rfl rfl rfl) rfl ⟨by decide, by decide⟩ ?_
    refine mE_iload_n c46_16 rfl ?_
    refine mE_virtual0 (b := 132) (as := [.int (Int32.ofInt x1)]) (r := []) c46_17 qo46 qK11_168 qo246 rfl rfl rfl (ok_lit rfl rfl rfl) (Nat.le_of_ble_eq_true rfl) (s246 (d := d + 0) hx1 w.obind) ?_
    intro _ M6 w
    refine mE_aload_n c46_20 rfl ?_
    refine mE_getA c46_21 qo46 qF11_83 (ok_lit rfl rfl rfl) rfl ⟨by decide, by decide⟩ ?_
    refine mE_iload_n c46_24 rfl ?_
    refine mE_virtual0 (b := 132) (as := [.int (Int32.ofInt x2)]) (r := []) c46_25 qo46 qK11_168 qo246 rfl rfl rfl (ok_lit rfl rfl rfl) (Nat.le_of_ble_eq_true rfl) (s246 (d := d + 0) hx2 w.obind) ?_
    intro _ M9 w
    refine mE_aload_n c46_28 rfl ?_
    refine mE_getA c46_29 qo46 qF11_83 (ok_lit rfl rfl rfl) rfl ⟨by decide, by decide⟩ ?_
    refine mE_iload_n c46_32 rfl ?_
    refine mE_virtual0 (b := 132) (as := [.int (Int32.ofInt x3)]) (r := []) c46_33 qo46 qK11_168 qo246 rfl rfl rfl (ok_lit rfl rfl rfl) (Nat.le_of_ble_eq_true rfl) (s246 (d := d + 0) hx3 w.obind) ?_
    intro _ M12 w
    refine mE_aload_n c46_36 rfl ?_
    refine mE_getA c46_37 qo46 qF11_83 (ok_lit rfl rfl rfl) rfl ⟨by decide, by decide⟩ ?_
    refine mE_iload c46_40 rfl ?_
    refine mE_virtual0 (b := 132) (as := [.int (Int32.ofInt x4)]) (r := []) c46_42 qo46 qK11_168 qo246 rfl rfl rfl (ok_lit rfl rfl rfl) (Nat.le_of_ble_eq_true rfl) (s246 (d := d + 0) hx4 w.obind) ?_
    intro _ M15 w
    refine mE_aload_n c46_45 rfl ?_
    refine mE_getA c46_46 qo46 qF11_83 (ok_lit rfl rfl rfl) rfl ⟨by decide, by decide⟩ ?_
    refine mE_iload c46_49 rfl ?_
    refine mE_virtual0 (b := 132) (as := [.int (Int32.ofInt x5)]) (r := []) c46_51 qo46 qK11_168 qo246 rfl rfl rfl (ok_lit rfl rfl rfl) (Nat.le_of_ble_eq_true rfl) (s246 (d := d + 0) hx5 w.obind) ?_
    intro _ M18 w
    refine mE_aload_n c46_54 rfl ?_
    refine mE_getA c46_55 qo46 qF11_83 (ok_lit rfl rfl rfl) rfl ⟨by decide, by decide⟩ ?_
    refine mE_getI c46_58 qo46 qF11_172 (ok_lit rfl rfl rfl) rfl ?_
    intro u20
    exact mE_iret c46_61 qr46 u20 w.osome
theorem s46 {X : Nat × Nat × qC} {d : Nat} {x1 : Int} {x2 : Int} {x3 : Int} {x4 : Int} {x5 : Int} {M : Mm} {R : Int × Mm → Prop} (hx1 : R4 x1) (hx2 : R4 x2) (hx3 : R4 x3) (hx4 : R4 x4) (hx5 : R4 x5) (w : Wp (f46 x1 x2 x3 x4 x5 M) R) : mC X (d + 2) 46 1 [.ref 2, .int (Int32.ofInt x1), .int (Int32.ofInt x2), .int (Int32.ofInt x3), .int (Int32.ofInt x4), .int (Int32.ofInt x5)] M (fun v M2 => R (v, M2)) :=
  mC_of (qent_mk qx46 rfl rfl rfl) (t46 hx1 hx2 hx3 hx4 hx5 w)
/-! SaggingNet.firstBorne -/
def E48_2 (X : Nat × Nat × qC) (d : Nat)  (M : Mm) (R : Int → Prop) : Int → Prop := fun s => R4 s → mE X (d + 0) 48 1 2 [some (.ref 2), some (.int (Int32.ofInt s))] [] M (fun v M2 => M = M2 ∧ R v)
noncomputable def lb48_2 (x1 : Int) (M : Mm) : Option ((Int) ⊕ (Int)) :=
  if x1 < (M 24 0) then
  (if x1 < 499 then
  (gd (0 ≤ x1 ∧ x1 < 499) (
  if (M 30 (x1).toNat) = 0 then
  (gd (R4 (x1 + 1)) (
  some (.inl ((x1 + 1)))))
  else
  (oinr (some x1))))
  else
  (oinr (some (-1))))
  else
  (oinr (some (-1)))
noncomputable def f48_2 (x1 : Int) (M : Mm) : Option (Int) := lp (fun s : Int => lb48_2  s M) x1
theorem tb48_2 {X : Nat × Nat × qC} {d : Nat} {x1 : Int} {M : Mm}  {R : Int → Prop} (hx1 : R4 x1) (w : Wp (lb48_2 x1 M) (Sum.elim (E48_2 X d M R) R)) : mE X (d + 0) 48 1 2 [some (.ref 2), some (.int (Int32.ofInt x1))] [] M (fun v M2 => M = M2 ∧ R v) := by
  refine mE_iload_n c48_2 rfl ?_
  refine mE_aload_n c48_3 rfl ?_
  refine mE_getA c48_4 qo48 qF11_19 (ok_lit rfl rfl rfl) rfl ⟨by decide, by decide⟩ ?_
  refine mE_getI c48_7 qo48 qF11_97 (ok_lit rfl rfl rfl) rfl ?_
  intro u1
  by_cases e2 : x1 < (M 24 0)
  · have w := w.pos e2
    refine mE_icmp_ge_F (t := 37) c48_10 rfl hx1 u1 e2 ?_
    refine mE_iload_n c48_13 rfl ?_
    refine mE_sipush (x := 499) c48_14 rfl ?_
    by_cases e3 : x1 < 499
    · have w := w.pos e3
      refine mE_icmp_ge_F (t := 37) c48_17 rfl hx1 (r4_n rfl) e3 ?_
      refine mE_aload_n c48_20 rfl ?_
      refine mE_getA c48_21 qo48 qF11_27 (ok_lit rfl rfl rfl) rfl ⟨by decide, by decide⟩ ?_
      refine mE_iload_n c48_24 rfl ?_
      obtain ⟨g4, w⟩ := w.ogd
      refine mE_iaload c48_25 (ok_lit rfl rfl rfl) hx1 g4 ?_
      intro u5
      by_cases e6 : (M 30 (x1).toNat) = 0
      · have w := w.pos e6
        refine mE_if_eq_T (t := 31) c48_26 rfl u5 e6 ?_
        obtain ⟨g7, w⟩ := w.ogd
        refine mE_iinc (ls2 := [some (.ref 2), some (.int (Int32.ofInt (x1 + 1)))]) c48_31 rfl (Nat.le_of_ble_eq_true rfl) rfl ?_
        refine mE_goto (t := 2) c48_34 rfl ?_
        exact w.osome g7
      · have w := w.neg e6
        refine mE_if_eq_F (t := 31) c48_26 rfl u5 e6 ?_
        have w := w.oinr
        refine mE_iload_n c48_29 rfl ?_
        exact mE_iret c48_30 qr48 hx1 ⟨rfl, w.osome⟩
    · have w := w.neg e3
      refine mE_icmp_ge_T (t := 37) c48_17 rfl hx1 (r4_n rfl) e3 ?_
      have w := w.oinr
      refine mE_iconst c48_37 ?_
      exact mE_iret c48_38 qr48 (r4_n rfl) ⟨rfl, w.osome⟩
  · have w := w.neg e2
    refine mE_icmp_ge_T (t := 37) c48_10 rfl hx1 u1 e2 ?_
    have w := w.oinr
    refine mE_iconst c48_37 ?_
    exact mE_iret c48_38 qr48 (r4_n rfl) ⟨rfl, w.osome⟩
theorem t48_2 {X : Nat × Nat × qC} {d : Nat} {x1 : Int} {M : Mm}  {R : Int → Prop} (hx1 : R4 x1) (w : Wp (f48_2 x1 M) R) : mE X (d + 0) 48 1 2 [some (.ref 2), some (.int (Int32.ofInt x1))] [] M (fun v M2 => M = M2 ∧ R v) :=
  Wp.olp (f := fun s : Int => lb48_2  s M) (s := x1) (E := E48_2 X d  M R) w (fun s w hx1 => tb48_2 hx1 w) hx1
noncomputable def f48  (M : Mm) : Option (Int) :=
  f48_2 0 M
theorem t48 {X : Nat × Nat × qC} {d : Nat}  {M : Mm}  {R : Int → Prop}  (w : Wp (f48  M) R) : mE X (d + 0) 48 1 0 [some (.ref 2), none] [] M (fun v M2 => M = M2 ∧ R v) := by
  refine mE_iconst c48_0 ?_
  refine mE_istore_n (ls2 := [some (.ref 2), some (.int (Int32.ofInt 0))]) c48_1 (Nat.le_of_ble_eq_true rfl) rfl ?_
  exact t48_2 (r4_n rfl) w
theorem s48 {X : Nat × Nat × qC} {d : Nat}  {M : Mm} {R : Int → Prop}  (w : Wp (f48  M) R) : mC X (d + 1) 48 1 [.ref 2] M (fun v M2 => M = M2 ∧ R v) :=
  mC_of (qent_mk qx48 rfl rfl rfl) (t48  w)
/-! SaggingNet.flow -/
noncomputable def f50 (x1 : Int) (M : Mm) : Option (Int × Mm) :=
  (f215 x1 M).bind fun v1 =>
  if v1 = 0 then
  (some ((-1000000000), M))
  else
  ((f238 31 24 M).bind fun M6 =>
  gd (0 ≤ x1 ∧ x1 < 14) (
  some ((M6 36 (x1).toNat), M6)))
theorem t50 {X : Nat × Nat × qC} {d : Nat} {x1 : Int} {M : Mm}  {R : Int × Mm → Prop} (hx1 : R4 x1) (w : Wp (f50 x1 M) R) : mE X (d + 4) 50 2 0 [some (.ref 2), some (.int (Int32.ofInt x1))] [] M (fun v M2 => R (v, M2)) := by
  refine mE_aload_n c50_0 rfl ?_
  refine mE_getA c50_1 qo50 qF11_10 (ok_lit rfl rfl rfl) rfl ⟨by decide, by decide⟩ ?_
  refine mE_iload_n c50_4 rfl ?_
  refine mE_virtual1 (b := 3) (as := [.int (Int32.ofInt x1)]) (r := []) c50_5 qo50 qK11_140 qo215 rfl rfl rfl (ok_lit rfl rfl rfl) (Nat.le_of_ble_eq_true rfl) (s215 (d := d + 3) hx1 w.obind) ?_
  rintro v1 _ q3 ⟨rfl, w⟩
  by_cases e4 : v1 = 0
  · have w := w.pos e4
    refine mE_if_ne_F (t := 15) c50_8 rfl q3 e4 ?_
    refine mE_ldc2_w (x := (-1000000000)) c50_11 qo50 qJ11_215 rfl ?_
    exact mE_lret c50_14 qr50 (r8_n rfl) w.osome
  · have w := w.neg e4
    refine mE_if_ne_T (t := 15) c50_8 rfl q3 e4 ?_
    refine mE_aload_n c50_15 rfl ?_
    refine mE_getA c50_16 qo50 qF11_34 (ok_lit rfl rfl rfl) rfl ⟨by decide, by decide⟩ ?_
    refine mE_aload_n c50_19 rfl ?_
    refine mE_getA c50_20 qo50 qF11_10 (ok_lit rfl rfl rfl) rfl ⟨by decide, by decide⟩ ?_
    refine mE_aload_n c50_23 rfl ?_
    refine mE_getA c50_24 qo50 qF11_19 (ok_lit rfl rfl rfl) rfl ⟨by decide, by decide⟩ ?_
    refine mE_virtual0 (b := 31) (as := [.ref 3, .ref 24]) (r := []) c50_27 qo50 qK11_217 qo238 rfl rfl rfl (ok_lit rfl rfl rfl) (Nat.le_of_ble_eq_true rfl) (s238 (d := d + 0) isSg_31 isSt_24 w.obind) ?_
    intro _ M6 w
    refine mE_aload_n c50_30 rfl ?_
    refine mE_getA c50_31 qo50 qF11_34 (ok_lit rfl rfl rfl) rfl ⟨by decide, by decide⟩ ?_
    refine mE_getA c50_34 qo50 qF11_221 (ok_lit rfl rfl rfl) rfl ⟨by decide, by decide⟩ ?_
    refine mE_iload_n c50_37 rfl ?_
    obtain ⟨g8, w⟩ := w.ogd
    refine mE_laload c50_38 (ok_lit rfl rfl rfl) hx1 g8 ?_
    intro u9
    exact mE_lret c50_39 qr50 u9 w.osome
theorem s50 {X : Nat × Nat × qC} {d : Nat} {x1 : Int} {M : Mm} {R : Int × Mm → Prop} (hx1 : R4 x1) (w : Wp (f50 x1 M) R) : mC X (d + 5) 50 2 [.ref 2, .int (Int32.ofInt x1)] M (fun v M2 => R (v, M2)) :=
  mC_of (qent_mk qx50 rfl rfl rfl) (t50 hx1 w)
/-! SaggingNet$Screens.take -/
def E231_20 (X : Nat × Nat × qC) (d : Nat) (x2 : Int) (r3 : Nat) (r4 : Nat) (R : Mm → Prop) : Int × Mm → Prop := fun s => R4 s.1 → mE X (d + 0) 231 0 20 [some (.ref 102), some (.ref 3), some (.int (Int32.ofInt x2)), some (.ref r3), some (.ref r4), some (.int (Int32.ofInt s.1))] [] s.2 (fun v M2 => R M2)
noncomputable def lb231_20 (x2 : Int) (r3 : Nat) (r4 : Nat) (x5 : Int) (M : Mm) : Option ((Int × Mm) ⊕ (Mm)) :=
  if x5 < (M 3 1) then
  (gd (0 ≤ x2 ∧ x2 < 4) (
  gd (0 ≤ x5 ∧ x5 < 14) (
  if (M (r3 + 2) (x5).toNat) = 0 then
  (mlet (ms M 106 (x2).toNat (bOr (M 106 (x2).toNat) (bShl 1 x5))) fun M8 =>
  mlet (ms M8 (108 + (x2).toNat) (x5).toNat (M8 (r4 + 5) (x5).toNat)) fun M11 =>
  gd (R4 (x5 + 1)) (
  some (.inl ((x5 + 1), M11))))
  else
  (mlet (ms M 106 (x2).toNat (bOr (M 106 (x2).toNat) 0)) fun M8 =>
  mlet (ms M8 (108 + (x2).toNat) (x5).toNat (M8 (r4 + 5) (x5).toNat)) fun M11 =>
  gd (R4 (x5 + 1)) (
  some (.inl ((x5 + 1), M11)))))))
  else
  (oinr (some M))
noncomputable def f231_20 (x2 : Int) (r3 : Nat) (r4 : Nat) (x5 : Int) (M : Mm) : Option (Mm) := lp (fun s : Int × Mm => lb231_20 x2 r3 r4 s.1 s.2) (x5, M)
theorem tb231_20 {X : Nat × Nat × qC} {d : Nat} {x2 : Int} {r3 : Nat} {r4 : Nat} {x5 : Int} {M : Mm}  {R : Mm → Prop} (hx2 : R4 x2) (hr3 : isSt X.1 r3) (hr4 : isSg r4) (hx5 : R4 x5) (w : Wp (lb231_20 x2 r3 r4 x5 M) (Sum.elim (E231_20 X d x2 r3 r4 R) R)) : mE X (d + 0) 231 0 20 [some (.ref 102), some (.ref 3), some (.int (Int32.ofInt x2)), some (.ref r3), some (.ref r4), some (.int (Int32.ofInt x5))] [] M (fun v M2 => R M2) := by
  refine mE_iload c231_20 rfl ?_
  refine mE_aload_n c231_22 rfl ?_
  refine mE_getI c231_23 qo231 qF6_50 (ok_lit rfl rfl rfl) rfl ?_
  intro u1
  by_cases e2 : x5 < (M 3 1)
  · have w := w.pos e2
    refine mE_icmp_ge_F (t := 79) c231_26 rfl hx5 u1 e2 ?_
    refine mE_aload_n c231_29 rfl ?_
    refine mE_getA c231_30 qo231 qF6_22 (ok_lit rfl rfl rfl) rfl ⟨by decide, by decide⟩ ?_
    refine mE_iload_n c231_33 rfl ?_
    refine mE_dup2 c231_34 (Nat.ne_of_beq_eq_false rfl) rfl ?_
    obtain ⟨g3, w⟩ := w.ogd
    refine mE_iaload c231_35 (ok_lit rfl rfl rfl) hx2 g3 ?_
    intro u4
    refine mE_aload_n c231_36 rfl ?_
    refine mE_getA c231_37 qo231 qF6_53 (ok_st0 hr3) rfl (nz_st hr3 _) ?_
    refine mE_iload c231_40 rfl ?_
    obtain ⟨g5, w⟩ := w.ogd
    refine mE_iaload c231_42 (ok_st2 hr3) hx5 g5 ?_
    intro u6
    by_cases e7 : (M (r3 + 2) (x5).toNat) = 0
    · have w := w.pos e7
      refine mE_if_ne_F (t := 53) c231_43 rfl u6 e7 ?_
      refine mE_iconst c231_46 ?_
      refine mE_iload c231_47 rfl ?_
      refine mE_ishl c231_49 ?_
      refine mE_goto (t := 54) c231_50 rfl ?_
      refine mE_ior c231_54 ?_
      obtain ⟨M8, m9, w⟩ := w.mlet
      refine mE_iastore c231_55 (ok_lit rfl rfl rfl) hx2 g3 (r4_or _ _) ?_
      refine mE_M m9 ?_
      refine mE_aload_n c231_56 rfl ?_
      refine mE_getA c231_57 qo231 qF6_27 (ok_lit rfl rfl rfl) rfl ⟨by decide, by decide⟩ ?_
      refine mE_iload_n c231_60 rfl ?_
      refine mE_aaload3 c231_61 (ok_lit rfl rfl rfl) (Or.inr (Or.inr rfl)) hx2 g3 ?_
      refine mE_iload c231_62 rfl ?_
      refine mE_aload c231_64 rfl ?_
      refine mE_getA c231_66 qo231 qF6_56 (ok_sg0 hr4) rfl (nz_sg hr4 _) ?_
      refine mE_iload c231_69 rfl ?_
      refine mE_laload c231_71 (ok_sg5 hr4) hx5 g5 ?_
      intro u10
      obtain ⟨M11, m12, w⟩ := w.mlet
      refine mE_lastore c231_72 (ok_scr g3) hx5 g5 u10 ?_
      refine mE_M m12 ?_
      obtain ⟨g13, w⟩ := w.ogd
      refine mE_iinc (ls2 := [some (.ref 102), some (.ref 3), some (.int (Int32.ofInt x2)), some (.ref r3), some (.ref r4), some (.int (Int32.ofInt (x5 + 1)))]) c231_73 rfl (Nat.le_of_ble_eq_true rfl) rfl ?_
      refine mE_goto (t := 20) c231_76 rfl ?_
      exact w.osome g13
    · have w := w.neg e7
      refine mE_if_ne_T (t := 53) c231_43 rfl u6 e7 ?_
      refine mE_iconst c231_53 ?_
      refine mE_ior c231_54 ?_
      obtain ⟨M8, m9, w⟩ := w.mlet
      refine mE_iastore c231_55 (ok_lit rfl rfl rfl) hx2 g3 (r4_or _ _) ?_
      refine mE_M m9 ?_
      refine mE_aload_n c231_56 rfl ?_
      refine mE_getA c231_57 qo231 qF6_27 (ok_lit rfl rfl rfl) rfl ⟨by decide, by decide⟩ ?_
      refine mE_iload_n c231_60 rfl ?_
      refine mE_aaload3 c231_61 (ok_lit rfl rfl rfl) (Or.inr (Or.inr rfl)) hx2 g3 ?_
      refine mE_iload c231_62 rfl ?_
      refine mE_aload c231_64 rfl ?_
      refine mE_getA c231_66 qo231 qF6_56 (ok_sg0 hr4) rfl (nz_sg hr4 _) ?_
      refine mE_iload c231_69 rfl ?_
      refine mE_laload c231_71 (ok_sg5 hr4) hx5 g5 ?_
      intro u10
      obtain ⟨M11, m12, w⟩ := w.mlet
      refine mE_lastore c231_72 (ok_scr g3) hx5 g5 u10 ?_
      refine mE_M m12 ?_
      obtain ⟨g13, w⟩ := w.ogd
      refine mE_iinc (ls2 := [some (.ref 102), some (.ref 3), some (.int (Int32.ofInt x2)), some (.ref r3), some (.ref r4), some (.int (Int32.ofInt (x5 + 1)))]) c231_73 rfl (Nat.le_of_ble_eq_true rfl) rfl ?_
      refine mE_goto (t := 20) c231_76 rfl ?_
      exact w.osome g13
  · have w := w.neg e2
    refine mE_icmp_ge_T (t := 79) c231_26 rfl hx5 u1 e2 ?_
    have w := w.oinr
    exact mE_vret c231_79 qr231 w.osome
theorem t231_20 {X : Nat × Nat × qC} {d : Nat} {x2 : Int} {r3 : Nat} {r4 : Nat} {x5 : Int} {M : Mm}  {R : Mm → Prop} (hx2 : R4 x2) (hr3 : isSt X.1 r3) (hr4 : isSg r4) (hx5 : R4 x5) (w : Wp (f231_20 x2 r3 r4 x5 M) R) : mE X (d + 0) 231 0 20 [some (.ref 102), some (.ref 3), some (.int (Int32.ofInt x2)), some (.ref r3), some (.ref r4), some (.int (Int32.ofInt x5))] [] M (fun v M2 => R M2) :=
  Wp.olp (f := fun s : Int × Mm => lb231_20 x2 r3 r4 s.1 s.2) (s := (x5, M)) (E := E231_20 X d x2 r3 r4 R) w (fun s w hx5 => tb231_20 hx2 hr3 hr4 hx5 w) hx5
noncomputable def f231 (x2 : Int) (r3 : Nat) (r4 : Nat) (M : Mm) : Option (Mm) :=
  gd (0 ≤ x2 ∧ x2 < 4) (
  mlet (ms M 104 (x2).toNat (M r3 0)) fun M3 =>
  mlet (ms M3 106 (x2).toNat 0) fun M5 =>
  f231_20 x2 r3 r4 0 M5)
theorem t231 {X : Nat × Nat × qC} {d : Nat} {x2 : Int} {r3 : Nat} {r4 : Nat} {M : Mm}  {R : Mm → Prop} (hx2 : R4 x2) (hr3 : isSt X.1 r3) (hr4 : isSg r4) (w : Wp (f231 x2 r3 r4 M) R) : mE X (d + 0) 231 0 0 [some (.ref 102), some (.ref 3), some (.int (Int32.ofInt x2)), some (.ref r3), some (.ref r4), none] [] M (fun v M2 => R M2) := by
  refine mE_aload_n c231_0 rfl ?_
  refine mE_getA c231_1 qo231 qF6_15 (ok_lit rfl rfl rfl) rfl ⟨by decide, by decide⟩ ?_
  refine mE_iload_n c231_4 rfl ?_
  refine mE_aload_n c231_5 rfl ?_
  refine mE_getI c231_6 qo231 qF6_44 (ok_st0 hr3) rfl ?_
  intro u1
  obtain ⟨g2, w⟩ := w.ogd
  obtain ⟨M3, m4, w⟩ := w.mlet
  refine mE_iastore c231_9 (ok_lit rfl rfl rfl) hx2 g2 u1 ?_
  refine mE_M m4 ?_
  refine mE_aload_n c231_10 rfl ?_
  refine mE_getA c231_11 qo231 qF6_22 (ok_lit rfl rfl rfl) rfl ⟨by decide, by decide⟩ ?_
  refine mE_iload_n c231_14 rfl ?_
  refine mE_iconst c231_15 ?_
  obtain ⟨M5, m6, w⟩ := w.mlet
  refine mE_iastore c231_16 (ok_lit rfl rfl rfl) hx2 g2 (r4_n rfl) ?_
  refine mE_M m6 ?_
  refine mE_iconst c231_17 ?_
  refine mE_istore (ls2 := [some (.ref 102), some (.ref 3), some (.int (Int32.ofInt x2)), some (.ref r3), some (.ref r4), some (.int (Int32.ofInt 0))]) c231_18 (Nat.le_of_ble_eq_true rfl) rfl ?_
  exact t231_20 hx2 hr3 hr4 (r4_n rfl) w
theorem s231 {X : Nat × Nat × qC} {d : Nat} {x2 : Int} {r3 : Nat} {r4 : Nat} {M : Mm} {R : Mm → Prop} (hx2 : R4 x2) (hr3 : isSt X.1 r3) (hr4 : isSg r4) (w : Wp (f231 x2 r3 r4 M) R) : mC X (d + 1) 231 0 [.ref 102, .ref 3, .int (Int32.ofInt x2), .ref r3, .ref r4] M (fun v M2 => R M2) :=
  mC_of (qent_mk qx231 rfl rfl rfl) (t231 hx2 hr3 hr4 w)
/-! SaggingNet$Net.touches -/
noncomputable def f218 (x1 : Int) (x2 : Int) (M : Mm) : Option (Int) :=
  gd (0 ≤ x1 ∧ x1 < 14) (
  gd (0 ≤ (M 14 (x1).toNat) ∧ (M 14 (x1).toNat) < 8) (
  if (M 11 ((M 14 (x1).toNat)).toNat) = x2 then
  (some 1)
  else
  (gd (0 ≤ (M 15 (x1).toNat) ∧ (M 15 (x1).toNat) < 8) (
  if (M 11 ((M 15 (x1).toNat)).toNat) = x2 then
  (some 1)
  else
  (some 0)))))
theorem t218 {X : Nat × Nat × qC} {d : Nat} {x1 : Int} {x2 : Int} {M : Mm}  {R : Int → Prop} (hx1 : R4 x1) (hx2 : R4 x2) (w : Wp (f218 x1 x2 M) R) : mE X (d + 0) 218 1 0 [some (.ref 3), some (.int (Int32.ofInt x1)), some (.int (Int32.ofInt x2))] [] M (fun v M2 => M = M2 ∧ R v) := by
  refine mE_aload_n c218_0 rfl ?_
  refine mE_getA c218_1 qo218 qF4_22 (ok_lit rfl rfl rfl) rfl ⟨by decide, by decide⟩ ?_
  refine mE_aload_n c218_4 rfl ?_
  refine mE_getA c218_5 qo218 qF4_32 (ok_lit rfl rfl rfl) rfl ⟨by decide, by decide⟩ ?_
  refine mE_iload_n c218_8 rfl ?_
  obtain ⟨g1, w⟩ := w.ogd
  refine mE_iaload c218_9 (ok_lit rfl rfl rfl) hx1 g1 ?_
  intro u2
  obtain ⟨g3, w⟩ := w.ogd
  refine mE_iaload c218_10 (ok_lit rfl rfl rfl) u2 g3 ?_
  intro u4
  refine mE_iload_n c218_11 rfl ?_
  by_cases e5 : (M 11 ((M 14 (x1).toNat)).toNat) = x2
  · have w := w.pos e5
    refine mE_icmp_eq_T (t := 30) c218_12 rfl u4 hx2 e5 ?_
    refine mE_iconst c218_30 ?_
    refine mE_goto (t := 35) c218_31 rfl ?_
    exact mE_zret c218_35 qr218 (Or.inr rfl) ⟨rfl, w.osome⟩
  · have w := w.neg e5
    refine mE_icmp_eq_F (t := 30) c218_12 rfl u4 hx2 e5 ?_
    refine mE_aload_n c218_15 rfl ?_
    refine mE_getA c218_16 qo218 qF4_22 (ok_lit rfl rfl rfl) rfl ⟨by decide, by decide⟩ ?_
    refine mE_aload_n c218_19 rfl ?_
    refine mE_getA c218_20 qo218 qF4_35 (ok_lit rfl rfl rfl) rfl ⟨by decide, by decide⟩ ?_
    refine mE_iload_n c218_23 rfl ?_
    refine mE_iaload c218_24 (ok_lit rfl rfl rfl) hx1 g1 ?_
    intro u6
    obtain ⟨g7, w⟩ := w.ogd
    refine mE_iaload c218_25 (ok_lit rfl rfl rfl) u6 g7 ?_
    intro u8
    refine mE_iload_n c218_26 rfl ?_
    by_cases e9 : (M 11 ((M 15 (x1).toNat)).toNat) = x2
    · have w := w.pos e9
      refine mE_icmp_ne_F (t := 34) c218_27 rfl u8 hx2 e9 ?_
      refine mE_iconst c218_30 ?_
      refine mE_goto (t := 35) c218_31 rfl ?_
      exact mE_zret c218_35 qr218 (Or.inr rfl) ⟨rfl, w.osome⟩
    · have w := w.neg e9
      refine mE_icmp_ne_T (t := 34) c218_27 rfl u8 hx2 e9 ?_
      refine mE_iconst c218_34 ?_
      exact mE_zret c218_35 qr218 (Or.inl rfl) ⟨rfl, w.osome⟩
theorem s218 {X : Nat × Nat × qC} {d : Nat} {x1 : Int} {x2 : Int} {M : Mm} {R : Int → Prop} (hx1 : R4 x1) (hx2 : R4 x2) (w : Wp (f218 x1 x2 M) R) : mC X (d + 1) 218 1 [.ref 3, .int (Int32.ofInt x1), .int (Int32.ofInt x2)] M (fun v M2 => M = M2 ∧ R v) :=
  mC_of (qent_mk qx218 rfl rfl rfl) (t218 hx1 hx2 w)
/-! SaggingNet$Screens.shows -/
noncomputable def f230 (x2 : Int) (x3 : Int) (M : Mm) : Option (Int) :=
  gd (0 ≤ x2 ∧ x2 < 4) (
  if (M 104 (x2).toNat) = (-1) then
  (some 0)
  else
  ((f218 x3 x2 M).bind fun v4 =>
  if v4 = 0 then
  (some 0)
  else
  (some 1)))
theorem t230 {X : Nat × Nat × qC} {d : Nat} {x2 : Int} {x3 : Int} {M : Mm}  {R : Int → Prop} (hx2 : R4 x2) (hx3 : R4 x3) (w : Wp (f230 x2 x3 M) R) : mE X (d + 1) 230 1 0 [some (.ref 102), some (.ref 3), some (.int (Int32.ofInt x2)), some (.int (Int32.ofInt x3))] [] M (fun v M2 => M = M2 ∧ R v) := by
  refine mE_aload_n c230_0 rfl ?_
  refine mE_getA c230_1 qo230 qF6_15 (ok_lit rfl rfl rfl) rfl ⟨by decide, by decide⟩ ?_
  refine mE_iload_n c230_4 rfl ?_
  obtain ⟨g1, w⟩ := w.ogd
  refine mE_iaload c230_5 (ok_lit rfl rfl rfl) hx2 g1 ?_
  intro u2
  refine mE_iconst c230_6 ?_
  by_cases e3 : (M 104 (x2).toNat) = (-1)
  · have w := w.pos e3
    refine mE_icmp_eq_T (t := 23) c230_7 rfl u2 (r4_n rfl) e3 ?_
    refine mE_iconst c230_23 ?_
    exact mE_zret c230_24 qr230 (Or.inl rfl) ⟨rfl, w.osome⟩
  · have w := w.neg e3
    refine mE_icmp_eq_F (t := 23) c230_7 rfl u2 (r4_n rfl) e3 ?_
    refine mE_aload_n c230_10 rfl ?_
    refine mE_iload_n c230_11 rfl ?_
    refine mE_iload_n c230_12 rfl ?_
    refine mE_virtual1 (b := 3) (as := [.int (Int32.ofInt x3), .int (Int32.ofInt x2)]) (r := []) c230_13 qo230 qK6_30 qo218 rfl rfl rfl (ok_lit rfl rfl rfl) (Nat.le_of_ble_eq_true rfl) (s218 (d := d + 0) hx3 hx2 w.obind) ?_
    rintro v4 _ q6 ⟨rfl, w⟩
    by_cases e7 : v4 = 0
    · have w := w.pos e7
      refine mE_if_eq_T (t := 23) c230_16 rfl q6 e7 ?_
      refine mE_iconst c230_23 ?_
      exact mE_zret c230_24 qr230 (Or.inl rfl) ⟨rfl, w.osome⟩
    · have w := w.neg e7
      refine mE_if_eq_F (t := 23) c230_16 rfl q6 e7 ?_
      refine mE_iconst c230_19 ?_
      refine mE_goto (t := 24) c230_20 rfl ?_
      exact mE_zret c230_24 qr230 (Or.inr rfl) ⟨rfl, w.osome⟩
theorem s230 {X : Nat × Nat × qC} {d : Nat} {x2 : Int} {x3 : Int} {M : Mm} {R : Int → Prop} (hx2 : R4 x2) (hx3 : R4 x3) (w : Wp (f230 x2 x3 M) R) : mC X (d + 2) 230 1 [.ref 102, .ref 3, .int (Int32.ofInt x2), .int (Int32.ofInt x3)] M (fun v M2 => M = M2 ∧ R v) :=
  mC_of (qent_mk qx230 rfl rfl rfl) (t230 hx2 hx3 w)
/-! SaggingNet$Screens.differs -/
def E228_3 (X : Nat × Nat × qC) (d : Nat) (x2 : Int) (r3 : Nat) (r4 : Nat) (M : Mm) (R : Int → Prop) : Int → Prop := fun s => R4 s → ∀ (o6 : Option Value), ∀ (o7 : Option Value), mE X (d + 2) 228 1 3 [some (.ref 102), some (.ref 3), some (.int (Int32.ofInt x2)), some (.ref r3), some (.ref r4), some (.int (Int32.ofInt s)), o6, o7] [] M (fun v M2 => M = M2 ∧ R v)
noncomputable def f228_100 (x2 : Int) (r3 : Nat) (r4 : Nat) (x5 : Int) (M : Mm) : Option ((Int) ⊕ (Int)) :=
  gd (R4 (x5 + 1)) (
  some (.inl ((x5 + 1))))
theorem t228_100 {X : Nat × Nat × qC} {d : Nat} {x2 : Int} {r3 : Nat} {r4 : Nat} {x5 : Int} {M : Mm} {y6 : Int32} {y7 : Int32} {R : Int → Prop} (hx2 : R4 x2) (hr3 : isSt X.1 r3) (hr4 : isSg r4) (hx5 : R4 x5) (w : Wp (f228_100 x2 r3 r4 x5 M) (Sum.elim (E228_3 X d x2 r3 r4 M R) R)) : mE X (d + 2) 228 1 100 [some (.ref 102), some (.ref 3), some (.int (Int32.ofInt x2)), some (.ref r3), some (.ref r4), some (.int (Int32.ofInt x5)), some (.int y6), some (.int y7)] [] M (fun v M2 => M = M2 ∧ R v) := by
  obtain ⟨g1, w⟩ := w.ogd
  refine mE_iinc (ls2 := [some (.ref 102), some (.ref 3), some (.int (Int32.ofInt x2)), some (.ref r3), some (.ref r4), some (.int (Int32.ofInt (x5 + 1))), some (.int y6), some (.int y7)]) c228_100 rfl (Nat.le_of_ble_eq_true rfl) rfl ?_
  refine mE_goto (t := 3) c228_103 rfl ?_
  exact w.osome g1 _ _
noncomputable def f228_93 (x2 : Int) (r3 : Nat) (r4 : Nat) (x5 : Int) (x7 : Int) (M : Mm) : Option ((Int) ⊕ (Int)) :=
  if x7 = 0 then
  (oinr (some 1))
  else
  (f228_100 x2 r3 r4 x5 M)
theorem t228_93 {X : Nat × Nat × qC} {d : Nat} {x2 : Int} {r3 : Nat} {r4 : Nat} {x5 : Int} {x7 : Int} {M : Mm} {y6 : Int32} {R : Int → Prop} (hx2 : R4 x2) (hr3 : isSt X.1 r3) (hr4 : isSg r4) (hx5 : R4 x5) (hx7 : R4 x7) (w : Wp (f228_93 x2 r3 r4 x5 x7 M) (Sum.elim (E228_3 X d x2 r3 r4 M R) R)) : mE X (d + 2) 228 1 93 [some (.ref 102), some (.ref 3), some (.int (Int32.ofInt x2)), some (.ref r3), some (.ref r4), some (.int (Int32.ofInt x5)), some (.int y6), some (.int (Int32.ofInt x7))] [] M (fun v M2 => M = M2 ∧ R v) := by
  refine mE_iload c228_93 rfl ?_
  by_cases e1 : x7 = 0
  · have w := w.pos e1
    refine mE_if_ne_F (t := 100) c228_95 rfl hx7 e1 ?_
    have w := w.oinr
    refine mE_iconst c228_98 ?_
    exact mE_zret c228_99 qr228 (Or.inr rfl) ⟨rfl, w.osome⟩
  · have w := w.neg e1
    refine mE_if_ne_T (t := 100) c228_95 rfl hx7 e1 ?_
    exact t228_100 hx2 hr3 hr4 hx5 w
noncomputable def f228_75 (x2 : Int) (r3 : Nat) (r4 : Nat) (x5 : Int) (M : Mm) : Option ((Int) ⊕ (Int)) :=
  (f230 x2 x5 M).bind fun v1 =>
  if v1 = 0 then
  (f228_100 x2 r3 r4 x5 M)
  else
  (f228_93 x2 r3 r4 x5 1 M)
theorem t228_75 {X : Nat × Nat × qC} {d : Nat} {x2 : Int} {r3 : Nat} {r4 : Nat} {x5 : Int} {M : Mm} {y6 : Int32} {o7 : Option Value} {R : Int → Prop} (hx2 : R4 x2) (hr3 : isSt X.1 r3) (hr4 : isSg r4) (hx5 : R4 x5) (w : Wp (f228_75 x2 r3 r4 x5 M) (Sum.elim (E228_3 X d x2 r3 r4 M R) R)) : mE X (d + 2) 228 1 75 [some (.ref 102), some (.ref 3), some (.int (Int32.ofInt x2)), some (.ref r3), some (.ref r4), some (.int (Int32.ofInt x5)), some (.int y6), o7] [] M (fun v M2 => M = M2 ∧ R v) := by
  refine mE_iconst c228_75 ?_
  refine mE_goto (t := 80) c228_76 rfl ?_
  refine mE_istore (ls2 := [some (.ref 102), some (.ref 3), some (.int (Int32.ofInt x2)), some (.ref r3), some (.ref r4), some (.int (Int32.ofInt x5)), some (.int y6), some (.int (Int32.ofInt 1))]) c228_80 (Nat.le_of_ble_eq_true rfl) rfl ?_
  refine mE_aload_n c228_82 rfl ?_
  refine mE_aload_n c228_83 rfl ?_
  refine mE_iload_n c228_84 rfl ?_
  refine mE_iload c228_85 rfl ?_
  refine mE_virtual1 (b := 102) (as := [.ref 3, .int (Int32.ofInt x2), .int (Int32.ofInt x5)]) (r := []) c228_87 qo228 qK6_62 qo230 rfl rfl rfl (ok_lit rfl rfl rfl) (Nat.le_of_ble_eq_true rfl) (s230 (d := d + 0) hx2 hx5 w.obind) ?_
  rintro v1 _ q3 ⟨rfl, w⟩
  by_cases e4 : v1 = 0
  · have w := w.pos e4
    refine mE_if_eq_T (t := 100) c228_90 rfl q3 e4 ?_
    exact t228_100 hx2 hr3 hr4 hx5 w
  · have w := w.neg e4
    refine mE_if_eq_F (t := 100) c228_90 rfl q3 e4 ?_
    exact t228_93 hx2 hr3 hr4 hx5 (r4_n rfl) w
noncomputable def f228_79 (x2 : Int) (r3 : Nat) (r4 : Nat) (x5 : Int) (M : Mm) : Option ((Int) ⊕ (Int)) :=
  (f230 x2 x5 M).bind fun v1 =>
  if v1 = 0 then
  (f228_100 x2 r3 r4 x5 M)
  else
  (f228_93 x2 r3 r4 x5 0 M)
theorem t228_79 {X : Nat × Nat × qC} {d : Nat} {x2 : Int} {r3 : Nat} {r4 : Nat} {x5 : Int} {M : Mm} {y6 : Int32} {o7 : Option Value} {R : Int → Prop} (hx2 : R4 x2) (hr3 : isSt X.1 r3) (hr4 : isSg r4) (hx5 : R4 x5) (w : Wp (f228_79 x2 r3 r4 x5 M) (Sum.elim (E228_3 X d x2 r3 r4 M R) R)) : mE X (d + 2) 228 1 79 [some (.ref 102), some (.ref 3), some (.int (Int32.ofInt x2)), some (.ref r3), some (.ref r4), some (.int (Int32.ofInt x5)), some (.int y6), o7] [] M (fun v M2 => M = M2 ∧ R v) := by
  refine mE_iconst c228_79 ?_
  refine mE_istore (ls2 := [some (.ref 102), some (.ref 3), some (.int (Int32.ofInt x2)), some (.ref r3), some (.ref r4), some (.int (Int32.ofInt x5)), some (.int y6), some (.int (Int32.ofInt 0))]) c228_80 (Nat.le_of_ble_eq_true rfl) rfl ?_
  refine mE_aload_n c228_82 rfl ?_
  refine mE_aload_n c228_83 rfl ?_
  refine mE_iload_n c228_84 rfl ?_
  refine mE_iload c228_85 rfl ?_
  refine mE_virtual1 (b := 102) (as := [.ref 3, .int (Int32.ofInt x2), .int (Int32.ofInt x5)]) (r := []) c228_87 qo228 qK6_62 qo230 rfl rfl rfl (ok_lit rfl rfl rfl) (Nat.le_of_ble_eq_true rfl) (s230 (d := d + 0) hx2 hx5 w.obind) ?_
  rintro v1 _ q3 ⟨rfl, w⟩
  by_cases e4 : v1 = 0
  · have w := w.pos e4
    refine mE_if_eq_T (t := 100) c228_90 rfl q3 e4 ?_
    exact t228_100 hx2 hr3 hr4 hx5 w
  · have w := w.neg e4
    refine mE_if_eq_F (t := 100) c228_90 rfl q3 e4 ?_
    exact t228_93 hx2 hr3 hr4 hx5 (r4_n rfl) w
noncomputable def f228_54 (x2 : Int) (r3 : Nat) (r4 : Nat) (x5 : Int) (M : Mm) : Option ((Int) ⊕ (Int)) :=
  gd (0 ≤ x2 ∧ x2 < 4) (
  gd (0 ≤ x5 ∧ x5 < 14) (
  if (M (108 + (x2).toNat) (x5).toNat) = (M (r4 + 5) (x5).toNat) then
  (f228_75 x2 r3 r4 x5 M)
  else
  (f228_79 x2 r3 r4 x5 M)))
theorem t228_54 {X : Nat × Nat × qC} {d : Nat} {x2 : Int} {r3 : Nat} {r4 : Nat} {x5 : Int} {M : Mm} {y6 : Int32} {o7 : Option Value} {R : Int → Prop} (hx2 : R4 x2) (hr3 : isSt X.1 r3) (hr4 : isSg r4) (hx5 : R4 x5) (w : Wp (f228_54 x2 r3 r4 x5 M) (Sum.elim (E228_3 X d x2 r3 r4 M R) R)) : mE X (d + 2) 228 1 54 [some (.ref 102), some (.ref 3), some (.int (Int32.ofInt x2)), some (.ref r3), some (.ref r4), some (.int (Int32.ofInt x5)), some (.int y6), o7] [] M (fun v M2 => M = M2 ∧ R v) := by
  refine mE_aload_n c228_54 rfl ?_
  refine mE_getA c228_55 qo228 qF6_27 (ok_lit rfl rfl rfl) rfl ⟨by decide, by decide⟩ ?_
  refine mE_iload_n c228_58 rfl ?_
  obtain ⟨g1, w⟩ := w.ogd
  refine mE_aaload3 c228_59 (ok_lit rfl rfl rfl) (Or.inr (Or.inr rfl)) hx2 g1 ?_
  refine mE_iload c228_60 rfl ?_
  obtain ⟨g2, w⟩ := w.ogd
  refine mE_laload c228_62 (ok_scr g1) hx5 g2 ?_
  intro u3
  refine mE_aload c228_63 rfl ?_
  refine mE_getA c228_65 qo228 qF6_56 (ok_sg0 hr4) rfl (nz_sg hr4 _) ?_
  refine mE_iload c228_68 rfl ?_
  refine mE_laload c228_70 (ok_sg5 hr4) hx5 g2 ?_
  intro u4
  by_cases e5 : (M (108 + (x2).toNat) (x5).toNat) = (M (r4 + 5) (x5).toNat)
  · have w := w.pos e5
    refine mE_lcmp_ne_F (t := 79) c228_71 c228_72 rfl u3 u4 e5 ?_
    exact t228_75 hx2 hr3 hr4 hx5 w
  · have w := w.neg e5
    refine mE_lcmp_ne_T (t := 79) c228_71 c228_72 rfl u3 u4 e5 ?_
    exact t228_79 hx2 hr3 hr4 hx5 w
noncomputable def lb228_3 (x2 : Int) (r3 : Nat) (r4 : Nat) (x5 : Int) (M : Mm) : Option ((Int) ⊕ (Int)) :=
  if x5 < (M 3 1) then
  (gd (0 ≤ x2 ∧ x2 < 4) (
  if (bAnd (bShr (M 106 (x2).toNat) x5) 1) = 1 then
  (gd (0 ≤ x5 ∧ x5 < 14) (
  if (M (r3 + 2) (x5).toNat) = 0 then
  (f228_54 x2 r3 r4 x5 M)
  else
  (f228_79 x2 r3 r4 x5 M)))
  else
  (gd (0 ≤ x5 ∧ x5 < 14) (
  if (M (r3 + 2) (x5).toNat) = 0 then
  (f228_79 x2 r3 r4 x5 M)
  else
  (f228_54 x2 r3 r4 x5 M)))))
  else
  (oinr (some 0))
noncomputable def f228_3 (x2 : Int) (r3 : Nat) (r4 : Nat) (x5 : Int) (M : Mm) : Option (Int) := lp (fun s : Int => lb228_3 x2 r3 r4 s M) x5
theorem tb228_3 {X : Nat × Nat × qC} {d : Nat} {x2 : Int} {r3 : Nat} {r4 : Nat} {x5 : Int} {M : Mm} {o6 : Option Value} {o7 : Option Value} {R : Int → Prop} (hx2 : R4 x2) (hr3 : isSt X.1 r3) (hr4 : isSg r4) (hx5 : R4 x5) (w : Wp (lb228_3 x2 r3 r4 x5 M) (Sum.elim (E228_3 X d x2 r3 r4 M R) R)) : mE X (d + 2) 228 1 3 [some (.ref 102), some (.ref 3), some (.int (Int32.ofInt x2)), some (.ref r3), some (.ref r4), some (.int (Int32.ofInt x5)), o6, o7] [] M (fun v M2 => M = M2 ∧ R v) := by
  refine mE_iload c228_3 rfl ?_
  refine mE_aload_n c228_5 rfl ?_
  refine mE_getI c228_6 qo228 qF6_50 (ok_lit rfl rfl rfl) rfl ?_
  intro u1
  by_cases e2 : x5 < (M 3 1)
  · have w := w.pos e2
    refine mE_icmp_ge_F (t := 106) c228_9 rfl hx5 u1 e2 ?_
    refine mE_aload_n c228_12 rfl ?_
    refine mE_getA c228_13 qo228 qF6_22 (ok_lit rfl rfl rfl) rfl ⟨by decide, by decide⟩ ?_
    refine mE_iload_n c228_16 rfl ?_
    obtain ⟨g3, w⟩ := w.ogd
    refine mE_iaload c228_17 (ok_lit rfl rfl rfl) hx2 g3 ?_
    intro u4
    refine mE_iload c228_18 rfl ?_
    refine mE_ishr c228_20 ?_
    refine mE_iconst c228_21 ?_
    refine mE_iand c228_22 ?_
    refine mE_iconst c228_23 ?_
    by_cases e5 : (bAnd (bShr (M 106 (x2).toNat) x5) 1) = 1
    · have w := w.pos e5
      refine mE_icmp_ne_F (t := 31) c228_24 rfl (r4_and _ _) (r4_n rfl) e5 ?_
      refine mE_iconst c228_27 ?_
      refine mE_goto (t := 32) c228_28 rfl ?_
      refine mE_istore (ls2 := [some (.ref 102), some (.ref 3), some (.int (Int32.ofInt x2)), some (.ref r3), some (.ref r4), some (.int (Int32.ofInt x5)), some (.int (Int32.ofInt 1)), o7]) c228_32 (Nat.le_of_ble_eq_true rfl) rfl ?_
      refine mE_iload c228_34 rfl ?_
      refine mE_aload_n c228_36 rfl ?_
      refine mE_getA c228_37 qo228 qF6_53 (ok_st0 hr3) rfl (nz_st hr3 _) ?_
      refine mE_iload c228_40 rfl ?_
      obtain ⟨g6, w⟩ := w.ogd
      refine mE_iaload c228_42 (ok_st2 hr3) hx5 g6 ?_
      intro u7
      by_cases e8 : (M (r3 + 2) (x5).toNat) = 0
      · have w := w.pos e8
        refine mE_if_ne_F (t := 50) c228_43 rfl u7 e8 ?_
        refine mE_iconst c228_46 ?_
        refine mE_goto (t := 51) c228_47 rfl ?_
        refine mE_icmp_ne_F (t := 79) c228_51 rfl (r4_n rfl) (r4_n rfl) (by decide) ?_
        exact t228_54 hx2 hr3 hr4 hx5 w
      · have w := w.neg e8
        refine mE_if_ne_T (t := 50) c228_43 rfl u7 e8 ?_
        refine mE_iconst c228_50 ?_
        refine mE_icmp_ne_T (t := 79) c228_51 rfl (r4_n rfl) (r4_n rfl) (by decide) ?_
        exact t228_79 hx2 hr3 hr4 hx5 w
    · have w := w.neg e5
      refine mE_icmp_ne_T (t := 31) c228_24 rfl (r4_and _ _) (r4_n rfl) e5 ?_
      refine mE_iconst c228_31 ?_
      refine mE_istore (ls2 := [some (.ref 102), some (.ref 3), some (.int (Int32.ofInt x2)), some (.ref r3), some (.ref r4), some (.int (Int32.ofInt x5)), some (.int (Int32.ofInt 0)), o7]) c228_32 (Nat.le_of_ble_eq_true rfl) rfl ?_
      refine mE_iload c228_34 rfl ?_
      refine mE_aload_n c228_36 rfl ?_
      refine mE_getA c228_37 qo228 qF6_53 (ok_st0 hr3) rfl (nz_st hr3 _) ?_
      refine mE_iload c228_40 rfl ?_
      obtain ⟨g6, w⟩ := w.ogd
      refine mE_iaload c228_42 (ok_st2 hr3) hx5 g6 ?_
      intro u7
      by_cases e8 : (M (r3 + 2) (x5).toNat) = 0
      · have w := w.pos e8
        refine mE_if_ne_F (t := 50) c228_43 rfl u7 e8 ?_
        refine mE_iconst c228_46 ?_
        refine mE_goto (t := 51) c228_47 rfl ?_
        refine mE_icmp_ne_T (t := 79) c228_51 rfl (r4_n rfl) (r4_n rfl) (by decide) ?_
        exact t228_79 hx2 hr3 hr4 hx5 w
      · have w := w.neg e8
        refine mE_if_ne_T (t := 50) c228_43 rfl u7 e8 ?_
        refine mE_iconst c228_50 ?_
        refine mE_icmp_ne_F (t := 79) c228_51 rfl (r4_n rfl) (r4_n rfl) (by decide) ?_
        exact t228_54 hx2 hr3 hr4 hx5 w
  · have w := w.neg e2
    refine mE_icmp_ge_T (t := 106) c228_9 rfl hx5 u1 e2 ?_
    have w := w.oinr
    refine mE_iconst c228_106 ?_
    exact mE_zret c228_107 qr228 (Or.inl rfl) ⟨rfl, w.osome⟩
theorem t228_3 {X : Nat × Nat × qC} {d : Nat} {x2 : Int} {r3 : Nat} {r4 : Nat} {x5 : Int} {M : Mm} {o6 : Option Value} {o7 : Option Value} {R : Int → Prop} (hx2 : R4 x2) (hr3 : isSt X.1 r3) (hr4 : isSg r4) (hx5 : R4 x5) (w : Wp (f228_3 x2 r3 r4 x5 M) R) : mE X (d + 2) 228 1 3 [some (.ref 102), some (.ref 3), some (.int (Int32.ofInt x2)), some (.ref r3), some (.ref r4), some (.int (Int32.ofInt x5)), o6, o7] [] M (fun v M2 => M = M2 ∧ R v) :=
  Wp.olp (f := fun s : Int => lb228_3 x2 r3 r4 s M) (s := x5) (E := E228_3 X d x2 r3 r4 M R) w (fun s w hx5 _ _ => tb228_3 hx2 hr3 hr4 hx5 w) hx5 _ _
noncomputable def f228 (x2 : Int) (r3 : Nat) (r4 : Nat) (M : Mm) : Option (Int) :=
  f228_3 x2 r3 r4 0 M
theorem t228 {X : Nat × Nat × qC} {d : Nat} {x2 : Int} {r3 : Nat} {r4 : Nat} {M : Mm}  {R : Int → Prop} (hx2 : R4 x2) (hr3 : isSt X.1 r3) (hr4 : isSg r4) (w : Wp (f228 x2 r3 r4 M) R) : mE X (d + 2) 228 1 0 [some (.ref 102), some (.ref 3), some (.int (Int32.ofInt x2)), some (.ref r3), some (.ref r4), none, none, none] [] M (fun v M2 => M = M2 ∧ R v) := by
  refine mE_iconst c228_0 ?_
  refine mE_istore (ls2 := [some (.ref 102), some (.ref 3), some (.int (Int32.ofInt x2)), some (.ref r3), some (.ref r4), some (.int (Int32.ofInt 0)), none, none]) c228_1 (Nat.le_of_ble_eq_true rfl) rfl ?_
  exact t228_3 hx2 hr3 hr4 (r4_n rfl) w
theorem s228 {X : Nat × Nat × qC} {d : Nat} {x2 : Int} {r3 : Nat} {r4 : Nat} {M : Mm} {R : Int → Prop} (hx2 : R4 x2) (hr3 : isSt X.1 r3) (hr4 : isSg r4) (w : Wp (f228 x2 r3 r4 M) R) : mC X (d + 3) 228 1 [.ref 102, .ref 3, .int (Int32.ofInt x2), .ref r3, .ref r4] M (fun v M2 => M = M2 ∧ R v) :=
  mC_of (qent_mk qx228 rfl rfl rfl) (t228 hx2 hr3 hr4 w)
/-! SaggingNet$Screens.takeIn -/
def E232_3 (X : Nat × Nat × qC) (d : Nat) (r2 : Nat) (r3 : Nat) (R : Mm → Prop) : Int × Mm → Prop := fun s => R4 s.1 → mE X (d + 3) 232 0 3 [some (.ref 102), some (.ref 3), some (.ref r2), some (.ref r3), some (.int (Int32.ofInt s.1))] [] s.2 (fun v M2 => R M2)
noncomputable def f232_65 (r2 : Nat) (r3 : Nat) (x4 : Int) (M : Mm) : Option ((Int × Mm) ⊕ (Mm)) :=
  gd (R4 (x4 + 1)) (
  some (.inl ((x4 + 1), M)))
theorem t232_65 {X : Nat × Nat × qC} {d : Nat} {r2 : Nat} {r3 : Nat} {x4 : Int} {M : Mm}  {R : Mm → Prop} (hr2 : isSt X.1 r2) (hr3 : isSg r3) (hx4 : R4 x4) (w : Wp (f232_65 r2 r3 x4 M) (Sum.elim (E232_3 X d r2 r3 R) R)) : mE X (d + 3) 232 0 65 [some (.ref 102), some (.ref 3), some (.ref r2), some (.ref r3), some (.int (Int32.ofInt x4))] [] M (fun v M2 => R M2) := by
  obtain ⟨g1, w⟩ := w.ogd
  refine mE_iinc (ls2 := [some (.ref 102), some (.ref 3), some (.ref r2), some (.ref r3), some (.int (Int32.ofInt (x4 + 1)))]) c232_65 rfl (Nat.le_of_ble_eq_true rfl) rfl ?_
  refine mE_goto (t := 3) c232_68 rfl ?_
  exact w.osome g1
noncomputable def lb232_3 (r2 : Nat) (r3 : Nat) (x4 : Int) (M : Mm) : Option ((Int × Mm) ⊕ (Mm)) :=
  if x4 < 4 then
  (gd (0 ≤ x4 ∧ x4 < 4) (
  if (M 103 (x4).toNat) = 0 then
  ((f231 x4 r2 r3 M).bind fun M6 =>
  f232_65 r2 r3 x4 M6)
  else
  (if (M 105 (x4).toNat) = (-1) then
  ((f228 x4 r2 r3 M).bind fun v7 =>
  if v7 = 0 then
  (f232_65 r2 r3 x4 M)
  else
  (mlet (ms M 105 (x4).toNat (M r2 0)) fun M12 =>
  f232_65 r2 r3 x4 M12))
  else
  (f232_65 r2 r3 x4 M))))
  else
  (oinr (some M))
noncomputable def f232_3 (r2 : Nat) (r3 : Nat) (x4 : Int) (M : Mm) : Option (Mm) := lp (fun s : Int × Mm => lb232_3 r2 r3 s.1 s.2) (x4, M)
theorem tb232_3 {X : Nat × Nat × qC} {d : Nat} {r2 : Nat} {r3 : Nat} {x4 : Int} {M : Mm}  {R : Mm → Prop} (hr2 : isSt X.1 r2) (hr3 : isSg r3) (hx4 : R4 x4) (w : Wp (lb232_3 r2 r3 x4 M) (Sum.elim (E232_3 X d r2 r3 R) R)) : mE X (d + 3) 232 0 3 [some (.ref 102), some (.ref 3), some (.ref r2), some (.ref r3), some (.int (Int32.ofInt x4))] [] M (fun v M2 => R M2) := by
  refine mE_iload c232_3 rfl ?_
  refine mE_iconst c232_5 ?_
  by_cases e1 : x4 < 4
  · have w := w.pos e1
    refine mE_icmp_ge_F (t := 71) c232_6 rfl hx4 (r4_n rfl) e1 ?_
    refine mE_aload_n c232_9 rfl ?_
    refine mE_getA c232_10 qo232 qF6_9 (ok_lit rfl rfl rfl) rfl ⟨by decide, by decide⟩ ?_
    refine mE_iload c232_13 rfl ?_
    obtain ⟨g2, w⟩ := w.ogd
    refine mE_zaload c232_15 (ok_lit rfl rfl rfl) hx4 g2 ?_
    intro u3
    by_cases e4 : (M 103 (x4).toNat) = 0
    · have w := w.pos e4
      refine mE_if_ne_F (t := 31) c232_16 rfl u3 e4 ?_
      refine mE_aload_n c232_19 rfl ?_
      refine mE_aload_n c232_20 rfl ?_
      refine mE_iload c232_21 rfl ?_
      refine mE_aload_n c232_23 rfl ?_
      refine mE_aload_n c232_24 rfl ?_
      refine mE_virtual0 (b := 102) (as := [.ref 3, .int (Int32.ofInt x4), .ref r2, .ref r3]) (r := []) c232_25 qo232 qK6_36 qo231 rfl rfl rfl (ok_lit rfl rfl rfl) (Nat.le_of_ble_eq_true rfl) (s231 (d := d + 2) hx4 hr2 hr3 w.obind) ?_
      intro _ M6 w
      refine mE_goto (t := 65) c232_28 rfl ?_
      exact t232_65 hr2 hr3 hx4 w
    · have w := w.neg e4
      refine mE_if_ne_T (t := 31) c232_16 rfl u3 e4 ?_
      refine mE_aload_n c232_31 rfl ?_
      refine mE_getA c232_32 qo232 qF6_19 (ok_lit rfl rfl rfl) rfl ⟨by decide, by decide⟩ ?_
      refine mE_iload c232_35 rfl ?_
      refine mE_iaload c232_37 (ok_lit rfl rfl rfl) hx4 g2 ?_
      intro u5
      refine mE_iconst c232_38 ?_
      by_cases e6 : (M 105 (x4).toNat) = (-1)
      · have w := w.pos e6
        refine mE_icmp_ne_F (t := 65) c232_39 rfl u5 (r4_n rfl) e6 ?_
        refine mE_aload_n c232_42 rfl ?_
        refine mE_aload_n c232_43 rfl ?_
        refine mE_iload c232_44 rfl ?_
        refine mE_aload_n c232_46 rfl ?_
        refine mE_aload_n c232_47 rfl ?_
        refine mE_virtual1 (b := 102) (as := [.ref 3, .int (Int32.ofInt x4), .ref r2, .ref r3]) (r := []) c232_48 qo232 qK6_40 qo228 rfl rfl rfl (ok_lit rfl rfl rfl) (Nat.le_of_ble_eq_true rfl) (s228 (d := d + 0) hx4 hr2 hr3 w.obind) ?_
        rintro v7 _ q9 ⟨rfl, w⟩
        by_cases e10 : v7 = 0
        · have w := w.pos e10
          refine mE_if_eq_T (t := 65) c232_51 rfl q9 e10 ?_
          exact t232_65 hr2 hr3 hx4 w
        · have w := w.neg e10
          refine mE_if_eq_F (t := 65) c232_51 rfl q9 e10 ?_
          refine mE_aload_n c232_54 rfl ?_
          refine mE_getA c232_55 qo232 qF6_19 (ok_lit rfl rfl rfl) rfl ⟨by decide, by decide⟩ ?_
          refine mE_iload c232_58 rfl ?_
          refine mE_aload_n c232_60 rfl ?_
          refine mE_getI c232_61 qo232 qF6_44 (ok_st0 hr2) rfl ?_
          intro u11
          obtain ⟨M12, m13, w⟩ := w.mlet
          refine mE_iastore c232_64 (ok_lit rfl rfl rfl) hx4 g2 u11 ?_
          refine mE_M m13 ?_
          exact t232_65 hr2 hr3 hx4 w
      · have w := w.neg e6
        refine mE_icmp_ne_T (t := 65) c232_39 rfl u5 (r4_n rfl) e6 ?_
        exact t232_65 hr2 hr3 hx4 w
  · have w := w.neg e1
    refine mE_icmp_ge_T (t := 71) c232_6 rfl hx4 (r4_n rfl) e1 ?_
    have w := w.oinr
    exact mE_vret c232_71 qr232 w.osome
theorem t232_3 {X : Nat × Nat × qC} {d : Nat} {r2 : Nat} {r3 : Nat} {x4 : Int} {M : Mm}  {R : Mm → Prop} (hr2 : isSt X.1 r2) (hr3 : isSg r3) (hx4 : R4 x4) (w : Wp (f232_3 r2 r3 x4 M) R) : mE X (d + 3) 232 0 3 [some (.ref 102), some (.ref 3), some (.ref r2), some (.ref r3), some (.int (Int32.ofInt x4))] [] M (fun v M2 => R M2) :=
  Wp.olp (f := fun s : Int × Mm => lb232_3 r2 r3 s.1 s.2) (s := (x4, M)) (E := E232_3 X d r2 r3 R) w (fun s w hx4 => tb232_3 hr2 hr3 hx4 w) hx4
noncomputable def f232 (r2 : Nat) (r3 : Nat) (M : Mm) : Option (Mm) :=
  f232_3 r2 r3 0 M
theorem t232 {X : Nat × Nat × qC} {d : Nat} {r2 : Nat} {r3 : Nat} {M : Mm}  {R : Mm → Prop} (hr2 : isSt X.1 r2) (hr3 : isSg r3) (w : Wp (f232 r2 r3 M) R) : mE X (d + 3) 232 0 0 [some (.ref 102), some (.ref 3), some (.ref r2), some (.ref r3), none] [] M (fun v M2 => R M2) := by
  refine mE_iconst c232_0 ?_
  refine mE_istore (ls2 := [some (.ref 102), some (.ref 3), some (.ref r2), some (.ref r3), some (.int (Int32.ofInt 0))]) c232_1 (Nat.le_of_ble_eq_true rfl) rfl ?_
  exact t232_3 hr2 hr3 (r4_n rfl) w
theorem s232 {X : Nat × Nat × qC} {d : Nat} {r2 : Nat} {r3 : Nat} {M : Mm} {R : Mm → Prop} (hr2 : isSt X.1 r2) (hr3 : isSg r3) (w : Wp (f232 r2 r3 M) R) : mC X (d + 4) 232 0 [.ref 102, .ref 3, .ref r2, .ref r3] M (fun v M2 => R M2) :=
  mC_of (qent_mk qx232 rfl rfl rfl) (t232 hr2 hr3 w)
/-! SaggingNet$Events.append -/
noncomputable def f205 (x1 : Int) (x2 : Int) (x3 : Int) (M : Mm) : Option (Mm) :=
  if (M 98 0) < 400 then
  (gd (0 ≤ (M 98 0) ∧ (M 98 0) < 400) (
  mlet (ms M 99 ((M 98 0)).toNat x1) fun M5 =>
  gd (0 ≤ (M5 98 0) ∧ (M5 98 0) < 400) (
  mlet (ms M5 100 ((M5 98 0)).toNat x2) fun M9 =>
  gd (0 ≤ (M9 98 0) ∧ (M9 98 0) < 400) (
  mlet (ms M9 101 ((M9 98 0)).toNat x3) fun M13 =>
  gd (R4 ((M13 98 0) + 1)) (
  mlet (ms M13 98 0 ((M13 98 0) + 1)) fun M17 =>
  some M17)))))
  else
  (some M)
theorem t205 {X : Nat × Nat × qC} {d : Nat} {x1 : Int} {x2 : Int} {x3 : Int} {M : Mm}  {R : Mm → Prop} (hx1 : R4 x1) (hx2 : R4 x2) (hx3 : R4 x3) (w : Wp (f205 x1 x2 x3 M) R) : mE X (d + 0) 205 0 0 [some (.ref 98), some (.int (Int32.ofInt x1)), some (.int (Int32.ofInt x2)), some (.int (Int32.ofInt x3))] [] M (fun v M2 => R M2) := by
  refine mE_aload_n c205_0 rfl ?_
  refine mE_getI c205_1 qo205 qF3_21 (ok_lit rfl rfl rfl) rfl ?_
  intro u1
  refine mE_sipush (x := 400) c205_4 rfl ?_
  by_cases e2 : (M 98 0) < 400
  · have w := w.pos e2
    refine mE_icmp_ge_F (t := 50) c205_7 rfl u1 (r4_n rfl) e2 ?_
    refine mE_aload_n c205_10 rfl ?_
    refine mE_getA c205_11 qo205 qF3_11 (ok_lit rfl rfl rfl) rfl ⟨by decide, by decide⟩ ?_
    refine mE_aload_n c205_14 rfl ?_
    refine mE_getI c205_15 qo205 qF3_21 (ok_lit rfl rfl rfl) rfl ?_
    intro u3
    refine mE_iload_n c205_18 rfl ?_
    obtain ⟨g4, w⟩ := w.ogd
    obtain ⟨M5, m6, w⟩ := w.mlet
    refine mE_iastore c205_19 (ok_lit rfl rfl rfl) u3 g4 hx1 ?_
    refine mE_M m6 ?_
    refine mE_aload_n c205_20 rfl ?_
    refine mE_getA c205_21 qo205 qF3_15 (ok_lit rfl rfl rfl) rfl ⟨by decide, by decide⟩ ?_
    refine mE_aload_n c205_24 rfl ?_
    refine mE_getI c205_25 qo205 qF3_21 (ok_lit rfl rfl rfl) rfl ?_
    intro u7
    refine mE_iload_n c205_28 rfl ?_
    obtain ⟨g8, w⟩ := w.ogd
    obtain ⟨M9, m10, w⟩ := w.mlet
    refine mE_iastore c205_29 (ok_lit rfl rfl rfl) u7 g8 hx2 ?_
    refine mE_M m10 ?_
    refine mE_aload_n c205_30 rfl ?_
    refine mE_getA c205_31 qo205 qF3_18 (ok_lit rfl rfl rfl) rfl ⟨by decide, by decide⟩ ?_
    refine mE_aload_n c205_34 rfl ?_
    refine mE_getI c205_35 qo205 qF3_21 (ok_lit rfl rfl rfl) rfl ?_
    intro u11
    refine mE_iload_n c205_38 rfl ?_
    obtain ⟨g12, w⟩ := w.ogd
    obtain ⟨M13, m14, w⟩ := w.mlet
    refine mE_iastore c205_39 (ok_lit rfl rfl rfl) u11 g12 hx3 ?_
    refine mE_M m14 ?_
    refine mE_aload_n c205_40 rfl ?_
    refine mE_dup c205_41 rfl ?_
    refine mE_getI c205_42 qo205 qF3_21 (ok_lit rfl rfl rfl) rfl ?_
    intro u15
    refine mE_iconst c205_45 ?_
    obtain ⟨g16, w⟩ := w.ogd
    refine mE_iadd c205_46 ?_
    obtain ⟨M17, m18, w⟩ := w.mlet
    refine mE_putI c205_47 qo205 qF3_21 qz3_0 (ok_lit rfl rfl rfl) (Nat.le_of_ble_eq_true rfl) rfl g16 (by rw [qy3_0]; rfl) ?_
    refine mE_M m18 ?_
    exact mE_vret c205_50 qr205 w.osome
  · have w := w.neg e2
    refine mE_icmp_ge_T (t := 50) c205_7 rfl u1 (r4_n rfl) e2 ?_
    exact mE_vret c205_50 qr205 w.osome
theorem s205 {X : Nat × Nat × qC} {d : Nat} {x1 : Int} {x2 : Int} {x3 : Int} {M : Mm} {R : Mm → Prop} (hx1 : R4 x1) (hx2 : R4 x2) (hx3 : R4 x3) (w : Wp (f205 x1 x2 x3 M) R) : mC X (d + 1) 205 0 [.ref 98, .int (Int32.ofInt x1), .int (Int32.ofInt x2), .int (Int32.ofInt x3)] M (fun v M2 => R M2) :=
  mC_of (qent_mk qx205 rfl rfl rfl) (t205 hx1 hx2 hx3 w)
