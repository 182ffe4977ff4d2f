/-! SaggingNet$State.become -/
noncomputable def f241 (r0 : Nat) (r1 : Nat) (M : Mm) : Option (Mm) :=
  mlet (ms M r0 0 (M r1 0)) fun M2 =>
  mlet (ms M2 r0 1 (M2 r1 1)) fun M5 =>
  mlet (ms M5 r0 2 (M5 r1 2)) fun M8 =>
  mlet (ms M8 r0 3 (M8 r1 3)) fun M11 =>
  gd (¬ (r1 + 1) = (r0 + 1)) (
  mlet (cpym M11 (r1 + 1) 0 (r0 + 1) 0 8) fun M14 =>
  gd (¬ (r1 + 2) = (r0 + 2)) (
  mlet (cpym M14 (r1 + 2) 0 (r0 + 2) 0 14) fun M17 =>
  gd (¬ (r1 + 3) = (r0 + 3)) (
  mlet (cpym M17 (r1 + 3) 0 (r0 + 3) 0 14) fun M20 =>
  gd (¬ (r1 + 4) = (r0 + 4)) (
  mlet (cpym M20 (r1 + 4) 0 (r0 + 4) 0 14) fun M23 =>
  some M23))))
theorem t241 {X : Nat × Nat × qC} {d : Nat} {r0 : Nat} {r1 : Nat} {M : Mm}  {R : Mm → Prop} (hr0 : isSt X.1 r0) (hr1 : isSt X.1 r1) (w : Wp (f241 r0 r1 M) R) : mE X (d + 1) 241 0 0 [some (.ref r0), some (.ref r1)] [] M (fun v M2 => R M2) := by
  refine mE_aload_n c241_0 rfl ?_
  refine mE_aload_n c241_1 rfl ?_
  refine mE_getI c241_2 qo241 qF8_24 (ok_st0 hr1) rfl ?_
  intro u1
  obtain ⟨M2, m3, w⟩ := w.mlet
  refine mE_putI c241_5 qo241 qF8_24 qz8_0 (ok_st0 hr0) (Nat.le_of_ble_eq_true rfl) rfl u1 (by rw [qy8_0]; rfl) ?_
  refine mE_M m3 ?_
  refine mE_aload_n c241_8 rfl ?_
  refine mE_aload_n c241_9 rfl ?_
  refine mE_getI c241_10 qo241 qF8_28 (ok_st0 hr1) rfl ?_
  intro u4
  obtain ⟨M5, m6, w⟩ := w.mlet
  refine mE_putI c241_13 qo241 qF8_28 qz8_1 (ok_st0 hr0) (Nat.le_of_ble_eq_true rfl) rfl u4 (by rw [qy8_1]; rfl) ?_
  refine mE_M m6 ?_
  refine mE_aload_n c241_16 rfl ?_
  refine mE_aload_n c241_17 rfl ?_
  refine mE_getI c241_18 qo241 qF8_31 (ok_st0 hr1) rfl ?_
  intro u7
  obtain ⟨M8, m9, w⟩ := w.mlet
  refine mE_putI c241_21 qo241 qF8_31 qz8_2 (ok_st0 hr0) (Nat.le_of_ble_eq_true rfl) rfl u7 (by rw [qy8_2]; rfl) ?_
  refine mE_M m9 ?_
  refine mE_aload_n c241_24 rfl ?_
  refine mE_aload_n c241_25 rfl ?_
  refine mE_getI c241_26 qo241 qF8_34 (ok_st0 hr1) rfl ?_
  intro u10
  obtain ⟨M11, m12, w⟩ := w.mlet
  refine mE_putI c241_29 qo241 qF8_34 qz8_3 (ok_st0 hr0) (Nat.le_of_ble_eq_true rfl) rfl u10 (by rw [qy8_3]; rfl) ?_
  refine mE_M m12 ?_
  refine mE_aload_n c241_32 rfl ?_
  refine mE_getA c241_33 qo241 qF8_9 (ok_st0 hr1) rfl (nz_st hr1 _) ?_
  refine mE_iconst c241_36 ?_
  refine mE_aload_n c241_37 rfl ?_
  refine mE_getA c241_38 qo241 qF8_9 (ok_st0 hr0) rfl (nz_st hr0 _) ?_
  refine mE_iconst c241_41 ?_
  refine mE_bipush (x := 8) c241_42 rfl ?_
  obtain ⟨g13, w⟩ := w.ogd
  obtain ⟨M14, m15, w⟩ := w.mlet
  refine mE_copy c241_44 (by rw [qo241]; decide) (ok_st1 hr1) (ok_st1 hr0) ⟨(r4_n rfl), (r4_n rfl), (r4_n rfl)⟩ ⟨g13, by decide⟩ (Nat.succ_pos _) (Nat.le_of_ble_eq_true rfl) ?_
  refine mE_M m15 ?_
  refine mE_aload_n c241_47 rfl ?_
  refine mE_getA c241_48 qo241 qF8_15 (ok_st0 hr1) rfl (nz_st hr1 _) ?_
  refine mE_iconst c241_51 ?_
  refine mE_aload_n c241_52 rfl ?_
  refine mE_getA c241_53 qo241 qF8_15 (ok_st0 hr0) rfl (nz_st hr0 _) ?_
  refine mE_iconst c241_56 ?_
  refine mE_bipush (x := 14) c241_57 rfl ?_
  obtain ⟨g16, w⟩ := w.ogd
  obtain ⟨M17, m18, w⟩ := w.mlet
  refine mE_copy c241_59 (by rw [qo241]; decide) (ok_st2 hr1) (ok_st2 hr0) ⟨(r4_n rfl), (r4_n rfl), (r4_n rfl)⟩ ⟨g16, by decide⟩ (Nat.succ_pos _) (Nat.le_of_ble_eq_true rfl) ?_
  refine mE_M m18 ?_
  refine mE_aload_n c241_62 rfl ?_
  refine mE_getA c241_63 qo241 qF8_18 (ok_st0 hr1) rfl (nz_st hr1 _) ?_
  refine mE_iconst c241_66 ?_
  refine mE_aload_n c241_67 rfl ?_
  refine mE_getA c241_68 qo241 qF8_18 (ok_st0 hr0) rfl (nz_st hr0 _) ?_
  refine mE_iconst c241_71 ?_
  refine mE_bipush (x := 14) c241_72 rfl ?_
  obtain ⟨g19, w⟩ := w.ogd
  obtain ⟨M20, m21, w⟩ := w.mlet
  refine mE_copy c241_74 (by rw [qo241]; decide) (ok_st3 hr1) (ok_st3 hr0) ⟨(r4_n rfl), (r4_n rfl), (r4_n rfl)⟩ ⟨g19, by decide⟩ (Nat.succ_pos _) (Nat.le_of_ble_eq_true rfl) ?_
  refine mE_M m21 ?_
  refine mE_aload_n c241_77 rfl ?_
  refine mE_getA c241_78 qo241 qF8_21 (ok_st0 hr1) rfl (nz_st hr1 _) ?_
  refine mE_iconst c241_81 ?_
  refine mE_aload_n c241_82 rfl ?_
  refine mE_getA c241_83 qo241 qF8_21 (ok_st0 hr0) rfl (nz_st hr0 _) ?_
  refine mE_iconst c241_86 ?_
  refine mE_bipush (x := 14) c241_87 rfl ?_
  obtain ⟨g22, w⟩ := w.ogd
  obtain ⟨M23, m24, w⟩ := w.mlet
  refine mE_copy c241_89 (by rw [qo241]; decide) (ok_st4 hr1) (ok_st4 hr0) ⟨(r4_n rfl), (r4_n rfl), (r4_n rfl)⟩ ⟨g22, by decide⟩ (Nat.succ_pos _) (Nat.le_of_ble_eq_true rfl) ?_
  refine mE_M m24 ?_
  exact mE_vret c241_92 qr241 w.osome
theorem s241 {X : Nat × Nat × qC} {d : Nat} {r0 : Nat} {r1 : Nat} {M : Mm} {R : Mm → Prop} (hr0 : isSt X.1 r0) (hr1 : isSt X.1 r1) (w : Wp (f241 r0 r1 M) R) : mC X (d + 2) 241 0 [.ref r0, .ref r1] M (fun v M2 => R M2) :=
  mC_of (qent_mk qx241 rfl rfl rfl) (t241 hr0 hr1 w)
/-! SaggingNet$Bearing.cantBeBorne -/
noncomputable def f9 (x2 : Int) (x3 : Int) (M : Mm) : Option (Int × Mm) :=
  gd (0 ≤ x2 ∧ x2 < 14) (
  mlet (ms M 52 (x2).toNat 1) fun M2 =>
  (f238 55 50 M2).bind fun M5 =>
  mlet (ms M5 52 (x2).toNat 0) fun M7 =>
  if (M7 55 2) = 0 then
  (if (bAnd (M7 55 0) (bXor x3 (-1))) = 0 then
  (some (0, M7))
  else
  (some (1, M7)))
  else
  (some (1, M7)))
theorem t9 {X : Nat × Nat × qC} {d : Nat} {x2 : Int} {x3 : Int} {M : Mm}  {R : Int × Mm → Prop} (hx2 : R4 x2) (hx3 : R4 x3) (w : Wp (f9 x2 x3 M) R) : mE X (d + 4) 9 1 0 [some (.ref 49), some (.ref 3), some (.int (Int32.ofInt x2)), some (.int (Int32.ofInt x3))] [] M (fun v M2 => R (v, M2)) := by
  refine mE_aload_n c9_0 rfl ?_
  refine mE_getA c9_1 qo9 qF0_12 (ok_lit rfl rfl rfl) rfl ⟨by decide, by decide⟩ ?_
  refine mE_getA c9_4 qo9 qF0_42 (ok_lit rfl rfl rfl) rfl ⟨by decide, by decide⟩ ?_
  refine mE_iload_n c9_7 rfl ?_
  refine mE_iconst c9_8 ?_
  obtain ⟨g1, w⟩ := w.ogd
  obtain ⟨M2, m3, w⟩ := w.mlet
  refine mE_iastore c9_9 (ok_lit rfl rfl rfl) hx2 g1 (r4_n rfl) ?_
  refine mE_M m3 ?_
  refine mE_aload_n c9_10 rfl ?_
  refine mE_getA c9_11 qo9 qF0_21 (ok_lit rfl rfl rfl) rfl ⟨by decide, by decide⟩ ?_
  refine mE_aload_n c9_14 rfl ?_
  refine mE_aload_n c9_15 rfl ?_
  refine mE_getA c9_16 qo9 qF0_12 (ok_lit rfl rfl rfl) rfl ⟨by decide, by decide⟩ ?_
  refine mE_virtual0 (b := 55) (as := [.ref 3, .ref 50]) (r := []) c9_19 qo9 qK0_25 qo238 rfl rfl rfl (ok_lit rfl rfl rfl) (Nat.le_of_ble_eq_true rfl) (s238 (d := d + 0) isSg_55 isSt_50 w.obind) ?_
  intro _ M5 w
  refine mE_aload_n c9_22 rfl ?_
  refine mE_getA c9_23 qo9 qF0_12 (ok_lit rfl rfl rfl) rfl ⟨by decide, by decide⟩ ?_
  refine mE_getA c9_26 qo9 qF0_42 (ok_lit rfl rfl rfl) rfl ⟨by decide, by decide⟩ ?_
  refine mE_iload_n c9_29 rfl ?_
  refine mE_iconst c9_30 ?_
  obtain ⟨M7, m8, w⟩ := w.mlet
  refine mE_iastore c9_31 (ok_lit rfl rfl rfl) hx2 g1 (r4_n rfl) ?_
  refine mE_M m8 ?_
  refine mE_aload_n c9_32 rfl ?_
  refine mE_getA c9_33 qo9 qF0_21 (ok_lit rfl rfl rfl) rfl ⟨by decide, by decide⟩ ?_
  refine mE_getI c9_36 qo9 qF0_50 (ok_lit rfl rfl rfl) rfl ?_
  intro u9
  by_cases e10 : (M7 55 2) = 0
  · have w := w.pos e10
    refine mE_if_ne_F (t := 56) c9_39 rfl u9 e10 ?_
    refine mE_aload_n c9_42 rfl ?_
    refine mE_getA c9_43 qo9 qF0_21 (ok_lit rfl rfl rfl) rfl ⟨by decide, by decide⟩ ?_
    refine mE_getI c9_46 qo9 qF0_29 (ok_lit rfl rfl rfl) rfl ?_
    intro u11
    refine mE_iload_n c9_49 rfl ?_
    refine mE_iconst c9_50 ?_
    refine mE_ixor c9_51 ?_
    refine mE_iand c9_52 ?_
    by_cases e12 : (bAnd (M7 55 0) (bXor x3 (-1))) = 0
    · have w := w.pos e12
      refine mE_if_eq_T (t := 60) c9_53 rfl (r4_and _ _) e12 ?_
      refine mE_iconst c9_60 ?_
      exact mE_zret c9_61 qr9 (Or.inl rfl) w.osome
    · have w := w.neg e12
      refine mE_if_eq_F (t := 60) c9_53 rfl (r4_and _ _) e12 ?_
      refine mE_iconst c9_56 ?_
      refine mE_goto (t := 61) c9_57 rfl ?_
      exact mE_zret c9_61 qr9 (Or.inr rfl) w.osome
  · have w := w.neg e10
    refine mE_if_ne_T (t := 56) c9_39 rfl u9 e10 ?_
    refine mE_iconst c9_56 ?_
    refine mE_goto (t := 61) c9_57 rfl ?_
    exact mE_zret c9_61 qr9 (Or.inr rfl) w.osome
theorem s9 {X : Nat × Nat × qC} {d : Nat} {x2 : Int} {x3 : Int} {M : Mm} {R : Int × Mm → Prop} (hx2 : R4 x2) (hx3 : R4 x3) (w : Wp (f9 x2 x3 M) R) : mC X (d + 5) 9 1 [.ref 49, .ref 3, .int (Int32.ofInt x2), .int (Int32.ofInt x3)] M (fun v M2 => R (v, M2)) :=
  mC_of (qent_mk qx9 rfl rfl rfl) (t9 hx2 hx3 w)
/-! SaggingNet$Bearing.bits -/
def E8_31 (X : Nat × Nat × qC) (d : Nat) (r2 : Nat) (x3 : Int) (R : Int × Mm → Prop) : Int × Int × Mm → Prop := fun s => R4 s.1 → R4 s.2.1 → mE X (d + 5) 8 1 31 [some (.ref 49), some (.ref 3), some (.ref r2), some (.int (Int32.ofInt x3)), some (.int (Int32.ofInt s.1)), some (.int (Int32.ofInt s.2.1))] [] s.2.2 (fun v M2 => R (v, M2))
noncomputable def f8_70 (r2 : Nat) (x3 : Int) (x4 : Int) (x5 : Int) (M : Mm) : Option ((Int × Int × Mm) ⊕ (Int × Mm)) :=
  gd (R4 (x5 + 1)) (
  some (.inl (x4, (x5 + 1), M)))
theorem t8_70 {X : Nat × Nat × qC} {d : Nat} {r2 : Nat} {x3 : Int} {x4 : Int} {x5 : Int} {M : Mm}  {R : Int × Mm → Prop} (hr2 : isSt X.1 r2) (hx3 : R4 x3) (hx4 : R4 x4) (hx5 : R4 x5) (w : Wp (f8_70 r2 x3 x4 x5 M) (Sum.elim (E8_31 X d r2 x3 R) R)) : mE X (d + 5) 8 1 70 [some (.ref 49), some (.ref 3), some (.ref r2), some (.int (Int32.ofInt x3)), some (.int (Int32.ofInt x4)), some (.int (Int32.ofInt x5))] [] M (fun v M2 => R (v, M2)) := by
  obtain ⟨g1, w⟩ := w.ogd
  refine mE_iinc (ls2 := [some (.ref 49), some (.ref 3), some (.ref r2), some (.int (Int32.ofInt x3)), some (.int (Int32.ofInt x4)), some (.int (Int32.ofInt (x5 + 1)))]) c8_70 rfl (Nat.le_of_ble_eq_true rfl) rfl ?_
  refine mE_goto (t := 31) c8_73 rfl ?_
  exact w.osome hx4 g1
noncomputable def lb8_31 (r2 : Nat) (x3 : Int) (x4 : Int) (x5 : Int) (M : Mm) : Option ((Int × Int × Mm) ⊕ (Int × Mm)) :=
  if x5 < (M 3 1) then
  (gd (0 ≤ x5 ∧ x5 < 14) (
  if (M (r2 + 2) (x5).toNat) = 0 then
  (obnd (f9 x5 x3 M) fun v6 M7 =>
  if v6 = 0 then
  (f8_70 r2 x3 x4 x5 M7)
  else
  (f8_70 r2 x3 (bOr x4 (bShl 1 x5)) x5 M7))
  else
  (f8_70 r2 x3 x4 x5 M)))
  else
  (oinr (some (x4, M)))
noncomputable def f8_31 (r2 : Nat) (x3 : Int) (x4 : Int) (x5 : Int) (M : Mm) : Option (Int × Mm) := lp (fun s : Int × Int × Mm => lb8_31 r2 x3 s.1 s.2.1 s.2.2) (x4, x5, M)
theorem tb8_31 {X : Nat × Nat × qC} {d : Nat} {r2 : Nat} {x3 : Int} {x4 : Int} {x5 : Int} {M : Mm}  {R : Int × Mm → Prop} (hr2 : isSt X.1 r2) (hx3 : R4 x3) (hx4 : R4 x4) (hx5 : R4 x5) (w : Wp (lb8_31 r2 x3 x4 x5 M) (Sum.elim (E8_31 X d r2 x3 R) R)) : mE X (d + 5) 8 1 31 [some (.ref 49), some (.ref 3), some (.ref r2), some (.int (Int32.ofInt x3)), some (.int (Int32.ofInt x4)), some (.int (Int32.ofInt x5))] [] M (fun v M2 => R (v, M2)) := by
  refine mE_iload c8_31 rfl ?_
  refine mE_aload_n c8_33 rfl ?_
  refine mE_getI c8_34 qo8 qF0_37 (ok_lit rfl rfl rfl) rfl ?_
  intro u1
  by_cases e2 : x5 < (M 3 1)
  · have w := w.pos e2
    refine mE_icmp_ge_F (t := 76) c8_37 rfl hx5 u1 e2 ?_
    refine mE_aload_n c8_40 rfl ?_
    refine mE_getA c8_41 qo8 qF0_42 (ok_st0 hr2) rfl (nz_st hr2 _) ?_
    refine mE_iload c8_44 rfl ?_
    obtain ⟨g3, w⟩ := w.ogd
    refine mE_iaload c8_46 (ok_st2 hr2) hx5 g3 ?_
    intro u4
    by_cases e5 : (M (r2 + 2) (x5).toNat) = 0
    · have w := w.pos e5
      refine mE_if_ne_F (t := 70) c8_47 rfl u4 e5 ?_
      refine mE_aload_n c8_50 rfl ?_
      refine mE_aload_n c8_51 rfl ?_
      refine mE_iload c8_52 rfl ?_
      refine mE_iload_n c8_54 rfl ?_
      refine mE_virtual1 (b := 49) (as := [.ref 3, .int (Int32.ofInt x5), .int (Int32.ofInt x3)]) (r := []) c8_55 qo8 qK0_46 qo9 rfl rfl rfl (ok_lit rfl rfl rfl) (Nat.le_of_ble_eq_true rfl) (s9 (d := d + 0) hx5 hx3 w.oc) ?_
      intro v6 M7 q8 w
      by_cases e9 : v6 = 0
      · have w := w.pos e9
        refine mE_if_eq_T (t := 70) c8_58 rfl q8 e9 ?_
        exact t8_70 hr2 hx3 hx4 hx5 w
      · have w := w.neg e9
        refine mE_if_eq_F (t := 70) c8_58 rfl q8 e9 ?_
        refine mE_iload c8_61 rfl ?_
        refine mE_iconst c8_63 ?_
        refine mE_iload c8_64 rfl ?_
        refine mE_ishl c8_66 ?_
        refine mE_ior c8_67 ?_
        refine mE_istore (ls2 := [some (.ref 49), some (.ref 3), some (.ref r2), some (.int (Int32.ofInt x3)), some (.int (Int32.ofInt (bOr x4 (bShl 1 x5)))), some (.int (Int32.ofInt x5))]) c8_68 (Nat.le_of_ble_eq_true rfl) rfl ?_
        exact t8_70 hr2 hx3 (r4_or _ _) hx5 w
    · have w := w.neg e5
      refine mE_if_ne_T (t := 70) c8_47 rfl u4 e5 ?_
      exact t8_70 hr2 hx3 hx4 hx5 w
  · have w := w.neg e2
    refine mE_icmp_ge_T (t := 76) c8_37 rfl hx5 u1 e2 ?_
    have w := w.oinr
    refine mE_iload c8_76 rfl ?_
    exact mE_iret c8_78 qr8 hx4 w.osome
theorem t8_31 {X : Nat × Nat × qC} {d : Nat} {r2 : Nat} {x3 : Int} {x4 : Int} {x5 : Int} {M : Mm}  {R : Int × Mm → Prop} (hr2 : isSt X.1 r2) (hx3 : R4 x3) (hx4 : R4 x4) (hx5 : R4 x5) (w : Wp (f8_31 r2 x3 x4 x5 M) R) : mE X (d + 5) 8 1 31 [some (.ref 49), some (.ref 3), some (.ref r2), some (.int (Int32.ofInt x3)), some (.int (Int32.ofInt x4)), some (.int (Int32.ofInt x5))] [] M (fun v M2 => R (v, M2)) :=
  Wp.olp (f := fun s : Int × Int × Mm => lb8_31 r2 x3 s.1 s.2.1 s.2.2) (s := (x4, x5, M)) (E := E8_31 X d r2 x3 R) w (fun s w hx4 hx5 => tb8_31 hr2 hx3 hx4 hx5 w) hx4 hx5
noncomputable def f8 (r2 : Nat) (M : Mm) : Option (Int × Mm) :=
  (f238 55 r2 M).bind fun M2 =>
  (f241 50 r2 M2).bind fun M6 =>
  f8_31 r2 (M2 55 0) 0 0 M6
theorem t8 {X : Nat × Nat × qC} {d : Nat} {r2 : Nat} {M : Mm}  {R : Int × Mm → Prop} (hr2 : isSt X.1 r2) (w : Wp (f8 r2 M) R) : mE X (d + 5) 8 1 0 [some (.ref 49), some (.ref 3), some (.ref r2), none, none, none] [] M (fun v M2 => R (v, M2)) := by
  refine mE_aload_n c8_0 rfl ?_
  refine mE_getA c8_1 qo8 qF0_21 (ok_lit rfl rfl rfl) rfl ⟨by decide, by decide⟩ ?_
  refine mE_aload_n c8_4 rfl ?_
  refine mE_aload_n c8_5 rfl ?_
  refine mE_virtual0 (b := 55) (as := [.ref 3, .ref r2]) (r := []) c8_6 qo8 qK0_25 qo238 rfl rfl rfl (ok_lit rfl rfl rfl) (Nat.le_of_ble_eq_true rfl) (s238 (d := d + 1) isSg_55 hr2 w.obind) ?_
  intro _ M2 w
  refine mE_aload_n c8_9 rfl ?_
  refine mE_getA c8_10 qo8 qF0_21 (ok_lit rfl rfl rfl) rfl ⟨by decide, by decide⟩ ?_
  refine mE_getI c8_13 qo8 qF0_29 (ok_lit rfl rfl rfl) rfl ?_
  intro u4
  refine mE_istore_n (ls2 := [some (.ref 49), some (.ref 3), some (.ref r2), some (.int (Int32.ofInt (M2 55 0))), none, none]) c8_16 (Nat.le_of_ble_eq_true rfl) rfl ?_
  refine mE_iconst c8_17 ?_
  refine mE_istore (ls2 := [some (.ref 49), some (.ref 3), some (.ref r2), some (.int (Int32.ofInt (M2 55 0))), some (.int (Int32.ofInt 0)), none]) c8_18 (Nat.le_of_ble_eq_true rfl) rfl ?_
  refine mE_aload_n c8_20 rfl ?_
  refine mE_getA c8_21 qo8 qF0_12 (ok_lit rfl rfl rfl) rfl ⟨by decide, by decide⟩ ?_
  refine mE_aload_n c8_24 rfl ?_
  refine mE_virtual0 (b := 50) (as := [.ref r2]) (r := []) c8_25 qo8 qK0_33 qo241 rfl rfl rfl (ok_lit rfl rfl rfl) (Nat.le_of_ble_eq_true rfl) (s241 (d := d + 3) isSt_50 hr2 w.obind) ?_
  intro _ M6 w
  refine mE_iconst c8_28 ?_
  refine mE_istore (ls2 := [some (.ref 49), some (.ref 3), some (.ref r2), some (.int (Int32.ofInt (M2 55 0))), some (.int (Int32.ofInt 0)), some (.int (Int32.ofInt 0))]) c8_29 (Nat.le_of_ble_eq_true rfl) rfl ?_
  exact t8_31 hr2 u4 (r4_n rfl) (r4_n rfl) w
theorem s8 {X : Nat × Nat × qC} {d : Nat} {r2 : Nat} {M : Mm} {R : Int × Mm → Prop} (hr2 : isSt X.1 r2) (w : Wp (f8 r2 M) R) : mC X (d + 6) 8 1 [.ref 49, .ref 3, .ref r2] M (fun v M2 => R (v, M2)) :=
  mC_of (qent_mk qx8 rfl rfl rfl) (t8 hr2 w)
/-! SaggingNet$Bearing.oneBit -/
noncomputable def f11 (r2 : Nat) (x3 : Int) (M : Mm) : Option (Int × Mm) :=
  gd (0 ≤ x3 ∧ x3 < 14) (
  if (M (r2 + 2) (x3).toNat) = 0 then
  ((f238 55 r2 M).bind fun M5 =>
  (f241 50 r2 M5).bind fun M8 =>
  obnd (f9 x3 (M8 55 0) M8) fun v11 M12 =>
  if v11 = 0 then
  (some (0, M12))
  else
  (some (1, M12)))
  else
  (some (0, M)))
theorem t11 {X : Nat × Nat × qC} {d : Nat} {r2 : Nat} {x3 : Int} {M : Mm}  {R : Int × Mm → Prop} (hr2 : isSt X.1 r2) (hx3 : R4 x3) (w : Wp (f11 r2 x3 M) R) : mE X (d + 5) 11 1 0 [some (.ref 49), some (.ref 3), some (.ref r2), some (.int (Int32.ofInt x3))] [] M (fun v M2 => R (v, M2)) := by
  refine mE_aload_n c11_0 rfl ?_
  refine mE_getA c11_1 qo11 qF0_42 (ok_st0 hr2) rfl (nz_st hr2 _) ?_
  refine mE_iload_n c11_4 rfl ?_
  obtain ⟨g1, w⟩ := w.ogd
  refine mE_iaload c11_5 (ok_st2 hr2) hx3 g1 ?_
  intro u2
  by_cases e3 : (M (r2 + 2) (x3).toNat) = 0
  · have w := w.pos e3
    refine mE_if_eq_T (t := 11) c11_6 rfl u2 e3 ?_
    refine mE_aload_n c11_11 rfl ?_
    refine mE_getA c11_12 qo11 qF0_21 (ok_lit rfl rfl rfl) rfl ⟨by decide, by decide⟩ ?_
    refine mE_aload_n c11_15 rfl ?_
    refine mE_aload_n c11_16 rfl ?_
    refine mE_virtual0 (b := 55) (as := [.ref 3, .ref r2]) (r := []) c11_17 qo11 qK0_25 qo238 rfl rfl rfl (ok_lit rfl rfl rfl) (Nat.le_of_ble_eq_true rfl) (s238 (d := d + 1) isSg_55 hr2 w.obind) ?_
    intro _ M5 w
    refine mE_aload_n c11_20 rfl ?_
    refine mE_getA c11_21 qo11 qF0_12 (ok_lit rfl rfl rfl) rfl ⟨by decide, by decide⟩ ?_
    refine mE_aload_n c11_24 rfl ?_
    refine mE_virtual0 (b := 50) (as := [.ref r2]) (r := []) c11_25 qo11 qK0_33 qo241 rfl rfl rfl (ok_lit rfl rfl rfl) (Nat.le_of_ble_eq_true rfl) (s241 (d := d + 3) isSt_50 hr2 w.obind) ?_
    intro _ M8 w
    refine mE_aload_n c11_28 rfl ?_
    refine mE_aload_n c11_29 rfl ?_
    refine mE_iload_n c11_30 rfl ?_
    refine mE_aload_n c11_31 rfl ?_
    refine mE_getA c11_32 qo11 qF0_21 (ok_lit rfl rfl rfl) rfl ⟨by decide, by decide⟩ ?_
    refine mE_getI c11_35 qo11 qF0_29 (ok_lit rfl rfl rfl) rfl ?_
    intro u10
    refine mE_virtual1 (b := 49) (as := [.ref 3, .int (Int32.ofInt x3), .int (Int32.ofInt (M8 55 0))]) (r := []) c11_38 qo11 qK0_46 qo9 rfl rfl rfl (ok_lit rfl rfl rfl) (Nat.le_of_ble_eq_true rfl) (s9 (d := d + 0) hx3 u10 w.oc) ?_
    intro v11 M12 q13 w
    by_cases e14 : v11 = 0
    · have w := w.pos e14
      refine mE_if_eq_T (t := 48) c11_41 rfl q13 e14 ?_
      refine mE_iconst c11_48 ?_
      exact mE_iret c11_49 qr11 (r4_n rfl) w.osome
    · have w := w.neg e14
      refine mE_if_eq_F (t := 48) c11_41 rfl q13 e14 ?_
      refine mE_iconst c11_44 ?_
      refine mE_goto (t := 49) c11_45 rfl ?_
      exact mE_iret c11_49 qr11 (r4_n rfl) w.osome
  · have w := w.neg e3
    refine mE_if_eq_F (t := 11) c11_6 rfl u2 e3 ?_
    refine mE_iconst c11_9 ?_
    exact mE_iret c11_10 qr11 (r4_n rfl) w.osome
theorem s11 {X : Nat × Nat × qC} {d : Nat} {r2 : Nat} {x3 : Int} {M : Mm} {R : Int × Mm → Prop} (hr2 : isSt X.1 r2) (hx3 : R4 x3) (w : Wp (f11 r2 x3 M) R) : mC X (d + 6) 11 1 [.ref 49, .ref 3, .ref r2, .int (Int32.ofInt x3)] M (fun v M2 => R (v, M2)) :=
  mC_of (qent_mk qx11 rfl rfl rfl) (t11 hr2 hx3 w)
/-! SaggingNet$Text.peek -/
noncomputable def f23 (r0 : Nat) (M : Mm) : Option (Int) :=
  if (M r0 3) < 0 then
  (some (-1))
  else
  (if (M r0 3) < (M r0 4) then
  (gd (0 ≤ (M r0 3) ∧ (M r0 3) < 160) (
  some (M (r0 + 1) ((M r0 3)).toNat)))
  else
  (some (-1)))
theorem t23 {X : Nat × Nat × qC} {d : Nat} {r0 : Nat} {M : Mm}  {R : Int → Prop} (hr0 : isTx r0) (w : Wp (f23 r0 M) R) : mE X (d + 0) 23 1 0 [some (.ref r0)] [] M (fun v M2 => M = M2 ∧ R v) := by
  refine mE_aload_n c23_0 rfl ?_
  refine mE_getI c23_1 qo23 qF10_57 (ok_tx0 hr0) rfl ?_
  intro u1
  by_cases e2 : (M r0 3) < 0
  · have w := w.pos e2
    refine mE_if_lt_T (t := 30) c23_4 rfl u1 e2 ?_
    refine mE_iconst c23_30 ?_
    exact mE_iret c23_31 qr23 (r4_n rfl) ⟨rfl, w.osome⟩
  · have w := w.neg e2
    refine mE_if_lt_F (t := 30) c23_4 rfl u1 e2 ?_
    refine mE_aload_n c23_7 rfl ?_
    refine mE_getI c23_8 qo23 qF10_57 (ok_tx0 hr0) rfl ?_
    intro u3
    refine mE_aload_n c23_11 rfl ?_
    refine mE_getI c23_12 qo23 qF10_38 (ok_tx0 hr0) rfl ?_
    intro u4
    by_cases e5 : (M r0 3) < (M r0 4)
    · have w := w.pos e5
      refine mE_icmp_ge_F (t := 30) c23_15 rfl u3 u4 e5 ?_
      refine mE_aload_n c23_18 rfl ?_
      refine mE_getA c23_19 qo23 qF10_11 (ok_tx0 hr0) rfl (nz_tx hr0 _) ?_
      refine mE_aload_n c23_22 rfl ?_
      refine mE_getI c23_23 qo23 qF10_57 (ok_tx0 hr0) rfl ?_
      intro u6
      obtain ⟨g7, w⟩ := w.ogd
      refine mE_iaload c23_26 (ok_tx1 hr0) u6 g7 ?_
      intro u8
      refine mE_goto (t := 31) c23_27 rfl ?_
      exact mE_iret c23_31 qr23 u8 ⟨rfl, w.osome⟩
    · have w := w.neg e5
      refine mE_icmp_ge_T (t := 30) c23_15 rfl u3 u4 e5 ?_
      refine mE_iconst c23_30 ?_
      exact mE_iret c23_31 qr23 (r4_n rfl) ⟨rfl, w.osome⟩
theorem s23 {X : Nat × Nat × qC} {d : Nat} {r0 : Nat} {M : Mm} {R : Int → Prop} (hr0 : isTx r0) (w : Wp (f23 r0 M) R) : mC X (d + 1) 23 1 [.ref r0] M (fun v M2 => M = M2 ∧ R v) :=
  mC_of (qent_mk qx23 rfl rfl rfl) (t23 hr0 w)
/-! SaggingNet$Text.refuse -/
noncomputable def f27 (r0 : Nat) (x1 : Int) (M : Mm) : Option (Int × Mm) :=
  gd (R4 ((-1000) * x1)) (
  gd (R4 (((-1000) * x1) - (M r0 3))) (
  mlet (ms M r0 1 (((-1000) * x1) - (M r0 3))) fun M4 =>
  some (0, M4)))
theorem t27 {X : Nat × Nat × qC} {d : Nat} {r0 : Nat} {x1 : Int} {M : Mm}  {R : Int × Mm → Prop} (hr0 : isTx r0) (hx1 : R4 x1) (w : Wp (f27 r0 x1 M) R) : mE X (d + 0) 27 1 0 [some (.ref r0), some (.int (Int32.ofInt x1))] [] M (fun v M2 => R (v, M2)) := by
  refine mE_aload_n c27_0 rfl ?_
  refine mE_sipush (x := (-1000)) c27_1 rfl ?_
  refine mE_iload_n c27_4 rfl ?_
  obtain ⟨g1, w⟩ := w.ogd
  refine mE_imul c27_5 ?_
  refine mE_aload_n c27_6 rfl ?_
  refine mE_getI c27_7 qo27 qF10_57 (ok_tx0 hr0) rfl ?_
  intro u2
  obtain ⟨g3, w⟩ := w.ogd
  refine mE_isub c27_10 ?_
  obtain ⟨M4, m5, w⟩ := w.mlet
  refine mE_putI c27_11 qo27 qF10_51 qz10_1 (ok_tx0 hr0) (Nat.le_of_ble_eq_true rfl) rfl g3 (by rw [qy10_1]; rfl) ?_
  refine mE_M m5 ?_
  refine mE_iconst c27_14 ?_
  exact mE_zret c27_15 qr27 (Or.inl rfl) w.osome
theorem s27 {X : Nat × Nat × qC} {d : Nat} {r0 : Nat} {x1 : Int} {M : Mm} {R : Int × Mm → Prop} (hr0 : isTx r0) (hx1 : R4 x1) (w : Wp (f27 r0 x1 M) R) : mC X (d + 1) 27 1 [.ref r0, .int (Int32.ofInt x1)] M (fun v M2 => R (v, M2)) :=
  mC_of (qent_mk qx27 rfl rfl rfl) (t27 hr0 hx1 w)
/-! SaggingNet$Text.beginClause -/
noncomputable def f12_23 (r0 : Nat) (x1 : Int) (M : Mm) : Option (Int × Mm) :=
  if (M r0 0) < 12 then
  (if x1 = 111 then
  (mlet (ms M r0 5 1) fun M4 =>
  gd (R4 ((M4 r0 3) + 1)) (
  mlet (ms M4 r0 3 ((M4 r0 3) + 1)) fun M8 =>
  some (1, M8)))
  else
  (mlet (ms M r0 5 0) fun M4 =>
  gd (R4 ((M4 r0 3) + 1)) (
  mlet (ms M4 r0 3 ((M4 r0 3) + 1)) fun M8 =>
  some (1, M8))))
  else
  (obnd (f27 r0 4 M) fun v3 M4 =>
  gd (v3 = 0 ∨ v3 = 1) (
  some (v3, M4)))
theorem t12_23 {X : Nat × Nat × qC} {d : Nat} {r0 : Nat} {x1 : Int} {M : Mm}  {R : Int × Mm → Prop} (hr0 : isTx r0) (hx1 : R4 x1) (w : Wp (f12_23 r0 x1 M) R) : mE X (d + 1) 12 1 23 [some (.ref r0), some (.int (Int32.ofInt x1))] [] M (fun v M2 => R (v, M2)) := by
  refine mE_aload_n c12_23 rfl ?_
  refine mE_getI c12_24 qo12 qF10_48 (ok_tx0 hr0) rfl ?_
  intro u1
  refine mE_bipush (x := 12) c12_27 rfl ?_
  by_cases e2 : (M r0 0) < 12
  · have w := w.pos e2
    refine mE_icmp_lt_T (t := 38) c12_29 rfl u1 (r4_n rfl) e2 ?_
    refine mE_aload_n c12_38 rfl ?_
    refine mE_iload_n c12_39 rfl ?_
    refine mE_bipush (x := 111) c12_40 rfl ?_
    by_cases e3 : x1 = 111
    · have w := w.pos e3
      refine mE_icmp_ne_F (t := 49) c12_42 rfl hx1 (r4_n rfl) e3 ?_
      refine mE_iconst c12_45 ?_
      refine mE_goto (t := 50) c12_46 rfl ?_
      obtain ⟨M4, m5, w⟩ := w.mlet
      refine mE_putI c12_50 qo12 qF10_81 qz10_5 (ok_tx0 hr0) (Nat.le_of_ble_eq_true rfl) rfl (r4_n rfl) (by rw [qy10_5]; exact fit01 (Or.inr rfl)) ?_
      refine mE_M m5 ?_
      refine mE_aload_n c12_53 rfl ?_
      refine mE_dup c12_54 rfl ?_
      refine mE_getI c12_55 qo12 qF10_57 (ok_tx0 hr0) rfl ?_
      intro u6
      refine mE_iconst c12_58 ?_
      obtain ⟨g7, w⟩ := w.ogd
      refine mE_iadd c12_59 ?_
      obtain ⟨M8, m9, w⟩ := w.mlet
      refine mE_putI c12_60 qo12 qF10_57 qz10_3 (ok_tx0 hr0) (Nat.le_of_ble_eq_true rfl) rfl g7 (by rw [qy10_3]; rfl) ?_
      refine mE_M m9 ?_
      refine mE_iconst c12_63 ?_
      exact mE_zret c12_64 qr12 (Or.inr rfl) w.osome
    · have w := w.neg e3
      refine mE_icmp_ne_T (t := 49) c12_42 rfl hx1 (r4_n rfl) e3 ?_
      refine mE_iconst c12_49 ?_
      obtain ⟨M4, m5, w⟩ := w.mlet
      refine mE_putI c12_50 qo12 qF10_81 qz10_5 (ok_tx0 hr0) (Nat.le_of_ble_eq_true rfl) rfl (r4_n rfl) (by rw [qy10_5]; exact fit01 (Or.inl rfl)) ?_
      refine mE_M m5 ?_
      refine mE_aload_n c12_53 rfl ?_
      refine mE_dup c12_54 rfl ?_
      refine mE_getI c12_55 qo12 qF10_57 (ok_tx0 hr0) rfl ?_
      intro u6
      refine mE_iconst c12_58 ?_
      obtain ⟨g7, w⟩ := w.ogd
      refine mE_iadd c12_59 ?_
      obtain ⟨M8, m9, w⟩ := w.mlet
      refine mE_putI c12_60 qo12 qF10_57 qz10_3 (ok_tx0 hr0) (Nat.le_of_ble_eq_true rfl) rfl g7 (by rw [qy10_3]; rfl) ?_
      refine mE_M m9 ?_
      refine mE_iconst c12_63 ?_
      exact mE_zret c12_64 qr12 (Or.inr rfl) w.osome
  · have w := w.neg e2
    refine mE_icmp_lt_F (t := 38) c12_29 rfl u1 (r4_n rfl) e2 ?_
    refine mE_aload_n c12_32 rfl ?_
    refine mE_iconst c12_33 ?_
    refine mE_virtual1 (b := r0) (as := [.int (Int32.ofInt 4)]) (r := []) c12_34 qo12 qK10_78 qo27 rfl rfl rfl (ok_tx0 hr0) (Nat.le_of_ble_eq_true rfl) (s27 (d := d + 0) hr0 (r4_n rfl) w.oc) ?_
    intro v3 M4 q5 w
    obtain ⟨g6, w⟩ := w.ogd
    exact mE_zret c12_37 qr12 g6 w.osome
noncomputable def f12 (r0 : Nat) (M : Mm) : Option (Int × Mm) :=
  (f23 r0 M).bind fun v1 =>
  if v1 = 116 then
  (f12_23 r0 v1 M)
  else
  (if v1 = 111 then
  (f12_23 r0 v1 M)
  else
  (obnd (f27 r0 1 M) fun v6 M7 =>
  gd (v6 = 0 ∨ v6 = 1) (
  some (v6, M7))))
theorem t12 {X : Nat × Nat × qC} {d : Nat} {r0 : Nat} {M : Mm}  {R : Int × Mm → Prop} (hr0 : isTx r0) (w : Wp (f12 r0 M) R) : mE X (d + 1) 12 1 0 [some (.ref r0), none] [] M (fun v M2 => R (v, M2)) := by
  refine mE_aload_n c12_0 rfl ?_
  refine mE_virtual1 (b := r0) (as := []) (r := []) c12_1 qo12 qK10_74 qo23 rfl rfl rfl (ok_tx0 hr0) (Nat.le_of_ble_eq_true rfl) (s23 (d := d + 0) hr0 w.obind) ?_
  rintro v1 _ q3 ⟨rfl, w⟩
  refine mE_istore_n (ls2 := [some (.ref r0), some (.int (Int32.ofInt v1))]) c12_4 (Nat.le_of_ble_eq_true rfl) rfl ?_
  refine mE_iload_n c12_5 rfl ?_
  refine mE_bipush (x := 116) c12_6 rfl ?_
  by_cases e4 : v1 = 116
  · have w := w.pos e4
    refine mE_icmp_eq_T (t := 23) c12_8 rfl q3 (r4_n rfl) e4 ?_
    exact t12_23 hr0 q3 w
  · have w := w.neg e4
    refine mE_icmp_eq_F (t := 23) c12_8 rfl q3 (r4_n rfl) e4 ?_
    refine mE_iload_n c12_11 rfl ?_
    refine mE_bipush (x := 111) c12_12 rfl ?_
    by_cases e5 : v1 = 111
    · have w := w.pos e5
      refine mE_icmp_eq_T (t := 23) c12_14 rfl q3 (r4_n rfl) e5 ?_
      exact t12_23 hr0 q3 w
    · have w := w.neg e5
      refine mE_icmp_eq_F (t := 23) c12_14 rfl q3 (r4_n rfl) e5 ?_
      refine mE_aload_n c12_17 rfl ?_
      refine mE_iconst c12_18 ?_
      refine mE_virtual1 (b := r0) (as := [.int (Int32.ofInt 1)]) (r := []) c12_19 qo12 qK10_78 qo27 rfl rfl rfl (ok_tx0 hr0) (Nat.le_of_ble_eq_true rfl) (s27 (d := d + 0) hr0 (r4_n rfl) w.oc) ?_
      intro v6 M7 q8 w
      obtain ⟨g9, w⟩ := w.ogd
      exact mE_zret c12_22 qr12 g9 w.osome
theorem s12 {X : Nat × Nat × qC} {d : Nat} {r0 : Nat} {M : Mm} {R : Int × Mm → Prop} (hr0 : isTx r0) (w : Wp (f12 r0 M) R) : mC X (d + 2) 12 1 [.ref r0] M (fun v M2 => R (v, M2)) :=
  mC_of (qent_mk qx12 rfl rfl rfl) (t12 hr0 w)
/-! SaggingNet$Text.emit -/
noncomputable def f14 (r0 : Nat) (x1 : Int) (x2 : Int) (M : Mm) : Option (Mm) :=
  if (M r0 2) < 320 then
  (gd (0 ≤ (M r0 2) ∧ (M r0 2) < 320) (
  mlet (ms M (r0 + 2) ((M r0 2)).toNat x1) fun M5 =>
  gd (0 ≤ (M5 r0 2) ∧ (M5 r0 2) < 320) (
  mlet (ms M5 (r0 + 3) ((M5 r0 2)).toNat x2) fun M9 =>
  gd (R4 ((M9 r0 2) + 1)) (
  mlet (ms M9 r0 2 ((M9 r0 2) + 1)) fun M13 =>
  some M13))))
  else
  (some M)
theorem t14 {X : Nat × Nat × qC} {d : Nat} {r0 : Nat} {x1 : Int} {x2 : Int} {M : Mm}  {R : Mm → Prop} (hr0 : isTx r0) (hx1 : R4 x1) (hx2 : R4 x2) (w : Wp (f14 r0 x1 x2 M) R) : mE X (d + 0) 14 0 0 [some (.ref r0), some (.int (Int32.ofInt x1)), some (.int (Int32.ofInt x2))] [] M (fun v M2 => R M2) := by
  refine mE_aload_n c14_0 rfl ?_
  refine mE_getI c14_1 qo14 qF10_54 (ok_tx0 hr0) rfl ?_
  intro u1
  refine mE_sipush (x := 320) c14_4 rfl ?_
  by_cases e2 : (M r0 2) < 320
  · have w := w.pos e2
    refine mE_icmp_ge_F (t := 40) c14_7 rfl u1 (r4_n rfl) e2 ?_
    refine mE_aload_n c14_10 rfl ?_
    refine mE_getA c14_11 qo14 qF10_15 (ok_tx0 hr0) rfl (nz_tx hr0 _) ?_
    refine mE_aload_n c14_14 rfl ?_
    refine mE_getI c14_15 qo14 qF10_54 (ok_tx0 hr0) rfl ?_
    intro u3
    refine mE_iload_n c14_18 rfl ?_
    obtain ⟨g4, w⟩ := w.ogd
    obtain ⟨M5, m6, w⟩ := w.mlet
    refine mE_iastore c14_19 (ok_tx2 hr0) u3 g4 hx1 ?_
    refine mE_M m6 ?_
    refine mE_aload_n c14_20 rfl ?_
    refine mE_getA c14_21 qo14 qF10_18 (ok_tx0 hr0) rfl (nz_tx hr0 _) ?_
    refine mE_aload_n c14_24 rfl ?_
    refine mE_getI c14_25 qo14 qF10_54 (ok_tx0 hr0) rfl ?_
    intro u7
    refine mE_iload_n c14_28 rfl ?_
    obtain ⟨g8, w⟩ := w.ogd
    obtain ⟨M9, m10, w⟩ := w.mlet
    refine mE_iastore c14_29 (ok_tx3 hr0) u7 g8 hx2 ?_
    refine mE_M m10 ?_
    refine mE_aload_n c14_30 rfl ?_
    refine mE_dup c14_31 rfl ?_
    refine mE_getI c14_32 qo14 qF10_54 (ok_tx0 hr0) rfl ?_
    intro u11
    refine mE_iconst c14_35 ?_
    obtain ⟨g12, w⟩ := w.ogd
    refine mE_iadd c14_36 ?_
    obtain ⟨M13, m14, w⟩ := w.mlet
    refine mE_putI c14_37 qo14 qF10_54 qz10_2 (ok_tx0 hr0) (Nat.le_of_ble_eq_true rfl) rfl g12 (by rw [qy10_2]; rfl) ?_
    refine mE_M m14 ?_
    exact mE_vret c14_40 qr14 w.osome
  · have w := w.neg e2
    refine mE_icmp_ge_T (t := 40) c14_7 rfl u1 (r4_n rfl) e2 ?_
    exact mE_vret c14_40 qr14 w.osome
theorem s14 {X : Nat × Nat × qC} {d : Nat} {r0 : Nat} {x1 : Int} {x2 : Int} {M : Mm} {R : Mm → Prop} (hr0 : isTx r0) (hx1 : R4 x1) (hx2 : R4 x2) (w : Wp (f14 r0 x1 x2 M) R) : mC X (d + 1) 14 0 [.ref r0, .int (Int32.ofInt x1), .int (Int32.ofInt x2)] M (fun v M2 => R M2) :=
  mC_of (qent_mk qx14 rfl rfl rfl) (t14 hr0 hx1 hx2 w)
/-! SaggingNet$Text.landHere -/
def E21_2 (X : Nat × Nat × qC) (d : Nat) (r0 : Nat) (x2 : Int) (R : Mm → Prop) : Int × Mm → Prop := fun s => R4 s.1 → ∀ (y1 : Int32), mE X (d + 0) 21 0 2 [some (.ref r0), some (.int y1), some (.int (Int32.ofInt x2)), some (.int (Int32.ofInt s.1))] [] s.2 (fun v M2 => R M2)
noncomputable def f21_40 (r0 : Nat) (x2 : Int) (x3 : Int) (M : Mm) : Option ((Int × Mm) ⊕ (Mm)) :=
  gd (R4 (x3 + 1)) (
  some (.inl ((x3 + 1), M)))
theorem t21_40 {X : Nat × Nat × qC} {d : Nat} {r0 : Nat} {x2 : Int} {x3 : Int} {M : Mm} {y1 : Int32} {R : Mm → Prop} (hr0 : isTx r0) (hx2 : R4 x2) (hx3 : R4 x3) (w : Wp (f21_40 r0 x2 x3 M) (Sum.elim (E21_2 X d r0 x2 R) R)) : mE X (d + 0) 21 0 40 [some (.ref r0), some (.int y1), some (.int (Int32.ofInt x2)), some (.int (Int32.ofInt x3))] [] M (fun v M2 => R M2) := by
  obtain ⟨g1, w⟩ := w.ogd
  refine mE_iinc (ls2 := [some (.ref r0), some (.int y1), some (.int (Int32.ofInt x2)), some (.int (Int32.ofInt (x3 + 1)))]) c21_40 rfl (Nat.le_of_ble_eq_true rfl) rfl ?_
  refine mE_goto (t := 2) c21_43 rfl ?_
  exact w.osome g1 _
noncomputable def lb21_2 (r0 : Nat) (x2 : Int) (x3 : Int) (M : Mm) : Option ((Int × Mm) ⊕ (Mm)) :=
  if x3 < (M r0 2) then
  (gd (0 ≤ x3 ∧ x3 < 320) (
  if (M (r0 + 2) (x3).toNat) = x2 then
  (if (M (r0 + 3) (x3).toNat) = (-1) then
  (mlet (ms M (r0 + 3) (x3).toNat (M r0 2)) fun M9 =>
  f21_40 r0 x2 x3 M9)
  else
  (f21_40 r0 x2 x3 M))
  else
  (f21_40 r0 x2 x3 M)))
  else
  (oinr (some M))
noncomputable def f21_2 (r0 : Nat) (x2 : Int) (x3 : Int) (M : Mm) : Option (Mm) := lp (fun s : Int × Mm => lb21_2 r0 x2 s.1 s.2) (x3, M)
theorem tb21_2 {X : Nat × Nat × qC} {d : Nat} {r0 : Nat} {x2 : Int} {x3 : Int} {M : Mm} {y1 : Int32} {R : Mm → Prop} (hr0 : isTx r0) (hx2 : R4 x2) (hx3 : R4 x3) (w : Wp (lb21_2 r0 x2 x3 M) (Sum.elim (E21_2 X d r0 x2 R) R)) : mE X (d + 0) 21 0 2 [some (.ref r0), some (.int y1), some (.int (Int32.ofInt x2)), some (.int (Int32.ofInt x3))] [] M (fun v M2 => R M2) := by
  refine mE_iload_n c21_2 rfl ?_
  refine mE_aload_n c21_3 rfl ?_
  refine mE_getI c21_4 qo21 qF10_54 (ok_tx0 hr0) rfl ?_
  intro u1
  by_cases e2 : x3 < (M r0 2)
  · have w := w.pos e2
    refine mE_icmp_ge_F (t := 46) c21_7 rfl hx3 u1 e2 ?_
    refine mE_aload_n c21_10 rfl ?_
    refine mE_getA c21_11 qo21 qF10_15 (ok_tx0 hr0) rfl (nz_tx hr0 _) ?_
    refine mE_iload_n c21_14 rfl ?_
    obtain ⟨g3, w⟩ := w.ogd
    refine mE_iaload c21_15 (ok_tx2 hr0) hx3 g3 ?_
    intro u4
    refine mE_iload_n c21_16 rfl ?_
    by_cases e5 : (M (r0 + 2) (x3).toNat) = x2
    · have w := w.pos e5
      refine mE_icmp_ne_F (t := 40) c21_17 rfl u4 hx2 e5 ?_
      refine mE_aload_n c21_20 rfl ?_
      refine mE_getA c21_21 qo21 qF10_18 (ok_tx0 hr0) rfl (nz_tx hr0 _) ?_
      refine mE_iload_n c21_24 rfl ?_
      refine mE_iaload c21_25 (ok_tx3 hr0) hx3 g3 ?_
      intro u6
      refine mE_iconst c21_26 ?_
      by_cases e7 : (M (r0 + 3) (x3).toNat) = (-1)
      · have w := w.pos e7
        refine mE_icmp_ne_F (t := 40) c21_27 rfl u6 (r4_n rfl) e7 ?_
        refine mE_aload_n c21_30 rfl ?_
        refine mE_getA c21_31 qo21 qF10_18 (ok_tx0 hr0) rfl (nz_tx hr0 _) ?_
        refine mE_iload_n c21_34 rfl ?_
        refine mE_aload_n c21_35 rfl ?_
        refine mE_getI c21_36 qo21 qF10_54 (ok_tx0 hr0) rfl ?_
        intro u8
        obtain ⟨M9, m10, w⟩ := w.mlet
        refine mE_iastore c21_39 (ok_tx3 hr0) hx3 g3 u8 ?_
        refine mE_M m10 ?_
        exact t21_40 hr0 hx2 hx3 w
      · have w := w.neg e7
        refine mE_icmp_ne_T (t := 40) c21_27 rfl u6 (r4_n rfl) e7 ?_
        exact t21_40 hr0 hx2 hx3 w
    · have w := w.neg e5
      refine mE_icmp_ne_T (t := 40) c21_17 rfl u4 hx2 e5 ?_
      exact t21_40 hr0 hx2 hx3 w
  · have w := w.neg e2
    refine mE_icmp_ge_T (t := 46) c21_7 rfl hx3 u1 e2 ?_
    have w := w.oinr
    exact mE_vret c21_46 qr21 w.osome
theorem t21_2 {X : Nat × Nat × qC} {d : Nat} {r0 : Nat} {x2 : Int} {x3 : Int} {M : Mm} {y1 : Int32} {R : Mm → Prop} (hr0 : isTx r0) (hx2 : R4 x2) (hx3 : R4 x3) (w : Wp (f21_2 r0 x2 x3 M) R) : mE X (d + 0) 21 0 2 [some (.ref r0), some (.int y1), some (.int (Int32.ofInt x2)), some (.int (Int32.ofInt x3))] [] M (fun v M2 => R M2) :=
  Wp.olp (f := fun s : Int × Mm => lb21_2 r0 x2 s.1 s.2) (s := (x3, M)) (E := E21_2 X d r0 x2 R) w (fun s w hx3 _ => tb21_2 hr0 hx2 hx3 w) hx3 _
noncomputable def f21 (r0 : Nat) (x1 : Int) (x2 : Int) (M : Mm) : Option (Mm) :=
  f21_2 r0 x2 x1 M
theorem t21 {X : Nat × Nat × qC} {d : Nat} {r0 : Nat} {x1 : Int} {x2 : Int} {M : Mm}  {R : Mm → Prop} (hr0 : isTx r0) (hx1 : R4 x1) (hx2 : R4 x2) (w : Wp (f21 r0 x1 x2 M) R) : mE X (d + 0) 21 0 0 [some (.ref r0), some (.int (Int32.ofInt x1)), some (.int (Int32.ofInt x2)), none] [] M (fun v M2 => R M2) := by
  refine mE_iload_n c21_0 rfl ?_
  refine mE_istore_n (ls2 := [some (.ref r0), some (.int (Int32.ofInt x1)), some (.int (Int32.ofInt x2)), some (.int (Int32.ofInt x1))]) c21_1 (Nat.le_of_ble_eq_true rfl) rfl ?_
  exact t21_2 hr0 hx2 hx1 w
theorem s21 {X : Nat × Nat × qC} {d : Nat} {r0 : Nat} {x1 : Int} {x2 : Int} {M : Mm} {R : Mm → Prop} (hr0 : isTx r0) (hx1 : R4 x1) (hx2 : R4 x2) (w : Wp (f21 r0 x1 x2 M) R) : mC X (d + 1) 21 0 [.ref r0, .int (Int32.ofInt x1), .int (Int32.ofInt x2)] M (fun v M2 => R M2) :=
  mC_of (qent_mk qx21 rfl rfl rfl) (t21 hr0 hx1 hx2 w)
/-! SaggingNet$Text.take -/
noncomputable def f29 (r0 : Nat) (x1 : Int) (M : Mm) : Option (Int × Mm) :=
  (f23 r0 M).bind fun v1 =>
  if v1 = x1 then
  (gd (R4 ((M r0 3) + 1)) (
  mlet (ms M r0 3 ((M r0 3) + 1)) fun M7 =>
  some (1, M7)))
  else
  (obnd (f27 r0 1 M) fun v5 M6 =>
  gd (v5 = 0 ∨ v5 = 1) (
  some (v5, M6)))
theorem t29 {X : Nat × Nat × qC} {d : Nat} {r0 : Nat} {x1 : Int} {M : Mm}  {R : Int × Mm → Prop} (hr0 : isTx r0) (hx1 : R4 x1) (w : Wp (f29 r0 x1 M) R) : mE X (d + 1) 29 1 0 [some (.ref r0), some (.int (Int32.ofInt x1))] [] M (fun v M2 => R (v, M2)) := by
  refine mE_aload_n c29_0 rfl ?_
  refine mE_virtual1 (b := r0) (as := []) (r := []) c29_1 qo29 qK10_74 qo23 rfl rfl rfl (ok_tx0 hr0) (Nat.le_of_ble_eq_true rfl) (s23 (d := d + 0) hr0 w.obind) ?_
  rintro v1 _ q3 ⟨rfl, w⟩
  refine mE_iload_n c29_4 rfl ?_
  by_cases e4 : v1 = x1
  · have w := w.pos e4
    refine mE_icmp_eq_T (t := 14) c29_5 rfl q3 hx1 e4 ?_
    refine mE_aload_n c29_14 rfl ?_
    refine mE_dup c29_15 rfl ?_
    refine mE_getI c29_16 qo29 qF10_57 (ok_tx0 hr0) rfl ?_
    intro u5
    refine mE_iconst c29_19 ?_
    obtain ⟨g6, w⟩ := w.ogd
    refine mE_iadd c29_20 ?_
    obtain ⟨M7, m8, w⟩ := w.mlet
    refine mE_putI c29_21 qo29 qF10_57 qz10_3 (ok_tx0 hr0) (Nat.le_of_ble_eq_true rfl) rfl g6 (by rw [qy10_3]; rfl) ?_
    refine mE_M m8 ?_
    refine mE_iconst c29_24 ?_
    exact mE_zret c29_25 qr29 (Or.inr rfl) w.osome
  · have w := w.neg e4
    refine mE_icmp_eq_F (t := 14) c29_5 rfl q3 hx1 e4 ?_
    refine mE_aload_n c29_8 rfl ?_
    refine mE_iconst c29_9 ?_
    refine mE_virtual1 (b := r0) (as := [.int (Int32.ofInt 1)]) (r := []) c29_10 qo29 qK10_78 qo27 rfl rfl rfl (ok_tx0 hr0) (Nat.le_of_ble_eq_true rfl) (s27 (d := d + 0) hr0 (r4_n rfl) w.oc) ?_
    intro v5 M6 q7 w
    obtain ⟨g8, w⟩ := w.ogd
    exact mE_zret c29_13 qr29 g8 w.osome
theorem s29 {X : Nat × Nat × qC} {d : Nat} {r0 : Nat} {x1 : Int} {M : Mm} {R : Int × Mm → Prop} (hr0 : isTx r0) (hx1 : R4 x1) (w : Wp (f29 r0 x1 M) R) : mC X (d + 2) 29 1 [.ref r0, .int (Int32.ofInt x1)] M (fun v M2 => R (v, M2)) :=
  mC_of (qent_mk qx29 rfl rfl rfl) (t29 hr0 hx1 w)
/-! SaggingNet$Text.isDigit -/
noncomputable def f20 (x0 : Int) (M : Mm) : Option (Int) :=
  if x0 < 48 then
  (some 0)
  else
  (if 57 < x0 then
  (some 0)
  else
  (some 1))
theorem t20 {X : Nat × Nat × qC} {d : Nat} {x0 : Int} {M : Mm}  {R : Int → Prop} (hx0 : R4 x0) (w : Wp (f20 x0 M) R) : mE X (d + 0) 20 1 0 [some (.int (Int32.ofInt x0))] [] M (fun v M2 => M = M2 ∧ R v) := by
  refine mE_iload_n c20_0 rfl ?_
  refine mE_bipush (x := 48) c20_1 rfl ?_
  by_cases e1 : x0 < 48
  · have w := w.pos e1
    refine mE_icmp_lt_T (t := 16) c20_3 rfl hx0 (r4_n rfl) e1 ?_
    refine mE_iconst c20_16 ?_
    exact mE_zret c20_17 qr20 (Or.inl rfl) ⟨rfl, w.osome⟩
  · have w := w.neg e1
    refine mE_icmp_lt_F (t := 16) c20_3 rfl hx0 (r4_n rfl) e1 ?_
    refine mE_iload_n c20_6 rfl ?_
    refine mE_bipush (x := 57) c20_7 rfl ?_
    by_cases e2 : 57 < x0
    · have w := w.pos e2
      refine mE_icmp_gt_T (t := 16) c20_9 rfl hx0 (r4_n rfl) e2 ?_
      refine mE_iconst c20_16 ?_
      exact mE_zret c20_17 qr20 (Or.inl rfl) ⟨rfl, w.osome⟩
    · have w := w.neg e2
      refine mE_icmp_gt_F (t := 16) c20_9 rfl hx0 (r4_n rfl) e2 ?_
      refine mE_iconst c20_12 ?_
      refine mE_goto (t := 17) c20_13 rfl ?_
      exact mE_zret c20_17 qr20 (Or.inr rfl) ⟨rfl, w.osome⟩
theorem s20 {X : Nat × Nat × qC} {d : Nat} {x0 : Int} {M : Mm} {R : Int → Prop} (hx0 : R4 x0) (w : Wp (f20 x0 M) R) : mC X (d + 1) 20 1 [.int (Int32.ofInt x0)] M (fun v M2 => M = M2 ∧ R v) :=
  mC_of (qent_mk qx20 rfl rfl rfl) (t20 hx0 w)
/-! SaggingNet$Text.number -/
def E22_4 (X : Nat × Nat × qC) (d : Nat) (r0 : Nat) (R : Int × Mm → Prop) : Int × Int × Mm → Prop := fun s => R4 s.1 → R4 s.2.1 → mE X (d + 1) 22 1 4 [some (.ref r0), some (.int (Int32.ofInt s.1)), some (.int (Int32.ofInt s.2.1))] [] s.2.2 (fun v M2 => R (v, M2))
noncomputable def f22_49 (r0 : Nat) (x1 : Int) (M : Mm) : Option (Int × Mm) :=
  (f23 r0 M).bind fun v1 =>
  (f20 v1 M).bind fun v4 =>
  if v4 = 0 then
  ((f14 r0 48 x1 M).bind fun M9 =>
  some (1, M9))
  else
  (obnd (f27 r0 2 M) fun v8 M9 =>
  gd (v8 = 0 ∨ v8 = 1) (
  some (v8, M9)))
theorem t22_49 {X : Nat × Nat × qC} {d : Nat} {r0 : Nat} {x1 : Int} {M : Mm} {y2 : Int32} {R : Int × Mm → Prop} (hr0 : isTx r0) (hx1 : R4 x1) (w : Wp (f22_49 r0 x1 M) R) : mE X (d + 1) 22 1 49 [some (.ref r0), some (.int (Int32.ofInt x1)), some (.int y2)] [] M (fun v M2 => R (v, M2)) := by
  refine mE_aload_n c22_49 rfl ?_
  refine mE_virtual1 (b := r0) (as := []) (r := []) c22_50 qo22 qK10_74 qo23 rfl rfl rfl (ok_tx0 hr0) (Nat.le_of_ble_eq_true rfl) (s23 (d := d + 0) hr0 w.obind) ?_
  rintro v1 _ q3 ⟨rfl, w⟩
  refine mE_static1 (as := [.int (Int32.ofInt v1)]) (r := []) c22_53 qo22 (by decide) qK10_101 rfl rfl rfl (Nat.le_of_ble_eq_true rfl) (s20 (d := d + 0) q3 w.obind) ?_
  rintro v4 _ q6 ⟨rfl, w⟩
  by_cases e7 : v4 = 0
  · have w := w.pos e7
    refine mE_if_eq_T (t := 65) c22_56 rfl q6 e7 ?_
    refine mE_aload_n c22_65 rfl ?_
    refine mE_bipush (x := 48) c22_66 rfl ?_
    refine mE_iload_n c22_68 rfl ?_
    refine mE_virtual0 (b := r0) (as := [.int (Int32.ofInt 48), .int (Int32.ofInt x1)]) (r := []) c22_69 qo22 qK10_88 qo14 rfl rfl rfl (ok_tx0 hr0) (Nat.le_of_ble_eq_true rfl) (s14 (d := d + 0) hr0 (r4_n rfl) hx1 w.obind) ?_
    intro _ M9 w
    refine mE_iconst c22_72 ?_
    exact mE_zret c22_73 qr22 (Or.inr rfl) w.osome
  · have w := w.neg e7
    refine mE_if_eq_F (t := 65) c22_56 rfl q6 e7 ?_
    refine mE_aload_n c22_59 rfl ?_
    refine mE_iconst c22_60 ?_
    refine mE_virtual1 (b := r0) (as := [.int (Int32.ofInt 2)]) (r := []) c22_61 qo22 qK10_78 qo27 rfl rfl rfl (ok_tx0 hr0) (Nat.le_of_ble_eq_true rfl) (s27 (d := d + 0) hr0 (r4_n rfl) w.oc) ?_
    intro v8 M9 q10 w
    obtain ⟨g11, w⟩ := w.ogd
    exact mE_zret c22_64 qr22 g11 w.osome
noncomputable def lb22_4 (r0 : Nat) (x1 : Int) (x2 : Int) (M : Mm) : Option ((Int × Int × Mm) ⊕ (Int × Mm)) :=
  if x2 < 6 then
  ((f23 r0 M).bind fun v2 =>
  (f20 v2 M).bind fun v5 =>
  if v5 = 0 then
  (oinr (f22_49 r0 x1 M))
  else
  (gd (R4 (x1 * 10)) (
  (f23 r0 M).bind fun v10 =>
  gd (R4 ((x1 * 10) + v10)) (
  gd (R4 (((x1 * 10) + v10) - 48)) (
  gd (R4 ((M r0 3) + 1)) (
  mlet (ms M r0 3 ((M r0 3) + 1)) fun M17 =>
  gd (R4 (x2 + 1)) (
  some (.inl ((((x1 * 10) + v10) - 48), (x2 + 1), M17)))))))))
  else
  (oinr (f22_49 r0 x1 M))
noncomputable def f22_4 (r0 : Nat) (x1 : Int) (x2 : Int) (M : Mm) : Option (Int × Mm) := lp (fun s : Int × Int × Mm => lb22_4 r0 s.1 s.2.1 s.2.2) (x1, x2, M)
theorem tb22_4 {X : Nat × Nat × qC} {d : Nat} {r0 : Nat} {x1 : Int} {x2 : Int} {M : Mm}  {R : Int × Mm → Prop} (hr0 : isTx r0) (hx1 : R4 x1) (hx2 : R4 x2) (w : Wp (lb22_4 r0 x1 x2 M) (Sum.elim (E22_4 X d r0 R) R)) : mE X (d + 1) 22 1 4 [some (.ref r0), some (.int (Int32.ofInt x1)), some (.int (Int32.ofInt x2))] [] M (fun v M2 => R (v, M2)) := by
  refine mE_iload_n c22_4 rfl ?_
  refine mE_bipush (x := 6) c22_5 rfl ?_
  by_cases e1 : x2 < 6
  · have w := w.pos e1
    refine mE_icmp_ge_F (t := 49) c22_7 rfl hx2 (r4_n rfl) e1 ?_
    refine mE_aload_n c22_10 rfl ?_
    refine mE_virtual1 (b := r0) (as := []) (r := []) c22_11 qo22 qK10_74 qo23 rfl rfl rfl (ok_tx0 hr0) (Nat.le_of_ble_eq_true rfl) (s23 (d := d + 0) hr0 w.obind) ?_
    rintro v2 _ q4 ⟨rfl, w⟩
    refine mE_static1 (as := [.int (Int32.ofInt v2)]) (r := []) c22_14 qo22 (by decide) qK10_101 rfl rfl rfl (Nat.le_of_ble_eq_true rfl) (s20 (d := d + 0) q4 w.obind) ?_
    rintro v5 _ q7 ⟨rfl, w⟩
    by_cases e8 : v5 = 0
    · have w := w.pos e8
      refine mE_if_eq_T (t := 49) c22_17 rfl q7 e8 ?_
      have w := w.oinr
      exact t22_49 hr0 hx1 w
    · have w := w.neg e8
      refine mE_if_eq_F (t := 49) c22_17 rfl q7 e8 ?_
      refine mE_iload_n c22_20 rfl ?_
      refine mE_bipush (x := 10) c22_21 rfl ?_
      obtain ⟨g9, w⟩ := w.ogd
      refine mE_imul c22_23 ?_
      refine mE_aload_n c22_24 rfl ?_
      refine mE_virtual1 (b := r0) (as := []) (r := [.int (Int32.ofInt (x1 * 10))]) c22_25 qo22 qK10_74 qo23 rfl rfl rfl (ok_tx0 hr0) (Nat.le_of_ble_eq_true rfl) (s23 (d := d + 0) hr0 w.obind) ?_
      rintro v10 _ q12 ⟨rfl, w⟩
      obtain ⟨g13, w⟩ := w.ogd
      refine mE_iadd c22_28 ?_
      refine mE_bipush (x := 48) c22_29 rfl ?_
      obtain ⟨g14, w⟩ := w.ogd
      refine mE_isub c22_31 ?_
      refine mE_istore_n (ls2 := [some (.ref r0), some (.int (Int32.ofInt (((x1 * 10) + v10) - 48))), some (.int (Int32.ofInt x2))]) c22_32 (Nat.le_of_ble_eq_true rfl) rfl ?_
      refine mE_aload_n c22_33 rfl ?_
      refine mE_dup c22_34 rfl ?_
      refine mE_getI c22_35 qo22 qF10_57 (ok_tx0 hr0) rfl ?_
      intro u15
      refine mE_iconst c22_38 ?_
      obtain ⟨g16, w⟩ := w.ogd
      refine mE_iadd c22_39 ?_
      obtain ⟨M17, m18, w⟩ := w.mlet
      refine mE_putI c22_40 qo22 qF10_57 qz10_3 (ok_tx0 hr0) (Nat.le_of_ble_eq_true rfl) rfl g16 (by rw [qy10_3]; rfl) ?_
      refine mE_M m18 ?_
      obtain ⟨g19, w⟩ := w.ogd
      refine mE_iinc (ls2 := [some (.ref r0), some (.int (Int32.ofInt (((x1 * 10) + v10) - 48))), some (.int (Int32.ofInt (x2 + 1)))]) c22_43 rfl (Nat.le_of_ble_eq_true rfl) rfl ?_
      refine mE_goto (t := 4) c22_46 rfl ?_
      exact w.osome g14 g19
  · have w := w.neg e1
    refine mE_icmp_ge_T (t := 49) c22_7 rfl hx2 (r4_n rfl) e1 ?_
    have w := w.oinr
    exact t22_49 hr0 hx1 w
theorem t22_4 {X : Nat × Nat × qC} {d : Nat} {r0 : Nat} {x1 : Int} {x2 : Int} {M : Mm}  {R : Int × Mm → Prop} (hr0 : isTx r0) (hx1 : R4 x1) (hx2 : R4 x2) (w : Wp (f22_4 r0 x1 x2 M) R) : mE X (d + 1) 22 1 4 [some (.ref r0), some (.int (Int32.ofInt x1)), some (.int (Int32.ofInt x2))] [] M (fun v M2 => R (v, M2)) :=
  Wp.olp (f := fun s : Int × Int × Mm => lb22_4 r0 s.1 s.2.1 s.2.2) (s := (x1, x2, M)) (E := E22_4 X d r0 R) w (fun s w hx1 hx2 => tb22_4 hr0 hx1 hx2 w) hx1 hx2
noncomputable def f22 (r0 : Nat) (M : Mm) : Option (Int × Mm) :=
  f22_4 r0 0 0 M
theorem t22 {X : Nat × Nat × qC} {d : Nat} {r0 : Nat} {M : Mm}  {R : Int × Mm → Prop} (hr0 : isTx r0) (w : Wp (f22 r0 M) R) : mE X (d + 1) 22 1 0 [some (.ref r0), none, none] [] M (fun v M2 => R (v, M2)) := by
  refine mE_iconst c22_0 ?_
  refine mE_istore_n (ls2 := [some (.ref r0), some (.int (Int32.ofInt 0)), none]) c22_1 (Nat.le_of_ble_eq_true rfl) rfl ?_
  refine mE_iconst c22_2 ?_
  refine mE_istore_n (ls2 := [some (.ref r0), some (.int (Int32.ofInt 0)), some (.int (Int32.ofInt 0))]) c22_3 (Nat.le_of_ble_eq_true rfl) rfl ?_
  exact t22_4 hr0 (r4_n rfl) (r4_n rfl) w
theorem s22 {X : Nat × Nat × qC} {d : Nat} {r0 : Nat} {M : Mm} {R : Int × Mm → Prop} (hr0 : isTx r0) (w : Wp (f22 r0 M) R) : mC X (d + 2) 22 1 [.ref r0] M (fun v M2 => R (v, M2)) :=
  mC_of (qent_mk qx22 rfl rfl rfl) (t22 hr0 w)
/-! SaggingNet$Text.isAsked -/
noncomputable def f19 (r0 : Nat) (x1 : Int) (M : Mm) : Option (Int) :=
  if x1 < 6 then
  (some 1)
  else
  (if x1 < 9 then
  (if 0 = (M r0 5) then
  (some 1)
  else
  (some 0))
  else
  (if 1 = (M r0 5) then
  (some 1)
  else
  (some 0)))
theorem t19 {X : Nat × Nat × qC} {d : Nat} {r0 : Nat} {x1 : Int} {M : Mm}  {R : Int → Prop} (hr0 : isTx r0) (hx1 : R4 x1) (w : Wp (f19 r0 x1 M) R) : mE X (d + 0) 19 1 0 [some (.ref r0), some (.int (Int32.ofInt x1))] [] M (fun v M2 => M = M2 ∧ R v) := by
  refine mE_iload_n c19_0 rfl ?_
  refine mE_bipush (x := 6) c19_1 rfl ?_
  by_cases e1 : x1 < 6
  · have w := w.pos e1
    refine mE_icmp_lt_T (t := 24) c19_3 rfl hx1 (r4_n rfl) e1 ?_
    refine mE_iconst c19_24 ?_
    refine mE_goto (t := 29) c19_25 rfl ?_
    exact mE_zret c19_29 qr19 (Or.inr rfl) ⟨rfl, w.osome⟩
  · have w := w.neg e1
    refine mE_icmp_lt_F (t := 24) c19_3 rfl hx1 (r4_n rfl) e1 ?_
    refine mE_iload_n c19_6 rfl ?_
    refine mE_bipush (x := 9) c19_7 rfl ?_
    by_cases e2 : x1 < 9
    · have w := w.pos e2
      refine mE_icmp_lt_T (t := 16) c19_9 rfl hx1 (r4_n rfl) e2 ?_
      refine mE_iconst c19_16 ?_
      refine mE_aload_n c19_17 rfl ?_
      refine mE_getI c19_18 qo19 qF10_81 (ok_tx0 hr0) rfl ?_
      intro u3
      by_cases e4 : 0 = (M r0 5)
      · have w := w.pos e4
        refine mE_icmp_ne_F (t := 28) c19_21 rfl (r4_n rfl) u3 e4 ?_
        refine mE_iconst c19_24 ?_
        refine mE_goto (t := 29) c19_25 rfl ?_
        exact mE_zret c19_29 qr19 (Or.inr rfl) ⟨rfl, w.osome⟩
      · have w := w.neg e4
        refine mE_icmp_ne_T (t := 28) c19_21 rfl (r4_n rfl) u3 e4 ?_
        refine mE_iconst c19_28 ?_
        exact mE_zret c19_29 qr19 (Or.inl rfl) ⟨rfl, w.osome⟩
    · have w := w.neg e2
      refine mE_icmp_lt_F (t := 16) c19_9 rfl hx1 (r4_n rfl) e2 ?_
      refine mE_iconst c19_12 ?_
      refine mE_goto (t := 17) c19_13 rfl ?_
      refine mE_aload_n c19_17 rfl ?_
      refine mE_getI c19_18 qo19 qF10_81 (ok_tx0 hr0) rfl ?_
      intro u3
      by_cases e4 : 1 = (M r0 5)
      · have w := w.pos e4
        refine mE_icmp_ne_F (t := 28) c19_21 rfl (r4_n rfl) u3 e4 ?_
        refine mE_iconst c19_24 ?_
        refine mE_goto (t := 29) c19_25 rfl ?_
        exact mE_zret c19_29 qr19 (Or.inr rfl) ⟨rfl, w.osome⟩
      · have w := w.neg e4
        refine mE_icmp_ne_T (t := 28) c19_21 rfl (r4_n rfl) u3 e4 ?_
        refine mE_iconst c19_28 ?_
        exact mE_zret c19_29 qr19 (Or.inl rfl) ⟨rfl, w.osome⟩
theorem s19 {X : Nat × Nat × qC} {d : Nat} {r0 : Nat} {x1 : Int} {M : Mm} {R : Int → Prop} (hr0 : isTx r0) (hx1 : R4 x1) (w : Wp (f19 r0 x1 M) R) : mC X (d + 1) 19 1 [.ref r0, .int (Int32.ofInt x1)] M (fun v M2 => M = M2 ∧ R v) :=
  mC_of (qent_mk qx19 rfl rfl rfl) (t19 hr0 hx1 w)
/-! SaggingNet$Text.condition -/
def E13_16 (X : Nat × Nat × qC) (d : Nat) (r0 : Nat) (x1 : Int) (x2 : Int) (R : Int × Mm → Prop) : Int × Int × Mm → Prop := fun s => R4 s.1 → R4 s.2.1 → ∀ (o5 : Option Value), mE X (d + 3) 13 1 16 [some (.ref r0), some (.int (Int32.ofInt x1)), some (.int (Int32.ofInt x2)), some (.int (Int32.ofInt s.1)), some (.int (Int32.ofInt s.2.1)), o5] [] s.2.2 (fun v M2 => R (v, M2))
noncomputable def f13_89 (rec : Nat → Nat → Int → Mm → Option (Int × Mm)) (r0 : Nat) (x1 : Int) (x2 : Int) (x3 : Int) (x4 : Int) (M : Mm) : Option ((Int × Int × Mm) ⊕ (Int × Mm)) :=
  gd (R4 ((M r0 3) + 1)) (
  mlet (ms M r0 3 ((M r0 3) + 1)) fun M3 =>
  gd (R4 (x4 + (-1))) (
  some (.inl (x3, (x4 + (-1)), M3))))
theorem t13_89 {X : Nat × Nat × qC} {d : Nat} {rec : Nat → Nat → Int → Mm → Option (Int × Mm)} {r0 : Nat} {x1 : Int} {x2 : Int} {x3 : Int} {x4 : Int} {M : Mm} {y5 : Int32} {R : Int × Mm → Prop} (hrec : ∀ (i r : Nat) (x : Int) (M : Mm) (R : Int × Mm → Prop), isTx r → R4 x → Wp (rec i r x M) R → mC X (d + 3) (recK i) 1 [.ref r, .int (Int32.ofInt x)] M (fun v M2 => R (v, M2))) (hr0 : isTx r0) (hx1 : R4 x1) (hx2 : R4 x2) (hx3 : R4 x3) (hx4 : R4 x4) (w : Wp (f13_89 rec r0 x1 x2 x3 x4 M) (Sum.elim (E13_16 X d r0 x1 x2 R) R)) : mE X (d + 3) 13 1 89 [some (.ref r0), some (.int (Int32.ofInt x1)), some (.int (Int32.ofInt x2)), some (.int (Int32.ofInt x3)), some (.int (Int32.ofInt x4)), some (.int y5)] [] M (fun v M2 => R (v, M2)) := by
  refine mE_aload_n c13_89 rfl ?_
  refine mE_dup c13_90 rfl ?_
  refine mE_getI c13_91 qo13 qF10_57 (ok_tx0 hr0) rfl ?_
  intro u1
  refine mE_iconst c13_94 ?_
  obtain ⟨g2, w⟩ := w.ogd
  refine mE_iadd c13_95 ?_
  obtain ⟨M3, m4, w⟩ := w.mlet
  refine mE_putI c13_96 qo13 qF10_57 qz10_3 (ok_tx0 hr0) (Nat.le_of_ble_eq_true rfl) rfl g2 (by rw [qy10_3]; rfl) ?_
  refine mE_M m4 ?_
  obtain ⟨g5, w⟩ := w.ogd
  refine mE_iinc (ls2 := [some (.ref r0), some (.int (Int32.ofInt x1)), some (.int (Int32.ofInt x2)), some (.int (Int32.ofInt x3)), some (.int (Int32.ofInt (x4 + (-1)))), some (.int y5)]) c13_99 rfl (Nat.le_of_ble_eq_true rfl) rfl ?_
  refine mE_goto (t := 16) c13_102 rfl ?_
  exact w.osome hx3 g5 _
noncomputable def lb13_16 (rec : Nat → Nat → Int → Mm → Option (Int × Mm)) (r0 : Nat) (x1 : Int) (x2 : Int) (x3 : Int) (x4 : Int) (M : Mm) : Option ((Int × Int × Mm) ⊕ (Int × Mm)) :=
  if 0 < x4 then
  (obnd (rec 1 r0 x1 M) fun v2 M3 =>
  if v2 = 0 then
  (oinr (some (0, M3)))
  else
  ((f23 r0 M3).bind fun v6 =>
  if v6 = 38 then
  ((f14 r0 38 (-1) M3).bind fun M11 =>
  f13_89 rec r0 x1 x2 x3 x4 M11)
  else
  ((f21 r0 x3 38 M3).bind fun M11 =>
  if v6 = 124 then
  ((f14 r0 124 (-1) M11).bind fun M15 =>
  f13_89 rec r0 x1 x2 (M15 r0 2) x4 M15)
  else
  (oinr ((f21 r0 x2 124 M11).bind fun M15 =>
  some (1, M15))))))
  else
  (oinr (obnd (f27 r0 1 M) fun v2 M3 =>
  gd (v2 = 0 ∨ v2 = 1) (
  some (v2, M3))))
noncomputable def f13_16 (rec : Nat → Nat → Int → Mm → Option (Int × Mm)) (r0 : Nat) (x1 : Int) (x2 : Int) (x3 : Int) (x4 : Int) (M : Mm) : Option (Int × Mm) := lp (fun s : Int × Int × Mm => lb13_16 rec r0 x1 x2 s.1 s.2.1 s.2.2) (x3, x4, M)
theorem tb13_16 {X : Nat × Nat × qC} {d : Nat} {rec : Nat → Nat → Int → Mm → Option (Int × Mm)} {r0 : Nat} {x1 : Int} {x2 : Int} {x3 : Int} {x4 : Int} {M : Mm} {o5 : Option Value} {R : Int × Mm → Prop} (hrec : ∀ (i r : Nat) (x : Int) (M : Mm) (R : Int × Mm → Prop), isTx r → R4 x → Wp (rec i r x M) R → mC X (d + 3) (recK i) 1 [.ref r, .int (Int32.ofInt x)] M (fun v M2 => R (v, M2))) (hr0 : isTx r0) (hx1 : R4 x1) (hx2 : R4 x2) (hx3 : R4 x3) (hx4 : R4 x4) (w : Wp (lb13_16 rec r0 x1 x2 x3 x4 M) (Sum.elim (E13_16 X d r0 x1 x2 R) R)) : mE X (d + 3) 13 1 16 [some (.ref r0), some (.int (Int32.ofInt x1)), some (.int (Int32.ofInt x2)), some (.int (Int32.ofInt x3)), some (.int (Int32.ofInt x4)), o5] [] M (fun v M2 => R (v, M2)) := by
  refine mE_iload c13_16 rfl ?_
  by_cases e1 : 0 < x4
  · have w := w.pos e1
    refine mE_if_le_F (t := 105) c13_18 rfl hx4 e1 ?_
    refine mE_aload_n c13_21 rfl ?_
    refine mE_iload_n c13_22 rfl ?_
    refine mE_virtual1 (b := r0) (as := [.int (Int32.ofInt x1)]) (r := []) c13_23 qo13 qK10_85 qo24 rfl rfl rfl (ok_tx0 hr0) (Nat.le_of_ble_eq_true rfl) (hrec 1 _ _ _ _ hr0 hx1 w.oc) ?_
    intro v2 M3 q4 w
    by_cases e5 : v2 = 0
    · have w := w.pos e5
      refine mE_if_ne_F (t := 31) c13_26 rfl q4 e5 ?_
      have w := w.oinr
      refine mE_iconst c13_29 ?_
      exact mE_zret c13_30 qr13 (Or.inl rfl) w.osome
    · have w := w.neg e5
      refine mE_if_ne_T (t := 31) c13_26 rfl q4 e5 ?_
      refine mE_aload_n c13_31 rfl ?_
      refine mE_virtual1 (b := r0) (as := []) (r := []) c13_32 qo13 qK10_74 qo23 rfl rfl rfl (ok_tx0 hr0) (Nat.le_of_ble_eq_true rfl) (s23 (d := d + 2) hr0 w.obind) ?_
      rintro v6 _ q8 ⟨rfl, w⟩
      refine mE_istore (ls2 := [some (.ref r0), some (.int (Int32.ofInt x1)), some (.int (Int32.ofInt x2)), some (.int (Int32.ofInt x3)), some (.int (Int32.ofInt x4)), some (.int (Int32.ofInt v6))]) c13_35 (Nat.le_of_ble_eq_true rfl) rfl ?_
      refine mE_iload c13_37 rfl ?_
      refine mE_bipush (x := 38) c13_39 rfl ?_
      by_cases e9 : v6 = 38
      · have w := w.pos e9
        refine mE_icmp_ne_F (t := 54) c13_41 rfl q8 (r4_n rfl) e9 ?_
        refine mE_aload_n c13_44 rfl ?_
        refine mE_bipush (x := 38) c13_45 rfl ?_
        refine mE_iconst c13_47 ?_
        refine mE_virtual0 (b := r0) (as := [.int (Int32.ofInt 38), .int (Int32.ofInt (-1))]) (r := []) c13_48 qo13 qK10_88 qo14 rfl rfl rfl (ok_tx0 hr0) (Nat.le_of_ble_eq_true rfl) (s14 (d := d + 2) hr0 (r4_n rfl) (r4_n rfl) w.obind) ?_
        intro _ M11 w
        refine mE_goto (t := 89) c13_51 rfl ?_
        exact t13_89 hrec hr0 hx1 hx2 hx3 hx4 w
      · have w := w.neg e9
        refine mE_icmp_ne_T (t := 54) c13_41 rfl q8 (r4_n rfl) e9 ?_
        refine mE_aload_n c13_54 rfl ?_
        refine mE_iload_n c13_55 rfl ?_
        refine mE_bipush (x := 38) c13_56 rfl ?_
        refine mE_virtual0 (b := r0) (as := [.int (Int32.ofInt x3), .int (Int32.ofInt 38)]) (r := []) c13_58 qo13 qK10_92 qo21 rfl rfl rfl (ok_tx0 hr0) (Nat.le_of_ble_eq_true rfl) (s21 (d := d + 2) hr0 hx3 (r4_n rfl) w.obind) ?_
        intro _ M11 w
        refine mE_iload c13_61 rfl ?_
        refine mE_bipush (x := 124) c13_63 rfl ?_
        by_cases e13 : v6 = 124
        · have w := w.pos e13
          refine mE_icmp_eq_T (t := 77) c13_65 rfl q8 (r4_n rfl) e13 ?_
          refine mE_aload_n c13_77 rfl ?_
          refine mE_bipush (x := 124) c13_78 rfl ?_
          refine mE_iconst c13_80 ?_
          refine mE_virtual0 (b := r0) (as := [.int (Int32.ofInt 124), .int (Int32.ofInt (-1))]) (r := []) c13_81 qo13 qK10_88 qo14 rfl rfl rfl (ok_tx0 hr0) (Nat.le_of_ble_eq_true rfl) (s14 (d := d + 2) hr0 (r4_n rfl) (r4_n rfl) w.obind) ?_
          intro _ M15 w
          refine mE_aload_n c13_84 rfl ?_
          refine mE_getI c13_85 qo13 qF10_54 (ok_tx0 hr0) rfl ?_
          intro u17
          refine mE_istore_n (ls2 := [some (.ref r0), some (.int (Int32.ofInt x1)), some (.int (Int32.ofInt x2)), some (.int (Int32.ofInt (M15 r0 2))), some (.int (Int32.ofInt x4)), some (.int (Int32.ofInt v6))]) c13_88 (Nat.le_of_ble_eq_true rfl) rfl ?_
          exact t13_89 hrec hr0 hx1 hx2 u17 hx4 w
        · have w := w.neg e13
          refine mE_icmp_eq_F (t := 77) c13_65 rfl q8 (r4_n rfl) e13 ?_
          have w := w.oinr
          refine mE_aload_n c13_68 rfl ?_
          refine mE_iload_n c13_69 rfl ?_
          refine mE_bipush (x := 124) c13_70 rfl ?_
          refine mE_virtual0 (b := r0) (as := [.int (Int32.ofInt x2), .int (Int32.ofInt 124)]) (r := []) c13_72 qo13 qK10_92 qo21 rfl rfl rfl (ok_tx0 hr0) (Nat.le_of_ble_eq_true rfl) (s21 (d := d + 2) hr0 hx2 (r4_n rfl) w.obind) ?_
          intro _ M15 w
          refine mE_iconst c13_75 ?_
          exact mE_zret c13_76 qr13 (Or.inr rfl) w.osome
  · have w := w.neg e1
    refine mE_if_le_T (t := 105) c13_18 rfl hx4 e1 ?_
    have w := w.oinr
    refine mE_aload_n c13_105 rfl ?_
    refine mE_iconst c13_106 ?_
    refine mE_virtual1 (b := r0) (as := [.int (Int32.ofInt 1)]) (r := []) c13_107 qo13 qK10_78 qo27 rfl rfl rfl (ok_tx0 hr0) (Nat.le_of_ble_eq_true rfl) (s27 (d := d + 2) hr0 (r4_n rfl) w.oc) ?_
    intro v2 M3 q4 w
    obtain ⟨g5, w⟩ := w.ogd
    exact mE_zret c13_110 qr13 g5 w.osome
theorem t13_16 {X : Nat × Nat × qC} {d : Nat} {rec : Nat → Nat → Int → Mm → Option (Int × Mm)} {r0 : Nat} {x1 : Int} {x2 : Int} {x3 : Int} {x4 : Int} {M : Mm} {o5 : Option Value} {R : Int × Mm → Prop} (hrec : ∀ (i r : Nat) (x : Int) (M : Mm) (R : Int × Mm → Prop), isTx r → R4 x → Wp (rec i r x M) R → mC X (d + 3) (recK i) 1 [.ref r, .int (Int32.ofInt x)] M (fun v M2 => R (v, M2))) (hr0 : isTx r0) (hx1 : R4 x1) (hx2 : R4 x2) (hx3 : R4 x3) (hx4 : R4 x4) (w : Wp (f13_16 rec r0 x1 x2 x3 x4 M) R) : mE X (d + 3) 13 1 16 [some (.ref r0), some (.int (Int32.ofInt x1)), some (.int (Int32.ofInt x2)), some (.int (Int32.ofInt x3)), some (.int (Int32.ofInt x4)), o5] [] M (fun v M2 => R (v, M2)) :=
  Wp.olp (f := fun s : Int × Int × Mm => lb13_16 rec r0 x1 x2 s.1 s.2.1 s.2.2) (s := (x3, x4, M)) (E := E13_16 X d r0 x1 x2 R) w (fun s w hx3 hx4 _ => tb13_16 hrec hr0 hx1 hx2 hx3 hx4 w) hx3 hx4 _
noncomputable def f13 (rec : Nat → Nat → Int → Mm → Option (Int × Mm)) (r0 : Nat) (x1 : Int) (M : Mm) : Option (Int × Mm) :=
  f13_16 rec r0 x1 (M r0 2) (M r0 2) (M r0 4) M
theorem t13 {X : Nat × Nat × qC} {d : Nat} {rec : Nat → Nat → Int → Mm → Option (Int × Mm)} {r0 : Nat} {x1 : Int} {M : Mm}  {R : Int × Mm → Prop} (hrec : ∀ (i r : Nat) (x : Int) (M : Mm) (R : Int × Mm → Prop), isTx r → R4 x → Wp (rec i r x M) R → mC X (d + 3) (recK i) 1 [.ref r, .int (Int32.ofInt x)] M (fun v M2 => R (v, M2))) (hr0 : isTx r0) (hx1 : R4 x1) (w : Wp (f13 rec r0 x1 M) R) : mE X (d + 3) 13 1 0 [some (.ref r0), some (.int (Int32.ofInt x1)), none, none, none, none] [] M (fun v M2 => R (v, M2)) := by
  refine mE_aload_n c13_0 rfl ?_
  refine mE_getI c13_1 qo13 qF10_54 (ok_tx0 hr0) rfl ?_
  intro u1
  refine mE_istore_n (ls2 := [some (.ref r0), some (.int (Int32.ofInt x1)), some (.int (Int32.ofInt (M r0 2))), none, none, none]) c13_4 (Nat.le_of_ble_eq_true rfl) rfl ?_
  refine mE_aload_n c13_5 rfl ?_
  refine mE_getI c13_6 qo13 qF10_54 (ok_tx0 hr0) rfl ?_
  intro u2
  refine mE_istore_n (ls2 := [some (.ref r0), some (.int (Int32.ofInt x1)), some (.int (Int32.ofInt (M r0 2))), some (.int (Int32.ofInt (M r0 2))), none, none]) c13_9 (Nat.le_of_ble_eq_true rfl) rfl ?_
  refine mE_aload_n c13_10 rfl ?_
  refine mE_getI c13_11 qo13 qF10_38 (ok_tx0 hr0) rfl ?_
  intro u3
  refine mE_istore (ls2 := [some (.ref r0), some (.int (Int32.ofInt x1)), some (.int (Int32.ofInt (M r0 2))), some (.int (Int32.ofInt (M r0 2))), some (.int (Int32.ofInt (M r0 4))), none]) c13_14 (Nat.le_of_ble_eq_true rfl) rfl ?_
  exact t13_16 hrec hr0 hx1 u1 u2 u3 w
theorem s13 {X : Nat × Nat × qC} {d : Nat} {rec : Nat → Nat → Int → Mm → Option (Int × Mm)} {r0 : Nat} {x1 : Int} {M : Mm} {R : Int × Mm → Prop} (hrec : ∀ (i r : Nat) (x : Int) (M : Mm) (R : Int × Mm → Prop), isTx r → R4 x → Wp (rec i r x M) R → mC X (d + 3) (recK i) 1 [.ref r, .int (Int32.ofInt x)] M (fun v M2 => R (v, M2))) (hr0 : isTx r0) (hx1 : R4 x1) (w : Wp (f13 rec r0 x1 M) R) : mC X (d + 4) 13 1 [.ref r0, .int (Int32.ofInt x1)] M (fun v M2 => R (v, M2)) :=
  mC_of (qent_mk qx13 rfl rfl rfl) (t13 hrec hr0 hx1 w)
/-! SaggingNet$Text.piece -/
noncomputable def f24_17 (rec : Nat → Nat → Int → Mm → Option (Int × Mm)) (r0 : Nat) (x1 : Int) (x2 : Int) (M : Mm) : Option (Int × Mm) :=
  if x1 < 6 then
  (gd (R4 ((M r0 3) + 1)) (
  mlet (ms M r0 3 ((M r0 3) + 1)) fun M4 =>
  if x2 = 40 then
  (gd (R4 (x1 + 1)) (
  obnd (rec 0 r0 (x1 + 1) M4) fun v8 M9 =>
  if v8 = 0 then
  (some (0, M9))
  else
  (obnd (f29 r0 41 M9) fun v12 M13 =>
  if v12 = 0 then
  (some (0, M13))
  else
  (some (1, M13)))))
  else
  (gd (R4 (x1 + 1)) (
  obnd (rec 1 r0 (x1 + 1) M4) fun v8 M9 =>
  if v8 = 0 then
  (some (0, M9))
  else
  ((f14 r0 33 0 M9).bind fun M13 =>
  some (1, M13))))))
  else
  (obnd (f27 r0 5 M) fun v2 M3 =>
  gd (v2 = 0 ∨ v2 = 1) (
  some (v2, M3)))
theorem t24_17 {X : Nat × Nat × qC} {d : Nat} {rec : Nat → Nat → Int → Mm → Option (Int × Mm)} {r0 : Nat} {x1 : Int} {x2 : Int} {M : Mm}  {R : Int × Mm → Prop} (hrec : ∀ (i r : Nat) (x : Int) (M : Mm) (R : Int × Mm → Prop), isTx r → R4 x → Wp (rec i r x M) R → mC X (d + 3) (recK i) 1 [.ref r, .int (Int32.ofInt x)] M (fun v M2 => R (v, M2))) (hr0 : isTx r0) (hx1 : R4 x1) (hx2 : R4 x2) (w : Wp (f24_17 rec r0 x1 x2 M) R) : mE X (d + 3) 24 1 17 [some (.ref r0), some (.int (Int32.ofInt x1)), some (.int (Int32.ofInt x2)), none] [] M (fun v M2 => R (v, M2)) := by
  refine mE_iload_n c24_17 rfl ?_
  refine mE_bipush (x := 6) c24_18 rfl ?_
  by_cases e1 : x1 < 6
  · have w := w.pos e1
    refine mE_icmp_lt_T (t := 29) c24_20 rfl hx1 (r4_n rfl) e1 ?_
    refine mE_aload_n c24_29 rfl ?_
    refine mE_dup c24_30 rfl ?_
    refine mE_getI c24_31 qo24 qF10_57 (ok_tx0 hr0) rfl ?_
    intro u2
    refine mE_iconst c24_34 ?_
    obtain ⟨g3, w⟩ := w.ogd
    refine mE_iadd c24_35 ?_
    obtain ⟨M4, m5, w⟩ := w.mlet
    refine mE_putI c24_36 qo24 qF10_57 qz10_3 (ok_tx0 hr0) (Nat.le_of_ble_eq_true rfl) rfl g3 (by rw [qy10_3]; rfl) ?_
    refine mE_M m5 ?_
    refine mE_iload_n c24_39 rfl ?_
    refine mE_bipush (x := 40) c24_40 rfl ?_
    by_cases e6 : x2 = 40
    · have w := w.pos e6
      refine mE_icmp_ne_F (t := 70) c24_42 rfl hx2 (r4_n rfl) e6 ?_
      refine mE_aload_n c24_45 rfl ?_
      refine mE_iload_n c24_46 rfl ?_
      refine mE_iconst c24_47 ?_
      obtain ⟨g7, w⟩ := w.ogd
      refine mE_iadd c24_48 ?_
      refine mE_virtual1 (b := r0) (as := [.int (Int32.ofInt (x1 + 1))]) (r := []) c24_49 qo24 qK10_68 qo13 rfl rfl rfl (ok_tx0 hr0) (Nat.le_of_ble_eq_true rfl) (hrec 0 _ _ _ _ hr0 g7 w.oc) ?_
      intro v8 M9 q10 w
      by_cases e11 : v8 = 0
      · have w := w.pos e11
        refine mE_if_eq_T (t := 68) c24_52 rfl q10 e11 ?_
        refine mE_iconst c24_68 ?_
        exact mE_zret c24_69 qr24 (Or.inl rfl) w.osome
      · have w := w.neg e11
        refine mE_if_eq_F (t := 68) c24_52 rfl q10 e11 ?_
        refine mE_aload_n c24_55 rfl ?_
        refine mE_bipush (x := 41) c24_56 rfl ?_
        refine mE_virtual1 (b := r0) (as := [.int (Int32.ofInt 41)]) (r := []) c24_58 qo24 qK10_64 qo29 rfl rfl rfl (ok_tx0 hr0) (Nat.le_of_ble_eq_true rfl) (s29 (d := d + 1) hr0 (r4_n rfl) w.oc) ?_
        intro v12 M13 q14 w
        by_cases e15 : v12 = 0
        · have w := w.pos e15
          refine mE_if_eq_T (t := 68) c24_61 rfl q14 e15 ?_
          refine mE_iconst c24_68 ?_
          exact mE_zret c24_69 qr24 (Or.inl rfl) w.osome
        · have w := w.neg e15
          refine mE_if_eq_F (t := 68) c24_61 rfl q14 e15 ?_
          refine mE_iconst c24_64 ?_
          refine mE_goto (t := 69) c24_65 rfl ?_
          exact mE_zret c24_69 qr24 (Or.inr rfl) w.osome
    · have w := w.neg e6
      refine mE_icmp_ne_T (t := 70) c24_42 rfl hx2 (r4_n rfl) e6 ?_
      refine mE_aload_n c24_70 rfl ?_
      refine mE_iload_n c24_71 rfl ?_
      refine mE_iconst c24_72 ?_
      obtain ⟨g7, w⟩ := w.ogd
      refine mE_iadd c24_73 ?_
      refine mE_virtual1 (b := r0) (as := [.int (Int32.ofInt (x1 + 1))]) (r := []) c24_74 qo24 qK10_85 qo24 rfl rfl rfl (ok_tx0 hr0) (Nat.le_of_ble_eq_true rfl) (hrec 1 _ _ _ _ hr0 g7 w.oc) ?_
      intro v8 M9 q10 w
      by_cases e11 : v8 = 0
      · have w := w.pos e11
        refine mE_if_ne_F (t := 82) c24_77 rfl q10 e11 ?_
        refine mE_iconst c24_80 ?_
        exact mE_zret c24_81 qr24 (Or.inl rfl) w.osome
      · have w := w.neg e11
        refine mE_if_ne_T (t := 82) c24_77 rfl q10 e11 ?_
        refine mE_aload_n c24_82 rfl ?_
        refine mE_bipush (x := 33) c24_83 rfl ?_
        refine mE_iconst c24_85 ?_
        refine mE_virtual0 (b := r0) (as := [.int (Int32.ofInt 33), .int (Int32.ofInt 0)]) (r := []) c24_86 qo24 qK10_88 qo14 rfl rfl rfl (ok_tx0 hr0) (Nat.le_of_ble_eq_true rfl) (s14 (d := d + 2) hr0 (r4_n rfl) (r4_n rfl) w.obind) ?_
        intro _ M13 w
        refine mE_iconst c24_89 ?_
        exact mE_zret c24_90 qr24 (Or.inr rfl) w.osome
  · have w := w.neg e1
    refine mE_icmp_lt_F (t := 29) c24_20 rfl hx1 (r4_n rfl) e1 ?_
    refine mE_aload_n c24_23 rfl ?_
    refine mE_iconst c24_24 ?_
    refine mE_virtual1 (b := r0) (as := [.int (Int32.ofInt 5)]) (r := []) c24_25 qo24 qK10_78 qo27 rfl rfl rfl (ok_tx0 hr0) (Nat.le_of_ble_eq_true rfl) (s27 (d := d + 2) hr0 (r4_n rfl) w.oc) ?_
    intro v2 M3 q4 w
    obtain ⟨g5, w⟩ := w.ogd
    exact mE_zret c24_28 qr24 g5 w.osome
noncomputable def f24_130 (rec : Nat → Nat → Int → Mm → Option (Int × Mm)) (r0 : Nat) (x1 : Int) (x3 : Int) (M : Mm) : Option (Int × Mm) :=
  gd (R4 ((M r0 3) + 1)) (
  mlet (ms M r0 3 ((M r0 3) + 1)) fun M3 =>
  obnd (rec 2 r0 x1 M3) fun v5 M6 =>
  if v5 = 0 then
  (some (0, M6))
  else
  ((f14 r0 x3 0 M6).bind fun M10 =>
  some (1, M10)))
theorem t24_130 {X : Nat × Nat × qC} {d : Nat} {rec : Nat → Nat → Int → Mm → Option (Int × Mm)} {r0 : Nat} {x1 : Int} {x3 : Int} {M : Mm} {y2 : Int32} {R : Int × Mm → Prop} (hrec : ∀ (i r : Nat) (x : Int) (M : Mm) (R : Int × Mm → Prop), isTx r → R4 x → Wp (rec i r x M) R → mC X (d + 3) (recK i) 1 [.ref r, .int (Int32.ofInt x)] M (fun v M2 => R (v, M2))) (hr0 : isTx r0) (hx1 : R4 x1) (hx3 : R4 x3) (w : Wp (f24_130 rec r0 x1 x3 M) R) : mE X (d + 3) 24 1 130 [some (.ref r0), some (.int (Int32.ofInt x1)), some (.int y2), some (.int (Int32.ofInt x3))] [] M (fun v M2 => R (v, M2)) := by
  refine mE_aload_n c24_130 rfl ?_
  refine mE_dup c24_131 rfl ?_
  refine mE_getI c24_132 qo24 qF10_57 (ok_tx0 hr0) rfl ?_
  intro u1
  refine mE_iconst c24_135 ?_
  obtain ⟨g2, w⟩ := w.ogd
  refine mE_iadd c24_136 ?_
  obtain ⟨M3, m4, w⟩ := w.mlet
  refine mE_putI c24_137 qo24 qF10_57 qz10_3 (ok_tx0 hr0) (Nat.le_of_ble_eq_true rfl) rfl g2 (by rw [qy10_3]; rfl) ?_
  refine mE_M m4 ?_
  refine mE_aload_n c24_140 rfl ?_
  refine mE_iload_n c24_141 rfl ?_
  refine mE_virtual1 (b := r0) (as := [.int (Int32.ofInt x1)]) (r := []) c24_142 qo24 qK10_95 qo28 rfl rfl rfl (ok_tx0 hr0) (Nat.le_of_ble_eq_true rfl) (hrec 2 _ _ _ _ hr0 hx1 w.oc) ?_
  intro v5 M6 q7 w
  by_cases e8 : v5 = 0
  · have w := w.pos e8
    refine mE_if_ne_F (t := 150) c24_145 rfl q7 e8 ?_
    refine mE_iconst c24_148 ?_
    exact mE_zret c24_149 qr24 (Or.inl rfl) w.osome
  · have w := w.neg e8
    refine mE_if_ne_T (t := 150) c24_145 rfl q7 e8 ?_
    refine mE_aload_n c24_150 rfl ?_
    refine mE_iload_n c24_151 rfl ?_
    refine mE_iconst c24_152 ?_
    refine mE_virtual0 (b := r0) (as := [.int (Int32.ofInt x3), .int (Int32.ofInt 0)]) (r := []) c24_153 qo24 qK10_88 qo14 rfl rfl rfl (ok_tx0 hr0) (Nat.le_of_ble_eq_true rfl) (s14 (d := d + 2) hr0 hx3 (r4_n rfl) w.obind) ?_
    intro _ M10 w
    refine mE_iconst c24_156 ?_
    exact mE_zret c24_157 qr24 (Or.inr rfl) w.osome
noncomputable def f24 (rec : Nat → Nat → Int → Mm → Option (Int × Mm)) (r0 : Nat) (x1 : Int) (M : Mm) : Option (Int × Mm) :=
  (f23 r0 M).bind fun v1 =>
  if v1 = 33 then
  (f24_17 rec r0 x1 v1 M)
  else
  (if v1 = 40 then
  (f24_17 rec r0 x1 v1 M)
  else
  (obnd (rec 2 r0 x1 M) fun v6 M7 =>
  if v6 = 0 then
  (some (0, M7))
  else
  ((f23 r0 M7).bind fun v10 =>
  if v10 = 60 then
  (f24_130 rec r0 x1 v10 M7)
  else
  (if v10 = 62 then
  (f24_130 rec r0 x1 v10 M7)
  else
  (if v10 = 61 then
  (f24_130 rec r0 x1 v10 M7)
  else
  (obnd (f27 r0 1 M7) fun v16 M17 =>
  gd (v16 = 0 ∨ v16 = 1) (
  some (v16, M17))))))))
theorem t24 {X : Nat × Nat × qC} {d : Nat} {rec : Nat → Nat → Int → Mm → Option (Int × Mm)} {r0 : Nat} {x1 : Int} {M : Mm}  {R : Int × Mm → Prop} (hrec : ∀ (i r : Nat) (x : Int) (M : Mm) (R : Int × Mm → Prop), isTx r → R4 x → Wp (rec i r x M) R → mC X (d + 3) (recK i) 1 [.ref r, .int (Int32.ofInt x)] M (fun v M2 => R (v, M2))) (hr0 : isTx r0) (hx1 : R4 x1) (w : Wp (f24 rec r0 x1 M) R) : mE X (d + 3) 24 1 0 [some (.ref r0), some (.int (Int32.ofInt x1)), none, none] [] M (fun v M2 => R (v, M2)) := by
  refine mE_aload_n c24_0 rfl ?_
  refine mE_virtual1 (b := r0) (as := []) (r := []) c24_1 qo24 qK10_74 qo23 rfl rfl rfl (ok_tx0 hr0) (Nat.le_of_ble_eq_true rfl) (s23 (d := d + 2) hr0 w.obind) ?_
  rintro v1 _ q3 ⟨rfl, w⟩
  refine mE_istore_n (ls2 := [some (.ref r0), some (.int (Int32.ofInt x1)), some (.int (Int32.ofInt v1)), none]) c24_4 (Nat.le_of_ble_eq_true rfl) rfl ?_
  refine mE_iload_n c24_5 rfl ?_
  refine mE_bipush (x := 33) c24_6 rfl ?_
  by_cases e4 : v1 = 33
  · have w := w.pos e4
    refine mE_icmp_eq_T (t := 17) c24_8 rfl q3 (r4_n rfl) e4 ?_
    exact t24_17 hrec hr0 hx1 q3 w
  · have w := w.neg e4
    refine mE_icmp_eq_F (t := 17) c24_8 rfl q3 (r4_n rfl) e4 ?_
    refine mE_iload_n c24_11 rfl ?_
    refine mE_bipush (x := 40) c24_12 rfl ?_
    by_cases e5 : v1 = 40
    · have w := w.pos e5
      refine mE_icmp_ne_F (t := 91) c24_14 rfl q3 (r4_n rfl) e5 ?_
      exact t24_17 hrec hr0 hx1 q3 w
    · have w := w.neg e5
      refine mE_icmp_ne_T (t := 91) c24_14 rfl q3 (r4_n rfl) e5 ?_
      refine mE_aload_n c24_91 rfl ?_
      refine mE_iload_n c24_92 rfl ?_
      refine mE_virtual1 (b := r0) (as := [.int (Int32.ofInt x1)]) (r := []) c24_93 qo24 qK10_95 qo28 rfl rfl rfl (ok_tx0 hr0) (Nat.le_of_ble_eq_true rfl) (hrec 2 _ _ _ _ hr0 hx1 w.oc) ?_
      intro v6 M7 q8 w
      by_cases e9 : v6 = 0
      · have w := w.pos e9
        refine mE_if_ne_F (t := 101) c24_96 rfl q8 e9 ?_
        refine mE_iconst c24_99 ?_
        exact mE_zret c24_100 qr24 (Or.inl rfl) w.osome
      · have w := w.neg e9
        refine mE_if_ne_T (t := 101) c24_96 rfl q8 e9 ?_
        refine mE_aload_n c24_101 rfl ?_
        refine mE_virtual1 (b := r0) (as := []) (r := []) c24_102 qo24 qK10_74 qo23 rfl rfl rfl (ok_tx0 hr0) (Nat.le_of_ble_eq_true rfl) (s23 (d := d + 2) hr0 w.obind) ?_
        rintro v10 _ q12 ⟨rfl, w⟩
        refine mE_istore_n (ls2 := [some (.ref r0), some (.int (Int32.ofInt x1)), some (.int (Int32.ofInt v1)), some (.int (Int32.ofInt v10))]) c24_105 (Nat.le_of_ble_eq_true rfl) rfl ?_
        refine mE_iload_n c24_106 rfl ?_
        refine mE_bipush (x := 60) c24_107 rfl ?_
        by_cases e13 : v10 = 60
        · have w := w.pos e13
          refine mE_icmp_eq_T (t := 130) c24_109 rfl q12 (r4_n rfl) e13 ?_
          exact t24_130 hrec hr0 hx1 q12 w
        · have w := w.neg e13
          refine mE_icmp_eq_F (t := 130) c24_109 rfl q12 (r4_n rfl) e13 ?_
          refine mE_iload_n c24_112 rfl ?_
          refine mE_bipush (x := 62) c24_113 rfl ?_
          by_cases e14 : v10 = 62
          · have w := w.pos e14
            refine mE_icmp_eq_T (t := 130) c24_115 rfl q12 (r4_n rfl) e14 ?_
            exact t24_130 hrec hr0 hx1 q12 w
          · have w := w.neg e14
            refine mE_icmp_eq_F (t := 130) c24_115 rfl q12 (r4_n rfl) e14 ?_
            refine mE_iload_n c24_118 rfl ?_
            refine mE_bipush (x := 61) c24_119 rfl ?_
            by_cases e15 : v10 = 61
            · have w := w.pos e15
              refine mE_icmp_eq_T (t := 130) c24_121 rfl q12 (r4_n rfl) e15 ?_
              exact t24_130 hrec hr0 hx1 q12 w
            · have w := w.neg e15
              refine mE_icmp_eq_F (t := 130) c24_121 rfl q12 (r4_n rfl) e15 ?_
              refine mE_aload_n c24_124 rfl ?_
              refine mE_iconst c24_125 ?_
              refine mE_virtual1 (b := r0) (as := [.int (Int32.ofInt 1)]) (r := []) c24_126 qo24 qK10_78 qo27 rfl rfl rfl (ok_tx0 hr0) (Nat.le_of_ble_eq_true rfl) (s27 (d := d + 2) hr0 (r4_n rfl) w.oc) ?_
              intro v16 M17 q18 w
              obtain ⟨g19, w⟩ := w.ogd
              exact mE_zret c24_129 qr24 g19 w.osome
theorem s24 {X : Nat × Nat × qC} {d : Nat} {rec : Nat → Nat → Int → Mm → Option (Int × Mm)} {r0 : Nat} {x1 : Int} {M : Mm} {R : Int × Mm → Prop} (hrec : ∀ (i r : Nat) (x : Int) (M : Mm) (R : Int × Mm → Prop), isTx r → R4 x → Wp (rec i r x M) R → mC X (d + 3) (recK i) 1 [.ref r, .int (Int32.ofInt x)] M (fun v M2 => R (v, M2))) (hr0 : isTx r0) (hx1 : R4 x1) (w : Wp (f24 rec r0 x1 M) R) : mC X (d + 4) 24 1 [.ref r0, .int (Int32.ofInt x1)] M (fun v M2 => R (v, M2)) :=
  mC_of (qent_mk qx24 rfl rfl rfl) (t24 hrec hr0 hx1 w)
/-! SaggingNet$Text.sum -/
def E28_10 (X : Nat × Nat × qC) (d : Nat) (r0 : Nat) (x1 : Int) (R : Int × Mm → Prop) : Int × Int × Int × Mm → Prop := fun s => R4 s.1 → R4 s.2.1 → R4 s.2.2.1 → ∀ (o5 : Option Value), mE X (d + 3) 28 1 10 [some (.ref r0), some (.int (Int32.ofInt x1)), some (.int (Int32.ofInt s.1)), some (.int (Int32.ofInt s.2.1)), some (.int (Int32.ofInt s.2.2.1)), o5] [] s.2.2.2 (fun v M2 => R (v, M2))
noncomputable def f28_102 (rec : Nat → Nat → Int → Mm → Option (Int × Mm)) (r0 : Nat) (x1 : Int) (x2 : Int) (x3 : Int) (x4 : Int) (M : Mm) : Option ((Int × Int × Int × Mm) ⊕ (Int × Mm)) :=
  gd (R4 ((M r0 3) + 1)) (
  mlet (ms M r0 3 ((M r0 3) + 1)) fun M3 =>
  gd (R4 (x4 + (-1))) (
  some (.inl (x2, x3, (x4 + (-1)), M3))))
theorem t28_102 {X : Nat × Nat × qC} {d : Nat} {rec : Nat → Nat → Int → Mm → Option (Int × Mm)} {r0 : Nat} {x1 : Int} {x2 : Int} {x3 : Int} {x4 : Int} {M : Mm} {y5 : Int32} {R : Int × Mm → Prop} (hrec : ∀ (i r : Nat) (x : Int) (M : Mm) (R : Int × Mm → Prop), isTx r → R4 x → Wp (rec i r x M) R → mC X (d + 3) (recK i) 1 [.ref r, .int (Int32.ofInt x)] M (fun v M2 => R (v, M2))) (hr0 : isTx r0) (hx1 : R4 x1) (hx2 : R4 x2) (hx3 : R4 x3) (hx4 : R4 x4) (w : Wp (f28_102 rec r0 x1 x2 x3 x4 M) (Sum.elim (E28_10 X d r0 x1 R) R)) : mE X (d + 3) 28 1 102 [some (.ref r0), some (.int (Int32.ofInt x1)), some (.int (Int32.ofInt x2)), some (.int (Int32.ofInt x3)), some (.int (Int32.ofInt x4)), some (.int y5)] [] M (fun v M2 => R (v, M2)) := by
  refine mE_aload_n c28_102 rfl ?_
  refine mE_dup c28_103 rfl ?_
  refine mE_getI c28_104 qo28 qF10_57 (ok_tx0 hr0) rfl ?_
  intro u1
  refine mE_iconst c28_107 ?_
  obtain ⟨g2, w⟩ := w.ogd
  refine mE_iadd c28_108 ?_
  obtain ⟨M3, m4, w⟩ := w.mlet
  refine mE_putI c28_109 qo28 qF10_57 qz10_3 (ok_tx0 hr0) (Nat.le_of_ble_eq_true rfl) rfl g2 (by rw [qy10_3]; rfl) ?_
  refine mE_M m4 ?_
  obtain ⟨g5, w⟩ := w.ogd
  refine mE_iinc (ls2 := [some (.ref r0), some (.int (Int32.ofInt x1)), some (.int (Int32.ofInt x2)), some (.int (Int32.ofInt x3)), some (.int (Int32.ofInt (x4 + (-1)))), some (.int y5)]) c28_112 rfl (Nat.le_of_ble_eq_true rfl) rfl ?_
  refine mE_goto (t := 10) c28_115 rfl ?_
  exact w.osome hx2 hx3 g5 _
noncomputable def f28_99 (rec : Nat → Nat → Int → Mm → Option (Int × Mm)) (r0 : Nat) (x1 : Int) (x2 : Int) (x4 : Int) (x5 : Int) (M : Mm) : Option ((Int × Int × Int × Mm) ⊕ (Int × Mm)) :=
  f28_102 rec r0 x1 x2 x5 x4 M
theorem t28_99 {X : Nat × Nat × qC} {d : Nat} {rec : Nat → Nat → Int → Mm → Option (Int × Mm)} {r0 : Nat} {x1 : Int} {x2 : Int} {x4 : Int} {x5 : Int} {M : Mm} {y3 : Int32} {R : Int × Mm → Prop} (hrec : ∀ (i r : Nat) (x : Int) (M : Mm) (R : Int × Mm → Prop), isTx r → R4 x → Wp (rec i r x M) R → mC X (d + 3) (recK i) 1 [.ref r, .int (Int32.ofInt x)] M (fun v M2 => R (v, M2))) (hr0 : isTx r0) (hx1 : R4 x1) (hx2 : R4 x2) (hx4 : R4 x4) (hx5 : R4 x5) (w : Wp (f28_99 rec r0 x1 x2 x4 x5 M) (Sum.elim (E28_10 X d r0 x1 R) R)) : mE X (d + 3) 28 1 99 [some (.ref r0), some (.int (Int32.ofInt x1)), some (.int (Int32.ofInt x2)), some (.int y3), some (.int (Int32.ofInt x4)), some (.int (Int32.ofInt x5))] [] M (fun v M2 => R (v, M2)) := by
  refine mE_iload c28_99 rfl ?_
  refine mE_istore_n (ls2 := [some (.ref r0), some (.int (Int32.ofInt x1)), some (.int (Int32.ofInt x2)), some (.int (Int32.ofInt x5)), some (.int (Int32.ofInt x4)), some (.int (Int32.ofInt x5))]) c28_101 (Nat.le_of_ble_eq_true rfl) rfl ?_
  exact t28_102 hrec hr0 hx1 hx2 hx5 hx4 w
noncomputable def f28_83 (rec : Nat → Nat → Int → Mm → Option (Int × Mm)) (r0 : Nat) (x1 : Int) (x2 : Int) (x4 : Int) (x5 : Int) (M : Mm) : Option ((Int × Int × Int × Mm) ⊕ (Int × Mm)) :=
  if x5 = 43 then
  (f28_99 rec r0 x1 x2 x4 x5 M)
  else
  (if x5 = 45 then
  (f28_99 rec r0 x1 x2 x4 x5 M)
  else
  (oinr (some (1, M))))
theorem t28_83 {X : Nat × Nat × qC} {d : Nat} {rec : Nat → Nat → Int → Mm → Option (Int × Mm)} {r0 : Nat} {x1 : Int} {x2 : Int} {x4 : Int} {x5 : Int} {M : Mm} {y3 : Int32} {R : Int × Mm → Prop} (hrec : ∀ (i r : Nat) (x : Int) (M : Mm) (R : Int × Mm → Prop), isTx r → R4 x → Wp (rec i r x M) R → mC X (d + 3) (recK i) 1 [.ref r, .int (Int32.ofInt x)] M (fun v M2 => R (v, M2))) (hr0 : isTx r0) (hx1 : R4 x1) (hx2 : R4 x2) (hx4 : R4 x4) (hx5 : R4 x5) (w : Wp (f28_83 rec r0 x1 x2 x4 x5 M) (Sum.elim (E28_10 X d r0 x1 R) R)) : mE X (d + 3) 28 1 83 [some (.ref r0), some (.int (Int32.ofInt x1)), some (.int (Int32.ofInt x2)), some (.int y3), some (.int (Int32.ofInt x4)), some (.int (Int32.ofInt x5))] [] M (fun v M2 => R (v, M2)) := by
  refine mE_iload c28_83 rfl ?_
  refine mE_bipush (x := 43) c28_85 rfl ?_
  by_cases e1 : x5 = 43
  · have w := w.pos e1
    refine mE_icmp_eq_T (t := 99) c28_87 rfl hx5 (r4_n rfl) e1 ?_
    exact t28_99 hrec hr0 hx1 hx2 hx4 hx5 w
  · have w := w.neg e1
    refine mE_icmp_eq_F (t := 99) c28_87 rfl hx5 (r4_n rfl) e1 ?_
    refine mE_iload c28_90 rfl ?_
    refine mE_bipush (x := 45) c28_92 rfl ?_
    by_cases e2 : x5 = 45
    · have w := w.pos e2
      refine mE_icmp_eq_T (t := 99) c28_94 rfl hx5 (r4_n rfl) e2 ?_
      exact t28_99 hrec hr0 hx1 hx2 hx4 hx5 w
    · have w := w.neg e2
      refine mE_icmp_eq_F (t := 99) c28_94 rfl hx5 (r4_n rfl) e2 ?_
      have w := w.oinr
      refine mE_iconst c28_97 ?_
      exact mE_zret c28_98 qr28 (Or.inr rfl) w.osome
noncomputable def f28_77 (rec : Nat → Nat → Int → Mm → Option (Int × Mm)) (r0 : Nat) (x1 : Int) (x2 : Int) (x3 : Int) (x4 : Int) (x5 : Int) (M : Mm) : Option ((Int × Int × Int × Mm) ⊕ (Int × Mm)) :=
  (f14 r0 x3 0 M).bind fun M2 =>
  f28_83 rec r0 x1 x2 x4 x5 M2
theorem t28_77 {X : Nat × Nat × qC} {d : Nat} {rec : Nat → Nat → Int → Mm → Option (Int × Mm)} {r0 : Nat} {x1 : Int} {x2 : Int} {x3 : Int} {x4 : Int} {x5 : Int} {M : Mm}  {R : Int × Mm → Prop} (hrec : ∀ (i r : Nat) (x : Int) (M : Mm) (R : Int × Mm → Prop), isTx r → R4 x → Wp (rec i r x M) R → mC X (d + 3) (recK i) 1 [.ref r, .int (Int32.ofInt x)] M (fun v M2 => R (v, M2))) (hr0 : isTx r0) (hx1 : R4 x1) (hx2 : R4 x2) (hx3 : R4 x3) (hx4 : R4 x4) (hx5 : R4 x5) (w : Wp (f28_77 rec r0 x1 x2 x3 x4 x5 M) (Sum.elim (E28_10 X d r0 x1 R) R)) : mE X (d + 3) 28 1 77 [some (.ref r0), some (.int (Int32.ofInt x1)), some (.int (Int32.ofInt x2)), some (.int (Int32.ofInt x3)), some (.int (Int32.ofInt x4)), some (.int (Int32.ofInt x5))] [] M (fun v M2 => R (v, M2)) := by
  refine mE_aload_n c28_77 rfl ?_
  refine mE_iload_n c28_78 rfl ?_
  refine mE_iconst c28_79 ?_
  refine mE_virtual0 (b := r0) (as := [.int (Int32.ofInt x3), .int (Int32.ofInt 0)]) (r := []) c28_80 qo28 qK10_88 qo14 rfl rfl rfl (ok_tx0 hr0) (Nat.le_of_ble_eq_true rfl) (s14 (d := d + 2) hr0 hx3 (r4_n rfl) w.obind) ?_
  intro _ M2 w
  exact t28_83 hrec hr0 hx1 hx2 hx4 hx5 w
noncomputable def f28_73 (rec : Nat → Nat → Int → Mm → Option (Int × Mm)) (r0 : Nat) (x1 : Int) (x2 : Int) (x3 : Int) (x4 : Int) (x5 : Int) (M : Mm) : Option ((Int × Int × Int × Mm) ⊕ (Int × Mm)) :=
  if x3 = 0 then
  (f28_83 rec r0 x1 x2 x4 x5 M)
  else
  (f28_77 rec r0 x1 x2 x3 x4 x5 M)
theorem t28_73 {X : Nat × Nat × qC} {d : Nat} {rec : Nat → Nat → Int → Mm → Option (Int × Mm)} {r0 : Nat} {x1 : Int} {x2 : Int} {x3 : Int} {x4 : Int} {x5 : Int} {M : Mm}  {R : Int × Mm → Prop} (hrec : ∀ (i r : Nat) (x : Int) (M : Mm) (R : Int × Mm → Prop), isTx r → R4 x → Wp (rec i r x M) R → mC X (d + 3) (recK i) 1 [.ref r, .int (Int32.ofInt x)] M (fun v M2 => R (v, M2))) (hr0 : isTx r0) (hx1 : R4 x1) (hx2 : R4 x2) (hx3 : R4 x3) (hx4 : R4 x4) (hx5 : R4 x5) (w : Wp (f28_73 rec r0 x1 x2 x3 x4 x5 M) (Sum.elim (E28_10 X d r0 x1 R) R)) : mE X (d + 3) 28 1 73 [some (.ref r0), some (.int (Int32.ofInt x1)), some (.int (Int32.ofInt x2)), some (.int (Int32.ofInt x3)), some (.int (Int32.ofInt x4)), some (.int (Int32.ofInt x5))] [] M (fun v M2 => R (v, M2)) := by
  refine mE_iload_n c28_73 rfl ?_
  by_cases e1 : x3 = 0
  · have w := w.pos e1
    refine mE_if_eq_T (t := 83) c28_74 rfl hx3 e1 ?_
    exact t28_83 hrec hr0 hx1 hx2 hx4 hx5 w
  · have w := w.neg e1
    refine mE_if_eq_F (t := 83) c28_74 rfl hx3 e1 ?_
    exact t28_77 hrec hr0 hx1 hx2 hx3 hx4 hx5 w
noncomputable def f28_62 (rec : Nat → Nat → Int → Mm → Option (Int × Mm)) (r0 : Nat) (x1 : Int) (x3 : Int) (x4 : Int) (x5 : Int) (M : Mm) : Option ((Int × Int × Int × Mm) ⊕ (Int × Mm)) :=
  if x5 = 0 then
  (f28_73 rec r0 x1 x5 x3 x4 x5 M)
  else
  (f28_102 rec r0 x1 x5 x3 x4 M)
theorem t28_62 {X : Nat × Nat × qC} {d : Nat} {rec : Nat → Nat → Int → Mm → Option (Int × Mm)} {r0 : Nat} {x1 : Int} {x3 : Int} {x4 : Int} {x5 : Int} {M : Mm} {y2 : Int32} {R : Int × Mm → Prop} (hrec : ∀ (i r : Nat) (x : Int) (M : Mm) (R : Int × Mm → Prop), isTx r → R4 x → Wp (rec i r x M) R → mC X (d + 3) (recK i) 1 [.ref r, .int (Int32.ofInt x)] M (fun v M2 => R (v, M2))) (hr0 : isTx r0) (hx1 : R4 x1) (hx3 : R4 x3) (hx4 : R4 x4) (hx5 : R4 x5) (w : Wp (f28_62 rec r0 x1 x3 x4 x5 M) (Sum.elim (E28_10 X d r0 x1 R) R)) : mE X (d + 3) 28 1 62 [some (.ref r0), some (.int (Int32.ofInt x1)), some (.int y2), some (.int (Int32.ofInt x3)), some (.int (Int32.ofInt x4)), some (.int (Int32.ofInt x5))] [] M (fun v M2 => R (v, M2)) := by
  refine mE_iload c28_62 rfl ?_
  refine mE_goto (t := 68) c28_64 rfl ?_
  refine mE_istore_n (ls2 := [some (.ref r0), some (.int (Int32.ofInt x1)), some (.int (Int32.ofInt x5)), some (.int (Int32.ofInt x3)), some (.int (Int32.ofInt x4)), some (.int (Int32.ofInt x5))]) c28_68 (Nat.le_of_ble_eq_true rfl) rfl ?_
  refine mE_iload_n c28_69 rfl ?_
  by_cases e1 : x5 = 0
  · have w := w.pos e1
    refine mE_if_ne_F (t := 102) c28_70 rfl hx5 e1 ?_
    exact t28_73 hrec hr0 hx1 hx5 hx3 hx4 hx5 w
  · have w := w.neg e1
    refine mE_if_ne_T (t := 102) c28_70 rfl hx5 e1 ?_
    exact t28_102 hrec hr0 hx1 hx5 hx3 hx4 w
noncomputable def f28_35 (rec : Nat → Nat → Int → Mm → Option (Int × Mm)) (r0 : Nat) (x1 : Int) (x3 : Int) (x4 : Int) (M : Mm) : Option ((Int × Int × Int × Mm) ⊕ (Int × Mm)) :=
  (f23 r0 M).bind fun v1 =>
  if v1 = 42 then
  (f28_62 rec r0 x1 x3 x4 v1 M)
  else
  (if v1 = 47 then
  (f28_62 rec r0 x1 x3 x4 v1 M)
  else
  (if v1 = 37 then
  (f28_62 rec r0 x1 x3 x4 v1 M)
  else
  (f28_73 rec r0 x1 0 x3 x4 v1 M)))
theorem t28_35 {X : Nat × Nat × qC} {d : Nat} {rec : Nat → Nat → Int → Mm → Option (Int × Mm)} {r0 : Nat} {x1 : Int} {x3 : Int} {x4 : Int} {M : Mm} {y2 : Int32} {o5 : Option Value} {R : Int × Mm → Prop} (hrec : ∀ (i r : Nat) (x : Int) (M : Mm) (R : Int × Mm → Prop), isTx r → R4 x → Wp (rec i r x M) R → mC X (d + 3) (recK i) 1 [.ref r, .int (Int32.ofInt x)] M (fun v M2 => R (v, M2))) (hr0 : isTx r0) (hx1 : R4 x1) (hx3 : R4 x3) (hx4 : R4 x4) (w : Wp (f28_35 rec r0 x1 x3 x4 M) (Sum.elim (E28_10 X d r0 x1 R) R)) : mE X (d + 3) 28 1 35 [some (.ref r0), some (.int (Int32.ofInt x1)), some (.int y2), some (.int (Int32.ofInt x3)), some (.int (Int32.ofInt x4)), o5] [] M (fun v M2 => R (v, M2)) := by
  refine mE_aload_n c28_35 rfl ?_
  refine mE_virtual1 (b := r0) (as := []) (r := []) c28_36 qo28 qK10_74 qo23 rfl rfl rfl (ok_tx0 hr0) (Nat.le_of_ble_eq_true rfl) (s23 (d := d + 2) hr0 w.obind) ?_
  rintro v1 _ q3 ⟨rfl, w⟩
  refine mE_istore (ls2 := [some (.ref r0), some (.int (Int32.ofInt x1)), some (.int y2), some (.int (Int32.ofInt x3)), some (.int (Int32.ofInt x4)), some (.int (Int32.ofInt v1))]) c28_39 (Nat.le_of_ble_eq_true rfl) rfl ?_
  refine mE_iload c28_41 rfl ?_
  refine mE_bipush (x := 42) c28_43 rfl ?_
  by_cases e4 : v1 = 42
  · have w := w.pos e4
    refine mE_icmp_eq_T (t := 62) c28_45 rfl q3 (r4_n rfl) e4 ?_
    exact t28_62 hrec hr0 hx1 hx3 hx4 q3 w
  · have w := w.neg e4
    refine mE_icmp_eq_F (t := 62) c28_45 rfl q3 (r4_n rfl) e4 ?_
    refine mE_iload c28_48 rfl ?_
    refine mE_bipush (x := 47) c28_50 rfl ?_
    by_cases e5 : v1 = 47
    · have w := w.pos e5
      refine mE_icmp_eq_T (t := 62) c28_52 rfl q3 (r4_n rfl) e5 ?_
      exact t28_62 hrec hr0 hx1 hx3 hx4 q3 w
    · have w := w.neg e5
      refine mE_icmp_eq_F (t := 62) c28_52 rfl q3 (r4_n rfl) e5 ?_
      refine mE_iload c28_55 rfl ?_
      refine mE_bipush (x := 37) c28_57 rfl ?_
      by_cases e6 : v1 = 37
      · have w := w.pos e6
        refine mE_icmp_ne_F (t := 67) c28_59 rfl q3 (r4_n rfl) e6 ?_
        exact t28_62 hrec hr0 hx1 hx3 hx4 q3 w
      · have w := w.neg e6
        refine mE_icmp_ne_T (t := 67) c28_59 rfl q3 (r4_n rfl) e6 ?_
        refine mE_iconst c28_67 ?_
        refine mE_istore_n (ls2 := [some (.ref r0), some (.int (Int32.ofInt x1)), some (.int (Int32.ofInt 0)), some (.int (Int32.ofInt x3)), some (.int (Int32.ofInt x4)), some (.int (Int32.ofInt v1))]) c28_68 (Nat.le_of_ble_eq_true rfl) rfl ?_
        refine mE_iload_n c28_69 rfl ?_
        refine mE_if_ne_F (t := 102) c28_70 rfl (r4_n rfl) (by decide) ?_
        exact t28_73 hrec hr0 hx1 (r4_n rfl) hx3 hx4 q3 w
noncomputable def lb28_10 (rec : Nat → Nat → Int → Mm → Option (Int × Mm)) (r0 : Nat) (x1 : Int) (x2 : Int) (x3 : Int) (x4 : Int) (M : Mm) : Option ((Int × Int × Int × Mm) ⊕ (Int × Mm)) :=
  if 0 < x4 then
  (obnd (rec 3 r0 x1 M) fun v2 M3 =>
  if v2 = 0 then
  (oinr (some (0, M3)))
  else
  (if x2 = 0 then
  (f28_35 rec r0 x1 x3 x4 M3)
  else
  ((f14 r0 x2 0 M3).bind fun M8 =>
  f28_35 rec r0 x1 x3 x4 M8)))
  else
  (oinr (obnd (f27 r0 1 M) fun v2 M3 =>
  gd (v2 = 0 ∨ v2 = 1) (
  some (v2, M3))))
noncomputable def f28_10 (rec : Nat → Nat → Int → Mm → Option (Int × Mm)) (r0 : Nat) (x1 : Int) (x2 : Int) (x3 : Int) (x4 : Int) (M : Mm) : Option (Int × Mm) := lp (fun s : Int × Int × Int × Mm => lb28_10 rec r0 x1 s.1 s.2.1 s.2.2.1 s.2.2.2) (x2, x3, x4, M)
theorem tb28_10 {X : Nat × Nat × qC} {d : Nat} {rec : Nat → Nat → Int → Mm → Option (Int × Mm)} {r0 : Nat} {x1 : Int} {x2 : Int} {x3 : Int} {x4 : Int} {M : Mm} {o5 : Option Value} {R : Int × Mm → Prop} (hrec : ∀ (i r : Nat) (x : Int) (M : Mm) (R : Int × Mm → Prop), isTx r → R4 x → Wp (rec i r x M) R → mC X (d + 3) (recK i) 1 [.ref r, .int (Int32.ofInt x)] M (fun v M2 => R (v, M2))) (hr0 : isTx r0) (hx1 : R4 x1) (hx2 : R4 x2) (hx3 : R4 x3) (hx4 : R4 x4) (w : Wp (lb28_10 rec r0 x1 x2 x3 x4 M) (Sum.elim (E28_10 X d r0 x1 R) R)) : mE X (d + 3) 28 1 10 [some (.ref r0), some (.int (Int32.ofInt x1)), some (.int (Int32.ofInt x2)), some (.int (Int32.ofInt x3)), some (.int (Int32.ofInt x4)), o5] [] M (fun v M2 => R (v, M2)) := by
  refine mE_iload c28_10 rfl ?_
  by_cases e1 : 0 < x4
  · have w := w.pos e1
    refine mE_if_le_F (t := 118) c28_12 rfl hx4 e1 ?_
    refine mE_aload_n c28_15 rfl ?_
    refine mE_iload_n c28_16 rfl ?_
    refine mE_virtual1 (b := r0) (as := [.int (Int32.ofInt x1)]) (r := []) c28_17 qo28 qK10_98 qo15 rfl rfl rfl (ok_tx0 hr0) (Nat.le_of_ble_eq_true rfl) (hrec 3 _ _ _ _ hr0 hx1 w.oc) ?_
    intro v2 M3 q4 w
    by_cases e5 : v2 = 0
    · have w := w.pos e5
      refine mE_if_ne_F (t := 25) c28_20 rfl q4 e5 ?_
      have w := w.oinr
      refine mE_iconst c28_23 ?_
      exact mE_zret c28_24 qr28 (Or.inl rfl) w.osome
    · have w := w.neg e5
      refine mE_if_ne_T (t := 25) c28_20 rfl q4 e5 ?_
      refine mE_iload_n c28_25 rfl ?_
      by_cases e6 : x2 = 0
      · have w := w.pos e6
        refine mE_if_eq_T (t := 35) c28_26 rfl hx2 e6 ?_
        exact t28_35 hrec hr0 hx1 hx3 hx4 w
      · have w := w.neg e6
        refine mE_if_eq_F (t := 35) c28_26 rfl hx2 e6 ?_
        refine mE_aload_n c28_29 rfl ?_
        refine mE_iload_n c28_30 rfl ?_
        refine mE_iconst c28_31 ?_
        refine mE_virtual0 (b := r0) (as := [.int (Int32.ofInt x2), .int (Int32.ofInt 0)]) (r := []) c28_32 qo28 qK10_88 qo14 rfl rfl rfl (ok_tx0 hr0) (Nat.le_of_ble_eq_true rfl) (s14 (d := d + 2) hr0 hx2 (r4_n rfl) w.obind) ?_
        intro _ M8 w
        exact t28_35 hrec hr0 hx1 hx3 hx4 w
  · have w := w.neg e1
    refine mE_if_le_T (t := 118) c28_12 rfl hx4 e1 ?_
    have w := w.oinr
    refine mE_aload_n c28_118 rfl ?_
    refine mE_iconst c28_119 ?_
    refine mE_virtual1 (b := r0) (as := [.int (Int32.ofInt 1)]) (r := []) c28_120 qo28 qK10_78 qo27 rfl rfl rfl (ok_tx0 hr0) (Nat.le_of_ble_eq_true rfl) (s27 (d := d + 2) hr0 (r4_n rfl) w.oc) ?_
    intro v2 M3 q4 w
    obtain ⟨g5, w⟩ := w.ogd
    exact mE_zret c28_123 qr28 g5 w.osome
theorem t28_10 {X : Nat × Nat × qC} {d : Nat} {rec : Nat → Nat → Int → Mm → Option (Int × Mm)} {r0 : Nat} {x1 : Int} {x2 : Int} {x3 : Int} {x4 : Int} {M : Mm} {o5 : Option Value} {R : Int × Mm → Prop} (hrec : ∀ (i r : Nat) (x : Int) (M : Mm) (R : Int × Mm → Prop), isTx r → R4 x → Wp (rec i r x M) R → mC X (d + 3) (recK i) 1 [.ref r, .int (Int32.ofInt x)] M (fun v M2 => R (v, M2))) (hr0 : isTx r0) (hx1 : R4 x1) (hx2 : R4 x2) (hx3 : R4 x3) (hx4 : R4 x4) (w : Wp (f28_10 rec r0 x1 x2 x3 x4 M) R) : mE X (d + 3) 28 1 10 [some (.ref r0), some (.int (Int32.ofInt x1)), some (.int (Int32.ofInt x2)), some (.int (Int32.ofInt x3)), some (.int (Int32.ofInt x4)), o5] [] M (fun v M2 => R (v, M2)) :=
  Wp.olp (f := fun s : Int × Int × Int × Mm => lb28_10 rec r0 x1 s.1 s.2.1 s.2.2.1 s.2.2.2) (s := (x2, x3, x4, M)) (E := E28_10 X d r0 x1 R) w (fun s w hx2 hx3 hx4 _ => tb28_10 hrec hr0 hx1 hx2 hx3 hx4 w) hx2 hx3 hx4 _
noncomputable def f28 (rec : Nat → Nat → Int → Mm → Option (Int × Mm)) (r0 : Nat) (x1 : Int) (M : Mm) : Option (Int × Mm) :=
  f28_10 rec r0 x1 0 0 (M r0 4) M
theorem t28 {X : Nat × Nat × qC} {d : Nat} {rec : Nat → Nat → Int → Mm → Option (Int × Mm)} {r0 : Nat} {x1 : Int} {M : Mm}  {R : Int × Mm → Prop} (hrec : ∀ (i r : Nat) (x : Int) (M : Mm) (R : Int × Mm → Prop), isTx r → R4 x → Wp (rec i r x M) R → mC X (d + 3) (recK i) 1 [.ref r, .int (Int32.ofInt x)] M (fun v M2 => R (v, M2))) (hr0 : isTx r0) (hx1 : R4 x1) (w : Wp (f28 rec r0 x1 M) R) : mE X (d + 3) 28 1 0 [some (.ref r0), some (.int (Int32.ofInt x1)), none, none, none, none] [] M (fun v M2 => R (v, M2)) := by
  refine mE_iconst c28_0 ?_
  refine mE_istore_n (ls2 := [some (.ref r0), some (.int (Int32.ofInt x1)), some (.int (Int32.ofInt 0)), none, none, none]) c28_1 (Nat.le_of_ble_eq_true rfl) rfl ?_
  refine mE_iconst c28_2 ?_
  refine mE_istore_n (ls2 := [some (.ref r0), some (.int (Int32.ofInt x1)), some (.int (Int32.ofInt 0)), some (.int (Int32.ofInt 0)), none, none]) c28_3 (Nat.le_of_ble_eq_true rfl) rfl ?_
  refine mE_aload_n c28_4 rfl ?_
  refine mE_getI c28_5 qo28 qF10_38 (ok_tx0 hr0) rfl ?_
  intro u1
  refine mE_istore (ls2 := [some (.ref r0), some (.int (Int32.ofInt x1)), some (.int (Int32.ofInt 0)), some (.int (Int32.ofInt 0)), some (.int (Int32.ofInt (M r0 4))), none]) c28_8 (Nat.le_of_ble_eq_true rfl) rfl ?_
  exact t28_10 hrec hr0 hx1 (r4_n rfl) (r4_n rfl) u1 w
theorem s28 {X : Nat × Nat × qC} {d : Nat} {rec : Nat → Nat → Int → Mm → Option (Int × Mm)} {r0 : Nat} {x1 : Int} {M : Mm} {R : Int × Mm → Prop} (hrec : ∀ (i r : Nat) (x : Int) (M : Mm) (R : Int × Mm → Prop), isTx r → R4 x → Wp (rec i r x M) R → mC X (d + 3) (recK i) 1 [.ref r, .int (Int32.ofInt x)] M (fun v M2 => R (v, M2))) (hr0 : isTx r0) (hx1 : R4 x1) (w : Wp (f28 rec r0 x1 M) R) : mC X (d + 4) 28 1 [.ref r0, .int (Int32.ofInt x1)] M (fun v M2 => R (v, M2)) :=
  mC_of (qent_mk qx28 rfl rfl rfl) (t28 hrec hr0 hx1 w)
/-! SaggingNet$Text.factor -/
def E15_72 (X : Nat × Nat × qC) (d : Nat) (r0 : Nat) (x2 : Int) (M : Mm) (R : Int × Mm → Prop) : Int → Prop := fun s => R4 s → ∀ (y1 : Int32), mE X (d + 3) 15 1 72 [some (.ref r0), some (.int y1), some (.int (Int32.ofInt x2)), some (.int (Int32.ofInt s))] [] M (fun v M2 => R (v, M2))
noncomputable def f15_114 (rec : Nat → Nat → Int → Mm → Option (Int × Mm)) (r0 : Nat) (x2 : Int) (x3 : Int) (M : Mm) : Option ((Int) ⊕ (Int × Mm)) :=
  gd (R4 (x3 + 1)) (
  some (.inl ((x3 + 1))))
theorem t15_114 {X : Nat × Nat × qC} {d : Nat} {rec : Nat → Nat → Int → Mm → Option (Int × Mm)} {r0 : Nat} {x2 : Int} {x3 : Int} {M : Mm} {y1 : Int32} {R : Int × Mm → Prop} (hrec : ∀ (i r : Nat) (x : Int) (M : Mm) (R : Int × Mm → Prop), isTx r → R4 x → Wp (rec i r x M) R → mC X (d + 3) (recK i) 1 [.ref r, .int (Int32.ofInt x)] M (fun v M2 => R (v, M2))) (hr0 : isTx r0) (hx2 : R4 x2) (hx3 : R4 x3) (w : Wp (f15_114 rec r0 x2 x3 M) (Sum.elim (E15_72 X d r0 x2 M R) R)) : mE X (d + 3) 15 1 114 [some (.ref r0), some (.int y1), some (.int (Int32.ofInt x2)), some (.int (Int32.ofInt x3))] [] M (fun v M2 => R (v, M2)) := by
  obtain ⟨g1, w⟩ := w.ogd
  refine mE_iinc (ls2 := [some (.ref r0), some (.int y1), some (.int (Int32.ofInt x2)), some (.int (Int32.ofInt (x3 + 1)))]) c15_114 rfl (Nat.le_of_ble_eq_true rfl) rfl ?_
  refine mE_goto (t := 72) c15_117 rfl ?_
  exact w.osome g1 _
noncomputable def lb15_72 (rec : Nat → Nat → Int → Mm → Option (Int × Mm)) (r0 : Nat) (x2 : Int) (x3 : Int) (M : Mm) : Option ((Int) ⊕ (Int × Mm)) :=
  if x3 < 11 then
  (gd (0 ≤ x3 ∧ x3 < 11) (
  if (vSg x3) = x2 then
  ((f19 r0 x3 M).bind fun v5 =>
  if v5 = 0 then
  (f15_114 rec r0 x2 x3 M)
  else
  (oinr ((f14 r0 97 x3 M).bind fun M10 =>
  gd (R4 ((M10 r0 3) + 1)) (
  mlet (ms M10 r0 3 ((M10 r0 3) + 1)) fun M14 =>
  some (1, M14)))))
  else
  (f15_114 rec r0 x2 x3 M)))
  else
  (oinr (obnd (f27 r0 1 M) fun v2 M3 =>
  gd (v2 = 0 ∨ v2 = 1) (
  some (v2, M3))))
noncomputable def f15_72 (rec : Nat → Nat → Int → Mm → Option (Int × Mm)) (r0 : Nat) (x2 : Int) (x3 : Int) (M : Mm) : Option (Int × Mm) := lp (fun s : Int => lb15_72 rec r0 x2 s M) x3
theorem tb15_72 {X : Nat × Nat × qC} {d : Nat} {rec : Nat → Nat → Int → Mm → Option (Int × Mm)} {r0 : Nat} {x2 : Int} {x3 : Int} {M : Mm} {y1 : Int32} {R : Int × Mm → Prop} (hrec : ∀ (i r : Nat) (x : Int) (M : Mm) (R : Int × Mm → Prop), isTx r → R4 x → Wp (rec i r x M) R → mC X (d + 3) (recK i) 1 [.ref r, .int (Int32.ofInt x)] M (fun v M2 => R (v, M2))) (hr0 : isTx r0) (hx2 : R4 x2) (hx3 : R4 x3) (w : Wp (lb15_72 rec r0 x2 x3 M) (Sum.elim (E15_72 X d r0 x2 M R) R)) : mE X (d + 3) 15 1 72 [some (.ref r0), some (.int y1), some (.int (Int32.ofInt x2)), some (.int (Int32.ofInt x3))] [] M (fun v M2 => R (v, M2)) := by
  refine mE_iload_n c15_72 rfl ?_
  refine mE_bipush (x := 11) c15_73 rfl ?_
  by_cases e1 : x3 < 11
  · have w := w.pos e1
    refine mE_icmp_ge_F (t := 120) c15_75 rfl hx3 (r4_n rfl) e1 ?_
    refine mE_signs c15_78 qo15 ?_
    refine mE_iload_n c15_81 rfl ?_
    obtain ⟨g2, w⟩ := w.ogd
    refine mE_caload c15_82 hx3 g2 ?_
    intro r3
    refine mE_iload_n c15_83 rfl ?_
    by_cases e4 : (vSg x3) = x2
    · have w := w.pos e4
      refine mE_icmp_ne_F (t := 114) c15_84 rfl r3 hx2 e4 ?_
      refine mE_aload_n c15_87 rfl ?_
      refine mE_iload_n c15_88 rfl ?_
      refine mE_virtual1 (b := r0) (as := [.int (Int32.ofInt x3)]) (r := []) c15_89 qo15 qK10_111 qo19 rfl rfl rfl (ok_tx0 hr0) (Nat.le_of_ble_eq_true rfl) (s19 (d := d + 2) hr0 hx3 w.obind) ?_
      rintro v5 _ q7 ⟨rfl, w⟩
      by_cases e8 : v5 = 0
      · have w := w.pos e8
        refine mE_if_eq_T (t := 114) c15_92 rfl q7 e8 ?_
        exact t15_114 hrec hr0 hx2 hx3 w
      · have w := w.neg e8
        refine mE_if_eq_F (t := 114) c15_92 rfl q7 e8 ?_
        have w := w.oinr
        refine mE_aload_n c15_95 rfl ?_
        refine mE_bipush (x := 97) c15_96 rfl ?_
        refine mE_iload_n c15_98 rfl ?_
        refine mE_virtual0 (b := r0) (as := [.int (Int32.ofInt 97), .int (Int32.ofInt x3)]) (r := []) c15_99 qo15 qK10_88 qo14 rfl rfl rfl (ok_tx0 hr0) (Nat.le_of_ble_eq_true rfl) (s14 (d := d + 2) hr0 (r4_n rfl) hx3 w.obind) ?_
        intro _ M10 w
        refine mE_aload_n c15_102 rfl ?_
        refine mE_dup c15_103 rfl ?_
        refine mE_getI c15_104 qo15 qF10_57 (ok_tx0 hr0) rfl ?_
        intro u12
        refine mE_iconst c15_107 ?_
        obtain ⟨g13, w⟩ := w.ogd
        refine mE_iadd c15_108 ?_
        obtain ⟨M14, m15, w⟩ := w.mlet
        refine mE_putI c15_109 qo15 qF10_57 qz10_3 (ok_tx0 hr0) (Nat.le_of_ble_eq_true rfl) rfl g13 (by rw [qy10_3]; rfl) ?_
        refine mE_M m15 ?_
        refine mE_iconst c15_112 ?_
        exact mE_zret c15_113 qr15 (Or.inr rfl) w.osome
    · have w := w.neg e4
      refine mE_icmp_ne_T (t := 114) c15_84 rfl r3 hx2 e4 ?_
      exact t15_114 hrec hr0 hx2 hx3 w
  · have w := w.neg e1
    refine mE_icmp_ge_T (t := 120) c15_75 rfl hx3 (r4_n rfl) e1 ?_
    have w := w.oinr
    refine mE_aload_n c15_120 rfl ?_
    refine mE_iconst c15_121 ?_
    refine mE_virtual1 (b := r0) (as := [.int (Int32.ofInt 1)]) (r := []) c15_122 qo15 qK10_78 qo27 rfl rfl rfl (ok_tx0 hr0) (Nat.le_of_ble_eq_true rfl) (s27 (d := d + 2) hr0 (r4_n rfl) w.oc) ?_
    intro v2 M3 q4 w
    obtain ⟨g5, w⟩ := w.ogd
    exact mE_zret c15_125 qr15 g5 w.osome
theorem t15_72 {X : Nat × Nat × qC} {d : Nat} {rec : Nat → Nat → Int → Mm → Option (Int × Mm)} {r0 : Nat} {x2 : Int} {x3 : Int} {M : Mm} {y1 : Int32} {R : Int × Mm → Prop} (hrec : ∀ (i r : Nat) (x : Int) (M : Mm) (R : Int × Mm → Prop), isTx r → R4 x → Wp (rec i r x M) R → mC X (d + 3) (recK i) 1 [.ref r, .int (Int32.ofInt x)] M (fun v M2 => R (v, M2))) (hr0 : isTx r0) (hx2 : R4 x2) (hx3 : R4 x3) (w : Wp (f15_72 rec r0 x2 x3 M) R) : mE X (d + 3) 15 1 72 [some (.ref r0), some (.int y1), some (.int (Int32.ofInt x2)), some (.int (Int32.ofInt x3))] [] M (fun v M2 => R (v, M2)) :=
  Wp.olp (f := fun s : Int => lb15_72 rec r0 x2 s M) (s := x3) (E := E15_72 X d r0 x2 M R) w (fun s w hx3 _ => tb15_72 hrec hr0 hx2 hx3 w) hx3 _
noncomputable def f15 (rec : Nat → Nat → Int → Mm → Option (Int × Mm)) (r0 : Nat) (x1 : Int) (M : Mm) : Option (Int × Mm) :=
  (f23 r0 M).bind fun v1 =>
  if v1 = 91 then
  (if x1 < 6 then
  (gd (R4 ((M r0 3) + 1)) (
  mlet (ms M r0 3 ((M r0 3) + 1)) fun M8 =>
  gd (R4 (x1 + 1)) (
  obnd (rec 2 r0 (x1 + 1) M8) fun v11 M12 =>
  if v11 = 0 then
  (some (0, M12))
  else
  (obnd (f29 r0 93 M12) fun v15 M16 =>
  if v15 = 0 then
  (some (0, M16))
  else
  (some (1, M16))))))
  else
  (obnd (f27 r0 5 M) fun v6 M7 =>
  gd (v6 = 0 ∨ v6 = 1) (
  some (v6, M7))))
  else
  ((f20 v1 M).bind fun v5 =>
  if v5 = 0 then
  (f15_72 rec r0 v1 0 M)
  else
  (obnd (f22 r0 M) fun v9 M10 =>
  gd (v9 = 0 ∨ v9 = 1) (
  some (v9, M10))))
theorem t15 {X : Nat × Nat × qC} {d : Nat} {rec : Nat → Nat → Int → Mm → Option (Int × Mm)} {r0 : Nat} {x1 : Int} {M : Mm}  {R : Int × Mm → Prop} (hrec : ∀ (i r : Nat) (x : Int) (M : Mm) (R : Int × Mm → Prop), isTx r → R4 x → Wp (rec i r x M) R → mC X (d + 3) (recK i) 1 [.ref r, .int (Int32.ofInt x)] M (fun v M2 => R (v, M2))) (hr0 : isTx r0) (hx1 : R4 x1) (w : Wp (f15 rec r0 x1 M) R) : mE X (d + 3) 15 1 0 [some (.ref r0), some (.int (Int32.ofInt x1)), none, none] [] M (fun v M2 => R (v, M2)) := by
  refine mE_aload_n c15_0 rfl ?_
  refine mE_virtual1 (b := r0) (as := []) (r := []) c15_1 qo15 qK10_74 qo23 rfl rfl rfl (ok_tx0 hr0) (Nat.le_of_ble_eq_true rfl) (s23 (d := d + 2) hr0 w.obind) ?_
  rintro v1 _ q3 ⟨rfl, w⟩
  refine mE_istore_n (ls2 := [some (.ref r0), some (.int (Int32.ofInt x1)), some (.int (Int32.ofInt v1)), none]) c15_4 (Nat.le_of_ble_eq_true rfl) rfl ?_
  refine mE_iload_n c15_5 rfl ?_
  refine mE_bipush (x := 91) c15_6 rfl ?_
  by_cases e4 : v1 = 91
  · have w := w.pos e4
    refine mE_icmp_ne_F (t := 58) c15_8 rfl q3 (r4_n rfl) e4 ?_
    refine mE_iload_n c15_11 rfl ?_
    refine mE_bipush (x := 6) c15_12 rfl ?_
    by_cases e5 : x1 < 6
    · have w := w.pos e5
      refine mE_icmp_lt_T (t := 23) c15_14 rfl hx1 (r4_n rfl) e5 ?_
      refine mE_aload_n c15_23 rfl ?_
      refine mE_dup c15_24 rfl ?_
      refine mE_getI c15_25 qo15 qF10_57 (ok_tx0 hr0) rfl ?_
      intro u6
      refine mE_iconst c15_28 ?_
      obtain ⟨g7, w⟩ := w.ogd
      refine mE_iadd c15_29 ?_
      obtain ⟨M8, m9, w⟩ := w.mlet
      refine mE_putI c15_30 qo15 qF10_57 qz10_3 (ok_tx0 hr0) (Nat.le_of_ble_eq_true rfl) rfl g7 (by rw [qy10_3]; rfl) ?_
      refine mE_M m9 ?_
      refine mE_aload_n c15_33 rfl ?_
      refine mE_iload_n c15_34 rfl ?_
      refine mE_iconst c15_35 ?_
      obtain ⟨g10, w⟩ := w.ogd
      refine mE_iadd c15_36 ?_
      refine mE_virtual1 (b := r0) (as := [.int (Int32.ofInt (x1 + 1))]) (r := []) c15_37 qo15 qK10_95 qo28 rfl rfl rfl (ok_tx0 hr0) (Nat.le_of_ble_eq_true rfl) (hrec 2 _ _ _ _ hr0 g10 w.oc) ?_
      intro v11 M12 q13 w
      by_cases e14 : v11 = 0
      · have w := w.pos e14
        refine mE_if_eq_T (t := 56) c15_40 rfl q13 e14 ?_
        refine mE_iconst c15_56 ?_
        exact mE_zret c15_57 qr15 (Or.inl rfl) w.osome
      · have w := w.neg e14
        refine mE_if_eq_F (t := 56) c15_40 rfl q13 e14 ?_
        refine mE_aload_n c15_43 rfl ?_
        refine mE_bipush (x := 93) c15_44 rfl ?_
        refine mE_virtual1 (b := r0) (as := [.int (Int32.ofInt 93)]) (r := []) c15_46 qo15 qK10_64 qo29 rfl rfl rfl (ok_tx0 hr0) (Nat.le_of_ble_eq_true rfl) (s29 (d := d + 1) hr0 (r4_n rfl) w.oc) ?_
        intro v15 M16 q17 w
        by_cases e18 : v15 = 0
        · have w := w.pos e18
          refine mE_if_eq_T (t := 56) c15_49 rfl q17 e18 ?_
          refine mE_iconst c15_56 ?_
          exact mE_zret c15_57 qr15 (Or.inl rfl) w.osome
        · have w := w.neg e18
          refine mE_if_eq_F (t := 56) c15_49 rfl q17 e18 ?_
          refine mE_iconst c15_52 ?_
          refine mE_goto (t := 57) c15_53 rfl ?_
          exact mE_zret c15_57 qr15 (Or.inr rfl) w.osome
    · have w := w.neg e5
      refine mE_icmp_lt_F (t := 23) c15_14 rfl hx1 (r4_n rfl) e5 ?_
      refine mE_aload_n c15_17 rfl ?_
      refine mE_iconst c15_18 ?_
      refine mE_virtual1 (b := r0) (as := [.int (Int32.ofInt 5)]) (r := []) c15_19 qo15 qK10_78 qo27 rfl rfl rfl (ok_tx0 hr0) (Nat.le_of_ble_eq_true rfl) (s27 (d := d + 2) hr0 (r4_n rfl) w.oc) ?_
      intro v6 M7 q8 w
      obtain ⟨g9, w⟩ := w.ogd
      exact mE_zret c15_22 qr15 g9 w.osome
  · have w := w.neg e4
    refine mE_icmp_ne_T (t := 58) c15_8 rfl q3 (r4_n rfl) e4 ?_
    refine mE_iload_n c15_58 rfl ?_
    refine mE_static1 (as := [.int (Int32.ofInt v1)]) (r := []) c15_59 qo15 (by decide) qK10_101 rfl rfl rfl (Nat.le_of_ble_eq_true rfl) (s20 (d := d + 2) q3 w.obind) ?_
    rintro v5 _ q7 ⟨rfl, w⟩
    by_cases e8 : v5 = 0
    · have w := w.pos e8
      refine mE_if_eq_T (t := 70) c15_62 rfl q7 e8 ?_
      refine mE_iconst c15_70 ?_
      refine mE_istore_n (ls2 := [some (.ref r0), some (.int (Int32.ofInt x1)), some (.int (Int32.ofInt v1)), some (.int (Int32.ofInt 0))]) c15_71 (Nat.le_of_ble_eq_true rfl) rfl ?_
      exact t15_72 hrec hr0 q3 (r4_n rfl) w
    · have w := w.neg e8
      refine mE_if_eq_F (t := 70) c15_62 rfl q7 e8 ?_
      refine mE_aload_n c15_65 rfl ?_
      refine mE_virtual1 (b := r0) (as := []) (r := []) c15_66 qo15 qK10_104 qo22 rfl rfl rfl (ok_tx0 hr0) (Nat.le_of_ble_eq_true rfl) (s22 (d := d + 1) hr0 w.oc) ?_
      intro v9 M10 q11 w
      obtain ⟨g12, w⟩ := w.ogd
      exact mE_zret c15_69 qr15 g12 w.osome
theorem s15 {X : Nat × Nat × qC} {d : Nat} {rec : Nat → Nat → Int → Mm → Option (Int × Mm)} {r0 : Nat} {x1 : Int} {M : Mm} {R : Int × Mm → Prop} (hrec : ∀ (i r : Nat) (x : Int) (M : Mm) (R : Int × Mm → Prop), isTx r → R4 x → Wp (rec i r x M) R → mC X (d + 3) (recK i) 1 [.ref r, .int (Int32.ofInt x)] M (fun v M2 => R (v, M2))) (hr0 : isTx r0) (hx1 : R4 x1) (w : Wp (f15 rec r0 x1 M) R) : mC X (d + 4) 15 1 [.ref r0, .int (Int32.ofInt x1)] M (fun v M2 => R (v, M2)) :=
  mC_of (qent_mk qx15 rfl rfl rfl) (t15 hrec hr0 hx1 w)
noncomputable def fRec : Nat → Nat → Nat → Int → Mm → Option (Int × Mm)
  | 0, _, _, _, _ => none
  | n + 1, 0, r, x, M => f13 (fRec n) r x M
  | n + 1, 1, r, x, M => f24 (fRec n) r x M
  | n + 1, 2, r, x, M => f28 (fRec n) r x M
  | n + 1, _ + 3, r, x, M => f15 (fRec n) r x M
theorem sRec {X : Nat × Nat × qC} {d : Nat} : ∀ (n i r : Nat) (x : Int) (M : Mm) (R : Int × Mm → Prop), isTx r → R4 x → Wp (fRec n i r x M) R → mC X (d + (n + 3)) (recK i) 1 [.ref r, .int (Int32.ofInt x)] M (fun v M2 => R (v, M2))
  | 0, _, _, _, _, _, _, _, w => w.onone.elim
  | n + 1, 0, r, x, M, R, h1, h2, w => s13 (d := d + n) (rec := fRec n) (fun i r x M R h1 h2 w => sRec n i r x M R h1 h2 w) h1 h2 w
  | n + 1, 1, r, x, M, R, h1, h2, w => s24 (d := d + n) (rec := fRec n) (fun i r x M R h1 h2 w => sRec n i r x M R h1 h2 w) h1 h2 w
  | n + 1, 2, r, x, M, R, h1, h2, w => s28 (d := d + n) (rec := fRec n) (fun i r x M R h1 h2 w => sRec n i r x M R h1 h2 w) h1 h2 w
  | n + 1, _ + 3, r, x, M, R, h1, h2, w => s15 (d := d + n) (rec := fRec n) (fun i r x M R h1 h2 w => sRec n i r x M R h1 h2 w) h1 h2 w
/-! SaggingNet$Text.reckoned -/
noncomputable def f26_66 (l1 : Int) (l3 : Int) (M : Mm) : Option (Int) :=
  if l3 = 0 then
  (some 0)
  else
  (gd (¬ l3 = 0) (
  some (w8 (Int.tmod l1 l3))))
theorem t26_66 {X : Nat × Nat × qC} {d : Nat} {l1 : Int} {l3 : Int} {M : Mm} {y0 : Int32} {R : Int → Prop} (hl1 : R8 l1) (hl3 : R8 l3) (w : Wp (f26_66 l1 l3 M) R) : mE X (d + 0) 26 2 66 [some (.int y0), some (.long (Int64.ofInt l1)), none, some (.long (Int64.ofInt l3)), none] [] M (fun v M2 => M = M2 ∧ R v) := by
  refine mE_lload_n c26_66 rfl ?_
  refine mE_lconst (x := 0) c26_67 rfl ?_
  by_cases e1 : l3 = 0
  · have w := w.pos e1
    refine mE_lcmp_ne_F (t := 76) c26_68 c26_69 rfl hl3 (r8_n rfl) e1 ?_
    refine mE_lconst (x := 0) c26_72 rfl ?_
    refine mE_goto (t := 79) c26_73 rfl ?_
    exact mE_lret c26_79 qr26 (r8_n rfl) ⟨rfl, w.osome⟩
  · have w := w.neg e1
    refine mE_lcmp_ne_T (t := 76) c26_68 c26_69 rfl hl3 (r8_n rfl) e1 ?_
    refine mE_lload_n c26_76 rfl ?_
    refine mE_lload_n c26_77 rfl ?_
    obtain ⟨g2, w⟩ := w.ogd
    refine mE_lremW c26_78 hl1 hl3 g2 ?_
    exact mE_lret c26_79 qr26 (r8_w8 _) ⟨rfl, w.osome⟩
noncomputable def f26 (x0 : Int) (l1 : Int) (l3 : Int) (M : Mm) : Option (Int) :=
  if x0 = 42 then
  (some (w8 (l1 * l3)))
  else
  (if x0 = 43 then
  (some (w8 (l1 + l3)))
  else
  (if x0 = 44 then
  (f26_66 l1 l3 M)
  else
  (if x0 = 45 then
  (some (w8 (l1 - l3)))
  else
  (if x0 = 46 then
  (f26_66 l1 l3 M)
  else
  (if x0 = 47 then
  (if l3 = 0 then
  (some 0)
  else
  (gd (¬ l3 = 0) (
  some (w8 (Int.tdiv l1 l3)))))
  else
  (f26_66 l1 l3 M))))))
theorem t26 {X : Nat × Nat × qC} {d : Nat} {x0 : Int} {l1 : Int} {l3 : Int} {M : Mm}  {R : Int → Prop} (hx0 : R4 x0) (hl1 : R8 l1) (hl3 : R8 l3) (w : Wp (f26 x0 l1 l3 M) R) : mE X (d + 0) 26 2 0 [some (.int (Int32.ofInt x0)), some (.long (Int64.ofInt l1)), none, some (.long (Int64.ofInt l3)), none] [] M (fun v M2 => M = M2 ∧ R v) := by
  refine mE_iload_n c26_0 rfl ?_
  by_cases e1 : x0 = 42
  · have w := w.pos e1
    refine mE_table (off := 47) (t := 48) c26_1 hx0 e1 (by decide) rfl rfl ?_
    refine mE_lload_n c26_48 rfl ?_
    refine mE_lload_n c26_49 rfl ?_
    refine mE_lmulW c26_50 ?_
    exact mE_lret c26_51 qr26 (r8_w8 _) ⟨rfl, w.osome⟩
  have w := w.neg e1
  by_cases e2 : x0 = 43
  · have w := w.pos e2
    refine mE_table (off := 39) (t := 40) c26_1 hx0 e2 (by decide) rfl rfl ?_
    refine mE_lload_n c26_40 rfl ?_
    refine mE_lload_n c26_41 rfl ?_
    refine mE_laddW c26_42 ?_
    exact mE_lret c26_43 qr26 (r8_w8 _) ⟨rfl, w.osome⟩
  have w := w.neg e2
  by_cases e3 : x0 = 44
  · have w := w.pos e3
    refine mE_table (off := 65) (t := 66) c26_1 hx0 e3 (by decide) rfl rfl ?_
    exact t26_66 hl1 hl3 w
  have w := w.neg e3
  by_cases e4 : x0 = 45
  · have w := w.pos e4
    refine mE_table (off := 43) (t := 44) c26_1 hx0 e4 (by decide) rfl rfl ?_
    refine mE_lload_n c26_44 rfl ?_
    refine mE_lload_n c26_45 rfl ?_
    refine mE_lsubW c26_46 ?_
    exact mE_lret c26_47 qr26 (r8_w8 _) ⟨rfl, w.osome⟩
  have w := w.neg e4
  by_cases e5 : x0 = 46
  · have w := w.pos e5
    refine mE_table (off := 65) (t := 66) c26_1 hx0 e5 (by decide) rfl rfl ?_
    exact t26_66 hl1 hl3 w
  have w := w.neg e5
  by_cases e6 : x0 = 47
  · have w := w.pos e6
    refine mE_table (off := 51) (t := 52) c26_1 hx0 e6 (by decide) rfl rfl ?_
    refine mE_lload_n c26_52 rfl ?_
    refine mE_lconst (x := 0) c26_53 rfl ?_
    by_cases e7 : l3 = 0
    · have w := w.pos e7
      refine mE_lcmp_ne_F (t := 62) c26_54 c26_55 rfl hl3 (r8_n rfl) e7 ?_
      refine mE_lconst (x := 0) c26_58 rfl ?_
      refine mE_goto (t := 65) c26_59 rfl ?_
      exact mE_lret c26_65 qr26 (r8_n rfl) ⟨rfl, w.osome⟩
    · have w := w.neg e7
      refine mE_lcmp_ne_T (t := 62) c26_54 c26_55 rfl hl3 (r8_n rfl) e7 ?_
      refine mE_lload_n c26_62 rfl ?_
      refine mE_lload_n c26_63 rfl ?_
      obtain ⟨g8, w⟩ := w.ogd
      refine mE_ldivW c26_64 hl1 hl3 g8 ?_
      exact mE_lret c26_65 qr26 (r8_w8 _) ⟨rfl, w.osome⟩
  have w := w.neg e6
  refine mE_tableD (t := 66) c26_1 hx0 (by omega) rfl ?_
  exact t26_66 hl1 hl3 w
theorem s26 {X : Nat × Nat × qC} {d : Nat} {x0 : Int} {l1 : Int} {l3 : Int} {M : Mm} {R : Int → Prop} (hx0 : R4 x0) (hl1 : R8 l1) (hl3 : R8 l3) (w : Wp (f26 x0 l1 l3 M) R) : mC X (d + 1) 26 2 [.int (Int32.ofInt x0), .long (Int64.ofInt l1), .long (Int64.ofInt l3)] M (fun v M2 => M = M2 ∧ R v) :=
  mC_of (qent_mk qx26 rfl rfl rfl) (t26 hx0 hl1 hl3 w)
/-! SaggingNet$Text.holdsFrom -/
def E17_12 (X : Nat × Nat × qC) (d : Nat) (r0 : Nat) (x2 : Int) (R : Int × Mm → Prop) : Int × Int × Int × Int × Mm → Prop := fun s => R4 s.1 → R4 s.2.1 → R4 s.2.2.1 → R4 s.2.2.2.1 → ∀ (y1 : Int32), ∀ (o8 : Option Value), ∀ (o9 : Option Value), ∀ (o11 : Option Value), mE X (d + 1) 17 1 12 [some (.ref r0), some (.int y1), some (.int (Int32.ofInt x2)), some (.ref 97), some (.int (Int32.ofInt s.1)), some (.int (Int32.ofInt s.2.1)), some (.int (Int32.ofInt s.2.2.1)), some (.int (Int32.ofInt s.2.2.2.1)), o8, o9, none, o11, none] [] s.2.2.2.2 (fun v M2 => R (v, M2))
noncomputable def f17_342 (r0 : Nat) (x2 : Int) (x4 : Int) (x5 : Int) (x6 : Int) (x7 : Int) (M : Mm) : Option ((Int × Int × Int × Int × Mm) ⊕ (Int × Mm)) :=
  gd (R4 (x7 + 1)) (
  some (.inl (x4, x5, x6, (x7 + 1), M)))
theorem t17_342 {X : Nat × Nat × qC} {d : Nat} {r0 : Nat} {x2 : Int} {x4 : Int} {x5 : Int} {x6 : Int} {x7 : Int} {M : Mm} {y1 : Int32} {o8 : Option Value} {o9 : Option Value} {o11 : Option Value} {R : Int × Mm → Prop} (hr0 : isTx r0) (hx2 : R4 x2) (hx4 : R4 x4) (hx5 : R4 x5) (hx6 : R4 x6) (hx7 : R4 x7) (w : Wp (f17_342 r0 x2 x4 x5 x6 x7 M) (Sum.elim (E17_12 X d r0 x2 R) R)) : mE X (d + 1) 17 1 342 [some (.ref r0), some (.int y1), some (.int (Int32.ofInt x2)), some (.ref 97), some (.int (Int32.ofInt x4)), some (.int (Int32.ofInt x5)), some (.int (Int32.ofInt x6)), some (.int (Int32.ofInt x7)), o8, o9, none, o11, none] [] M (fun v M2 => R (v, M2)) := by
  obtain ⟨g1, w⟩ := w.ogd
  refine mE_iinc (ls2 := [some (.ref r0), some (.int y1), some (.int (Int32.ofInt x2)), some (.ref 97), some (.int (Int32.ofInt x4)), some (.int (Int32.ofInt x5)), some (.int (Int32.ofInt x6)), some (.int (Int32.ofInt (x7 + 1))), o8, o9, none, o11, none]) c17_342 rfl (Nat.le_of_ble_eq_true rfl) rfl ?_
  refine mE_goto (t := 12) c17_345 rfl ?_
  exact w.osome hx4 hx5 hx6 g1 _ _ _ _
noncomputable def f17_51 (r0 : Nat) (x2 : Int) (x4 : Int) (x5 : Int) (x6 : Int) (x7 : Int) (x8 : Int) (M : Mm) : Option ((Int × Int × Int × Int × Mm) ⊕ (Int × Mm)) :=
  if x6 < 32 then
  (if x8 = 48 then
  (gd (0 ≤ x7 ∧ x7 < 320) (
  gd (0 ≤ x6 ∧ x6 < 32) (
  mlet (ms M (r0 + 6) (x6).toNat (M (r0 + 3) (x7).toNat)) fun M6 =>
  gd (R4 (x6 + 1)) (
  f17_342 r0 x2 x4 x5 (x6 + 1) x7 M6))))
  else
  (gd (0 ≤ x7 ∧ x7 < 320) (
  gd (0 ≤ (M (r0 + 3) (x7).toNat) ∧ (M (r0 + 3) (x7).toNat) < 11) (
  gd (0 ≤ x6 ∧ x6 < 32) (
  mlet (ms M (r0 + 6) (x6).toNat (M 97 ((M (r0 + 3) (x7).toNat)).toNat)) fun M8 =>
  gd (R4 (x6 + 1)) (
  f17_342 r0 x2 x4 x5 (x6 + 1) x7 M8))))))
  else
  (oinr (some (0, M)))
theorem t17_51 {X : Nat × Nat × qC} {d : Nat} {r0 : Nat} {x2 : Int} {x4 : Int} {x5 : Int} {x6 : Int} {x7 : Int} {x8 : Int} {M : Mm} {y1 : Int32} {o9 : Option Value} {o11 : Option Value} {R : Int × Mm → Prop} (hr0 : isTx r0) (hx2 : R4 x2) (hx4 : R4 x4) (hx5 : R4 x5) (hx6 : R4 x6) (hx7 : R4 x7) (hx8 : R4 x8) (w : Wp (f17_51 r0 x2 x4 x5 x6 x7 x8 M) (Sum.elim (E17_12 X d r0 x2 R) R)) : mE X (d + 1) 17 1 51 [some (.ref r0), some (.int y1), some (.int (Int32.ofInt x2)), some (.ref 97), some (.int (Int32.ofInt x4)), some (.int (Int32.ofInt x5)), some (.int (Int32.ofInt x6)), some (.int (Int32.ofInt x7)), some (.int (Int32.ofInt x8)), o9, none, o11, none] [] M (fun v M2 => R (v, M2)) := by
  refine mE_iload c17_51 rfl ?_
  refine mE_bipush (x := 32) c17_53 rfl ?_
  by_cases e1 : x6 < 32
  · have w := w.pos e1
    refine mE_icmp_lt_T (t := 60) c17_55 rfl hx6 (r4_n rfl) e1 ?_
    refine mE_aload_n c17_60 rfl ?_
    refine mE_getA c17_61 qo17 qF10_28 (ok_tx0 hr0) rfl (nz_tx hr0 _) ?_
    refine mE_iload c17_64 rfl ?_
    refine mE_iload c17_66 rfl ?_
    refine mE_bipush (x := 48) c17_68 rfl ?_
    by_cases e2 : x8 = 48
    · have w := w.pos e2
      refine mE_icmp_ne_F (t := 84) c17_70 rfl hx8 (r4_n rfl) e2 ?_
      refine mE_aload_n c17_73 rfl ?_
      refine mE_getA c17_74 qo17 qF10_18 (ok_tx0 hr0) rfl (nz_tx hr0 _) ?_
      refine mE_iload c17_77 rfl ?_
      obtain ⟨g3, w⟩ := w.ogd
      refine mE_iaload c17_79 (ok_tx3 hr0) hx7 g3 ?_
      intro u4
      refine mE_i2l c17_80 u4 ?_
      refine mE_goto (t := 93) c17_81 rfl ?_
      obtain ⟨g5, w⟩ := w.ogd
      obtain ⟨M6, m7, w⟩ := w.mlet
      refine mE_lastore c17_93 (ok_tx6 hr0) hx6 g5 (R4.to8 u4) ?_
      refine mE_M m7 ?_
      obtain ⟨g8, w⟩ := w.ogd
      refine mE_iinc (ls2 := [some (.ref r0), some (.int y1), some (.int (Int32.ofInt x2)), some (.ref 97), some (.int (Int32.ofInt x4)), some (.int (Int32.ofInt x5)), some (.int (Int32.ofInt (x6 + 1))), some (.int (Int32.ofInt x7)), some (.int (Int32.ofInt x8)), o9, none, o11, none]) c17_94 rfl (Nat.le_of_ble_eq_true rfl) rfl ?_
      refine mE_goto (t := 342) c17_97 rfl ?_
      exact t17_342 hr0 hx2 hx4 hx5 g8 hx7 w
    · have w := w.neg e2
      refine mE_icmp_ne_T (t := 84) c17_70 rfl hx8 (r4_n rfl) e2 ?_
      refine mE_aload_n c17_84 rfl ?_
      refine mE_aload_n c17_85 rfl ?_
      refine mE_getA c17_86 qo17 qF10_18 (ok_tx0 hr0) rfl (nz_tx hr0 _) ?_
      refine mE_iload c17_89 rfl ?_
      obtain ⟨g3, w⟩ := w.ogd
      refine mE_iaload c17_91 (ok_tx3 hr0) hx7 g3 ?_
      intro u4
      obtain ⟨g5, w⟩ := w.ogd
      refine mE_laload c17_92 (ok_lit rfl rfl rfl) u4 g5 ?_
      intro u6
      obtain ⟨g7, w⟩ := w.ogd
      obtain ⟨M8, m9, w⟩ := w.mlet
      refine mE_lastore c17_93 (ok_tx6 hr0) hx6 g7 u6 ?_
      refine mE_M m9 ?_
      obtain ⟨g10, w⟩ := w.ogd
      refine mE_iinc (ls2 := [some (.ref r0), some (.int y1), some (.int (Int32.ofInt x2)), some (.ref 97), some (.int (Int32.ofInt x4)), some (.int (Int32.ofInt x5)), some (.int (Int32.ofInt (x6 + 1))), some (.int (Int32.ofInt x7)), some (.int (Int32.ofInt x8)), o9, none, o11, none]) c17_94 rfl (Nat.le_of_ble_eq_true rfl) rfl ?_
      refine mE_goto (t := 342) c17_97 rfl ?_
      exact t17_342 hr0 hx2 hx4 hx5 g10 hx7 w
  · have w := w.neg e1
    refine mE_icmp_lt_F (t := 60) c17_55 rfl hx6 (r4_n rfl) e1 ?_
    have w := w.oinr
    refine mE_iconst c17_58 ?_
    exact mE_zret c17_59 qr17 (Or.inl rfl) w.osome
noncomputable def f17_254 (r0 : Nat) (x2 : Int) (x5 : Int) (x6 : Int) (x7 : Int) (x8 : Int) (l9 : Int) (l11 : Int) (M : Mm) : Option ((Int × Int × Int × Int × Mm) ⊕ (Int × Mm)) :=
  if x8 = 60 then
  (if l11 < l9 then
  (gd (R4 (x6 + (-2))) (
  f17_342 r0 x2 1 x5 (x6 + (-2)) x7 M))
  else
  (gd (R4 (x6 + (-2))) (
  f17_342 r0 x2 0 x5 (x6 + (-2)) x7 M)))
  else
  (if x8 = 62 then
  (if l9 < l11 then
  (gd (R4 (x6 + (-2))) (
  f17_342 r0 x2 1 x5 (x6 + (-2)) x7 M))
  else
  (gd (R4 (x6 + (-2))) (
  f17_342 r0 x2 0 x5 (x6 + (-2)) x7 M)))
  else
  (if l11 = l9 then
  (gd (R4 (x6 + (-2))) (
  f17_342 r0 x2 1 x5 (x6 + (-2)) x7 M))
  else
  (gd (R4 (x6 + (-2))) (
  f17_342 r0 x2 0 x5 (x6 + (-2)) x7 M))))
theorem t17_254 {X : Nat × Nat × qC} {d : Nat} {r0 : Nat} {x2 : Int} {x5 : Int} {x6 : Int} {x7 : Int} {x8 : Int} {l9 : Int} {l11 : Int} {M : Mm} {y1 : Int32} {y4 : Int32} {R : Int × Mm → Prop} (hr0 : isTx r0) (hx2 : R4 x2) (hx5 : R4 x5) (hx6 : R4 x6) (hx7 : R4 x7) (hx8 : R4 x8) (hl9 : R8 l9) (hl11 : R8 l11) (w : Wp (f17_254 r0 x2 x5 x6 x7 x8 l9 l11 M) (Sum.elim (E17_12 X d r0 x2 R) R)) : mE X (d + 1) 17 1 254 [some (.ref r0), some (.int y1), some (.int (Int32.ofInt x2)), some (.ref 97), some (.int y4), some (.int (Int32.ofInt x5)), some (.int (Int32.ofInt x6)), some (.int (Int32.ofInt x7)), some (.int (Int32.ofInt x8)), some (.long (Int64.ofInt l9)), none, some (.long (Int64.ofInt l11)), none] [] M (fun v M2 => R (v, M2)) := by
  refine mE_iload c17_254 rfl ?_
  refine mE_bipush (x := 60) c17_256 rfl ?_
  by_cases e1 : x8 = 60
  · have w := w.pos e1
    refine mE_icmp_ne_F (t := 277) c17_258 rfl hx8 (r4_n rfl) e1 ?_
    refine mE_lload c17_261 rfl ?_
    refine mE_lload c17_263 rfl ?_
    by_cases e2 : l11 < l9
    · have w := w.pos e2
      refine mE_lcmp_ge_F (t := 273) c17_265 c17_266 rfl hl11 hl9 e2 ?_
      refine mE_iconst c17_269 ?_
      refine mE_goto (t := 313) c17_270 rfl ?_
      refine mE_istore (ls2 := [some (.ref r0), some (.int y1), some (.int (Int32.ofInt x2)), some (.ref 97), some (.int (Int32.ofInt 1)), some (.int (Int32.ofInt x5)), some (.int (Int32.ofInt x6)), some (.int (Int32.ofInt x7)), some (.int (Int32.ofInt x8)), some (.long (Int64.ofInt l9)), none, some (.long (Int64.ofInt l11)), none]) c17_313 (Nat.le_of_ble_eq_true rfl) rfl ?_
      obtain ⟨g3, w⟩ := w.ogd
      refine mE_iinc (ls2 := [some (.ref r0), some (.int y1), some (.int (Int32.ofInt x2)), some (.ref 97), some (.int (Int32.ofInt 1)), some (.int (Int32.ofInt x5)), some (.int (Int32.ofInt (x6 + (-2)))), some (.int (Int32.ofInt x7)), some (.int (Int32.ofInt x8)), some (.long (Int64.ofInt l9)), none, some (.long (Int64.ofInt l11)), none]) c17_315 rfl (Nat.le_of_ble_eq_true rfl) rfl ?_
      refine mE_goto (t := 342) c17_318 rfl ?_
      exact t17_342 hr0 hx2 (r4_n rfl) hx5 g3 hx7 w
    · have w := w.neg e2
      refine mE_lcmp_ge_T (t := 273) c17_265 c17_266 rfl hl11 hl9 e2 ?_
      refine mE_iconst c17_273 ?_
      refine mE_goto (t := 313) c17_274 rfl ?_
      refine mE_istore (ls2 := [some (.ref r0), some (.int y1), some (.int (Int32.ofInt x2)), some (.ref 97), some (.int (Int32.ofInt 0)), some (.int (Int32.ofInt x5)), some (.int (Int32.ofInt x6)), some (.int (Int32.ofInt x7)), some (.int (Int32.ofInt x8)), some (.long (Int64.ofInt l9)), none, some (.long (Int64.ofInt l11)), none]) c17_313 (Nat.le_of_ble_eq_true rfl) rfl ?_
      obtain ⟨g3, w⟩ := w.ogd
      refine mE_iinc (ls2 := [some (.ref r0), some (.int y1), some (.int (Int32.ofInt x2)), some (.ref 97), some (.int (Int32.ofInt 0)), some (.int (Int32.ofInt x5)), some (.int (Int32.ofInt (x6 + (-2)))), some (.int (Int32.ofInt x7)), some (.int (Int32.ofInt x8)), some (.long (Int64.ofInt l9)), none, some (.long (Int64.ofInt l11)), none]) c17_315 rfl (Nat.le_of_ble_eq_true rfl) rfl ?_
      refine mE_goto (t := 342) c17_318 rfl ?_
      exact t17_342 hr0 hx2 (r4_n rfl) hx5 g3 hx7 w
  · have w := w.neg e1
    refine mE_icmp_ne_T (t := 277) c17_258 rfl hx8 (r4_n rfl) e1 ?_
    refine mE_iload c17_277 rfl ?_
    refine mE_bipush (x := 62) c17_279 rfl ?_
    by_cases e2 : x8 = 62
    · have w := w.pos e2
      refine mE_icmp_ne_F (t := 300) c17_281 rfl hx8 (r4_n rfl) e2 ?_
      refine mE_lload c17_284 rfl ?_
      refine mE_lload c17_286 rfl ?_
      by_cases e3 : l9 < l11
      · have w := w.pos e3
        refine mE_lcmp_le_F (t := 296) c17_288 c17_289 rfl hl11 hl9 e3 ?_
        refine mE_iconst c17_292 ?_
        refine mE_goto (t := 313) c17_293 rfl ?_
        refine mE_istore (ls2 := [some (.ref r0), some (.int y1), some (.int (Int32.ofInt x2)), some (.ref 97), some (.int (Int32.ofInt 1)), some (.int (Int32.ofInt x5)), some (.int (Int32.ofInt x6)), some (.int (Int32.ofInt x7)), some (.int (Int32.ofInt x8)), some (.long (Int64.ofInt l9)), none, some (.long (Int64.ofInt l11)), none]) c17_313 (Nat.le_of_ble_eq_true rfl) rfl ?_
        obtain ⟨g4, w⟩ := w.ogd
        refine mE_iinc (ls2 := [some (.ref r0), some (.int y1), some (.int (Int32.ofInt x2)), some (.ref 97), some (.int (Int32.ofInt 1)), some (.int (Int32.ofInt x5)), some (.int (Int32.ofInt (x6 + (-2)))), some (.int (Int32.ofInt x7)), some (.int (Int32.ofInt x8)), some (.long (Int64.ofInt l9)), none, some (.long (Int64.ofInt l11)), none]) c17_315 rfl (Nat.le_of_ble_eq_true rfl) rfl ?_
        refine mE_goto (t := 342) c17_318 rfl ?_
        exact t17_342 hr0 hx2 (r4_n rfl) hx5 g4 hx7 w
      · have w := w.neg e3
        refine mE_lcmp_le_T (t := 296) c17_288 c17_289 rfl hl11 hl9 e3 ?_
        refine mE_iconst c17_296 ?_
        refine mE_goto (t := 313) c17_297 rfl ?_
        refine mE_istore (ls2 := [some (.ref r0), some (.int y1), some (.int (Int32.ofInt x2)), some (.ref 97), some (.int (Int32.ofInt 0)), some (.int (Int32.ofInt x5)), some (.int (Int32.ofInt x6)), some (.int (Int32.ofInt x7)), some (.int (Int32.ofInt x8)), some (.long (Int64.ofInt l9)), none, some (.long (Int64.ofInt l11)), none]) c17_313 (Nat.le_of_ble_eq_true rfl) rfl ?_
        obtain ⟨g4, w⟩ := w.ogd
        refine mE_iinc (ls2 := [some (.ref r0), some (.int y1), some (.int (Int32.ofInt x2)), some (.ref 97), some (.int (Int32.ofInt 0)), some (.int (Int32.ofInt x5)), some (.int (Int32.ofInt (x6 + (-2)))), some (.int (Int32.ofInt x7)), some (.int (Int32.ofInt x8)), some (.long (Int64.ofInt l9)), none, some (.long (Int64.ofInt l11)), none]) c17_315 rfl (Nat.le_of_ble_eq_true rfl) rfl ?_
        refine mE_goto (t := 342) c17_318 rfl ?_
        exact t17_342 hr0 hx2 (r4_n rfl) hx5 g4 hx7 w
    · have w := w.neg e2
      refine mE_icmp_ne_T (t := 300) c17_281 rfl hx8 (r4_n rfl) e2 ?_
      refine mE_lload c17_300 rfl ?_
      refine mE_lload c17_302 rfl ?_
      by_cases e3 : l11 = l9
      · have w := w.pos e3
        refine mE_lcmp_ne_F (t := 312) c17_304 c17_305 rfl hl11 hl9 e3 ?_
        refine mE_iconst c17_308 ?_
        refine mE_goto (t := 313) c17_309 rfl ?_
        refine mE_istore (ls2 := [some (.ref r0), some (.int y1), some (.int (Int32.ofInt x2)), some (.ref 97), some (.int (Int32.ofInt 1)), some (.int (Int32.ofInt x5)), some (.int (Int32.ofInt x6)), some (.int (Int32.ofInt x7)), some (.int (Int32.ofInt x8)), some (.long (Int64.ofInt l9)), none, some (.long (Int64.ofInt l11)), none]) c17_313 (Nat.le_of_ble_eq_true rfl) rfl ?_
        obtain ⟨g4, w⟩ := w.ogd
        refine mE_iinc (ls2 := [some (.ref r0), some (.int y1), some (.int (Int32.ofInt x2)), some (.ref 97), some (.int (Int32.ofInt 1)), some (.int (Int32.ofInt x5)), some (.int (Int32.ofInt (x6 + (-2)))), some (.int (Int32.ofInt x7)), some (.int (Int32.ofInt x8)), some (.long (Int64.ofInt l9)), none, some (.long (Int64.ofInt l11)), none]) c17_315 rfl (Nat.le_of_ble_eq_true rfl) rfl ?_
        refine mE_goto (t := 342) c17_318 rfl ?_
        exact t17_342 hr0 hx2 (r4_n rfl) hx5 g4 hx7 w
      · have w := w.neg e3
        refine mE_lcmp_ne_T (t := 312) c17_304 c17_305 rfl hl11 hl9 e3 ?_
        refine mE_iconst c17_312 ?_
        refine mE_istore (ls2 := [some (.ref r0), some (.int y1), some (.int (Int32.ofInt x2)), some (.ref 97), some (.int (Int32.ofInt 0)), some (.int (Int32.ofInt x5)), some (.int (Int32.ofInt x6)), some (.int (Int32.ofInt x7)), some (.int (Int32.ofInt x8)), some (.long (Int64.ofInt l9)), none, some (.long (Int64.ofInt l11)), none]) c17_313 (Nat.le_of_ble_eq_true rfl) rfl ?_
        obtain ⟨g4, w⟩ := w.ogd
        refine mE_iinc (ls2 := [some (.ref r0), some (.int y1), some (.int (Int32.ofInt x2)), some (.ref 97), some (.int (Int32.ofInt 0)), some (.int (Int32.ofInt x5)), some (.int (Int32.ofInt (x6 + (-2)))), some (.int (Int32.ofInt x7)), some (.int (Int32.ofInt x8)), some (.long (Int64.ofInt l9)), none, some (.long (Int64.ofInt l11)), none]) c17_315 rfl (Nat.le_of_ble_eq_true rfl) rfl ?_
        refine mE_goto (t := 342) c17_318 rfl ?_
        exact t17_342 hr0 hx2 (r4_n rfl) hx5 g4 hx7 w
noncomputable def f17_233 (r0 : Nat) (x2 : Int) (x4 : Int) (x5 : Int) (x6 : Int) (x7 : Int) (x8 : Int) (l9 : Int) (l11 : Int) (M : Mm) : Option ((Int × Int × Int × Int × Mm) ⊕ (Int × Mm)) :=
  if x8 = 60 then
  (f17_254 r0 x2 x5 x6 x7 x8 l9 l11 M)
  else
  (if x8 = 62 then
  (f17_254 r0 x2 x5 x6 x7 x8 l9 l11 M)
  else
  (if x8 = 61 then
  (f17_254 r0 x2 x5 x6 x7 x8 l9 l11 M)
  else
  (gd (R4 (x6 - 2)) (
  (f26 x8 l11 l9 M).bind fun v5 =>
  gd (0 ≤ (x6 - 2) ∧ (x6 - 2) < 32) (
  mlet (ms M (r0 + 6) ((x6 - 2)).toNat v5) fun M9 =>
  gd (R4 (x6 + (-1))) (
  f17_342 r0 x2 x4 x5 (x6 + (-1)) x7 M9))))))
theorem t17_233 {X : Nat × Nat × qC} {d : Nat} {r0 : Nat} {x2 : Int} {x4 : Int} {x5 : Int} {x6 : Int} {x7 : Int} {x8 : Int} {l9 : Int} {l11 : Int} {M : Mm} {y1 : Int32} {R : Int × Mm → Prop} (hr0 : isTx r0) (hx2 : R4 x2) (hx4 : R4 x4) (hx5 : R4 x5) (hx6 : R4 x6) (hx7 : R4 x7) (hx8 : R4 x8) (hl9 : R8 l9) (hl11 : R8 l11) (w : Wp (f17_233 r0 x2 x4 x5 x6 x7 x8 l9 l11 M) (Sum.elim (E17_12 X d r0 x2 R) R)) : mE X (d + 1) 17 1 233 [some (.ref r0), some (.int y1), some (.int (Int32.ofInt x2)), some (.ref 97), some (.int (Int32.ofInt x4)), some (.int (Int32.ofInt x5)), some (.int (Int32.ofInt x6)), some (.int (Int32.ofInt x7)), some (.int (Int32.ofInt x8)), some (.long (Int64.ofInt l9)), none, some (.long (Int64.ofInt l11)), none] [] M (fun v M2 => R (v, M2)) := by
  refine mE_iload c17_233 rfl ?_
  refine mE_bipush (x := 60) c17_235 rfl ?_
  by_cases e1 : x8 = 60
  · have w := w.pos e1
    refine mE_icmp_eq_T (t := 254) c17_237 rfl hx8 (r4_n rfl) e1 ?_
    exact t17_254 hr0 hx2 hx5 hx6 hx7 hx8 hl9 hl11 w
  · have w := w.neg e1
    refine mE_icmp_eq_F (t := 254) c17_237 rfl hx8 (r4_n rfl) e1 ?_
    refine mE_iload c17_240 rfl ?_
    refine mE_bipush (x := 62) c17_242 rfl ?_
    by_cases e2 : x8 = 62
    · have w := w.pos e2
      refine mE_icmp_eq_T (t := 254) c17_244 rfl hx8 (r4_n rfl) e2 ?_
      exact t17_254 hr0 hx2 hx5 hx6 hx7 hx8 hl9 hl11 w
    · have w := w.neg e2
      refine mE_icmp_eq_F (t := 254) c17_244 rfl hx8 (r4_n rfl) e2 ?_
      refine mE_iload c17_247 rfl ?_
      refine mE_bipush (x := 61) c17_249 rfl ?_
      by_cases e3 : x8 = 61
      · have w := w.pos e3
        refine mE_icmp_ne_F (t := 321) c17_251 rfl hx8 (r4_n rfl) e3 ?_
        exact t17_254 hr0 hx2 hx5 hx6 hx7 hx8 hl9 hl11 w
      · have w := w.neg e3
        refine mE_icmp_ne_T (t := 321) c17_251 rfl hx8 (r4_n rfl) e3 ?_
        refine mE_aload_n c17_321 rfl ?_
        refine mE_getA c17_322 qo17 qF10_28 (ok_tx0 hr0) rfl (nz_tx hr0 _) ?_
        refine mE_iload c17_325 rfl ?_
        refine mE_iconst c17_327 ?_
        obtain ⟨g4, w⟩ := w.ogd
        refine mE_isub c17_328 ?_
        refine mE_iload c17_329 rfl ?_
        refine mE_lload c17_331 rfl ?_
        refine mE_lload c17_333 rfl ?_
        refine mE_static2 (as := [.int (Int32.ofInt x8), .long (Int64.ofInt l11), .long (Int64.ofInt l9)]) (r := [.int (Int32.ofInt (x6 - 2)), .ref (r0 + 6)]) c17_335 qo17 (by decide) qK10_118 rfl rfl rfl (Nat.le_of_ble_eq_true rfl) (s26 (d := d + 0) hx8 hl11 hl9 w.obind) ?_
        rintro v5 _ q7 ⟨rfl, w⟩
        obtain ⟨g8, w⟩ := w.ogd
        obtain ⟨M9, m10, w⟩ := w.mlet
        refine mE_lastore c17_338 (ok_tx6 hr0) g4 g8 q7 ?_
        refine mE_M m10 ?_
        obtain ⟨g11, w⟩ := w.ogd
        refine mE_iinc (ls2 := [some (.ref r0), some (.int y1), some (.int (Int32.ofInt x2)), some (.ref 97), some (.int (Int32.ofInt x4)), some (.int (Int32.ofInt x5)), some (.int (Int32.ofInt (x6 + (-1)))), some (.int (Int32.ofInt x7)), some (.int (Int32.ofInt x8)), some (.long (Int64.ofInt l9)), none, some (.long (Int64.ofInt l11)), none]) c17_339 rfl (Nat.le_of_ble_eq_true rfl) rfl ?_
        exact t17_342 hr0 hx2 hx4 hx5 g11 hx7 w
noncomputable def lb17_12 (r0 : Nat) (x2 : Int) (x4 : Int) (x5 : Int) (x6 : Int) (x7 : Int) (M : Mm) : Option ((Int × Int × Int × Int × Mm) ⊕ (Int × Mm)) :=
  if x7 < x2 then
  (if x7 < x5 then
  (f17_342 r0 x2 x4 x5 x6 x7 M)
  else
  (gd (0 ≤ x7 ∧ x7 < 320) (
  if (M (r0 + 2) (x7).toNat) = 48 then
  (f17_51 r0 x2 x4 x5 x6 x7 (M (r0 + 2) (x7).toNat) M)
  else
  (if (M (r0 + 2) (x7).toNat) = 97 then
  (f17_51 r0 x2 x4 x5 x6 x7 (M (r0 + 2) (x7).toNat) M)
  else
  (if (M (r0 + 2) (x7).toNat) = 33 then
  (if x4 = 0 then
  (f17_342 r0 x2 1 x5 x6 x7 M)
  else
  (f17_342 r0 x2 0 x5 x6 x7 M))
  else
  (if (M (r0 + 2) (x7).toNat) = 38 then
  (if x4 = 0 then
  (f17_342 r0 x2 x4 (M (r0 + 3) (x7).toNat) x6 x7 M)
  else
  (f17_342 r0 x2 x4 x5 x6 x7 M))
  else
  (if (M (r0 + 2) (x7).toNat) = 124 then
  (if x4 = 0 then
  (f17_342 r0 x2 x4 x5 x6 x7 M)
  else
  (f17_342 r0 x2 x4 (M (r0 + 3) (x7).toNat) x6 x7 M))
  else
  (if x6 < 2 then
  (oinr (some (0, M)))
  else
  (gd (R4 (x6 - 1)) (
  gd (0 ≤ (x6 - 1) ∧ (x6 - 1) < 32) (
  gd (R4 (x6 - 2)) (
  gd (0 ≤ (x6 - 2) ∧ (x6 - 2) < 32) (
  if (M (r0 + 6) ((x6 - 1)).toNat) = 0 then
  (if (M (r0 + 2) (x7).toNat) = 47 then
  (oinr (some (0, M)))
  else
  (if (M (r0 + 2) (x7).toNat) = 37 then
  (oinr (some (0, M)))
  else
  (f17_233 r0 x2 x4 x5 x6 x7 (M (r0 + 2) (x7).toNat) (M (r0 + 6) ((x6 - 1)).toNat) (M (r0 + 6) ((x6 - 2)).toNat) M)))
  else
  (f17_233 r0 x2 x4 x5 x6 x7 (M (r0 + 2) (x7).toNat) (M (r0 + 6) ((x6 - 1)).toNat) (M (r0 + 6) ((x6 - 2)).toNat) M))))))))))))))
  else
  (oinr (gd (x4 = 0 ∨ x4 = 1) (
  some (x4, M))))
noncomputable def f17_12 (r0 : Nat) (x2 : Int) (x4 : Int) (x5 : Int) (x6 : Int) (x7 : Int) (M : Mm) : Option (Int × Mm) := lp (fun s : Int × Int × Int × Int × Mm => lb17_12 r0 x2 s.1 s.2.1 s.2.2.1 s.2.2.2.1 s.2.2.2.2) (x4, x5, x6, x7, M)
theorem tb17_12 {X : Nat × Nat × qC} {d : Nat} {r0 : Nat} {x2 : Int} {x4 : Int} {x5 : Int} {x6 : Int} {x7 : Int} {M : Mm} {y1 : Int32} {o8 : Option Value} {o9 : Option Value} {o11 : Option Value} {R : Int × Mm → Prop} (hr0 : isTx r0) (hx2 : R4 x2) (hx4 : R4 x4) (hx5 : R4 x5) (hx6 : R4 x6) (hx7 : R4 x7) (w : Wp (lb17_12 r0 x2 x4 x5 x6 x7 M) (Sum.elim (E17_12 X d r0 x2 R) R)) : mE X (d + 1) 17 1 12 [some (.ref r0), some (.int y1), some (.int (Int32.ofInt x2)), some (.ref 97), some (.int (Int32.ofInt x4)), some (.int (Int32.ofInt x5)), some (.int (Int32.ofInt x6)), some (.int (Int32.ofInt x7)), o8, o9, none, o11, none] [] M (fun v M2 => R (v, M2)) := by
  refine mE_iload c17_12 rfl ?_
  refine mE_iload_n c17_14 rfl ?_
  by_cases e1 : x7 < x2
  · have w := w.pos e1
    refine mE_icmp_ge_F (t := 348) c17_15 rfl hx7 hx2 e1 ?_
    refine mE_iload c17_18 rfl ?_
    refine mE_iload c17_20 rfl ?_
    by_cases e2 : x7 < x5
    · have w := w.pos e2
      refine mE_icmp_ge_F (t := 28) c17_22 rfl hx7 hx5 e2 ?_
      refine mE_goto (t := 342) c17_25 rfl ?_
      exact t17_342 hr0 hx2 hx4 hx5 hx6 hx7 w
    · have w := w.neg e2
      refine mE_icmp_ge_T (t := 28) c17_22 rfl hx7 hx5 e2 ?_
      refine mE_aload_n c17_28 rfl ?_
      refine mE_getA c17_29 qo17 qF10_15 (ok_tx0 hr0) rfl (nz_tx hr0 _) ?_
      refine mE_iload c17_32 rfl ?_
      obtain ⟨g3, w⟩ := w.ogd
      refine mE_iaload c17_34 (ok_tx2 hr0) hx7 g3 ?_
      intro u4
      refine mE_istore (ls2 := [some (.ref r0), some (.int y1), some (.int (Int32.ofInt x2)), some (.ref 97), some (.int (Int32.ofInt x4)), some (.int (Int32.ofInt x5)), some (.int (Int32.ofInt x6)), some (.int (Int32.ofInt x7)), some (.int (Int32.ofInt (M (r0 + 2) (x7).toNat))), o9, none, o11, none]) c17_35 (Nat.le_of_ble_eq_true rfl) rfl ?_
      refine mE_iload c17_37 rfl ?_
      refine mE_bipush (x := 48) c17_39 rfl ?_
      by_cases e5 : (M (r0 + 2) (x7).toNat) = 48
      · have w := w.pos e5
        refine mE_icmp_eq_T (t := 51) c17_41 rfl u4 (r4_n rfl) e5 ?_
        exact t17_51 hr0 hx2 hx4 hx5 hx6 hx7 u4 w
      · have w := w.neg e5
        refine mE_icmp_eq_F (t := 51) c17_41 rfl u4 (r4_n rfl) e5 ?_
        refine mE_iload c17_44 rfl ?_
        refine mE_bipush (x := 97) c17_46 rfl ?_
        by_cases e6 : (M (r0 + 2) (x7).toNat) = 97
        · have w := w.pos e6
          refine mE_icmp_ne_F (t := 100) c17_48 rfl u4 (r4_n rfl) e6 ?_
          exact t17_51 hr0 hx2 hx4 hx5 hx6 hx7 u4 w
        · have w := w.neg e6
          refine mE_icmp_ne_T (t := 100) c17_48 rfl u4 (r4_n rfl) e6 ?_
          refine mE_iload c17_100 rfl ?_
          refine mE_bipush (x := 33) c17_102 rfl ?_
          by_cases e7 : (M (r0 + 2) (x7).toNat) = 33
          · have w := w.pos e7
            refine mE_icmp_ne_F (t := 122) c17_104 rfl u4 (r4_n rfl) e7 ?_
            refine mE_iload c17_107 rfl ?_
            by_cases e8 : x4 = 0
            · have w := w.pos e8
              refine mE_if_ne_F (t := 116) c17_109 rfl hx4 e8 ?_
              refine mE_iconst c17_112 ?_
              refine mE_goto (t := 117) c17_113 rfl ?_
              refine mE_istore (ls2 := [some (.ref r0), some (.int y1), some (.int (Int32.ofInt x2)), some (.ref 97), some (.int (Int32.ofInt 1)), some (.int (Int32.ofInt x5)), some (.int (Int32.ofInt x6)), some (.int (Int32.ofInt x7)), some (.int (Int32.ofInt (M (r0 + 2) (x7).toNat))), o9, none, o11, none]) c17_117 (Nat.le_of_ble_eq_true rfl) rfl ?_
              refine mE_goto (t := 342) c17_119 rfl ?_
              exact t17_342 hr0 hx2 (r4_n rfl) hx5 hx6 hx7 w
            · have w := w.neg e8
              refine mE_if_ne_T (t := 116) c17_109 rfl hx4 e8 ?_
              refine mE_iconst c17_116 ?_
              refine mE_istore (ls2 := [some (.ref r0), some (.int y1), some (.int (Int32.ofInt x2)), some (.ref 97), some (.int (Int32.ofInt 0)), some (.int (Int32.ofInt x5)), some (.int (Int32.ofInt x6)), some (.int (Int32.ofInt x7)), some (.int (Int32.ofInt (M (r0 + 2) (x7).toNat))), o9, none, o11, none]) c17_117 (Nat.le_of_ble_eq_true rfl) rfl ?_
              refine mE_goto (t := 342) c17_119 rfl ?_
              exact t17_342 hr0 hx2 (r4_n rfl) hx5 hx6 hx7 w
          · have w := w.neg e7
            refine mE_icmp_ne_T (t := 122) c17_104 rfl u4 (r4_n rfl) e7 ?_
            refine mE_iload c17_122 rfl ?_
            refine mE_bipush (x := 38) c17_124 rfl ?_
            by_cases e8 : (M (r0 + 2) (x7).toNat) = 38
            · have w := w.pos e8
              refine mE_icmp_ne_F (t := 151) c17_126 rfl u4 (r4_n rfl) e8 ?_
              refine mE_iload c17_129 rfl ?_
              by_cases e9 : x4 = 0
              · have w := w.pos e9
                refine mE_if_eq_T (t := 139) c17_131 rfl hx4 e9 ?_
                refine mE_aload_n c17_139 rfl ?_
                refine mE_getA c17_140 qo17 qF10_18 (ok_tx0 hr0) rfl (nz_tx hr0 _) ?_
                refine mE_iload c17_143 rfl ?_
                refine mE_iaload c17_145 (ok_tx3 hr0) hx7 g3 ?_
                intro u10
                refine mE_istore (ls2 := [some (.ref r0), some (.int y1), some (.int (Int32.ofInt x2)), some (.ref 97), some (.int (Int32.ofInt x4)), some (.int (Int32.ofInt (M (r0 + 3) (x7).toNat))), some (.int (Int32.ofInt x6)), some (.int (Int32.ofInt x7)), some (.int (Int32.ofInt (M (r0 + 2) (x7).toNat))), o9, none, o11, none]) c17_146 (Nat.le_of_ble_eq_true rfl) rfl ?_
                refine mE_goto (t := 342) c17_148 rfl ?_
                exact t17_342 hr0 hx2 hx4 u10 hx6 hx7 w
              · have w := w.neg e9
                refine mE_if_eq_F (t := 139) c17_131 rfl hx4 e9 ?_
                refine mE_iload c17_134 rfl ?_
                refine mE_goto (t := 146) c17_136 rfl ?_
                refine mE_istore (ls2 := [some (.ref r0), some (.int y1), some (.int (Int32.ofInt x2)), some (.ref 97), some (.int (Int32.ofInt x4)), some (.int (Int32.ofInt x5)), some (.int (Int32.ofInt x6)), some (.int (Int32.ofInt x7)), some (.int (Int32.ofInt (M (r0 + 2) (x7).toNat))), o9, none, o11, none]) c17_146 (Nat.le_of_ble_eq_true rfl) rfl ?_
                refine mE_goto (t := 342) c17_148 rfl ?_
                exact t17_342 hr0 hx2 hx4 hx5 hx6 hx7 w
            · have w := w.neg e8
              refine mE_icmp_ne_T (t := 151) c17_126 rfl u4 (r4_n rfl) e8 ?_
              refine mE_iload c17_151 rfl ?_
              refine mE_bipush (x := 124) c17_153 rfl ?_
              by_cases e9 : (M (r0 + 2) (x7).toNat) = 124
              · have w := w.pos e9
                refine mE_icmp_ne_F (t := 180) c17_155 rfl u4 (r4_n rfl) e9 ?_
                refine mE_iload c17_158 rfl ?_
                by_cases e10 : x4 = 0
                · have w := w.pos e10
                  refine mE_if_eq_T (t := 173) c17_160 rfl hx4 e10 ?_
                  refine mE_iload c17_173 rfl ?_
                  refine mE_istore (ls2 := [some (.ref r0), some (.int y1), some (.int (Int32.ofInt x2)), some (.ref 97), some (.int (Int32.ofInt x4)), some (.int (Int32.ofInt x5)), some (.int (Int32.ofInt x6)), some (.int (Int32.ofInt x7)), some (.int (Int32.ofInt (M (r0 + 2) (x7).toNat))), o9, none, o11, none]) c17_175 (Nat.le_of_ble_eq_true rfl) rfl ?_
                  refine mE_goto (t := 342) c17_177 rfl ?_
                  exact t17_342 hr0 hx2 hx4 hx5 hx6 hx7 w
                · have w := w.neg e10
                  refine mE_if_eq_F (t := 173) c17_160 rfl hx4 e10 ?_
                  refine mE_aload_n c17_163 rfl ?_
                  refine mE_getA c17_164 qo17 qF10_18 (ok_tx0 hr0) rfl (nz_tx hr0 _) ?_
                  refine mE_iload c17_167 rfl ?_
                  refine mE_iaload c17_169 (ok_tx3 hr0) hx7 g3 ?_
                  intro u11
                  refine mE_goto (t := 175) c17_170 rfl ?_
                  refine mE_istore (ls2 := [some (.ref r0), some (.int y1), some (.int (Int32.ofInt x2)), some (.ref 97), some (.int (Int32.ofInt x4)), some (.int (Int32.ofInt (M (r0 + 3) (x7).toNat))), some (.int (Int32.ofInt x6)), some (.int (Int32.ofInt x7)), some (.int (Int32.ofInt (M (r0 + 2) (x7).toNat))), o9, none, o11, none]) c17_175 (Nat.le_of_ble_eq_true rfl) rfl ?_
                  refine mE_goto (t := 342) c17_177 rfl ?_
                  exact t17_342 hr0 hx2 hx4 u11 hx6 hx7 w
              · have w := w.neg e9
                refine mE_icmp_ne_T (t := 180) c17_155 rfl u4 (r4_n rfl) e9 ?_
                refine mE_iload c17_180 rfl ?_
                refine mE_iconst c17_182 ?_
                by_cases e10 : x6 < 2
                · have w := w.pos e10
                  refine mE_icmp_ge_F (t := 188) c17_183 rfl hx6 (r4_n rfl) e10 ?_
                  have w := w.oinr
                  refine mE_iconst c17_186 ?_
                  exact mE_zret c17_187 qr17 (Or.inl rfl) w.osome
                · have w := w.neg e10
                  refine mE_icmp_ge_T (t := 188) c17_183 rfl hx6 (r4_n rfl) e10 ?_
                  refine mE_aload_n c17_188 rfl ?_
                  refine mE_getA c17_189 qo17 qF10_28 (ok_tx0 hr0) rfl (nz_tx hr0 _) ?_
                  refine mE_iload c17_192 rfl ?_
                  refine mE_iconst c17_194 ?_
                  obtain ⟨g11, w⟩ := w.ogd
                  refine mE_isub c17_195 ?_
                  obtain ⟨g12, w⟩ := w.ogd
                  refine mE_laload c17_196 (ok_tx6 hr0) g11 g12 ?_
                  intro u13
                  refine mE_lstore (ls2 := [some (.ref r0), some (.int y1), some (.int (Int32.ofInt x2)), some (.ref 97), some (.int (Int32.ofInt x4)), some (.int (Int32.ofInt x5)), some (.int (Int32.ofInt x6)), some (.int (Int32.ofInt x7)), some (.int (Int32.ofInt (M (r0 + 2) (x7).toNat))), some (.long (Int64.ofInt (M (r0 + 6) ((x6 - 1)).toNat))), none, o11, none]) c17_197 (Nat.le_of_ble_eq_true rfl) rfl ?_
                  refine mE_aload_n c17_199 rfl ?_
                  refine mE_getA c17_200 qo17 qF10_28 (ok_tx0 hr0) rfl (nz_tx hr0 _) ?_
                  refine mE_iload c17_203 rfl ?_
                  refine mE_iconst c17_205 ?_
                  obtain ⟨g14, w⟩ := w.ogd
                  refine mE_isub c17_206 ?_
                  obtain ⟨g15, w⟩ := w.ogd
                  refine mE_laload c17_207 (ok_tx6 hr0) g14 g15 ?_
                  intro u16
                  refine mE_lstore (ls2 := [some (.ref r0), some (.int y1), some (.int (Int32.ofInt x2)), some (.ref 97), some (.int (Int32.ofInt x4)), some (.int (Int32.ofInt x5)), some (.int (Int32.ofInt x6)), some (.int (Int32.ofInt x7)), some (.int (Int32.ofInt (M (r0 + 2) (x7).toNat))), some (.long (Int64.ofInt (M (r0 + 6) ((x6 - 1)).toNat))), none, some (.long (Int64.ofInt (M (r0 + 6) ((x6 - 2)).toNat))), none]) c17_208 (Nat.le_of_ble_eq_true rfl) rfl ?_
                  refine mE_lload c17_210 rfl ?_
                  refine mE_lconst (x := 0) c17_212 rfl ?_
                  by_cases e17 : (M (r0 + 6) ((x6 - 1)).toNat) = 0
                  · have w := w.pos e17
                    refine mE_lcmp_ne_F (t := 233) c17_213 c17_214 rfl u13 (r8_n rfl) e17 ?_
                    refine mE_iload c17_217 rfl ?_
                    refine mE_bipush (x := 47) c17_219 rfl ?_
                    by_cases e18 : (M (r0 + 2) (x7).toNat) = 47
                    · have w := w.pos e18
                      refine mE_icmp_eq_T (t := 231) c17_221 rfl u4 (r4_n rfl) e18 ?_
                      have w := w.oinr
                      refine mE_iconst c17_231 ?_
                      exact mE_zret c17_232 qr17 (Or.inl rfl) w.osome
                    · have w := w.neg e18
                      refine mE_icmp_eq_F (t := 231) c17_221 rfl u4 (r4_n rfl) e18 ?_
                      refine mE_iload c17_224 rfl ?_
                      refine mE_bipush (x := 37) c17_226 rfl ?_
                      by_cases e19 : (M (r0 + 2) (x7).toNat) = 37
                      · have w := w.pos e19
                        refine mE_icmp_ne_F (t := 233) c17_228 rfl u4 (r4_n rfl) e19 ?_
                        have w := w.oinr
                        refine mE_iconst c17_231 ?_
                        exact mE_zret c17_232 qr17 (Or.inl rfl) w.osome
                      · have w := w.neg e19
                        refine mE_icmp_ne_T (t := 233) c17_228 rfl u4 (r4_n rfl) e19 ?_
                        exact t17_233 hr0 hx2 hx4 hx5 hx6 hx7 u4 u13 u16 w
                  · have w := w.neg e17
                    refine mE_lcmp_ne_T (t := 233) c17_213 c17_214 rfl u13 (r8_n rfl) e17 ?_
                    exact t17_233 hr0 hx2 hx4 hx5 hx6 hx7 u4 u13 u16 w
  · have w := w.neg e1
    refine mE_icmp_ge_T (t := 348) c17_15 rfl hx7 hx2 e1 ?_
    have w := w.oinr
    refine mE_iload c17_348 rfl ?_
    obtain ⟨g2, w⟩ := w.ogd
    exact mE_zret c17_350 qr17 g2 w.osome
theorem t17_12 {X : Nat × Nat × qC} {d : Nat} {r0 : Nat} {x2 : Int} {x4 : Int} {x5 : Int} {x6 : Int} {x7 : Int} {M : Mm} {y1 : Int32} {o8 : Option Value} {o9 : Option Value} {o11 : Option Value} {R : Int × Mm → Prop} (hr0 : isTx r0) (hx2 : R4 x2) (hx4 : R4 x4) (hx5 : R4 x5) (hx6 : R4 x6) (hx7 : R4 x7) (w : Wp (f17_12 r0 x2 x4 x5 x6 x7 M) R) : mE X (d + 1) 17 1 12 [some (.ref r0), some (.int y1), some (.int (Int32.ofInt x2)), some (.ref 97), some (.int (Int32.ofInt x4)), some (.int (Int32.ofInt x5)), some (.int (Int32.ofInt x6)), some (.int (Int32.ofInt x7)), o8, o9, none, o11, none] [] M (fun v M2 => R (v, M2)) :=
  Wp.olp (f := fun s : Int × Int × Int × Int × Mm => lb17_12 r0 x2 s.1 s.2.1 s.2.2.1 s.2.2.2.1 s.2.2.2.2) (s := (x4, x5, x6, x7, M)) (E := E17_12 X d r0 x2 R) w (fun s w hx4 hx5 hx6 hx7 _ _ _ _ => tb17_12 hr0 hx2 hx4 hx5 hx6 hx7 w) hx4 hx5 hx6 hx7 _ _ _ _
noncomputable def f17 (r0 : Nat) (x1 : Int) (x2 : Int) (M : Mm) : Option (Int × Mm) :=
  f17_12 r0 x2 0 x1 0 x1 M
theorem t17 {X : Nat × Nat × qC} {d : Nat} {r0 : Nat} {x1 : Int} {x2 : Int} {M : Mm}  {R : Int × Mm → Prop} (hr0 : isTx r0) (hx1 : R4 x1) (hx2 : R4 x2) (w : Wp (f17 r0 x1 x2 M) R) : mE X (d + 1) 17 1 0 [some (.ref r0), some (.int (Int32.ofInt x1)), some (.int (Int32.ofInt x2)), some (.ref 97), none, none, none, none, none, none, none, none, none] [] M (fun v M2 => R (v, M2)) := by
  refine mE_iconst c17_0 ?_
  refine mE_istore (ls2 := [some (.ref r0), some (.int (Int32.ofInt x1)), some (.int (Int32.ofInt x2)), some (.ref 97), some (.int (Int32.ofInt 0)), none, none, none, none, none, none, none, none]) c17_1 (Nat.le_of_ble_eq_true rfl) rfl ?_
  refine mE_iload_n c17_3 rfl ?_
  refine mE_istore (ls2 := [some (.ref r0), some (.int (Int32.ofInt x1)), some (.int (Int32.ofInt x2)), some (.ref 97), some (.int (Int32.ofInt 0)), some (.int (Int32.ofInt x1)), none, none, none, none, none, none, none]) c17_4 (Nat.le_of_ble_eq_true rfl) rfl ?_
  refine mE_iconst c17_6 ?_
  refine mE_istore (ls2 := [some (.ref r0), some (.int (Int32.ofInt x1)), some (.int (Int32.ofInt x2)), some (.ref 97), some (.int (Int32.ofInt 0)), some (.int (Int32.ofInt x1)), some (.int (Int32.ofInt 0)), none, none, none, none, none, none]) c17_7 (Nat.le_of_ble_eq_true rfl) rfl ?_
  refine mE_iload_n c17_9 rfl ?_
  refine mE_istore (ls2 := [some (.ref r0), some (.int (Int32.ofInt x1)), some (.int (Int32.ofInt x2)), some (.ref 97), some (.int (Int32.ofInt 0)), some (.int (Int32.ofInt x1)), some (.int (Int32.ofInt 0)), some (.int (Int32.ofInt x1)), none, none, none, none, none]) c17_10 (Nat.le_of_ble_eq_true rfl) rfl ?_
  exact t17_12 hr0 hx2 (r4_n rfl) hx1 (r4_n rfl) hx1 w
theorem s17 {X : Nat × Nat × qC} {d : Nat} {r0 : Nat} {x1 : Int} {x2 : Int} {M : Mm} {R : Int × Mm → Prop} (hr0 : isTx r0) (hx1 : R4 x1) (hx2 : R4 x2) (w : Wp (f17 r0 x1 x2 M) R) : mC X (d + 2) 17 1 [.ref r0, .int (Int32.ofInt x1), .int (Int32.ofInt x2), .ref 97] M (fun v M2 => R (v, M2)) :=
  mC_of (qent_mk qx17 rfl rfl rfl) (t17 hr0 hx1 hx2 w)
/-! SaggingNet$Text.holds -/
def E16_5 (X : Nat × Nat × qC) (d : Nat) (r0 : Nat) (x1 : Int) (R : Int × Mm → Prop) : Int × Int × Mm → Prop := fun s => R4 s.1 → R4 s.2.1 → mE X (d + 2) 16 1 5 [some (.ref r0), some (.int (Int32.ofInt x1)), some (.ref 97), some (.int (Int32.ofInt s.1)), some (.int (Int32.ofInt s.2.1))] [] s.2.2 (fun v M2 => R (v, M2))
noncomputable def f16_43 (r0 : Nat) (x1 : Int) (x4 : Int) (M : Mm) : Option ((Int × Int × Mm) ⊕ (Int × Mm)) :=
  gd (0 ≤ x4 ∧ x4 < 12) (
  gd (R4 (x4 + 1)) (
  some (.inl ((M (r0 + 4) (x4).toNat), (x4 + 1), M))))
theorem t16_43 {X : Nat × Nat × qC} {d : Nat} {r0 : Nat} {x1 : Int} {x4 : Int} {M : Mm} {y3 : Int32} {R : Int × Mm → Prop} (hr0 : isTx r0) (hx1 : R4 x1) (hx4 : R4 x4) (w : Wp (f16_43 r0 x1 x4 M) (Sum.elim (E16_5 X d r0 x1 R) R)) : mE X (d + 2) 16 1 43 [some (.ref r0), some (.int (Int32.ofInt x1)), some (.ref 97), some (.int y3), some (.int (Int32.ofInt x4))] [] M (fun v M2 => R (v, M2)) := by
  refine mE_aload_n c16_43 rfl ?_
  refine mE_getA c16_44 qo16 qF10_21 (ok_tx0 hr0) rfl (nz_tx hr0 _) ?_
  refine mE_iload c16_47 rfl ?_
  obtain ⟨g1, w⟩ := w.ogd
  refine mE_iaload c16_49 (ok_tx4 hr0) hx4 g1 ?_
  intro u2
  refine mE_istore_n (ls2 := [some (.ref r0), some (.int (Int32.ofInt x1)), some (.ref 97), some (.int (Int32.ofInt (M (r0 + 4) (x4).toNat))), some (.int (Int32.ofInt x4))]) c16_50 (Nat.le_of_ble_eq_true rfl) rfl ?_
  obtain ⟨g3, w⟩ := w.ogd
  refine mE_iinc (ls2 := [some (.ref r0), some (.int (Int32.ofInt x1)), some (.ref 97), some (.int (Int32.ofInt (M (r0 + 4) (x4).toNat))), some (.int (Int32.ofInt (x4 + 1)))]) c16_51 rfl (Nat.le_of_ble_eq_true rfl) rfl ?_
  refine mE_goto (t := 5) c16_54 rfl ?_
  exact w.osome u2 g3
noncomputable def lb16_5 (r0 : Nat) (x1 : Int) (x3 : Int) (x4 : Int) (M : Mm) : Option ((Int × Int × Mm) ⊕ (Int × Mm)) :=
  if x4 < (M r0 0) then
  (gd (0 ≤ x4 ∧ x4 < 12) (
  if (M (r0 + 5) (x4).toNat) = x1 then
  (obnd (f17 r0 x3 (M (r0 + 4) (x4).toNat) M) fun v7 M8 =>
  if v7 = 0 then
  (f16_43 r0 x1 x4 M8)
  else
  (oinr (some (1, M8))))
  else
  (f16_43 r0 x1 x4 M)))
  else
  (oinr (some (0, M)))
noncomputable def f16_5 (r0 : Nat) (x1 : Int) (x3 : Int) (x4 : Int) (M : Mm) : Option (Int × Mm) := lp (fun s : Int × Int × Mm => lb16_5 r0 x1 s.1 s.2.1 s.2.2) (x3, x4, M)
theorem tb16_5 {X : Nat × Nat × qC} {d : Nat} {r0 : Nat} {x1 : Int} {x3 : Int} {x4 : Int} {M : Mm}  {R : Int × Mm → Prop} (hr0 : isTx r0) (hx1 : R4 x1) (hx3 : R4 x3) (hx4 : R4 x4) (w : Wp (lb16_5 r0 x1 x3 x4 M) (Sum.elim (E16_5 X d r0 x1 R) R)) : mE X (d + 2) 16 1 5 [some (.ref r0), some (.int (Int32.ofInt x1)), some (.ref 97), some (.int (Int32.ofInt x3)), some (.int (Int32.ofInt x4))] [] M (fun v M2 => R (v, M2)) := by
  refine mE_iload c16_5 rfl ?_
  refine mE_aload_n c16_7 rfl ?_
  refine mE_getI c16_8 qo16 qF10_48 (ok_tx0 hr0) rfl ?_
  intro u1
  by_cases e2 : x4 < (M r0 0)
  · have w := w.pos e2
    refine mE_icmp_ge_F (t := 57) c16_11 rfl hx4 u1 e2 ?_
    refine mE_aload_n c16_14 rfl ?_
    refine mE_getA c16_15 qo16 qF10_24 (ok_tx0 hr0) rfl (nz_tx hr0 _) ?_
    refine mE_iload c16_18 rfl ?_
    obtain ⟨g3, w⟩ := w.ogd
    refine mE_zaload c16_20 (ok_tx5 hr0) hx4 g3 ?_
    intro u4
    refine mE_iload_n c16_21 rfl ?_
    by_cases e5 : (M (r0 + 5) (x4).toNat) = x1
    · have w := w.pos e5
      refine mE_icmp_ne_F (t := 43) c16_22 rfl u4 hx1 e5 ?_
      refine mE_aload_n c16_25 rfl ?_
      refine mE_iload_n c16_26 rfl ?_
      refine mE_aload_n c16_27 rfl ?_
      refine mE_getA c16_28 qo16 qF10_21 (ok_tx0 hr0) rfl (nz_tx hr0 _) ?_
      refine mE_iload c16_31 rfl ?_
      refine mE_iaload c16_33 (ok_tx4 hr0) hx4 g3 ?_
      intro u6
      refine mE_aload_n c16_34 rfl ?_
      refine mE_virtual1 (b := r0) (as := [.int (Int32.ofInt x3), .int (Int32.ofInt (M (r0 + 4) (x4).toNat)), .ref 97]) (r := []) c16_35 qo16 qK10_114 qo17 rfl rfl rfl (ok_tx0 hr0) (Nat.le_of_ble_eq_true rfl) (s17 (d := d + 0) hr0 hx3 u6 w.oc) ?_
      intro v7 M8 q9 w
      by_cases e10 : v7 = 0
      · have w := w.pos e10
        refine mE_if_eq_T (t := 43) c16_38 rfl q9 e10 ?_
        exact t16_43 hr0 hx1 hx4 w
      · have w := w.neg e10
        refine mE_if_eq_F (t := 43) c16_38 rfl q9 e10 ?_
        have w := w.oinr
        refine mE_iconst c16_41 ?_
        exact mE_zret c16_42 qr16 (Or.inr rfl) w.osome
    · have w := w.neg e5
      refine mE_icmp_ne_T (t := 43) c16_22 rfl u4 hx1 e5 ?_
      exact t16_43 hr0 hx1 hx4 w
  · have w := w.neg e2
    refine mE_icmp_ge_T (t := 57) c16_11 rfl hx4 u1 e2 ?_
    have w := w.oinr
    refine mE_iconst c16_57 ?_
    exact mE_zret c16_58 qr16 (Or.inl rfl) w.osome
theorem t16_5 {X : Nat × Nat × qC} {d : Nat} {r0 : Nat} {x1 : Int} {x3 : Int} {x4 : Int} {M : Mm}  {R : Int × Mm → Prop} (hr0 : isTx r0) (hx1 : R4 x1) (hx3 : R4 x3) (hx4 : R4 x4) (w : Wp (f16_5 r0 x1 x3 x4 M) R) : mE X (d + 2) 16 1 5 [some (.ref r0), some (.int (Int32.ofInt x1)), some (.ref 97), some (.int (Int32.ofInt x3)), some (.int (Int32.ofInt x4))] [] M (fun v M2 => R (v, M2)) :=
  Wp.olp (f := fun s : Int × Int × Mm => lb16_5 r0 x1 s.1 s.2.1 s.2.2) (s := (x3, x4, M)) (E := E16_5 X d r0 x1 R) w (fun s w hx3 hx4 => tb16_5 hr0 hx1 hx3 hx4 w) hx3 hx4
noncomputable def f16 (r0 : Nat) (x1 : Int) (M : Mm) : Option (Int × Mm) :=
  f16_5 r0 x1 0 0 M
theorem t16 {X : Nat × Nat × qC} {d : Nat} {r0 : Nat} {x1 : Int} {M : Mm}  {R : Int × Mm → Prop} (hr0 : isTx r0) (hx1 : R4 x1) (w : Wp (f16 r0 x1 M) R) : mE X (d + 2) 16 1 0 [some (.ref r0), some (.int (Int32.ofInt x1)), some (.ref 97), none, none] [] M (fun v M2 => R (v, M2)) := by
  refine mE_iconst c16_0 ?_
  refine mE_istore_n (ls2 := [some (.ref r0), some (.int (Int32.ofInt x1)), some (.ref 97), some (.int (Int32.ofInt 0)), none]) c16_1 (Nat.le_of_ble_eq_true rfl) rfl ?_
  refine mE_iconst c16_2 ?_
  refine mE_istore (ls2 := [some (.ref r0), some (.int (Int32.ofInt x1)), some (.ref 97), some (.int (Int32.ofInt 0)), some (.int (Int32.ofInt 0))]) c16_3 (Nat.le_of_ble_eq_true rfl) rfl ?_
  exact t16_5 hr0 hx1 (r4_n rfl) (r4_n rfl) w
theorem s16 {X : Nat × Nat × qC} {d : Nat} {r0 : Nat} {x1 : Int} {M : Mm} {R : Int × Mm → Prop} (hr0 : isTx r0) (hx1 : R4 x1) (w : Wp (f16 r0 x1 M) R) : mC X (d + 3) 16 1 [.ref r0, .int (Int32.ofInt x1), .ref 97] M (fun v M2 => R (v, M2)) :=
  mC_of (qent_mk qx16 rfl rfl rfl) (t16 hr0 hx1 w)
/-! SaggingNet$Text.endClause -/
noncomputable def f250 (r0 : Nat) (M : Mm) : Option (Mm) :=
  if (M r0 0) < 12 then
  (gd (0 ≤ (M r0 0) ∧ (M r0 0) < 12) (
  gd ((M r0 5) = 0 ∨ (M r0 5) = 1) (
  mlet (ms M (r0 + 5) ((M r0 0)).toNat (M r0 5)) fun M7 =>
  gd (0 ≤ (M7 r0 0) ∧ (M7 r0 0) < 12) (
  mlet (ms M7 (r0 + 4) ((M7 r0 0)).toNat (M7 r0 2)) fun M12 =>
  gd (R4 ((M12 r0 0) + 1)) (
  mlet (ms M12 r0 0 ((M12 r0 0) + 1)) fun M16 =>
  some M16)))))
  else
  (some M)
theorem t250 {X : Nat × Nat × qC} {d : Nat} {r0 : Nat} {M : Mm}  {R : Mm → Prop} (hr0 : isTx r0) (w : Wp (f250 r0 M) R) : mE X (d + 0) 250 0 0 [some (.ref r0)] [] M (fun v M2 => R M2) := by
  refine mE_aload_n c250_0 rfl ?_
  refine mE_getI c250_1 qo250 qF10_48 (ok_tx0 hr0) rfl ?_
  intro u1
  refine mE_bipush (x := 12) c250_4 rfl ?_
  by_cases e2 : (M r0 0) < 12
  · have w := w.pos e2
    refine mE_icmp_ge_F (t := 45) c250_6 rfl u1 (r4_n rfl) e2 ?_
    refine mE_aload_n c250_9 rfl ?_
    refine mE_getA c250_10 qo250 qF10_24 (ok_tx0 hr0) rfl (nz_tx hr0 _) ?_
    refine mE_aload_n c250_13 rfl ?_
    refine mE_getI c250_14 qo250 qF10_48 (ok_tx0 hr0) rfl ?_
    intro u3
    refine mE_aload_n c250_17 rfl ?_
    refine mE_getI c250_18 qo250 qF10_81 (ok_tx0 hr0) rfl ?_
    intro u4
    obtain ⟨g5, w⟩ := w.ogd
    obtain ⟨g6, w⟩ := w.ogd
    obtain ⟨M7, m8, w⟩ := w.mlet
    refine mE_zastore c250_21 (ok_tx5 hr0) u3 g5 g6 ?_
    refine mE_M m8 ?_
    refine mE_aload_n c250_22 rfl ?_
    refine mE_getA c250_23 qo250 qF10_21 (ok_tx0 hr0) rfl (nz_tx hr0 _) ?_
    refine mE_aload_n c250_26 rfl ?_
    refine mE_getI c250_27 qo250 qF10_48 (ok_tx0 hr0) rfl ?_
    intro u9
    refine mE_aload_n c250_30 rfl ?_
    refine mE_getI c250_31 qo250 qF10_54 (ok_tx0 hr0) rfl ?_
    intro u10
    obtain ⟨g11, w⟩ := w.ogd
    obtain ⟨M12, m13, w⟩ := w.mlet
    refine mE_iastore c250_34 (ok_tx4 hr0) u9 g11 u10 ?_
    refine mE_M m13 ?_
    refine mE_aload_n c250_35 rfl ?_
    refine mE_dup c250_36 rfl ?_
    refine mE_getI c250_37 qo250 qF10_48 (ok_tx0 hr0) rfl ?_
    intro u14
    refine mE_iconst c250_40 ?_
    obtain ⟨g15, w⟩ := w.ogd
    refine mE_iadd c250_41 ?_
    obtain ⟨M16, m17, w⟩ := w.mlet
    refine mE_putI c250_42 qo250 qF10_48 qz10_0 (ok_tx0 hr0) (Nat.le_of_ble_eq_true rfl) rfl g15 (by rw [qy10_0]; rfl) ?_
    refine mE_M m17 ?_
    exact mE_vret c250_45 qr250 w.osome
  · have w := w.neg e2
    refine mE_icmp_ge_T (t := 45) c250_6 rfl u1 (r4_n rfl) e2 ?_
    exact mE_vret c250_45 qr250 w.osome
theorem s250 {X : Nat × Nat × qC} {d : Nat} {r0 : Nat} {M : Mm} {R : Mm → Prop} (hr0 : isTx r0) (w : Wp (f250 r0 M) R) : mC X (d + 1) 250 0 [.ref r0] M (fun v M2 => R M2) :=
  mC_of (qent_mk qx250 rfl rfl rfl) (t250 hr0 w)
