/-! SaggingNet$Text.read -/
def E25_52 (X : Nat × Nat × qC) (d : Nat) (r0 : Nat) (R : Int × Mm → Prop) : Int × Mm → Prop := fun s => R4 s.1 → ∀ (y2 : Int32), mE X (d + 43) 25 1 52 [some (.ref r0), some (.ref 133), some (.int y2), some (.int (Int32.ofInt s.1))] [] s.2 (fun v M2 => R (v, M2))
noncomputable def lb25_52 (r0 : Nat) (x3 : Int) (M : Mm) : Option ((Int × Mm) ⊕ (Int × Mm)) :=
  if 12 < x3 then
  (oinr (some ((M r0 1), M)))
  else
  (obnd (f12 r0 M) fun v2 M3 =>
  if v2 = 0 then
  (oinr (some ((M3 r0 1), M3)))
  else
  (obnd (f29 r0 40 M3) fun v6 M7 =>
  if v6 = 0 then
  (oinr (some ((M7 r0 1), M7)))
  else
  (obnd (fRec 40 0 r0 1 M7) fun v10 M11 =>
  if v10 = 0 then
  (oinr (some ((M11 r0 1), M11)))
  else
  (obnd (f29 r0 41 M11) fun v14 M15 =>
  if v14 = 0 then
  (oinr (some ((M15 r0 1), M15)))
  else
  ((f250 r0 M15).bind fun M19 =>
  if (M19 r0 3) = (M19 r0 4) then
  (oinr (some ((M19 r0 0), M19)))
  else
  (obnd (f29 r0 59 M19) fun v24 M25 =>
  if v24 = 0 then
  (oinr (some ((M25 r0 1), M25)))
  else
  (gd (R4 (x3 + 1)) (
  some (.inl ((x3 + 1), M25))))))))))
noncomputable def f25_52 (r0 : Nat) (x3 : Int) (M : Mm) : Option (Int × Mm) := lp (fun s : Int × Mm => lb25_52 r0 s.1 s.2) (x3, M)
theorem tb25_52 {X : Nat × Nat × qC} {d : Nat} {r0 : Nat} {x3 : Int} {M : Mm} {y2 : Int32} {R : Int × Mm → Prop} (hr0 : isTx r0) (hx3 : R4 x3) (w : Wp (lb25_52 r0 x3 M) (Sum.elim (E25_52 X d r0 R) R)) : mE X (d + 43) 25 1 52 [some (.ref r0), some (.ref 133), some (.int y2), some (.int (Int32.ofInt x3))] [] M (fun v M2 => R (v, M2)) := by
  refine mE_iload_n c25_52 rfl ?_
  refine mE_bipush (x := 12) c25_53 rfl ?_
  by_cases e1 : 12 < x3
  · have w := w.pos e1
    refine mE_icmp_gt_T (t := 136) c25_55 rfl hx3 (r4_n rfl) e1 ?_
    have w := w.oinr
    refine mE_aload_n c25_136 rfl ?_
    refine mE_getI c25_137 qo25 qF10_51 (ok_tx0 hr0) rfl ?_
    intro u2
    exact mE_iret c25_140 qr25 u2 w.osome
  · have w := w.neg e1
    refine mE_icmp_gt_F (t := 136) c25_55 rfl hx3 (r4_n rfl) e1 ?_
    refine mE_aload_n c25_58 rfl ?_
    refine mE_virtual1 (b := r0) (as := []) (r := []) c25_59 qo25 qK10_60 qo12 rfl rfl rfl (ok_tx0 hr0) (Nat.le_of_ble_eq_true rfl) (s12 (d := d + 41) hr0 w.oc) ?_
    intro v2 M3 q4 w
    by_cases e5 : v2 = 0
    · have w := w.pos e5
      refine mE_if_eq_T (t := 91) c25_62 rfl q4 e5 ?_
      have w := w.oinr
      refine mE_aload_n c25_91 rfl ?_
      refine mE_getI c25_92 qo25 qF10_51 (ok_tx0 hr0) rfl ?_
      intro u6
      exact mE_iret c25_95 qr25 u6 w.osome
    · have w := w.neg e5
      refine mE_if_eq_F (t := 91) c25_62 rfl q4 e5 ?_
      refine mE_aload_n c25_65 rfl ?_
      refine mE_bipush (x := 40) c25_66 rfl ?_
      refine mE_virtual1 (b := r0) (as := [.int (Int32.ofInt 40)]) (r := []) c25_68 qo25 qK10_64 qo29 rfl rfl rfl (ok_tx0 hr0) (Nat.le_of_ble_eq_true rfl) (s29 (d := d + 41) hr0 (r4_n rfl) w.oc) ?_
      intro v6 M7 q8 w
      by_cases e9 : v6 = 0
      · have w := w.pos e9
        refine mE_if_eq_T (t := 91) c25_71 rfl q8 e9 ?_
        have w := w.oinr
        refine mE_aload_n c25_91 rfl ?_
        refine mE_getI c25_92 qo25 qF10_51 (ok_tx0 hr0) rfl ?_
        intro u10
        exact mE_iret c25_95 qr25 u10 w.osome
      · have w := w.neg e9
        refine mE_if_eq_F (t := 91) c25_71 rfl q8 e9 ?_
        refine mE_aload_n c25_74 rfl ?_
        refine mE_iconst c25_75 ?_
        refine mE_virtual1 (b := r0) (as := [.int (Int32.ofInt 1)]) (r := []) c25_76 qo25 qK10_68 qo13 rfl rfl rfl (ok_tx0 hr0) (Nat.le_of_ble_eq_true rfl) (sRec (d := d + 0) 40 0 _ _ _ _ hr0 (r4_n rfl) w.oc) ?_
        intro v10 M11 q12 w
        by_cases e13 : v10 = 0
        · have w := w.pos e13
          refine mE_if_eq_T (t := 91) c25_79 rfl q12 e13 ?_
          have w := w.oinr
          refine mE_aload_n c25_91 rfl ?_
          refine mE_getI c25_92 qo25 qF10_51 (ok_tx0 hr0) rfl ?_
          intro u14
          exact mE_iret c25_95 qr25 u14 w.osome
        · have w := w.neg e13
          refine mE_if_eq_F (t := 91) c25_79 rfl q12 e13 ?_
          refine mE_aload_n c25_82 rfl ?_
          refine mE_bipush (x := 41) c25_83 rfl ?_
          refine mE_virtual1 (b := r0) (as := [.int (Int32.ofInt 41)]) (r := []) c25_85 qo25 qK10_64 qo29 rfl rfl rfl (ok_tx0 hr0) (Nat.le_of_ble_eq_true rfl) (s29 (d := d + 41) hr0 (r4_n rfl) w.oc) ?_
          intro v14 M15 q16 w
          by_cases e17 : v14 = 0
          · have w := w.pos e17
            refine mE_if_ne_F (t := 96) c25_88 rfl q16 e17 ?_
            have w := w.oinr
            refine mE_aload_n c25_91 rfl ?_
            refine mE_getI c25_92 qo25 qF10_51 (ok_tx0 hr0) rfl ?_
            intro u18
            exact mE_iret c25_95 qr25 u18 w.osome
          · have w := w.neg e17
            refine mE_if_ne_T (t := 96) c25_88 rfl q16 e17 ?_
            refine mE_aload_n c25_96 rfl ?_
            refine mE_virtual0 (b := r0) (as := []) (r := []) c25_97 qo25 qK10_71 qo250 rfl rfl rfl (ok_tx0 hr0) (Nat.le_of_ble_eq_true rfl) (s250 (d := d + 42) hr0 w.obind) ?_
            intro _ M19 w
            refine mE_aload_n c25_100 rfl ?_
            refine mE_getI c25_101 qo25 qF10_57 (ok_tx0 hr0) rfl ?_
            intro u21
            refine mE_aload_n c25_104 rfl ?_
            refine mE_getI c25_105 qo25 qF10_38 (ok_tx0 hr0) rfl ?_
            intro u22
            by_cases e23 : (M19 r0 3) = (M19 r0 4)
            · have w := w.pos e23
              refine mE_icmp_ne_F (t := 116) c25_108 rfl u21 u22 e23 ?_
              have w := w.oinr
              refine mE_aload_n c25_111 rfl ?_
              refine mE_getI c25_112 qo25 qF10_48 (ok_tx0 hr0) rfl ?_
              intro u24
              exact mE_iret c25_115 qr25 u24 w.osome
            · have w := w.neg e23
              refine mE_icmp_ne_T (t := 116) c25_108 rfl u21 u22 e23 ?_
              refine mE_aload_n c25_116 rfl ?_
              refine mE_bipush (x := 59) c25_117 rfl ?_
              refine mE_virtual1 (b := r0) (as := [.int (Int32.ofInt 59)]) (r := []) c25_119 qo25 qK10_64 qo29 rfl rfl rfl (ok_tx0 hr0) (Nat.le_of_ble_eq_true rfl) (s29 (d := d + 41) hr0 (r4_n rfl) w.oc) ?_
              intro v24 M25 q26 w
              by_cases e27 : v24 = 0
              · have w := w.pos e27
                refine mE_if_ne_F (t := 130) c25_122 rfl q26 e27 ?_
                have w := w.oinr
                refine mE_aload_n c25_125 rfl ?_
                refine mE_getI c25_126 qo25 qF10_51 (ok_tx0 hr0) rfl ?_
                intro u28
                exact mE_iret c25_129 qr25 u28 w.osome
              · have w := w.neg e27
                refine mE_if_ne_T (t := 130) c25_122 rfl q26 e27 ?_
                obtain ⟨g28, w⟩ := w.ogd
                refine mE_iinc (ls2 := [some (.ref r0), some (.ref 133), some (.int y2), some (.int (Int32.ofInt (x3 + 1)))]) c25_130 rfl (Nat.le_of_ble_eq_true rfl) rfl ?_
                refine mE_goto (t := 52) c25_133 rfl ?_
                exact w.osome g28 _
theorem t25_52 {X : Nat × Nat × qC} {d : Nat} {r0 : Nat} {x3 : Int} {M : Mm} {y2 : Int32} {R : Int × Mm → Prop} (hr0 : isTx r0) (hx3 : R4 x3) (w : Wp (f25_52 r0 x3 M) R) : mE X (d + 43) 25 1 52 [some (.ref r0), some (.ref 133), some (.int y2), some (.int (Int32.ofInt x3))] [] M (fun v M2 => R (v, M2)) :=
  Wp.olp (f := fun s : Int × Mm => lb25_52 r0 s.1 s.2) (s := (x3, M)) (E := E25_52 X d r0 R) w (fun s w hx3 _ => tb25_52 hr0 hx3 w) hx3 _
noncomputable def f25 (r0 : Nat) (x2 : Int) (M : Mm) : Option (Int × Mm) :=
  (f6 200 160 M).bind fun v1 =>
  (f6 x2 v1 M).bind fun v4 =>
  mlet (ms M r0 4 v4) fun M7 =>
  gd (¬ 133 = (r0 + 1) ∧ (0 : Int) ≤ 0 ∧ (0 : Int) ≤ 0 ∧ (0 : Int) ≤ (M7 r0 4) ∧ (0 : Int) + (M7 r0 4) ≤ 200 ∧ (0 : Int) + (M7 r0 4) ≤ 160) (
  mlet (cpym M7 133 0 (r0 + 1) 0 ((M7 r0 4)).toNat) fun M11 =>
  mlet (ms M11 r0 0 0) fun M13 =>
  mlet (ms M13 r0 1 0) fun M15 =>
  mlet (ms M15 r0 2 0) fun M17 =>
  mlet (ms M17 r0 3 0) fun M19 =>
  f25_52 r0 0 M19)
theorem t25 {X : Nat × Nat × qC} {d : Nat} {r0 : Nat} {x2 : Int} {M : Mm}  {R : Int × Mm → Prop} (hr0 : isTx r0) (hx2 : R4 x2) (w : Wp (f25 r0 x2 M) R) : mE X (d + 43) 25 1 0 [some (.ref r0), some (.ref 133), some (.int (Int32.ofInt x2)), none] [] M (fun v M2 => R (v, M2)) := by
  refine mE_aload_n c25_0 rfl ?_
  refine mE_iload_n c25_1 rfl ?_
  refine mE_aload_n c25_2 rfl ?_
  refine mE_arraylength (x := 200) c25_3 (ok_lit rfl rfl rfl) rfl ?_
  refine mE_sipush (x := 160) c25_4 rfl ?_
  refine mE_static1 (as := [.int (Int32.ofInt 200), .int (Int32.ofInt 160)]) (r := [.int (Int32.ofInt x2), .ref r0]) c25_7 qo25 (by decide) qK10_32 rfl rfl rfl (Nat.le_of_ble_eq_true rfl) (s6 (d := d + 42) (r4_n rfl) (r4_n rfl) w.obind) ?_
  rintro v1 _ q3 ⟨rfl, w⟩
  refine mE_static1 (as := [.int (Int32.ofInt x2), .int (Int32.ofInt v1)]) (r := [.ref r0]) c25_10 qo25 (by decide) qK10_32 rfl rfl rfl (Nat.le_of_ble_eq_true rfl) (s6 (d := d + 42) hx2 q3 w.obind) ?_
  rintro v4 _ q6 ⟨rfl, w⟩
  obtain ⟨M7, m8, w⟩ := w.mlet
  refine mE_putI c25_13 qo25 qF10_38 qz10_4 (ok_tx0 hr0) (Nat.le_of_ble_eq_true rfl) rfl q6 (by rw [qy10_4]; rfl) ?_
  refine mE_M m8 ?_
  refine mE_aload_n c25_16 rfl ?_
  refine mE_iconst c25_17 ?_
  refine mE_aload_n c25_18 rfl ?_
  refine mE_getA c25_19 qo25 qF10_11 (ok_tx0 hr0) rfl (nz_tx hr0 _) ?_
  refine mE_iconst c25_22 ?_
  refine mE_aload_n c25_23 rfl ?_
  refine mE_getI c25_24 qo25 qF10_38 (ok_tx0 hr0) rfl ?_
  intro u9
  obtain ⟨g10, w⟩ := w.ogd
  obtain ⟨M11, m12, w⟩ := w.mlet
  refine mE_copy c25_27 (by rw [qo25]; decide) (ok_lit rfl rfl rfl) (ok_tx1 hr0) ⟨(r4_n rfl), (r4_n rfl), u9⟩ g10 (Nat.succ_pos _) (Nat.le_of_ble_eq_true rfl) ?_
  refine mE_M m12 ?_
  refine mE_aload_n c25_30 rfl ?_
  refine mE_iconst c25_31 ?_
  obtain ⟨M13, m14, w⟩ := w.mlet
  refine mE_putI c25_32 qo25 qF10_48 qz10_0 (ok_tx0 hr0) (Nat.le_of_ble_eq_true rfl) rfl (r4_n rfl) (by rw [qy10_0]; rfl) ?_
  refine mE_M m14 ?_
  refine mE_aload_n c25_35 rfl ?_
  refine mE_iconst c25_36 ?_
  obtain ⟨M15, m16, w⟩ := w.mlet
  refine mE_putI c25_37 qo25 qF10_51 qz10_1 (ok_tx0 hr0) (Nat.le_of_ble_eq_true rfl) rfl (r4_n rfl) (by rw [qy10_1]; rfl) ?_
  refine mE_M m16 ?_
  refine mE_aload_n c25_40 rfl ?_
  refine mE_iconst c25_41 ?_
  obtain ⟨M17, m18, w⟩ := w.mlet
  refine mE_putI c25_42 qo25 qF10_54 qz10_2 (ok_tx0 hr0) (Nat.le_of_ble_eq_true rfl) rfl (r4_n rfl) (by rw [qy10_2]; rfl) ?_
  refine mE_M m18 ?_
  refine mE_aload_n c25_45 rfl ?_
  refine mE_iconst c25_46 ?_
  obtain ⟨M19, m20, w⟩ := w.mlet
  refine mE_putI c25_47 qo25 qF10_57 qz10_3 (ok_tx0 hr0) (Nat.le_of_ble_eq_true rfl) rfl (r4_n rfl) (by rw [qy10_3]; rfl) ?_
  refine mE_M m20 ?_
  refine mE_iconst c25_50 ?_
  refine mE_istore_n (ls2 := [some (.ref r0), some (.ref 133), some (.int (Int32.ofInt x2)), some (.int (Int32.ofInt 0))]) c25_51 (Nat.le_of_ble_eq_true rfl) rfl ?_
  exact t25_52 hr0 (r4_n rfl) w
theorem s25 {X : Nat × Nat × qC} {d : Nat} {r0 : Nat} {x2 : Int} {M : Mm} {R : Int × Mm → Prop} (hr0 : isTx r0) (hx2 : R4 x2) (w : Wp (f25 r0 x2 M) R) : mC X (d + 44) 25 1 [.ref r0, .ref 133, .int (Int32.ofInt x2)] M (fun v M2 => R (v, M2)) :=
  mC_of (qent_mk qx25 rfl rfl rfl) (t25 hr0 hx2 w)
/-! SaggingNet$Net.hasWorks -/
noncomputable def f216 (x1 : Int) (M : Mm) : Option (Int) :=
  if x1 < 0 then
  (some 0)
  else
  (if x1 < (M 3 2) then
  (some 1)
  else
  (some 0))
theorem t216 {X : Nat × Nat × qC} {d : Nat} {x1 : Int} {M : Mm}  {R : Int → Prop} (hx1 : R4 x1) (w : Wp (f216 x1 M) R) : mE X (d + 0) 216 1 0 [some (.ref 3), some (.int (Int32.ofInt x1))] [] M (fun v M2 => M = M2 ∧ R v) := by
  refine mE_iload_n c216_0 rfl ?_
  by_cases e1 : x1 < 0
  · have w := w.pos e1
    refine mE_if_lt_T (t := 16) c216_1 rfl hx1 e1 ?_
    refine mE_iconst c216_16 ?_
    exact mE_zret c216_17 qr216 (Or.inl rfl) ⟨rfl, w.osome⟩
  · have w := w.neg e1
    refine mE_if_lt_F (t := 16) c216_1 rfl hx1 e1 ?_
    refine mE_iload_n c216_4 rfl ?_
    refine mE_aload_n c216_5 rfl ?_
    refine mE_getI c216_6 qo216 qF4_68 (ok_lit rfl rfl rfl) rfl ?_
    intro u2
    by_cases e3 : x1 < (M 3 2)
    · have w := w.pos e3
      refine mE_icmp_ge_F (t := 16) c216_9 rfl hx1 u2 e3 ?_
      refine mE_iconst c216_12 ?_
      refine mE_goto (t := 17) c216_13 rfl ?_
      exact mE_zret c216_17 qr216 (Or.inr rfl) ⟨rfl, w.osome⟩
    · have w := w.neg e3
      refine mE_icmp_ge_T (t := 16) c216_9 rfl hx1 u2 e3 ?_
      refine mE_iconst c216_16 ?_
      exact mE_zret c216_17 qr216 (Or.inl rfl) ⟨rfl, w.osome⟩
theorem s216 {X : Nat × Nat × qC} {d : Nat} {x1 : Int} {M : Mm} {R : Int → Prop} (hx1 : R4 x1) (w : Wp (f216 x1 M) R) : mC X (d + 1) 216 1 [.ref 3, .int (Int32.ofInt x1)] M (fun v M2 => M = M2 ∧ R v) :=
  mC_of (qent_mk qx216 rfl rfl rfl) (t216 hx1 w)
/-! SaggingNet$Beginning.reachedBy -/
def E195_5 (X : Nat × Nat × qC) (d : Nat) (x2 : Int) (M : Mm) (R : Int → Prop) : Int × Int → Prop := fun s => R4 s.1 → R4 s.2 → mE X (d + 0) 195 1 5 [some (.ref 125), some (.ref 3), some (.int (Int32.ofInt x2)), some (.int (Int32.ofInt s.1)), some (.int (Int32.ofInt s.2))] [] M (fun v M2 => M = M2 ∧ R v)
noncomputable def f195_41 (x2 : Int) (x3 : Int) (x4 : Int) (M : Mm) : Option ((Int × Int) ⊕ (Int)) :=
  gd (R4 (x4 + 1)) (
  some (.inl (x3, (x4 + 1))))
theorem t195_41 {X : Nat × Nat × qC} {d : Nat} {x2 : Int} {x3 : Int} {x4 : Int} {M : Mm}  {R : Int → Prop} (hx2 : R4 x2) (hx3 : R4 x3) (hx4 : R4 x4) (w : Wp (f195_41 x2 x3 x4 M) (Sum.elim (E195_5 X d x2 M R) R)) : mE X (d + 0) 195 1 41 [some (.ref 125), some (.ref 3), some (.int (Int32.ofInt x2)), some (.int (Int32.ofInt x3)), some (.int (Int32.ofInt x4))] [] M (fun v M2 => M = M2 ∧ R v) := by
  obtain ⟨g1, w⟩ := w.ogd
  refine mE_iinc (ls2 := [some (.ref 125), some (.ref 3), some (.int (Int32.ofInt x2)), some (.int (Int32.ofInt x3)), some (.int (Int32.ofInt (x4 + 1)))]) c195_41 rfl (Nat.le_of_ble_eq_true rfl) rfl ?_
  refine mE_goto (t := 5) c195_44 rfl ?_
  exact w.osome hx3 g1
noncomputable def lb195_5 (x2 : Int) (x3 : Int) (x4 : Int) (M : Mm) : Option ((Int × Int) ⊕ (Int)) :=
  if x4 < (M 3 2) then
  (if (bAnd (bShr x2 x4) 1) = 1 then
  (gd (0 ≤ x4 ∧ x4 < 9) (
  gd (0 ≤ (M 20 (x4).toNat) ∧ (M 20 (x4).toNat) < 8) (
  f195_41 x2 (bOr x3 (bShl 1 (M 131 ((M 20 (x4).toNat)).toNat))) x4 M)))
  else
  (f195_41 x2 x3 x4 M))
  else
  (oinr (some x3))
noncomputable def f195_5 (x2 : Int) (x3 : Int) (x4 : Int) (M : Mm) : Option (Int) := lp (fun s : Int × Int => lb195_5 x2 s.1 s.2 M) (x3, x4)
theorem tb195_5 {X : Nat × Nat × qC} {d : Nat} {x2 : Int} {x3 : Int} {x4 : Int} {M : Mm}  {R : Int → Prop} (hx2 : R4 x2) (hx3 : R4 x3) (hx4 : R4 x4) (w : Wp (lb195_5 x2 x3 x4 M) (Sum.elim (E195_5 X d x2 M R) R)) : mE X (d + 0) 195 1 5 [some (.ref 125), some (.ref 3), some (.int (Int32.ofInt x2)), some (.int (Int32.ofInt x3)), some (.int (Int32.ofInt x4))] [] M (fun v M2 => M = M2 ∧ R v) := by
  refine mE_iload c195_5 rfl ?_
  refine mE_aload_n c195_7 rfl ?_
  refine mE_getI c195_8 qo195 qF1_37 (ok_lit rfl rfl rfl) rfl ?_
  intro u1
  by_cases e2 : x4 < (M 3 2)
  · have w := w.pos e2
    refine mE_icmp_ge_F (t := 47) c195_11 rfl hx4 u1 e2 ?_
    refine mE_iload_n c195_14 rfl ?_
    refine mE_iload c195_15 rfl ?_
    refine mE_ishr c195_17 ?_
    refine mE_iconst c195_18 ?_
    refine mE_iand c195_19 ?_
    refine mE_iconst c195_20 ?_
    by_cases e3 : (bAnd (bShr x2 x4) 1) = 1
    · have w := w.pos e3
      refine mE_icmp_ne_F (t := 41) c195_21 rfl (r4_and _ _) (r4_n rfl) e3 ?_
      refine mE_iload_n c195_24 rfl ?_
      refine mE_iconst c195_25 ?_
      refine mE_aload_n c195_26 rfl ?_
      refine mE_getA c195_27 qo195 qF1_28 (ok_lit rfl rfl rfl) rfl ⟨by decide, by decide⟩ ?_
      refine mE_aload_n c195_30 rfl ?_
      refine mE_getA c195_31 qo195 qF1_60 (ok_lit rfl rfl rfl) rfl ⟨by decide, by decide⟩ ?_
      refine mE_iload c195_34 rfl ?_
      obtain ⟨g4, w⟩ := w.ogd
      refine mE_iaload c195_36 (ok_lit rfl rfl rfl) hx4 g4 ?_
      intro u5
      obtain ⟨g6, w⟩ := w.ogd
      refine mE_iaload c195_37 (ok_lit rfl rfl rfl) u5 g6 ?_
      intro u7
      refine mE_ishl c195_38 ?_
      refine mE_ior c195_39 ?_
      refine mE_istore_n (ls2 := [some (.ref 125), some (.ref 3), some (.int (Int32.ofInt x2)), some (.int (Int32.ofInt (bOr x3 (bShl 1 (M 131 ((M 20 (x4).toNat)).toNat))))), some (.int (Int32.ofInt x4))]) c195_40 (Nat.le_of_ble_eq_true rfl) rfl ?_
      exact t195_41 hx2 (r4_or _ _) hx4 w
    · have w := w.neg e3
      refine mE_icmp_ne_T (t := 41) c195_21 rfl (r4_and _ _) (r4_n rfl) e3 ?_
      exact t195_41 hx2 hx3 hx4 w
  · have w := w.neg e2
    refine mE_icmp_ge_T (t := 47) c195_11 rfl hx4 u1 e2 ?_
    have w := w.oinr
    refine mE_iload_n c195_47 rfl ?_
    exact mE_iret c195_48 qr195 hx3 ⟨rfl, w.osome⟩
theorem t195_5 {X : Nat × Nat × qC} {d : Nat} {x2 : Int} {x3 : Int} {x4 : Int} {M : Mm}  {R : Int → Prop} (hx2 : R4 x2) (hx3 : R4 x3) (hx4 : R4 x4) (w : Wp (f195_5 x2 x3 x4 M) R) : mE X (d + 0) 195 1 5 [some (.ref 125), some (.ref 3), some (.int (Int32.ofInt x2)), some (.int (Int32.ofInt x3)), some (.int (Int32.ofInt x4))] [] M (fun v M2 => M = M2 ∧ R v) :=
  Wp.olp (f := fun s : Int × Int => lb195_5 x2 s.1 s.2 M) (s := (x3, x4)) (E := E195_5 X d x2 M R) w (fun s w hx3 hx4 => tb195_5 hx2 hx3 hx4 w) hx3 hx4
noncomputable def f195 (x2 : Int) (M : Mm) : Option (Int) :=
  f195_5 x2 0 0 M
theorem t195 {X : Nat × Nat × qC} {d : Nat} {x2 : Int} {M : Mm}  {R : Int → Prop} (hx2 : R4 x2) (w : Wp (f195 x2 M) R) : mE X (d + 0) 195 1 0 [some (.ref 125), some (.ref 3), some (.int (Int32.ofInt x2)), none, none] [] M (fun v M2 => M = M2 ∧ R v) := by
  refine mE_iconst c195_0 ?_
  refine mE_istore_n (ls2 := [some (.ref 125), some (.ref 3), some (.int (Int32.ofInt x2)), some (.int (Int32.ofInt 0)), none]) c195_1 (Nat.le_of_ble_eq_true rfl) rfl ?_
  refine mE_iconst c195_2 ?_
  refine mE_istore (ls2 := [some (.ref 125), some (.ref 3), some (.int (Int32.ofInt x2)), some (.int (Int32.ofInt 0)), some (.int (Int32.ofInt 0))]) c195_3 (Nat.le_of_ble_eq_true rfl) rfl ?_
  exact t195_5 hx2 (r4_n rfl) (r4_n rfl) w
theorem s195 {X : Nat × Nat × qC} {d : Nat} {x2 : Int} {M : Mm} {R : Int → Prop} (hx2 : R4 x2) (w : Wp (f195 x2 M) R) : mC X (d + 1) 195 1 [.ref 125, .ref 3, .int (Int32.ofInt x2)] M (fun v M2 => M = M2 ∧ R v) :=
  mC_of (qent_mk qx195 rfl rfl rfl) (t195 hx2 w)
/-! SaggingNet$Beginning.unlitBy -/
def E197_64 (X : Nat × Nat × qC) (d : Nat) (r2 : Nat) (x4 : Int) (x5 : Int) (M : Mm) (R : Int → Prop) : Int × Int × Int → Prop := fun s => R4 s.1 → R4 s.2.1 → R4 s.2.2 → ∀ (y3 : Int32), ∀ (o9 : Option Value), ∀ (o10 : Option Value), mE X (d + 1) 197 1 64 [some (.ref 125), some (.ref 3), some (.ref r2), some (.int y3), some (.int (Int32.ofInt x4)), some (.int (Int32.ofInt x5)), some (.int (Int32.ofInt s.1)), some (.int (Int32.ofInt s.2.1)), some (.int (Int32.ofInt s.2.2)), o9, o10] [] M (fun v M2 => M = M2 ∧ R v)
def E197_6 (X : Nat × Nat × qC) (d : Nat) (r2 : Nat) (x3 : Int) (M : Mm) (R : Int → Prop) : Int × Int → Prop := fun s => R4 s.1 → R4 s.2 → mE X (d + 1) 197 1 6 [some (.ref 125), some (.ref 3), some (.ref r2), some (.int (Int32.ofInt x3)), some (.int (Int32.ofInt s.1)), some (.int (Int32.ofInt s.2)), none, none, none, none, none] [] M (fun v M2 => M = M2 ∧ R v)
noncomputable def f197_131 (r2 : Nat) (x4 : Int) (x5 : Int) (x6 : Int) (x7 : Int) (x8 : Int) (M : Mm) : Option ((Int × Int × Int) ⊕ (Int)) :=
  gd (R4 (x8 + 1)) (
  some (.inl (x6, x7, (x8 + 1))))
theorem t197_131 {X : Nat × Nat × qC} {d : Nat} {r2 : Nat} {x4 : Int} {x5 : Int} {x6 : Int} {x7 : Int} {x8 : Int} {M : Mm} {y3 : Int32} {y9 : Int32} {y10 : Int32} {R : Int → Prop} (hr2 : isSt X.1 r2) (hx4 : R4 x4) (hx5 : R4 x5) (hx6 : R4 x6) (hx7 : R4 x7) (hx8 : R4 x8) (w : Wp (f197_131 r2 x4 x5 x6 x7 x8 M) (Sum.elim (E197_64 X d r2 x4 x5 M R) R)) : mE X (d + 1) 197 1 131 [some (.ref 125), some (.ref 3), some (.ref r2), some (.int y3), some (.int (Int32.ofInt x4)), some (.int (Int32.ofInt x5)), some (.int (Int32.ofInt x6)), some (.int (Int32.ofInt x7)), some (.int (Int32.ofInt x8)), some (.int y9), some (.int y10)] [] M (fun v M2 => M = M2 ∧ R v) := by
  obtain ⟨g1, w⟩ := w.ogd
  refine mE_iinc (ls2 := [some (.ref 125), some (.ref 3), some (.ref r2), some (.int y3), some (.int (Int32.ofInt x4)), some (.int (Int32.ofInt x5)), some (.int (Int32.ofInt x6)), some (.int (Int32.ofInt x7)), some (.int (Int32.ofInt (x8 + 1))), some (.int y9), some (.int y10)]) c197_131 rfl (Nat.le_of_ble_eq_true rfl) rfl ?_
  refine mE_goto (t := 64) c197_134 rfl ?_
  exact w.osome hx6 hx7 g1 _ _ _
noncomputable def lb197_64 (r2 : Nat) (x4 : Int) (x5 : Int) (x6 : Int) (x7 : Int) (x8 : Int) (M : Mm) : Option ((Int × Int × Int) ⊕ (Int)) :=
  if x8 < (M 3 0) then
  (gd (0 ≤ x8 ∧ x8 < 8) (
  gd (0 ≤ (M 13 (x8).toNat) ∧ (M 13 (x8).toNat) < 8) (
  gd (R4 (x7 + (M (r2 + 1) ((M 13 (x8).toNat)).toNat))) (
  if (bAnd (bShr x5 (M 131 ((M 13 (x8).toNat)).toNat)) 1) = 1 then
  (gd (R4 (x6 + (M (r2 + 1) ((M 13 (x8).toNat)).toNat))) (
  if x4 < (x6 + (M (r2 + 1) ((M 13 (x8).toNat)).toNat)) then
  (f197_131 r2 x4 x5 x6 (x7 + (M (r2 + 1) ((M 13 (x8).toNat)).toNat)) x8 M)
  else
  (f197_131 r2 x4 x5 (x6 + (M (r2 + 1) ((M 13 (x8).toNat)).toNat)) (x7 + (M (r2 + 1) ((M 13 (x8).toNat)).toNat)) x8 M)))
  else
  (f197_131 r2 x4 x5 x6 (x7 + (M (r2 + 1) ((M 13 (x8).toNat)).toNat)) x8 M)))))
  else
  (oinr (gd (R4 (x7 - x6)) (
  some (x7 - x6))))
noncomputable def f197_64 (r2 : Nat) (x4 : Int) (x5 : Int) (x6 : Int) (x7 : Int) (x8 : Int) (M : Mm) : Option (Int) := lp (fun s : Int × Int × Int => lb197_64 r2 x4 x5 s.1 s.2.1 s.2.2 M) (x6, x7, x8)
theorem tb197_64 {X : Nat × Nat × qC} {d : Nat} {r2 : Nat} {x4 : Int} {x5 : Int} {x6 : Int} {x7 : Int} {x8 : Int} {M : Mm} {y3 : Int32} {o9 : Option Value} {o10 : Option Value} {R : Int → Prop} (hr2 : isSt X.1 r2) (hx4 : R4 x4) (hx5 : R4 x5) (hx6 : R4 x6) (hx7 : R4 x7) (hx8 : R4 x8) (w : Wp (lb197_64 r2 x4 x5 x6 x7 x8 M) (Sum.elim (E197_64 X d r2 x4 x5 M R) R)) : mE X (d + 1) 197 1 64 [some (.ref 125), some (.ref 3), some (.ref r2), some (.int y3), some (.int (Int32.ofInt x4)), some (.int (Int32.ofInt x5)), some (.int (Int32.ofInt x6)), some (.int (Int32.ofInt x7)), some (.int (Int32.ofInt x8)), o9, o10] [] M (fun v M2 => M = M2 ∧ R v) := by
  refine mE_iload c197_64 rfl ?_
  refine mE_aload_n c197_66 rfl ?_
  refine mE_getI c197_67 qo197 qF1_66 (ok_lit rfl rfl rfl) rfl ?_
  intro u1
  by_cases e2 : x8 < (M 3 0)
  · have w := w.pos e2
    refine mE_icmp_ge_F (t := 137) c197_70 rfl hx8 u1 e2 ?_
    refine mE_aload_n c197_73 rfl ?_
    refine mE_getA c197_74 qo197 qF1_69 (ok_lit rfl rfl rfl) rfl ⟨by decide, by decide⟩ ?_
    refine mE_iload c197_77 rfl ?_
    obtain ⟨g3, w⟩ := w.ogd
    refine mE_iaload c197_79 (ok_lit rfl rfl rfl) hx8 g3 ?_
    intro u4
    refine mE_istore (ls2 := [some (.ref 125), some (.ref 3), some (.ref r2), some (.int y3), some (.int (Int32.ofInt x4)), some (.int (Int32.ofInt x5)), some (.int (Int32.ofInt x6)), some (.int (Int32.ofInt x7)), some (.int (Int32.ofInt x8)), some (.int (Int32.ofInt (M 13 (x8).toNat))), o10]) c197_80 (Nat.le_of_ble_eq_true rfl) rfl ?_
    refine mE_aload_n c197_82 rfl ?_
    refine mE_getA c197_83 qo197 qF1_72 (ok_st0 hr2) rfl (nz_st hr2 _) ?_
    refine mE_iload c197_86 rfl ?_
    obtain ⟨g5, w⟩ := w.ogd
    refine mE_iaload c197_88 (ok_st1 hr2) u4 g5 ?_
    intro u6
    refine mE_istore (ls2 := [some (.ref 125), some (.ref 3), some (.ref r2), some (.int y3), some (.int (Int32.ofInt x4)), some (.int (Int32.ofInt x5)), some (.int (Int32.ofInt x6)), some (.int (Int32.ofInt x7)), some (.int (Int32.ofInt x8)), some (.int (Int32.ofInt (M 13 (x8).toNat))), some (.int (Int32.ofInt (M (r2 + 1) ((M 13 (x8).toNat)).toNat)))]) c197_89 (Nat.le_of_ble_eq_true rfl) rfl ?_
    refine mE_iload c197_91 rfl ?_
    refine mE_iload c197_93 rfl ?_
    obtain ⟨g7, w⟩ := w.ogd
    refine mE_iadd c197_95 ?_
    refine mE_istore (ls2 := [some (.ref 125), some (.ref 3), some (.ref r2), some (.int y3), some (.int (Int32.ofInt x4)), some (.int (Int32.ofInt x5)), some (.int (Int32.ofInt x6)), some (.int (Int32.ofInt (x7 + (M (r2 + 1) ((M 13 (x8).toNat)).toNat)))), some (.int (Int32.ofInt x8)), some (.int (Int32.ofInt (M 13 (x8).toNat))), some (.int (Int32.ofInt (M (r2 + 1) ((M 13 (x8).toNat)).toNat)))]) c197_96 (Nat.le_of_ble_eq_true rfl) rfl ?_
    refine mE_iload c197_98 rfl ?_
    refine mE_aload_n c197_100 rfl ?_
    refine mE_getA c197_101 qo197 qF1_28 (ok_lit rfl rfl rfl) rfl ⟨by decide, by decide⟩ ?_
    refine mE_iload c197_104 rfl ?_
    refine mE_iaload c197_106 (ok_lit rfl rfl rfl) u4 g5 ?_
    intro u8
    refine mE_ishr c197_107 ?_
    refine mE_iconst c197_108 ?_
    refine mE_iand c197_109 ?_
    refine mE_iconst c197_110 ?_
    by_cases e9 : (bAnd (bShr x5 (M 131 ((M 13 (x8).toNat)).toNat)) 1) = 1
    · have w := w.pos e9
      refine mE_icmp_ne_F (t := 131) c197_111 rfl (r4_and _ _) (r4_n rfl) e9 ?_
      refine mE_iload c197_114 rfl ?_
      refine mE_iload c197_116 rfl ?_
      obtain ⟨g10, w⟩ := w.ogd
      refine mE_iadd c197_118 ?_
      refine mE_iload c197_119 rfl ?_
      by_cases e11 : x4 < (x6 + (M (r2 + 1) ((M 13 (x8).toNat)).toNat))
      · have w := w.pos e11
        refine mE_icmp_gt_T (t := 131) c197_121 rfl g10 hx4 e11 ?_
        exact t197_131 hr2 hx4 hx5 hx6 g7 hx8 w
      · have w := w.neg e11
        refine mE_icmp_gt_F (t := 131) c197_121 rfl g10 hx4 e11 ?_
        refine mE_iload c197_124 rfl ?_
        refine mE_iload c197_126 rfl ?_
        refine mE_iadd c197_128 ?_
        refine mE_istore (ls2 := [some (.ref 125), some (.ref 3), some (.ref r2), some (.int y3), some (.int (Int32.ofInt x4)), some (.int (Int32.ofInt x5)), some (.int (Int32.ofInt (x6 + (M (r2 + 1) ((M 13 (x8).toNat)).toNat)))), some (.int (Int32.ofInt (x7 + (M (r2 + 1) ((M 13 (x8).toNat)).toNat)))), some (.int (Int32.ofInt x8)), some (.int (Int32.ofInt (M 13 (x8).toNat))), some (.int (Int32.ofInt (M (r2 + 1) ((M 13 (x8).toNat)).toNat)))]) c197_129 (Nat.le_of_ble_eq_true rfl) rfl ?_
        exact t197_131 hr2 hx4 hx5 g10 g7 hx8 w
    · have w := w.neg e9
      refine mE_icmp_ne_T (t := 131) c197_111 rfl (r4_and _ _) (r4_n rfl) e9 ?_
      exact t197_131 hr2 hx4 hx5 hx6 g7 hx8 w
  · have w := w.neg e2
    refine mE_icmp_ge_T (t := 137) c197_70 rfl hx8 u1 e2 ?_
    have w := w.oinr
    refine mE_iload c197_137 rfl ?_
    refine mE_iload c197_139 rfl ?_
    obtain ⟨g3, w⟩ := w.ogd
    refine mE_isub c197_141 ?_
    exact mE_iret c197_142 qr197 g3 ⟨rfl, w.osome⟩
theorem t197_64 {X : Nat × Nat × qC} {d : Nat} {r2 : Nat} {x4 : Int} {x5 : Int} {x6 : Int} {x7 : Int} {x8 : Int} {M : Mm} {y3 : Int32} {o9 : Option Value} {o10 : Option Value} {R : Int → Prop} (hr2 : isSt X.1 r2) (hx4 : R4 x4) (hx5 : R4 x5) (hx6 : R4 x6) (hx7 : R4 x7) (hx8 : R4 x8) (w : Wp (f197_64 r2 x4 x5 x6 x7 x8 M) R) : mE X (d + 1) 197 1 64 [some (.ref 125), some (.ref 3), some (.ref r2), some (.int y3), some (.int (Int32.ofInt x4)), some (.int (Int32.ofInt x5)), some (.int (Int32.ofInt x6)), some (.int (Int32.ofInt x7)), some (.int (Int32.ofInt x8)), o9, o10] [] M (fun v M2 => M = M2 ∧ R v) :=
  Wp.olp (f := fun s : Int × Int × Int => lb197_64 r2 x4 x5 s.1 s.2.1 s.2.2 M) (s := (x6, x7, x8)) (E := E197_64 X d r2 x4 x5 M R) w (fun s w hx6 hx7 hx8 _ _ _ => tb197_64 hr2 hx4 hx5 hx6 hx7 hx8 w) hx6 hx7 hx8 _ _ _
noncomputable def lb197_6 (r2 : Nat) (x3 : Int) (x4 : Int) (x5 : Int) (M : Mm) : Option ((Int × Int) ⊕ (Int)) :=
  if x5 < (M 3 2) then
  (if (bAnd (bShr x3 x5) 1) = 1 then
  (gd (0 ≤ x5 ∧ x5 < 9) (
  gd (R4 (x4 + (M 21 (x5).toNat))) (
  gd (R4 (x5 + 1)) (
  some (.inl ((x4 + (M 21 (x5).toNat)), (x5 + 1)))))))
  else
  (gd (R4 (x4 + 0)) (
  gd (R4 (x5 + 1)) (
  some (.inl ((x4 + 0), (x5 + 1)))))))
  else
  (oinr ((f195 x3 M).bind fun v3 =>
  f197_64 r2 x4 v3 0 0 0 M))
noncomputable def f197_6 (r2 : Nat) (x3 : Int) (x4 : Int) (x5 : Int) (M : Mm) : Option (Int) := lp (fun s : Int × Int => lb197_6 r2 x3 s.1 s.2 M) (x4, x5)
theorem tb197_6 {X : Nat × Nat × qC} {d : Nat} {r2 : Nat} {x3 : Int} {x4 : Int} {x5 : Int} {M : Mm}  {R : Int → Prop} (hr2 : isSt X.1 r2) (hx3 : R4 x3) (hx4 : R4 x4) (hx5 : R4 x5) (w : Wp (lb197_6 r2 x3 x4 x5 M) (Sum.elim (E197_6 X d r2 x3 M R) R)) : mE X (d + 1) 197 1 6 [some (.ref 125), some (.ref 3), some (.ref r2), some (.int (Int32.ofInt x3)), some (.int (Int32.ofInt x4)), some (.int (Int32.ofInt x5)), none, none, none, none, none] [] M (fun v M2 => M = M2 ∧ R v) := by
  refine mE_iload c197_6 rfl ?_
  refine mE_aload_n c197_8 rfl ?_
  refine mE_getI c197_9 qo197 qF1_37 (ok_lit rfl rfl rfl) rfl ?_
  intro u1
  by_cases e2 : x5 < (M 3 2)
  · have w := w.pos e2
    refine mE_icmp_ge_F (t := 47) c197_12 rfl hx5 u1 e2 ?_
    refine mE_iload c197_15 rfl ?_
    refine mE_iload_n c197_17 rfl ?_
    refine mE_iload c197_18 rfl ?_
    refine mE_ishr c197_20 ?_
    refine mE_iconst c197_21 ?_
    refine mE_iand c197_22 ?_
    refine mE_iconst c197_23 ?_
    by_cases e3 : (bAnd (bShr x3 x5) 1) = 1
    · have w := w.pos e3
      refine mE_icmp_ne_F (t := 37) c197_24 rfl (r4_and _ _) (r4_n rfl) e3 ?_
      refine mE_aload_n c197_27 rfl ?_
      refine mE_getA c197_28 qo197 qF1_63 (ok_lit rfl rfl rfl) rfl ⟨by decide, by decide⟩ ?_
      refine mE_iload c197_31 rfl ?_
      obtain ⟨g4, w⟩ := w.ogd
      refine mE_iaload c197_33 (ok_lit rfl rfl rfl) hx5 g4 ?_
      intro u5
      refine mE_goto (t := 38) c197_34 rfl ?_
      obtain ⟨g6, w⟩ := w.ogd
      refine mE_iadd c197_38 ?_
      refine mE_istore (ls2 := [some (.ref 125), some (.ref 3), some (.ref r2), some (.int (Int32.ofInt x3)), some (.int (Int32.ofInt (x4 + (M 21 (x5).toNat)))), some (.int (Int32.ofInt x5)), none, none, none, none, none]) c197_39 (Nat.le_of_ble_eq_true rfl) rfl ?_
      obtain ⟨g7, w⟩ := w.ogd
      refine mE_iinc (ls2 := [some (.ref 125), some (.ref 3), some (.ref r2), some (.int (Int32.ofInt x3)), some (.int (Int32.ofInt (x4 + (M 21 (x5).toNat)))), some (.int (Int32.ofInt (x5 + 1))), none, none, none, none, none]) c197_41 rfl (Nat.le_of_ble_eq_true rfl) rfl ?_
      refine mE_goto (t := 6) c197_44 rfl ?_
      exact w.osome g6 g7
    · have w := w.neg e3
      refine mE_icmp_ne_T (t := 37) c197_24 rfl (r4_and _ _) (r4_n rfl) e3 ?_
      refine mE_iconst c197_37 ?_
      obtain ⟨g4, w⟩ := w.ogd
      refine mE_iadd c197_38 ?_
      refine mE_istore (ls2 := [some (.ref 125), some (.ref 3), some (.ref r2), some (.int (Int32.ofInt x3)), some (.int (Int32.ofInt (x4 + 0))), some (.int (Int32.ofInt x5)), none, none, none, none, none]) c197_39 (Nat.le_of_ble_eq_true rfl) rfl ?_
      obtain ⟨g5, w⟩ := w.ogd
      refine mE_iinc (ls2 := [some (.ref 125), some (.ref 3), some (.ref r2), some (.int (Int32.ofInt x3)), some (.int (Int32.ofInt (x4 + 0))), some (.int (Int32.ofInt (x5 + 1))), none, none, none, none, none]) c197_41 rfl (Nat.le_of_ble_eq_true rfl) rfl ?_
      refine mE_goto (t := 6) c197_44 rfl ?_
      exact w.osome g4 g5
  · have w := w.neg e2
    refine mE_icmp_ge_T (t := 47) c197_12 rfl hx5 u1 e2 ?_
    have w := w.oinr
    refine mE_aload_n c197_47 rfl ?_
    refine mE_aload_n c197_48 rfl ?_
    refine mE_iload_n c197_49 rfl ?_
    refine mE_virtual1 (b := 125) (as := [.ref 3, .int (Int32.ofInt x3)]) (r := []) c197_50 qo197 qK1_53 qo195 rfl rfl rfl (ok_lit rfl rfl rfl) (Nat.le_of_ble_eq_true rfl) (s195 (d := d + 0) hx3 w.obind) ?_
    rintro v3 _ q5 ⟨rfl, w⟩
    refine mE_istore (ls2 := [some (.ref 125), some (.ref 3), some (.ref r2), some (.int (Int32.ofInt x3)), some (.int (Int32.ofInt x4)), some (.int (Int32.ofInt v3)), none, none, none, none, none]) c197_53 (Nat.le_of_ble_eq_true rfl) rfl ?_
    refine mE_iconst c197_55 ?_
    refine mE_istore (ls2 := [some (.ref 125), some (.ref 3), some (.ref r2), some (.int (Int32.ofInt x3)), some (.int (Int32.ofInt x4)), some (.int (Int32.ofInt v3)), some (.int (Int32.ofInt 0)), none, none, none, none]) c197_56 (Nat.le_of_ble_eq_true rfl) rfl ?_
    refine mE_iconst c197_58 ?_
    refine mE_istore (ls2 := [some (.ref 125), some (.ref 3), some (.ref r2), some (.int (Int32.ofInt x3)), some (.int (Int32.ofInt x4)), some (.int (Int32.ofInt v3)), some (.int (Int32.ofInt 0)), some (.int (Int32.ofInt 0)), none, none, none]) c197_59 (Nat.le_of_ble_eq_true rfl) rfl ?_
    refine mE_iconst c197_61 ?_
    refine mE_istore (ls2 := [some (.ref 125), some (.ref 3), some (.ref r2), some (.int (Int32.ofInt x3)), some (.int (Int32.ofInt x4)), some (.int (Int32.ofInt v3)), some (.int (Int32.ofInt 0)), some (.int (Int32.ofInt 0)), some (.int (Int32.ofInt 0)), none, none]) c197_62 (Nat.le_of_ble_eq_true rfl) rfl ?_
    exact t197_64 hr2 hx4 q5 (r4_n rfl) (r4_n rfl) (r4_n rfl) w
theorem t197_6 {X : Nat × Nat × qC} {d : Nat} {r2 : Nat} {x3 : Int} {x4 : Int} {x5 : Int} {M : Mm}  {R : Int → Prop} (hr2 : isSt X.1 r2) (hx3 : R4 x3) (hx4 : R4 x4) (hx5 : R4 x5) (w : Wp (f197_6 r2 x3 x4 x5 M) R) : mE X (d + 1) 197 1 6 [some (.ref 125), some (.ref 3), some (.ref r2), some (.int (Int32.ofInt x3)), some (.int (Int32.ofInt x4)), some (.int (Int32.ofInt x5)), none, none, none, none, none] [] M (fun v M2 => M = M2 ∧ R v) :=
  Wp.olp (f := fun s : Int × Int => lb197_6 r2 x3 s.1 s.2 M) (s := (x4, x5)) (E := E197_6 X d r2 x3 M R) w (fun s w hx4 hx5 => tb197_6 hr2 hx3 hx4 hx5 w) hx4 hx5
noncomputable def f197 (r2 : Nat) (x3 : Int) (M : Mm) : Option (Int) :=
  f197_6 r2 x3 0 0 M
theorem t197 {X : Nat × Nat × qC} {d : Nat} {r2 : Nat} {x3 : Int} {M : Mm}  {R : Int → Prop} (hr2 : isSt X.1 r2) (hx3 : R4 x3) (w : Wp (f197 r2 x3 M) R) : mE X (d + 1) 197 1 0 [some (.ref 125), some (.ref 3), some (.ref r2), some (.int (Int32.ofInt x3)), none, none, none, none, none, none, none] [] M (fun v M2 => M = M2 ∧ R v) := by
  refine mE_iconst c197_0 ?_
  refine mE_istore (ls2 := [some (.ref 125), some (.ref 3), some (.ref r2), some (.int (Int32.ofInt x3)), some (.int (Int32.ofInt 0)), none, none, none, none, none, none]) c197_1 (Nat.le_of_ble_eq_true rfl) rfl ?_
  refine mE_iconst c197_3 ?_
  refine mE_istore (ls2 := [some (.ref 125), some (.ref 3), some (.ref r2), some (.int (Int32.ofInt x3)), some (.int (Int32.ofInt 0)), some (.int (Int32.ofInt 0)), none, none, none, none, none]) c197_4 (Nat.le_of_ble_eq_true rfl) rfl ?_
  exact t197_6 hr2 hx3 (r4_n rfl) (r4_n rfl) w
theorem s197 {X : Nat × Nat × qC} {d : Nat} {r2 : Nat} {x3 : Int} {M : Mm} {R : Int → Prop} (hr2 : isSt X.1 r2) (hx3 : R4 x3) (w : Wp (f197 r2 x3 M) R) : mC X (d + 2) 197 1 [.ref 125, .ref 3, .ref r2, .int (Int32.ofInt x3)] M (fun v M2 => M = M2 ∧ R v) :=
  mC_of (qent_mk qx197 rfl rfl rfl) (t197 hr2 hx3 w)
/-! SaggingNet$Beginning.darkWith -/
noncomputable def f191_51 (x2 : Int) (x4 : Int) (x5 : Int) (x6 : Int) (M : Mm) : Option (Int) :=
  if x5 = 0 then
  (some (-1))
  else
  (gd (0 ≤ x6 ∧ x6 < 512) (
  if (M 129 (x6).toNat) = (-1) then
  (some (-1))
  else
  (gd (0 ≤ x4 ∧ x4 < 9) (
  gd (0 ≤ x2 ∧ x2 < 512) (
  gd (R4 ((M 127 (x4).toNat) * (M 130 (x2).toNat))) (
  gd (R4 (((M 127 (x4).toNat) * (M 130 (x2).toNat)) + (M 129 (x6).toNat))) (
  some (((M 127 (x4).toNat) * (M 130 (x2).toNat)) + (M 129 (x6).toNat)))))))))
theorem t191_51 {X : Nat × Nat × qC} {d : Nat} {x2 : Int} {x4 : Int} {x5 : Int} {x6 : Int} {M : Mm} {y3 : Int32} {R : Int → Prop} (hx2 : R4 x2) (hx4 : R4 x4) (hx5 : R4 x5) (hx6 : R4 x6) (w : Wp (f191_51 x2 x4 x5 x6 M) R) : mE X (d + 0) 191 1 51 [some (.ref 125), some (.ref 3), some (.int (Int32.ofInt x2)), some (.int y3), some (.int (Int32.ofInt x4)), some (.int (Int32.ofInt x5)), some (.int (Int32.ofInt x6))] [] M (fun v M2 => M = M2 ∧ R v) := by
  refine mE_iload c191_51 rfl ?_
  by_cases e1 : x5 = 0
  · have w := w.pos e1
    refine mE_if_eq_T (t := 67) c191_53 rfl hx5 e1 ?_
    refine mE_iconst c191_67 ?_
    exact mE_iret c191_68 qr191 (r4_n rfl) ⟨rfl, w.osome⟩
  · have w := w.neg e1
    refine mE_if_eq_F (t := 67) c191_53 rfl hx5 e1 ?_
    refine mE_aload_n c191_56 rfl ?_
    refine mE_getA c191_57 qo191 qF1_22 (ok_lit rfl rfl rfl) rfl ⟨by decide, by decide⟩ ?_
    refine mE_iload c191_60 rfl ?_
    obtain ⟨g2, w⟩ := w.ogd
    refine mE_iaload c191_62 (ok_lit rfl rfl rfl) hx6 g2 ?_
    intro u3
    refine mE_iconst c191_63 ?_
    by_cases e4 : (M 129 (x6).toNat) = (-1)
    · have w := w.pos e4
      refine mE_icmp_ne_F (t := 69) c191_64 rfl u3 (r4_n rfl) e4 ?_
      refine mE_iconst c191_67 ?_
      exact mE_iret c191_68 qr191 (r4_n rfl) ⟨rfl, w.osome⟩
    · have w := w.neg e4
      refine mE_icmp_ne_T (t := 69) c191_64 rfl u3 (r4_n rfl) e4 ?_
      refine mE_aload_n c191_69 rfl ?_
      refine mE_getA c191_70 qo191 qF1_15 (ok_lit rfl rfl rfl) rfl ⟨by decide, by decide⟩ ?_
      refine mE_iload c191_73 rfl ?_
      obtain ⟨g5, w⟩ := w.ogd
      refine mE_iaload c191_75 (ok_lit rfl rfl rfl) hx4 g5 ?_
      intro u6
      refine mE_aload_n c191_76 rfl ?_
      refine mE_getA c191_77 qo191 qF1_25 (ok_lit rfl rfl rfl) rfl ⟨by decide, by decide⟩ ?_
      refine mE_iload_n c191_80 rfl ?_
      obtain ⟨g7, w⟩ := w.ogd
      refine mE_iaload c191_81 (ok_lit rfl rfl rfl) hx2 g7 ?_
      intro u8
      obtain ⟨g9, w⟩ := w.ogd
      refine mE_imul c191_82 ?_
      refine mE_aload_n c191_83 rfl ?_
      refine mE_getA c191_84 qo191 qF1_22 (ok_lit rfl rfl rfl) rfl ⟨by decide, by decide⟩ ?_
      refine mE_iload c191_87 rfl ?_
      refine mE_iaload c191_89 (ok_lit rfl rfl rfl) hx6 g2 ?_
      intro u10
      obtain ⟨g11, w⟩ := w.ogd
      refine mE_iadd c191_90 ?_
      exact mE_iret c191_91 qr191 g11 ⟨rfl, w.osome⟩
noncomputable def f191_30 (x2 : Int) (x4 : Int) (M : Mm) : Option (Int) :=
  if (bOr x2 (bShl 1 x4)) = x2 then
  (some (-1))
  else
  (f191_51 x2 x4 1 (bOr x2 (bShl 1 x4)) M)
theorem t191_30 {X : Nat × Nat × qC} {d : Nat} {x2 : Int} {x4 : Int} {M : Mm} {y3 : Int32} {R : Int → Prop} (hx2 : R4 x2) (hx4 : R4 x4) (w : Wp (f191_30 x2 x4 M) R) : mE X (d + 0) 191 1 30 [some (.ref 125), some (.ref 3), some (.int (Int32.ofInt x2)), some (.int y3), some (.int (Int32.ofInt x4)), none, none] [] M (fun v M2 => M = M2 ∧ R v) := by
  refine mE_iconst c191_30 ?_
  refine mE_goto (t := 35) c191_31 rfl ?_
  refine mE_istore (ls2 := [some (.ref 125), some (.ref 3), some (.int (Int32.ofInt x2)), some (.int y3), some (.int (Int32.ofInt x4)), some (.int (Int32.ofInt 1)), none]) c191_35 (Nat.le_of_ble_eq_true rfl) rfl ?_
  refine mE_iload_n c191_37 rfl ?_
  refine mE_iconst c191_38 ?_
  refine mE_iload c191_39 rfl ?_
  refine mE_ishl c191_41 ?_
  refine mE_ior c191_42 ?_
  refine mE_istore (ls2 := [some (.ref 125), some (.ref 3), some (.int (Int32.ofInt x2)), some (.int y3), some (.int (Int32.ofInt x4)), some (.int (Int32.ofInt 1)), some (.int (Int32.ofInt (bOr x2 (bShl 1 x4))))]) c191_43 (Nat.le_of_ble_eq_true rfl) rfl ?_
  refine mE_iload c191_45 rfl ?_
  refine mE_iload_n c191_47 rfl ?_
  by_cases e1 : (bOr x2 (bShl 1 x4)) = x2
  · have w := w.pos e1
    refine mE_icmp_eq_T (t := 67) c191_48 rfl (r4_or _ _) hx2 e1 ?_
    refine mE_iconst c191_67 ?_
    exact mE_iret c191_68 qr191 (r4_n rfl) ⟨rfl, w.osome⟩
  · have w := w.neg e1
    refine mE_icmp_eq_F (t := 67) c191_48 rfl (r4_or _ _) hx2 e1 ?_
    exact t191_51 hx2 hx4 (r4_n rfl) (r4_or _ _) w
noncomputable def f191 (x2 : Int) (x3 : Int) (x4 : Int) (M : Mm) : Option (Int) :=
  gd (0 ≤ x4 ∧ x4 < 9) (
  if (M 126 (x4).toNat) = 0 then
  (gd (0 ≤ (M 20 (x4).toNat) ∧ (M 20 (x4).toNat) < 8) (
  if (bAnd (bShr x3 (M 131 ((M 20 (x4).toNat)).toNat)) 1) = 1 then
  (f191_30 x2 x4 M)
  else
  (if (bOr x2 (bShl 1 x4)) = x2 then
  (some (-1))
  else
  (f191_51 x2 x4 0 (bOr x2 (bShl 1 x4)) M))))
  else
  (f191_30 x2 x4 M))
theorem t191 {X : Nat × Nat × qC} {d : Nat} {x2 : Int} {x3 : Int} {x4 : Int} {M : Mm}  {R : Int → Prop} (hx2 : R4 x2) (hx3 : R4 x3) (hx4 : R4 x4) (w : Wp (f191 x2 x3 x4 M) R) : mE X (d + 0) 191 1 0 [some (.ref 125), some (.ref 3), some (.int (Int32.ofInt x2)), some (.int (Int32.ofInt x3)), some (.int (Int32.ofInt x4)), none, none] [] M (fun v M2 => M = M2 ∧ R v) := by
  refine mE_aload_n c191_0 rfl ?_
  refine mE_getA c191_1 qo191 qF1_9 (ok_lit rfl rfl rfl) rfl ⟨by decide, by decide⟩ ?_
  refine mE_iload c191_4 rfl ?_
  obtain ⟨g1, w⟩ := w.ogd
  refine mE_zaload c191_6 (ok_lit rfl rfl rfl) hx4 g1 ?_
  intro u2
  by_cases e3 : (M 126 (x4).toNat) = 0
  · have w := w.pos e3
    refine mE_if_ne_F (t := 30) c191_7 rfl u2 e3 ?_
    refine mE_iload_n c191_10 rfl ?_
    refine mE_aload_n c191_11 rfl ?_
    refine mE_getA c191_12 qo191 qF1_28 (ok_lit rfl rfl rfl) rfl ⟨by decide, by decide⟩ ?_
    refine mE_aload_n c191_15 rfl ?_
    refine mE_getA c191_16 qo191 qF1_60 (ok_lit rfl rfl rfl) rfl ⟨by decide, by decide⟩ ?_
    refine mE_iload c191_19 rfl ?_
    refine mE_iaload c191_21 (ok_lit rfl rfl rfl) hx4 g1 ?_
    intro u4
    obtain ⟨g5, w⟩ := w.ogd
    refine mE_iaload c191_22 (ok_lit rfl rfl rfl) u4 g5 ?_
    intro u6
    refine mE_ishr c191_23 ?_
    refine mE_iconst c191_24 ?_
    refine mE_iand c191_25 ?_
    refine mE_iconst c191_26 ?_
    by_cases e7 : (bAnd (bShr x3 (M 131 ((M 20 (x4).toNat)).toNat)) 1) = 1
    · have w := w.pos e7
      refine mE_icmp_ne_F (t := 34) c191_27 rfl (r4_and _ _) (r4_n rfl) e7 ?_
      exact t191_30 hx2 hx4 w
    · have w := w.neg e7
      refine mE_icmp_ne_T (t := 34) c191_27 rfl (r4_and _ _) (r4_n rfl) e7 ?_
      refine mE_iconst c191_34 ?_
      refine mE_istore (ls2 := [some (.ref 125), some (.ref 3), some (.int (Int32.ofInt x2)), some (.int (Int32.ofInt x3)), some (.int (Int32.ofInt x4)), some (.int (Int32.ofInt 0)), none]) c191_35 (Nat.le_of_ble_eq_true rfl) rfl ?_
      refine mE_iload_n c191_37 rfl ?_
      refine mE_iconst c191_38 ?_
      refine mE_iload c191_39 rfl ?_
      refine mE_ishl c191_41 ?_
      refine mE_ior c191_42 ?_
      refine mE_istore (ls2 := [some (.ref 125), some (.ref 3), some (.int (Int32.ofInt x2)), some (.int (Int32.ofInt x3)), some (.int (Int32.ofInt x4)), some (.int (Int32.ofInt 0)), some (.int (Int32.ofInt (bOr x2 (bShl 1 x4))))]) c191_43 (Nat.le_of_ble_eq_true rfl) rfl ?_
      refine mE_iload c191_45 rfl ?_
      refine mE_iload_n c191_47 rfl ?_
      by_cases e8 : (bOr x2 (bShl 1 x4)) = x2
      · have w := w.pos e8
        refine mE_icmp_eq_T (t := 67) c191_48 rfl (r4_or _ _) hx2 e8 ?_
        refine mE_iconst c191_67 ?_
        exact mE_iret c191_68 qr191 (r4_n rfl) ⟨rfl, w.osome⟩
      · have w := w.neg e8
        refine mE_icmp_eq_F (t := 67) c191_48 rfl (r4_or _ _) hx2 e8 ?_
        exact t191_51 hx2 hx4 (r4_n rfl) (r4_or _ _) w
  · have w := w.neg e3
    refine mE_if_ne_T (t := 30) c191_7 rfl u2 e3 ?_
    exact t191_30 hx2 hx4 w
theorem s191 {X : Nat × Nat × qC} {d : Nat} {x2 : Int} {x3 : Int} {x4 : Int} {M : Mm} {R : Int → Prop} (hx2 : R4 x2) (hx3 : R4 x3) (hx4 : R4 x4) (w : Wp (f191 x2 x3 x4 M) R) : mC X (d + 1) 191 1 [.ref 125, .ref 3, .int (Int32.ofInt x2), .int (Int32.ofInt x3), .int (Int32.ofInt x4)] M (fun v M2 => M = M2 ∧ R v) :=
  mC_of (qent_mk qx191 rfl rfl rfl) (t191 hx2 hx3 hx4 w)
/-! SaggingNet$Beginning.leastFrom -/
def E194_13 (X : Nat × Nat × qC) (d : Nat) (x2 : Int) (x4 : Int) (M : Mm) (R : Int → Prop) : Int × Int → Prop := fun s => R4 s.1 → R4 s.2 → ∀ (o6 : Option Value), mE X (d + 1) 194 1 13 [some (.ref 125), some (.ref 3), some (.int (Int32.ofInt x2)), some (.int (Int32.ofInt s.1)), some (.int (Int32.ofInt x4)), some (.int (Int32.ofInt s.2)), o6] [] M (fun v M2 => M = M2 ∧ R v)
noncomputable def f194_54 (x2 : Int) (x3 : Int) (x4 : Int) (x5 : Int) (M : Mm) : Option ((Int × Int) ⊕ (Int)) :=
  gd (R4 (x5 + 1)) (
  some (.inl (x3, (x5 + 1))))
theorem t194_54 {X : Nat × Nat × qC} {d : Nat} {x2 : Int} {x3 : Int} {x4 : Int} {x5 : Int} {M : Mm} {y6 : Int32} {R : Int → Prop} (hx2 : R4 x2) (hx3 : R4 x3) (hx4 : R4 x4) (hx5 : R4 x5) (w : Wp (f194_54 x2 x3 x4 x5 M) (Sum.elim (E194_13 X d x2 x4 M R) R)) : mE X (d + 1) 194 1 54 [some (.ref 125), some (.ref 3), some (.int (Int32.ofInt x2)), some (.int (Int32.ofInt x3)), some (.int (Int32.ofInt x4)), some (.int (Int32.ofInt x5)), some (.int y6)] [] M (fun v M2 => M = M2 ∧ R v) := by
  obtain ⟨g1, w⟩ := w.ogd
  refine mE_iinc (ls2 := [some (.ref 125), some (.ref 3), some (.int (Int32.ofInt x2)), some (.int (Int32.ofInt x3)), some (.int (Int32.ofInt x4)), some (.int (Int32.ofInt (x5 + 1))), some (.int y6)]) c194_54 rfl (Nat.le_of_ble_eq_true rfl) rfl ?_
  refine mE_goto (t := 13) c194_57 rfl ?_
  exact w.osome hx3 g1 _
noncomputable def f194_51 (x2 : Int) (x4 : Int) (x5 : Int) (x6 : Int) (M : Mm) : Option ((Int × Int) ⊕ (Int)) :=
  f194_54 x2 x6 x4 x5 M
theorem t194_51 {X : Nat × Nat × qC} {d : Nat} {x2 : Int} {x4 : Int} {x5 : Int} {x6 : Int} {M : Mm} {y3 : Int32} {R : Int → Prop} (hx2 : R4 x2) (hx4 : R4 x4) (hx5 : R4 x5) (hx6 : R4 x6) (w : Wp (f194_51 x2 x4 x5 x6 M) (Sum.elim (E194_13 X d x2 x4 M R) R)) : mE X (d + 1) 194 1 51 [some (.ref 125), some (.ref 3), some (.int (Int32.ofInt x2)), some (.int y3), some (.int (Int32.ofInt x4)), some (.int (Int32.ofInt x5)), some (.int (Int32.ofInt x6))] [] M (fun v M2 => M = M2 ∧ R v) := by
  refine mE_iload c194_51 rfl ?_
  refine mE_istore_n (ls2 := [some (.ref 125), some (.ref 3), some (.int (Int32.ofInt x2)), some (.int (Int32.ofInt x6)), some (.int (Int32.ofInt x4)), some (.int (Int32.ofInt x5)), some (.int (Int32.ofInt x6))]) c194_53 (Nat.le_of_ble_eq_true rfl) rfl ?_
  exact t194_54 hx2 hx6 hx4 hx5 w
noncomputable def lb194_13 (x2 : Int) (x4 : Int) (x3 : Int) (x5 : Int) (M : Mm) : Option ((Int × Int) ⊕ (Int)) :=
  if x5 < (M 3 2) then
  ((f191 x2 x4 x5 M).bind fun v3 =>
  if v3 = (-1) then
  (f194_54 x2 x3 x4 x5 M)
  else
  (if x3 = (-1) then
  (f194_51 x2 x4 x5 v3 M)
  else
  (if v3 < x3 then
  (f194_51 x2 x4 x5 v3 M)
  else
  (f194_54 x2 x3 x4 x5 M))))
  else
  (oinr (some x3))
noncomputable def f194_13 (x2 : Int) (x4 : Int) (x3 : Int) (x5 : Int) (M : Mm) : Option (Int) := lp (fun s : Int × Int => lb194_13 x2 x4 s.1 s.2 M) (x3, x5)
theorem tb194_13 {X : Nat × Nat × qC} {d : Nat} {x2 : Int} {x4 : Int} {x3 : Int} {x5 : Int} {M : Mm} {o6 : Option Value} {R : Int → Prop} (hx2 : R4 x2) (hx4 : R4 x4) (hx3 : R4 x3) (hx5 : R4 x5) (w : Wp (lb194_13 x2 x4 x3 x5 M) (Sum.elim (E194_13 X d x2 x4 M R) R)) : mE X (d + 1) 194 1 13 [some (.ref 125), some (.ref 3), some (.int (Int32.ofInt x2)), some (.int (Int32.ofInt x3)), some (.int (Int32.ofInt x4)), some (.int (Int32.ofInt x5)), o6] [] M (fun v M2 => M = M2 ∧ R v) := by
  refine mE_iload c194_13 rfl ?_
  refine mE_aload_n c194_15 rfl ?_
  refine mE_getI c194_16 qo194 qF1_37 (ok_lit rfl rfl rfl) rfl ?_
  intro u1
  by_cases e2 : x5 < (M 3 2)
  · have w := w.pos e2
    refine mE_icmp_ge_F (t := 60) c194_19 rfl hx5 u1 e2 ?_
    refine mE_aload_n c194_22 rfl ?_
    refine mE_aload_n c194_23 rfl ?_
    refine mE_iload_n c194_24 rfl ?_
    refine mE_iload c194_25 rfl ?_
    refine mE_iload c194_27 rfl ?_
    refine mE_virtual1 (b := 125) (as := [.ref 3, .int (Int32.ofInt x2), .int (Int32.ofInt x4), .int (Int32.ofInt x5)]) (r := []) c194_29 qo194 qK1_56 qo191 rfl rfl rfl (ok_lit rfl rfl rfl) (Nat.le_of_ble_eq_true rfl) (s191 (d := d + 0) hx2 hx4 hx5 w.obind) ?_
    rintro v3 _ q5 ⟨rfl, w⟩
    refine mE_istore (ls2 := [some (.ref 125), some (.ref 3), some (.int (Int32.ofInt x2)), some (.int (Int32.ofInt x3)), some (.int (Int32.ofInt x4)), some (.int (Int32.ofInt x5)), some (.int (Int32.ofInt v3))]) c194_32 (Nat.le_of_ble_eq_true rfl) rfl ?_
    refine mE_iload c194_34 rfl ?_
    refine mE_iconst c194_36 ?_
    by_cases e6 : v3 = (-1)
    · have w := w.pos e6
      refine mE_icmp_eq_T (t := 54) c194_37 rfl q5 (r4_n rfl) e6 ?_
      exact t194_54 hx2 hx3 hx4 hx5 w
    · have w := w.neg e6
      refine mE_icmp_eq_F (t := 54) c194_37 rfl q5 (r4_n rfl) e6 ?_
      refine mE_iload_n c194_40 rfl ?_
      refine mE_iconst c194_41 ?_
      by_cases e7 : x3 = (-1)
      · have w := w.pos e7
        refine mE_icmp_eq_T (t := 51) c194_42 rfl hx3 (r4_n rfl) e7 ?_
        exact t194_51 hx2 hx4 hx5 q5 w
      · have w := w.neg e7
        refine mE_icmp_eq_F (t := 51) c194_42 rfl hx3 (r4_n rfl) e7 ?_
        refine mE_iload c194_45 rfl ?_
        refine mE_iload_n c194_47 rfl ?_
        by_cases e8 : v3 < x3
        · have w := w.pos e8
          refine mE_icmp_ge_F (t := 54) c194_48 rfl q5 hx3 e8 ?_
          exact t194_51 hx2 hx4 hx5 q5 w
        · have w := w.neg e8
          refine mE_icmp_ge_T (t := 54) c194_48 rfl q5 hx3 e8 ?_
          exact t194_54 hx2 hx3 hx4 hx5 w
  · have w := w.neg e2
    refine mE_icmp_ge_T (t := 60) c194_19 rfl hx5 u1 e2 ?_
    have w := w.oinr
    refine mE_iload_n c194_60 rfl ?_
    exact mE_iret c194_61 qr194 hx3 ⟨rfl, w.osome⟩
theorem t194_13 {X : Nat × Nat × qC} {d : Nat} {x2 : Int} {x4 : Int} {x3 : Int} {x5 : Int} {M : Mm} {o6 : Option Value} {R : Int → Prop} (hx2 : R4 x2) (hx4 : R4 x4) (hx3 : R4 x3) (hx5 : R4 x5) (w : Wp (f194_13 x2 x4 x3 x5 M) R) : mE X (d + 1) 194 1 13 [some (.ref 125), some (.ref 3), some (.int (Int32.ofInt x2)), some (.int (Int32.ofInt x3)), some (.int (Int32.ofInt x4)), some (.int (Int32.ofInt x5)), o6] [] M (fun v M2 => M = M2 ∧ R v) :=
  Wp.olp (f := fun s : Int × Int => lb194_13 x2 x4 s.1 s.2 M) (s := (x3, x5)) (E := E194_13 X d x2 x4 M R) w (fun s w hx3 hx5 _ => tb194_13 hx2 hx4 hx3 hx5 w) hx3 hx5 _
noncomputable def f194 (x2 : Int) (M : Mm) : Option (Int) :=
  (f195 x2 M).bind fun v1 =>
  f194_13 x2 v1 (-1) 0 M
theorem t194 {X : Nat × Nat × qC} {d : Nat} {x2 : Int} {M : Mm}  {R : Int → Prop} (hx2 : R4 x2) (w : Wp (f194 x2 M) R) : mE X (d + 1) 194 1 0 [some (.ref 125), some (.ref 3), some (.int (Int32.ofInt x2)), none, none, none, none] [] M (fun v M2 => M = M2 ∧ R v) := by
  refine mE_iconst c194_0 ?_
  refine mE_istore_n (ls2 := [some (.ref 125), some (.ref 3), some (.int (Int32.ofInt x2)), some (.int (Int32.ofInt (-1))), none, none, none]) c194_1 (Nat.le_of_ble_eq_true rfl) rfl ?_
  refine mE_aload_n c194_2 rfl ?_
  refine mE_aload_n c194_3 rfl ?_
  refine mE_iload_n c194_4 rfl ?_
  refine mE_virtual1 (b := 125) (as := [.ref 3, .int (Int32.ofInt x2)]) (r := []) c194_5 qo194 qK1_53 qo195 rfl rfl rfl (ok_lit rfl rfl rfl) (Nat.le_of_ble_eq_true rfl) (s195 (d := d + 0) hx2 w.obind) ?_
  rintro v1 _ q3 ⟨rfl, w⟩
  refine mE_istore (ls2 := [some (.ref 125), some (.ref 3), some (.int (Int32.ofInt x2)), some (.int (Int32.ofInt (-1))), some (.int (Int32.ofInt v1)), none, none]) c194_8 (Nat.le_of_ble_eq_true rfl) rfl ?_
  refine mE_iconst c194_10 ?_
  refine mE_istore (ls2 := [some (.ref 125), some (.ref 3), some (.int (Int32.ofInt x2)), some (.int (Int32.ofInt (-1))), some (.int (Int32.ofInt v1)), some (.int (Int32.ofInt 0)), none]) c194_11 (Nat.le_of_ble_eq_true rfl) rfl ?_
  exact t194_13 hx2 q3 (r4_n rfl) (r4_n rfl) w
theorem s194 {X : Nat × Nat × qC} {d : Nat} {x2 : Int} {M : Mm} {R : Int → Prop} (hx2 : R4 x2) (w : Wp (f194 x2 M) R) : mC X (d + 2) 194 1 [.ref 125, .ref 3, .int (Int32.ofInt x2)] M (fun v M2 => M = M2 ∧ R v) :=
  mC_of (qent_mk qx194 rfl rfl rfl) (t194 hx2 w)
/-! SaggingNet$Beginning.tellBest -/
def E196_23 (X : Nat × Nat × qC) (d : Nat) (x2 : Int) (x3 : Int) (x4 : Int) (M : Mm) (R : Mm → Prop) : Int → Prop := fun s => R4 s → mE X (d + 1) 196 0 23 [some (.ref 125), some (.ref 3), some (.int (Int32.ofInt x2)), some (.int (Int32.ofInt x3)), some (.int (Int32.ofInt x4)), some (.int (Int32.ofInt s))] [] M (fun v M2 => R M2)
def E196_4 (X : Nat × Nat × qC) (d : Nat)  (R : Mm → Prop) : Int × Int × Mm → Prop := fun s => R4 s.1 → R4 s.2.1 → ∀ (o4 : Option Value), ∀ (o5 : Option Value), mE X (d + 1) 196 0 4 [some (.ref 125), some (.ref 3), some (.int (Int32.ofInt s.1)), some (.int (Int32.ofInt s.2.1)), o4, o5] [] s.2.2 (fun v M2 => R M2)
noncomputable def f196_75 (x2 : Int) (x3 : Int) (M : Mm) : Option ((Int × Int × Mm) ⊕ (Mm)) :=
  gd (R4 (x3 + 1)) (
  some (.inl (x2, (x3 + 1), M)))
theorem t196_75 {X : Nat × Nat × qC} {d : Nat} {x2 : Int} {x3 : Int} {M : Mm} {y4 : Int32} {y5 : Int32} {R : Mm → Prop} (hx2 : R4 x2) (hx3 : R4 x3) (w : Wp (f196_75 x2 x3 M) (Sum.elim (E196_4 X d  R) R)) : mE X (d + 1) 196 0 75 [some (.ref 125), some (.ref 3), some (.int (Int32.ofInt x2)), some (.int (Int32.ofInt x3)), some (.int y4), some (.int y5)] [] M (fun v M2 => R M2) := by
  obtain ⟨g1, w⟩ := w.ogd
  refine mE_iinc (ls2 := [some (.ref 125), some (.ref 3), some (.int (Int32.ofInt x2)), some (.int (Int32.ofInt (x3 + 1))), some (.int y4), some (.int y5)]) c196_75 rfl (Nat.le_of_ble_eq_true rfl) rfl ?_
  refine mE_goto (t := 4) c196_78 rfl ?_
  exact w.osome hx2 g1 _ _
noncomputable def lb196_23 (x2 : Int) (x3 : Int) (x4 : Int) (x5 : Int) (M : Mm) : Option ((Int) ⊕ ((Int × Int × Mm) ⊕ (Mm))) :=
  if x5 < (M 3 2) then
  ((f191 x2 x4 x5 M).bind fun v3 =>
  gd (0 ≤ x2 ∧ x2 < 512) (
  if v3 = (M 129 (x2).toNat) then
  (oinr (gd (0 ≤ x3 ∧ x3 < 9) (
  mlet (ms M 128 (x3).toNat x5) fun M10 =>
  f196_75 (bOr x2 (bShl 1 x5)) x3 M10)))
  else
  (gd (R4 (x5 + 1)) (
  some (.inl ((x5 + 1)))))))
  else
  (oinr (f196_75 x2 x3 M))
noncomputable def f196_23 (x2 : Int) (x3 : Int) (x4 : Int) (x5 : Int) (M : Mm) : Option ((Int × Int × Mm) ⊕ (Mm)) := lp (fun s : Int => lb196_23 x2 x3 x4 s M) x5
theorem tb196_23 {X : Nat × Nat × qC} {d : Nat} {x2 : Int} {x3 : Int} {x4 : Int} {x5 : Int} {M : Mm}  {R : Mm → Prop} (hx2 : R4 x2) (hx3 : R4 x3) (hx4 : R4 x4) (hx5 : R4 x5) (w : Wp (lb196_23 x2 x3 x4 x5 M) (Sum.elim (E196_23 X d x2 x3 x4 M R) (Sum.elim (E196_4 X d  R) R))) : mE X (d + 1) 196 0 23 [some (.ref 125), some (.ref 3), some (.int (Int32.ofInt x2)), some (.int (Int32.ofInt x3)), some (.int (Int32.ofInt x4)), some (.int (Int32.ofInt x5))] [] M (fun v M2 => R M2) := by
  refine mE_iload c196_23 rfl ?_
  refine mE_aload_n c196_25 rfl ?_
  refine mE_getI c196_26 qo196 qF1_37 (ok_lit rfl rfl rfl) rfl ?_
  intro u1
  by_cases e2 : x5 < (M 3 2)
  · have w := w.pos e2
    refine mE_icmp_ge_F (t := 75) c196_29 rfl hx5 u1 e2 ?_
    refine mE_aload_n c196_32 rfl ?_
    refine mE_aload_n c196_33 rfl ?_
    refine mE_iload_n c196_34 rfl ?_
    refine mE_iload c196_35 rfl ?_
    refine mE_iload c196_37 rfl ?_
    refine mE_virtual1 (b := 125) (as := [.ref 3, .int (Int32.ofInt x2), .int (Int32.ofInt x4), .int (Int32.ofInt x5)]) (r := []) c196_39 qo196 qK1_56 qo191 rfl rfl rfl (ok_lit rfl rfl rfl) (Nat.le_of_ble_eq_true rfl) (s191 (d := d + 0) hx2 hx4 hx5 w.obind) ?_
    rintro v3 _ q5 ⟨rfl, w⟩
    refine mE_aload_n c196_42 rfl ?_
    refine mE_getA c196_43 qo196 qF1_22 (ok_lit rfl rfl rfl) rfl ⟨by decide, by decide⟩ ?_
    refine mE_iload_n c196_46 rfl ?_
    obtain ⟨g6, w⟩ := w.ogd
    refine mE_iaload c196_47 (ok_lit rfl rfl rfl) hx2 g6 ?_
    intro u7
    by_cases e8 : v3 = (M 129 (x2).toNat)
    · have w := w.pos e8
      refine mE_icmp_ne_F (t := 69) c196_48 rfl q5 u7 e8 ?_
      have w := w.oinr
      refine mE_aload_n c196_51 rfl ?_
      refine mE_getA c196_52 qo196 qF1_19 (ok_lit rfl rfl rfl) rfl ⟨by decide, by decide⟩ ?_
      refine mE_iload_n c196_55 rfl ?_
      refine mE_iload c196_56 rfl ?_
      obtain ⟨g9, w⟩ := w.ogd
      obtain ⟨M10, m11, w⟩ := w.mlet
      refine mE_iastore c196_58 (ok_lit rfl rfl rfl) hx3 g9 hx5 ?_
      refine mE_M m11 ?_
      refine mE_iload_n c196_59 rfl ?_
      refine mE_iconst c196_60 ?_
      refine mE_iload c196_61 rfl ?_
      refine mE_ishl c196_63 ?_
      refine mE_ior c196_64 ?_
      refine mE_istore_n (ls2 := [some (.ref 125), some (.ref 3), some (.int (Int32.ofInt (bOr x2 (bShl 1 x5)))), some (.int (Int32.ofInt x3)), some (.int (Int32.ofInt x4)), some (.int (Int32.ofInt x5))]) c196_65 (Nat.le_of_ble_eq_true rfl) rfl ?_
      refine mE_goto (t := 75) c196_66 rfl ?_
      exact t196_75 (r4_or _ _) hx3 w
    · have w := w.neg e8
      refine mE_icmp_ne_T (t := 69) c196_48 rfl q5 u7 e8 ?_
      obtain ⟨g9, w⟩ := w.ogd
      refine mE_iinc (ls2 := [some (.ref 125), some (.ref 3), some (.int (Int32.ofInt x2)), some (.int (Int32.ofInt x3)), some (.int (Int32.ofInt x4)), some (.int (Int32.ofInt (x5 + 1)))]) c196_69 rfl (Nat.le_of_ble_eq_true rfl) rfl ?_
      refine mE_goto (t := 23) c196_72 rfl ?_
      exact w.osome g9
  · have w := w.neg e2
    refine mE_icmp_ge_T (t := 75) c196_29 rfl hx5 u1 e2 ?_
    have w := w.oinr
    exact t196_75 hx2 hx3 w
theorem t196_23 {X : Nat × Nat × qC} {d : Nat} {x2 : Int} {x3 : Int} {x4 : Int} {x5 : Int} {M : Mm}  {R : Mm → Prop} (hx2 : R4 x2) (hx3 : R4 x3) (hx4 : R4 x4) (hx5 : R4 x5) (w : Wp (f196_23 x2 x3 x4 x5 M) (Sum.elim (E196_4 X d  R) R)) : mE X (d + 1) 196 0 23 [some (.ref 125), some (.ref 3), some (.int (Int32.ofInt x2)), some (.int (Int32.ofInt x3)), some (.int (Int32.ofInt x4)), some (.int (Int32.ofInt x5))] [] M (fun v M2 => R M2) :=
  Wp.olp (f := fun s : Int => lb196_23 x2 x3 x4 s M) (s := x5) (E := E196_23 X d x2 x3 x4 M R) w (fun s w hx5 => tb196_23 hx2 hx3 hx4 hx5 w) hx5
noncomputable def lb196_4 (x2 : Int) (x3 : Int) (M : Mm) : Option ((Int × Int × Mm) ⊕ (Mm)) :=
  if x3 < (M 3 2) then
  ((f195 x2 M).bind fun v3 =>
  f196_23 x2 x3 v3 0 M)
  else
  (oinr (some M))
noncomputable def f196_4 (x2 : Int) (x3 : Int) (M : Mm) : Option (Mm) := lp (fun s : Int × Int × Mm => lb196_4  s.1 s.2.1 s.2.2) (x2, x3, M)
theorem tb196_4 {X : Nat × Nat × qC} {d : Nat} {x2 : Int} {x3 : Int} {M : Mm} {o4 : Option Value} {o5 : Option Value} {R : Mm → Prop} (hx2 : R4 x2) (hx3 : R4 x3) (w : Wp (lb196_4 x2 x3 M) (Sum.elim (E196_4 X d  R) R)) : mE X (d + 1) 196 0 4 [some (.ref 125), some (.ref 3), some (.int (Int32.ofInt x2)), some (.int (Int32.ofInt x3)), o4, o5] [] M (fun v M2 => R M2) := by
  refine mE_iload_n c196_4 rfl ?_
  refine mE_aload_n c196_5 rfl ?_
  refine mE_getI c196_6 qo196 qF1_37 (ok_lit rfl rfl rfl) rfl ?_
  intro u1
  by_cases e2 : x3 < (M 3 2)
  · have w := w.pos e2
    refine mE_icmp_ge_F (t := 81) c196_9 rfl hx3 u1 e2 ?_
    refine mE_aload_n c196_12 rfl ?_
    refine mE_aload_n c196_13 rfl ?_
    refine mE_iload_n c196_14 rfl ?_
    refine mE_virtual1 (b := 125) (as := [.ref 3, .int (Int32.ofInt x2)]) (r := []) c196_15 qo196 qK1_53 qo195 rfl rfl rfl (ok_lit rfl rfl rfl) (Nat.le_of_ble_eq_true rfl) (s195 (d := d + 0) hx2 w.obind) ?_
    rintro v3 _ q5 ⟨rfl, w⟩
    refine mE_istore (ls2 := [some (.ref 125), some (.ref 3), some (.int (Int32.ofInt x2)), some (.int (Int32.ofInt x3)), some (.int (Int32.ofInt v3)), o5]) c196_18 (Nat.le_of_ble_eq_true rfl) rfl ?_
    refine mE_iconst c196_20 ?_
    refine mE_istore (ls2 := [some (.ref 125), some (.ref 3), some (.int (Int32.ofInt x2)), some (.int (Int32.ofInt x3)), some (.int (Int32.ofInt v3)), some (.int (Int32.ofInt 0))]) c196_21 (Nat.le_of_ble_eq_true rfl) rfl ?_
    exact t196_23 hx2 hx3 q5 (r4_n rfl) w
  · have w := w.neg e2
    refine mE_icmp_ge_T (t := 81) c196_9 rfl hx3 u1 e2 ?_
    have w := w.oinr
    exact mE_vret c196_81 qr196 w.osome
theorem t196_4 {X : Nat × Nat × qC} {d : Nat} {x2 : Int} {x3 : Int} {M : Mm} {o4 : Option Value} {o5 : Option Value} {R : Mm → Prop} (hx2 : R4 x2) (hx3 : R4 x3) (w : Wp (f196_4 x2 x3 M) R) : mE X (d + 1) 196 0 4 [some (.ref 125), some (.ref 3), some (.int (Int32.ofInt x2)), some (.int (Int32.ofInt x3)), o4, o5] [] M (fun v M2 => R M2) :=
  Wp.olp (f := fun s : Int × Int × Mm => lb196_4  s.1 s.2.1 s.2.2) (s := (x2, x3, M)) (E := E196_4 X d  R) w (fun s w hx2 hx3 _ _ => tb196_4 hx2 hx3 w) hx2 hx3 _ _
noncomputable def f196  (M : Mm) : Option (Mm) :=
  f196_4 0 0 M
theorem t196 {X : Nat × Nat × qC} {d : Nat}  {M : Mm}  {R : Mm → Prop}  (w : Wp (f196  M) R) : mE X (d + 1) 196 0 0 [some (.ref 125), some (.ref 3), none, none, none, none] [] M (fun v M2 => R M2) := by
  refine mE_iconst c196_0 ?_
  refine mE_istore_n (ls2 := [some (.ref 125), some (.ref 3), some (.int (Int32.ofInt 0)), none, none, none]) c196_1 (Nat.le_of_ble_eq_true rfl) rfl ?_
  refine mE_iconst c196_2 ?_
  refine mE_istore_n (ls2 := [some (.ref 125), some (.ref 3), some (.int (Int32.ofInt 0)), some (.int (Int32.ofInt 0)), none, none]) c196_3 (Nat.le_of_ble_eq_true rfl) rfl ?_
  exact t196_4 (r4_n rfl) (r4_n rfl) w
theorem s196 {X : Nat × Nat × qC} {d : Nat}  {M : Mm} {R : Mm → Prop}  (w : Wp (f196  M) R) : mC X (d + 2) 196 0 [.ref 125, .ref 3] M (fun v M2 => R M2) :=
  mC_of (qent_mk qx196 rfl rfl rfl) (t196  w)
/-! SaggingNet$Beginning.find -/
def E192_31 (X : Nat × Nat × qC) (d : Nat) (r2 : Nat) (R : Int × Mm → Prop) : Int × Mm → Prop := fun s => R4 s.1 → ∀ (y3 : Int32), mE X (d + 2) 192 1 31 [some (.ref 125), some (.ref 3), some (.ref r2), some (.int y3), some (.int (Int32.ofInt s.1))] [] s.2 (fun v M2 => R (v, M2))
noncomputable def lb192_31 (r2 : Nat) (x4 : Int) (M : Mm) : Option ((Int × Mm) ⊕ (Int × Mm)) :=
  if x4 < 0 then
  (oinr (if (M 129 0) = (-1) then
  (some (0, M))
  else
  ((f196 M).bind fun M5 =>
  some (1, M5))))
  else
  ((f197 r2 x4 M).bind fun v2 =>
  gd (0 ≤ x4 ∧ x4 < 512) (
  mlet (ms M 130 (x4).toNat v2) fun M6 =>
  (f194 x4 M6).bind fun v8 =>
  mlet (ms M6 129 (x4).toNat v8) fun M11 =>
  gd (R4 (x4 + (-1))) (
  some (.inl ((x4 + (-1)), M11)))))
noncomputable def f192_31 (r2 : Nat) (x4 : Int) (M : Mm) : Option (Int × Mm) := lp (fun s : Int × Mm => lb192_31 r2 s.1 s.2) (x4, M)
theorem tb192_31 {X : Nat × Nat × qC} {d : Nat} {r2 : Nat} {x4 : Int} {M : Mm} {y3 : Int32} {R : Int × Mm → Prop} (hr2 : isSt X.1 r2) (hx4 : R4 x4) (w : Wp (lb192_31 r2 x4 M) (Sum.elim (E192_31 X d r2 R) R)) : mE X (d + 2) 192 1 31 [some (.ref 125), some (.ref 3), some (.ref r2), some (.int y3), some (.int (Int32.ofInt x4))] [] M (fun v M2 => R (v, M2)) := by
  refine mE_iload c192_31 rfl ?_
  by_cases e1 : x4 < 0
  · have w := w.pos e1
    refine mE_if_lt_T (t := 71) c192_33 rfl hx4 e1 ?_
    have w := w.oinr
    refine mE_aload_n c192_71 rfl ?_
    refine mE_getA c192_72 qo192 qF1_22 (ok_lit rfl rfl rfl) rfl ⟨by decide, by decide⟩ ?_
    refine mE_iconst c192_75 ?_
    refine mE_iaload c192_76 (ok_lit rfl rfl rfl) (r4_n rfl) (by decide) ?_
    intro u2
    refine mE_iconst c192_77 ?_
    by_cases e3 : (M 129 0) = (-1)
    · have w := w.pos e3
      refine mE_icmp_ne_F (t := 83) c192_78 rfl u2 (r4_n rfl) e3 ?_
      refine mE_iconst c192_81 ?_
      exact mE_zret c192_82 qr192 (Or.inl rfl) w.osome
    · have w := w.neg e3
      refine mE_icmp_ne_T (t := 83) c192_78 rfl u2 (r4_n rfl) e3 ?_
      refine mE_aload_n c192_83 rfl ?_
      refine mE_aload_n c192_84 rfl ?_
      refine mE_virtual0 (b := 125) (as := [.ref 3]) (r := []) c192_85 qo192 qK1_49 qo196 rfl rfl rfl (ok_lit rfl rfl rfl) (Nat.le_of_ble_eq_true rfl) (s196 (d := d + 0) w.obind) ?_
      intro _ M5 w
      refine mE_iconst c192_88 ?_
      exact mE_zret c192_89 qr192 (Or.inr rfl) w.osome
  · have w := w.neg e1
    refine mE_if_lt_F (t := 71) c192_33 rfl hx4 e1 ?_
    refine mE_aload_n c192_36 rfl ?_
    refine mE_getA c192_37 qo192 qF1_25 (ok_lit rfl rfl rfl) rfl ⟨by decide, by decide⟩ ?_
    refine mE_iload c192_40 rfl ?_
    refine mE_aload_n c192_42 rfl ?_
    refine mE_aload_n c192_43 rfl ?_
    refine mE_aload_n c192_44 rfl ?_
    refine mE_iload c192_45 rfl ?_
    refine mE_virtual1 (b := 125) (as := [.ref 3, .ref r2, .int (Int32.ofInt x4)]) (r := [.int (Int32.ofInt x4), .ref 130]) c192_47 qo192 qK1_41 qo197 rfl rfl rfl (ok_lit rfl rfl rfl) (Nat.le_of_ble_eq_true rfl) (s197 (d := d + 0) hr2 hx4 w.obind) ?_
    rintro v2 _ q4 ⟨rfl, w⟩
    obtain ⟨g5, w⟩ := w.ogd
    obtain ⟨M6, m7, w⟩ := w.mlet
    refine mE_iastore c192_50 (ok_lit rfl rfl rfl) hx4 g5 q4 ?_
    refine mE_M m7 ?_
    refine mE_aload_n c192_51 rfl ?_
    refine mE_getA c192_52 qo192 qF1_22 (ok_lit rfl rfl rfl) rfl ⟨by decide, by decide⟩ ?_
    refine mE_iload c192_55 rfl ?_
    refine mE_aload_n c192_57 rfl ?_
    refine mE_aload_n c192_58 rfl ?_
    refine mE_iload c192_59 rfl ?_
    refine mE_virtual1 (b := 125) (as := [.ref 3, .int (Int32.ofInt x4)]) (r := [.int (Int32.ofInt x4), .ref 129]) c192_61 qo192 qK1_45 qo194 rfl rfl rfl (ok_lit rfl rfl rfl) (Nat.le_of_ble_eq_true rfl) (s194 (d := d + 0) hx4 w.obind) ?_
    rintro v8 _ q10 ⟨rfl, w⟩
    obtain ⟨M11, m12, w⟩ := w.mlet
    refine mE_iastore c192_64 (ok_lit rfl rfl rfl) hx4 g5 q10 ?_
    refine mE_M m12 ?_
    obtain ⟨g13, w⟩ := w.ogd
    refine mE_iinc (ls2 := [some (.ref 125), some (.ref 3), some (.ref r2), some (.int y3), some (.int (Int32.ofInt (x4 + (-1))))]) c192_65 rfl (Nat.le_of_ble_eq_true rfl) rfl ?_
    refine mE_goto (t := 31) c192_68 rfl ?_
    exact w.osome g13 _
theorem t192_31 {X : Nat × Nat × qC} {d : Nat} {r2 : Nat} {x4 : Int} {M : Mm} {y3 : Int32} {R : Int × Mm → Prop} (hr2 : isSt X.1 r2) (hx4 : R4 x4) (w : Wp (f192_31 r2 x4 M) R) : mE X (d + 2) 192 1 31 [some (.ref 125), some (.ref 3), some (.ref r2), some (.int y3), some (.int (Int32.ofInt x4))] [] M (fun v M2 => R (v, M2)) :=
  Wp.olp (f := fun s : Int × Mm => lb192_31 r2 s.1 s.2) (s := (x4, M)) (E := E192_31 X d r2 R) w (fun s w hx4 _ => tb192_31 hr2 hx4 w) hx4 _
noncomputable def f192 (r2 : Nat) (M : Mm) : Option (Int × Mm) :=
  (f213 r2 1 131 M).bind fun M2 =>
  gd (R4 ((bShl 1 (M2 3 2)) - 1)) (
  gd (0 ≤ ((bShl 1 (M2 3 2)) - 1) ∧ ((bShl 1 (M2 3 2)) - 1) < 512) (
  mlet (ms M2 129 (((bShl 1 (M2 3 2)) - 1)).toNat 0) fun M7 =>
  gd (R4 (((bShl 1 (M2 3 2)) - 1) - 1)) (
  f192_31 r2 (((bShl 1 (M2 3 2)) - 1) - 1) M7)))
theorem t192 {X : Nat × Nat × qC} {d : Nat} {r2 : Nat} {M : Mm}  {R : Int × Mm → Prop} (hr2 : isSt X.1 r2) (w : Wp (f192 r2 M) R) : mE X (d + 2) 192 1 0 [some (.ref 125), some (.ref 3), some (.ref r2), none, none] [] M (fun v M2 => R (v, M2)) := by
  refine mE_aload_n c192_0 rfl ?_
  refine mE_aload_n c192_1 rfl ?_
  refine mE_iconst c192_2 ?_
  refine mE_aload_n c192_3 rfl ?_
  refine mE_getA c192_4 qo192 qF1_28 (ok_lit rfl rfl rfl) rfl ⟨by decide, by decide⟩ ?_
  refine mE_virtual0 (b := 3) (as := [.ref r2, .int (Int32.ofInt 1), .ref 131]) (r := []) c192_7 qo192 qK1_31 qo213 rfl rfl rfl (ok_lit rfl rfl rfl) (Nat.le_of_ble_eq_true rfl) (s213 (d := d + 0) hr2 (r4_n rfl) (ok_lit rfl rfl rfl) w.obind) ?_
  intro _ M2 w
  refine mE_iconst c192_10 ?_
  refine mE_aload_n c192_11 rfl ?_
  refine mE_getI c192_12 qo192 qF1_37 (ok_lit rfl rfl rfl) rfl ?_
  intro u4
  refine mE_ishl c192_15 ?_
  refine mE_iconst c192_16 ?_
  obtain ⟨g5, w⟩ := w.ogd
  refine mE_isub c192_17 ?_
  refine mE_istore_n (ls2 := [some (.ref 125), some (.ref 3), some (.ref r2), some (.int (Int32.ofInt ((bShl 1 (M2 3 2)) - 1))), none]) c192_18 (Nat.le_of_ble_eq_true rfl) rfl ?_
  refine mE_aload_n c192_19 rfl ?_
  refine mE_getA c192_20 qo192 qF1_22 (ok_lit rfl rfl rfl) rfl ⟨by decide, by decide⟩ ?_
  refine mE_iload_n c192_23 rfl ?_
  refine mE_iconst c192_24 ?_
  obtain ⟨g6, w⟩ := w.ogd
  obtain ⟨M7, m8, w⟩ := w.mlet
  refine mE_iastore c192_25 (ok_lit rfl rfl rfl) g5 g6 (r4_n rfl) ?_
  refine mE_M m8 ?_
  refine mE_iload_n c192_26 rfl ?_
  refine mE_iconst c192_27 ?_
  obtain ⟨g9, w⟩ := w.ogd
  refine mE_isub c192_28 ?_
  refine mE_istore (ls2 := [some (.ref 125), some (.ref 3), some (.ref r2), some (.int (Int32.ofInt ((bShl 1 (M2 3 2)) - 1))), some (.int (Int32.ofInt (((bShl 1 (M2 3 2)) - 1) - 1)))]) c192_29 (Nat.le_of_ble_eq_true rfl) rfl ?_
  exact t192_31 hr2 g9 w
theorem s192 {X : Nat × Nat × qC} {d : Nat} {r2 : Nat} {M : Mm} {R : Int × Mm → Prop} (hr2 : isSt X.1 r2) (w : Wp (f192 r2 M) R) : mC X (d + 3) 192 1 [.ref 125, .ref 3, .ref r2] M (fun v M2 => R (v, M2)) :=
  mC_of (qent_mk qx192 rfl rfl rfl) (t192 hr2 w)
/-! SaggingNet.again -/
noncomputable def f30_34 (x1 : Int) (M : Mm) : Option (Int × Mm) :=
  obnd (f192 24 M) fun v1 M2 =>
  if v1 = 0 then
  (some ((-2), M2))
  else
  (if x1 = (-1) then
  (some ((M2 129 0), M2))
  else
  (gd (0 ≤ x1 ∧ x1 < 9) (
  some ((M2 128 (x1).toNat), M2))))
theorem t30_34 {X : Nat × Nat × qC} {d : Nat} {x1 : Int} {M : Mm}  {R : Int × Mm → Prop} (hx1 : R4 x1) (w : Wp (f30_34 x1 M) R) : mE X (d + 3) 30 2 34 [some (.ref 2), some (.int (Int32.ofInt x1))] [] M (fun v M2 => R (v, M2)) := by
  refine mE_aload_n c30_34 rfl ?_
  refine mE_getA c30_35 qo30 qF11_76 (ok_lit rfl rfl rfl) rfl ⟨by decide, by decide⟩ ?_
  refine mE_aload_n c30_38 rfl ?_
  refine mE_getA c30_39 qo30 qF11_10 (ok_lit rfl rfl rfl) rfl ⟨by decide, by decide⟩ ?_
  refine mE_aload_n c30_42 rfl ?_
  refine mE_getA c30_43 qo30 qF11_19 (ok_lit rfl rfl rfl) rfl ⟨by decide, by decide⟩ ?_
  refine mE_virtual1 (b := 125) (as := [.ref 3, .ref 24]) (r := []) c30_46 qo30 qK11_327 qo192 rfl rfl rfl (ok_lit rfl rfl rfl) (Nat.le_of_ble_eq_true rfl) (s192 (d := d + 0) isSt_24 w.oc) ?_
  intro v1 M2 q3 w
  by_cases e4 : v1 = 0
  · have w := w.pos e4
    refine mE_if_ne_F (t := 56) c30_49 rfl q3 e4 ?_
    refine mE_ldc2_w (x := (-2)) c30_52 qo30 qJ11_325 rfl ?_
    exact mE_lret c30_55 qr30 (r8_n rfl) w.osome
  · have w := w.neg e4
    refine mE_if_ne_T (t := 56) c30_49 rfl q3 e4 ?_
    refine mE_iload_n c30_56 rfl ?_
    refine mE_iconst c30_57 ?_
    by_cases e5 : x1 = (-1)
    · have w := w.pos e5
      refine mE_icmp_ne_F (t := 74) c30_58 rfl hx1 (r4_n rfl) e5 ?_
      refine mE_aload_n c30_61 rfl ?_
      refine mE_getA c30_62 qo30 qF11_76 (ok_lit rfl rfl rfl) rfl ⟨by decide, by decide⟩ ?_
      refine mE_getA c30_65 qo30 qF11_331 (ok_lit rfl rfl rfl) rfl ⟨by decide, by decide⟩ ?_
      refine mE_iconst c30_68 ?_
      refine mE_iaload c30_69 (ok_lit rfl rfl rfl) (r4_n rfl) (by decide) ?_
      intro u6
      refine mE_i2l c30_70 u6 ?_
      refine mE_goto (t := 84) c30_71 rfl ?_
      exact mE_lret c30_84 qr30 (R4.to8 u6) w.osome
    · have w := w.neg e5
      refine mE_icmp_ne_T (t := 74) c30_58 rfl hx1 (r4_n rfl) e5 ?_
      refine mE_aload_n c30_74 rfl ?_
      refine mE_getA c30_75 qo30 qF11_76 (ok_lit rfl rfl rfl) rfl ⟨by decide, by decide⟩ ?_
      refine mE_getA c30_78 qo30 qF11_334 (ok_lit rfl rfl rfl) rfl ⟨by decide, by decide⟩ ?_
      refine mE_iload_n c30_81 rfl ?_
      obtain ⟨g6, w⟩ := w.ogd
      refine mE_iaload c30_82 (ok_lit rfl rfl rfl) hx1 g6 ?_
      intro u7
      refine mE_i2l c30_83 u7 ?_
      exact mE_lret c30_84 qr30 (R4.to8 u7) w.osome
noncomputable def f30 (x1 : Int) (M : Mm) : Option (Int × Mm) :=
  if (M 3 2) = 0 then
  (some ((-2), M))
  else
  (if x1 = (-1) then
  (f30_34 x1 M)
  else
  ((f216 x1 M).bind fun v4 =>
  if v4 = 0 then
  (some ((-1), M))
  else
  (f30_34 x1 M)))
theorem t30 {X : Nat × Nat × qC} {d : Nat} {x1 : Int} {M : Mm}  {R : Int × Mm → Prop} (hx1 : R4 x1) (w : Wp (f30 x1 M) R) : mE X (d + 3) 30 2 0 [some (.ref 2), some (.int (Int32.ofInt x1))] [] M (fun v M2 => R (v, M2)) := by
  refine mE_aload_n c30_0 rfl ?_
  refine mE_getA c30_1 qo30 qF11_10 (ok_lit rfl rfl rfl) rfl ⟨by decide, by decide⟩ ?_
  refine mE_getI c30_4 qo30 qF11_130 (ok_lit rfl rfl rfl) rfl ?_
  intro u1
  by_cases e2 : (M 3 2) = 0
  · have w := w.pos e2
    refine mE_if_ne_F (t := 14) c30_7 rfl u1 e2 ?_
    refine mE_ldc2_w (x := (-2)) c30_10 qo30 qJ11_325 rfl ?_
    exact mE_lret c30_13 qr30 (r8_n rfl) w.osome
  · have w := w.neg e2
    refine mE_if_ne_T (t := 14) c30_7 rfl u1 e2 ?_
    refine mE_iload_n c30_14 rfl ?_
    refine mE_iconst c30_15 ?_
    by_cases e3 : x1 = (-1)
    · have w := w.pos e3
      refine mE_icmp_eq_T (t := 34) c30_16 rfl hx1 (r4_n rfl) e3 ?_
      exact t30_34 hx1 w
    · have w := w.neg e3
      refine mE_icmp_eq_F (t := 34) c30_16 rfl hx1 (r4_n rfl) e3 ?_
      refine mE_aload_n c30_19 rfl ?_
      refine mE_getA c30_20 qo30 qF11_10 (ok_lit rfl rfl rfl) rfl ⟨by decide, by decide⟩ ?_
      refine mE_iload_n c30_23 rfl ?_
      refine mE_virtual1 (b := 3) (as := [.int (Int32.ofInt x1)]) (r := []) c30_24 qo30 qK11_152 qo216 rfl rfl rfl (ok_lit rfl rfl rfl) (Nat.le_of_ble_eq_true rfl) (s216 (d := d + 2) hx1 w.obind) ?_
      rintro v4 _ q6 ⟨rfl, w⟩
      by_cases e7 : v4 = 0
      · have w := w.pos e7
        refine mE_if_ne_F (t := 34) c30_27 rfl q6 e7 ?_
        refine mE_ldc2_w (x := (-1)) c30_30 qo30 qJ11_272 rfl ?_
        exact mE_lret c30_33 qr30 (r8_n rfl) w.osome
      · have w := w.neg e7
        refine mE_if_ne_T (t := 34) c30_27 rfl q6 e7 ?_
        exact t30_34 hx1 w
theorem s30 {X : Nat × Nat × qC} {d : Nat} {x1 : Int} {M : Mm} {R : Int × Mm → Prop} (hx1 : R4 x1) (w : Wp (f30 x1 M) R) : mC X (d + 4) 30 2 [.ref 2, .int (Int32.ofInt x1)] M (fun v M2 => R (v, M2)) :=
  mC_of (qent_mk qx30 rfl rfl rfl) (t30 hx1 w)
/-! SaggingNet.hasGoneBy -/
noncomputable def f52 (x1 : Int) (M : Mm) : Option (Int) :=
  if x1 < 0 then
  (some 0)
  else
  (if x1 < (M 24 0) then
  (if x1 < 499 then
  (some 1)
  else
  (some 0))
  else
  (some 0))
theorem t52 {X : Nat × Nat × qC} {d : Nat} {x1 : Int} {M : Mm}  {R : Int → Prop} (hx1 : R4 x1) (w : Wp (f52 x1 M) R) : mE X (d + 0) 52 1 0 [some (.ref 2), some (.int (Int32.ofInt x1))] [] M (fun v M2 => M = M2 ∧ R v) := by
  refine mE_iload_n c52_0 rfl ?_
  by_cases e1 : x1 < 0
  · have w := w.pos e1
    refine mE_if_lt_T (t := 26) c52_1 rfl hx1 e1 ?_
    refine mE_iconst c52_26 ?_
    exact mE_zret c52_27 qr52 (Or.inl rfl) ⟨rfl, w.osome⟩
  · have w := w.neg e1
    refine mE_if_lt_F (t := 26) c52_1 rfl hx1 e1 ?_
    refine mE_iload_n c52_4 rfl ?_
    refine mE_aload_n c52_5 rfl ?_
    refine mE_getA c52_6 qo52 qF11_19 (ok_lit rfl rfl rfl) rfl ⟨by decide, by decide⟩ ?_
    refine mE_getI c52_9 qo52 qF11_97 (ok_lit rfl rfl rfl) rfl ?_
    intro u2
    by_cases e3 : x1 < (M 24 0)
    · have w := w.pos e3
      refine mE_icmp_ge_F (t := 26) c52_12 rfl hx1 u2 e3 ?_
      refine mE_iload_n c52_15 rfl ?_
      refine mE_sipush (x := 499) c52_16 rfl ?_
      by_cases e4 : x1 < 499
      · have w := w.pos e4
        refine mE_icmp_ge_F (t := 26) c52_19 rfl hx1 (r4_n rfl) e4 ?_
        refine mE_iconst c52_22 ?_
        refine mE_goto (t := 27) c52_23 rfl ?_
        exact mE_zret c52_27 qr52 (Or.inr rfl) ⟨rfl, w.osome⟩
      · have w := w.neg e4
        refine mE_icmp_ge_T (t := 26) c52_19 rfl hx1 (r4_n rfl) e4 ?_
        refine mE_iconst c52_26 ?_
        exact mE_zret c52_27 qr52 (Or.inl rfl) ⟨rfl, w.osome⟩
    · have w := w.neg e3
      refine mE_icmp_ge_T (t := 26) c52_12 rfl hx1 u2 e3 ?_
      refine mE_iconst c52_26 ?_
      exact mE_zret c52_27 qr52 (Or.inl rfl) ⟨rfl, w.osome⟩
theorem s52 {X : Nat × Nat × qC} {d : Nat} {x1 : Int} {M : Mm} {R : Int → Prop} (hx1 : R4 x1) (w : Wp (f52 x1 M) R) : mC X (d + 1) 52 1 [.ref 2, .int (Int32.ofInt x1)] M (fun v M2 => M = M2 ∧ R v) :=
  mC_of (qent_mk qx52 rfl rfl rfl) (t52 hx1 w)
/-! SaggingNet.bear -/
noncomputable def f31 (x1 : Int) (M : Mm) : Option (Int) :=
  (f52 x1 M).bind fun v1 =>
  if v1 = 0 then
  (some (-1))
  else
  (gd (0 ≤ x1 ∧ x1 < 499) (
  some (M 30 (x1).toNat)))
theorem t31 {X : Nat × Nat × qC} {d : Nat} {x1 : Int} {M : Mm}  {R : Int → Prop} (hx1 : R4 x1) (w : Wp (f31 x1 M) R) : mE X (d + 1) 31 1 0 [some (.ref 2), some (.int (Int32.ofInt x1))] [] M (fun v M2 => M = M2 ∧ R v) := by
  refine mE_aload_n c31_0 rfl ?_
  refine mE_iload_n c31_1 rfl ?_
  refine mE_virtual1 (b := 2) (as := [.int (Int32.ofInt x1)]) (r := []) c31_2 qo31 qK11_258 qo52 rfl rfl rfl (ok_lit rfl rfl rfl) (Nat.le_of_ble_eq_true rfl) (s52 (d := d + 0) hx1 w.obind) ?_
  rintro v1 _ q3 ⟨rfl, w⟩
  by_cases e4 : v1 = 0
  · have w := w.pos e4
    refine mE_if_eq_T (t := 17) c31_5 rfl q3 e4 ?_
    refine mE_iconst c31_17 ?_
    exact mE_iret c31_18 qr31 (r4_n rfl) ⟨rfl, w.osome⟩
  · have w := w.neg e4
    refine mE_if_eq_F (t := 17) c31_5 rfl q3 e4 ?_
    refine mE_aload_n c31_8 rfl ?_
    refine mE_getA c31_9 qo31 qF11_27 (ok_lit rfl rfl rfl) rfl ⟨by decide, by decide⟩ ?_
    refine mE_iload_n c31_12 rfl ?_
    obtain ⟨g5, w⟩ := w.ogd
    refine mE_iaload c31_13 (ok_lit rfl rfl rfl) hx1 g5 ?_
    intro u6
    refine mE_goto (t := 18) c31_14 rfl ?_
    exact mE_iret c31_18 qr31 u6 ⟨rfl, w.osome⟩
theorem s31 {X : Nat × Nat × qC} {d : Nat} {x1 : Int} {M : Mm} {R : Int → Prop} (hx1 : R4 x1) (w : Wp (f31 x1 M) R) : mC X (d + 2) 31 1 [.ref 2, .int (Int32.ofInt x1)] M (fun v M2 => M = M2 ∧ R v) :=
  mC_of (qent_mk qx31 rfl rfl rfl) (t31 hx1 w)
/-! SaggingNet$Clocks.hasRow -/
noncomputable def f203 (x1 : Int) (M : Mm) : Option (Int) :=
  if x1 < 0 then
  (some 0)
  else
  (if x1 < (M 112 0) then
  (some 1)
  else
  (some 0))
theorem t203 {X : Nat × Nat × qC} {d : Nat} {x1 : Int} {M : Mm}  {R : Int → Prop} (hx1 : R4 x1) (w : Wp (f203 x1 M) R) : mE X (d + 0) 203 1 0 [some (.ref 112), some (.int (Int32.ofInt x1))] [] M (fun v M2 => M = M2 ∧ R v) := by
  refine mE_iload_n c203_0 rfl ?_
  by_cases e1 : x1 < 0
  · have w := w.pos e1
    refine mE_if_lt_T (t := 16) c203_1 rfl hx1 e1 ?_
    refine mE_iconst c203_16 ?_
    exact mE_zret c203_17 qr203 (Or.inl rfl) ⟨rfl, w.osome⟩
  · have w := w.neg e1
    refine mE_if_lt_F (t := 16) c203_1 rfl hx1 e1 ?_
    refine mE_iload_n c203_4 rfl ?_
    refine mE_aload_n c203_5 rfl ?_
    refine mE_getI c203_6 qo203 qF2_35 (ok_lit rfl rfl rfl) rfl ?_
    intro u2
    by_cases e3 : x1 < (M 112 0)
    · have w := w.pos e3
      refine mE_icmp_ge_F (t := 16) c203_9 rfl hx1 u2 e3 ?_
      refine mE_iconst c203_12 ?_
      refine mE_goto (t := 17) c203_13 rfl ?_
      exact mE_zret c203_17 qr203 (Or.inr rfl) ⟨rfl, w.osome⟩
    · have w := w.neg e3
      refine mE_icmp_ge_T (t := 16) c203_9 rfl hx1 u2 e3 ?_
      refine mE_iconst c203_16 ?_
      exact mE_zret c203_17 qr203 (Or.inl rfl) ⟨rfl, w.osome⟩
theorem s203 {X : Nat × Nat × qC} {d : Nat} {x1 : Int} {M : Mm} {R : Int → Prop} (hx1 : R4 x1) (w : Wp (f203 x1 M) R) : mC X (d + 1) 203 1 [.ref 112, .int (Int32.ofInt x1)] M (fun v M2 => M = M2 ∧ R v) :=
  mC_of (qent_mk qx203 rfl rfl rfl) (t203 hx1 w)
/-! SaggingNet$Clocks.addTold -/
noncomputable def f199 (x1 : Int) (x2 : Int) (M : Mm) : Option (Mm) :=
  gd (0 ≤ (M 112 1) ∧ (M 112 1) < 100) (
  mlet (ms M 117 ((M 112 1)).toNat x1) fun M3 =>
  gd (0 ≤ (M3 112 1) ∧ (M3 112 1) < 100) (
  mlet (ms M3 118 ((M3 112 1)).toNat x2) fun M7 =>
  gd (R4 ((M7 112 1) + 1)) (
  mlet (ms M7 112 1 ((M7 112 1) + 1)) fun M11 =>
  some M11)))
theorem t199 {X : Nat × Nat × qC} {d : Nat} {x1 : Int} {x2 : Int} {M : Mm}  {R : Mm → Prop} (hx1 : R4 x1) (hx2 : R4 x2) (w : Wp (f199 x1 x2 M) R) : mE X (d + 0) 199 0 0 [some (.ref 112), some (.int (Int32.ofInt x1)), some (.int (Int32.ofInt x2))] [] M (fun v M2 => R M2) := by
  refine mE_aload_n c199_0 rfl ?_
  refine mE_getA c199_1 qo199 qF2_24 (ok_lit rfl rfl rfl) rfl ⟨by decide, by decide⟩ ?_
  refine mE_aload_n c199_4 rfl ?_
  refine mE_getI c199_5 qo199 qF2_39 (ok_lit rfl rfl rfl) rfl ?_
  intro u1
  refine mE_iload_n c199_8 rfl ?_
  obtain ⟨g2, w⟩ := w.ogd
  obtain ⟨M3, m4, w⟩ := w.mlet
  refine mE_iastore c199_9 (ok_lit rfl rfl rfl) u1 g2 hx1 ?_
  refine mE_M m4 ?_
  refine mE_aload_n c199_10 rfl ?_
  refine mE_getA c199_11 qo199 qF2_27 (ok_lit rfl rfl rfl) rfl ⟨by decide, by decide⟩ ?_
  refine mE_aload_n c199_14 rfl ?_
  refine mE_getI c199_15 qo199 qF2_39 (ok_lit rfl rfl rfl) rfl ?_
  intro u5
  refine mE_iload_n c199_18 rfl ?_
  obtain ⟨g6, w⟩ := w.ogd
  obtain ⟨M7, m8, w⟩ := w.mlet
  refine mE_iastore c199_19 (ok_lit rfl rfl rfl) u5 g6 hx2 ?_
  refine mE_M m8 ?_
  refine mE_aload_n c199_20 rfl ?_
  refine mE_dup c199_21 rfl ?_
  refine mE_getI c199_22 qo199 qF2_39 (ok_lit rfl rfl rfl) rfl ?_
  intro u9
  refine mE_iconst c199_25 ?_
  obtain ⟨g10, w⟩ := w.ogd
  refine mE_iadd c199_26 ?_
  obtain ⟨M11, m12, w⟩ := w.mlet
  refine mE_putI c199_27 qo199 qF2_39 qz2_1 (ok_lit rfl rfl rfl) (Nat.le_of_ble_eq_true rfl) rfl g10 (by rw [qy2_1]; rfl) ?_
  refine mE_M m12 ?_
  exact mE_vret c199_30 qr199 w.osome
theorem s199 {X : Nat × Nat × qC} {d : Nat} {x1 : Int} {x2 : Int} {M : Mm} {R : Mm → Prop} (hx1 : R4 x1) (hx2 : R4 x2) (w : Wp (f199 x1 x2 M) R) : mC X (d + 1) 199 0 [.ref 112, .int (Int32.ofInt x1), .int (Int32.ofInt x2)] M (fun v M2 => R M2) :=
  mC_of (qent_mk qx199 rfl rfl rfl) (t199 hx1 hx2 w)
/-! SaggingNet.before -/
noncomputable def f32 (x1 : Int) (x2 : Int) (M : Mm) : Option (Int × Mm) :=
  (f203 x1 M).bind fun v1 =>
  if v1 = 0 then
  (some (0, M))
  else
  ((f203 x2 M).bind fun v5 =>
  if v5 = 0 then
  (some (0, M))
  else
  (if x1 = x2 then
  (some (0, M))
  else
  (if (M 112 1) < 100 then
  ((f199 x1 x2 M).bind fun M13 =>
  some (1, M13))
  else
  (some (0, M)))))
theorem t32 {X : Nat × Nat × qC} {d : Nat} {x1 : Int} {x2 : Int} {M : Mm}  {R : Int × Mm → Prop} (hx1 : R4 x1) (hx2 : R4 x2) (w : Wp (f32 x1 x2 M) R) : mE X (d + 1) 32 1 0 [some (.ref 2), some (.int (Int32.ofInt x1)), some (.int (Int32.ofInt x2))] [] M (fun v M2 => R (v, M2)) := by
  refine mE_aload_n c32_0 rfl ?_
  refine mE_getA c32_1 qo32 qF11_69 (ok_lit rfl rfl rfl) rfl ⟨by decide, by decide⟩ ?_
  refine mE_iload_n c32_4 rfl ?_
  refine mE_virtual1 (b := 112) (as := [.int (Int32.ofInt x1)]) (r := []) c32_5 qo32 qK11_309 qo203 rfl rfl rfl (ok_lit rfl rfl rfl) (Nat.le_of_ble_eq_true rfl) (s203 (d := d + 0) hx1 w.obind) ?_
  rintro v1 _ q3 ⟨rfl, w⟩
  by_cases e4 : v1 = 0
  · have w := w.pos e4
    refine mE_if_eq_T (t := 39) c32_8 rfl q3 e4 ?_
    refine mE_iconst c32_39 ?_
    exact mE_zret c32_40 qr32 (Or.inl rfl) w.osome
  · have w := w.neg e4
    refine mE_if_eq_F (t := 39) c32_8 rfl q3 e4 ?_
    refine mE_aload_n c32_11 rfl ?_
    refine mE_getA c32_12 qo32 qF11_69 (ok_lit rfl rfl rfl) rfl ⟨by decide, by decide⟩ ?_
    refine mE_iload_n c32_15 rfl ?_
    refine mE_virtual1 (b := 112) (as := [.int (Int32.ofInt x2)]) (r := []) c32_16 qo32 qK11_309 qo203 rfl rfl rfl (ok_lit rfl rfl rfl) (Nat.le_of_ble_eq_true rfl) (s203 (d := d + 0) hx2 w.obind) ?_
    rintro v5 _ q7 ⟨rfl, w⟩
    by_cases e8 : v5 = 0
    · have w := w.pos e8
      refine mE_if_eq_T (t := 39) c32_19 rfl q7 e8 ?_
      refine mE_iconst c32_39 ?_
      exact mE_zret c32_40 qr32 (Or.inl rfl) w.osome
    · have w := w.neg e8
      refine mE_if_eq_F (t := 39) c32_19 rfl q7 e8 ?_
      refine mE_iload_n c32_22 rfl ?_
      refine mE_iload_n c32_23 rfl ?_
      by_cases e9 : x1 = x2
      · have w := w.pos e9
        refine mE_icmp_eq_T (t := 39) c32_24 rfl hx1 hx2 e9 ?_
        refine mE_iconst c32_39 ?_
        exact mE_zret c32_40 qr32 (Or.inl rfl) w.osome
      · have w := w.neg e9
        refine mE_icmp_eq_F (t := 39) c32_24 rfl hx1 hx2 e9 ?_
        refine mE_aload_n c32_27 rfl ?_
        refine mE_getA c32_28 qo32 qF11_69 (ok_lit rfl rfl rfl) rfl ⟨by decide, by decide⟩ ?_
        refine mE_getI c32_31 qo32 qF11_312 (ok_lit rfl rfl rfl) rfl ?_
        intro u10
        refine mE_bipush (x := 100) c32_34 rfl ?_
        by_cases e11 : (M 112 1) < 100
        · have w := w.pos e11
          refine mE_icmp_lt_T (t := 41) c32_36 rfl u10 (r4_n rfl) e11 ?_
          refine mE_aload_n c32_41 rfl ?_
          refine mE_getA c32_42 qo32 qF11_69 (ok_lit rfl rfl rfl) rfl ⟨by decide, by decide⟩ ?_
          refine mE_iload_n c32_45 rfl ?_
          refine mE_iload_n c32_46 rfl ?_
          refine mE_virtual0 (b := 112) (as := [.int (Int32.ofInt x1), .int (Int32.ofInt x2)]) (r := []) c32_47 qo32 qK11_314 qo199 rfl rfl rfl (ok_lit rfl rfl rfl) (Nat.le_of_ble_eq_true rfl) (s199 (d := d + 0) hx1 hx2 w.obind) ?_
          intro _ M13 w
          refine mE_iconst c32_50 ?_
          exact mE_zret c32_51 qr32 (Or.inr rfl) w.osome
        · have w := w.neg e11
          refine mE_icmp_lt_F (t := 41) c32_36 rfl u10 (r4_n rfl) e11 ?_
          refine mE_iconst c32_39 ?_
          exact mE_zret c32_40 qr32 (Or.inl rfl) w.osome
theorem s32 {X : Nat × Nat × qC} {d : Nat} {x1 : Int} {x2 : Int} {M : Mm} {R : Int × Mm → Prop} (hx1 : R4 x1) (hx2 : R4 x2) (w : Wp (f32 x1 x2 M) R) : mC X (d + 2) 32 1 [.ref 2, .int (Int32.ofInt x1), .int (Int32.ofInt x2)] M (fun v M2 => R (v, M2)) :=
  mC_of (qent_mk qx32 rfl rfl rfl) (t32 hx1 hx2 w)
/-! SaggingNet.within -/
noncomputable def f80 (x0 : Int) (x1 : Int) (x2 : Int) (M : Mm) : Option (Int) :=
  if x0 < x1 then
  (some 0)
  else
  (if x2 < x0 then
  (some 0)
  else
  (some 1))
theorem t80 {X : Nat × Nat × qC} {d : Nat} {x0 : Int} {x1 : Int} {x2 : Int} {M : Mm}  {R : Int → Prop} (hx0 : R4 x0) (hx1 : R4 x1) (hx2 : R4 x2) (w : Wp (f80 x0 x1 x2 M) R) : mE X (d + 0) 80 1 0 [some (.int (Int32.ofInt x0)), some (.int (Int32.ofInt x1)), some (.int (Int32.ofInt x2))] [] M (fun v M2 => M = M2 ∧ R v) := by
  refine mE_iload_n c80_0 rfl ?_
  refine mE_iload_n c80_1 rfl ?_
  by_cases e1 : x0 < x1
  · have w := w.pos e1
    refine mE_icmp_gt_T (t := 14) c80_2 rfl hx1 hx0 e1 ?_
    refine mE_iconst c80_14 ?_
    exact mE_zret c80_15 qr80 (Or.inl rfl) ⟨rfl, w.osome⟩
  · have w := w.neg e1
    refine mE_icmp_gt_F (t := 14) c80_2 rfl hx1 hx0 e1 ?_
    refine mE_iload_n c80_5 rfl ?_
    refine mE_iload_n c80_6 rfl ?_
    by_cases e2 : x2 < x0
    · have w := w.pos e2
      refine mE_icmp_gt_T (t := 14) c80_7 rfl hx0 hx2 e2 ?_
      refine mE_iconst c80_14 ?_
      exact mE_zret c80_15 qr80 (Or.inl rfl) ⟨rfl, w.osome⟩
    · have w := w.neg e2
      refine mE_icmp_gt_F (t := 14) c80_7 rfl hx0 hx2 e2 ?_
      refine mE_iconst c80_10 ?_
      refine mE_goto (t := 15) c80_11 rfl ?_
      exact mE_zret c80_15 qr80 (Or.inr rfl) ⟨rfl, w.osome⟩
theorem s80 {X : Nat × Nat × qC} {d : Nat} {x0 : Int} {x1 : Int} {x2 : Int} {M : Mm} {R : Int → Prop} (hx0 : R4 x0) (hx1 : R4 x1) (hx2 : R4 x2) (w : Wp (f80 x0 x1 x2 M) R) : mC X (d + 1) 80 1 [.int (Int32.ofInt x0), .int (Int32.ofInt x1), .int (Int32.ofInt x2)] M (fun v M2 => M = M2 ∧ R v) :=
  mC_of (qent_mk qx80 rfl rfl rfl) (t80 hx0 hx1 hx2 w)
/-! SaggingNet.begins -/
noncomputable def f33 (x1 : Int) (x2 : Int) (x3 : Int) (M : Mm) : Option (Int × Mm) :=
  (f216 x1 M).bind fun v1 =>
  if v1 = 0 then
  (some (0, M))
  else
  ((f80 x3 1 100 M).bind fun v5 =>
  if v5 = 0 then
  (some (0, M))
  else
  (gd (0 ≤ x1 ∧ x1 < 9) (
  gd (x2 = 0 ∨ x2 = 1) (
  mlet (ms M 126 (x1).toNat x2) fun M11 =>
  mlet (ms M11 127 (x1).toNat x3) fun M13 =>
  some (1, M13)))))
theorem t33 {X : Nat × Nat × qC} {d : Nat} {x1 : Int} {x2 : Int} {x3 : Int} {M : Mm}  {R : Int × Mm → Prop} (hx1 : R4 x1) (hx2 : R4 x2) (hx3 : R4 x3) (w : Wp (f33 x1 x2 x3 M) R) : mE X (d + 1) 33 1 0 [some (.ref 2), some (.int (Int32.ofInt x1)), some (.int (Int32.ofInt x2)), some (.int (Int32.ofInt x3))] [] M (fun v M2 => R (v, M2)) := by
  refine mE_aload_n c33_0 rfl ?_
  refine mE_getA c33_1 qo33 qF11_10 (ok_lit rfl rfl rfl) rfl ⟨by decide, by decide⟩ ?_
  refine mE_iload_n c33_4 rfl ?_
  refine mE_virtual1 (b := 3) (as := [.int (Int32.ofInt x1)]) (r := []) c33_5 qo33 qK11_152 qo216 rfl rfl rfl (ok_lit rfl rfl rfl) (Nat.le_of_ble_eq_true rfl) (s216 (d := d + 0) hx1 w.obind) ?_
  rintro v1 _ q3 ⟨rfl, w⟩
  by_cases e4 : v1 = 0
  · have w := w.pos e4
    refine mE_if_eq_T (t := 21) c33_8 rfl q3 e4 ?_
    refine mE_iconst c33_21 ?_
    exact mE_zret c33_22 qr33 (Or.inl rfl) w.osome
  · have w := w.neg e4
    refine mE_if_eq_F (t := 21) c33_8 rfl q3 e4 ?_
    refine mE_iload_n c33_11 rfl ?_
    refine mE_iconst c33_12 ?_
    refine mE_bipush (x := 100) c33_13 rfl ?_
    refine mE_static1 (as := [.int (Int32.ofInt x3), .int (Int32.ofInt 1), .int (Int32.ofInt 100)]) (r := []) c33_15 qo33 (by decide) qK11_108 rfl rfl rfl (Nat.le_of_ble_eq_true rfl) (s80 (d := d + 0) hx3 (r4_n rfl) (r4_n rfl) w.obind) ?_
    rintro v5 _ q7 ⟨rfl, w⟩
    by_cases e8 : v5 = 0
    · have w := w.pos e8
      refine mE_if_ne_F (t := 23) c33_18 rfl q7 e8 ?_
      refine mE_iconst c33_21 ?_
      exact mE_zret c33_22 qr33 (Or.inl rfl) w.osome
    · have w := w.neg e8
      refine mE_if_ne_T (t := 23) c33_18 rfl q7 e8 ?_
      refine mE_aload_n c33_23 rfl ?_
      refine mE_getA c33_24 qo33 qF11_76 (ok_lit rfl rfl rfl) rfl ⟨by decide, by decide⟩ ?_
      refine mE_getA c33_27 qo33 qF11_321 (ok_lit rfl rfl rfl) rfl ⟨by decide, by decide⟩ ?_
      refine mE_iload_n c33_30 rfl ?_
      refine mE_iload_n c33_31 rfl ?_
      obtain ⟨g9, w⟩ := w.ogd
      obtain ⟨g10, w⟩ := w.ogd
      obtain ⟨M11, m12, w⟩ := w.mlet
      refine mE_zastore c33_32 (ok_lit rfl rfl rfl) hx1 g9 g10 ?_
      refine mE_M m12 ?_
      refine mE_aload_n c33_33 rfl ?_
      refine mE_getA c33_34 qo33 qF11_76 (ok_lit rfl rfl rfl) rfl ⟨by decide, by decide⟩ ?_
      refine mE_getA c33_37 qo33 qF11_324 (ok_lit rfl rfl rfl) rfl ⟨by decide, by decide⟩ ?_
      refine mE_iload_n c33_40 rfl ?_
      refine mE_iload_n c33_41 rfl ?_
      obtain ⟨M13, m14, w⟩ := w.mlet
      refine mE_iastore c33_42 (ok_lit rfl rfl rfl) hx1 g9 hx3 ?_
      refine mE_M m14 ?_
      refine mE_iconst c33_43 ?_
      exact mE_zret c33_44 qr33 (Or.inr rfl) w.osome
theorem s33 {X : Nat × Nat × qC} {d : Nat} {x1 : Int} {x2 : Int} {x3 : Int} {M : Mm} {R : Int × Mm → Prop} (hx1 : R4 x1) (hx2 : R4 x2) (hx3 : R4 x3) (w : Wp (f33 x1 x2 x3 M) R) : mC X (d + 2) 33 1 [.ref 2, .int (Int32.ofInt x1), .int (Int32.ofInt x2), .int (Int32.ofInt x3)] M (fun v M2 => R (v, M2)) :=
  mC_of (qent_mk qx33 rfl rfl rfl) (t33 hx1 hx2 hx3 w)
/-! SaggingNet.findTreed -/
def E47_4 (X : Nat × Nat × qC) (d : Nat)  (R : Int × Mm → Prop) : Int × Int × Mm → Prop := fun s => R4 s.1 → R4 s.2.1 → mE X (d + 0) 47 1 4 [some (.ref 2), some (.int (Int32.ofInt s.1)), some (.int (Int32.ofInt s.2.1))] [] s.2.2 (fun v M2 => R (v, M2))
noncomputable def f47_55 (x1 : Int) (x2 : Int) (M : Mm) : Option ((Int × Int × Mm) ⊕ (Int × Mm)) :=
  gd (R4 (x2 + 1)) (
  some (.inl (x1, (x2 + 1), M)))
theorem t47_55 {X : Nat × Nat × qC} {d : Nat} {x1 : Int} {x2 : Int} {M : Mm}  {R : Int × Mm → Prop} (hx1 : R4 x1) (hx2 : R4 x2) (w : Wp (f47_55 x1 x2 M) (Sum.elim (E47_4 X d  R) R)) : mE X (d + 0) 47 1 55 [some (.ref 2), some (.int (Int32.ofInt x1)), some (.int (Int32.ofInt x2))] [] M (fun v M2 => R (v, M2)) := by
  obtain ⟨g1, w⟩ := w.ogd
  refine mE_iinc (ls2 := [some (.ref 2), some (.int (Int32.ofInt x1)), some (.int (Int32.ofInt (x2 + 1)))]) c47_55 rfl (Nat.le_of_ble_eq_true rfl) rfl ?_
  refine mE_goto (t := 4) c47_58 rfl ?_
  exact w.osome hx1 g1
noncomputable def lb47_4 (x1 : Int) (x2 : Int) (M : Mm) : Option ((Int × Int × Mm) ⊕ (Int × Mm)) :=
  if x2 < (M 3 1) then
  (if x1 < 8 then
  (gd (0 ≤ x2 ∧ x2 < 14) (
  if (M 26 (x2).toNat) = 0 then
  (if 0 < (M 28 (x2).toNat) then
  (gd (0 ≤ x1 ∧ x1 < 8) (
  mlet (ms M 134 (x1).toNat x2) fun M10 =>
  gd (R4 (x1 + 1)) (
  f47_55 (x1 + 1) x2 M10)))
  else
  (f47_55 x1 x2 M))
  else
  (f47_55 x1 x2 M)))
  else
  (oinr (some (x1, M))))
  else
  (oinr (some (x1, M)))
noncomputable def f47_4 (x1 : Int) (x2 : Int) (M : Mm) : Option (Int × Mm) := lp (fun s : Int × Int × Mm => lb47_4  s.1 s.2.1 s.2.2) (x1, x2, M)
theorem tb47_4 {X : Nat × Nat × qC} {d : Nat} {x1 : Int} {x2 : Int} {M : Mm}  {R : Int × Mm → Prop} (hx1 : R4 x1) (hx2 : R4 x2) (w : Wp (lb47_4 x1 x2 M) (Sum.elim (E47_4 X d  R) R)) : mE X (d + 0) 47 1 4 [some (.ref 2), some (.int (Int32.ofInt x1)), some (.int (Int32.ofInt x2))] [] M (fun v M2 => R (v, M2)) := by
  refine mE_iload_n c47_4 rfl ?_
  refine mE_aload_n c47_5 rfl ?_
  refine mE_getA c47_6 qo47 qF11_10 (ok_lit rfl rfl rfl) rfl ⟨by decide, by decide⟩ ?_
  refine mE_getI c47_9 qo47 qF11_119 (ok_lit rfl rfl rfl) rfl ?_
  intro u1
  by_cases e2 : x2 < (M 3 1)
  · have w := w.pos e2
    refine mE_icmp_ge_F (t := 61) c47_12 rfl hx2 u1 e2 ?_
    refine mE_iload_n c47_15 rfl ?_
    refine mE_bipush (x := 8) c47_16 rfl ?_
    by_cases e3 : x1 < 8
    · have w := w.pos e3
      refine mE_icmp_ge_F (t := 61) c47_18 rfl hx1 (r4_n rfl) e3 ?_
      refine mE_aload_n c47_21 rfl ?_
      refine mE_getA c47_22 qo47 qF11_19 (ok_lit rfl rfl rfl) rfl ⟨by decide, by decide⟩ ?_
      refine mE_getA c47_25 qo47 qF11_149 (ok_lit rfl rfl rfl) rfl ⟨by decide, by decide⟩ ?_
      refine mE_iload_n c47_28 rfl ?_
      obtain ⟨g4, w⟩ := w.ogd
      refine mE_iaload c47_29 (ok_lit rfl rfl rfl) hx2 g4 ?_
      intro u5
      by_cases e6 : (M 26 (x2).toNat) = 0
      · have w := w.pos e6
        refine mE_if_ne_F (t := 55) c47_30 rfl u5 e6 ?_
        refine mE_aload_n c47_33 rfl ?_
        refine mE_getA c47_34 qo47 qF11_19 (ok_lit rfl rfl rfl) rfl ⟨by decide, by decide⟩ ?_
        refine mE_getA c47_37 qo47 qF11_143 (ok_lit rfl rfl rfl) rfl ⟨by decide, by decide⟩ ?_
        refine mE_iload_n c47_40 rfl ?_
        refine mE_iaload c47_41 (ok_lit rfl rfl rfl) hx2 g4 ?_
        intro u7
        by_cases e8 : 0 < (M 28 (x2).toNat)
        · have w := w.pos e8
          refine mE_if_le_F (t := 55) c47_42 rfl u7 e8 ?_
          refine mE_aload_n c47_45 rfl ?_
          refine mE_getA c47_46 qo47 qF11_87 (ok_lit rfl rfl rfl) rfl ⟨by decide, by decide⟩ ?_
          refine mE_iload_n c47_49 rfl ?_
          refine mE_iload_n c47_50 rfl ?_
          obtain ⟨g9, w⟩ := w.ogd
          obtain ⟨M10, m11, w⟩ := w.mlet
          refine mE_iastore c47_51 (ok_lit rfl rfl rfl) hx1 g9 hx2 ?_
          refine mE_M m11 ?_
          obtain ⟨g12, w⟩ := w.ogd
          refine mE_iinc (ls2 := [some (.ref 2), some (.int (Int32.ofInt (x1 + 1))), some (.int (Int32.ofInt x2))]) c47_52 rfl (Nat.le_of_ble_eq_true rfl) rfl ?_
          exact t47_55 g12 hx2 w
        · have w := w.neg e8
          refine mE_if_le_T (t := 55) c47_42 rfl u7 e8 ?_
          exact t47_55 hx1 hx2 w
      · have w := w.neg e6
        refine mE_if_ne_T (t := 55) c47_30 rfl u5 e6 ?_
        exact t47_55 hx1 hx2 w
    · have w := w.neg e3
      refine mE_icmp_ge_T (t := 61) c47_18 rfl hx1 (r4_n rfl) e3 ?_
      have w := w.oinr
      refine mE_iload_n c47_61 rfl ?_
      exact mE_iret c47_62 qr47 hx1 w.osome
  · have w := w.neg e2
    refine mE_icmp_ge_T (t := 61) c47_12 rfl hx2 u1 e2 ?_
    have w := w.oinr
    refine mE_iload_n c47_61 rfl ?_
    exact mE_iret c47_62 qr47 hx1 w.osome
theorem t47_4 {X : Nat × Nat × qC} {d : Nat} {x1 : Int} {x2 : Int} {M : Mm}  {R : Int × Mm → Prop} (hx1 : R4 x1) (hx2 : R4 x2) (w : Wp (f47_4 x1 x2 M) R) : mE X (d + 0) 47 1 4 [some (.ref 2), some (.int (Int32.ofInt x1)), some (.int (Int32.ofInt x2))] [] M (fun v M2 => R (v, M2)) :=
  Wp.olp (f := fun s : Int × Int × Mm => lb47_4  s.1 s.2.1 s.2.2) (s := (x1, x2, M)) (E := E47_4 X d  R) w (fun s w hx1 hx2 => tb47_4 hx1 hx2 w) hx1 hx2
noncomputable def f47  (M : Mm) : Option (Int × Mm) :=
  f47_4 0 0 M
theorem t47 {X : Nat × Nat × qC} {d : Nat}  {M : Mm}  {R : Int × Mm → Prop}  (w : Wp (f47  M) R) : mE X (d + 0) 47 1 0 [some (.ref 2), none, none] [] M (fun v M2 => R (v, M2)) := by
  refine mE_iconst c47_0 ?_
  refine mE_istore_n (ls2 := [some (.ref 2), some (.int (Int32.ofInt 0)), none]) c47_1 (Nat.le_of_ble_eq_true rfl) rfl ?_
  refine mE_iconst c47_2 ?_
  refine mE_istore_n (ls2 := [some (.ref 2), some (.int (Int32.ofInt 0)), some (.int (Int32.ofInt 0))]) c47_3 (Nat.le_of_ble_eq_true rfl) rfl ?_
  exact t47_4 (r4_n rfl) (r4_n rfl) w
theorem s47 {X : Nat × Nat × qC} {d : Nat}  {M : Mm} {R : Int × Mm → Prop}  (w : Wp (f47  M) R) : mC X (d + 1) 47 1 [.ref 2] M (fun v M2 => R (v, M2)) :=
  mC_of (qent_mk qx47 rfl rfl rfl) (t47  w)
/-! SaggingNet$State.loadsOf -/
def E244_4 (X : Nat × Nat × qC) (d : Nat) (r0 : Nat) (x1 : Int) (M : Mm) (R : Int → Prop) : Int × Int → Prop := fun s => R4 s.1 → R4 s.2 → mE X (d + 0) 244 1 4 [some (.ref r0), some (.int (Int32.ofInt x1)), some (.int (Int32.ofInt s.1)), some (.int (Int32.ofInt s.2))] [] M (fun v M2 => M = M2 ∧ R v)
noncomputable def f244_28 (r0 : Nat) (x1 : Int) (x2 : Int) (x3 : Int) (M : Mm) : Option ((Int × Int) ⊕ (Int)) :=
  gd (R4 (x3 + 1)) (
  some (.inl (x2, (x3 + 1))))
theorem t244_28 {X : Nat × Nat × qC} {d : Nat} {r0 : Nat} {x1 : Int} {x2 : Int} {x3 : Int} {M : Mm}  {R : Int → Prop} (hr0 : isSt X.1 r0) (hx1 : R4 x1) (hx2 : R4 x2) (hx3 : R4 x3) (w : Wp (f244_28 r0 x1 x2 x3 M) (Sum.elim (E244_4 X d r0 x1 M R) R)) : mE X (d + 0) 244 1 28 [some (.ref r0), some (.int (Int32.ofInt x1)), some (.int (Int32.ofInt x2)), some (.int (Int32.ofInt x3))] [] M (fun v M2 => M = M2 ∧ R v) := by
  obtain ⟨g1, w⟩ := w.ogd
  refine mE_iinc (ls2 := [some (.ref r0), some (.int (Int32.ofInt x1)), some (.int (Int32.ofInt x2)), some (.int (Int32.ofInt (x3 + 1)))]) c244_28 rfl (Nat.le_of_ble_eq_true rfl) rfl ?_
  refine mE_goto (t := 4) c244_31 rfl ?_
  exact w.osome hx2 g1
noncomputable def lb244_4 (r0 : Nat) (x1 : Int) (x2 : Int) (x3 : Int) (M : Mm) : Option ((Int × Int) ⊕ (Int)) :=
  if x3 < 8 then
  (if (bAnd (bShr x1 x3) 1) = 1 then
  (gd (0 ≤ x3 ∧ x3 < 8) (
  gd (R4 (x2 + (M (r0 + 1) (x3).toNat))) (
  f244_28 r0 x1 (x2 + (M (r0 + 1) (x3).toNat)) x3 M)))
  else
  (f244_28 r0 x1 x2 x3 M))
  else
  (oinr (some x2))
noncomputable def f244_4 (r0 : Nat) (x1 : Int) (x2 : Int) (x3 : Int) (M : Mm) : Option (Int) := lp (fun s : Int × Int => lb244_4 r0 x1 s.1 s.2 M) (x2, x3)
theorem tb244_4 {X : Nat × Nat × qC} {d : Nat} {r0 : Nat} {x1 : Int} {x2 : Int} {x3 : Int} {M : Mm}  {R : Int → Prop} (hr0 : isSt X.1 r0) (hx1 : R4 x1) (hx2 : R4 x2) (hx3 : R4 x3) (w : Wp (lb244_4 r0 x1 x2 x3 M) (Sum.elim (E244_4 X d r0 x1 M R) R)) : mE X (d + 0) 244 1 4 [some (.ref r0), some (.int (Int32.ofInt x1)), some (.int (Int32.ofInt x2)), some (.int (Int32.ofInt x3))] [] M (fun v M2 => M = M2 ∧ R v) := by
  refine mE_iload_n c244_4 rfl ?_
  refine mE_bipush (x := 8) c244_5 rfl ?_
  by_cases e1 : x3 < 8
  · have w := w.pos e1
    refine mE_icmp_ge_F (t := 34) c244_7 rfl hx3 (r4_n rfl) e1 ?_
    refine mE_iload_n c244_10 rfl ?_
    refine mE_iload_n c244_11 rfl ?_
    refine mE_ishr c244_12 ?_
    refine mE_iconst c244_13 ?_
    refine mE_iand c244_14 ?_
    refine mE_iconst c244_15 ?_
    by_cases e2 : (bAnd (bShr x1 x3) 1) = 1
    · have w := w.pos e2
      refine mE_icmp_ne_F (t := 28) c244_16 rfl (r4_and _ _) (r4_n rfl) e2 ?_
      refine mE_iload_n c244_19 rfl ?_
      refine mE_aload_n c244_20 rfl ?_
      refine mE_getA c244_21 qo244 qF8_9 (ok_st0 hr0) rfl (nz_st hr0 _) ?_
      refine mE_iload_n c244_24 rfl ?_
      obtain ⟨g3, w⟩ := w.ogd
      refine mE_iaload c244_25 (ok_st1 hr0) hx3 g3 ?_
      intro u4
      obtain ⟨g5, w⟩ := w.ogd
      refine mE_iadd c244_26 ?_
      refine mE_istore_n (ls2 := [some (.ref r0), some (.int (Int32.ofInt x1)), some (.int (Int32.ofInt (x2 + (M (r0 + 1) (x3).toNat)))), some (.int (Int32.ofInt x3))]) c244_27 (Nat.le_of_ble_eq_true rfl) rfl ?_
      exact t244_28 hr0 hx1 g5 hx3 w
    · have w := w.neg e2
      refine mE_icmp_ne_T (t := 28) c244_16 rfl (r4_and _ _) (r4_n rfl) e2 ?_
      exact t244_28 hr0 hx1 hx2 hx3 w
  · have w := w.neg e1
    refine mE_icmp_ge_T (t := 34) c244_7 rfl hx3 (r4_n rfl) e1 ?_
    have w := w.oinr
    refine mE_iload_n c244_34 rfl ?_
    exact mE_iret c244_35 qr244 hx2 ⟨rfl, w.osome⟩
theorem t244_4 {X : Nat × Nat × qC} {d : Nat} {r0 : Nat} {x1 : Int} {x2 : Int} {x3 : Int} {M : Mm}  {R : Int → Prop} (hr0 : isSt X.1 r0) (hx1 : R4 x1) (hx2 : R4 x2) (hx3 : R4 x3) (w : Wp (f244_4 r0 x1 x2 x3 M) R) : mE X (d + 0) 244 1 4 [some (.ref r0), some (.int (Int32.ofInt x1)), some (.int (Int32.ofInt x2)), some (.int (Int32.ofInt x3))] [] M (fun v M2 => M = M2 ∧ R v) :=
  Wp.olp (f := fun s : Int × Int => lb244_4 r0 x1 s.1 s.2 M) (s := (x2, x3)) (E := E244_4 X d r0 x1 M R) w (fun s w hx2 hx3 => tb244_4 hr0 hx1 hx2 hx3 w) hx2 hx3
noncomputable def f244 (r0 : Nat) (x1 : Int) (M : Mm) : Option (Int) :=
  f244_4 r0 x1 0 0 M
theorem t244 {X : Nat × Nat × qC} {d : Nat} {r0 : Nat} {x1 : Int} {M : Mm}  {R : Int → Prop} (hr0 : isSt X.1 r0) (hx1 : R4 x1) (w : Wp (f244 r0 x1 M) R) : mE X (d + 0) 244 1 0 [some (.ref r0), some (.int (Int32.ofInt x1)), none, none] [] M (fun v M2 => M = M2 ∧ R v) := by
  refine mE_iconst c244_0 ?_
  refine mE_istore_n (ls2 := [some (.ref r0), some (.int (Int32.ofInt x1)), some (.int (Int32.ofInt 0)), none]) c244_1 (Nat.le_of_ble_eq_true rfl) rfl ?_
  refine mE_iconst c244_2 ?_
  refine mE_istore_n (ls2 := [some (.ref r0), some (.int (Int32.ofInt x1)), some (.int (Int32.ofInt 0)), some (.int (Int32.ofInt 0))]) c244_3 (Nat.le_of_ble_eq_true rfl) rfl ?_
  exact t244_4 hr0 hx1 (r4_n rfl) (r4_n rfl) w
theorem s244 {X : Nat × Nat × qC} {d : Nat} {r0 : Nat} {x1 : Int} {M : Mm} {R : Int → Prop} (hr0 : isSt X.1 r0) (hx1 : R4 x1) (w : Wp (f244 r0 x1 M) R) : mC X (d + 1) 244 1 [.ref r0, .int (Int32.ofInt x1)] M (fun v M2 => M = M2 ∧ R v) :=
  mC_of (qent_mk qx244 rfl rfl rfl) (t244 hr0 hx1 w)
/-! SaggingNet.costOf -/
def E41_5 (X : Nat × Nat × qC) (d : Nat) (x1 : Int) (x2 : Int) (M : Mm) (R : Int → Prop) : Int × Int → Prop := fun s => R4 s.1 → R4 s.2 → mE X (d + 0) 41 1 5 [some (.ref 2), some (.int (Int32.ofInt x1)), some (.int (Int32.ofInt x2)), some (.int (Int32.ofInt s.1)), some (.int (Int32.ofInt s.2))] [] M (fun v M2 => M = M2 ∧ R v)
noncomputable def f41_39 (x1 : Int) (x2 : Int) (x3 : Int) (x4 : Int) (M : Mm) : Option ((Int × Int) ⊕ (Int)) :=
  gd (R4 (x4 + 1)) (
  some (.inl (x3, (x4 + 1))))
theorem t41_39 {X : Nat × Nat × qC} {d : Nat} {x1 : Int} {x2 : Int} {x3 : Int} {x4 : Int} {M : Mm}  {R : Int → Prop} (hx1 : R4 x1) (hx2 : R4 x2) (hx3 : R4 x3) (hx4 : R4 x4) (w : Wp (f41_39 x1 x2 x3 x4 M) (Sum.elim (E41_5 X d x1 x2 M R) R)) : mE X (d + 0) 41 1 39 [some (.ref 2), some (.int (Int32.ofInt x1)), some (.int (Int32.ofInt x2)), some (.int (Int32.ofInt x3)), some (.int (Int32.ofInt x4))] [] M (fun v M2 => M = M2 ∧ R v) := by
  obtain ⟨g1, w⟩ := w.ogd
  refine mE_iinc (ls2 := [some (.ref 2), some (.int (Int32.ofInt x1)), some (.int (Int32.ofInt x2)), some (.int (Int32.ofInt x3)), some (.int (Int32.ofInt (x4 + 1)))]) c41_39 rfl (Nat.le_of_ble_eq_true rfl) rfl ?_
  refine mE_goto (t := 5) c41_42 rfl ?_
  exact w.osome hx3 g1
noncomputable def lb41_5 (x1 : Int) (x2 : Int) (x3 : Int) (x4 : Int) (M : Mm) : Option ((Int × Int) ⊕ (Int)) :=
  if x4 < x2 then
  (if (bAnd (bShr x1 x4) 1) = 1 then
  (gd (0 ≤ x4 ∧ x4 < 8) (
  gd (0 ≤ (M 134 (x4).toNat) ∧ (M 134 (x4).toNat) < 14) (
  gd (R4 (x3 + (M 19 ((M 134 (x4).toNat)).toNat))) (
  f41_39 x1 x2 (x3 + (M 19 ((M 134 (x4).toNat)).toNat)) x4 M))))
  else
  (f41_39 x1 x2 x3 x4 M))
  else
  (oinr (some x3))
noncomputable def f41_5 (x1 : Int) (x2 : Int) (x3 : Int) (x4 : Int) (M : Mm) : Option (Int) := lp (fun s : Int × Int => lb41_5 x1 x2 s.1 s.2 M) (x3, x4)
theorem tb41_5 {X : Nat × Nat × qC} {d : Nat} {x1 : Int} {x2 : Int} {x3 : Int} {x4 : Int} {M : Mm}  {R : Int → Prop} (hx1 : R4 x1) (hx2 : R4 x2) (hx3 : R4 x3) (hx4 : R4 x4) (w : Wp (lb41_5 x1 x2 x3 x4 M) (Sum.elim (E41_5 X d x1 x2 M R) R)) : mE X (d + 0) 41 1 5 [some (.ref 2), some (.int (Int32.ofInt x1)), some (.int (Int32.ofInt x2)), some (.int (Int32.ofInt x3)), some (.int (Int32.ofInt x4))] [] M (fun v M2 => M = M2 ∧ R v) := by
  refine mE_iload c41_5 rfl ?_
  refine mE_iload_n c41_7 rfl ?_
  by_cases e1 : x4 < x2
  · have w := w.pos e1
    refine mE_icmp_ge_F (t := 45) c41_8 rfl hx4 hx2 e1 ?_
    refine mE_iload_n c41_11 rfl ?_
    refine mE_iload c41_12 rfl ?_
    refine mE_ishr c41_14 ?_
    refine mE_iconst c41_15 ?_
    refine mE_iand c41_16 ?_
    refine mE_iconst c41_17 ?_
    by_cases e2 : (bAnd (bShr x1 x4) 1) = 1
    · have w := w.pos e2
      refine mE_icmp_ne_F (t := 39) c41_18 rfl (r4_and _ _) (r4_n rfl) e2 ?_
      refine mE_iload_n c41_21 rfl ?_
      refine mE_aload_n c41_22 rfl ?_
      refine mE_getA c41_23 qo41 qF11_10 (ok_lit rfl rfl rfl) rfl ⟨by decide, by decide⟩ ?_
      refine mE_getA c41_26 qo41 qF11_337 (ok_lit rfl rfl rfl) rfl ⟨by decide, by decide⟩ ?_
      refine mE_aload_n c41_29 rfl ?_
      refine mE_getA c41_30 qo41 qF11_87 (ok_lit rfl rfl rfl) rfl ⟨by decide, by decide⟩ ?_
      refine mE_iload c41_33 rfl ?_
      obtain ⟨g3, w⟩ := w.ogd
      refine mE_iaload c41_35 (ok_lit rfl rfl rfl) hx4 g3 ?_
      intro u4
      obtain ⟨g5, w⟩ := w.ogd
      refine mE_iaload c41_36 (ok_lit rfl rfl rfl) u4 g5 ?_
      intro u6
      obtain ⟨g7, w⟩ := w.ogd
      refine mE_iadd c41_37 ?_
      refine mE_istore_n (ls2 := [some (.ref 2), some (.int (Int32.ofInt x1)), some (.int (Int32.ofInt x2)), some (.int (Int32.ofInt (x3 + (M 19 ((M 134 (x4).toNat)).toNat)))), some (.int (Int32.ofInt x4))]) c41_38 (Nat.le_of_ble_eq_true rfl) rfl ?_
      exact t41_39 hx1 hx2 g7 hx4 w
    · have w := w.neg e2
      refine mE_icmp_ne_T (t := 39) c41_18 rfl (r4_and _ _) (r4_n rfl) e2 ?_
      exact t41_39 hx1 hx2 hx3 hx4 w
  · have w := w.neg e1
    refine mE_icmp_ge_T (t := 45) c41_8 rfl hx4 hx2 e1 ?_
    have w := w.oinr
    refine mE_iload_n c41_45 rfl ?_
    exact mE_iret c41_46 qr41 hx3 ⟨rfl, w.osome⟩
theorem t41_5 {X : Nat × Nat × qC} {d : Nat} {x1 : Int} {x2 : Int} {x3 : Int} {x4 : Int} {M : Mm}  {R : Int → Prop} (hx1 : R4 x1) (hx2 : R4 x2) (hx3 : R4 x3) (hx4 : R4 x4) (w : Wp (f41_5 x1 x2 x3 x4 M) R) : mE X (d + 0) 41 1 5 [some (.ref 2), some (.int (Int32.ofInt x1)), some (.int (Int32.ofInt x2)), some (.int (Int32.ofInt x3)), some (.int (Int32.ofInt x4))] [] M (fun v M2 => M = M2 ∧ R v) :=
  Wp.olp (f := fun s : Int × Int => lb41_5 x1 x2 s.1 s.2 M) (s := (x3, x4)) (E := E41_5 X d x1 x2 M R) w (fun s w hx3 hx4 => tb41_5 hx1 hx2 hx3 hx4 w) hx3 hx4
noncomputable def f41 (x1 : Int) (x2 : Int) (M : Mm) : Option (Int) :=
  f41_5 x1 x2 0 0 M
theorem t41 {X : Nat × Nat × qC} {d : Nat} {x1 : Int} {x2 : Int} {M : Mm}  {R : Int → Prop} (hx1 : R4 x1) (hx2 : R4 x2) (w : Wp (f41 x1 x2 M) R) : mE X (d + 0) 41 1 0 [some (.ref 2), some (.int (Int32.ofInt x1)), some (.int (Int32.ofInt x2)), none, none] [] M (fun v M2 => M = M2 ∧ R v) := by
  refine mE_iconst c41_0 ?_
  refine mE_istore_n (ls2 := [some (.ref 2), some (.int (Int32.ofInt x1)), some (.int (Int32.ofInt x2)), some (.int (Int32.ofInt 0)), none]) c41_1 (Nat.le_of_ble_eq_true rfl) rfl ?_
  refine mE_iconst c41_2 ?_
  refine mE_istore (ls2 := [some (.ref 2), some (.int (Int32.ofInt x1)), some (.int (Int32.ofInt x2)), some (.int (Int32.ofInt 0)), some (.int (Int32.ofInt 0))]) c41_3 (Nat.le_of_ble_eq_true rfl) rfl ?_
  exact t41_5 hx1 hx2 (r4_n rfl) (r4_n rfl) w
theorem s41 {X : Nat × Nat × qC} {d : Nat} {x1 : Int} {x2 : Int} {M : Mm} {R : Int → Prop} (hx1 : R4 x1) (hx2 : R4 x2) (w : Wp (f41 x1 x2 M) R) : mC X (d + 1) 41 1 [.ref 2, .int (Int32.ofInt x1), .int (Int32.ofInt x2)] M (fun v M2 => M = M2 ∧ R v) :=
  mC_of (qent_mk qx41 rfl rfl rfl) (t41 hx1 hx2 w)
/-! SaggingNet$Play.begin -/
noncomputable def f219 (r1 : Nat) (M : Mm) : Option (Mm) :=
  (f241 74 r1 M).bind fun M2 =>
  mlet (ms M2 73 6 1) fun M4 =>
  some M4
theorem t219 {X : Nat × Nat × qC} {d : Nat} {r1 : Nat} {M : Mm}  {R : Mm → Prop} (hr1 : isSt X.1 r1) (w : Wp (f219 r1 M) R) : mE X (d + 2) 219 0 0 [some (.ref 73), some (.ref r1)] [] M (fun v M2 => R M2) := by
  refine mE_aload_n c219_0 rfl ?_
  refine mE_getA c219_1 qo219 qF5_12 (ok_lit rfl rfl rfl) rfl ⟨by decide, by decide⟩ ?_
  refine mE_aload_n c219_4 rfl ?_
  refine mE_virtual0 (b := 74) (as := [.ref r1]) (r := []) c219_5 qo219 qK5_31 qo241 rfl rfl rfl (ok_lit rfl rfl rfl) (Nat.le_of_ble_eq_true rfl) (s241 (d := d + 0) isSt_74 hr1 w.obind) ?_
  intro _ M2 w
  refine mE_aload_n c219_8 rfl ?_
  refine mE_iconst c219_9 ?_
  obtain ⟨M4, m5, w⟩ := w.mlet
  refine mE_putI c219_10 qo219 qF5_35 qz5_6 (ok_lit rfl rfl rfl) (Nat.le_of_ble_eq_true rfl) rfl (r4_n rfl) (by rw [qy5_6]; exact fit01 (Or.inr rfl)) ?_
  refine mE_M m5 ?_
  exact mE_vret c219_13 qr219 w.osome
theorem s219 {X : Nat × Nat × qC} {d : Nat} {r1 : Nat} {M : Mm} {R : Mm → Prop} (hr1 : isSt X.1 r1) (w : Wp (f219 r1 M) R) : mC X (d + 3) 219 0 [.ref 73, .ref r1] M (fun v M2 => R M2) :=
  mC_of (qent_mk qx219 rfl rfl rfl) (t219 hr1 w)
/-! SaggingNet$Play.warm -/
def E227_2 (X : Nat × Nat × qC) (d : Nat)  (R : Mm → Prop) : Int × Mm → Prop := fun s => R4 s.1 → ∀ (o3 : Option Value), ∀ (o5 : Option Value), mE X (d + 1) 227 0 2 [some (.ref 73), some (.ref 3), some (.int (Int32.ofInt s.1)), o3, none, o5, none] [] s.2 (fun v M2 => R M2)
noncomputable def f227_54 (x2 : Int) (l3 : Int) (M : Mm) : Option ((Int × Mm) ⊕ (Mm)) :=
  gd (0 ≤ x2 ∧ x2 < 14) (
  gd (R8 ((M 77 (x2).toNat) + l3)) (
  gd (R8 (((M 77 (x2).toNat) + l3) - (M 3 3))) (
  (f7 1000000 (((M 77 (x2).toNat) + l3) - (M 3 3)) M).bind fun v6 =>
  (f5 0 v6 M).bind fun v9 =>
  gd (R4 v9) (
  mlet (ms M 77 (x2).toNat v9) fun M13 =>
  gd (R4 (x2 + 1)) (
  some (.inl ((x2 + 1), M13)))))))
theorem t227_54 {X : Nat × Nat × qC} {d : Nat} {x2 : Int} {l3 : Int} {M : Mm} {o5 : Option Value} {R : Mm → Prop} (hx2 : R4 x2) (hl3 : R8 l3) (w : Wp (f227_54 x2 l3 M) (Sum.elim (E227_2 X d  R) R)) : mE X (d + 1) 227 0 54 [some (.ref 73), some (.ref 3), some (.int (Int32.ofInt x2)), some (.long (Int64.ofInt l3)), none, o5, none] [] M (fun v M2 => R M2) := by
  refine mE_aload_n c227_54 rfl ?_
  refine mE_getA c227_55 qo227 qF5_12 (ok_lit rfl rfl rfl) rfl ⟨by decide, by decide⟩ ?_
  refine mE_getA c227_58 qo227 qF5_115 (ok_lit rfl rfl rfl) rfl ⟨by decide, by decide⟩ ?_
  refine mE_iload_n c227_61 rfl ?_
  obtain ⟨g1, w⟩ := w.ogd
  refine mE_iaload c227_62 (ok_lit rfl rfl rfl) hx2 g1 ?_
  intro u2
  refine mE_i2l c227_63 u2 ?_
  refine mE_lload_n c227_64 rfl ?_
  obtain ⟨g3, w⟩ := w.ogd
  refine mE_ladd c227_65 ?_
  refine mE_aload_n c227_66 rfl ?_
  refine mE_getI c227_67 qo227 qF5_118 (ok_lit rfl rfl rfl) rfl ?_
  intro u4
  refine mE_i2l c227_70 u4 ?_
  obtain ⟨g5, w⟩ := w.ogd
  refine mE_lsub c227_71 ?_
  refine mE_lstore (ls2 := [some (.ref 73), some (.ref 3), some (.int (Int32.ofInt x2)), some (.long (Int64.ofInt l3)), none, some (.long (Int64.ofInt (((M 77 (x2).toNat) + l3) - (M 3 3)))), none]) c227_72 (Nat.le_of_ble_eq_true rfl) rfl ?_
  refine mE_aload_n c227_74 rfl ?_
  refine mE_getA c227_75 qo227 qF5_12 (ok_lit rfl rfl rfl) rfl ⟨by decide, by decide⟩ ?_
  refine mE_getA c227_78 qo227 qF5_115 (ok_lit rfl rfl rfl) rfl ⟨by decide, by decide⟩ ?_
  refine mE_iload_n c227_81 rfl ?_
  refine mE_lconst (x := 0) c227_82 rfl ?_
  refine mE_ldc2_w (x := 1000000) c227_83 qo227 qJ5_121 rfl ?_
  refine mE_lload c227_86 rfl ?_
  refine mE_static2 (as := [.long (Int64.ofInt 1000000), .long (Int64.ofInt (((M 77 (x2).toNat) + l3) - (M 3 3)))]) (r := [.long (Int64.ofInt 0), .int (Int32.ofInt x2), .ref 77]) c227_88 qo227 (by decide) qK5_123 rfl rfl rfl (Nat.le_of_ble_eq_true rfl) (s7 (d := d + 0) (r8_n rfl) g5 w.obind) ?_
  rintro v6 _ q8 ⟨rfl, w⟩
  refine mE_static2 (as := [.long (Int64.ofInt 0), .long (Int64.ofInt v6)]) (r := [.int (Int32.ofInt x2), .ref 77]) c227_91 qo227 (by decide) qK5_127 rfl rfl rfl (Nat.le_of_ble_eq_true rfl) (s5 (d := d + 0) (r8_n rfl) q8 w.obind) ?_
  rintro v9 _ q11 ⟨rfl, w⟩
  obtain ⟨g12, w⟩ := w.ogd
  refine mE_l2i c227_94 g12 ?_
  obtain ⟨M13, m14, w⟩ := w.mlet
  refine mE_iastore c227_95 (ok_lit rfl rfl rfl) hx2 g1 g12 ?_
  refine mE_M m14 ?_
  obtain ⟨g15, w⟩ := w.ogd
  refine mE_iinc (ls2 := [some (.ref 73), some (.ref 3), some (.int (Int32.ofInt (x2 + 1))), some (.long (Int64.ofInt l3)), none, some (.long (Int64.ofInt (((M 77 (x2).toNat) + l3) - (M 3 3)))), none]) c227_96 rfl (Nat.le_of_ble_eq_true rfl) rfl ?_
  refine mE_goto (t := 2) c227_99 rfl ?_
  exact w.osome g15 _ _
noncomputable def lb227_2 (x2 : Int) (M : Mm) : Option ((Int × Mm) ⊕ (Mm)) :=
  if x2 < (M 3 1) then
  (gd (0 ≤ x2 ∧ x2 < 14) (
  if (M 76 (x2).toNat) = 0 then
  (if 0 < (M 17 (x2).toNat) then
  ((f4 (M 84 (x2).toNat) M).bind fun v9 =>
  gd (¬ (M 17 (x2).toNat) = 0) (
  gd (R8 (Int.tdiv v9 (M 17 (x2).toNat))) (
  f227_54 x2 (Int.tdiv v9 (M 17 (x2).toNat)) M)))
  else
  (f227_54 x2 0 M))
  else
  (f227_54 x2 0 M)))
  else
  (oinr (some M))
noncomputable def f227_2 (x2 : Int) (M : Mm) : Option (Mm) := lp (fun s : Int × Mm => lb227_2  s.1 s.2) (x2, M)
theorem tb227_2 {X : Nat × Nat × qC} {d : Nat} {x2 : Int} {M : Mm} {o3 : Option Value} {o5 : Option Value} {R : Mm → Prop} (hx2 : R4 x2) (w : Wp (lb227_2 x2 M) (Sum.elim (E227_2 X d  R) R)) : mE X (d + 1) 227 0 2 [some (.ref 73), some (.ref 3), some (.int (Int32.ofInt x2)), o3, none, o5, none] [] M (fun v M2 => R M2) := by
  refine mE_iload_n c227_2 rfl ?_
  refine mE_aload_n c227_3 rfl ?_
  refine mE_getI c227_4 qo227 qF5_95 (ok_lit rfl rfl rfl) rfl ?_
  intro u1
  by_cases e2 : x2 < (M 3 1)
  · have w := w.pos e2
    refine mE_icmp_ge_F (t := 102) c227_7 rfl hx2 u1 e2 ?_
    refine mE_lconst (x := 0) c227_10 rfl ?_
    refine mE_lstore_n (ls2 := [some (.ref 73), some (.ref 3), some (.int (Int32.ofInt x2)), some (.long (Int64.ofInt 0)), none, o5, none]) c227_11 (Nat.le_of_ble_eq_true rfl) rfl ?_
    refine mE_aload_n c227_12 rfl ?_
    refine mE_getA c227_13 qo227 qF5_12 (ok_lit rfl rfl rfl) rfl ⟨by decide, by decide⟩ ?_
    refine mE_getA c227_16 qo227 qF5_100 (ok_lit rfl rfl rfl) rfl ⟨by decide, by decide⟩ ?_
    refine mE_iload_n c227_19 rfl ?_
    obtain ⟨g3, w⟩ := w.ogd
    refine mE_iaload c227_20 (ok_lit rfl rfl rfl) hx2 g3 ?_
    intro u4
    by_cases e5 : (M 76 (x2).toNat) = 0
    · have w := w.pos e5
      refine mE_if_ne_F (t := 54) c227_21 rfl u4 e5 ?_
      refine mE_aload_n c227_24 rfl ?_
      refine mE_getA c227_25 qo227 qF5_103 (ok_lit rfl rfl rfl) rfl ⟨by decide, by decide⟩ ?_
      refine mE_iload_n c227_28 rfl ?_
      refine mE_iaload c227_29 (ok_lit rfl rfl rfl) hx2 g3 ?_
      intro u6
      by_cases e7 : 0 < (M 17 (x2).toNat)
      · have w := w.pos e7
        refine mE_if_le_F (t := 54) c227_30 rfl u6 e7 ?_
        refine mE_aload_n c227_33 rfl ?_
        refine mE_getA c227_34 qo227 qF5_21 (ok_lit rfl rfl rfl) rfl ⟨by decide, by decide⟩ ?_
        refine mE_getA c227_37 qo227 qF5_106 (ok_lit rfl rfl rfl) rfl ⟨by decide, by decide⟩ ?_
        refine mE_iload_n c227_40 rfl ?_
        refine mE_laload c227_41 (ok_lit rfl rfl rfl) hx2 g3 ?_
        intro u8
        refine mE_static2 (as := [.long (Int64.ofInt (M 84 (x2).toNat))]) (r := []) c227_42 qo227 (by decide) qK5_109 rfl rfl rfl (Nat.le_of_ble_eq_true rfl) (s4 (d := d + 0) u8 w.obind) ?_
        rintro v9 _ q11 ⟨rfl, w⟩
        refine mE_aload_n c227_45 rfl ?_
        refine mE_getA c227_46 qo227 qF5_103 (ok_lit rfl rfl rfl) rfl ⟨by decide, by decide⟩ ?_
        refine mE_iload_n c227_49 rfl ?_
        refine mE_iaload c227_50 (ok_lit rfl rfl rfl) hx2 g3 ?_
        intro u12
        refine mE_i2l c227_51 u12 ?_
        obtain ⟨g13, w⟩ := w.ogd
        obtain ⟨g14, w⟩ := w.ogd
        refine mE_ldiv c227_52 q11 (R4.to8 u12) g13 ?_
        refine mE_lstore_n (ls2 := [some (.ref 73), some (.ref 3), some (.int (Int32.ofInt x2)), some (.long (Int64.ofInt (Int.tdiv v9 (M 17 (x2).toNat)))), none, o5, none]) c227_53 (Nat.le_of_ble_eq_true rfl) rfl ?_
        exact t227_54 hx2 g14 w
      · have w := w.neg e7
        refine mE_if_le_T (t := 54) c227_30 rfl u6 e7 ?_
        exact t227_54 hx2 (r8_n rfl) w
    · have w := w.neg e5
      refine mE_if_ne_T (t := 54) c227_21 rfl u4 e5 ?_
      exact t227_54 hx2 (r8_n rfl) w
  · have w := w.neg e2
    refine mE_icmp_ge_T (t := 102) c227_7 rfl hx2 u1 e2 ?_
    have w := w.oinr
    exact mE_vret c227_102 qr227 w.osome
theorem t227_2 {X : Nat × Nat × qC} {d : Nat} {x2 : Int} {M : Mm} {o3 : Option Value} {o5 : Option Value} {R : Mm → Prop} (hx2 : R4 x2) (w : Wp (f227_2 x2 M) R) : mE X (d + 1) 227 0 2 [some (.ref 73), some (.ref 3), some (.int (Int32.ofInt x2)), o3, none, o5, none] [] M (fun v M2 => R M2) :=
  Wp.olp (f := fun s : Int × Mm => lb227_2  s.1 s.2) (s := (x2, M)) (E := E227_2 X d  R) w (fun s w hx2 _ _ => tb227_2 hx2 w) hx2 _ _
noncomputable def f227  (M : Mm) : Option (Mm) :=
  f227_2 0 M
theorem t227 {X : Nat × Nat × qC} {d : Nat}  {M : Mm}  {R : Mm → Prop}  (w : Wp (f227  M) R) : mE X (d + 1) 227 0 0 [some (.ref 73), some (.ref 3), none, none, none, none, none] [] M (fun v M2 => R M2) := by
  refine mE_iconst c227_0 ?_
  refine mE_istore_n (ls2 := [some (.ref 73), some (.ref 3), some (.int (Int32.ofInt 0)), none, none, none, none]) c227_1 (Nat.le_of_ble_eq_true rfl) rfl ?_
  exact t227_2 (r4_n rfl) w
theorem s227 {X : Nat × Nat × qC} {d : Nat}  {M : Mm} {R : Mm → Prop}  (w : Wp (f227  M) R) : mC X (d + 2) 227 0 [.ref 73, .ref 3] M (fun v M2 => R M2) :=
  mC_of (qent_mk qx227 rfl rfl rfl) (t227  w)
/-! SaggingNet$Play.sag -/
def E224_2 (X : Nat × Nat × qC) (d : Nat)  (R : Mm → Prop) : Int × Mm → Prop := fun s => R4 s.1 → ∀ (o3 : Option Value), mE X (d + 0) 224 0 2 [some (.ref 73), some (.ref 3), some (.int (Int32.ofInt s.1)), o3] [] s.2 (fun v M2 => R M2)
noncomputable def f224_94 (x2 : Int) (M : Mm) : Option ((Int × Mm) ⊕ (Mm)) :=
  gd (R4 (x2 + 1)) (
  some (.inl ((x2 + 1), M)))
theorem t224_94 {X : Nat × Nat × qC} {d : Nat} {x2 : Int} {M : Mm} {y3 : Int32} {R : Mm → Prop} (hx2 : R4 x2) (w : Wp (f224_94 x2 M) (Sum.elim (E224_2 X d  R) R)) : mE X (d + 0) 224 0 94 [some (.ref 73), some (.ref 3), some (.int (Int32.ofInt x2)), some (.int y3)] [] M (fun v M2 => R M2) := by
  obtain ⟨g1, w⟩ := w.ogd
  refine mE_iinc (ls2 := [some (.ref 73), some (.ref 3), some (.int (Int32.ofInt (x2 + 1))), some (.int y3)]) c224_94 rfl (Nat.le_of_ble_eq_true rfl) rfl ?_
  refine mE_goto (t := 2) c224_97 rfl ?_
  exact w.osome g1 _
noncomputable def f224_68 (x2 : Int) (x3 : Int) (M : Mm) : Option ((Int × Mm) ⊕ (Mm)) :=
  if x3 = 0 then
  (f224_94 x2 M)
  else
  (gd (0 ≤ x2 ∧ x2 < 14) (
  mlet (ms M 76 (x2).toNat 3) fun M3 =>
  mlet (ms M3 73 3 (bOr (M3 73 3) (bShl 1 x2))) fun M6 =>
  f224_94 x2 M6))
theorem t224_68 {X : Nat × Nat × qC} {d : Nat} {x2 : Int} {x3 : Int} {M : Mm}  {R : Mm → Prop} (hx2 : R4 x2) (hx3 : R4 x3) (w : Wp (f224_68 x2 x3 M) (Sum.elim (E224_2 X d  R) R)) : mE X (d + 0) 224 0 68 [some (.ref 73), some (.ref 3), some (.int (Int32.ofInt x2)), some (.int (Int32.ofInt x3))] [] M (fun v M2 => R M2) := by
  refine mE_iload_n c224_68 rfl ?_
  by_cases e1 : x3 = 0
  · have w := w.pos e1
    refine mE_if_eq_T (t := 94) c224_69 rfl hx3 e1 ?_
    exact t224_94 hx2 w
  · have w := w.neg e1
    refine mE_if_eq_F (t := 94) c224_69 rfl hx3 e1 ?_
    refine mE_aload_n c224_72 rfl ?_
    refine mE_getA c224_73 qo224 qF5_12 (ok_lit rfl rfl rfl) rfl ⟨by decide, by decide⟩ ?_
    refine mE_getA c224_76 qo224 qF5_100 (ok_lit rfl rfl rfl) rfl ⟨by decide, by decide⟩ ?_
    refine mE_iload_n c224_79 rfl ?_
    refine mE_iconst c224_80 ?_
    obtain ⟨g2, w⟩ := w.ogd
    obtain ⟨M3, m4, w⟩ := w.mlet
    refine mE_iastore c224_81 (ok_lit rfl rfl rfl) hx2 g2 (r4_n rfl) ?_
    refine mE_M m4 ?_
    refine mE_aload_n c224_82 rfl ?_
    refine mE_dup c224_83 rfl ?_
    refine mE_getI c224_84 qo224 qF5_48 (ok_lit rfl rfl rfl) rfl ?_
    intro u5
    refine mE_iconst c224_87 ?_
    refine mE_iload_n c224_88 rfl ?_
    refine mE_ishl c224_89 ?_
    refine mE_ior c224_90 ?_
    obtain ⟨M6, m7, w⟩ := w.mlet
    refine mE_putI c224_91 qo224 qF5_48 qz5_3 (ok_lit rfl rfl rfl) (Nat.le_of_ble_eq_true rfl) rfl (r4_or _ _) (by rw [qy5_3]; rfl) ?_
    refine mE_M m7 ?_
    exact t224_94 hx2 w
noncomputable def f224_54 (x2 : Int) (M : Mm) : Option ((Int × Mm) ⊕ (Mm)) :=
  gd (0 ≤ x2 ∧ x2 < 14) (
  if (M 76 (x2).toNat) = 0 then
  (f224_68 x2 0 M)
  else
  (f224_94 x2 M))
theorem t224_54 {X : Nat × Nat × qC} {d : Nat} {x2 : Int} {M : Mm} {o3 : Option Value} {R : Mm → Prop} (hx2 : R4 x2) (w : Wp (f224_54 x2 M) (Sum.elim (E224_2 X d  R) R)) : mE X (d + 0) 224 0 54 [some (.ref 73), some (.ref 3), some (.int (Int32.ofInt x2)), o3] [] M (fun v M2 => R M2) := by
  refine mE_iconst c224_54 ?_
  refine mE_istore_n (ls2 := [some (.ref 73), some (.ref 3), some (.int (Int32.ofInt x2)), some (.int (Int32.ofInt 0))]) c224_55 (Nat.le_of_ble_eq_true rfl) rfl ?_
  refine mE_aload_n c224_56 rfl ?_
  refine mE_getA c224_57 qo224 qF5_12 (ok_lit rfl rfl rfl) rfl ⟨by decide, by decide⟩ ?_
  refine mE_getA c224_60 qo224 qF5_100 (ok_lit rfl rfl rfl) rfl ⟨by decide, by decide⟩ ?_
  refine mE_iload_n c224_63 rfl ?_
  obtain ⟨g1, w⟩ := w.ogd
  refine mE_iaload c224_64 (ok_lit rfl rfl rfl) hx2 g1 ?_
  intro u2
  by_cases e3 : (M 76 (x2).toNat) = 0
  · have w := w.pos e3
    refine mE_if_ne_F (t := 94) c224_65 rfl u2 e3 ?_
    exact t224_68 hx2 (r4_n rfl) w
  · have w := w.neg e3
    refine mE_if_ne_T (t := 94) c224_65 rfl u2 e3 ?_
    exact t224_94 hx2 w
noncomputable def lb224_2 (x2 : Int) (M : Mm) : Option ((Int × Mm) ⊕ (Mm)) :=
  if x2 < (M 3 1) then
  (gd (0 ≤ x2 ∧ x2 < 14) (
  if 0 < (M 78 (x2).toNat) then
  (gd (R4 ((M 77 (x2).toNat) + (M 78 (x2).toNat))) (
  if ((M 77 (x2).toNat) + (M 78 (x2).toNat)) < (M 18 (x2).toNat) then
  (f224_54 x2 M)
  else
  (if (M 76 (x2).toNat) = 0 then
  (f224_68 x2 1 M)
  else
  (f224_94 x2 M))))
  else
  (f224_54 x2 M)))
  else
  (oinr (some M))
noncomputable def f224_2 (x2 : Int) (M : Mm) : Option (Mm) := lp (fun s : Int × Mm => lb224_2  s.1 s.2) (x2, M)
theorem tb224_2 {X : Nat × Nat × qC} {d : Nat} {x2 : Int} {M : Mm} {o3 : Option Value} {R : Mm → Prop} (hx2 : R4 x2) (w : Wp (lb224_2 x2 M) (Sum.elim (E224_2 X d  R) R)) : mE X (d + 0) 224 0 2 [some (.ref 73), some (.ref 3), some (.int (Int32.ofInt x2)), o3] [] M (fun v M2 => R M2) := by
  refine mE_iload_n c224_2 rfl ?_
  refine mE_aload_n c224_3 rfl ?_
  refine mE_getI c224_4 qo224 qF5_95 (ok_lit rfl rfl rfl) rfl ?_
  intro u1
  by_cases e2 : x2 < (M 3 1)
  · have w := w.pos e2
    refine mE_icmp_ge_F (t := 100) c224_7 rfl hx2 u1 e2 ?_
    refine mE_aload_n c224_10 rfl ?_
    refine mE_getA c224_11 qo224 qF5_12 (ok_lit rfl rfl rfl) rfl ⟨by decide, by decide⟩ ?_
    refine mE_getA c224_14 qo224 qF5_130 (ok_lit rfl rfl rfl) rfl ⟨by decide, by decide⟩ ?_
    refine mE_iload_n c224_17 rfl ?_
    obtain ⟨g3, w⟩ := w.ogd
    refine mE_iaload c224_18 (ok_lit rfl rfl rfl) hx2 g3 ?_
    intro u4
    by_cases e5 : 0 < (M 78 (x2).toNat)
    · have w := w.pos e5
      refine mE_if_le_F (t := 54) c224_19 rfl u4 e5 ?_
      refine mE_aload_n c224_22 rfl ?_
      refine mE_getA c224_23 qo224 qF5_12 (ok_lit rfl rfl rfl) rfl ⟨by decide, by decide⟩ ?_
      refine mE_getA c224_26 qo224 qF5_115 (ok_lit rfl rfl rfl) rfl ⟨by decide, by decide⟩ ?_
      refine mE_iload_n c224_29 rfl ?_
      refine mE_iaload c224_30 (ok_lit rfl rfl rfl) hx2 g3 ?_
      intro u6
      refine mE_aload_n c224_31 rfl ?_
      refine mE_getA c224_32 qo224 qF5_12 (ok_lit rfl rfl rfl) rfl ⟨by decide, by decide⟩ ?_
      refine mE_getA c224_35 qo224 qF5_130 (ok_lit rfl rfl rfl) rfl ⟨by decide, by decide⟩ ?_
      refine mE_iload_n c224_38 rfl ?_
      refine mE_iaload c224_39 (ok_lit rfl rfl rfl) hx2 g3 ?_
      intro u7
      obtain ⟨g8, w⟩ := w.ogd
      refine mE_iadd c224_40 ?_
      refine mE_aload_n c224_41 rfl ?_
      refine mE_getA c224_42 qo224 qF5_133 (ok_lit rfl rfl rfl) rfl ⟨by decide, by decide⟩ ?_
      refine mE_iload_n c224_45 rfl ?_
      refine mE_iaload c224_46 (ok_lit rfl rfl rfl) hx2 g3 ?_
      intro u9
      by_cases e10 : ((M 77 (x2).toNat) + (M 78 (x2).toNat)) < (M 18 (x2).toNat)
      · have w := w.pos e10
        refine mE_icmp_lt_T (t := 54) c224_47 rfl g8 u9 e10 ?_
        exact t224_54 hx2 w
      · have w := w.neg e10
        refine mE_icmp_lt_F (t := 54) c224_47 rfl g8 u9 e10 ?_
        refine mE_iconst c224_50 ?_
        refine mE_goto (t := 55) c224_51 rfl ?_
        refine mE_istore_n (ls2 := [some (.ref 73), some (.ref 3), some (.int (Int32.ofInt x2)), some (.int (Int32.ofInt 1))]) c224_55 (Nat.le_of_ble_eq_true rfl) rfl ?_
        refine mE_aload_n c224_56 rfl ?_
        refine mE_getA c224_57 qo224 qF5_12 (ok_lit rfl rfl rfl) rfl ⟨by decide, by decide⟩ ?_
        refine mE_getA c224_60 qo224 qF5_100 (ok_lit rfl rfl rfl) rfl ⟨by decide, by decide⟩ ?_
        refine mE_iload_n c224_63 rfl ?_
        refine mE_iaload c224_64 (ok_lit rfl rfl rfl) hx2 g3 ?_
        intro u11
        by_cases e12 : (M 76 (x2).toNat) = 0
        · have w := w.pos e12
          refine mE_if_ne_F (t := 94) c224_65 rfl u11 e12 ?_
          exact t224_68 hx2 (r4_n rfl) w
        · have w := w.neg e12
          refine mE_if_ne_T (t := 94) c224_65 rfl u11 e12 ?_
          exact t224_94 hx2 w
    · have w := w.neg e5
      refine mE_if_le_T (t := 54) c224_19 rfl u4 e5 ?_
      exact t224_54 hx2 w
  · have w := w.neg e2
    refine mE_icmp_ge_T (t := 100) c224_7 rfl hx2 u1 e2 ?_
    have w := w.oinr
    exact mE_vret c224_100 qr224 w.osome
theorem t224_2 {X : Nat × Nat × qC} {d : Nat} {x2 : Int} {M : Mm} {o3 : Option Value} {R : Mm → Prop} (hx2 : R4 x2) (w : Wp (f224_2 x2 M) R) : mE X (d + 0) 224 0 2 [some (.ref 73), some (.ref 3), some (.int (Int32.ofInt x2)), o3] [] M (fun v M2 => R M2) :=
  Wp.olp (f := fun s : Int × Mm => lb224_2  s.1 s.2) (s := (x2, M)) (E := E224_2 X d  R) w (fun s w hx2 _ => tb224_2 hx2 w) hx2 _
noncomputable def f224  (M : Mm) : Option (Mm) :=
  f224_2 0 M
theorem t224 {X : Nat × Nat × qC} {d : Nat}  {M : Mm}  {R : Mm → Prop}  (w : Wp (f224  M) R) : mE X (d + 0) 224 0 0 [some (.ref 73), some (.ref 3), none, none] [] M (fun v M2 => R M2) := by
  refine mE_iconst c224_0 ?_
  refine mE_istore_n (ls2 := [some (.ref 73), some (.ref 3), some (.int (Int32.ofInt 0)), none]) c224_1 (Nat.le_of_ble_eq_true rfl) rfl ?_
  exact t224_2 (r4_n rfl) w
theorem s224 {X : Nat × Nat × qC} {d : Nat}  {M : Mm} {R : Mm → Prop}  (w : Wp (f224  M) R) : mC X (d + 1) 224 0 [.ref 73, .ref 3] M (fun v M2 => R M2) :=
  mC_of (qent_mk qx224 rfl rfl rfl) (t224  w)
/-! SaggingNet$Play.tellLetters -/
noncomputable def f226  (M : Mm) : Option (Mm) :=
  mlet (ms M 97 0 (M 74 0)) fun M2 =>
  (f244 74 (M2 74 1) M2).bind fun v5 =>
  mlet (ms M2 97 4 v5) fun M8 =>
  mlet (ms M8 97 5 (M8 74 3)) fun M11 =>
  some M11
theorem t226 {X : Nat × Nat × qC} {d : Nat}  {M : Mm}  {R : Mm → Prop}  (w : Wp (f226  M) R) : mE X (d + 1) 226 0 0 [some (.ref 73)] [] M (fun v M2 => R M2) := by
  refine mE_aload_n c226_0 rfl ?_
  refine mE_getA c226_1 qo226 qF5_27 (ok_lit rfl rfl rfl) rfl ⟨by decide, by decide⟩ ?_
  refine mE_iconst c226_4 ?_
  refine mE_aload_n c226_5 rfl ?_
  refine mE_getA c226_6 qo226 qF5_12 (ok_lit rfl rfl rfl) rfl ⟨by decide, by decide⟩ ?_
  refine mE_getI c226_9 qo226 qF5_82 (ok_lit rfl rfl rfl) rfl ?_
  intro u1
  refine mE_i2l c226_12 u1 ?_
  obtain ⟨M2, m3, w⟩ := w.mlet
  refine mE_lastore c226_13 (ok_lit rfl rfl rfl) (r4_n rfl) (by decide) (R4.to8 u1) ?_
  refine mE_M m3 ?_
  refine mE_aload_n c226_14 rfl ?_
  refine mE_getA c226_15 qo226 qF5_27 (ok_lit rfl rfl rfl) rfl ⟨by decide, by decide⟩ ?_
  refine mE_iconst c226_18 ?_
  refine mE_aload_n c226_19 rfl ?_
  refine mE_getA c226_20 qo226 qF5_12 (ok_lit rfl rfl rfl) rfl ⟨by decide, by decide⟩ ?_
  refine mE_aload_n c226_23 rfl ?_
  refine mE_getA c226_24 qo226 qF5_12 (ok_lit rfl rfl rfl) rfl ⟨by decide, by decide⟩ ?_
  refine mE_getI c226_27 qo226 qF5_47 (ok_lit rfl rfl rfl) rfl ?_
  intro u4
  refine mE_virtual1 (b := 74) (as := [.int (Int32.ofInt (M2 74 1))]) (r := [.int (Int32.ofInt 4), .ref 97]) c226_30 qo226 qK5_136 qo244 rfl rfl rfl (ok_lit rfl rfl rfl) (Nat.le_of_ble_eq_true rfl) (s244 (d := d + 0) isSt_74 u4 w.obind) ?_
  rintro v5 _ q7 ⟨rfl, w⟩
  refine mE_i2l c226_33 q7 ?_
  obtain ⟨M8, m9, w⟩ := w.mlet
  refine mE_lastore c226_34 (ok_lit rfl rfl rfl) (r4_n rfl) (by decide) (R4.to8 q7) ?_
  refine mE_M m9 ?_
  refine mE_aload_n c226_35 rfl ?_
  refine mE_getA c226_36 qo226 qF5_27 (ok_lit rfl rfl rfl) rfl ⟨by decide, by decide⟩ ?_
  refine mE_iconst c226_39 ?_
  refine mE_aload_n c226_40 rfl ?_
  refine mE_getA c226_41 qo226 qF5_12 (ok_lit rfl rfl rfl) rfl ⟨by decide, by decide⟩ ?_
  refine mE_getI c226_44 qo226 qF5_79 (ok_lit rfl rfl rfl) rfl ?_
  intro u10
  refine mE_i2l c226_47 u10 ?_
  obtain ⟨M11, m12, w⟩ := w.mlet
  refine mE_lastore c226_48 (ok_lit rfl rfl rfl) (r4_n rfl) (by decide) (R4.to8 u10) ?_
  refine mE_M m12 ?_
  exact mE_vret c226_49 qr226 w.osome
theorem s226 {X : Nat × Nat × qC} {d : Nat}  {M : Mm} {R : Mm → Prop}  (w : Wp (f226  M) R) : mC X (d + 2) 226 0 [.ref 73] M (fun v M2 => R M2) :=
  mC_of (qent_mk qx226 rfl rfl rfl) (t226  w)
/-! SaggingNet$Play.guardWires -/
def E220_2 (X : Nat × Nat × qC) (d : Nat)  (R : Mm → Prop) : Int × Mm → Prop := fun s => R4 s.1 → mE X (d + 3) 220 0 2 [some (.ref 73), some (.ref 3), some (.int (Int32.ofInt s.1))] [] s.2 (fun v M2 => R M2)
noncomputable def f220_159 (x2 : Int) (M : Mm) : Option ((Int × Mm) ⊕ (Mm)) :=
  gd (R4 (x2 + 1)) (
  some (.inl ((x2 + 1), M)))
theorem t220_159 {X : Nat × Nat × qC} {d : Nat} {x2 : Int} {M : Mm}  {R : Mm → Prop} (hx2 : R4 x2) (w : Wp (f220_159 x2 M) (Sum.elim (E220_2 X d  R) R)) : mE X (d + 3) 220 0 159 [some (.ref 73), some (.ref 3), some (.int (Int32.ofInt x2))] [] M (fun v M2 => R M2) := by
  obtain ⟨g1, w⟩ := w.ogd
  refine mE_iinc (ls2 := [some (.ref 73), some (.ref 3), some (.int (Int32.ofInt (x2 + 1)))]) c220_159 rfl (Nat.le_of_ble_eq_true rfl) rfl ?_
  refine mE_goto (t := 2) c220_162 rfl ?_
  exact w.osome g1
noncomputable def lb220_2 (x2 : Int) (M : Mm) : Option ((Int × Mm) ⊕ (Mm)) :=
  if x2 < (M 3 1) then
  (gd (0 ≤ x2 ∧ x2 < 14) (
  if (M 76 (x2).toNat) = 0 then
  (mlet (ms M 97 1 x2) fun M6 =>
  gd (0 ≤ (M6 14 (x2).toNat) ∧ (M6 14 (x2).toNat) < 8) (
  mlet (ms M6 97 2 (M6 11 ((M6 14 (x2).toNat)).toNat)) fun M11 =>
  gd (0 ≤ (M11 14 (x2).toNat) ∧ (M11 14 (x2).toNat) < 8) (
  mlet (ms M11 97 3 (M11 82 ((M11 14 (x2).toNat)).toNat)) fun M16 =>
  (f4 (M16 84 (x2).toNat) M16).bind fun v19 =>
  mlet (ms M16 97 6 v19) fun M22 =>
  mlet (ms M22 97 7 (M22 17 (x2).toNat)) fun M25 =>
  mlet (ms M25 97 8 (M25 77 (x2).toNat)) fun M28 =>
  gd (isTx (M28 3 4).toNat) (
  obnd (f16 ((M28 3 4).toNat) 0 M28) fun v31 M32 =>
  if v31 = 0 then
  (f220_159 x2 M32)
  else
  (mlet (ms M32 76 (x2).toNat 2) fun M35 =>
  mlet (ms M35 73 4 (bOr (M35 73 4) (bShl 1 x2))) fun M38 =>
  f220_159 x2 M38)))))
  else
  (f220_159 x2 M)))
  else
  (oinr (some M))
noncomputable def f220_2 (x2 : Int) (M : Mm) : Option (Mm) := lp (fun s : Int × Mm => lb220_2  s.1 s.2) (x2, M)
theorem tb220_2 {X : Nat × Nat × qC} {d : Nat} {x2 : Int} {M : Mm}  {R : Mm → Prop} (hx2 : R4 x2) (w : Wp (lb220_2 x2 M) (Sum.elim (E220_2 X d  R) R)) : mE X (d + 3) 220 0 2 [some (.ref 73), some (.ref 3), some (.int (Int32.ofInt x2))] [] M (fun v M2 => R M2) := by
  refine mE_iload_n c220_2 rfl ?_
  refine mE_aload_n c220_3 rfl ?_
  refine mE_getI c220_4 qo220 qF5_95 (ok_lit rfl rfl rfl) rfl ?_
  intro u1
  by_cases e2 : x2 < (M 3 1)
  · have w := w.pos e2
    refine mE_icmp_ge_F (t := 165) c220_7 rfl hx2 u1 e2 ?_
    refine mE_aload_n c220_10 rfl ?_
    refine mE_getA c220_11 qo220 qF5_12 (ok_lit rfl rfl rfl) rfl ⟨by decide, by decide⟩ ?_
    refine mE_getA c220_14 qo220 qF5_100 (ok_lit rfl rfl rfl) rfl ⟨by decide, by decide⟩ ?_
    refine mE_iload_n c220_17 rfl ?_
    obtain ⟨g3, w⟩ := w.ogd
    refine mE_iaload c220_18 (ok_lit rfl rfl rfl) hx2 g3 ?_
    intro u4
    by_cases e5 : (M 76 (x2).toNat) = 0
    · have w := w.pos e5
      refine mE_if_eq_T (t := 25) c220_19 rfl u4 e5 ?_
      refine mE_aload_n c220_25 rfl ?_
      refine mE_getA c220_26 qo220 qF5_27 (ok_lit rfl rfl rfl) rfl ⟨by decide, by decide⟩ ?_
      refine mE_iconst c220_29 ?_
      refine mE_iload_n c220_30 rfl ?_
      refine mE_i2l c220_31 hx2 ?_
      obtain ⟨M6, m7, w⟩ := w.mlet
      refine mE_lastore c220_32 (ok_lit rfl rfl rfl) (r4_n rfl) (by decide) (R4.to8 hx2) ?_
      refine mE_M m7 ?_
      refine mE_aload_n c220_33 rfl ?_
      refine mE_getA c220_34 qo220 qF5_27 (ok_lit rfl rfl rfl) rfl ⟨by decide, by decide⟩ ?_
      refine mE_iconst c220_37 ?_
      refine mE_aload_n c220_38 rfl ?_
      refine mE_getA c220_39 qo220 qF5_139 (ok_lit rfl rfl rfl) rfl ⟨by decide, by decide⟩ ?_
      refine mE_aload_n c220_42 rfl ?_
      refine mE_getA c220_43 qo220 qF5_142 (ok_lit rfl rfl rfl) rfl ⟨by decide, by decide⟩ ?_
      refine mE_iload_n c220_46 rfl ?_
      refine mE_iaload c220_47 (ok_lit rfl rfl rfl) hx2 g3 ?_
      intro u8
      obtain ⟨g9, w⟩ := w.ogd
      refine mE_iaload c220_48 (ok_lit rfl rfl rfl) u8 g9 ?_
      intro u10
      refine mE_i2l c220_49 u10 ?_
      obtain ⟨M11, m12, w⟩ := w.mlet
      refine mE_lastore c220_50 (ok_lit rfl rfl rfl) (r4_n rfl) (by decide) (R4.to8 u10) ?_
      refine mE_M m12 ?_
      refine mE_aload_n c220_51 rfl ?_
      refine mE_getA c220_52 qo220 qF5_27 (ok_lit rfl rfl rfl) rfl ⟨by decide, by decide⟩ ?_
      refine mE_iconst c220_55 ?_
      refine mE_aload_n c220_56 rfl ?_
      refine mE_getA c220_57 qo220 qF5_21 (ok_lit rfl rfl rfl) rfl ⟨by decide, by decide⟩ ?_
      refine mE_getA c220_60 qo220 qF5_145 (ok_lit rfl rfl rfl) rfl ⟨by decide, by decide⟩ ?_
      refine mE_aload_n c220_63 rfl ?_
      refine mE_getA c220_64 qo220 qF5_142 (ok_lit rfl rfl rfl) rfl ⟨by decide, by decide⟩ ?_
      refine mE_iload_n c220_67 rfl ?_
      refine mE_iaload c220_68 (ok_lit rfl rfl rfl) hx2 g3 ?_
      intro u13
      obtain ⟨g14, w⟩ := w.ogd
      refine mE_iaload c220_69 (ok_lit rfl rfl rfl) u13 g14 ?_
      intro u15
      refine mE_i2l c220_70 u15 ?_
      obtain ⟨M16, m17, w⟩ := w.mlet
      refine mE_lastore c220_71 (ok_lit rfl rfl rfl) (r4_n rfl) (by decide) (R4.to8 u15) ?_
      refine mE_M m17 ?_
      refine mE_aload_n c220_72 rfl ?_
      refine mE_getA c220_73 qo220 qF5_27 (ok_lit rfl rfl rfl) rfl ⟨by decide, by decide⟩ ?_
      refine mE_bipush (x := 6) c220_76 rfl ?_
      refine mE_aload_n c220_78 rfl ?_
      refine mE_getA c220_79 qo220 qF5_21 (ok_lit rfl rfl rfl) rfl ⟨by decide, by decide⟩ ?_
      refine mE_getA c220_82 qo220 qF5_106 (ok_lit rfl rfl rfl) rfl ⟨by decide, by decide⟩ ?_
      refine mE_iload_n c220_85 rfl ?_
      refine mE_laload c220_86 (ok_lit rfl rfl rfl) hx2 g3 ?_
      intro u18
      refine mE_static2 (as := [.long (Int64.ofInt (M16 84 (x2).toNat))]) (r := [.int (Int32.ofInt 6), .ref 97]) c220_87 qo220 (by decide) qK5_109 rfl rfl rfl (Nat.le_of_ble_eq_true rfl) (s4 (d := d + 2) u18 w.obind) ?_
      rintro v19 _ q21 ⟨rfl, w⟩
      obtain ⟨M22, m23, w⟩ := w.mlet
      refine mE_lastore c220_90 (ok_lit rfl rfl rfl) (r4_n rfl) (by decide) q21 ?_
      refine mE_M m23 ?_
      refine mE_aload_n c220_91 rfl ?_
      refine mE_getA c220_92 qo220 qF5_27 (ok_lit rfl rfl rfl) rfl ⟨by decide, by decide⟩ ?_
      refine mE_bipush (x := 7) c220_95 rfl ?_
      refine mE_aload_n c220_97 rfl ?_
      refine mE_getA c220_98 qo220 qF5_103 (ok_lit rfl rfl rfl) rfl ⟨by decide, by decide⟩ ?_
      refine mE_iload_n c220_101 rfl ?_
      refine mE_iaload c220_102 (ok_lit rfl rfl rfl) hx2 g3 ?_
      intro u24
      refine mE_i2l c220_103 u24 ?_
      obtain ⟨M25, m26, w⟩ := w.mlet
      refine mE_lastore c220_104 (ok_lit rfl rfl rfl) (r4_n rfl) (by decide) (R4.to8 u24) ?_
      refine mE_M m26 ?_
      refine mE_aload_n c220_105 rfl ?_
      refine mE_getA c220_106 qo220 qF5_27 (ok_lit rfl rfl rfl) rfl ⟨by decide, by decide⟩ ?_
      refine mE_bipush (x := 8) c220_109 rfl ?_
      refine mE_aload_n c220_111 rfl ?_
      refine mE_getA c220_112 qo220 qF5_12 (ok_lit rfl rfl rfl) rfl ⟨by decide, by decide⟩ ?_
      refine mE_getA c220_115 qo220 qF5_115 (ok_lit rfl rfl rfl) rfl ⟨by decide, by decide⟩ ?_
      refine mE_iload_n c220_118 rfl ?_
      refine mE_iaload c220_119 (ok_lit rfl rfl rfl) hx2 g3 ?_
      intro u27
      refine mE_i2l c220_120 u27 ?_
      obtain ⟨M28, m29, w⟩ := w.mlet
      refine mE_lastore c220_121 (ok_lit rfl rfl rfl) (r4_n rfl) (by decide) (R4.to8 u27) ?_
      refine mE_M m29 ?_
      refine mE_aload_n c220_122 rfl ?_
      obtain ⟨g30, w⟩ := w.ogd
      refine mE_getT c220_123 qo220 qF5_148 (ok_lit rfl rfl rfl) rfl ⟨by decide, by decide⟩ ?_
      refine mE_iconst c220_126 ?_
      refine mE_aload_n c220_127 rfl ?_
      refine mE_getA c220_128 qo220 qF5_27 (ok_lit rfl rfl rfl) rfl ⟨by decide, by decide⟩ ?_
      refine mE_virtual1 (b := ((M28 3 4).toNat)) (as := [.int (Int32.ofInt 0), .ref 97]) (r := []) c220_131 qo220 qK5_152 qo16 rfl rfl rfl (ok_tx0 g30) (Nat.le_of_ble_eq_true rfl) (s16 (d := d + 0) g30 (r4_n rfl) w.oc) ?_
      intro v31 M32 q33 w
      by_cases e34 : v31 = 0
      · have w := w.pos e34
        refine mE_if_eq_T (t := 159) c220_134 rfl q33 e34 ?_
        exact t220_159 hx2 w
      · have w := w.neg e34
        refine mE_if_eq_F (t := 159) c220_134 rfl q33 e34 ?_
        refine mE_aload_n c220_137 rfl ?_
        refine mE_getA c220_138 qo220 qF5_12 (ok_lit rfl rfl rfl) rfl ⟨by decide, by decide⟩ ?_
        refine mE_getA c220_141 qo220 qF5_100 (ok_lit rfl rfl rfl) rfl ⟨by decide, by decide⟩ ?_
        refine mE_iload_n c220_144 rfl ?_
        refine mE_iconst c220_145 ?_
        obtain ⟨M35, m36, w⟩ := w.mlet
        refine mE_iastore c220_146 (ok_lit rfl rfl rfl) hx2 g3 (r4_n rfl) ?_
        refine mE_M m36 ?_
        refine mE_aload_n c220_147 rfl ?_
        refine mE_dup c220_148 rfl ?_
        refine mE_getI c220_149 qo220 qF5_51 (ok_lit rfl rfl rfl) rfl ?_
        intro u37
        refine mE_iconst c220_152 ?_
        refine mE_iload_n c220_153 rfl ?_
        refine mE_ishl c220_154 ?_
        refine mE_ior c220_155 ?_
        obtain ⟨M38, m39, w⟩ := w.mlet
        refine mE_putI c220_156 qo220 qF5_51 qz5_4 (ok_lit rfl rfl rfl) (Nat.le_of_ble_eq_true rfl) rfl (r4_or _ _) (by rw [qy5_4]; rfl) ?_
        refine mE_M m39 ?_
        exact t220_159 hx2 w
    · have w := w.neg e5
      refine mE_if_eq_F (t := 25) c220_19 rfl u4 e5 ?_
      refine mE_goto (t := 159) c220_22 rfl ?_
      exact t220_159 hx2 w
  · have w := w.neg e2
    refine mE_icmp_ge_T (t := 165) c220_7 rfl hx2 u1 e2 ?_
    have w := w.oinr
    exact mE_vret c220_165 qr220 w.osome
theorem t220_2 {X : Nat × Nat × qC} {d : Nat} {x2 : Int} {M : Mm}  {R : Mm → Prop} (hx2 : R4 x2) (w : Wp (f220_2 x2 M) R) : mE X (d + 3) 220 0 2 [some (.ref 73), some (.ref 3), some (.int (Int32.ofInt x2))] [] M (fun v M2 => R M2) :=
  Wp.olp (f := fun s : Int × Mm => lb220_2  s.1 s.2) (s := (x2, M)) (E := E220_2 X d  R) w (fun s w hx2 => tb220_2 hx2 w) hx2
noncomputable def f220  (M : Mm) : Option (Mm) :=
  f220_2 0 M
theorem t220 {X : Nat × Nat × qC} {d : Nat}  {M : Mm}  {R : Mm → Prop}  (w : Wp (f220  M) R) : mE X (d + 3) 220 0 0 [some (.ref 73), some (.ref 3), none] [] M (fun v M2 => R M2) := by
  refine mE_iconst c220_0 ?_
  refine mE_istore_n (ls2 := [some (.ref 73), some (.ref 3), some (.int (Int32.ofInt 0))]) c220_1 (Nat.le_of_ble_eq_true rfl) rfl ?_
  exact t220_2 (r4_n rfl) w
theorem s220 {X : Nat × Nat × qC} {d : Nat}  {M : Mm} {R : Mm → Prop}  (w : Wp (f220  M) R) : mC X (d + 4) 220 0 [.ref 73, .ref 3] M (fun v M2 => R M2) :=
  mC_of (qent_mk qx220 rfl rfl rfl) (t220  w)
/-! SaggingNet$Play.guardWorks -/
def E221_2 (X : Nat × Nat × qC) (d : Nat)  (R : Mm → Prop) : Int × Mm → Prop := fun s => R4 s.1 → mE X (d + 3) 221 0 2 [some (.ref 73), some (.ref 3), some (.int (Int32.ofInt s.1))] [] s.2 (fun v M2 => R M2)
noncomputable def f221_146 (x2 : Int) (M : Mm) : Option ((Int × Mm) ⊕ (Mm)) :=
  gd (R4 (x2 + 1)) (
  some (.inl ((x2 + 1), M)))
theorem t221_146 {X : Nat × Nat × qC} {d : Nat} {x2 : Int} {M : Mm}  {R : Mm → Prop} (hx2 : R4 x2) (w : Wp (f221_146 x2 M) (Sum.elim (E221_2 X d  R) R)) : mE X (d + 3) 221 0 146 [some (.ref 73), some (.ref 3), some (.int (Int32.ofInt x2))] [] M (fun v M2 => R M2) := by
  obtain ⟨g1, w⟩ := w.ogd
  refine mE_iinc (ls2 := [some (.ref 73), some (.ref 3), some (.int (Int32.ofInt (x2 + 1)))]) c221_146 rfl (Nat.le_of_ble_eq_true rfl) rfl ?_
  refine mE_goto (t := 2) c221_149 rfl ?_
  exact w.osome g1
noncomputable def lb221_2 (x2 : Int) (M : Mm) : Option ((Int × Mm) ⊕ (Mm)) :=
  if x2 < (M 3 2) then
  ((f245 74 x2 M).bind fun v3 =>
  if v3 = 0 then
  (f221_146 x2 M)
  else
  (mlet (ms M 97 1 x2) fun M7 =>
  gd (0 ≤ x2 ∧ x2 < 9) (
  gd (0 ≤ (M7 20 (x2).toNat) ∧ (M7 20 (x2).toNat) < 8) (
  mlet (ms M7 97 2 (M7 11 ((M7 20 (x2).toNat)).toNat)) fun M13 =>
  gd (0 ≤ (M13 20 (x2).toNat) ∧ (M13 20 (x2).toNat) < 8) (
  mlet (ms M13 97 3 (M13 82 ((M13 20 (x2).toNat)).toNat)) fun M18 =>
  mlet (ms M18 97 9 (M18 83 (x2).toNat)) fun M21 =>
  mlet (ms M21 97 10 (M21 21 (x2).toNat)) fun M24 =>
  gd (isTx (M24 3 4).toNat) (
  obnd (f16 ((M24 3 4).toNat) 1 M24) fun v27 M28 =>
  if v27 = 0 then
  (f221_146 x2 M28)
  else
  (mlet (ms M28 74 2 (bAnd (M28 74 2) (bXor (bShl 1 x2) (-1)))) fun M32 =>
  mlet (ms M32 73 5 (bOr (M32 73 5) (bShl 1 x2))) fun M35 =>
  f221_146 x2 M35)))))))
  else
  (oinr (some M))
noncomputable def f221_2 (x2 : Int) (M : Mm) : Option (Mm) := lp (fun s : Int × Mm => lb221_2  s.1 s.2) (x2, M)
theorem tb221_2 {X : Nat × Nat × qC} {d : Nat} {x2 : Int} {M : Mm}  {R : Mm → Prop} (hx2 : R4 x2) (w : Wp (lb221_2 x2 M) (Sum.elim (E221_2 X d  R) R)) : mE X (d + 3) 221 0 2 [some (.ref 73), some (.ref 3), some (.int (Int32.ofInt x2))] [] M (fun v M2 => R M2) := by
  refine mE_iload_n c221_2 rfl ?_
  refine mE_aload_n c221_3 rfl ?_
  refine mE_getI c221_4 qo221 qF5_156 (ok_lit rfl rfl rfl) rfl ?_
  intro u1
  by_cases e2 : x2 < (M 3 2)
  · have w := w.pos e2
    refine mE_icmp_ge_F (t := 152) c221_7 rfl hx2 u1 e2 ?_
    refine mE_aload_n c221_10 rfl ?_
    refine mE_getA c221_11 qo221 qF5_12 (ok_lit rfl rfl rfl) rfl ⟨by decide, by decide⟩ ?_
    refine mE_iload_n c221_14 rfl ?_
    refine mE_virtual1 (b := 74) (as := [.int (Int32.ofInt x2)]) (r := []) c221_15 qo221 qK5_159 qo245 rfl rfl rfl (ok_lit rfl rfl rfl) (Nat.le_of_ble_eq_true rfl) (s245 (d := d + 2) isSt_74 hx2 w.obind) ?_
    rintro v3 _ q5 ⟨rfl, w⟩
    by_cases e6 : v3 = 0
    · have w := w.pos e6
      refine mE_if_ne_F (t := 24) c221_18 rfl q5 e6 ?_
      refine mE_goto (t := 146) c221_21 rfl ?_
      exact t221_146 hx2 w
    · have w := w.neg e6
      refine mE_if_ne_T (t := 24) c221_18 rfl q5 e6 ?_
      refine mE_aload_n c221_24 rfl ?_
      refine mE_getA c221_25 qo221 qF5_27 (ok_lit rfl rfl rfl) rfl ⟨by decide, by decide⟩ ?_
      refine mE_iconst c221_28 ?_
      refine mE_iload_n c221_29 rfl ?_
      refine mE_i2l c221_30 hx2 ?_
      obtain ⟨M7, m8, w⟩ := w.mlet
      refine mE_lastore c221_31 (ok_lit rfl rfl rfl) (r4_n rfl) (by decide) (R4.to8 hx2) ?_
      refine mE_M m8 ?_
      refine mE_aload_n c221_32 rfl ?_
      refine mE_getA c221_33 qo221 qF5_27 (ok_lit rfl rfl rfl) rfl ⟨by decide, by decide⟩ ?_
      refine mE_iconst c221_36 ?_
      refine mE_aload_n c221_37 rfl ?_
      refine mE_getA c221_38 qo221 qF5_139 (ok_lit rfl rfl rfl) rfl ⟨by decide, by decide⟩ ?_
      refine mE_aload_n c221_41 rfl ?_
      refine mE_getA c221_42 qo221 qF5_163 (ok_lit rfl rfl rfl) rfl ⟨by decide, by decide⟩ ?_
      refine mE_iload_n c221_45 rfl ?_
      obtain ⟨g9, w⟩ := w.ogd
      refine mE_iaload c221_46 (ok_lit rfl rfl rfl) hx2 g9 ?_
      intro u10
      obtain ⟨g11, w⟩ := w.ogd
      refine mE_iaload c221_47 (ok_lit rfl rfl rfl) u10 g11 ?_
      intro u12
      refine mE_i2l c221_48 u12 ?_
      obtain ⟨M13, m14, w⟩ := w.mlet
      refine mE_lastore c221_49 (ok_lit rfl rfl rfl) (r4_n rfl) (by decide) (R4.to8 u12) ?_
      refine mE_M m14 ?_
      refine mE_aload_n c221_50 rfl ?_
      refine mE_getA c221_51 qo221 qF5_27 (ok_lit rfl rfl rfl) rfl ⟨by decide, by decide⟩ ?_
      refine mE_iconst c221_54 ?_
      refine mE_aload_n c221_55 rfl ?_
      refine mE_getA c221_56 qo221 qF5_21 (ok_lit rfl rfl rfl) rfl ⟨by decide, by decide⟩ ?_
      refine mE_getA c221_59 qo221 qF5_145 (ok_lit rfl rfl rfl) rfl ⟨by decide, by decide⟩ ?_
      refine mE_aload_n c221_62 rfl ?_
      refine mE_getA c221_63 qo221 qF5_163 (ok_lit rfl rfl rfl) rfl ⟨by decide, by decide⟩ ?_
      refine mE_iload_n c221_66 rfl ?_
      refine mE_iaload c221_67 (ok_lit rfl rfl rfl) hx2 g9 ?_
      intro u15
      obtain ⟨g16, w⟩ := w.ogd
      refine mE_iaload c221_68 (ok_lit rfl rfl rfl) u15 g16 ?_
      intro u17
      refine mE_i2l c221_69 u17 ?_
      obtain ⟨M18, m19, w⟩ := w.mlet
      refine mE_lastore c221_70 (ok_lit rfl rfl rfl) (r4_n rfl) (by decide) (R4.to8 u17) ?_
      refine mE_M m19 ?_
      refine mE_aload_n c221_71 rfl ?_
      refine mE_getA c221_72 qo221 qF5_27 (ok_lit rfl rfl rfl) rfl ⟨by decide, by decide⟩ ?_
      refine mE_bipush (x := 9) c221_75 rfl ?_
      refine mE_aload_n c221_77 rfl ?_
      refine mE_getA c221_78 qo221 qF5_21 (ok_lit rfl rfl rfl) rfl ⟨by decide, by decide⟩ ?_
      refine mE_getA c221_81 qo221 qF5_166 (ok_lit rfl rfl rfl) rfl ⟨by decide, by decide⟩ ?_
      refine mE_iload_n c221_84 rfl ?_
      refine mE_iaload c221_85 (ok_lit rfl rfl rfl) hx2 g9 ?_
      intro u20
      refine mE_i2l c221_86 u20 ?_
      obtain ⟨M21, m22, w⟩ := w.mlet
      refine mE_lastore c221_87 (ok_lit rfl rfl rfl) (r4_n rfl) (by decide) (R4.to8 u20) ?_
      refine mE_M m22 ?_
      refine mE_aload_n c221_88 rfl ?_
      refine mE_getA c221_89 qo221 qF5_27 (ok_lit rfl rfl rfl) rfl ⟨by decide, by decide⟩ ?_
      refine mE_bipush (x := 10) c221_92 rfl ?_
      refine mE_aload_n c221_94 rfl ?_
      refine mE_getA c221_95 qo221 qF5_169 (ok_lit rfl rfl rfl) rfl ⟨by decide, by decide⟩ ?_
      refine mE_iload_n c221_98 rfl ?_
      refine mE_iaload c221_99 (ok_lit rfl rfl rfl) hx2 g9 ?_
      intro u23
      refine mE_i2l c221_100 u23 ?_
      obtain ⟨M24, m25, w⟩ := w.mlet
      refine mE_lastore c221_101 (ok_lit rfl rfl rfl) (r4_n rfl) (by decide) (R4.to8 u23) ?_
      refine mE_M m25 ?_
      refine mE_aload_n c221_102 rfl ?_
      obtain ⟨g26, w⟩ := w.ogd
      refine mE_getT c221_103 qo221 qF5_148 (ok_lit rfl rfl rfl) rfl ⟨by decide, by decide⟩ ?_
      refine mE_iconst c221_106 ?_
      refine mE_aload_n c221_107 rfl ?_
      refine mE_getA c221_108 qo221 qF5_27 (ok_lit rfl rfl rfl) rfl ⟨by decide, by decide⟩ ?_
      refine mE_virtual1 (b := ((M24 3 4).toNat)) (as := [.int (Int32.ofInt 1), .ref 97]) (r := []) c221_111 qo221 qK5_152 qo16 rfl rfl rfl (ok_tx0 g26) (Nat.le_of_ble_eq_true rfl) (s16 (d := d + 0) g26 (r4_n rfl) w.oc) ?_
      intro v27 M28 q29 w
      by_cases e30 : v27 = 0
      · have w := w.pos e30
        refine mE_if_eq_T (t := 146) c221_114 rfl q29 e30 ?_
        exact t221_146 hx2 w
      · have w := w.neg e30
        refine mE_if_eq_F (t := 146) c221_114 rfl q29 e30 ?_
        refine mE_aload_n c221_117 rfl ?_
        refine mE_getA c221_118 qo221 qF5_12 (ok_lit rfl rfl rfl) rfl ⟨by decide, by decide⟩ ?_
        refine mE_dup c221_121 rfl ?_
        refine mE_getI c221_122 qo221 qF5_172 (ok_lit rfl rfl rfl) rfl ?_
        intro u31
        refine mE_iconst c221_125 ?_
        refine mE_iload_n c221_126 rfl ?_
        refine mE_ishl c221_127 ?_
        refine mE_iconst c221_128 ?_
        refine mE_ixor c221_129 ?_
        refine mE_iand c221_130 ?_
        obtain ⟨M32, m33, w⟩ := w.mlet
        refine mE_putI c221_131 qo221 qF5_172 qz8_2 (ok_lit rfl rfl rfl) (Nat.le_of_ble_eq_true rfl) rfl (r4_and _ _) (by rw [qy8_2]; rfl) ?_
        refine mE_M m33 ?_
        refine mE_aload_n c221_134 rfl ?_
        refine mE_dup c221_135 rfl ?_
        refine mE_getI c221_136 qo221 qF5_54 (ok_lit rfl rfl rfl) rfl ?_
        intro u34
        refine mE_iconst c221_139 ?_
        refine mE_iload_n c221_140 rfl ?_
        refine mE_ishl c221_141 ?_
        refine mE_ior c221_142 ?_
        obtain ⟨M35, m36, w⟩ := w.mlet
        refine mE_putI c221_143 qo221 qF5_54 qz5_5 (ok_lit rfl rfl rfl) (Nat.le_of_ble_eq_true rfl) rfl (r4_or _ _) (by rw [qy5_5]; rfl) ?_
        refine mE_M m36 ?_
        exact t221_146 hx2 w
  · have w := w.neg e2
    refine mE_icmp_ge_T (t := 152) c221_7 rfl hx2 u1 e2 ?_
    have w := w.oinr
    exact mE_vret c221_152 qr221 w.osome
theorem t221_2 {X : Nat × Nat × qC} {d : Nat} {x2 : Int} {M : Mm}  {R : Mm → Prop} (hx2 : R4 x2) (w : Wp (f221_2 x2 M) R) : mE X (d + 3) 221 0 2 [some (.ref 73), some (.ref 3), some (.int (Int32.ofInt x2))] [] M (fun v M2 => R M2) :=
  Wp.olp (f := fun s : Int × Mm => lb221_2  s.1 s.2) (s := (x2, M)) (E := E221_2 X d  R) w (fun s w hx2 => tb221_2 hx2 w) hx2
noncomputable def f221  (M : Mm) : Option (Mm) :=
  f221_2 0 M
theorem t221 {X : Nat × Nat × qC} {d : Nat}  {M : Mm}  {R : Mm → Prop}  (w : Wp (f221  M) R) : mE X (d + 3) 221 0 0 [some (.ref 73), some (.ref 3), none] [] M (fun v M2 => R M2) := by
  refine mE_iconst c221_0 ?_
  refine mE_istore_n (ls2 := [some (.ref 73), some (.ref 3), some (.int (Int32.ofInt 0))]) c221_1 (Nat.le_of_ble_eq_true rfl) rfl ?_
  exact t221_2 (r4_n rfl) w
theorem s221 {X : Nat × Nat × qC} {d : Nat}  {M : Mm} {R : Mm → Prop}  (w : Wp (f221  M) R) : mC X (d + 4) 221 0 [.ref 73, .ref 3] M (fun v M2 => R M2) :=
  mC_of (qent_mk qx221 rfl rfl rfl) (t221  w)
/-! SaggingNet$Play.step -/
noncomputable def f225_19  (M : Mm) : Option (Mm) :=
  mlet (ms M 74 1 (M 79 0)) fun M2 =>
  mlet (ms M2 73 3 0) fun M4 =>
  mlet (ms M4 73 4 0) fun M6 =>
  mlet (ms M6 73 5 0) fun M8 =>
  (f227 M8).bind fun M11 =>
  (f224 M11).bind fun M14 =>
  (f226 M14).bind fun M17 =>
  (f220 M17).bind fun M20 =>
  (f221 M20).bind fun M23 =>
  (f1 (bOr (M23 73 3) (M23 73 4)) M23).bind fun v27 =>
  mlet (ms M23 74 3 v27) fun M30 =>
  gd (R4 ((M30 74 0) + 1)) (
  mlet (ms M30 74 0 ((M30 74 0) + 1)) fun M34 =>
  gd (R4 ((M34 79 1) + (M34 74 3))) (
  (f1 (M34 73 5) M34).bind fun v40 =>
  gd (R4 (((M34 79 1) + (M34 74 3)) + v40)) (
  mlet (ms M34 73 2 (((M34 79 1) + (M34 74 3)) + v40)) fun M44 =>
  if 0 < (M44 73 2) then
  (mlet (ms M44 73 6 1) fun M48 =>
  some M48)
  else
  (mlet (ms M44 73 6 0) fun M48 =>
  some M48))))
theorem t225_19 {X : Nat × Nat × qC} {d : Nat}  {M : Mm}  {R : Mm → Prop}  (w : Wp (f225_19  M) R) : mE X (d + 4) 225 0 19 [some (.ref 73), some (.ref 3)] [] M (fun v M2 => R M2) := by
  refine mE_aload_n c225_19 rfl ?_
  refine mE_getA c225_20 qo225 qF5_12 (ok_lit rfl rfl rfl) rfl ⟨by decide, by decide⟩ ?_
  refine mE_aload_n c225_23 rfl ?_
  refine mE_getA c225_24 qo225 qF5_21 (ok_lit rfl rfl rfl) rfl ⟨by decide, by decide⟩ ?_
  refine mE_getI c225_27 qo225 qF5_43 (ok_lit rfl rfl rfl) rfl ?_
  intro u1
  obtain ⟨M2, m3, w⟩ := w.mlet
  refine mE_putI c225_30 qo225 qF5_47 qz8_1 (ok_lit rfl rfl rfl) (Nat.le_of_ble_eq_true rfl) rfl u1 (by rw [qy8_1]; rfl) ?_
  refine mE_M m3 ?_
  refine mE_aload_n c225_33 rfl ?_
  refine mE_iconst c225_34 ?_
  obtain ⟨M4, m5, w⟩ := w.mlet
  refine mE_putI c225_35 qo225 qF5_48 qz5_3 (ok_lit rfl rfl rfl) (Nat.le_of_ble_eq_true rfl) rfl (r4_n rfl) (by rw [qy5_3]; rfl) ?_
  refine mE_M m5 ?_
  refine mE_aload_n c225_38 rfl ?_
  refine mE_iconst c225_39 ?_
  obtain ⟨M6, m7, w⟩ := w.mlet
  refine mE_putI c225_40 qo225 qF5_51 qz5_4 (ok_lit rfl rfl rfl) (Nat.le_of_ble_eq_true rfl) rfl (r4_n rfl) (by rw [qy5_4]; rfl) ?_
  refine mE_M m7 ?_
  refine mE_aload_n c225_43 rfl ?_
  refine mE_iconst c225_44 ?_
  obtain ⟨M8, m9, w⟩ := w.mlet
  refine mE_putI c225_45 qo225 qF5_54 qz5_5 (ok_lit rfl rfl rfl) (Nat.le_of_ble_eq_true rfl) rfl (r4_n rfl) (by rw [qy5_5]; rfl) ?_
  refine mE_M m9 ?_
  refine mE_aload_n c225_48 rfl ?_
  refine mE_aload_n c225_49 rfl ?_
  refine mE_virtual0 (b := 73) (as := [.ref 3]) (r := []) c225_50 qo225 qK5_57 qo227 rfl rfl rfl (ok_lit rfl rfl rfl) (Nat.le_of_ble_eq_true rfl) (s227 (d := d + 2) w.obind) ?_
  intro _ M11 w
  refine mE_aload_n c225_53 rfl ?_
  refine mE_aload_n c225_54 rfl ?_
  refine mE_virtual0 (b := 73) (as := [.ref 3]) (r := []) c225_55 qo225 qK5_61 qo224 rfl rfl rfl (ok_lit rfl rfl rfl) (Nat.le_of_ble_eq_true rfl) (s224 (d := d + 3) w.obind) ?_
  intro _ M14 w
  refine mE_aload_n c225_58 rfl ?_
  refine mE_virtual0 (b := 73) (as := []) (r := []) c225_59 qo225 qK5_64 qo226 rfl rfl rfl (ok_lit rfl rfl rfl) (Nat.le_of_ble_eq_true rfl) (s226 (d := d + 2) w.obind) ?_
  intro _ M17 w
  refine mE_aload_n c225_62 rfl ?_
  refine mE_aload_n c225_63 rfl ?_
  refine mE_virtual0 (b := 73) (as := [.ref 3]) (r := []) c225_64 qo225 qK5_67 qo220 rfl rfl rfl (ok_lit rfl rfl rfl) (Nat.le_of_ble_eq_true rfl) (s220 (d := d + 0) w.obind) ?_
  intro _ M20 w
  refine mE_aload_n c225_67 rfl ?_
  refine mE_aload_n c225_68 rfl ?_
  refine mE_virtual0 (b := 73) (as := [.ref 3]) (r := []) c225_69 qo225 qK5_70 qo221 rfl rfl rfl (ok_lit rfl rfl rfl) (Nat.le_of_ble_eq_true rfl) (s221 (d := d + 0) w.obind) ?_
  intro _ M23 w
  refine mE_aload_n c225_72 rfl ?_
  refine mE_getA c225_73 qo225 qF5_12 (ok_lit rfl rfl rfl) rfl ⟨by decide, by decide⟩ ?_
  refine mE_aload_n c225_76 rfl ?_
  refine mE_getI c225_77 qo225 qF5_48 (ok_lit rfl rfl rfl) rfl ?_
  intro u25
  refine mE_aload_n c225_80 rfl ?_
  refine mE_getI c225_81 qo225 qF5_51 (ok_lit rfl rfl rfl) rfl ?_
  intro u26
  refine mE_ior c225_84 ?_
  refine mE_static1 (as := [.int (Int32.ofInt (bOr (M23 73 3) (M23 73 4)))]) (r := [.ref 74]) c225_85 qo225 (by decide) qK5_73 rfl rfl rfl (Nat.le_of_ble_eq_true rfl) (s1 (d := d + 3) (r4_or _ _) w.obind) ?_
  rintro v27 _ q29 ⟨rfl, w⟩
  obtain ⟨M30, m31, w⟩ := w.mlet
  refine mE_putI c225_88 qo225 qF5_79 qz8_3 (ok_lit rfl rfl rfl) (Nat.le_of_ble_eq_true rfl) rfl q29 (by rw [qy8_3]; rfl) ?_
  refine mE_M m31 ?_
  refine mE_aload_n c225_91 rfl ?_
  refine mE_getA c225_92 qo225 qF5_12 (ok_lit rfl rfl rfl) rfl ⟨by decide, by decide⟩ ?_
  refine mE_dup c225_95 rfl ?_
  refine mE_getI c225_96 qo225 qF5_82 (ok_lit rfl rfl rfl) rfl ?_
  intro u32
  refine mE_iconst c225_99 ?_
  obtain ⟨g33, w⟩ := w.ogd
  refine mE_iadd c225_100 ?_
  obtain ⟨M34, m35, w⟩ := w.mlet
  refine mE_putI c225_101 qo225 qF5_82 qz8_0 (ok_lit rfl rfl rfl) (Nat.le_of_ble_eq_true rfl) rfl g33 (by rw [qy8_0]; rfl) ?_
  refine mE_M m35 ?_
  refine mE_aload_n c225_104 rfl ?_
  refine mE_aload_n c225_105 rfl ?_
  refine mE_getA c225_106 qo225 qF5_21 (ok_lit rfl rfl rfl) rfl ⟨by decide, by decide⟩ ?_
  refine mE_getI c225_109 qo225 qF5_85 (ok_lit rfl rfl rfl) rfl ?_
  intro u36
  refine mE_aload_n c225_112 rfl ?_
  refine mE_getA c225_113 qo225 qF5_12 (ok_lit rfl rfl rfl) rfl ⟨by decide, by decide⟩ ?_
  refine mE_getI c225_116 qo225 qF5_79 (ok_lit rfl rfl rfl) rfl ?_
  intro u37
  obtain ⟨g38, w⟩ := w.ogd
  refine mE_iadd c225_119 ?_
  refine mE_aload_n c225_120 rfl ?_
  refine mE_getI c225_121 qo225 qF5_54 (ok_lit rfl rfl rfl) rfl ?_
  intro u39
  refine mE_static1 (as := [.int (Int32.ofInt (M34 73 5))]) (r := [.int (Int32.ofInt ((M34 79 1) + (M34 74 3))), .ref 73]) c225_124 qo225 (by decide) qK5_73 rfl rfl rfl (Nat.le_of_ble_eq_true rfl) (s1 (d := d + 3) u39 w.obind) ?_
  rintro v40 _ q42 ⟨rfl, w⟩
  obtain ⟨g43, w⟩ := w.ogd
  refine mE_iadd c225_127 ?_
  obtain ⟨M44, m45, w⟩ := w.mlet
  refine mE_putI c225_128 qo225 qF5_88 qz5_2 (ok_lit rfl rfl rfl) (Nat.le_of_ble_eq_true rfl) rfl g43 (by rw [qy5_2]; rfl) ?_
  refine mE_M m45 ?_
  refine mE_aload_n c225_131 rfl ?_
  refine mE_aload_n c225_132 rfl ?_
  refine mE_getI c225_133 qo225 qF5_88 (ok_lit rfl rfl rfl) rfl ?_
  intro u46
  by_cases e47 : 0 < (M44 73 2)
  · have w := w.pos e47
    refine mE_if_le_F (t := 143) c225_136 rfl u46 e47 ?_
    refine mE_iconst c225_139 ?_
    refine mE_goto (t := 144) c225_140 rfl ?_
    obtain ⟨M48, m49, w⟩ := w.mlet
    refine mE_putI c225_144 qo225 qF5_35 qz5_6 (ok_lit rfl rfl rfl) (Nat.le_of_ble_eq_true rfl) rfl (r4_n rfl) (by rw [qy5_6]; exact fit01 (Or.inr rfl)) ?_
    refine mE_M m49 ?_
    exact mE_vret c225_147 qr225 w.osome
  · have w := w.neg e47
    refine mE_if_le_T (t := 143) c225_136 rfl u46 e47 ?_
    refine mE_iconst c225_143 ?_
    obtain ⟨M48, m49, w⟩ := w.mlet
    refine mE_putI c225_144 qo225 qF5_35 qz5_6 (ok_lit rfl rfl rfl) (Nat.le_of_ble_eq_true rfl) rfl (r4_n rfl) (by rw [qy5_6]; exact fit01 (Or.inl rfl)) ?_
    refine mE_M m49 ?_
    exact mE_vret c225_147 qr225 w.osome
noncomputable def f225  (M : Mm) : Option (Mm) :=
  if (M 73 6) = 0 then
  (f225_19 M)
  else
  ((f238 79 74 M).bind fun M4 =>
  f225_19 M4)
theorem t225 {X : Nat × Nat × qC} {d : Nat}  {M : Mm}  {R : Mm → Prop}  (w : Wp (f225  M) R) : mE X (d + 4) 225 0 0 [some (.ref 73), some (.ref 3)] [] M (fun v M2 => R M2) := by
  refine mE_aload_n c225_0 rfl ?_
  refine mE_getI c225_1 qo225 qF5_35 (ok_lit rfl rfl rfl) rfl ?_
  intro u1
  by_cases e2 : (M 73 6) = 0
  · have w := w.pos e2
    refine mE_if_eq_T (t := 19) c225_4 rfl u1 e2 ?_
    exact t225_19  w
  · have w := w.neg e2
    refine mE_if_eq_F (t := 19) c225_4 rfl u1 e2 ?_
    refine mE_aload_n c225_7 rfl ?_
    refine mE_getA c225_8 qo225 qF5_21 (ok_lit rfl rfl rfl) rfl ⟨by decide, by decide⟩ ?_
    refine mE_aload_n c225_11 rfl ?_
    refine mE_aload_n c225_12 rfl ?_
    refine mE_getA c225_13 qo225 qF5_12 (ok_lit rfl rfl rfl) rfl ⟨by decide, by decide⟩ ?_
    refine mE_virtual0 (b := 79) (as := [.ref 3, .ref 74]) (r := []) c225_16 qo225 qK5_39 qo238 rfl rfl rfl (ok_lit rfl rfl rfl) (Nat.le_of_ble_eq_true rfl) (s238 (d := d + 0) isSg_79 isSt_74 w.obind) ?_
    intro _ M4 w
    exact t225_19  w
theorem s225 {X : Nat × Nat × qC} {d : Nat}  {M : Mm} {R : Mm → Prop}  (w : Wp (f225  M) R) : mC X (d + 5) 225 0 [.ref 73, .ref 3] M (fun v M2 => R M2) :=
  mC_of (qent_mk qx225 rfl rfl rfl) (t225  w)
