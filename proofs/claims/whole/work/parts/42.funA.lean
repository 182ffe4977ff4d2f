/-! java/lang/Integer.bitCount -/
noncomputable def f1 (x0 : Int) (M : Mm) : Option (Int) :=
  some (bAnd (w4 ((w4 ((bAnd (w4 ((w4 ((bAnd (w4 (x0 - (bAnd (bUshr x0 1) 1431655765))) 858993459) + (bAnd (bUshr (w4 (x0 - (bAnd (bUshr x0 1) 1431655765))) 2) 858993459))) + (bUshr (w4 ((bAnd (w4 (x0 - (bAnd (bUshr x0 1) 1431655765))) 858993459) + (bAnd (bUshr (w4 (x0 - (bAnd (bUshr x0 1) 1431655765))) 2) 858993459))) 4))) 252645135) + (bUshr (bAnd (w4 ((w4 ((bAnd (w4 (x0 - (bAnd (bUshr x0 1) 1431655765))) 858993459) + (bAnd (bUshr (w4 (x0 - (bAnd (bUshr x0 1) 1431655765))) 2) 858993459))) + (bUshr (w4 ((bAnd (w4 (x0 - (bAnd (bUshr x0 1) 1431655765))) 858993459) + (bAnd (bUshr (w4 (x0 - (bAnd (bUshr x0 1) 1431655765))) 2) 858993459))) 4))) 252645135) 8))) + (bUshr (w4 ((bAnd (w4 ((w4 ((bAnd (w4 (x0 - (bAnd (bUshr x0 1) 1431655765))) 858993459) + (bAnd (bUshr (w4 (x0 - (bAnd (bUshr x0 1) 1431655765))) 2) 858993459))) + (bUshr (w4 ((bAnd (w4 (x0 - (bAnd (bUshr x0 1) 1431655765))) 858993459) + (bAnd (bUshr (w4 (x0 - (bAnd (bUshr x0 1) 1431655765))) 2) 858993459))) 4))) 252645135) + (bUshr (bAnd (w4 ((w4 ((bAnd (w4 (x0 - (bAnd (bUshr x0 1) 1431655765))) 858993459) + (bAnd (bUshr (w4 (x0 - (bAnd (bUshr x0 1) 1431655765))) 2) 858993459))) + (bUshr (w4 ((bAnd (w4 (x0 - (bAnd (bUshr x0 1) 1431655765))) 858993459) + (bAnd (bUshr (w4 (x0 - (bAnd (bUshr x0 1) 1431655765))) 2) 858993459))) 4))) 252645135) 8))) 16))) 63)
theorem t1 {X : Nat × Nat × qC} {d : Nat} {x0 : Int} {M : Mm}  {R : Int → Prop} (hx0 : R4 x0) (w : Wp (f1 x0 M) R) : mE X (d + 0) 1 1 0 [some (.int (Int32.ofInt x0))] [] M (fun v M2 => M = M2 ∧ R v) := by
  refine mE_iload_n c1_0 rfl ?_
  refine mE_iload_n c1_1 rfl ?_
  refine mE_iconst c1_2 ?_
  refine mE_iushr c1_3 ?_
  refine mE_ldc_w (x := 1431655765) c1_4 qo1 qI14_265 rfl ?_
  refine mE_iand c1_7 ?_
  refine mE_isubW c1_8 ?_
  refine mE_istore_n (ls2 := [some (.int (Int32.ofInt (w4 (x0 - (bAnd (bUshr x0 1) 1431655765)))))]) c1_9 (Nat.le_of_ble_eq_true rfl) rfl ?_
  refine mE_iload_n c1_10 rfl ?_
  refine mE_ldc_w (x := 858993459) c1_11 qo1 qI14_266 rfl ?_
  refine mE_iand c1_14 ?_
  refine mE_iload_n c1_15 rfl ?_
  refine mE_iconst c1_16 ?_
  refine mE_iushr c1_17 ?_
  refine mE_ldc_w (x := 858993459) c1_18 qo1 qI14_266 rfl ?_
  refine mE_iand c1_21 ?_
  refine mE_iaddW c1_22 ?_
  refine mE_istore_n (ls2 := [some (.int (Int32.ofInt (w4 ((bAnd (w4 (x0 - (bAnd (bUshr x0 1) 1431655765))) 858993459) + (bAnd (bUshr (w4 (x0 - (bAnd (bUshr x0 1) 1431655765))) 2) 858993459)))))]) c1_23 (Nat.le_of_ble_eq_true rfl) rfl ?_
  refine mE_iload_n c1_24 rfl ?_
  refine mE_iload_n c1_25 rfl ?_
  refine mE_iconst c1_26 ?_
  refine mE_iushr c1_27 ?_
  refine mE_iaddW c1_28 ?_
  refine mE_ldc_w (x := 252645135) c1_29 qo1 qI14_267 rfl ?_
  refine mE_iand c1_32 ?_
  refine mE_istore_n (ls2 := [some (.int (Int32.ofInt (bAnd (w4 ((w4 ((bAnd (w4 (x0 - (bAnd (bUshr x0 1) 1431655765))) 858993459) + (bAnd (bUshr (w4 (x0 - (bAnd (bUshr x0 1) 1431655765))) 2) 858993459))) + (bUshr (w4 ((bAnd (w4 (x0 - (bAnd (bUshr x0 1) 1431655765))) 858993459) + (bAnd (bUshr (w4 (x0 - (bAnd (bUshr x0 1) 1431655765))) 2) 858993459))) 4))) 252645135)))]) c1_33 (Nat.le_of_ble_eq_true rfl) rfl ?_
  refine mE_iload_n c1_34 rfl ?_
  refine mE_iload_n c1_35 rfl ?_
  refine mE_bipush (x := 8) c1_36 rfl ?_
  refine mE_iushr c1_38 ?_
  refine mE_iaddW c1_39 ?_
  refine mE_istore_n (ls2 := [some (.int (Int32.ofInt (w4 ((bAnd (w4 ((w4 ((bAnd (w4 (x0 - (bAnd (bUshr x0 1) 1431655765))) 858993459) + (bAnd (bUshr (w4 (x0 - (bAnd (bUshr x0 1) 1431655765))) 2) 858993459))) + (bUshr (w4 ((bAnd (w4 (x0 - (bAnd (bUshr x0 1) 1431655765))) 858993459) + (bAnd (bUshr (w4 (x0 - (bAnd (bUshr x0 1) 1431655765))) 2) 858993459))) 4))) 252645135) + (bUshr (bAnd (w4 ((w4 ((bAnd (w4 (x0 - (bAnd (bUshr x0 1) 1431655765))) 858993459) + (bAnd (bUshr (w4 (x0 - (bAnd (bUshr x0 1) 1431655765))) 2) 858993459))) + (bUshr (w4 ((bAnd (w4 (x0 - (bAnd (bUshr x0 1) 1431655765))) 858993459) + (bAnd (bUshr (w4 (x0 - (bAnd (bUshr x0 1) 1431655765))) 2) 858993459))) 4))) 252645135) 8)))))]) c1_40 (Nat.le_of_ble_eq_true rfl) rfl ?_
  refine mE_iload_n c1_41 rfl ?_
  refine mE_iload_n c1_42 rfl ?_
  refine mE_bipush (x := 16) c1_43 rfl ?_
  refine mE_iushr c1_45 ?_
  refine mE_iaddW c1_46 ?_
  refine mE_istore_n (ls2 := [some (.int (Int32.ofInt (w4 ((w4 ((bAnd (w4 ((w4 ((bAnd (w4 (x0 - (bAnd (bUshr x0 1) 1431655765))) 858993459) + (bAnd (bUshr (w4 (x0 - (bAnd (bUshr x0 1) 1431655765))) 2) 858993459))) + (bUshr (w4 ((bAnd (w4 (x0 - (bAnd (bUshr x0 1) 1431655765))) 858993459) + (bAnd (bUshr (w4 (x0 - (bAnd (bUshr x0 1) 1431655765))) 2) 858993459))) 4))) 252645135) + (bUshr (bAnd (w4 ((w4 ((bAnd (w4 (x0 - (bAnd (bUshr x0 1) 1431655765))) 858993459) + (bAnd (bUshr (w4 (x0 - (bAnd (bUshr x0 1) 1431655765))) 2) 858993459))) + (bUshr (w4 ((bAnd (w4 (x0 - (bAnd (bUshr x0 1) 1431655765))) 858993459) + (bAnd (bUshr (w4 (x0 - (bAnd (bUshr x0 1) 1431655765))) 2) 858993459))) 4))) 252645135) 8))) + (bUshr (w4 ((bAnd (w4 ((w4 ((bAnd (w4 (x0 - (bAnd (bUshr x0 1) 1431655765))) 858993459) + (bAnd (bUshr (w4 (x0 - (bAnd (bUshr x0 1) 1431655765))) 2) 858993459))) + (bUshr (w4 ((bAnd (w4 (x0 - (bAnd (bUshr x0 1) 1431655765))) 858993459) + (bAnd (bUshr (w4 (x0 - (bAnd (bUshr x0 1) 1431655765))) 2) 858993459))) 4))) 252645135) + (bUshr (bAnd (w4 ((w4 ((bAnd (w4 (x0 - (bAnd (bUshr x0 1) 1431655765))) 858993459) + (bAnd (bUshr (w4 (x0 - (bAnd (bUshr x0 1) 1431655765))) 2) 858993459))) + (bUshr (w4 ((bAnd (w4 (x0 - (bAnd (bUshr x0 1) 1431655765))) 858993459) + (bAnd (bUshr (w4 (x0 - (bAnd (bUshr x0 1) 1431655765))) 2) 858993459))) 4))) 252645135) 8))) 16)))))]) c1_47 (Nat.le_of_ble_eq_true rfl) rfl ?_
  refine mE_iload_n c1_48 rfl ?_
  refine mE_bipush (x := 63) c1_49 rfl ?_
  refine mE_iand c1_51 ?_
  exact mE_iret c1_52 qr1 (r4_and _ _) ⟨rfl, w.osome⟩
theorem s1 {X : Nat × Nat × qC} {d : Nat} {x0 : Int} {M : Mm} {R : Int → Prop} (hx0 : R4 x0) (w : Wp (f1 x0 M) R) : mC X (d + 1) 1 1 [.int (Int32.ofInt x0)] M (fun v M2 => M = M2 ∧ R v) :=
  mC_of (qent_mk qx1 rfl rfl rfl) (t1 hx0 w)
/-! java/util/Arrays.fill -/
def E2_5 (X : Nat × Nat × qC) (d : Nat) (r0 nr0 : Nat) (x1 : Int) (x3 : Int) (R : Mm → Prop) : Int × Mm → Prop := fun s => R4 s.1 → mE X (d + 0) 2 0 5 [some (.ref r0), some (.int (Int32.ofInt x1)), some (.int (Int32.ofInt s.1)), some (.int (Int32.ofInt x3))] [] s.2 (fun v M2 => R M2)
noncomputable def lb2_5 (r0 nr0 : Nat) (x1 : Int) (x3 : Int) (x2 : Int) (M : Mm) : Option ((Int × Mm) ⊕ (Mm)) :=
  if x2 < x3 then
  (gd (0 ≤ x2 ∧ x2 < nr0) (
  mlet (ms M r0 (x2).toNat x1) fun M3 =>
  gd (R4 (x2 + 1)) (
  some (.inl ((x2 + 1), M3)))))
  else
  (oinr (some M))
noncomputable def f2_5 (r0 nr0 : Nat) (x1 : Int) (x3 : Int) (x2 : Int) (M : Mm) : Option (Mm) := lp (fun s : Int × Mm => lb2_5 r0 nr0 x1 x3 s.1 s.2) (x2, M)
theorem tb2_5 {X : Nat × Nat × qC} {d : Nat} {r0 nr0 : Nat} {x1 : Int} {x3 : Int} {x2 : Int} {M : Mm}  {R : Mm → Prop} (hr0 : Ok X r0 (0, 0, nr0, [])) (hx1 : R4 x1) (hx3 : R4 x3) (hx2 : R4 x2) (w : Wp (lb2_5 r0 nr0 x1 x3 x2 M) (Sum.elim (E2_5 X d r0 nr0 x1 x3 R) R)) : mE X (d + 0) 2 0 5 [some (.ref r0), some (.int (Int32.ofInt x1)), some (.int (Int32.ofInt x2)), some (.int (Int32.ofInt x3))] [] M (fun v M2 => R M2) := by
  refine mE_iload_n c2_5 rfl ?_
  refine mE_iload_n c2_6 rfl ?_
  by_cases e1 : x2 < x3
  · have w := w.pos e1
    refine mE_icmp_ge_F (t := 20) c2_7 rfl hx2 hx3 e1 ?_
    refine mE_aload_n c2_10 rfl ?_
    refine mE_iload_n c2_11 rfl ?_
    refine mE_iload_n c2_12 rfl ?_
    obtain ⟨g2, w⟩ := w.ogd
    obtain ⟨M3, m4, w⟩ := w.mlet
    refine mE_iastore c2_13 hr0 hx2 g2 hx1 ?_
    refine mE_M m4 ?_
    obtain ⟨g5, w⟩ := w.ogd
    refine mE_iinc (ls2 := [some (.ref r0), some (.int (Int32.ofInt x1)), some (.int (Int32.ofInt (x2 + 1))), some (.int (Int32.ofInt x3))]) c2_14 rfl (Nat.le_of_ble_eq_true rfl) rfl ?_
    refine mE_goto (t := 5) c2_17 rfl ?_
    exact w.osome g5
  · have w := w.neg e1
    refine mE_icmp_ge_T (t := 20) c2_7 rfl hx2 hx3 e1 ?_
    have w := w.oinr
    exact mE_vret c2_20 qr2 w.osome
theorem t2_5 {X : Nat × Nat × qC} {d : Nat} {r0 nr0 : Nat} {x1 : Int} {x3 : Int} {x2 : Int} {M : Mm}  {R : Mm → Prop} (hr0 : Ok X r0 (0, 0, nr0, [])) (hx1 : R4 x1) (hx3 : R4 x3) (hx2 : R4 x2) (w : Wp (f2_5 r0 nr0 x1 x3 x2 M) R) : mE X (d + 0) 2 0 5 [some (.ref r0), some (.int (Int32.ofInt x1)), some (.int (Int32.ofInt x2)), some (.int (Int32.ofInt x3))] [] M (fun v M2 => R M2) :=
  Wp.olp (f := fun s : Int × Mm => lb2_5 r0 nr0 x1 x3 s.1 s.2) (s := (x2, M)) (E := E2_5 X d r0 nr0 x1 x3 R) w (fun s w hx2 => tb2_5 hr0 hx1 hx3 hx2 w) hx2
noncomputable def f2 (r0 nr0 : Nat) (x1 : Int) (M : Mm) : Option (Mm) :=
  gd (R4 (nr0 : Int)) (
  f2_5 r0 nr0 x1 (nr0 : Int) 0 M)
theorem t2 {X : Nat × Nat × qC} {d : Nat} {r0 nr0 : Nat} {x1 : Int} {M : Mm}  {R : Mm → Prop} (hr0 : Ok X r0 (0, 0, nr0, [])) (hx1 : R4 x1) (w : Wp (f2 r0 nr0 x1 M) R) : mE X (d + 0) 2 0 0 [some (.ref r0), some (.int (Int32.ofInt x1)), none, none] [] M (fun v M2 => R M2) := by
  refine mE_iconst c2_0 ?_
  refine mE_istore_n (ls2 := [some (.ref r0), some (.int (Int32.ofInt x1)), some (.int (Int32.ofInt 0)), none]) c2_1 (Nat.le_of_ble_eq_true rfl) rfl ?_
  refine mE_aload_n c2_2 rfl ?_
  obtain ⟨g1, w⟩ := w.ogd
  refine mE_arraylength (x := (nr0 : Int)) c2_3 hr0 (i4_ofNat _) ?_
  refine mE_istore_n (ls2 := [some (.ref r0), some (.int (Int32.ofInt x1)), some (.int (Int32.ofInt 0)), some (.int (Int32.ofInt (nr0 : Int)))]) c2_4 (Nat.le_of_ble_eq_true rfl) rfl ?_
  exact t2_5 hr0 hx1 g1 (r4_n rfl) w
theorem s2 {X : Nat × Nat × qC} {d : Nat} {r0 nr0 : Nat} {x1 : Int} {M : Mm} {R : Mm → Prop} (hr0 : Ok X r0 (0, 0, nr0, [])) (hx1 : R4 x1) (w : Wp (f2 r0 nr0 x1 M) R) : mC X (d + 1) 2 0 [.ref r0, .int (Int32.ofInt x1)] M (fun v M2 => R M2) :=
  mC_of (qent_mk qx2 rfl rfl rfl) (t2 hr0 hx1 w)
/-! java/util/Arrays.fill -/
def E3_6 (X : Nat × Nat × qC) (d : Nat) (r0 nr0 : Nat) (l1 : Int) (x4 : Int) (R : Mm → Prop) : Int × Mm → Prop := fun s => R4 s.1 → mE X (d + 0) 3 0 6 [some (.ref r0), some (.long (Int64.ofInt l1)), none, some (.int (Int32.ofInt s.1)), some (.int (Int32.ofInt x4))] [] s.2 (fun v M2 => R M2)
noncomputable def lb3_6 (r0 nr0 : Nat) (l1 : Int) (x4 : Int) (x3 : Int) (M : Mm) : Option ((Int × Mm) ⊕ (Mm)) :=
  if x3 < x4 then
  (gd (0 ≤ x3 ∧ x3 < nr0) (
  mlet (ms M r0 (x3).toNat l1) fun M3 =>
  gd (R4 (x3 + 1)) (
  some (.inl ((x3 + 1), M3)))))
  else
  (oinr (some M))
noncomputable def f3_6 (r0 nr0 : Nat) (l1 : Int) (x4 : Int) (x3 : Int) (M : Mm) : Option (Mm) := lp (fun s : Int × Mm => lb3_6 r0 nr0 l1 x4 s.1 s.2) (x3, M)
theorem tb3_6 {X : Nat × Nat × qC} {d : Nat} {r0 nr0 : Nat} {l1 : Int} {x4 : Int} {x3 : Int} {M : Mm}  {R : Mm → Prop} (hr0 : Ok X r0 (1, 2, nr0, [])) (hl1 : R8 l1) (hx4 : R4 x4) (hx3 : R4 x3) (w : Wp (lb3_6 r0 nr0 l1 x4 x3 M) (Sum.elim (E3_6 X d r0 nr0 l1 x4 R) R)) : mE X (d + 0) 3 0 6 [some (.ref r0), some (.long (Int64.ofInt l1)), none, some (.int (Int32.ofInt x3)), some (.int (Int32.ofInt x4))] [] M (fun v M2 => R M2) := by
  refine mE_iload_n c3_6 rfl ?_
  refine mE_iload c3_7 rfl ?_
  by_cases e1 : x3 < x4
  · have w := w.pos e1
    refine mE_icmp_ge_F (t := 22) c3_9 rfl hx3 hx4 e1 ?_
    refine mE_aload_n c3_12 rfl ?_
    refine mE_iload_n c3_13 rfl ?_
    refine mE_lload_n c3_14 rfl ?_
    obtain ⟨g2, w⟩ := w.ogd
    obtain ⟨M3, m4, w⟩ := w.mlet
    refine mE_lastore c3_15 hr0 hx3 g2 hl1 ?_
    refine mE_M m4 ?_
    obtain ⟨g5, w⟩ := w.ogd
    refine mE_iinc (ls2 := [some (.ref r0), some (.long (Int64.ofInt l1)), none, some (.int (Int32.ofInt (x3 + 1))), some (.int (Int32.ofInt x4))]) c3_16 rfl (Nat.le_of_ble_eq_true rfl) rfl ?_
    refine mE_goto (t := 6) c3_19 rfl ?_
    exact w.osome g5
  · have w := w.neg e1
    refine mE_icmp_ge_T (t := 22) c3_9 rfl hx3 hx4 e1 ?_
    have w := w.oinr
    exact mE_vret c3_22 qr3 w.osome
theorem t3_6 {X : Nat × Nat × qC} {d : Nat} {r0 nr0 : Nat} {l1 : Int} {x4 : Int} {x3 : Int} {M : Mm}  {R : Mm → Prop} (hr0 : Ok X r0 (1, 2, nr0, [])) (hl1 : R8 l1) (hx4 : R4 x4) (hx3 : R4 x3) (w : Wp (f3_6 r0 nr0 l1 x4 x3 M) R) : mE X (d + 0) 3 0 6 [some (.ref r0), some (.long (Int64.ofInt l1)), none, some (.int (Int32.ofInt x3)), some (.int (Int32.ofInt x4))] [] M (fun v M2 => R M2) :=
  Wp.olp (f := fun s : Int × Mm => lb3_6 r0 nr0 l1 x4 s.1 s.2) (s := (x3, M)) (E := E3_6 X d r0 nr0 l1 x4 R) w (fun s w hx3 => tb3_6 hr0 hl1 hx4 hx3 w) hx3
noncomputable def f3 (r0 nr0 : Nat) (l1 : Int) (M : Mm) : Option (Mm) :=
  gd (R4 (nr0 : Int)) (
  f3_6 r0 nr0 l1 (nr0 : Int) 0 M)
theorem t3 {X : Nat × Nat × qC} {d : Nat} {r0 nr0 : Nat} {l1 : Int} {M : Mm}  {R : Mm → Prop} (hr0 : Ok X r0 (1, 2, nr0, [])) (hl1 : R8 l1) (w : Wp (f3 r0 nr0 l1 M) R) : mE X (d + 0) 3 0 0 [some (.ref r0), some (.long (Int64.ofInt l1)), none, none, none] [] M (fun v M2 => R M2) := by
  refine mE_iconst c3_0 ?_
  refine mE_istore_n (ls2 := [some (.ref r0), some (.long (Int64.ofInt l1)), none, some (.int (Int32.ofInt 0)), none]) c3_1 (Nat.le_of_ble_eq_true rfl) rfl ?_
  refine mE_aload_n c3_2 rfl ?_
  obtain ⟨g1, w⟩ := w.ogd
  refine mE_arraylengthJ (x := (nr0 : Int)) c3_3 hr0 (i4_ofNat _) ?_
  refine mE_istore (ls2 := [some (.ref r0), some (.long (Int64.ofInt l1)), none, some (.int (Int32.ofInt 0)), some (.int (Int32.ofInt (nr0 : Int)))]) c3_4 (Nat.le_of_ble_eq_true rfl) rfl ?_
  exact t3_6 hr0 hl1 g1 (r4_n rfl) w
theorem s3 {X : Nat × Nat × qC} {d : Nat} {r0 nr0 : Nat} {l1 : Int} {M : Mm} {R : Mm → Prop} (hr0 : Ok X r0 (1, 2, nr0, [])) (hl1 : R8 l1) (w : Wp (f3 r0 nr0 l1 M) R) : mC X (d + 1) 3 0 [.ref r0, .long (Int64.ofInt l1)] M (fun v M2 => R M2) :=
  mC_of (qent_mk qx3 rfl rfl rfl) (t3 hr0 hl1 w)
/-! java/lang/Math.abs -/
noncomputable def f4 (l0 : Int) (M : Mm) : Option (Int) :=
  if l0 < 0 then
  (gd (R8 (-l0)) (
  some (-l0)))
  else
  (some l0)
theorem t4 {X : Nat × Nat × qC} {d : Nat} {l0 : Int} {M : Mm}  {R : Int → Prop} (hl0 : R8 l0) (w : Wp (f4 l0 M) R) : mE X (d + 0) 4 2 0 [some (.long (Int64.ofInt l0)), none] [] M (fun v M2 => M = M2 ∧ R v) := by
  refine mE_lload_n c4_0 rfl ?_
  refine mE_lconst (x := 0) c4_1 rfl ?_
  by_cases e1 : l0 < 0
  · have w := w.pos e1
    refine mE_lcmp_ge_F (t := 11) c4_2 c4_3 rfl hl0 (r8_n rfl) e1 ?_
    refine mE_lload_n c4_6 rfl ?_
    obtain ⟨g2, w⟩ := w.ogd
    refine mE_lneg c4_7 ?_
    refine mE_goto (t := 12) c4_8 rfl ?_
    exact mE_lret c4_12 qr4 g2 ⟨rfl, w.osome⟩
  · have w := w.neg e1
    refine mE_lcmp_ge_T (t := 11) c4_2 c4_3 rfl hl0 (r8_n rfl) e1 ?_
    refine mE_lload_n c4_11 rfl ?_
    exact mE_lret c4_12 qr4 hl0 ⟨rfl, w.osome⟩
theorem s4 {X : Nat × Nat × qC} {d : Nat} {l0 : Int} {M : Mm} {R : Int → Prop} (hl0 : R8 l0) (w : Wp (f4 l0 M) R) : mC X (d + 1) 4 2 [.long (Int64.ofInt l0)] M (fun v M2 => M = M2 ∧ R v) :=
  mC_of (qent_mk qx4 rfl rfl rfl) (t4 hl0 w)
/-! java/lang/Math.max -/
noncomputable def f5 (l0 : Int) (l2 : Int) (M : Mm) : Option (Int) :=
  if l0 < l2 then
  (some l2)
  else
  (some l0)
theorem t5 {X : Nat × Nat × qC} {d : Nat} {l0 : Int} {l2 : Int} {M : Mm}  {R : Int → Prop} (hl0 : R8 l0) (hl2 : R8 l2) (w : Wp (f5 l0 l2 M) R) : mE X (d + 0) 5 2 0 [some (.long (Int64.ofInt l0)), none, some (.long (Int64.ofInt l2)), none] [] M (fun v M2 => M = M2 ∧ R v) := by
  refine mE_lload_n c5_0 rfl ?_
  refine mE_lload_n c5_1 rfl ?_
  by_cases e1 : l0 < l2
  · have w := w.pos e1
    refine mE_lcmp_lt_T (t := 10) c5_2 c5_3 rfl hl0 hl2 e1 ?_
    refine mE_lload_n c5_10 rfl ?_
    exact mE_lret c5_11 qr5 hl2 ⟨rfl, w.osome⟩
  · have w := w.neg e1
    refine mE_lcmp_lt_F (t := 10) c5_2 c5_3 rfl hl0 hl2 e1 ?_
    refine mE_lload_n c5_6 rfl ?_
    refine mE_goto (t := 11) c5_7 rfl ?_
    exact mE_lret c5_11 qr5 hl0 ⟨rfl, w.osome⟩
theorem s5 {X : Nat × Nat × qC} {d : Nat} {l0 : Int} {l2 : Int} {M : Mm} {R : Int → Prop} (hl0 : R8 l0) (hl2 : R8 l2) (w : Wp (f5 l0 l2 M) R) : mC X (d + 1) 5 2 [.long (Int64.ofInt l0), .long (Int64.ofInt l2)] M (fun v M2 => M = M2 ∧ R v) :=
  mC_of (qent_mk qx5 rfl rfl rfl) (t5 hl0 hl2 w)
/-! java/lang/Math.min -/
noncomputable def f6 (x0 : Int) (x1 : Int) (M : Mm) : Option (Int) :=
  if x1 < x0 then
  (some x1)
  else
  (some x0)
theorem t6 {X : Nat × Nat × qC} {d : Nat} {x0 : Int} {x1 : Int} {M : Mm}  {R : Int → Prop} (hx0 : R4 x0) (hx1 : R4 x1) (w : Wp (f6 x0 x1 M) R) : mE X (d + 0) 6 1 0 [some (.int (Int32.ofInt x0)), some (.int (Int32.ofInt x1))] [] M (fun v M2 => M = M2 ∧ R v) := by
  refine mE_iload_n c6_0 rfl ?_
  refine mE_iload_n c6_1 rfl ?_
  by_cases e1 : x1 < x0
  · have w := w.pos e1
    refine mE_icmp_gt_T (t := 9) c6_2 rfl hx0 hx1 e1 ?_
    refine mE_iload_n c6_9 rfl ?_
    exact mE_iret c6_10 qr6 hx1 ⟨rfl, w.osome⟩
  · have w := w.neg e1
    refine mE_icmp_gt_F (t := 9) c6_2 rfl hx0 hx1 e1 ?_
    refine mE_iload_n c6_5 rfl ?_
    refine mE_goto (t := 10) c6_6 rfl ?_
    exact mE_iret c6_10 qr6 hx0 ⟨rfl, w.osome⟩
theorem s6 {X : Nat × Nat × qC} {d : Nat} {x0 : Int} {x1 : Int} {M : Mm} {R : Int → Prop} (hx0 : R4 x0) (hx1 : R4 x1) (w : Wp (f6 x0 x1 M) R) : mC X (d + 1) 6 1 [.int (Int32.ofInt x0), .int (Int32.ofInt x1)] M (fun v M2 => M = M2 ∧ R v) :=
  mC_of (qent_mk qx6 rfl rfl rfl) (t6 hx0 hx1 w)
/-! java/lang/Math.min -/
noncomputable def f7 (l0 : Int) (l2 : Int) (M : Mm) : Option (Int) :=
  if l2 < l0 then
  (some l2)
  else
  (some l0)
theorem t7 {X : Nat × Nat × qC} {d : Nat} {l0 : Int} {l2 : Int} {M : Mm}  {R : Int → Prop} (hl0 : R8 l0) (hl2 : R8 l2) (w : Wp (f7 l0 l2 M) R) : mE X (d + 0) 7 2 0 [some (.long (Int64.ofInt l0)), none, some (.long (Int64.ofInt l2)), none] [] M (fun v M2 => M = M2 ∧ R v) := by
  refine mE_lload_n c7_0 rfl ?_
  refine mE_lload_n c7_1 rfl ?_
  by_cases e1 : l2 < l0
  · have w := w.pos e1
    refine mE_lcmp_gt_T (t := 10) c7_2 c7_3 rfl hl0 hl2 e1 ?_
    refine mE_lload_n c7_10 rfl ?_
    exact mE_lret c7_11 qr7 hl2 ⟨rfl, w.osome⟩
  · have w := w.neg e1
    refine mE_lcmp_gt_F (t := 10) c7_2 c7_3 rfl hl0 hl2 e1 ?_
    refine mE_lload_n c7_6 rfl ?_
    refine mE_goto (t := 11) c7_7 rfl ?_
    exact mE_lret c7_11 qr7 hl0 ⟨rfl, w.osome⟩
theorem s7 {X : Nat × Nat × qC} {d : Nat} {l0 : Int} {l2 : Int} {M : Mm} {R : Int → Prop} (hl0 : R8 l0) (hl2 : R8 l2) (w : Wp (f7 l0 l2 M) R) : mC X (d + 1) 7 2 [.long (Int64.ofInt l0), .long (Int64.ofInt l2)] M (fun v M2 => M = M2 ∧ R v) :=
  mC_of (qent_mk qx7 rfl rfl rfl) (t7 hl0 hl2 w)
/-! SaggingNet$Net.hangTogether -/
def E213_50 (X : Nat × Nat × qC) (d : Nat) (r1 : Nat) (x2 : Int) (r3 : Nat) (x5 : Int) (R : Mm → Prop) : Int × Int × Mm → Prop := fun s => R4 s.1 → R4 s.2.1 → ∀ (o7 : Option Value), ∀ (o8 : Option Value), mE X (d + 1) 213 0 50 [some (.ref 3), some (.ref r1), some (.int (Int32.ofInt x2)), some (.ref r3), some (.int (Int32.ofInt s.1)), some (.int (Int32.ofInt x5)), some (.int (Int32.ofInt s.2.1)), o7, o8] [] s.2.2 (fun v M2 => R M2)
def E213_30 (X : Nat × Nat × qC) (d : Nat) (r1 : Nat) (x2 : Int) (r3 : Nat) (R : Mm → Prop) : Int × Int × Mm → Prop := fun s => R4 s.1 → R4 s.2.1 → ∀ (o6 : Option Value), ∀ (o7 : Option Value), ∀ (o8 : Option Value), mE X (d + 1) 213 0 30 [some (.ref 3), some (.ref r1), some (.int (Int32.ofInt x2)), some (.ref r3), some (.int (Int32.ofInt s.1)), some (.int (Int32.ofInt s.2.1)), o6, o7, o8] [] s.2.2 (fun v M2 => R M2)
def E213_3 (X : Nat × Nat × qC) (d : Nat) (r1 : Nat) (x2 : Int) (r3 : Nat) (R : Mm → Prop) : Int × Mm → Prop := fun s => R4 s.1 → mE X (d + 1) 213 0 3 [some (.ref 3), some (.ref r1), some (.int (Int32.ofInt x2)), some (.ref r3), some (.int (Int32.ofInt s.1)), none, none, none, none] [] s.2 (fun v M2 => R M2)
noncomputable def f213_165 (r1 : Nat) (x2 : Int) (r3 : Nat) (x4 : Int) (x5 : Int) (x6 : Int) (M : Mm) : Option ((Int × Int × Mm) ⊕ ((Int × Int × Mm) ⊕ (Mm))) :=
  gd (R4 (x6 + 1)) (
  some (.inl (x4, (x6 + 1), M)))
theorem t213_165 {X : Nat × Nat × qC} {d : Nat} {r1 : Nat} {x2 : Int} {r3 : Nat} {x4 : Int} {x5 : Int} {x6 : Int} {M : Mm} {y7 : Int32} {o8 : Option Value} {R : Mm → Prop} (hr1 : isSt X.1 r1) (hx2 : R4 x2) (hr3 : Ok X r3 (0, 0, 8, [])) (hx4 : R4 x4) (hx5 : R4 x5) (hx6 : R4 x6) (w : Wp (f213_165 r1 x2 r3 x4 x5 x6 M) (Sum.elim (E213_50 X d r1 x2 r3 x5 R) (Sum.elim (E213_30 X d r1 x2 r3 R) R))) : mE X (d + 1) 213 0 165 [some (.ref 3), some (.ref r1), some (.int (Int32.ofInt x2)), some (.ref r3), some (.int (Int32.ofInt x4)), some (.int (Int32.ofInt x5)), some (.int (Int32.ofInt x6)), some (.int y7), o8] [] M (fun v M2 => R M2) := by
  obtain ⟨g1, w⟩ := w.ogd
  refine mE_iinc (ls2 := [some (.ref 3), some (.ref r1), some (.int (Int32.ofInt x2)), some (.ref r3), some (.int (Int32.ofInt x4)), some (.int (Int32.ofInt x5)), some (.int (Int32.ofInt (x6 + 1))), some (.int y7), o8]) c213_165 rfl (Nat.le_of_ble_eq_true rfl) rfl ?_
  refine mE_goto (t := 50) c213_168 rfl ?_
  exact w.osome hx4 g1 _ _
noncomputable def f213_117 (r1 : Nat) (x2 : Int) (r3 : Nat) (x5 : Int) (x6 : Int) (M : Mm) : Option ((Int × Int × Mm) ⊕ ((Int × Int × Mm) ⊕ (Mm))) :=
  gd (0 ≤ x6 ∧ x6 < 14) (
  gd (0 ≤ (M 14 (x6).toNat) ∧ (M 14 (x6).toNat) < 8) (
  gd (0 ≤ (M 15 (x6).toNat) ∧ (M 15 (x6).toNat) < 8) (
  (f6 (M r3 ((M 14 (x6).toNat)).toNat) (M r3 ((M 15 (x6).toNat)).toNat) M).bind fun v8 =>
  mlet (ms M r3 ((M 14 (x6).toNat)).toNat v8) fun M12 =>
  gd (0 ≤ (M12 15 (x6).toNat) ∧ (M12 15 (x6).toNat) < 8) (
  mlet (ms M12 r3 ((M12 15 (x6).toNat)).toNat v8) fun M16 =>
  f213_165 r1 x2 r3 1 x5 x6 M16))))
theorem t213_117 {X : Nat × Nat × qC} {d : Nat} {r1 : Nat} {x2 : Int} {r3 : Nat} {x5 : Int} {x6 : Int} {M : Mm} {y4 : Int32} {y7 : Int32} {o8 : Option Value} {R : Mm → Prop} (hr1 : isSt X.1 r1) (hx2 : R4 x2) (hr3 : Ok X r3 (0, 0, 8, [])) (hx5 : R4 x5) (hx6 : R4 x6) (w : Wp (f213_117 r1 x2 r3 x5 x6 M) (Sum.elim (E213_50 X d r1 x2 r3 x5 R) (Sum.elim (E213_30 X d r1 x2 r3 R) R))) : mE X (d + 1) 213 0 117 [some (.ref 3), some (.ref r1), some (.int (Int32.ofInt x2)), some (.ref r3), some (.int y4), some (.int (Int32.ofInt x5)), some (.int (Int32.ofInt x6)), some (.int y7), o8] [] M (fun v M2 => R M2) := by
  refine mE_aload_n c213_117 rfl ?_
  refine mE_aload_n c213_118 rfl ?_
  refine mE_getA c213_119 qo213 qF4_32 (ok_lit rfl rfl rfl) rfl ⟨by decide, by decide⟩ ?_
  refine mE_iload c213_122 rfl ?_
  obtain ⟨g1, w⟩ := w.ogd
  refine mE_iaload c213_124 (ok_lit rfl rfl rfl) hx6 g1 ?_
  intro u2
  obtain ⟨g3, w⟩ := w.ogd
  refine mE_iaload c213_125 hr3 u2 g3 ?_
  intro u4
  refine mE_aload_n c213_126 rfl ?_
  refine mE_aload_n c213_127 rfl ?_
  refine mE_getA c213_128 qo213 qF4_35 (ok_lit rfl rfl rfl) rfl ⟨by decide, by decide⟩ ?_
  refine mE_iload c213_131 rfl ?_
  refine mE_iaload c213_133 (ok_lit rfl rfl rfl) hx6 g1 ?_
  intro u5
  obtain ⟨g6, w⟩ := w.ogd
  refine mE_iaload c213_134 hr3 u5 g6 ?_
  intro u7
  refine mE_static1 (as := [.int (Int32.ofInt (M r3 ((M 14 (x6).toNat)).toNat)), .int (Int32.ofInt (M r3 ((M 15 (x6).toNat)).toNat))]) (r := []) c213_135 qo213 (by decide) qK4_76 rfl rfl rfl (Nat.le_of_ble_eq_true rfl) (s6 (d := d + 0) u4 u7 w.obind) ?_
  rintro v8 _ q10 ⟨rfl, w⟩
  refine mE_istore (ls2 := [some (.ref 3), some (.ref r1), some (.int (Int32.ofInt x2)), some (.ref r3), some (.int y4), some (.int (Int32.ofInt x5)), some (.int (Int32.ofInt x6)), some (.int y7), some (.int (Int32.ofInt v8))]) c213_138 (Nat.le_of_ble_eq_true rfl) rfl ?_
  refine mE_aload_n c213_140 rfl ?_
  refine mE_aload_n c213_141 rfl ?_
  refine mE_getA c213_142 qo213 qF4_32 (ok_lit rfl rfl rfl) rfl ⟨by decide, by decide⟩ ?_
  refine mE_iload c213_145 rfl ?_
  refine mE_iaload c213_147 (ok_lit rfl rfl rfl) hx6 g1 ?_
  intro u11
  refine mE_iload c213_148 rfl ?_
  obtain ⟨M12, m13, w⟩ := w.mlet
  refine mE_iastore c213_150 hr3 u11 g3 q10 ?_
  refine mE_M m13 ?_
  refine mE_aload_n c213_151 rfl ?_
  refine mE_aload_n c213_152 rfl ?_
  refine mE_getA c213_153 qo213 qF4_35 (ok_lit rfl rfl rfl) rfl ⟨by decide, by decide⟩ ?_
  refine mE_iload c213_156 rfl ?_
  refine mE_iaload c213_158 (ok_lit rfl rfl rfl) hx6 g1 ?_
  intro u14
  refine mE_iload c213_159 rfl ?_
  obtain ⟨g15, w⟩ := w.ogd
  obtain ⟨M16, m17, w⟩ := w.mlet
  refine mE_iastore c213_161 hr3 u14 g15 q10 ?_
  refine mE_M m17 ?_
  refine mE_iconst c213_162 ?_
  refine mE_istore (ls2 := [some (.ref 3), some (.ref r1), some (.int (Int32.ofInt x2)), some (.ref r3), some (.int (Int32.ofInt 1)), some (.int (Int32.ofInt x5)), some (.int (Int32.ofInt x6)), some (.int y7), some (.int (Int32.ofInt v8))]) c213_163 (Nat.le_of_ble_eq_true rfl) rfl ?_
  exact t213_165 hr1 hx2 hr3 (r4_n rfl) hx5 hx6 w
noncomputable def f213_96 (r1 : Nat) (x2 : Int) (r3 : Nat) (x4 : Int) (x5 : Int) (x6 : Int) (M : Mm) : Option ((Int × Int × Mm) ⊕ ((Int × Int × Mm) ⊕ (Mm))) :=
  gd (0 ≤ x6 ∧ x6 < 14) (
  gd (0 ≤ (M 14 (x6).toNat) ∧ (M 14 (x6).toNat) < 8) (
  gd (0 ≤ (M 15 (x6).toNat) ∧ (M 15 (x6).toNat) < 8) (
  if (M r3 ((M 14 (x6).toNat)).toNat) = (M r3 ((M 15 (x6).toNat)).toNat) then
  (f213_165 r1 x2 r3 x4 x5 x6 M)
  else
  (f213_117 r1 x2 r3 x5 x6 M))))
theorem t213_96 {X : Nat × Nat × qC} {d : Nat} {r1 : Nat} {x2 : Int} {r3 : Nat} {x4 : Int} {x5 : Int} {x6 : Int} {M : Mm} {y7 : Int32} {o8 : Option Value} {R : Mm → Prop} (hr1 : isSt X.1 r1) (hx2 : R4 x2) (hr3 : Ok X r3 (0, 0, 8, [])) (hx4 : R4 x4) (hx5 : R4 x5) (hx6 : R4 x6) (w : Wp (f213_96 r1 x2 r3 x4 x5 x6 M) (Sum.elim (E213_50 X d r1 x2 r3 x5 R) (Sum.elim (E213_30 X d r1 x2 r3 R) R))) : mE X (d + 1) 213 0 96 [some (.ref 3), some (.ref r1), some (.int (Int32.ofInt x2)), some (.ref r3), some (.int (Int32.ofInt x4)), some (.int (Int32.ofInt x5)), some (.int (Int32.ofInt x6)), some (.int y7), o8] [] M (fun v M2 => R M2) := by
  refine mE_aload_n c213_96 rfl ?_
  refine mE_aload_n c213_97 rfl ?_
  refine mE_getA c213_98 qo213 qF4_32 (ok_lit rfl rfl rfl) rfl ⟨by decide, by decide⟩ ?_
  refine mE_iload c213_101 rfl ?_
  obtain ⟨g1, w⟩ := w.ogd
  refine mE_iaload c213_103 (ok_lit rfl rfl rfl) hx6 g1 ?_
  intro u2
  obtain ⟨g3, w⟩ := w.ogd
  refine mE_iaload c213_104 hr3 u2 g3 ?_
  intro u4
  refine mE_aload_n c213_105 rfl ?_
  refine mE_aload_n c213_106 rfl ?_
  refine mE_getA c213_107 qo213 qF4_35 (ok_lit rfl rfl rfl) rfl ⟨by decide, by decide⟩ ?_
  refine mE_iload c213_110 rfl ?_
  refine mE_iaload c213_112 (ok_lit rfl rfl rfl) hx6 g1 ?_
  intro u5
  obtain ⟨g6, w⟩ := w.ogd
  refine mE_iaload c213_113 hr3 u5 g6 ?_
  intro u7
  by_cases e8 : (M r3 ((M 14 (x6).toNat)).toNat) = (M r3 ((M 15 (x6).toNat)).toNat)
  · have w := w.pos e8
    refine mE_icmp_eq_T (t := 165) c213_114 rfl u4 u7 e8 ?_
    exact t213_165 hr1 hx2 hr3 hx4 hx5 hx6 w
  · have w := w.neg e8
    refine mE_icmp_eq_F (t := 165) c213_114 rfl u4 u7 e8 ?_
    exact t213_117 hr1 hx2 hr3 hx5 hx6 w
noncomputable def lb213_50 (r1 : Nat) (x2 : Int) (r3 : Nat) (x5 : Int) (x4 : Int) (x6 : Int) (M : Mm) : Option ((Int × Int × Mm) ⊕ ((Int × Int × Mm) ⊕ (Mm))) :=
  if x6 < (M 3 1) then
  (gd (0 ≤ x6 ∧ x6 < 14) (
  if (M (r1 + 2) (x6).toNat) = 0 then
  (f213_96 r1 x2 r3 x4 x5 x6 M)
  else
  (if x2 = 0 then
  (f213_165 r1 x2 r3 x4 x5 x6 M)
  else
  (if (M (r1 + 2) (x6).toNat) = 3 then
  (f213_165 r1 x2 r3 x4 x5 x6 M)
  else
  (f213_96 r1 x2 r3 x4 x5 x6 M)))))
  else
  (oinr (gd (R4 (x5 + 1)) (
  some (.inl (x4, (x5 + 1), M)))))
noncomputable def f213_50 (r1 : Nat) (x2 : Int) (r3 : Nat) (x5 : Int) (x4 : Int) (x6 : Int) (M : Mm) : Option ((Int × Int × Mm) ⊕ (Mm)) := lp (fun s : Int × Int × Mm => lb213_50 r1 x2 r3 x5 s.1 s.2.1 s.2.2) (x4, x6, M)
theorem tb213_50 {X : Nat × Nat × qC} {d : Nat} {r1 : Nat} {x2 : Int} {r3 : Nat} {x5 : Int} {x4 : Int} {x6 : Int} {M : Mm} {o7 : Option Value} {o8 : Option Value} {R : Mm → Prop} (hr1 : isSt X.1 r1) (hx2 : R4 x2) (hr3 : Ok X r3 (0, 0, 8, [])) (hx5 : R4 x5) (hx4 : R4 x4) (hx6 : R4 x6) (w : Wp (lb213_50 r1 x2 r3 x5 x4 x6 M) (Sum.elim (E213_50 X d r1 x2 r3 x5 R) (Sum.elim (E213_30 X d r1 x2 r3 R) R))) : mE X (d + 1) 213 0 50 [some (.ref 3), some (.ref r1), some (.int (Int32.ofInt x2)), some (.ref r3), some (.int (Int32.ofInt x4)), some (.int (Int32.ofInt x5)), some (.int (Int32.ofInt x6)), o7, o8] [] M (fun v M2 => R M2) := by
  refine mE_iload c213_50 rfl ?_
  refine mE_aload_n c213_52 rfl ?_
  refine mE_getI c213_53 qo213 qF4_65 (ok_lit rfl rfl rfl) rfl ?_
  intro u1
  by_cases e2 : x6 < (M 3 1)
  · have w := w.pos e2
    refine mE_icmp_ge_F (t := 171) c213_56 rfl hx6 u1 e2 ?_
    refine mE_aload_n c213_59 rfl ?_
    refine mE_getA c213_60 qo213 qF4_71 (ok_st0 hr1) rfl (nz_st hr1 _) ?_
    refine mE_iload c213_63 rfl ?_
    obtain ⟨g3, w⟩ := w.ogd
    refine mE_iaload c213_65 (ok_st2 hr1) hx6 g3 ?_
    intro u4
    by_cases e5 : (M (r1 + 2) (x6).toNat) = 0
    · have w := w.pos e5
      refine mE_if_eq_T (t := 84) c213_66 rfl u4 e5 ?_
      refine mE_iconst c213_84 ?_
      refine mE_goto (t := 89) c213_85 rfl ?_
      refine mE_istore (ls2 := [some (.ref 3), some (.ref r1), some (.int (Int32.ofInt x2)), some (.ref r3), some (.int (Int32.ofInt x4)), some (.int (Int32.ofInt x5)), some (.int (Int32.ofInt x6)), some (.int (Int32.ofInt 1)), o8]) c213_89 (Nat.le_of_ble_eq_true rfl) rfl ?_
      refine mE_iload c213_91 rfl ?_
      refine mE_if_eq_F (t := 165) c213_93 rfl (r4_n rfl) (by decide) ?_
      exact t213_96 hr1 hx2 hr3 hx4 hx5 hx6 w
    · have w := w.neg e5
      refine mE_if_eq_F (t := 84) c213_66 rfl u4 e5 ?_
      refine mE_iload_n c213_69 rfl ?_
      by_cases e6 : x2 = 0
      · have w := w.pos e6
        refine mE_if_eq_T (t := 88) c213_70 rfl hx2 e6 ?_
        refine mE_iconst c213_88 ?_
        refine mE_istore (ls2 := [some (.ref 3), some (.ref r1), some (.int (Int32.ofInt x2)), some (.ref r3), some (.int (Int32.ofInt x4)), some (.int (Int32.ofInt x5)), some (.int (Int32.ofInt x6)), some (.int (Int32.ofInt 0)), o8]) c213_89 (Nat.le_of_ble_eq_true rfl) rfl ?_
        refine mE_iload c213_91 rfl ?_
        refine mE_if_eq_T (t := 165) c213_93 rfl (r4_n rfl) (by decide) ?_
        exact t213_165 hr1 hx2 hr3 hx4 hx5 hx6 w
      · have w := w.neg e6
        refine mE_if_eq_F (t := 88) c213_70 rfl hx2 e6 ?_
        refine mE_aload_n c213_73 rfl ?_
        refine mE_getA c213_74 qo213 qF4_71 (ok_st0 hr1) rfl (nz_st hr1 _) ?_
        refine mE_iload c213_77 rfl ?_
        refine mE_iaload c213_79 (ok_st2 hr1) hx6 g3 ?_
        intro u7
        refine mE_iconst c213_80 ?_
        by_cases e8 : (M (r1 + 2) (x6).toNat) = 3
        · have w := w.pos e8
          refine mE_icmp_eq_T (t := 88) c213_81 rfl u7 (r4_n rfl) e8 ?_
          refine mE_iconst c213_88 ?_
          refine mE_istore (ls2 := [some (.ref 3), some (.ref r1), some (.int (Int32.ofInt x2)), some (.ref r3), some (.int (Int32.ofInt x4)), some (.int (Int32.ofInt x5)), some (.int (Int32.ofInt x6)), some (.int (Int32.ofInt 0)), o8]) c213_89 (Nat.le_of_ble_eq_true rfl) rfl ?_
          refine mE_iload c213_91 rfl ?_
          refine mE_if_eq_T (t := 165) c213_93 rfl (r4_n rfl) (by decide) ?_
          exact t213_165 hr1 hx2 hr3 hx4 hx5 hx6 w
        · have w := w.neg e8
          refine mE_icmp_eq_F (t := 88) c213_81 rfl u7 (r4_n rfl) e8 ?_
          refine mE_iconst c213_84 ?_
          refine mE_goto (t := 89) c213_85 rfl ?_
          refine mE_istore (ls2 := [some (.ref 3), some (.ref r1), some (.int (Int32.ofInt x2)), some (.ref r3), some (.int (Int32.ofInt x4)), some (.int (Int32.ofInt x5)), some (.int (Int32.ofInt x6)), some (.int (Int32.ofInt 1)), o8]) c213_89 (Nat.le_of_ble_eq_true rfl) rfl ?_
          refine mE_iload c213_91 rfl ?_
          refine mE_if_eq_F (t := 165) c213_93 rfl (r4_n rfl) (by decide) ?_
          exact t213_96 hr1 hx2 hr3 hx4 hx5 hx6 w
  · have w := w.neg e2
    refine mE_icmp_ge_T (t := 171) c213_56 rfl hx6 u1 e2 ?_
    have w := w.oinr
    obtain ⟨g3, w⟩ := w.ogd
    refine mE_iinc (ls2 := [some (.ref 3), some (.ref r1), some (.int (Int32.ofInt x2)), some (.ref r3), some (.int (Int32.ofInt x4)), some (.int (Int32.ofInt (x5 + 1))), some (.int (Int32.ofInt x6)), o7, o8]) c213_171 rfl (Nat.le_of_ble_eq_true rfl) rfl ?_
    refine mE_goto (t := 30) c213_174 rfl ?_
    exact w.osome hx4 g3 _ _ _
theorem t213_50 {X : Nat × Nat × qC} {d : Nat} {r1 : Nat} {x2 : Int} {r3 : Nat} {x5 : Int} {x4 : Int} {x6 : Int} {M : Mm} {o7 : Option Value} {o8 : Option Value} {R : Mm → Prop} (hr1 : isSt X.1 r1) (hx2 : R4 x2) (hr3 : Ok X r3 (0, 0, 8, [])) (hx5 : R4 x5) (hx4 : R4 x4) (hx6 : R4 x6) (w : Wp (f213_50 r1 x2 r3 x5 x4 x6 M) (Sum.elim (E213_30 X d r1 x2 r3 R) R)) : mE X (d + 1) 213 0 50 [some (.ref 3), some (.ref r1), some (.int (Int32.ofInt x2)), some (.ref r3), some (.int (Int32.ofInt x4)), some (.int (Int32.ofInt x5)), some (.int (Int32.ofInt x6)), o7, o8] [] M (fun v M2 => R M2) :=
  Wp.olp (f := fun s : Int × Int × Mm => lb213_50 r1 x2 r3 x5 s.1 s.2.1 s.2.2) (s := (x4, x6, M)) (E := E213_50 X d r1 x2 r3 x5 R) w (fun s w hx4 hx6 _ _ => tb213_50 hr1 hx2 hr3 hx5 hx4 hx6 w) hx4 hx6 _ _
noncomputable def lb213_30 (r1 : Nat) (x2 : Int) (r3 : Nat) (x4 : Int) (x5 : Int) (M : Mm) : Option ((Int × Int × Mm) ⊕ (Mm)) :=
  if x5 < (M 3 0) then
  (if x4 = 0 then
  (oinr (some M))
  else
  (f213_50 r1 x2 r3 x5 0 0 M))
  else
  (oinr (some M))
noncomputable def f213_30 (r1 : Nat) (x2 : Int) (r3 : Nat) (x4 : Int) (x5 : Int) (M : Mm) : Option (Mm) := lp (fun s : Int × Int × Mm => lb213_30 r1 x2 r3 s.1 s.2.1 s.2.2) (x4, x5, M)
theorem tb213_30 {X : Nat × Nat × qC} {d : Nat} {r1 : Nat} {x2 : Int} {r3 : Nat} {x4 : Int} {x5 : Int} {M : Mm} {o6 : Option Value} {o7 : Option Value} {o8 : Option Value} {R : Mm → Prop} (hr1 : isSt X.1 r1) (hx2 : R4 x2) (hr3 : Ok X r3 (0, 0, 8, [])) (hx4 : R4 x4) (hx5 : R4 x5) (w : Wp (lb213_30 r1 x2 r3 x4 x5 M) (Sum.elim (E213_30 X d r1 x2 r3 R) R)) : mE X (d + 1) 213 0 30 [some (.ref 3), some (.ref r1), some (.int (Int32.ofInt x2)), some (.ref r3), some (.int (Int32.ofInt x4)), some (.int (Int32.ofInt x5)), o6, o7, o8] [] M (fun v M2 => R M2) := by
  refine mE_iload c213_30 rfl ?_
  refine mE_aload_n c213_32 rfl ?_
  refine mE_getI c213_33 qo213 qF4_62 (ok_lit rfl rfl rfl) rfl ?_
  intro u1
  by_cases e2 : x5 < (M 3 0)
  · have w := w.pos e2
    refine mE_icmp_ge_F (t := 177) c213_36 rfl hx5 u1 e2 ?_
    refine mE_iload c213_39 rfl ?_
    by_cases e3 : x4 = 0
    · have w := w.pos e3
      refine mE_if_eq_T (t := 177) c213_41 rfl hx4 e3 ?_
      have w := w.oinr
      exact mE_vret c213_177 qr213 w.osome
    · have w := w.neg e3
      refine mE_if_eq_F (t := 177) c213_41 rfl hx4 e3 ?_
      refine mE_iconst c213_44 ?_
      refine mE_istore (ls2 := [some (.ref 3), some (.ref r1), some (.int (Int32.ofInt x2)), some (.ref r3), some (.int (Int32.ofInt 0)), some (.int (Int32.ofInt x5)), o6, o7, o8]) c213_45 (Nat.le_of_ble_eq_true rfl) rfl ?_
      refine mE_iconst c213_47 ?_
      refine mE_istore (ls2 := [some (.ref 3), some (.ref r1), some (.int (Int32.ofInt x2)), some (.ref r3), some (.int (Int32.ofInt 0)), some (.int (Int32.ofInt x5)), some (.int (Int32.ofInt 0)), o7, o8]) c213_48 (Nat.le_of_ble_eq_true rfl) rfl ?_
      exact t213_50 hr1 hx2 hr3 hx5 (r4_n rfl) (r4_n rfl) w
  · have w := w.neg e2
    refine mE_icmp_ge_T (t := 177) c213_36 rfl hx5 u1 e2 ?_
    have w := w.oinr
    exact mE_vret c213_177 qr213 w.osome
theorem t213_30 {X : Nat × Nat × qC} {d : Nat} {r1 : Nat} {x2 : Int} {r3 : Nat} {x4 : Int} {x5 : Int} {M : Mm} {o6 : Option Value} {o7 : Option Value} {o8 : Option Value} {R : Mm → Prop} (hr1 : isSt X.1 r1) (hx2 : R4 x2) (hr3 : Ok X r3 (0, 0, 8, [])) (hx4 : R4 x4) (hx5 : R4 x5) (w : Wp (f213_30 r1 x2 r3 x4 x5 M) R) : mE X (d + 1) 213 0 30 [some (.ref 3), some (.ref r1), some (.int (Int32.ofInt x2)), some (.ref r3), some (.int (Int32.ofInt x4)), some (.int (Int32.ofInt x5)), o6, o7, o8] [] M (fun v M2 => R M2) :=
  Wp.olp (f := fun s : Int × Int × Mm => lb213_30 r1 x2 r3 s.1 s.2.1 s.2.2) (s := (x4, x5, M)) (E := E213_30 X d r1 x2 r3 R) w (fun s w hx4 hx5 _ _ _ => tb213_30 hr1 hx2 hr3 hx4 hx5 w) hx4 hx5 _ _ _
noncomputable def lb213_3 (r1 : Nat) (x2 : Int) (r3 : Nat) (x4 : Int) (M : Mm) : Option ((Int × Mm) ⊕ (Mm)) :=
  if x4 < (M 3 0) then
  (gd (0 ≤ x4 ∧ x4 < 8) (
  mlet (ms M r3 (x4).toNat x4) fun M4 =>
  gd (R4 (x4 + 1)) (
  some (.inl ((x4 + 1), M4)))))
  else
  (oinr (f213_30 r1 x2 r3 1 0 M))
noncomputable def f213_3 (r1 : Nat) (x2 : Int) (r3 : Nat) (x4 : Int) (M : Mm) : Option (Mm) := lp (fun s : Int × Mm => lb213_3 r1 x2 r3 s.1 s.2) (x4, M)
theorem tb213_3 {X : Nat × Nat × qC} {d : Nat} {r1 : Nat} {x2 : Int} {r3 : Nat} {x4 : Int} {M : Mm}  {R : Mm → Prop} (hr1 : isSt X.1 r1) (hx2 : R4 x2) (hr3 : Ok X r3 (0, 0, 8, [])) (hx4 : R4 x4) (w : Wp (lb213_3 r1 x2 r3 x4 M) (Sum.elim (E213_3 X d r1 x2 r3 R) R)) : mE X (d + 1) 213 0 3 [some (.ref 3), some (.ref r1), some (.int (Int32.ofInt x2)), some (.ref r3), some (.int (Int32.ofInt x4)), none, none, none, none] [] M (fun v M2 => R M2) := by
  refine mE_iload c213_3 rfl ?_
  refine mE_aload_n c213_5 rfl ?_
  refine mE_getI c213_6 qo213 qF4_62 (ok_lit rfl rfl rfl) rfl ?_
  intro u1
  by_cases e2 : x4 < (M 3 0)
  · have w := w.pos e2
    refine mE_icmp_ge_F (t := 24) c213_9 rfl hx4 u1 e2 ?_
    refine mE_aload_n c213_12 rfl ?_
    refine mE_iload c213_13 rfl ?_
    refine mE_iload c213_15 rfl ?_
    obtain ⟨g3, w⟩ := w.ogd
    obtain ⟨M4, m5, w⟩ := w.mlet
    refine mE_iastore c213_17 hr3 hx4 g3 hx4 ?_
    refine mE_M m5 ?_
    obtain ⟨g6, w⟩ := w.ogd
    refine mE_iinc (ls2 := [some (.ref 3), some (.ref r1), some (.int (Int32.ofInt x2)), some (.ref r3), some (.int (Int32.ofInt (x4 + 1))), none, none, none, none]) c213_18 rfl (Nat.le_of_ble_eq_true rfl) rfl ?_
    refine mE_goto (t := 3) c213_21 rfl ?_
    exact w.osome g6
  · have w := w.neg e2
    refine mE_icmp_ge_T (t := 24) c213_9 rfl hx4 u1 e2 ?_
    have w := w.oinr
    refine mE_iconst c213_24 ?_
    refine mE_istore (ls2 := [some (.ref 3), some (.ref r1), some (.int (Int32.ofInt x2)), some (.ref r3), some (.int (Int32.ofInt 1)), none, none, none, none]) c213_25 (Nat.le_of_ble_eq_true rfl) rfl ?_
    refine mE_iconst c213_27 ?_
    refine mE_istore (ls2 := [some (.ref 3), some (.ref r1), some (.int (Int32.ofInt x2)), some (.ref r3), some (.int (Int32.ofInt 1)), some (.int (Int32.ofInt 0)), none, none, none]) c213_28 (Nat.le_of_ble_eq_true rfl) rfl ?_
    exact t213_30 hr1 hx2 hr3 (r4_n rfl) (r4_n rfl) w
theorem t213_3 {X : Nat × Nat × qC} {d : Nat} {r1 : Nat} {x2 : Int} {r3 : Nat} {x4 : Int} {M : Mm}  {R : Mm → Prop} (hr1 : isSt X.1 r1) (hx2 : R4 x2) (hr3 : Ok X r3 (0, 0, 8, [])) (hx4 : R4 x4) (w : Wp (f213_3 r1 x2 r3 x4 M) R) : mE X (d + 1) 213 0 3 [some (.ref 3), some (.ref r1), some (.int (Int32.ofInt x2)), some (.ref r3), some (.int (Int32.ofInt x4)), none, none, none, none] [] M (fun v M2 => R M2) :=
  Wp.olp (f := fun s : Int × Mm => lb213_3 r1 x2 r3 s.1 s.2) (s := (x4, M)) (E := E213_3 X d r1 x2 r3 R) w (fun s w hx4 => tb213_3 hr1 hx2 hr3 hx4 w) hx4
noncomputable def f213 (r1 : Nat) (x2 : Int) (r3 : Nat) (M : Mm) : Option (Mm) :=
  f213_3 r1 x2 r3 0 M
theorem t213 {X : Nat × Nat × qC} {d : Nat} {r1 : Nat} {x2 : Int} {r3 : Nat} {M : Mm}  {R : Mm → Prop} (hr1 : isSt X.1 r1) (hx2 : R4 x2) (hr3 : Ok X r3 (0, 0, 8, [])) (w : Wp (f213 r1 x2 r3 M) R) : mE X (d + 1) 213 0 0 [some (.ref 3), some (.ref r1), some (.int (Int32.ofInt x2)), some (.ref r3), none, none, none, none, none] [] M (fun v M2 => R M2) := by
  refine mE_iconst c213_0 ?_
  refine mE_istore (ls2 := [some (.ref 3), some (.ref r1), some (.int (Int32.ofInt x2)), some (.ref r3), some (.int (Int32.ofInt 0)), none, none, none, none]) c213_1 (Nat.le_of_ble_eq_true rfl) rfl ?_
  exact t213_3 hr1 hx2 hr3 (r4_n rfl) w
theorem s213 {X : Nat × Nat × qC} {d : Nat} {r1 : Nat} {x2 : Int} {r3 : Nat} {M : Mm} {R : Mm → Prop} (hr1 : isSt X.1 r1) (hx2 : R4 x2) (hr3 : Ok X r3 (0, 0, 8, [])) (w : Wp (f213 r1 x2 r3 M) R) : mC X (d + 2) 213 0 [.ref 3, .ref r1, .int (Int32.ofInt x2), .ref r3] M (fun v M2 => R M2) :=
  mC_of (qent_mk qx213 rfl rfl rfl) (t213 hr1 hx2 hr3 w)
/-! SaggingNet$State.runs -/
noncomputable def f245 (r0 : Nat) (x1 : Int) (M : Mm) : Option (Int) :=
  if (bAnd (bShr (M r0 2) x1) 1) = 1 then
  (some 1)
  else
  (some 0)
theorem t245 {X : Nat × Nat × qC} {d : Nat} {r0 : Nat} {x1 : Int} {M : Mm}  {R : Int → Prop} (hr0 : isSt X.1 r0) (hx1 : R4 x1) (w : Wp (f245 r0 x1 M) R) : mE X (d + 0) 245 1 0 [some (.ref r0), some (.int (Int32.ofInt x1))] [] M (fun v M2 => M = M2 ∧ R v) := by
  refine mE_aload_n c245_0 rfl ?_
  refine mE_getI c245_1 qo245 qF8_31 (ok_st0 hr0) rfl ?_
  intro u1
  refine mE_iload_n c245_4 rfl ?_
  refine mE_ishr c245_5 ?_
  refine mE_iconst c245_6 ?_
  refine mE_iand c245_7 ?_
  refine mE_iconst c245_8 ?_
  by_cases e2 : (bAnd (bShr (M r0 2) x1) 1) = 1
  · have w := w.pos e2
    refine mE_icmp_ne_F (t := 16) c245_9 rfl (r4_and _ _) (r4_n rfl) e2 ?_
    refine mE_iconst c245_12 ?_
    refine mE_goto (t := 17) c245_13 rfl ?_
    exact mE_zret c245_17 qr245 (Or.inr rfl) ⟨rfl, w.osome⟩
  · have w := w.neg e2
    refine mE_icmp_ne_T (t := 16) c245_9 rfl (r4_and _ _) (r4_n rfl) e2 ?_
    refine mE_iconst c245_16 ?_
    exact mE_zret c245_17 qr245 (Or.inl rfl) ⟨rfl, w.osome⟩
theorem s245 {X : Nat × Nat × qC} {d : Nat} {r0 : Nat} {x1 : Int} {M : Mm} {R : Int → Prop} (hr0 : isSt X.1 r0) (hx1 : R4 x1) (w : Wp (f245 r0 x1 M) R) : mC X (d + 1) 245 1 [.ref r0, .int (Int32.ofInt x1)] M (fun v M2 => M = M2 ∧ R v) :=
  mC_of (qent_mk qx245 rfl rfl rfl) (t245 hr0 hx1 w)
/-! SaggingNet$Standing.balance -/
def E233_80 (X : Nat × Nat × qC) (d : Nat) (r0 : Nat) (r2 : Nat) (x3 : Int) (R : Mm → Prop) : Int × Int × Mm → Prop := fun s => R4 s.1 → R4 s.2.1 → ∀ (y4 : Int32), ∀ (y5 : Int32), ∀ (o8 : Option Value), mE X (d + 1) 233 0 80 [some (.ref r0), some (.ref 3), some (.ref r2), some (.int (Int32.ofInt x3)), some (.int y4), some (.int y5), some (.int (Int32.ofInt s.1)), some (.int (Int32.ofInt s.2.1)), o8] [] s.2.2 (fun v M2 => R M2)
def E233_3 (X : Nat × Nat × qC) (d : Nat) (r0 : Nat) (r2 : Nat) (x3 : Int) (x4 : Int) (x5 : Int) (R : Mm → Prop) : Int × Mm → Prop := fun s => R4 s.1 → mE X (d + 1) 233 0 3 [some (.ref r0), some (.ref 3), some (.ref r2), some (.int (Int32.ofInt x3)), some (.int (Int32.ofInt x4)), some (.int (Int32.ofInt x5)), some (.int (Int32.ofInt s.1)), none, none] [] s.2 (fun v M2 => R M2)
noncomputable def f233_67 (r0 : Nat) (r2 : Nat) (x3 : Int) (x4 : Int) (x5 : Int) (x6 : Int) (M : Mm) : Option ((Int × Mm) ⊕ (Mm)) :=
  gd (R4 (x6 + 1)) (
  some (.inl ((x6 + 1), M)))
theorem t233_67 {X : Nat × Nat × qC} {d : Nat} {r0 : Nat} {r2 : Nat} {x3 : Int} {x4 : Int} {x5 : Int} {x6 : Int} {M : Mm}  {R : Mm → Prop} (hr0 : isSg r0) (hr2 : isSt X.1 r2) (hx3 : R4 x3) (hx4 : R4 x4) (hx5 : R4 x5) (hx6 : R4 x6) (w : Wp (f233_67 r0 r2 x3 x4 x5 x6 M) (Sum.elim (E233_3 X d r0 r2 x3 x4 x5 R) R)) : mE X (d + 1) 233 0 67 [some (.ref r0), some (.ref 3), some (.ref r2), some (.int (Int32.ofInt x3)), some (.int (Int32.ofInt x4)), some (.int (Int32.ofInt x5)), some (.int (Int32.ofInt x6)), none, none] [] M (fun v M2 => R M2) := by
  obtain ⟨g1, w⟩ := w.ogd
  refine mE_iinc (ls2 := [some (.ref r0), some (.ref 3), some (.ref r2), some (.int (Int32.ofInt x3)), some (.int (Int32.ofInt x4)), some (.int (Int32.ofInt x5)), some (.int (Int32.ofInt (x6 + 1))), none, none]) c233_67 rfl (Nat.le_of_ble_eq_true rfl) rfl ?_
  refine mE_goto (t := 3) c233_70 rfl ?_
  exact w.osome g1
noncomputable def f233_180 (r0 : Nat) (r2 : Nat) (x3 : Int) (x6 : Int) (x7 : Int) (M : Mm) : Option ((Int × Int × Mm) ⊕ (Mm)) :=
  gd (R4 (x7 + 1)) (
  some (.inl (x6, (x7 + 1), M)))
theorem t233_180 {X : Nat × Nat × qC} {d : Nat} {r0 : Nat} {r2 : Nat} {x3 : Int} {x6 : Int} {x7 : Int} {M : Mm} {y4 : Int32} {y5 : Int32} {y8 : Int32} {R : Mm → Prop} (hr0 : isSg r0) (hr2 : isSt X.1 r2) (hx3 : R4 x3) (hx6 : R4 x6) (hx7 : R4 x7) (w : Wp (f233_180 r0 r2 x3 x6 x7 M) (Sum.elim (E233_80 X d r0 r2 x3 R) R)) : mE X (d + 1) 233 0 180 [some (.ref r0), some (.ref 3), some (.ref r2), some (.int (Int32.ofInt x3)), some (.int y4), some (.int y5), some (.int (Int32.ofInt x6)), some (.int (Int32.ofInt x7)), some (.int y8)] [] M (fun v M2 => R M2) := by
  obtain ⟨g1, w⟩ := w.ogd
  refine mE_iinc (ls2 := [some (.ref r0), some (.ref 3), some (.ref r2), some (.int (Int32.ofInt x3)), some (.int y4), some (.int y5), some (.int (Int32.ofInt x6)), some (.int (Int32.ofInt (x7 + 1))), some (.int y8)]) c233_180 rfl (Nat.le_of_ble_eq_true rfl) rfl ?_
  refine mE_goto (t := 80) c233_183 rfl ?_
  exact w.osome hx6 g1 _ _ _
noncomputable def lb233_80 (r0 : Nat) (r2 : Nat) (x3 : Int) (x6 : Int) (x7 : Int) (M : Mm) : Option ((Int × Int × Mm) ⊕ (Mm)) :=
  if x7 < (M 3 2) then
  (gd (0 ≤ x7 ∧ x7 < 9) (
  gd (0 ≤ (M 23 (x7).toNat) ∧ (M 23 (x7).toNat) < 9) (
  gd (0 ≤ (M 20 ((M 23 (x7).toNat)).toNat) ∧ (M 20 ((M 23 (x7).toNat)).toNat) < 8) (
  if (M (r0 + 2) ((M 20 ((M 23 (x7).toNat)).toNat)).toNat) = x3 then
  ((f245 r2 (M 23 (x7).toNat) M).bind fun v10 =>
  if v10 = 0 then
  (mlet (ms M (r0 + 4) ((M 23 (x7).toNat)).toNat 0) fun M14 =>
  gd (0 ≤ (M14 20 ((M 23 (x7).toNat)).toNat) ∧ (M14 20 ((M 23 (x7).toNat)).toNat) < 8) (
  gd (R4 ((M14 (r0 + 6) ((M14 20 ((M 23 (x7).toNat)).toNat)).toNat) + (M14 (r0 + 4) ((M 23 (x7).toNat)).toNat))) (
  mlet (ms M14 (r0 + 6) ((M14 20 ((M 23 (x7).toNat)).toNat)).toNat ((M14 (r0 + 6) ((M14 20 ((M 23 (x7).toNat)).toNat)).toNat) + (M14 (r0 + 4) ((M 23 (x7).toNat)).toNat))) fun M21 =>
  gd (R4 (x6 - (M21 (r0 + 4) ((M 23 (x7).toNat)).toNat))) (
  f233_180 r0 r2 x3 (x6 - (M21 (r0 + 4) ((M 23 (x7).toNat)).toNat)) x7 M21))))
  else
  ((f6 (M 21 ((M 23 (x7).toNat)).toNat) x6 M).bind fun v15 =>
  mlet (ms M (r0 + 4) ((M 23 (x7).toNat)).toNat v15) fun M18 =>
  gd (0 ≤ (M18 20 ((M 23 (x7).toNat)).toNat) ∧ (M18 20 ((M 23 (x7).toNat)).toNat) < 8) (
  gd (R4 ((M18 (r0 + 6) ((M18 20 ((M 23 (x7).toNat)).toNat)).toNat) + (M18 (r0 + 4) ((M 23 (x7).toNat)).toNat))) (
  mlet (ms M18 (r0 + 6) ((M18 20 ((M 23 (x7).toNat)).toNat)).toNat ((M18 (r0 + 6) ((M18 20 ((M 23 (x7).toNat)).toNat)).toNat) + (M18 (r0 + 4) ((M 23 (x7).toNat)).toNat))) fun M25 =>
  gd (R4 (x6 - (M25 (r0 + 4) ((M 23 (x7).toNat)).toNat))) (
  f233_180 r0 r2 x3 (x6 - (M25 (r0 + 4) ((M 23 (x7).toNat)).toNat)) x7 M25)))))
  else
  (f233_180 r0 r2 x3 x6 x7 M)))))
  else
  (oinr (some M))
noncomputable def f233_80 (r0 : Nat) (r2 : Nat) (x3 : Int) (x6 : Int) (x7 : Int) (M : Mm) : Option (Mm) := lp (fun s : Int × Int × Mm => lb233_80 r0 r2 x3 s.1 s.2.1 s.2.2) (x6, x7, M)
theorem tb233_80 {X : Nat × Nat × qC} {d : Nat} {r0 : Nat} {r2 : Nat} {x3 : Int} {x6 : Int} {x7 : Int} {M : Mm} {y4 : Int32} {y5 : Int32} {o8 : Option Value} {R : Mm → Prop} (hr0 : isSg r0) (hr2 : isSt X.1 r2) (hx3 : R4 x3) (hx6 : R4 x6) (hx7 : R4 x7) (w : Wp (lb233_80 r0 r2 x3 x6 x7 M) (Sum.elim (E233_80 X d r0 r2 x3 R) R)) : mE X (d + 1) 233 0 80 [some (.ref r0), some (.ref 3), some (.ref r2), some (.int (Int32.ofInt x3)), some (.int y4), some (.int y5), some (.int (Int32.ofInt x6)), some (.int (Int32.ofInt x7)), o8] [] M (fun v M2 => R M2) := by
  refine mE_iload c233_80 rfl ?_
  refine mE_aload_n c233_82 rfl ?_
  refine mE_getI c233_83 qo233 qF7_78 (ok_lit rfl rfl rfl) rfl ?_
  intro u1
  by_cases e2 : x7 < (M 3 2)
  · have w := w.pos e2
    refine mE_icmp_ge_F (t := 186) c233_86 rfl hx7 u1 e2 ?_
    refine mE_aload_n c233_89 rfl ?_
    refine mE_getA c233_90 qo233 qF7_101 (ok_lit rfl rfl rfl) rfl ⟨by decide, by decide⟩ ?_
    refine mE_iload c233_93 rfl ?_
    obtain ⟨g3, w⟩ := w.ogd
    refine mE_iaload c233_95 (ok_lit rfl rfl rfl) hx7 g3 ?_
    intro u4
    refine mE_istore (ls2 := [some (.ref r0), some (.ref 3), some (.ref r2), some (.int (Int32.ofInt x3)), some (.int y4), some (.int y5), some (.int (Int32.ofInt x6)), some (.int (Int32.ofInt x7)), some (.int (Int32.ofInt (M 23 (x7).toNat)))]) c233_96 (Nat.le_of_ble_eq_true rfl) rfl ?_
    refine mE_aload_n c233_98 rfl ?_
    refine mE_getA c233_99 qo233 qF7_15 (ok_sg0 hr0) rfl (nz_sg hr0 _) ?_
    refine mE_aload_n c233_102 rfl ?_
    refine mE_getA c233_103 qo233 qF7_85 (ok_lit rfl rfl rfl) rfl ⟨by decide, by decide⟩ ?_
    refine mE_iload c233_106 rfl ?_
    obtain ⟨g5, w⟩ := w.ogd
    refine mE_iaload c233_108 (ok_lit rfl rfl rfl) u4 g5 ?_
    intro u6
    obtain ⟨g7, w⟩ := w.ogd
    refine mE_iaload c233_109 (ok_sg2 hr0) u6 g7 ?_
    intro u8
    refine mE_iload_n c233_110 rfl ?_
    by_cases e9 : (M (r0 + 2) ((M 20 ((M 23 (x7).toNat)).toNat)).toNat) = x3
    · have w := w.pos e9
      refine mE_icmp_ne_F (t := 180) c233_111 rfl u8 hx3 e9 ?_
      refine mE_aload_n c233_114 rfl ?_
      refine mE_getA c233_115 qo233 qF7_21 (ok_sg0 hr0) rfl (nz_sg hr0 _) ?_
      refine mE_iload c233_118 rfl ?_
      refine mE_aload_n c233_120 rfl ?_
      refine mE_iload c233_121 rfl ?_
      refine mE_virtual1 (b := r2) (as := [.int (Int32.ofInt (M 23 (x7).toNat))]) (r := [.int (Int32.ofInt (M 23 (x7).toNat)), .ref (r0 + 4)]) c233_123 qo233 qK7_81 qo245 rfl rfl rfl (ok_st0 hr2) (Nat.le_of_ble_eq_true rfl) (s245 (d := d + 0) hr2 u4 w.obind) ?_
      rintro v10 _ q12 ⟨rfl, w⟩
      by_cases e13 : v10 = 0
      · have w := w.pos e13
        refine mE_if_eq_T (t := 144) c233_126 rfl q12 e13 ?_
        refine mE_iconst c233_144 ?_
        obtain ⟨M14, m15, w⟩ := w.mlet
        refine mE_iastore c233_145 (ok_sg4 hr0) u4 g5 (r4_n rfl) ?_
        refine mE_M m15 ?_
        refine mE_aload_n c233_146 rfl ?_
        refine mE_getA c233_147 qo233 qF7_28 (ok_sg0 hr0) rfl (nz_sg hr0 _) ?_
        refine mE_aload_n c233_150 rfl ?_
        refine mE_getA c233_151 qo233 qF7_85 (ok_lit rfl rfl rfl) rfl ⟨by decide, by decide⟩ ?_
        refine mE_iload c233_154 rfl ?_
        refine mE_iaload c233_156 (ok_lit rfl rfl rfl) u4 g5 ?_
        intro u16
        refine mE_dup2 c233_157 (Nat.ne_of_beq_eq_false rfl) rfl ?_
        obtain ⟨g17, w⟩ := w.ogd
        refine mE_iaload c233_158 (ok_sg6 hr0) u16 g17 ?_
        intro u18
        refine mE_aload_n c233_159 rfl ?_
        refine mE_getA c233_160 qo233 qF7_21 (ok_sg0 hr0) rfl (nz_sg hr0 _) ?_
        refine mE_iload c233_163 rfl ?_
        refine mE_iaload c233_165 (ok_sg4 hr0) u4 g5 ?_
        intro u19
        obtain ⟨g20, w⟩ := w.ogd
        refine mE_iadd c233_166 ?_
        obtain ⟨M21, m22, w⟩ := w.mlet
        refine mE_iastore c233_167 (ok_sg6 hr0) u16 g17 g20 ?_
        refine mE_M m22 ?_
        refine mE_iload c233_168 rfl ?_
        refine mE_aload_n c233_170 rfl ?_
        refine mE_getA c233_171 qo233 qF7_21 (ok_sg0 hr0) rfl (nz_sg hr0 _) ?_
        refine mE_iload c233_174 rfl ?_
        refine mE_iaload c233_176 (ok_sg4 hr0) u4 g5 ?_
        intro u23
        obtain ⟨g24, w⟩ := w.ogd
        refine mE_isub c233_177 ?_
        refine mE_istore (ls2 := [some (.ref r0), some (.ref 3), some (.ref r2), some (.int (Int32.ofInt x3)), some (.int y4), some (.int y5), some (.int (Int32.ofInt (x6 - (M21 (r0 + 4) ((M 23 (x7).toNat)).toNat)))), some (.int (Int32.ofInt x7)), some (.int (Int32.ofInt (M 23 (x7).toNat)))]) c233_178 (Nat.le_of_ble_eq_true rfl) rfl ?_
        exact t233_180 hr0 hr2 hx3 g24 hx7 w
      · have w := w.neg e13
        refine mE_if_eq_F (t := 144) c233_126 rfl q12 e13 ?_
        refine mE_aload_n c233_129 rfl ?_
        refine mE_getA c233_130 qo233 qF7_88 (ok_lit rfl rfl rfl) rfl ⟨by decide, by decide⟩ ?_
        refine mE_iload c233_133 rfl ?_
        refine mE_iaload c233_135 (ok_lit rfl rfl rfl) u4 g5 ?_
        intro u14
        refine mE_iload c233_136 rfl ?_
        refine mE_static1 (as := [.int (Int32.ofInt (M 21 ((M 23 (x7).toNat)).toNat)), .int (Int32.ofInt x6)]) (r := [.int (Int32.ofInt (M 23 (x7).toNat)), .ref (r0 + 4)]) c233_138 qo233 (by decide) qK7_104 rfl rfl rfl (Nat.le_of_ble_eq_true rfl) (s6 (d := d + 0) u14 hx6 w.obind) ?_
        rintro v15 _ q17 ⟨rfl, w⟩
        refine mE_goto (t := 145) c233_141 rfl ?_
        obtain ⟨M18, m19, w⟩ := w.mlet
        refine mE_iastore c233_145 (ok_sg4 hr0) u4 g5 q17 ?_
        refine mE_M m19 ?_
        refine mE_aload_n c233_146 rfl ?_
        refine mE_getA c233_147 qo233 qF7_28 (ok_sg0 hr0) rfl (nz_sg hr0 _) ?_
        refine mE_aload_n c233_150 rfl ?_
        refine mE_getA c233_151 qo233 qF7_85 (ok_lit rfl rfl rfl) rfl ⟨by decide, by decide⟩ ?_
        refine mE_iload c233_154 rfl ?_
        refine mE_iaload c233_156 (ok_lit rfl rfl rfl) u4 g5 ?_
        intro u20
        refine mE_dup2 c233_157 (Nat.ne_of_beq_eq_false rfl) rfl ?_
        obtain ⟨g21, w⟩ := w.ogd
        refine mE_iaload c233_158 (ok_sg6 hr0) u20 g21 ?_
        intro u22
        refine mE_aload_n c233_159 rfl ?_
        refine mE_getA c233_160 qo233 qF7_21 (ok_sg0 hr0) rfl (nz_sg hr0 _) ?_
        refine mE_iload c233_163 rfl ?_
        refine mE_iaload c233_165 (ok_sg4 hr0) u4 g5 ?_
        intro u23
        obtain ⟨g24, w⟩ := w.ogd
        refine mE_iadd c233_166 ?_
        obtain ⟨M25, m26, w⟩ := w.mlet
        refine mE_iastore c233_167 (ok_sg6 hr0) u20 g21 g24 ?_
        refine mE_M m26 ?_
        refine mE_iload c233_168 rfl ?_
        refine mE_aload_n c233_170 rfl ?_
        refine mE_getA c233_171 qo233 qF7_21 (ok_sg0 hr0) rfl (nz_sg hr0 _) ?_
        refine mE_iload c233_174 rfl ?_
        refine mE_iaload c233_176 (ok_sg4 hr0) u4 g5 ?_
        intro u27
        obtain ⟨g28, w⟩ := w.ogd
        refine mE_isub c233_177 ?_
        refine mE_istore (ls2 := [some (.ref r0), some (.ref 3), some (.ref r2), some (.int (Int32.ofInt x3)), some (.int y4), some (.int y5), some (.int (Int32.ofInt (x6 - (M25 (r0 + 4) ((M 23 (x7).toNat)).toNat)))), some (.int (Int32.ofInt x7)), some (.int (Int32.ofInt (M 23 (x7).toNat)))]) c233_178 (Nat.le_of_ble_eq_true rfl) rfl ?_
        exact t233_180 hr0 hr2 hx3 g28 hx7 w
    · have w := w.neg e9
      refine mE_icmp_ne_T (t := 180) c233_111 rfl u8 hx3 e9 ?_
      exact t233_180 hr0 hr2 hx3 hx6 hx7 w
  · have w := w.neg e2
    refine mE_icmp_ge_T (t := 186) c233_86 rfl hx7 u1 e2 ?_
    have w := w.oinr
    exact mE_vret c233_186 qr233 w.osome
theorem t233_80 {X : Nat × Nat × qC} {d : Nat} {r0 : Nat} {r2 : Nat} {x3 : Int} {x6 : Int} {x7 : Int} {M : Mm} {y4 : Int32} {y5 : Int32} {o8 : Option Value} {R : Mm → Prop} (hr0 : isSg r0) (hr2 : isSt X.1 r2) (hx3 : R4 x3) (hx6 : R4 x6) (hx7 : R4 x7) (w : Wp (f233_80 r0 r2 x3 x6 x7 M) R) : mE X (d + 1) 233 0 80 [some (.ref r0), some (.ref 3), some (.ref r2), some (.int (Int32.ofInt x3)), some (.int y4), some (.int y5), some (.int (Int32.ofInt x6)), some (.int (Int32.ofInt x7)), o8] [] M (fun v M2 => R M2) :=
  Wp.olp (f := fun s : Int × Int × Mm => lb233_80 r0 r2 x3 s.1 s.2.1 s.2.2) (s := (x6, x7, M)) (E := E233_80 X d r0 r2 x3 R) w (fun s w hx6 hx7 _ _ _ => tb233_80 hr0 hr2 hx3 hx6 hx7 w) hx6 hx7 _ _ _
noncomputable def lb233_3 (r0 : Nat) (r2 : Nat) (x3 : Int) (x4 : Int) (x5 : Int) (x6 : Int) (M : Mm) : Option ((Int × Mm) ⊕ (Mm)) :=
  if x6 < (M 3 0) then
  (gd (0 ≤ x6 ∧ x6 < 8) (
  if (M (r0 + 2) (x6).toNat) = x3 then
  (gd (R4 (x4 - x5)) (
  mlet (ms M (r0 + 3) (x6).toNat (x4 - x5)) fun M7 =>
  if (bAnd (bShr (M7 r0 0) x6) 1) = 1 then
  (mlet (ms M7 (r0 + 6) (x6).toNat 0) fun M11 =>
  f233_67 r0 r2 x3 x4 x5 x6 M11)
  else
  (gd (R4 (-(M7 (r2 + 1) (x6).toNat))) (
  mlet (ms M7 (r0 + 6) (x6).toNat (-(M7 (r2 + 1) (x6).toNat))) fun M13 =>
  f233_67 r0 r2 x3 x4 x5 x6 M13))))
  else
  (f233_67 r0 r2 x3 x4 x5 x6 M)))
  else
  (oinr (f233_80 r0 r2 x3 x5 0 M))
noncomputable def f233_3 (r0 : Nat) (r2 : Nat) (x3 : Int) (x4 : Int) (x5 : Int) (x6 : Int) (M : Mm) : Option (Mm) := lp (fun s : Int × Mm => lb233_3 r0 r2 x3 x4 x5 s.1 s.2) (x6, M)
theorem tb233_3 {X : Nat × Nat × qC} {d : Nat} {r0 : Nat} {r2 : Nat} {x3 : Int} {x4 : Int} {x5 : Int} {x6 : Int} {M : Mm}  {R : Mm → Prop} (hr0 : isSg r0) (hr2 : isSt X.1 r2) (hx3 : R4 x3) (hx4 : R4 x4) (hx5 : R4 x5) (hx6 : R4 x6) (w : Wp (lb233_3 r0 r2 x3 x4 x5 x6 M) (Sum.elim (E233_3 X d r0 r2 x3 x4 x5 R) R)) : mE X (d + 1) 233 0 3 [some (.ref r0), some (.ref 3), some (.ref r2), some (.int (Int32.ofInt x3)), some (.int (Int32.ofInt x4)), some (.int (Int32.ofInt x5)), some (.int (Int32.ofInt x6)), none, none] [] M (fun v M2 => R M2) := by
  refine mE_iload c233_3 rfl ?_
  refine mE_aload_n c233_5 rfl ?_
  refine mE_getI c233_6 qo233 qF7_68 (ok_lit rfl rfl rfl) rfl ?_
  intro u1
  by_cases e2 : x6 < (M 3 0)
  · have w := w.pos e2
    refine mE_icmp_ge_F (t := 73) c233_9 rfl hx6 u1 e2 ?_
    refine mE_aload_n c233_12 rfl ?_
    refine mE_getA c233_13 qo233 qF7_15 (ok_sg0 hr0) rfl (nz_sg hr0 _) ?_
    refine mE_iload c233_16 rfl ?_
    obtain ⟨g3, w⟩ := w.ogd
    refine mE_iaload c233_18 (ok_sg2 hr0) hx6 g3 ?_
    intro u4
    refine mE_iload_n c233_19 rfl ?_
    by_cases e5 : (M (r0 + 2) (x6).toNat) = x3
    · have w := w.pos e5
      refine mE_icmp_ne_F (t := 67) c233_20 rfl u4 hx3 e5 ?_
      refine mE_aload_n c233_23 rfl ?_
      refine mE_getA c233_24 qo233 qF7_18 (ok_sg0 hr0) rfl (nz_sg hr0 _) ?_
      refine mE_iload c233_27 rfl ?_
      refine mE_iload c233_29 rfl ?_
      refine mE_iload c233_31 rfl ?_
      obtain ⟨g6, w⟩ := w.ogd
      refine mE_isub c233_33 ?_
      obtain ⟨M7, m8, w⟩ := w.mlet
      refine mE_iastore c233_34 (ok_sg3 hr0) hx6 g3 g6 ?_
      refine mE_M m8 ?_
      refine mE_aload_n c233_35 rfl ?_
      refine mE_getA c233_36 qo233 qF7_28 (ok_sg0 hr0) rfl (nz_sg hr0 _) ?_
      refine mE_iload c233_39 rfl ?_
      refine mE_aload_n c233_41 rfl ?_
      refine mE_getI c233_42 qo233 qF7_48 (ok_sg0 hr0) rfl ?_
      intro u9
      refine mE_iload c233_45 rfl ?_
      refine mE_ishr c233_47 ?_
      refine mE_iconst c233_48 ?_
      refine mE_iand c233_49 ?_
      refine mE_iconst c233_50 ?_
      by_cases e10 : (bAnd (bShr (M7 r0 0) x6) 1) = 1
      · have w := w.pos e10
        refine mE_icmp_ne_F (t := 58) c233_51 rfl (r4_and _ _) (r4_n rfl) e10 ?_
        refine mE_iconst c233_54 ?_
        refine mE_goto (t := 66) c233_55 rfl ?_
        obtain ⟨M11, m12, w⟩ := w.mlet
        refine mE_iastore c233_66 (ok_sg6 hr0) hx6 g3 (r4_n rfl) ?_
        refine mE_M m12 ?_
        exact t233_67 hr0 hr2 hx3 hx4 hx5 hx6 w
      · have w := w.neg e10
        refine mE_icmp_ne_T (t := 58) c233_51 rfl (r4_and _ _) (r4_n rfl) e10 ?_
        refine mE_aload_n c233_58 rfl ?_
        refine mE_getA c233_59 qo233 qF7_91 (ok_st0 hr2) rfl (nz_st hr2 _) ?_
        refine mE_iload c233_62 rfl ?_
        refine mE_iaload c233_64 (ok_st1 hr2) hx6 g3 ?_
        intro u11
        obtain ⟨g12, w⟩ := w.ogd
        refine mE_ineg c233_65 ?_
        obtain ⟨M13, m14, w⟩ := w.mlet
        refine mE_iastore c233_66 (ok_sg6 hr0) hx6 g3 g12 ?_
        refine mE_M m14 ?_
        exact t233_67 hr0 hr2 hx3 hx4 hx5 hx6 w
    · have w := w.neg e5
      refine mE_icmp_ne_T (t := 67) c233_20 rfl u4 hx3 e5 ?_
      exact t233_67 hr0 hr2 hx3 hx4 hx5 hx6 w
  · have w := w.neg e2
    refine mE_icmp_ge_T (t := 73) c233_9 rfl hx6 u1 e2 ?_
    have w := w.oinr
    refine mE_iload c233_73 rfl ?_
    refine mE_istore (ls2 := [some (.ref r0), some (.ref 3), some (.ref r2), some (.int (Int32.ofInt x3)), some (.int (Int32.ofInt x4)), some (.int (Int32.ofInt x5)), some (.int (Int32.ofInt x5)), none, none]) c233_75 (Nat.le_of_ble_eq_true rfl) rfl ?_
    refine mE_iconst c233_77 ?_
    refine mE_istore (ls2 := [some (.ref r0), some (.ref 3), some (.ref r2), some (.int (Int32.ofInt x3)), some (.int (Int32.ofInt x4)), some (.int (Int32.ofInt x5)), some (.int (Int32.ofInt x5)), some (.int (Int32.ofInt 0)), none]) c233_78 (Nat.le_of_ble_eq_true rfl) rfl ?_
    exact t233_80 hr0 hr2 hx3 hx5 (r4_n rfl) w
theorem t233_3 {X : Nat × Nat × qC} {d : Nat} {r0 : Nat} {r2 : Nat} {x3 : Int} {x4 : Int} {x5 : Int} {x6 : Int} {M : Mm}  {R : Mm → Prop} (hr0 : isSg r0) (hr2 : isSt X.1 r2) (hx3 : R4 x3) (hx4 : R4 x4) (hx5 : R4 x5) (hx6 : R4 x6) (w : Wp (f233_3 r0 r2 x3 x4 x5 x6 M) R) : mE X (d + 1) 233 0 3 [some (.ref r0), some (.ref 3), some (.ref r2), some (.int (Int32.ofInt x3)), some (.int (Int32.ofInt x4)), some (.int (Int32.ofInt x5)), some (.int (Int32.ofInt x6)), none, none] [] M (fun v M2 => R M2) :=
  Wp.olp (f := fun s : Int × Mm => lb233_3 r0 r2 x3 x4 x5 s.1 s.2) (s := (x6, M)) (E := E233_3 X d r0 r2 x3 x4 x5 R) w (fun s w hx6 => tb233_3 hr0 hr2 hx3 hx4 hx5 hx6 w) hx6
noncomputable def f233 (r0 : Nat) (r2 : Nat) (x3 : Int) (x4 : Int) (x5 : Int) (M : Mm) : Option (Mm) :=
  f233_3 r0 r2 x3 x4 x5 0 M
theorem t233 {X : Nat × Nat × qC} {d : Nat} {r0 : Nat} {r2 : Nat} {x3 : Int} {x4 : Int} {x5 : Int} {M : Mm}  {R : Mm → Prop} (hr0 : isSg r0) (hr2 : isSt X.1 r2) (hx3 : R4 x3) (hx4 : R4 x4) (hx5 : R4 x5) (w : Wp (f233 r0 r2 x3 x4 x5 M) R) : mE X (d + 1) 233 0 0 [some (.ref r0), some (.ref 3), some (.ref r2), some (.int (Int32.ofInt x3)), some (.int (Int32.ofInt x4)), some (.int (Int32.ofInt x5)), none, none, none] [] M (fun v M2 => R M2) := by
  refine mE_iconst c233_0 ?_
  refine mE_istore (ls2 := [some (.ref r0), some (.ref 3), some (.ref r2), some (.int (Int32.ofInt x3)), some (.int (Int32.ofInt x4)), some (.int (Int32.ofInt x5)), some (.int (Int32.ofInt 0)), none, none]) c233_1 (Nat.le_of_ble_eq_true rfl) rfl ?_
  exact t233_3 hr0 hr2 hx3 hx4 hx5 (r4_n rfl) w
theorem s233 {X : Nat × Nat × qC} {d : Nat} {r0 : Nat} {r2 : Nat} {x3 : Int} {x4 : Int} {x5 : Int} {M : Mm} {R : Mm → Prop} (hr0 : isSg r0) (hr2 : isSt X.1 r2) (hx3 : R4 x3) (hx4 : R4 x4) (hx5 : R4 x5) (w : Wp (f233 r0 r2 x3 x4 x5 M) R) : mC X (d + 2) 233 0 [.ref r0, .ref 3, .ref r2, .int (Int32.ofInt x3), .int (Int32.ofInt x4), .int (Int32.ofInt x5)] M (fun v M2 => R M2) :=
  mC_of (qent_mk qx233 rfl rfl rfl) (t233 hr0 hr2 hx3 hx4 hx5 w)
/-! SaggingNet$Standing.settle -/
def E239_122 (X : Nat × Nat × qC) (d : Nat) (r0 : Nat) (r2 : Nat) (x3 : Int) (x4 : Int) (R : Mm → Prop) : Int × Int × Mm → Prop := fun s => R4 s.1 → R4 s.2.1 → ∀ (o7 : Option Value), mE X (d + 2) 239 0 122 [some (.ref r0), some (.ref 3), some (.ref r2), some (.int (Int32.ofInt x3)), some (.int (Int32.ofInt x4)), some (.int (Int32.ofInt s.1)), some (.int (Int32.ofInt s.2.1)), o7] [] s.2.2 (fun v M2 => R M2)
def E239_64 (X : Nat × Nat × qC) (d : Nat) (r0 : Nat) (r2 : Nat) (x3 : Int) (x4 : Int) (M : Mm) (R : Mm → Prop) : Int × Int → Prop := fun s => R4 s.1 → R4 s.2 → mE X (d + 2) 239 0 64 [some (.ref r0), some (.ref 3), some (.ref r2), some (.int (Int32.ofInt x3)), some (.int (Int32.ofInt x4)), some (.int (Int32.ofInt s.1)), some (.int (Int32.ofInt s.2)), none] [] M (fun v M2 => R M2)
def E239_6 (X : Nat × Nat × qC) (d : Nat) (r0 : Nat) (r2 : Nat) (x3 : Int) (M : Mm) (R : Mm → Prop) : Int × Int → Prop := fun s => R4 s.1 → R4 s.2 → mE X (d + 2) 239 0 6 [some (.ref r0), some (.ref 3), some (.ref r2), some (.int (Int32.ofInt x3)), some (.int (Int32.ofInt s.1)), some (.int (Int32.ofInt s.2)), none, none] [] M (fun v M2 => R M2)
noncomputable def f239_52 (r0 : Nat) (r2 : Nat) (x3 : Int) (x4 : Int) (x5 : Int) (M : Mm) : Option ((Int × Int) ⊕ (Mm)) :=
  gd (R4 (x5 + 1)) (
  some (.inl (x4, (x5 + 1))))
theorem t239_52 {X : Nat × Nat × qC} {d : Nat} {r0 : Nat} {r2 : Nat} {x3 : Int} {x4 : Int} {x5 : Int} {M : Mm}  {R : Mm → Prop} (hr0 : isSg r0) (hr2 : isSt X.1 r2) (hx3 : R4 x3) (hx4 : R4 x4) (hx5 : R4 x5) (w : Wp (f239_52 r0 r2 x3 x4 x5 M) (Sum.elim (E239_6 X d r0 r2 x3 M R) R)) : mE X (d + 2) 239 0 52 [some (.ref r0), some (.ref 3), some (.ref r2), some (.int (Int32.ofInt x3)), some (.int (Int32.ofInt x4)), some (.int (Int32.ofInt x5)), none, none] [] M (fun v M2 => R M2) := by
  obtain ⟨g1, w⟩ := w.ogd
  refine mE_iinc (ls2 := [some (.ref r0), some (.ref 3), some (.ref r2), some (.int (Int32.ofInt x3)), some (.int (Int32.ofInt x4)), some (.int (Int32.ofInt (x5 + 1))), none, none]) c239_52 rfl (Nat.le_of_ble_eq_true rfl) rfl ?_
  refine mE_goto (t := 6) c239_55 rfl ?_
  exact w.osome hx4 g1
noncomputable def f239_108 (r0 : Nat) (r2 : Nat) (x3 : Int) (x4 : Int) (x5 : Int) (x6 : Int) (M : Mm) : Option ((Int × Int) ⊕ (Mm)) :=
  gd (R4 (x6 + 1)) (
  some (.inl (x5, (x6 + 1))))
theorem t239_108 {X : Nat × Nat × qC} {d : Nat} {r0 : Nat} {r2 : Nat} {x3 : Int} {x4 : Int} {x5 : Int} {x6 : Int} {M : Mm}  {R : Mm → Prop} (hr0 : isSg r0) (hr2 : isSt X.1 r2) (hx3 : R4 x3) (hx4 : R4 x4) (hx5 : R4 x5) (hx6 : R4 x6) (w : Wp (f239_108 r0 r2 x3 x4 x5 x6 M) (Sum.elim (E239_64 X d r0 r2 x3 x4 M R) R)) : mE X (d + 2) 239 0 108 [some (.ref r0), some (.ref 3), some (.ref r2), some (.int (Int32.ofInt x3)), some (.int (Int32.ofInt x4)), some (.int (Int32.ofInt x5)), some (.int (Int32.ofInt x6)), none] [] M (fun v M2 => R M2) := by
  obtain ⟨g1, w⟩ := w.ogd
  refine mE_iinc (ls2 := [some (.ref r0), some (.ref 3), some (.ref r2), some (.int (Int32.ofInt x3)), some (.int (Int32.ofInt x4)), some (.int (Int32.ofInt x5)), some (.int (Int32.ofInt (x6 + 1))), none]) c239_108 rfl (Nat.le_of_ble_eq_true rfl) rfl ?_
  refine mE_goto (t := 64) c239_111 rfl ?_
  exact w.osome hx5 g1
noncomputable def f239_228 (r0 : Nat) (r2 : Nat) (x3 : Int) (x4 : Int) (x5 : Int) (M : Mm) : Option (Mm) :=
  (f233 r0 r2 x3 x4 x5 M).bind fun M2 =>
  some M2
theorem t239_228 {X : Nat × Nat × qC} {d : Nat} {r0 : Nat} {r2 : Nat} {x3 : Int} {x4 : Int} {x5 : Int} {M : Mm} {y6 : Int32} {o7 : Option Value} {R : Mm → Prop} (hr0 : isSg r0) (hr2 : isSt X.1 r2) (hx3 : R4 x3) (hx4 : R4 x4) (hx5 : R4 x5) (w : Wp (f239_228 r0 r2 x3 x4 x5 M) R) : mE X (d + 2) 239 0 228 [some (.ref r0), some (.ref 3), some (.ref r2), some (.int (Int32.ofInt x3)), some (.int (Int32.ofInt x4)), some (.int (Int32.ofInt x5)), some (.int y6), o7] [] M (fun v M2 => R M2) := by
  refine mE_aload_n c239_228 rfl ?_
  refine mE_aload_n c239_229 rfl ?_
  refine mE_aload_n c239_230 rfl ?_
  refine mE_iload_n c239_231 rfl ?_
  refine mE_iload c239_232 rfl ?_
  refine mE_iload c239_234 rfl ?_
  refine mE_virtual0 (b := r0) (as := [.ref 3, .ref r2, .int (Int32.ofInt x3), .int (Int32.ofInt x4), .int (Int32.ofInt x5)]) (r := []) c239_236 qo239 qK7_97 qo233 rfl rfl rfl (ok_sg0 hr0) (Nat.le_of_ble_eq_true rfl) (s233 (d := d + 0) hr0 hr2 hx3 hx4 hx5 w.obind) ?_
  intro _ M2 w
  exact mE_vret c239_239 qr239 w.osome
noncomputable def f239_222 (r0 : Nat) (r2 : Nat) (x3 : Int) (x4 : Int) (x5 : Int) (x6 : Int) (M : Mm) : Option ((Int × Int × Mm) ⊕ (Mm)) :=
  gd (R4 (x6 + (-1))) (
  some (.inl (x5, (x6 + (-1)), M)))
theorem t239_222 {X : Nat × Nat × qC} {d : Nat} {r0 : Nat} {r2 : Nat} {x3 : Int} {x4 : Int} {x5 : Int} {x6 : Int} {M : Mm} {y7 : Int32} {R : Mm → Prop} (hr0 : isSg r0) (hr2 : isSt X.1 r2) (hx3 : R4 x3) (hx4 : R4 x4) (hx5 : R4 x5) (hx6 : R4 x6) (w : Wp (f239_222 r0 r2 x3 x4 x5 x6 M) (Sum.elim (E239_122 X d r0 r2 x3 x4 R) R)) : mE X (d + 2) 239 0 222 [some (.ref r0), some (.ref 3), some (.ref r2), some (.int (Int32.ofInt x3)), some (.int (Int32.ofInt x4)), some (.int (Int32.ofInt x5)), some (.int (Int32.ofInt x6)), some (.int y7)] [] M (fun v M2 => R M2) := by
  obtain ⟨g1, w⟩ := w.ogd
  refine mE_iinc (ls2 := [some (.ref r0), some (.ref 3), some (.ref r2), some (.int (Int32.ofInt x3)), some (.int (Int32.ofInt x4)), some (.int (Int32.ofInt x5)), some (.int (Int32.ofInt (x6 + (-1)))), some (.int y7)]) c239_222 rfl (Nat.le_of_ble_eq_true rfl) rfl ?_
  refine mE_goto (t := 122) c239_225 rfl ?_
  exact w.osome hx5 g1 _
noncomputable def lb239_122 (r0 : Nat) (r2 : Nat) (x3 : Int) (x4 : Int) (x5 : Int) (x6 : Int) (M : Mm) : Option ((Int × Int × Mm) ⊕ (Mm)) :=
  if x6 < 0 then
  (oinr (f239_228 r0 r2 x3 x4 x5 M))
  else
  (if x4 < x5 then
  (gd (0 ≤ x6 ∧ x6 < 8) (
  gd (0 ≤ (M 13 (x6).toNat) ∧ (M 13 (x6).toNat) < 8) (
  if (M (r0 + 2) ((M 13 (x6).toNat)).toNat) = x3 then
  (if (bAnd (bShr (M r0 0) (M 13 (x6).toNat)) 1) = 0 then
  (if 0 < (M (r2 + 1) ((M 13 (x6).toNat)).toNat) then
  (mlet (ms M r0 0 (bOr (M r0 0) (bShl 1 (M 13 (x6).toNat)))) fun M13 =>
  gd (0 ≤ (M13 r0 1) ∧ (M13 r0 1) < 8) (
  mlet (ms M13 (r0 + 1) ((M13 r0 1)).toNat (M 13 (x6).toNat)) fun M17 =>
  gd (R4 ((M17 r0 1) + 1)) (
  mlet (ms M17 r0 1 ((M17 r0 1) + 1)) fun M21 =>
  gd (R4 (x5 - (M21 (r2 + 1) ((M 13 (x6).toNat)).toNat))) (
  f239_222 r0 r2 x3 x4 (x5 - (M21 (r2 + 1) ((M 13 (x6).toNat)).toNat)) x6 M21))))
  else
  (f239_222 r0 r2 x3 x4 x5 x6 M))
  else
  (f239_222 r0 r2 x3 x4 x5 x6 M))
  else
  (f239_222 r0 r2 x3 x4 x5 x6 M))))
  else
  (oinr (f239_228 r0 r2 x3 x4 x5 M)))
noncomputable def f239_122 (r0 : Nat) (r2 : Nat) (x3 : Int) (x4 : Int) (x5 : Int) (x6 : Int) (M : Mm) : Option (Mm) := lp (fun s : Int × Int × Mm => lb239_122 r0 r2 x3 x4 s.1 s.2.1 s.2.2) (x5, x6, M)
theorem tb239_122 {X : Nat × Nat × qC} {d : Nat} {r0 : Nat} {r2 : Nat} {x3 : Int} {x4 : Int} {x5 : Int} {x6 : Int} {M : Mm} {o7 : Option Value} {R : Mm → Prop} (hr0 : isSg r0) (hr2 : isSt X.1 r2) (hx3 : R4 x3) (hx4 : R4 x4) (hx5 : R4 x5) (hx6 : R4 x6) (w : Wp (lb239_122 r0 r2 x3 x4 x5 x6 M) (Sum.elim (E239_122 X d r0 r2 x3 x4 R) R)) : mE X (d + 2) 239 0 122 [some (.ref r0), some (.ref 3), some (.ref r2), some (.int (Int32.ofInt x3)), some (.int (Int32.ofInt x4)), some (.int (Int32.ofInt x5)), some (.int (Int32.ofInt x6)), o7] [] M (fun v M2 => R M2) := by
  refine mE_iload c239_122 rfl ?_
  by_cases e1 : x6 < 0
  · have w := w.pos e1
    refine mE_if_lt_T (t := 228) c239_124 rfl hx6 e1 ?_
    have w := w.oinr
    exact t239_228 hr0 hr2 hx3 hx4 hx5 w
  · have w := w.neg e1
    refine mE_if_lt_F (t := 228) c239_124 rfl hx6 e1 ?_
    refine mE_iload c239_127 rfl ?_
    refine mE_iload c239_129 rfl ?_
    by_cases e2 : x4 < x5
    · have w := w.pos e2
      refine mE_icmp_ge_F (t := 228) c239_131 rfl hx4 hx5 e2 ?_
      refine mE_aload_n c239_134 rfl ?_
      refine mE_getA c239_135 qo239 qF7_94 (ok_lit rfl rfl rfl) rfl ⟨by decide, by decide⟩ ?_
      refine mE_iload c239_138 rfl ?_
      obtain ⟨g3, w⟩ := w.ogd
      refine mE_iaload c239_140 (ok_lit rfl rfl rfl) hx6 g3 ?_
      intro u4
      refine mE_istore (ls2 := [some (.ref r0), some (.ref 3), some (.ref r2), some (.int (Int32.ofInt x3)), some (.int (Int32.ofInt x4)), some (.int (Int32.ofInt x5)), some (.int (Int32.ofInt x6)), some (.int (Int32.ofInt (M 13 (x6).toNat)))]) c239_141 (Nat.le_of_ble_eq_true rfl) rfl ?_
      refine mE_aload_n c239_143 rfl ?_
      refine mE_getA c239_144 qo239 qF7_15 (ok_sg0 hr0) rfl (nz_sg hr0 _) ?_
      refine mE_iload c239_147 rfl ?_
      obtain ⟨g5, w⟩ := w.ogd
      refine mE_iaload c239_149 (ok_sg2 hr0) u4 g5 ?_
      intro u6
      refine mE_iload_n c239_150 rfl ?_
      by_cases e7 : (M (r0 + 2) ((M 13 (x6).toNat)).toNat) = x3
      · have w := w.pos e7
        refine mE_icmp_ne_F (t := 222) c239_151 rfl u6 hx3 e7 ?_
        refine mE_aload_n c239_154 rfl ?_
        refine mE_getI c239_155 qo239 qF7_48 (ok_sg0 hr0) rfl ?_
        intro u8
        refine mE_iload c239_158 rfl ?_
        refine mE_ishr c239_160 ?_
        refine mE_iconst c239_161 ?_
        refine mE_iand c239_162 ?_
        by_cases e9 : (bAnd (bShr (M r0 0) (M 13 (x6).toNat)) 1) = 0
        · have w := w.pos e9
          refine mE_if_ne_F (t := 222) c239_163 rfl (r4_and _ _) e9 ?_
          refine mE_aload_n c239_166 rfl ?_
          refine mE_getA c239_167 qo239 qF7_91 (ok_st0 hr2) rfl (nz_st hr2 _) ?_
          refine mE_iload c239_170 rfl ?_
          refine mE_iaload c239_172 (ok_st1 hr2) u4 g5 ?_
          intro u10
          by_cases e11 : 0 < (M (r2 + 1) ((M 13 (x6).toNat)).toNat)
          · have w := w.pos e11
            refine mE_if_le_F (t := 222) c239_173 rfl u10 e11 ?_
            refine mE_aload_n c239_176 rfl ?_
            refine mE_dup c239_177 rfl ?_
            refine mE_getI c239_178 qo239 qF7_48 (ok_sg0 hr0) rfl ?_
            intro u12
            refine mE_iconst c239_181 ?_
            refine mE_iload c239_182 rfl ?_
            refine mE_ishl c239_184 ?_
            refine mE_ior c239_185 ?_
            obtain ⟨M13, m14, w⟩ := w.mlet
            refine mE_putI c239_186 qo239 qF7_48 qz7_0 (ok_sg0 hr0) (Nat.le_of_ble_eq_true rfl) rfl (r4_or _ _) (by rw [qy7_0]; rfl) ?_
            refine mE_M m14 ?_
            refine mE_aload_n c239_189 rfl ?_
            refine mE_getA c239_190 qo239 qF7_9 (ok_sg0 hr0) rfl (nz_sg hr0 _) ?_
            refine mE_aload_n c239_193 rfl ?_
            refine mE_getI c239_194 qo239 qF7_49 (ok_sg0 hr0) rfl ?_
            intro u15
            refine mE_iload c239_197 rfl ?_
            obtain ⟨g16, w⟩ := w.ogd
            obtain ⟨M17, m18, w⟩ := w.mlet
            refine mE_iastore c239_199 (ok_sg1 hr0) u15 g16 u4 ?_
            refine mE_M m18 ?_
            refine mE_aload_n c239_200 rfl ?_
            refine mE_dup c239_201 rfl ?_
            refine mE_getI c239_202 qo239 qF7_49 (ok_sg0 hr0) rfl ?_
            intro u19
            refine mE_iconst c239_205 ?_
            obtain ⟨g20, w⟩ := w.ogd
            refine mE_iadd c239_206 ?_
            obtain ⟨M21, m22, w⟩ := w.mlet
            refine mE_putI c239_207 qo239 qF7_49 qz7_1 (ok_sg0 hr0) (Nat.le_of_ble_eq_true rfl) rfl g20 (by rw [qy7_1]; rfl) ?_
            refine mE_M m22 ?_
            refine mE_iload c239_210 rfl ?_
            refine mE_aload_n c239_212 rfl ?_
            refine mE_getA c239_213 qo239 qF7_91 (ok_st0 hr2) rfl (nz_st hr2 _) ?_
            refine mE_iload c239_216 rfl ?_
            refine mE_iaload c239_218 (ok_st1 hr2) u4 g5 ?_
            intro u23
            obtain ⟨g24, w⟩ := w.ogd
            refine mE_isub c239_219 ?_
            refine mE_istore (ls2 := [some (.ref r0), some (.ref 3), some (.ref r2), some (.int (Int32.ofInt x3)), some (.int (Int32.ofInt x4)), some (.int (Int32.ofInt (x5 - (M21 (r2 + 1) ((M 13 (x6).toNat)).toNat)))), some (.int (Int32.ofInt x6)), some (.int (Int32.ofInt (M 13 (x6).toNat)))]) c239_220 (Nat.le_of_ble_eq_true rfl) rfl ?_
            exact t239_222 hr0 hr2 hx3 hx4 g24 hx6 w
          · have w := w.neg e11
            refine mE_if_le_T (t := 222) c239_173 rfl u10 e11 ?_
            exact t239_222 hr0 hr2 hx3 hx4 hx5 hx6 w
        · have w := w.neg e9
          refine mE_if_ne_T (t := 222) c239_163 rfl (r4_and _ _) e9 ?_
          exact t239_222 hr0 hr2 hx3 hx4 hx5 hx6 w
      · have w := w.neg e7
        refine mE_icmp_ne_T (t := 222) c239_151 rfl u6 hx3 e7 ?_
        exact t239_222 hr0 hr2 hx3 hx4 hx5 hx6 w
    · have w := w.neg e2
      refine mE_icmp_ge_T (t := 228) c239_131 rfl hx4 hx5 e2 ?_
      have w := w.oinr
      exact t239_228 hr0 hr2 hx3 hx4 hx5 w
theorem t239_122 {X : Nat × Nat × qC} {d : Nat} {r0 : Nat} {r2 : Nat} {x3 : Int} {x4 : Int} {x5 : Int} {x6 : Int} {M : Mm} {o7 : Option Value} {R : Mm → Prop} (hr0 : isSg r0) (hr2 : isSt X.1 r2) (hx3 : R4 x3) (hx4 : R4 x4) (hx5 : R4 x5) (hx6 : R4 x6) (w : Wp (f239_122 r0 r2 x3 x4 x5 x6 M) R) : mE X (d + 2) 239 0 122 [some (.ref r0), some (.ref 3), some (.ref r2), some (.int (Int32.ofInt x3)), some (.int (Int32.ofInt x4)), some (.int (Int32.ofInt x5)), some (.int (Int32.ofInt x6)), o7] [] M (fun v M2 => R M2) :=
  Wp.olp (f := fun s : Int × Int × Mm => lb239_122 r0 r2 x3 x4 s.1 s.2.1 s.2.2) (s := (x5, x6, M)) (E := E239_122 X d r0 r2 x3 x4 R) w (fun s w hx5 hx6 _ => tb239_122 hr0 hr2 hx3 hx4 hx5 hx6 w) hx5 hx6 _
noncomputable def lb239_64 (r0 : Nat) (r2 : Nat) (x3 : Int) (x4 : Int) (x5 : Int) (x6 : Int) (M : Mm) : Option ((Int × Int) ⊕ (Mm)) :=
  if x6 < (M 3 0) then
  (gd (0 ≤ x6 ∧ x6 < 8) (
  if (M (r0 + 2) (x6).toNat) = x3 then
  (if (bAnd (bShr (M r0 0) x6) 1) = 0 then
  (gd (R4 (x5 + (M (r2 + 1) (x6).toNat))) (
  f239_108 r0 r2 x3 x4 (x5 + (M (r2 + 1) (x6).toNat)) x6 M))
  else
  (f239_108 r0 r2 x3 x4 x5 x6 M))
  else
  (f239_108 r0 r2 x3 x4 x5 x6 M)))
  else
  (oinr (gd (R4 ((M 3 0) - 1)) (
  f239_122 r0 r2 x3 x4 x5 ((M 3 0) - 1) M)))
noncomputable def f239_64 (r0 : Nat) (r2 : Nat) (x3 : Int) (x4 : Int) (x5 : Int) (x6 : Int) (M : Mm) : Option (Mm) := lp (fun s : Int × Int => lb239_64 r0 r2 x3 x4 s.1 s.2 M) (x5, x6)
theorem tb239_64 {X : Nat × Nat × qC} {d : Nat} {r0 : Nat} {r2 : Nat} {x3 : Int} {x4 : Int} {x5 : Int} {x6 : Int} {M : Mm}  {R : Mm → Prop} (hr0 : isSg r0) (hr2 : isSt X.1 r2) (hx3 : R4 x3) (hx4 : R4 x4) (hx5 : R4 x5) (hx6 : R4 x6) (w : Wp (lb239_64 r0 r2 x3 x4 x5 x6 M) (Sum.elim (E239_64 X d r0 r2 x3 x4 M R) R)) : mE X (d + 2) 239 0 64 [some (.ref r0), some (.ref 3), some (.ref r2), some (.int (Int32.ofInt x3)), some (.int (Int32.ofInt x4)), some (.int (Int32.ofInt x5)), some (.int (Int32.ofInt x6)), none] [] M (fun v M2 => R M2) := by
  refine mE_iload c239_64 rfl ?_
  refine mE_aload_n c239_66 rfl ?_
  refine mE_getI c239_67 qo239 qF7_68 (ok_lit rfl rfl rfl) rfl ?_
  intro u1
  by_cases e2 : x6 < (M 3 0)
  · have w := w.pos e2
    refine mE_icmp_ge_F (t := 114) c239_70 rfl hx6 u1 e2 ?_
    refine mE_aload_n c239_73 rfl ?_
    refine mE_getA c239_74 qo239 qF7_15 (ok_sg0 hr0) rfl (nz_sg hr0 _) ?_
    refine mE_iload c239_77 rfl ?_
    obtain ⟨g3, w⟩ := w.ogd
    refine mE_iaload c239_79 (ok_sg2 hr0) hx6 g3 ?_
    intro u4
    refine mE_iload_n c239_80 rfl ?_
    by_cases e5 : (M (r0 + 2) (x6).toNat) = x3
    · have w := w.pos e5
      refine mE_icmp_ne_F (t := 108) c239_81 rfl u4 hx3 e5 ?_
      refine mE_aload_n c239_84 rfl ?_
      refine mE_getI c239_85 qo239 qF7_48 (ok_sg0 hr0) rfl ?_
      intro u6
      refine mE_iload c239_88 rfl ?_
      refine mE_ishr c239_90 ?_
      refine mE_iconst c239_91 ?_
      refine mE_iand c239_92 ?_
      by_cases e7 : (bAnd (bShr (M r0 0) x6) 1) = 0
      · have w := w.pos e7
        refine mE_if_ne_F (t := 108) c239_93 rfl (r4_and _ _) e7 ?_
        refine mE_iload c239_96 rfl ?_
        refine mE_aload_n c239_98 rfl ?_
        refine mE_getA c239_99 qo239 qF7_91 (ok_st0 hr2) rfl (nz_st hr2 _) ?_
        refine mE_iload c239_102 rfl ?_
        refine mE_iaload c239_104 (ok_st1 hr2) hx6 g3 ?_
        intro u8
        obtain ⟨g9, w⟩ := w.ogd
        refine mE_iadd c239_105 ?_
        refine mE_istore (ls2 := [some (.ref r0), some (.ref 3), some (.ref r2), some (.int (Int32.ofInt x3)), some (.int (Int32.ofInt x4)), some (.int (Int32.ofInt (x5 + (M (r2 + 1) (x6).toNat)))), some (.int (Int32.ofInt x6)), none]) c239_106 (Nat.le_of_ble_eq_true rfl) rfl ?_
        exact t239_108 hr0 hr2 hx3 hx4 g9 hx6 w
      · have w := w.neg e7
        refine mE_if_ne_T (t := 108) c239_93 rfl (r4_and _ _) e7 ?_
        exact t239_108 hr0 hr2 hx3 hx4 hx5 hx6 w
    · have w := w.neg e5
      refine mE_icmp_ne_T (t := 108) c239_81 rfl u4 hx3 e5 ?_
      exact t239_108 hr0 hr2 hx3 hx4 hx5 hx6 w
  · have w := w.neg e2
    refine mE_icmp_ge_T (t := 114) c239_70 rfl hx6 u1 e2 ?_
    have w := w.oinr
    refine mE_aload_n c239_114 rfl ?_
    refine mE_getI c239_115 qo239 qF7_68 (ok_lit rfl rfl rfl) rfl ?_
    intro u3
    refine mE_iconst c239_118 ?_
    obtain ⟨g4, w⟩ := w.ogd
    refine mE_isub c239_119 ?_
    refine mE_istore (ls2 := [some (.ref r0), some (.ref 3), some (.ref r2), some (.int (Int32.ofInt x3)), some (.int (Int32.ofInt x4)), some (.int (Int32.ofInt x5)), some (.int (Int32.ofInt ((M 3 0) - 1))), none]) c239_120 (Nat.le_of_ble_eq_true rfl) rfl ?_
    exact t239_122 hr0 hr2 hx3 hx4 hx5 g4 w
theorem t239_64 {X : Nat × Nat × qC} {d : Nat} {r0 : Nat} {r2 : Nat} {x3 : Int} {x4 : Int} {x5 : Int} {x6 : Int} {M : Mm}  {R : Mm → Prop} (hr0 : isSg r0) (hr2 : isSt X.1 r2) (hx3 : R4 x3) (hx4 : R4 x4) (hx5 : R4 x5) (hx6 : R4 x6) (w : Wp (f239_64 r0 r2 x3 x4 x5 x6 M) R) : mE X (d + 2) 239 0 64 [some (.ref r0), some (.ref 3), some (.ref r2), some (.int (Int32.ofInt x3)), some (.int (Int32.ofInt x4)), some (.int (Int32.ofInt x5)), some (.int (Int32.ofInt x6)), none] [] M (fun v M2 => R M2) :=
  Wp.olp (f := fun s : Int × Int => lb239_64 r0 r2 x3 x4 s.1 s.2 M) (s := (x5, x6)) (E := E239_64 X d r0 r2 x3 x4 M R) w (fun s w hx5 hx6 => tb239_64 hr0 hr2 hx3 hx4 hx5 hx6 w) hx5 hx6
noncomputable def lb239_6 (r0 : Nat) (r2 : Nat) (x3 : Int) (x4 : Int) (x5 : Int) (M : Mm) : Option ((Int × Int) ⊕ (Mm)) :=
  if x5 < (M 3 2) then
  ((f245 r2 x5 M).bind fun v3 =>
  if v3 = 0 then
  (f239_52 r0 r2 x3 x4 x5 M)
  else
  (gd (0 ≤ x5 ∧ x5 < 9) (
  gd (0 ≤ (M 20 (x5).toNat) ∧ (M 20 (x5).toNat) < 8) (
  if (M (r0 + 2) ((M 20 (x5).toNat)).toNat) = x3 then
  (gd (R4 (x4 + (M 21 (x5).toNat))) (
  f239_52 r0 r2 x3 (x4 + (M 21 (x5).toNat)) x5 M))
  else
  (f239_52 r0 r2 x3 x4 x5 M)))))
  else
  (oinr (f239_64 r0 r2 x3 x4 0 0 M))
noncomputable def f239_6 (r0 : Nat) (r2 : Nat) (x3 : Int) (x4 : Int) (x5 : Int) (M : Mm) : Option (Mm) := lp (fun s : Int × Int => lb239_6 r0 r2 x3 s.1 s.2 M) (x4, x5)
theorem tb239_6 {X : Nat × Nat × qC} {d : Nat} {r0 : Nat} {r2 : Nat} {x3 : Int} {x4 : Int} {x5 : Int} {M : Mm}  {R : Mm → Prop} (hr0 : isSg r0) (hr2 : isSt X.1 r2) (hx3 : R4 x3) (hx4 : R4 x4) (hx5 : R4 x5) (w : Wp (lb239_6 r0 r2 x3 x4 x5 M) (Sum.elim (E239_6 X d r0 r2 x3 M R) R)) : mE X (d + 2) 239 0 6 [some (.ref r0), some (.ref 3), some (.ref r2), some (.int (Int32.ofInt x3)), some (.int (Int32.ofInt x4)), some (.int (Int32.ofInt x5)), none, none] [] M (fun v M2 => R M2) := by
  refine mE_iload c239_6 rfl ?_
  refine mE_aload_n c239_8 rfl ?_
  refine mE_getI c239_9 qo239 qF7_78 (ok_lit rfl rfl rfl) rfl ?_
  intro u1
  by_cases e2 : x5 < (M 3 2)
  · have w := w.pos e2
    refine mE_icmp_ge_F (t := 58) c239_12 rfl hx5 u1 e2 ?_
    refine mE_aload_n c239_15 rfl ?_
    refine mE_iload c239_16 rfl ?_
    refine mE_virtual1 (b := r2) (as := [.int (Int32.ofInt x5)]) (r := []) c239_18 qo239 qK7_81 qo245 rfl rfl rfl (ok_st0 hr2) (Nat.le_of_ble_eq_true rfl) (s245 (d := d + 1) hr2 hx5 w.obind) ?_
    rintro v3 _ q5 ⟨rfl, w⟩
    by_cases e6 : v3 = 0
    · have w := w.pos e6
      refine mE_if_eq_T (t := 52) c239_21 rfl q5 e6 ?_
      exact t239_52 hr0 hr2 hx3 hx4 hx5 w
    · have w := w.neg e6
      refine mE_if_eq_F (t := 52) c239_21 rfl q5 e6 ?_
      refine mE_aload_n c239_24 rfl ?_
      refine mE_getA c239_25 qo239 qF7_15 (ok_sg0 hr0) rfl (nz_sg hr0 _) ?_
      refine mE_aload_n c239_28 rfl ?_
      refine mE_getA c239_29 qo239 qF7_85 (ok_lit rfl rfl rfl) rfl ⟨by decide, by decide⟩ ?_
      refine mE_iload c239_32 rfl ?_
      obtain ⟨g7, w⟩ := w.ogd
      refine mE_iaload c239_34 (ok_lit rfl rfl rfl) hx5 g7 ?_
      intro u8
      obtain ⟨g9, w⟩ := w.ogd
      refine mE_iaload c239_35 (ok_sg2 hr0) u8 g9 ?_
      intro u10
      refine mE_iload_n c239_36 rfl ?_
      by_cases e11 : (M (r0 + 2) ((M 20 (x5).toNat)).toNat) = x3
      · have w := w.pos e11
        refine mE_icmp_ne_F (t := 52) c239_37 rfl u10 hx3 e11 ?_
        refine mE_iload c239_40 rfl ?_
        refine mE_aload_n c239_42 rfl ?_
        refine mE_getA c239_43 qo239 qF7_88 (ok_lit rfl rfl rfl) rfl ⟨by decide, by decide⟩ ?_
        refine mE_iload c239_46 rfl ?_
        refine mE_iaload c239_48 (ok_lit rfl rfl rfl) hx5 g7 ?_
        intro u12
        obtain ⟨g13, w⟩ := w.ogd
        refine mE_iadd c239_49 ?_
        refine mE_istore (ls2 := [some (.ref r0), some (.ref 3), some (.ref r2), some (.int (Int32.ofInt x3)), some (.int (Int32.ofInt (x4 + (M 21 (x5).toNat)))), some (.int (Int32.ofInt x5)), none, none]) c239_50 (Nat.le_of_ble_eq_true rfl) rfl ?_
        exact t239_52 hr0 hr2 hx3 g13 hx5 w
      · have w := w.neg e11
        refine mE_icmp_ne_T (t := 52) c239_37 rfl u10 hx3 e11 ?_
        exact t239_52 hr0 hr2 hx3 hx4 hx5 w
  · have w := w.neg e2
    refine mE_icmp_ge_T (t := 58) c239_12 rfl hx5 u1 e2 ?_
    have w := w.oinr
    refine mE_iconst c239_58 ?_
    refine mE_istore (ls2 := [some (.ref r0), some (.ref 3), some (.ref r2), some (.int (Int32.ofInt x3)), some (.int (Int32.ofInt x4)), some (.int (Int32.ofInt 0)), none, none]) c239_59 (Nat.le_of_ble_eq_true rfl) rfl ?_
    refine mE_iconst c239_61 ?_
    refine mE_istore (ls2 := [some (.ref r0), some (.ref 3), some (.ref r2), some (.int (Int32.ofInt x3)), some (.int (Int32.ofInt x4)), some (.int (Int32.ofInt 0)), some (.int (Int32.ofInt 0)), none]) c239_62 (Nat.le_of_ble_eq_true rfl) rfl ?_
    exact t239_64 hr0 hr2 hx3 hx4 (r4_n rfl) (r4_n rfl) w
theorem t239_6 {X : Nat × Nat × qC} {d : Nat} {r0 : Nat} {r2 : Nat} {x3 : Int} {x4 : Int} {x5 : Int} {M : Mm}  {R : Mm → Prop} (hr0 : isSg r0) (hr2 : isSt X.1 r2) (hx3 : R4 x3) (hx4 : R4 x4) (hx5 : R4 x5) (w : Wp (f239_6 r0 r2 x3 x4 x5 M) R) : mE X (d + 2) 239 0 6 [some (.ref r0), some (.ref 3), some (.ref r2), some (.int (Int32.ofInt x3)), some (.int (Int32.ofInt x4)), some (.int (Int32.ofInt x5)), none, none] [] M (fun v M2 => R M2) :=
  Wp.olp (f := fun s : Int × Int => lb239_6 r0 r2 x3 s.1 s.2 M) (s := (x4, x5)) (E := E239_6 X d r0 r2 x3 M R) w (fun s w hx4 hx5 => tb239_6 hr0 hr2 hx3 hx4 hx5 w) hx4 hx5
noncomputable def f239 (r0 : Nat) (r2 : Nat) (x3 : Int) (M : Mm) : Option (Mm) :=
  f239_6 r0 r2 x3 0 0 M
theorem t239 {X : Nat × Nat × qC} {d : Nat} {r0 : Nat} {r2 : Nat} {x3 : Int} {M : Mm}  {R : Mm → Prop} (hr0 : isSg r0) (hr2 : isSt X.1 r2) (hx3 : R4 x3) (w : Wp (f239 r0 r2 x3 M) R) : mE X (d + 2) 239 0 0 [some (.ref r0), some (.ref 3), some (.ref r2), some (.int (Int32.ofInt x3)), none, none, none, none] [] M (fun v M2 => R M2) := by
  refine mE_iconst c239_0 ?_
  refine mE_istore (ls2 := [some (.ref r0), some (.ref 3), some (.ref r2), some (.int (Int32.ofInt x3)), some (.int (Int32.ofInt 0)), none, none, none]) c239_1 (Nat.le_of_ble_eq_true rfl) rfl ?_
  refine mE_iconst c239_3 ?_
  refine mE_istore (ls2 := [some (.ref r0), some (.ref 3), some (.ref r2), some (.int (Int32.ofInt x3)), some (.int (Int32.ofInt 0)), some (.int (Int32.ofInt 0)), none, none]) c239_4 (Nat.le_of_ble_eq_true rfl) rfl ?_
  exact t239_6 hr0 hr2 hx3 (r4_n rfl) (r4_n rfl) w
theorem s239 {X : Nat × Nat × qC} {d : Nat} {r0 : Nat} {r2 : Nat} {x3 : Int} {M : Mm} {R : Mm → Prop} (hr0 : isSg r0) (hr2 : isSt X.1 r2) (hx3 : R4 x3) (w : Wp (f239 r0 r2 x3 M) R) : mC X (d + 3) 239 0 [.ref r0, .ref 3, .ref r2, .int (Int32.ofInt x3)] M (fun v M2 => R M2) :=
  mC_of (qent_mk qx239 rfl rfl rfl) (t239 hr0 hr2 hx3 w)
/-! SaggingNet$Standing.join -/
noncomputable def f237_58 (r0 : Nat) (x1 : Int) (x2 : Int) (x3 : Int) (x4 : Int) (M : Mm) : Option (Mm) :=
  if x1 = x4 then
  (some M)
  else
  (if x2 = x4 then
  (some M)
  else
  (gd (0 ≤ x1 ∧ x1 < 8) (
  gd (0 ≤ (M (r0 + 7) (x1).toNat) ∧ (M (r0 + 7) (x1).toNat) < 8) (
  gd (0 ≤ x2 ∧ x2 < 8) (
  gd (0 ≤ (M (r0 + 7) (x2).toNat) ∧ (M (r0 + 7) (x2).toNat) < 8) (
  gd (R8 ((M (r0 + 10 + ((M (r0 + 7) (x1).toNat)).toNat) ((M (r0 + 7) (x2).toNat)).toNat) - x3)) (
  mlet (ms M (r0 + 10 + ((M (r0 + 7) (x1).toNat)).toNat) ((M (r0 + 7) (x2).toNat)).toNat ((M (r0 + 10 + ((M (r0 + 7) (x1).toNat)).toNat) ((M (r0 + 7) (x2).toNat)).toNat) - x3)) fun M11 =>
  gd (0 ≤ (M11 (r0 + 7) (x2).toNat) ∧ (M11 (r0 + 7) (x2).toNat) < 8) (
  gd (0 ≤ (M11 (r0 + 7) (x1).toNat) ∧ (M11 (r0 + 7) (x1).toNat) < 8) (
  gd (R8 ((M11 (r0 + 10 + ((M11 (r0 + 7) (x2).toNat)).toNat) ((M11 (r0 + 7) (x1).toNat)).toNat) - x3)) (
  mlet (ms M11 (r0 + 10 + ((M11 (r0 + 7) (x2).toNat)).toNat) ((M11 (r0 + 7) (x1).toNat)).toNat ((M11 (r0 + 10 + ((M11 (r0 + 7) (x2).toNat)).toNat) ((M11 (r0 + 7) (x1).toNat)).toNat) - x3)) fun M19 =>
  some M19))))))))))
theorem t237_58 {X : Nat × Nat × qC} {d : Nat} {r0 : Nat} {x1 : Int} {x2 : Int} {x3 : Int} {x4 : Int} {M : Mm}  {R : Mm → Prop} (hr0 : isSg r0) (hx1 : R4 x1) (hx2 : R4 x2) (hx3 : R4 x3) (hx4 : R4 x4) (w : Wp (f237_58 r0 x1 x2 x3 x4 M) R) : mE X (d + 0) 237 0 58 [some (.ref r0), some (.int (Int32.ofInt x1)), some (.int (Int32.ofInt x2)), some (.int (Int32.ofInt x3)), some (.int (Int32.ofInt x4))] [] M (fun v M2 => R M2) := by
  refine mE_iload_n c237_58 rfl ?_
  refine mE_iload c237_59 rfl ?_
  by_cases e1 : x1 = x4
  · have w := w.pos e1
    refine mE_icmp_eq_T (t := 116) c237_61 rfl hx1 hx4 e1 ?_
    exact mE_vret c237_116 qr237 w.osome
  · have w := w.neg e1
    refine mE_icmp_eq_F (t := 116) c237_61 rfl hx1 hx4 e1 ?_
    refine mE_iload_n c237_64 rfl ?_
    refine mE_iload c237_65 rfl ?_
    by_cases e2 : x2 = x4
    · have w := w.pos e2
      refine mE_icmp_eq_T (t := 116) c237_67 rfl hx2 hx4 e2 ?_
      exact mE_vret c237_116 qr237 w.osome
    · have w := w.neg e2
      refine mE_icmp_eq_F (t := 116) c237_67 rfl hx2 hx4 e2 ?_
      refine mE_aload_n c237_70 rfl ?_
      refine mE_getA c237_71 qo237 qF7_39 (ok_sg0 hr0) rfl (nz_sg hr0 _) ?_
      refine mE_aload_n c237_74 rfl ?_
      refine mE_getA c237_75 qo237 qF7_31 (ok_sg0 hr0) rfl (nz_sg hr0 _) ?_
      refine mE_iload_n c237_78 rfl ?_
      obtain ⟨g3, w⟩ := w.ogd
      refine mE_iaload c237_79 (ok_sg7 hr0) hx1 g3 ?_
      intro u4
      obtain ⟨g5, w⟩ := w.ogd
      refine mE_aaload3 c237_80 (ok_sg9 hr0) (Or.inr (Or.inr rfl)) u4 g5 ?_
      refine mE_aload_n c237_81 rfl ?_
      refine mE_getA c237_82 qo237 qF7_31 (ok_sg0 hr0) rfl (nz_sg hr0 _) ?_
      refine mE_iload_n c237_85 rfl ?_
      obtain ⟨g6, w⟩ := w.ogd
      refine mE_iaload c237_86 (ok_sg7 hr0) hx2 g6 ?_
      intro u7
      refine mE_dup2 c237_87 (Nat.ne_of_beq_eq_false rfl) rfl ?_
      obtain ⟨g8, w⟩ := w.ogd
      refine mE_laload c237_88 (ok_sgr hr0 g5) u7 g8 ?_
      intro u9
      refine mE_iload_n c237_89 rfl ?_
      refine mE_i2l c237_90 hx3 ?_
      obtain ⟨g10, w⟩ := w.ogd
      refine mE_lsub c237_91 ?_
      obtain ⟨M11, m12, w⟩ := w.mlet
      refine mE_lastore c237_92 (ok_sgr hr0 g5) u7 g8 g10 ?_
      refine mE_M m12 ?_
      refine mE_aload_n c237_93 rfl ?_
      refine mE_getA c237_94 qo237 qF7_39 (ok_sg0 hr0) rfl (nz_sg hr0 _) ?_
      refine mE_aload_n c237_97 rfl ?_
      refine mE_getA c237_98 qo237 qF7_31 (ok_sg0 hr0) rfl (nz_sg hr0 _) ?_
      refine mE_iload_n c237_101 rfl ?_
      refine mE_iaload c237_102 (ok_sg7 hr0) hx2 g6 ?_
      intro u13
      obtain ⟨g14, w⟩ := w.ogd
      refine mE_aaload3 c237_103 (ok_sg9 hr0) (Or.inr (Or.inr rfl)) u13 g14 ?_
      refine mE_aload_n c237_104 rfl ?_
      refine mE_getA c237_105 qo237 qF7_31 (ok_sg0 hr0) rfl (nz_sg hr0 _) ?_
      refine mE_iload_n c237_108 rfl ?_
      refine mE_iaload c237_109 (ok_sg7 hr0) hx1 g3 ?_
      intro u15
      refine mE_dup2 c237_110 (Nat.ne_of_beq_eq_false rfl) rfl ?_
      obtain ⟨g16, w⟩ := w.ogd
      refine mE_laload c237_111 (ok_sgr hr0 g14) u15 g16 ?_
      intro u17
      refine mE_iload_n c237_112 rfl ?_
      refine mE_i2l c237_113 hx3 ?_
      obtain ⟨g18, w⟩ := w.ogd
      refine mE_lsub c237_114 ?_
      obtain ⟨M19, m20, w⟩ := w.mlet
      refine mE_lastore c237_115 (ok_sgr hr0 g14) u15 g16 g18 ?_
      refine mE_M m20 ?_
      exact mE_vret c237_116 qr237 w.osome
noncomputable def f237_29 (r0 : Nat) (x1 : Int) (x2 : Int) (x3 : Int) (x4 : Int) (M : Mm) : Option (Mm) :=
  if x2 = x4 then
  (f237_58 r0 x1 x2 x3 x4 M)
  else
  (gd (0 ≤ x2 ∧ x2 < 8) (
  gd (0 ≤ (M (r0 + 7) (x2).toNat) ∧ (M (r0 + 7) (x2).toNat) < 8) (
  gd (R8 ((M (r0 + 10 + ((M (r0 + 7) (x2).toNat)).toNat) ((M (r0 + 7) (x2).toNat)).toNat) + x3)) (
  mlet (ms M (r0 + 10 + ((M (r0 + 7) (x2).toNat)).toNat) ((M (r0 + 7) (x2).toNat)).toNat ((M (r0 + 10 + ((M (r0 + 7) (x2).toNat)).toNat) ((M (r0 + 7) (x2).toNat)).toNat) + x3)) fun M8 =>
  f237_58 r0 x1 x2 x3 x4 M8))))
theorem t237_29 {X : Nat × Nat × qC} {d : Nat} {r0 : Nat} {x1 : Int} {x2 : Int} {x3 : Int} {x4 : Int} {M : Mm}  {R : Mm → Prop} (hr0 : isSg r0) (hx1 : R4 x1) (hx2 : R4 x2) (hx3 : R4 x3) (hx4 : R4 x4) (w : Wp (f237_29 r0 x1 x2 x3 x4 M) R) : mE X (d + 0) 237 0 29 [some (.ref r0), some (.int (Int32.ofInt x1)), some (.int (Int32.ofInt x2)), some (.int (Int32.ofInt x3)), some (.int (Int32.ofInt x4))] [] M (fun v M2 => R M2) := by
  refine mE_iload_n c237_29 rfl ?_
  refine mE_iload c237_30 rfl ?_
  by_cases e1 : x2 = x4
  · have w := w.pos e1
    refine mE_icmp_eq_T (t := 58) c237_32 rfl hx2 hx4 e1 ?_
    exact t237_58 hr0 hx1 hx2 hx3 hx4 w
  · have w := w.neg e1
    refine mE_icmp_eq_F (t := 58) c237_32 rfl hx2 hx4 e1 ?_
    refine mE_aload_n c237_35 rfl ?_
    refine mE_getA c237_36 qo237 qF7_39 (ok_sg0 hr0) rfl (nz_sg hr0 _) ?_
    refine mE_aload_n c237_39 rfl ?_
    refine mE_getA c237_40 qo237 qF7_31 (ok_sg0 hr0) rfl (nz_sg hr0 _) ?_
    refine mE_iload_n c237_43 rfl ?_
    obtain ⟨g2, w⟩ := w.ogd
    refine mE_iaload c237_44 (ok_sg7 hr0) hx2 g2 ?_
    intro u3
    obtain ⟨g4, w⟩ := w.ogd
    refine mE_aaload3 c237_45 (ok_sg9 hr0) (Or.inr (Or.inr rfl)) u3 g4 ?_
    refine mE_aload_n c237_46 rfl ?_
    refine mE_getA c237_47 qo237 qF7_31 (ok_sg0 hr0) rfl (nz_sg hr0 _) ?_
    refine mE_iload_n c237_50 rfl ?_
    refine mE_iaload c237_51 (ok_sg7 hr0) hx2 g2 ?_
    intro u5
    refine mE_dup2 c237_52 (Nat.ne_of_beq_eq_false rfl) rfl ?_
    refine mE_laload c237_53 (ok_sgr hr0 g4) u5 g4 ?_
    intro u6
    refine mE_iload_n c237_54 rfl ?_
    refine mE_i2l c237_55 hx3 ?_
    obtain ⟨g7, w⟩ := w.ogd
    refine mE_ladd c237_56 ?_
    obtain ⟨M8, m9, w⟩ := w.mlet
    refine mE_lastore c237_57 (ok_sgr hr0 g4) u5 g4 g7 ?_
    refine mE_M m9 ?_
    exact t237_58 hr0 hx1 hx2 hx3 hx4 w
noncomputable def f237 (r0 : Nat) (x1 : Int) (x2 : Int) (x3 : Int) (x4 : Int) (M : Mm) : Option (Mm) :=
  if x1 = x4 then
  (f237_29 r0 x1 x2 x3 x4 M)
  else
  (gd (0 ≤ x1 ∧ x1 < 8) (
  gd (0 ≤ (M (r0 + 7) (x1).toNat) ∧ (M (r0 + 7) (x1).toNat) < 8) (
  gd (R8 ((M (r0 + 10 + ((M (r0 + 7) (x1).toNat)).toNat) ((M (r0 + 7) (x1).toNat)).toNat) + x3)) (
  mlet (ms M (r0 + 10 + ((M (r0 + 7) (x1).toNat)).toNat) ((M (r0 + 7) (x1).toNat)).toNat ((M (r0 + 10 + ((M (r0 + 7) (x1).toNat)).toNat) ((M (r0 + 7) (x1).toNat)).toNat) + x3)) fun M8 =>
  f237_29 r0 x1 x2 x3 x4 M8))))
theorem t237 {X : Nat × Nat × qC} {d : Nat} {r0 : Nat} {x1 : Int} {x2 : Int} {x3 : Int} {x4 : Int} {M : Mm}  {R : Mm → Prop} (hr0 : isSg r0) (hx1 : R4 x1) (hx2 : R4 x2) (hx3 : R4 x3) (hx4 : R4 x4) (w : Wp (f237 r0 x1 x2 x3 x4 M) R) : mE X (d + 0) 237 0 0 [some (.ref r0), some (.int (Int32.ofInt x1)), some (.int (Int32.ofInt x2)), some (.int (Int32.ofInt x3)), some (.int (Int32.ofInt x4))] [] M (fun v M2 => R M2) := by
  refine mE_iload_n c237_0 rfl ?_
  refine mE_iload c237_1 rfl ?_
  by_cases e1 : x1 = x4
  · have w := w.pos e1
    refine mE_icmp_eq_T (t := 29) c237_3 rfl hx1 hx4 e1 ?_
    exact t237_29 hr0 hx1 hx2 hx3 hx4 w
  · have w := w.neg e1
    refine mE_icmp_eq_F (t := 29) c237_3 rfl hx1 hx4 e1 ?_
    refine mE_aload_n c237_6 rfl ?_
    refine mE_getA c237_7 qo237 qF7_39 (ok_sg0 hr0) rfl (nz_sg hr0 _) ?_
    refine mE_aload_n c237_10 rfl ?_
    refine mE_getA c237_11 qo237 qF7_31 (ok_sg0 hr0) rfl (nz_sg hr0 _) ?_
    refine mE_iload_n c237_14 rfl ?_
    obtain ⟨g2, w⟩ := w.ogd
    refine mE_iaload c237_15 (ok_sg7 hr0) hx1 g2 ?_
    intro u3
    obtain ⟨g4, w⟩ := w.ogd
    refine mE_aaload3 c237_16 (ok_sg9 hr0) (Or.inr (Or.inr rfl)) u3 g4 ?_
    refine mE_aload_n c237_17 rfl ?_
    refine mE_getA c237_18 qo237 qF7_31 (ok_sg0 hr0) rfl (nz_sg hr0 _) ?_
    refine mE_iload_n c237_21 rfl ?_
    refine mE_iaload c237_22 (ok_sg7 hr0) hx1 g2 ?_
    intro u5
    refine mE_dup2 c237_23 (Nat.ne_of_beq_eq_false rfl) rfl ?_
    refine mE_laload c237_24 (ok_sgr hr0 g4) u5 g4 ?_
    intro u6
    refine mE_iload_n c237_25 rfl ?_
    refine mE_i2l c237_26 hx3 ?_
    obtain ⟨g7, w⟩ := w.ogd
    refine mE_ladd c237_27 ?_
    obtain ⟨M8, m9, w⟩ := w.mlet
    refine mE_lastore c237_28 (ok_sgr hr0 g4) u5 g4 g7 ?_
    refine mE_M m9 ?_
    exact t237_29 hr0 hx1 hx2 hx3 hx4 w
theorem s237 {X : Nat × Nat × qC} {d : Nat} {r0 : Nat} {x1 : Int} {x2 : Int} {x3 : Int} {x4 : Int} {M : Mm} {R : Mm → Prop} (hr0 : isSg r0) (hx1 : R4 x1) (hx2 : R4 x2) (hx3 : R4 x3) (hx4 : R4 x4) (w : Wp (f237 r0 x1 x2 x3 x4 M) R) : mC X (d + 1) 237 0 [.ref r0, .int (Int32.ofInt x1), .int (Int32.ofInt x2), .int (Int32.ofInt x3), .int (Int32.ofInt x4)] M (fun v M2 => R M2) :=
  mC_of (qent_mk qx237 rfl rfl rfl) (t237 hr0 hx1 hx2 hx3 hx4 w)
/-! SaggingNet$Standing.enter -/
def E235_127 (X : Nat × Nat × qC) (d : Nat) (r0 : Nat) (r2 : Nat) (x3 : Int) (x4 : Int) (R : Int × Mm → Prop) : Int × Mm → Prop := fun s => R4 s.1 → mE X (d + 1) 235 1 127 [some (.ref r0), some (.ref 3), some (.ref r2), some (.int (Int32.ofInt x3)), some (.int (Int32.ofInt x4)), some (.int (Int32.ofInt s.1))] [] s.2 (fun v M2 => R (v, M2))
def E235_53 (X : Nat × Nat × qC) (d : Nat) (r0 : Nat) (r2 : Nat) (x3 : Int) (x4 : Int) (R : Int × Mm → Prop) : Int × Mm → Prop := fun s => R4 s.1 → mE X (d + 1) 235 1 53 [some (.ref r0), some (.ref 3), some (.ref r2), some (.int (Int32.ofInt x3)), some (.int (Int32.ofInt x4)), some (.int (Int32.ofInt s.1))] [] s.2 (fun v M2 => R (v, M2))
def E235_6 (X : Nat × Nat × qC) (d : Nat) (r0 : Nat) (r2 : Nat) (x3 : Int) (R : Int × Mm → Prop) : Int × Int × Mm → Prop := fun s => R4 s.1 → R4 s.2.1 → mE X (d + 1) 235 1 6 [some (.ref r0), some (.ref 3), some (.ref r2), some (.int (Int32.ofInt x3)), some (.int (Int32.ofInt s.1)), some (.int (Int32.ofInt s.2.1))] [] s.2.2 (fun v M2 => R (v, M2))
noncomputable def f235_44 (r0 : Nat) (r2 : Nat) (x3 : Int) (x4 : Int) (x5 : Int) (M : Mm) : Option ((Int × Int × Mm) ⊕ (Int × Mm)) :=
  gd (R4 (x5 + 1)) (
  some (.inl (x4, (x5 + 1), M)))
theorem t235_44 {X : Nat × Nat × qC} {d : Nat} {r0 : Nat} {r2 : Nat} {x3 : Int} {x4 : Int} {x5 : Int} {M : Mm}  {R : Int × Mm → Prop} (hr0 : isSg r0) (hr2 : isSt X.1 r2) (hx3 : R4 x3) (hx4 : R4 x4) (hx5 : R4 x5) (w : Wp (f235_44 r0 r2 x3 x4 x5 M) (Sum.elim (E235_6 X d r0 r2 x3 R) R)) : mE X (d + 1) 235 1 44 [some (.ref r0), some (.ref 3), some (.ref r2), some (.int (Int32.ofInt x3)), some (.int (Int32.ofInt x4)), some (.int (Int32.ofInt x5))] [] M (fun v M2 => R (v, M2)) := by
  obtain ⟨g1, w⟩ := w.ogd
  refine mE_iinc (ls2 := [some (.ref r0), some (.ref 3), some (.ref r2), some (.int (Int32.ofInt x3)), some (.int (Int32.ofInt x4)), some (.int (Int32.ofInt (x5 + 1)))]) c235_44 rfl (Nat.le_of_ble_eq_true rfl) rfl ?_
  refine mE_goto (t := 6) c235_47 rfl ?_
  exact w.osome hx4 g1
noncomputable def f235_118 (r0 : Nat) (r2 : Nat) (x3 : Int) (x4 : Int) (x5 : Int) (M : Mm) : Option ((Int × Mm) ⊕ (Int × Mm)) :=
  gd (R4 (x5 + 1)) (
  some (.inl ((x5 + 1), M)))
theorem t235_118 {X : Nat × Nat × qC} {d : Nat} {r0 : Nat} {r2 : Nat} {x3 : Int} {x4 : Int} {x5 : Int} {M : Mm}  {R : Int × Mm → Prop} (hr0 : isSg r0) (hr2 : isSt X.1 r2) (hx3 : R4 x3) (hx4 : R4 x4) (hx5 : R4 x5) (w : Wp (f235_118 r0 r2 x3 x4 x5 M) (Sum.elim (E235_53 X d r0 r2 x3 x4 R) R)) : mE X (d + 1) 235 1 118 [some (.ref r0), some (.ref 3), some (.ref r2), some (.int (Int32.ofInt x3)), some (.int (Int32.ofInt x4)), some (.int (Int32.ofInt x5))] [] M (fun v M2 => R (v, M2)) := by
  obtain ⟨g1, w⟩ := w.ogd
  refine mE_iinc (ls2 := [some (.ref r0), some (.ref 3), some (.ref r2), some (.int (Int32.ofInt x3)), some (.int (Int32.ofInt x4)), some (.int (Int32.ofInt (x5 + 1)))]) c235_118 rfl (Nat.le_of_ble_eq_true rfl) rfl ?_
  refine mE_goto (t := 53) c235_121 rfl ?_
  exact w.osome g1
noncomputable def f235_188 (r0 : Nat) (r2 : Nat) (x3 : Int) (x4 : Int) (x5 : Int) (M : Mm) : Option ((Int × Mm) ⊕ (Int × Mm)) :=
  gd (R4 (x5 + 1)) (
  some (.inl ((x5 + 1), M)))
theorem t235_188 {X : Nat × Nat × qC} {d : Nat} {r0 : Nat} {r2 : Nat} {x3 : Int} {x4 : Int} {x5 : Int} {M : Mm}  {R : Int × Mm → Prop} (hr0 : isSg r0) (hr2 : isSt X.1 r2) (hx3 : R4 x3) (hx4 : R4 x4) (hx5 : R4 x5) (w : Wp (f235_188 r0 r2 x3 x4 x5 M) (Sum.elim (E235_127 X d r0 r2 x3 x4 R) R)) : mE X (d + 1) 235 1 188 [some (.ref r0), some (.ref 3), some (.ref r2), some (.int (Int32.ofInt x3)), some (.int (Int32.ofInt x4)), some (.int (Int32.ofInt x5))] [] M (fun v M2 => R (v, M2)) := by
  obtain ⟨g1, w⟩ := w.ogd
  refine mE_iinc (ls2 := [some (.ref r0), some (.ref 3), some (.ref r2), some (.int (Int32.ofInt x3)), some (.int (Int32.ofInt x4)), some (.int (Int32.ofInt (x5 + 1)))]) c235_188 rfl (Nat.le_of_ble_eq_true rfl) rfl ?_
  refine mE_goto (t := 127) c235_191 rfl ?_
  exact w.osome g1
noncomputable def lb235_127 (r0 : Nat) (r2 : Nat) (x3 : Int) (x4 : Int) (x5 : Int) (M : Mm) : Option ((Int × Mm) ⊕ (Int × Mm)) :=
  if x5 < (M 3 1) then
  (gd (0 ≤ x5 ∧ x5 < 14) (
  if (M (r2 + 2) (x5).toNat) = 0 then
  (gd (0 ≤ (M 14 (x5).toNat) ∧ (M 14 (x5).toNat) < 8) (
  if (M (r0 + 2) ((M 14 (x5).toNat)).toNat) = x3 then
  ((f237 r0 (M 14 (x5).toNat) (M 15 (x5).toNat) (M 16 (x5).toNat) x3 M).bind fun M14 =>
  f235_188 r0 r2 x3 x4 x5 M14)
  else
  (f235_188 r0 r2 x3 x4 x5 M)))
  else
  (f235_188 r0 r2 x3 x4 x5 M)))
  else
  (oinr (some (x4, M)))
noncomputable def f235_127 (r0 : Nat) (r2 : Nat) (x3 : Int) (x4 : Int) (x5 : Int) (M : Mm) : Option (Int × Mm) := lp (fun s : Int × Mm => lb235_127 r0 r2 x3 x4 s.1 s.2) (x5, M)
theorem tb235_127 {X : Nat × Nat × qC} {d : Nat} {r0 : Nat} {r2 : Nat} {x3 : Int} {x4 : Int} {x5 : Int} {M : Mm}  {R : Int × Mm → Prop} (hr0 : isSg r0) (hr2 : isSt X.1 r2) (hx3 : R4 x3) (hx4 : R4 x4) (hx5 : R4 x5) (w : Wp (lb235_127 r0 r2 x3 x4 x5 M) (Sum.elim (E235_127 X d r0 r2 x3 x4 R) R)) : mE X (d + 1) 235 1 127 [some (.ref r0), some (.ref 3), some (.ref r2), some (.int (Int32.ofInt x3)), some (.int (Int32.ofInt x4)), some (.int (Int32.ofInt x5))] [] M (fun v M2 => R (v, M2)) := by
  refine mE_iload c235_127 rfl ?_
  refine mE_aload_n c235_129 rfl ?_
  refine mE_getI c235_130 qo235 qF7_118 (ok_lit rfl rfl rfl) rfl ?_
  intro u1
  by_cases e2 : x5 < (M 3 1)
  · have w := w.pos e2
    refine mE_icmp_ge_F (t := 194) c235_133 rfl hx5 u1 e2 ?_
    refine mE_aload_n c235_136 rfl ?_
    refine mE_getA c235_137 qo235 qF7_121 (ok_st0 hr2) rfl (nz_st hr2 _) ?_
    refine mE_iload c235_140 rfl ?_
    obtain ⟨g3, w⟩ := w.ogd
    refine mE_iaload c235_142 (ok_st2 hr2) hx5 g3 ?_
    intro u4
    by_cases e5 : (M (r2 + 2) (x5).toNat) = 0
    · have w := w.pos e5
      refine mE_if_ne_F (t := 188) c235_143 rfl u4 e5 ?_
      refine mE_aload_n c235_146 rfl ?_
      refine mE_getA c235_147 qo235 qF7_15 (ok_sg0 hr0) rfl (nz_sg hr0 _) ?_
      refine mE_aload_n c235_150 rfl ?_
      refine mE_getA c235_151 qo235 qF7_124 (ok_lit rfl rfl rfl) rfl ⟨by decide, by decide⟩ ?_
      refine mE_iload c235_154 rfl ?_
      refine mE_iaload c235_156 (ok_lit rfl rfl rfl) hx5 g3 ?_
      intro u6
      obtain ⟨g7, w⟩ := w.ogd
      refine mE_iaload c235_157 (ok_sg2 hr0) u6 g7 ?_
      intro u8
      refine mE_iload_n c235_158 rfl ?_
      by_cases e9 : (M (r0 + 2) ((M 14 (x5).toNat)).toNat) = x3
      · have w := w.pos e9
        refine mE_icmp_ne_F (t := 188) c235_159 rfl u8 hx3 e9 ?_
        refine mE_aload_n c235_162 rfl ?_
        refine mE_aload_n c235_163 rfl ?_
        refine mE_getA c235_164 qo235 qF7_124 (ok_lit rfl rfl rfl) rfl ⟨by decide, by decide⟩ ?_
        refine mE_iload c235_167 rfl ?_
        refine mE_iaload c235_169 (ok_lit rfl rfl rfl) hx5 g3 ?_
        intro u10
        refine mE_aload_n c235_170 rfl ?_
        refine mE_getA c235_171 qo235 qF7_130 (ok_lit rfl rfl rfl) rfl ⟨by decide, by decide⟩ ?_
        refine mE_iload c235_174 rfl ?_
        refine mE_iaload c235_176 (ok_lit rfl rfl rfl) hx5 g3 ?_
        intro u11
        refine mE_aload_n c235_177 rfl ?_
        refine mE_getA c235_178 qo235 qF7_127 (ok_lit rfl rfl rfl) rfl ⟨by decide, by decide⟩ ?_
        refine mE_iload c235_181 rfl ?_
        refine mE_iaload c235_183 (ok_lit rfl rfl rfl) hx5 g3 ?_
        intro u12
        refine mE_iload_n c235_184 rfl ?_
        refine mE_virtual0 (b := r0) (as := [.int (Int32.ofInt (M 14 (x5).toNat)), .int (Int32.ofInt (M 15 (x5).toNat)), .int (Int32.ofInt (M 16 (x5).toNat)), .int (Int32.ofInt x3)]) (r := []) c235_185 qo235 qK7_142 qo237 rfl rfl rfl (ok_sg0 hr0) (Nat.le_of_ble_eq_true rfl) (s237 (d := d + 0) hr0 u10 u11 u12 hx3 w.obind) ?_
        intro _ M14 w
        exact t235_188 hr0 hr2 hx3 hx4 hx5 w
      · have w := w.neg e9
        refine mE_icmp_ne_T (t := 188) c235_159 rfl u8 hx3 e9 ?_
        exact t235_188 hr0 hr2 hx3 hx4 hx5 w
    · have w := w.neg e5
      refine mE_if_ne_T (t := 188) c235_143 rfl u4 e5 ?_
      exact t235_188 hr0 hr2 hx3 hx4 hx5 w
  · have w := w.neg e2
    refine mE_icmp_ge_T (t := 194) c235_133 rfl hx5 u1 e2 ?_
    have w := w.oinr
    refine mE_iload c235_194 rfl ?_
    exact mE_iret c235_196 qr235 hx4 w.osome
theorem t235_127 {X : Nat × Nat × qC} {d : Nat} {r0 : Nat} {r2 : Nat} {x3 : Int} {x4 : Int} {x5 : Int} {M : Mm}  {R : Int × Mm → Prop} (hr0 : isSg r0) (hr2 : isSt X.1 r2) (hx3 : R4 x3) (hx4 : R4 x4) (hx5 : R4 x5) (w : Wp (f235_127 r0 r2 x3 x4 x5 M) R) : mE X (d + 1) 235 1 127 [some (.ref r0), some (.ref 3), some (.ref r2), some (.int (Int32.ofInt x3)), some (.int (Int32.ofInt x4)), some (.int (Int32.ofInt x5))] [] M (fun v M2 => R (v, M2)) :=
  Wp.olp (f := fun s : Int × Mm => lb235_127 r0 r2 x3 x4 s.1 s.2) (s := (x5, M)) (E := E235_127 X d r0 r2 x3 x4 R) w (fun s w hx5 => tb235_127 hr0 hr2 hx3 hx4 hx5 w) hx5
noncomputable def lb235_53 (r0 : Nat) (r2 : Nat) (x3 : Int) (x4 : Int) (x5 : Int) (M : Mm) : Option ((Int × Mm) ⊕ (Int × Mm)) :=
  if x5 < (M 3 0) then
  (gd (0 ≤ x5 ∧ x5 < 8) (
  if (M (r0 + 2) (x5).toNat) = x3 then
  (if x5 = x3 then
  (f235_118 r0 r2 x3 x4 x5 M)
  else
  (gd (0 ≤ (M (r0 + 7) (x5).toNat) ∧ (M (r0 + 7) (x5).toNat) < 8) (
  (f3 (r0 + 10 + ((M (r0 + 7) (x5).toNat)).toNat) 8 0 M).bind fun M10 =>
  gd (0 ≤ (M10 (r0 + 7) (x5).toNat) ∧ (M10 (r0 + 7) (x5).toNat) < 8) (
  gd (0 ≤ x4 ∧ x4 < 8) (
  mlet (ms M10 (r0 + 10 + ((M10 (r0 + 7) (x5).toNat)).toNat) (x4).toNat (M10 (r0 + 6) (x5).toNat)) fun M16 =>
  f235_118 r0 r2 x3 x4 x5 M16)))))
  else
  (f235_118 r0 r2 x3 x4 x5 M)))
  else
  (oinr (f235_127 r0 r2 x3 x4 0 M))
noncomputable def f235_53 (r0 : Nat) (r2 : Nat) (x3 : Int) (x4 : Int) (x5 : Int) (M : Mm) : Option (Int × Mm) := lp (fun s : Int × Mm => lb235_53 r0 r2 x3 x4 s.1 s.2) (x5, M)
theorem tb235_53 {X : Nat × Nat × qC} {d : Nat} {r0 : Nat} {r2 : Nat} {x3 : Int} {x4 : Int} {x5 : Int} {M : Mm}  {R : Int × Mm → Prop} (hr0 : isSg r0) (hr2 : isSt X.1 r2) (hx3 : R4 x3) (hx4 : R4 x4) (hx5 : R4 x5) (w : Wp (lb235_53 r0 r2 x3 x4 x5 M) (Sum.elim (E235_53 X d r0 r2 x3 x4 R) R)) : mE X (d + 1) 235 1 53 [some (.ref r0), some (.ref 3), some (.ref r2), some (.int (Int32.ofInt x3)), some (.int (Int32.ofInt x4)), some (.int (Int32.ofInt x5))] [] M (fun v M2 => R (v, M2)) := by
  refine mE_iload c235_53 rfl ?_
  refine mE_aload_n c235_55 rfl ?_
  refine mE_getI c235_56 qo235 qF7_68 (ok_lit rfl rfl rfl) rfl ?_
  intro u1
  by_cases e2 : x5 < (M 3 0)
  · have w := w.pos e2
    refine mE_icmp_ge_F (t := 124) c235_59 rfl hx5 u1 e2 ?_
    refine mE_aload_n c235_62 rfl ?_
    refine mE_getA c235_63 qo235 qF7_15 (ok_sg0 hr0) rfl (nz_sg hr0 _) ?_
    refine mE_iload c235_66 rfl ?_
    obtain ⟨g3, w⟩ := w.ogd
    refine mE_iaload c235_68 (ok_sg2 hr0) hx5 g3 ?_
    intro u4
    refine mE_iload_n c235_69 rfl ?_
    by_cases e5 : (M (r0 + 2) (x5).toNat) = x3
    · have w := w.pos e5
      refine mE_icmp_ne_F (t := 118) c235_70 rfl u4 hx3 e5 ?_
      refine mE_iload c235_73 rfl ?_
      refine mE_iload_n c235_75 rfl ?_
      by_cases e6 : x5 = x3
      · have w := w.pos e6
        refine mE_icmp_eq_T (t := 118) c235_76 rfl hx5 hx3 e6 ?_
        exact t235_118 hr0 hr2 hx3 hx4 hx5 w
      · have w := w.neg e6
        refine mE_icmp_eq_F (t := 118) c235_76 rfl hx5 hx3 e6 ?_
        refine mE_aload_n c235_79 rfl ?_
        refine mE_getA c235_80 qo235 qF7_39 (ok_sg0 hr0) rfl (nz_sg hr0 _) ?_
        refine mE_aload_n c235_83 rfl ?_
        refine mE_getA c235_84 qo235 qF7_31 (ok_sg0 hr0) rfl (nz_sg hr0 _) ?_
        refine mE_iload c235_87 rfl ?_
        refine mE_iaload c235_89 (ok_sg7 hr0) hx5 g3 ?_
        intro u7
        obtain ⟨g8, w⟩ := w.ogd
        refine mE_aaload3 c235_90 (ok_sg9 hr0) (Or.inr (Or.inr rfl)) u7 g8 ?_
        refine mE_lconst (x := 0) c235_91 rfl ?_
        refine mE_static0 (as := [.ref (r0 + 10 + ((M (r0 + 7) (x5).toNat)).toNat), .long (Int64.ofInt 0)]) (r := []) c235_92 qo235 (by decide) qK7_56 rfl rfl rfl (Nat.le_of_ble_eq_true rfl) (s3 (d := d + 0) (ok_sgr hr0 g8) (r8_n rfl) w.obind) ?_
        intro _ M10 w
        refine mE_aload_n c235_95 rfl ?_
        refine mE_getA c235_96 qo235 qF7_39 (ok_sg0 hr0) rfl (nz_sg hr0 _) ?_
        refine mE_aload_n c235_99 rfl ?_
        refine mE_getA c235_100 qo235 qF7_31 (ok_sg0 hr0) rfl (nz_sg hr0 _) ?_
        refine mE_iload c235_103 rfl ?_
        refine mE_iaload c235_105 (ok_sg7 hr0) hx5 g3 ?_
        intro u12
        obtain ⟨g13, w⟩ := w.ogd
        refine mE_aaload3 c235_106 (ok_sg9 hr0) (Or.inr (Or.inr rfl)) u12 g13 ?_
        refine mE_iload c235_107 rfl ?_
        refine mE_aload_n c235_109 rfl ?_
        refine mE_getA c235_110 qo235 qF7_28 (ok_sg0 hr0) rfl (nz_sg hr0 _) ?_
        refine mE_iload c235_113 rfl ?_
        refine mE_iaload c235_115 (ok_sg6 hr0) hx5 g3 ?_
        intro u14
        refine mE_i2l c235_116 u14 ?_
        obtain ⟨g15, w⟩ := w.ogd
        obtain ⟨M16, m17, w⟩ := w.mlet
        refine mE_lastore c235_117 (ok_sgr hr0 g13) hx4 g15 (R4.to8 u14) ?_
        refine mE_M m17 ?_
        exact t235_118 hr0 hr2 hx3 hx4 hx5 w
    · have w := w.neg e5
      refine mE_icmp_ne_T (t := 118) c235_70 rfl u4 hx3 e5 ?_
      exact t235_118 hr0 hr2 hx3 hx4 hx5 w
  · have w := w.neg e2
    refine mE_icmp_ge_T (t := 124) c235_59 rfl hx5 u1 e2 ?_
    have w := w.oinr
    refine mE_iconst c235_124 ?_
    refine mE_istore (ls2 := [some (.ref r0), some (.ref 3), some (.ref r2), some (.int (Int32.ofInt x3)), some (.int (Int32.ofInt x4)), some (.int (Int32.ofInt 0))]) c235_125 (Nat.le_of_ble_eq_true rfl) rfl ?_
    exact t235_127 hr0 hr2 hx3 hx4 (r4_n rfl) w
theorem t235_53 {X : Nat × Nat × qC} {d : Nat} {r0 : Nat} {r2 : Nat} {x3 : Int} {x4 : Int} {x5 : Int} {M : Mm}  {R : Int × Mm → Prop} (hr0 : isSg r0) (hr2 : isSt X.1 r2) (hx3 : R4 x3) (hx4 : R4 x4) (hx5 : R4 x5) (w : Wp (f235_53 r0 r2 x3 x4 x5 M) R) : mE X (d + 1) 235 1 53 [some (.ref r0), some (.ref 3), some (.ref r2), some (.int (Int32.ofInt x3)), some (.int (Int32.ofInt x4)), some (.int (Int32.ofInt x5))] [] M (fun v M2 => R (v, M2)) :=
  Wp.olp (f := fun s : Int × Mm => lb235_53 r0 r2 x3 x4 s.1 s.2) (s := (x5, M)) (E := E235_53 X d r0 r2 x3 x4 R) w (fun s w hx5 => tb235_53 hr0 hr2 hx3 hx4 hx5 w) hx5
noncomputable def lb235_6 (r0 : Nat) (r2 : Nat) (x3 : Int) (x4 : Int) (x5 : Int) (M : Mm) : Option ((Int × Int × Mm) ⊕ (Int × Mm)) :=
  if x5 < (M 3 0) then
  (gd (0 ≤ x5 ∧ x5 < 8) (
  if (M (r0 + 2) (x5).toNat) = x3 then
  (if x5 = x3 then
  (f235_44 r0 r2 x3 x4 x5 M)
  else
  (mlet (ms M (r0 + 7) (x5).toNat x4) fun M7 =>
  gd (R4 (x4 + 1)) (
  f235_44 r0 r2 x3 (x4 + 1) x5 M7)))
  else
  (f235_44 r0 r2 x3 x4 x5 M)))
  else
  (oinr (f235_53 r0 r2 x3 x4 0 M))
noncomputable def f235_6 (r0 : Nat) (r2 : Nat) (x3 : Int) (x4 : Int) (x5 : Int) (M : Mm) : Option (Int × Mm) := lp (fun s : Int × Int × Mm => lb235_6 r0 r2 x3 s.1 s.2.1 s.2.2) (x4, x5, M)
theorem tb235_6 {X : Nat × Nat × qC} {d : Nat} {r0 : Nat} {r2 : Nat} {x3 : Int} {x4 : Int} {x5 : Int} {M : Mm}  {R : Int × Mm → Prop} (hr0 : isSg r0) (hr2 : isSt X.1 r2) (hx3 : R4 x3) (hx4 : R4 x4) (hx5 : R4 x5) (w : Wp (lb235_6 r0 r2 x3 x4 x5 M) (Sum.elim (E235_6 X d r0 r2 x3 R) R)) : mE X (d + 1) 235 1 6 [some (.ref r0), some (.ref 3), some (.ref r2), some (.int (Int32.ofInt x3)), some (.int (Int32.ofInt x4)), some (.int (Int32.ofInt x5))] [] M (fun v M2 => R (v, M2)) := by
  refine mE_iload c235_6 rfl ?_
  refine mE_aload_n c235_8 rfl ?_
  refine mE_getI c235_9 qo235 qF7_68 (ok_lit rfl rfl rfl) rfl ?_
  intro u1
  by_cases e2 : x5 < (M 3 0)
  · have w := w.pos e2
    refine mE_icmp_ge_F (t := 50) c235_12 rfl hx5 u1 e2 ?_
    refine mE_aload_n c235_15 rfl ?_
    refine mE_getA c235_16 qo235 qF7_15 (ok_sg0 hr0) rfl (nz_sg hr0 _) ?_
    refine mE_iload c235_19 rfl ?_
    obtain ⟨g3, w⟩ := w.ogd
    refine mE_iaload c235_21 (ok_sg2 hr0) hx5 g3 ?_
    intro u4
    refine mE_iload_n c235_22 rfl ?_
    by_cases e5 : (M (r0 + 2) (x5).toNat) = x3
    · have w := w.pos e5
      refine mE_icmp_ne_F (t := 44) c235_23 rfl u4 hx3 e5 ?_
      refine mE_iload c235_26 rfl ?_
      refine mE_iload_n c235_28 rfl ?_
      by_cases e6 : x5 = x3
      · have w := w.pos e6
        refine mE_icmp_eq_T (t := 44) c235_29 rfl hx5 hx3 e6 ?_
        exact t235_44 hr0 hr2 hx3 hx4 hx5 w
      · have w := w.neg e6
        refine mE_icmp_eq_F (t := 44) c235_29 rfl hx5 hx3 e6 ?_
        refine mE_aload_n c235_32 rfl ?_
        refine mE_getA c235_33 qo235 qF7_31 (ok_sg0 hr0) rfl (nz_sg hr0 _) ?_
        refine mE_iload c235_36 rfl ?_
        refine mE_iload c235_38 rfl ?_
        obtain ⟨M7, m8, w⟩ := w.mlet
        refine mE_iastore c235_40 (ok_sg7 hr0) hx5 g3 hx4 ?_
        refine mE_M m8 ?_
        obtain ⟨g9, w⟩ := w.ogd
        refine mE_iinc (ls2 := [some (.ref r0), some (.ref 3), some (.ref r2), some (.int (Int32.ofInt x3)), some (.int (Int32.ofInt (x4 + 1))), some (.int (Int32.ofInt x5))]) c235_41 rfl (Nat.le_of_ble_eq_true rfl) rfl ?_
        exact t235_44 hr0 hr2 hx3 g9 hx5 w
    · have w := w.neg e5
      refine mE_icmp_ne_T (t := 44) c235_23 rfl u4 hx3 e5 ?_
      exact t235_44 hr0 hr2 hx3 hx4 hx5 w
  · have w := w.neg e2
    refine mE_icmp_ge_T (t := 50) c235_12 rfl hx5 u1 e2 ?_
    have w := w.oinr
    refine mE_iconst c235_50 ?_
    refine mE_istore (ls2 := [some (.ref r0), some (.ref 3), some (.ref r2), some (.int (Int32.ofInt x3)), some (.int (Int32.ofInt x4)), some (.int (Int32.ofInt 0))]) c235_51 (Nat.le_of_ble_eq_true rfl) rfl ?_
    exact t235_53 hr0 hr2 hx3 hx4 (r4_n rfl) w
theorem t235_6 {X : Nat × Nat × qC} {d : Nat} {r0 : Nat} {r2 : Nat} {x3 : Int} {x4 : Int} {x5 : Int} {M : Mm}  {R : Int × Mm → Prop} (hr0 : isSg r0) (hr2 : isSt X.1 r2) (hx3 : R4 x3) (hx4 : R4 x4) (hx5 : R4 x5) (w : Wp (f235_6 r0 r2 x3 x4 x5 M) R) : mE X (d + 1) 235 1 6 [some (.ref r0), some (.ref 3), some (.ref r2), some (.int (Int32.ofInt x3)), some (.int (Int32.ofInt x4)), some (.int (Int32.ofInt x5))] [] M (fun v M2 => R (v, M2)) :=
  Wp.olp (f := fun s : Int × Int × Mm => lb235_6 r0 r2 x3 s.1 s.2.1 s.2.2) (s := (x4, x5, M)) (E := E235_6 X d r0 r2 x3 R) w (fun s w hx4 hx5 => tb235_6 hr0 hr2 hx3 hx4 hx5 w) hx4 hx5
noncomputable def f235 (r0 : Nat) (r2 : Nat) (x3 : Int) (M : Mm) : Option (Int × Mm) :=
  f235_6 r0 r2 x3 0 0 M
theorem t235 {X : Nat × Nat × qC} {d : Nat} {r0 : Nat} {r2 : Nat} {x3 : Int} {M : Mm}  {R : Int × Mm → Prop} (hr0 : isSg r0) (hr2 : isSt X.1 r2) (hx3 : R4 x3) (w : Wp (f235 r0 r2 x3 M) R) : mE X (d + 1) 235 1 0 [some (.ref r0), some (.ref 3), some (.ref r2), some (.int (Int32.ofInt x3)), none, none] [] M (fun v M2 => R (v, M2)) := by
  refine mE_iconst c235_0 ?_
  refine mE_istore (ls2 := [some (.ref r0), some (.ref 3), some (.ref r2), some (.int (Int32.ofInt x3)), some (.int (Int32.ofInt 0)), none]) c235_1 (Nat.le_of_ble_eq_true rfl) rfl ?_
  refine mE_iconst c235_3 ?_
  refine mE_istore (ls2 := [some (.ref r0), some (.ref 3), some (.ref r2), some (.int (Int32.ofInt x3)), some (.int (Int32.ofInt 0)), some (.int (Int32.ofInt 0))]) c235_4 (Nat.le_of_ble_eq_true rfl) rfl ?_
  exact t235_6 hr0 hr2 hx3 (r4_n rfl) (r4_n rfl) w
theorem s235 {X : Nat × Nat × qC} {d : Nat} {r0 : Nat} {r2 : Nat} {x3 : Int} {M : Mm} {R : Int × Mm → Prop} (hr0 : isSg r0) (hr2 : isSt X.1 r2) (hx3 : R4 x3) (w : Wp (f235 r0 r2 x3 M) R) : mC X (d + 2) 235 1 [.ref r0, .ref 3, .ref r2, .int (Int32.ofInt x3)] M (fun v M2 => R (v, M2)) :=
  mC_of (qent_mk qx235 rfl rfl rfl) (t235 hr0 hr2 hx3 w)
/-! SaggingNet$Standing.eliminate -/
def E234_65 (X : Nat × Nat × qC) (d : Nat) (r0 : Nat) (x1 : Int) (l2 : Int) (x4 : Int) (l5 : Int) (x7 : Int) (l8 : Int) (R : Int × Mm → Prop) : Int × Mm → Prop := fun s => R4 s.1 → mE X (d + 0) 234 2 65 [some (.ref r0), some (.int (Int32.ofInt x1)), some (.long (Int64.ofInt l2)), none, some (.int (Int32.ofInt x4)), some (.long (Int64.ofInt l5)), none, some (.int (Int32.ofInt x7)), some (.long (Int64.ofInt l8)), none, some (.int (Int32.ofInt s.1))] [] s.2 (fun v M2 => R (v, M2))
def E234_41 (X : Nat × Nat × qC) (d : Nat) (r0 : Nat) (x1 : Int) (l2 : Int) (x4 : Int) (l5 : Int) (R : Int × Mm → Prop) : Int × Mm → Prop := fun s => R4 s.1 → ∀ (o8 : Option Value), ∀ (o10 : Option Value), mE X (d + 0) 234 2 41 [some (.ref r0), some (.int (Int32.ofInt x1)), some (.long (Int64.ofInt l2)), none, some (.int (Int32.ofInt x4)), some (.long (Int64.ofInt l5)), none, some (.int (Int32.ofInt s.1)), o8, none, o10] [] s.2 (fun v M2 => R (v, M2))
def E234_5 (X : Nat × Nat × qC) (d : Nat) (r0 : Nat) (x1 : Int) (R : Int × Mm → Prop) : Int × Int × Mm → Prop := fun s => R8 s.1 → R4 s.2.1 → ∀ (o5 : Option Value), ∀ (o7 : Option Value), ∀ (o8 : Option Value), ∀ (o10 : Option Value), mE X (d + 0) 234 2 5 [some (.ref r0), some (.int (Int32.ofInt x1)), some (.long (Int64.ofInt s.1)), none, some (.int (Int32.ofInt s.2.1)), o5, none, o7, o8, none, o10] [] s.2.2 (fun v M2 => R (v, M2))
noncomputable def f234_123 (r0 : Nat) (x1 : Int) (l2 : Int) (x4 : Int) (l5 : Int) (x7 : Int) (M : Mm) : Option ((Int × Mm) ⊕ ((Int × Int × Mm) ⊕ (Int × Mm))) :=
  gd (R4 (x7 + 1)) (
  some (.inl ((x7 + 1), M)))
theorem t234_123 {X : Nat × Nat × qC} {d : Nat} {r0 : Nat} {x1 : Int} {l2 : Int} {x4 : Int} {l5 : Int} {x7 : Int} {M : Mm} {y8 : Int64} {y10 : Int32} {R : Int × Mm → Prop} (hr0 : isSg r0) (hx1 : R4 x1) (hl2 : R8 l2) (hx4 : R4 x4) (hl5 : R8 l5) (hx7 : R4 x7) (w : Wp (f234_123 r0 x1 l2 x4 l5 x7 M) (Sum.elim (E234_41 X d r0 x1 l2 x4 l5 R) (Sum.elim (E234_5 X d r0 x1 R) R))) : mE X (d + 0) 234 2 123 [some (.ref r0), some (.int (Int32.ofInt x1)), some (.long (Int64.ofInt l2)), none, some (.int (Int32.ofInt x4)), some (.long (Int64.ofInt l5)), none, some (.int (Int32.ofInt x7)), some (.long y8), none, some (.int y10)] [] M (fun v M2 => R (v, M2)) := by
  obtain ⟨g1, w⟩ := w.ogd
  refine mE_iinc (ls2 := [some (.ref r0), some (.int (Int32.ofInt x1)), some (.long (Int64.ofInt l2)), none, some (.int (Int32.ofInt x4)), some (.long (Int64.ofInt l5)), none, some (.int (Int32.ofInt (x7 + 1))), some (.long y8), none, some (.int y10)]) c234_123 rfl (Nat.le_of_ble_eq_true rfl) rfl ?_
  refine mE_goto (t := 41) c234_126 rfl ?_
  exact w.osome g1 _ _
noncomputable def lb234_65 (r0 : Nat) (x1 : Int) (l2 : Int) (x4 : Int) (l5 : Int) (x7 : Int) (l8 : Int) (x10 : Int) (M : Mm) : Option ((Int × Mm) ⊕ ((Int × Mm) ⊕ ((Int × Int × Mm) ⊕ (Int × Mm)))) :=
  if x1 < x10 then
  (oinr (f234_123 r0 x1 l2 x4 l5 x7 M))
  else
  (if x7 = x4 then
  (oinr (f234_123 r0 x1 l2 x4 l5 x7 M))
  else
  (gd (0 ≤ x7 ∧ x7 < 8) (
  gd (0 ≤ x10 ∧ x10 < 8) (
  gd (R8 (l5 * (M (r0 + 10 + (x7).toNat) (x10).toNat))) (
  gd (0 ≤ x4 ∧ x4 < 8) (
  gd (R8 (l8 * (M (r0 + 10 + (x4).toNat) (x10).toNat))) (
  gd (R8 ((l5 * (M (r0 + 10 + (x7).toNat) (x10).toNat)) - (l8 * (M (r0 + 10 + (x4).toNat) (x10).toNat)))) (
  gd (¬ l2 = 0) (
  gd (R8 (Int.tdiv ((l5 * (M (r0 + 10 + (x7).toNat) (x10).toNat)) - (l8 * (M (r0 + 10 + (x4).toNat) (x10).toNat))) l2)) (
  mlet (ms M (r0 + 10 + (x7).toNat) (x10).toNat (Int.tdiv ((l5 * (M (r0 + 10 + (x7).toNat) (x10).toNat)) - (l8 * (M (r0 + 10 + (x4).toNat) (x10).toNat))) l2)) fun M13 =>
  gd (R4 (x10 + 1)) (
  some (.inl ((x10 + 1), M13)))))))))))))
noncomputable def f234_65 (r0 : Nat) (x1 : Int) (l2 : Int) (x4 : Int) (l5 : Int) (x7 : Int) (l8 : Int) (x10 : Int) (M : Mm) : Option ((Int × Mm) ⊕ ((Int × Int × Mm) ⊕ (Int × Mm))) := lp (fun s : Int × Mm => lb234_65 r0 x1 l2 x4 l5 x7 l8 s.1 s.2) (x10, M)
theorem tb234_65 {X : Nat × Nat × qC} {d : Nat} {r0 : Nat} {x1 : Int} {l2 : Int} {x4 : Int} {l5 : Int} {x7 : Int} {l8 : Int} {x10 : Int} {M : Mm}  {R : Int × Mm → Prop} (hr0 : isSg r0) (hx1 : R4 x1) (hl2 : R8 l2) (hx4 : R4 x4) (hl5 : R8 l5) (hx7 : R4 x7) (hl8 : R8 l8) (hx10 : R4 x10) (w : Wp (lb234_65 r0 x1 l2 x4 l5 x7 l8 x10 M) (Sum.elim (E234_65 X d r0 x1 l2 x4 l5 x7 l8 R) (Sum.elim (E234_41 X d r0 x1 l2 x4 l5 R) (Sum.elim (E234_5 X d r0 x1 R) R)))) : mE X (d + 0) 234 2 65 [some (.ref r0), some (.int (Int32.ofInt x1)), some (.long (Int64.ofInt l2)), none, some (.int (Int32.ofInt x4)), some (.long (Int64.ofInt l5)), none, some (.int (Int32.ofInt x7)), some (.long (Int64.ofInt l8)), none, some (.int (Int32.ofInt x10))] [] M (fun v M2 => R (v, M2)) := by
  refine mE_iload c234_65 rfl ?_
  refine mE_iload_n c234_67 rfl ?_
  by_cases e1 : x1 < x10
  · have w := w.pos e1
    refine mE_icmp_gt_T (t := 123) c234_68 rfl hx10 hx1 e1 ?_
    have w := w.oinr
    exact t234_123 hr0 hx1 hl2 hx4 hl5 hx7 w
  · have w := w.neg e1
    refine mE_icmp_gt_F (t := 123) c234_68 rfl hx10 hx1 e1 ?_
    refine mE_iload c234_71 rfl ?_
    refine mE_iload c234_73 rfl ?_
    by_cases e2 : x7 = x4
    · have w := w.pos e2
      refine mE_icmp_eq_T (t := 123) c234_75 rfl hx7 hx4 e2 ?_
      have w := w.oinr
      exact t234_123 hr0 hx1 hl2 hx4 hl5 hx7 w
    · have w := w.neg e2
      refine mE_icmp_eq_F (t := 123) c234_75 rfl hx7 hx4 e2 ?_
      refine mE_aload_n c234_78 rfl ?_
      refine mE_getA c234_79 qo234 qF7_39 (ok_sg0 hr0) rfl (nz_sg hr0 _) ?_
      refine mE_iload c234_82 rfl ?_
      obtain ⟨g3, w⟩ := w.ogd
      refine mE_aaload3 c234_84 (ok_sg9 hr0) (Or.inr (Or.inr rfl)) hx7 g3 ?_
      refine mE_iload c234_85 rfl ?_
      refine mE_lload c234_87 rfl ?_
      refine mE_aload_n c234_89 rfl ?_
      refine mE_getA c234_90 qo234 qF7_39 (ok_sg0 hr0) rfl (nz_sg hr0 _) ?_
      refine mE_iload c234_93 rfl ?_
      refine mE_aaload3 c234_95 (ok_sg9 hr0) (Or.inr (Or.inr rfl)) hx7 g3 ?_
      refine mE_iload c234_96 rfl ?_
      obtain ⟨g4, w⟩ := w.ogd
      refine mE_laload c234_98 (ok_sgr hr0 g3) hx10 g4 ?_
      intro u5
      obtain ⟨g6, w⟩ := w.ogd
      refine mE_lmul c234_99 ?_
      refine mE_lload c234_100 rfl ?_
      refine mE_aload_n c234_102 rfl ?_
      refine mE_getA c234_103 qo234 qF7_39 (ok_sg0 hr0) rfl (nz_sg hr0 _) ?_
      refine mE_iload c234_106 rfl ?_
      obtain ⟨g7, w⟩ := w.ogd
      refine mE_aaload3 c234_108 (ok_sg9 hr0) (Or.inr (Or.inr rfl)) hx4 g7 ?_
      refine mE_iload c234_109 rfl ?_
      refine mE_laload c234_111 (ok_sgr hr0 g7) hx10 g4 ?_
      intro u8
      obtain ⟨g9, w⟩ := w.ogd
      refine mE_lmul c234_112 ?_
      obtain ⟨g10, w⟩ := w.ogd
      refine mE_lsub c234_113 ?_
      refine mE_lload_n c234_114 rfl ?_
      obtain ⟨g11, w⟩ := w.ogd
      obtain ⟨g12, w⟩ := w.ogd
      refine mE_ldiv c234_115 g10 hl2 g11 ?_
      obtain ⟨M13, m14, w⟩ := w.mlet
      refine mE_lastore c234_116 (ok_sgr hr0 g3) hx10 g4 g12 ?_
      refine mE_M m14 ?_
      obtain ⟨g15, w⟩ := w.ogd
      refine mE_iinc (ls2 := [some (.ref r0), some (.int (Int32.ofInt x1)), some (.long (Int64.ofInt l2)), none, some (.int (Int32.ofInt x4)), some (.long (Int64.ofInt l5)), none, some (.int (Int32.ofInt x7)), some (.long (Int64.ofInt l8)), none, some (.int (Int32.ofInt (x10 + 1)))]) c234_117 rfl (Nat.le_of_ble_eq_true rfl) rfl ?_
      refine mE_goto (t := 65) c234_120 rfl ?_
      exact w.osome g15
theorem t234_65 {X : Nat × Nat × qC} {d : Nat} {r0 : Nat} {x1 : Int} {l2 : Int} {x4 : Int} {l5 : Int} {x7 : Int} {l8 : Int} {x10 : Int} {M : Mm}  {R : Int × Mm → Prop} (hr0 : isSg r0) (hx1 : R4 x1) (hl2 : R8 l2) (hx4 : R4 x4) (hl5 : R8 l5) (hx7 : R4 x7) (hl8 : R8 l8) (hx10 : R4 x10) (w : Wp (f234_65 r0 x1 l2 x4 l5 x7 l8 x10 M) (Sum.elim (E234_41 X d r0 x1 l2 x4 l5 R) (Sum.elim (E234_5 X d r0 x1 R) R))) : mE X (d + 0) 234 2 65 [some (.ref r0), some (.int (Int32.ofInt x1)), some (.long (Int64.ofInt l2)), none, some (.int (Int32.ofInt x4)), some (.long (Int64.ofInt l5)), none, some (.int (Int32.ofInt x7)), some (.long (Int64.ofInt l8)), none, some (.int (Int32.ofInt x10))] [] M (fun v M2 => R (v, M2)) :=
  Wp.olp (f := fun s : Int × Mm => lb234_65 r0 x1 l2 x4 l5 x7 l8 s.1 s.2) (s := (x10, M)) (E := E234_65 X d r0 x1 l2 x4 l5 x7 l8 R) w (fun s w hx10 => tb234_65 hr0 hx1 hl2 hx4 hl5 hx7 hl8 hx10 w) hx10
noncomputable def lb234_41 (r0 : Nat) (x1 : Int) (l2 : Int) (x4 : Int) (l5 : Int) (x7 : Int) (M : Mm) : Option ((Int × Mm) ⊕ ((Int × Int × Mm) ⊕ (Int × Mm))) :=
  if x7 < x1 then
  (gd (0 ≤ x7 ∧ x7 < 8) (
  gd (0 ≤ x4 ∧ x4 < 8) (
  gd (R4 (x4 + 1)) (
  f234_65 r0 x1 l2 x4 l5 x7 (M (r0 + 10 + (x7).toNat) (x4).toNat) (x4 + 1) M))))
  else
  (oinr (gd (R4 (x4 + 1)) (
  some (.inl (l5, (x4 + 1), M)))))
noncomputable def f234_41 (r0 : Nat) (x1 : Int) (l2 : Int) (x4 : Int) (l5 : Int) (x7 : Int) (M : Mm) : Option ((Int × Int × Mm) ⊕ (Int × Mm)) := lp (fun s : Int × Mm => lb234_41 r0 x1 l2 x4 l5 s.1 s.2) (x7, M)
theorem tb234_41 {X : Nat × Nat × qC} {d : Nat} {r0 : Nat} {x1 : Int} {l2 : Int} {x4 : Int} {l5 : Int} {x7 : Int} {M : Mm} {o8 : Option Value} {o10 : Option Value} {R : Int × Mm → Prop} (hr0 : isSg r0) (hx1 : R4 x1) (hl2 : R8 l2) (hx4 : R4 x4) (hl5 : R8 l5) (hx7 : R4 x7) (w : Wp (lb234_41 r0 x1 l2 x4 l5 x7 M) (Sum.elim (E234_41 X d r0 x1 l2 x4 l5 R) (Sum.elim (E234_5 X d r0 x1 R) R))) : mE X (d + 0) 234 2 41 [some (.ref r0), some (.int (Int32.ofInt x1)), some (.long (Int64.ofInt l2)), none, some (.int (Int32.ofInt x4)), some (.long (Int64.ofInt l5)), none, some (.int (Int32.ofInt x7)), o8, none, o10] [] M (fun v M2 => R (v, M2)) := by
  refine mE_iload c234_41 rfl ?_
  refine mE_iload_n c234_43 rfl ?_
  by_cases e1 : x7 < x1
  · have w := w.pos e1
    refine mE_icmp_ge_F (t := 129) c234_44 rfl hx7 hx1 e1 ?_
    refine mE_aload_n c234_47 rfl ?_
    refine mE_getA c234_48 qo234 qF7_39 (ok_sg0 hr0) rfl (nz_sg hr0 _) ?_
    refine mE_iload c234_51 rfl ?_
    obtain ⟨g2, w⟩ := w.ogd
    refine mE_aaload3 c234_53 (ok_sg9 hr0) (Or.inr (Or.inr rfl)) hx7 g2 ?_
    refine mE_iload c234_54 rfl ?_
    obtain ⟨g3, w⟩ := w.ogd
    refine mE_laload c234_56 (ok_sgr hr0 g2) hx4 g3 ?_
    intro u4
    refine mE_lstore (ls2 := [some (.ref r0), some (.int (Int32.ofInt x1)), some (.long (Int64.ofInt l2)), none, some (.int (Int32.ofInt x4)), some (.long (Int64.ofInt l5)), none, some (.int (Int32.ofInt x7)), some (.long (Int64.ofInt (M (r0 + 10 + (x7).toNat) (x4).toNat))), none, o10]) c234_57 (Nat.le_of_ble_eq_true rfl) rfl ?_
    refine mE_iload c234_59 rfl ?_
    refine mE_iconst c234_61 ?_
    obtain ⟨g5, w⟩ := w.ogd
    refine mE_iadd c234_62 ?_
    refine mE_istore (ls2 := [some (.ref r0), some (.int (Int32.ofInt x1)), some (.long (Int64.ofInt l2)), none, some (.int (Int32.ofInt x4)), some (.long (Int64.ofInt l5)), none, some (.int (Int32.ofInt x7)), some (.long (Int64.ofInt (M (r0 + 10 + (x7).toNat) (x4).toNat))), none, some (.int (Int32.ofInt (x4 + 1)))]) c234_63 (Nat.le_of_ble_eq_true rfl) rfl ?_
    exact t234_65 hr0 hx1 hl2 hx4 hl5 hx7 u4 g5 w
  · have w := w.neg e1
    refine mE_icmp_ge_T (t := 129) c234_44 rfl hx7 hx1 e1 ?_
    have w := w.oinr
    refine mE_lload c234_129 rfl ?_
    refine mE_lstore_n (ls2 := [some (.ref r0), some (.int (Int32.ofInt x1)), some (.long (Int64.ofInt l5)), none, some (.int (Int32.ofInt x4)), some (.long (Int64.ofInt l5)), none, some (.int (Int32.ofInt x7)), o8, none, o10]) c234_131 (Nat.le_of_ble_eq_true rfl) rfl ?_
    obtain ⟨g2, w⟩ := w.ogd
    refine mE_iinc (ls2 := [some (.ref r0), some (.int (Int32.ofInt x1)), some (.long (Int64.ofInt l5)), none, some (.int (Int32.ofInt (x4 + 1))), some (.long (Int64.ofInt l5)), none, some (.int (Int32.ofInt x7)), o8, none, o10]) c234_132 rfl (Nat.le_of_ble_eq_true rfl) rfl ?_
    refine mE_goto (t := 5) c234_135 rfl ?_
    exact w.osome hl5 g2 _ _ _ _
theorem t234_41 {X : Nat × Nat × qC} {d : Nat} {r0 : Nat} {x1 : Int} {l2 : Int} {x4 : Int} {l5 : Int} {x7 : Int} {M : Mm} {o8 : Option Value} {o10 : Option Value} {R : Int × Mm → Prop} (hr0 : isSg r0) (hx1 : R4 x1) (hl2 : R8 l2) (hx4 : R4 x4) (hl5 : R8 l5) (hx7 : R4 x7) (w : Wp (f234_41 r0 x1 l2 x4 l5 x7 M) (Sum.elim (E234_5 X d r0 x1 R) R)) : mE X (d + 0) 234 2 41 [some (.ref r0), some (.int (Int32.ofInt x1)), some (.long (Int64.ofInt l2)), none, some (.int (Int32.ofInt x4)), some (.long (Int64.ofInt l5)), none, some (.int (Int32.ofInt x7)), o8, none, o10] [] M (fun v M2 => R (v, M2)) :=
  Wp.olp (f := fun s : Int × Mm => lb234_41 r0 x1 l2 x4 l5 s.1 s.2) (s := (x7, M)) (E := E234_41 X d r0 x1 l2 x4 l5 R) w (fun s w hx7 _ _ => tb234_41 hr0 hx1 hl2 hx4 hl5 hx7 w) hx7 _ _
noncomputable def lb234_5 (r0 : Nat) (x1 : Int) (l2 : Int) (x4 : Int) (M : Mm) : Option ((Int × Int × Mm) ⊕ (Int × Mm)) :=
  if x4 < x1 then
  (gd (0 ≤ x4 ∧ x4 < 8) (
  if (M (r0 + 10 + (x4).toNat) (x4).toNat) = 0 then
  (oinr (some (0, M)))
  else
  (if l2 = 0 then
  (oinr (some (0, M)))
  else
  (f234_41 r0 x1 l2 x4 (M (r0 + 10 + (x4).toNat) (x4).toNat) 0 M))))
  else
  (oinr (some (l2, M)))
noncomputable def f234_5 (r0 : Nat) (x1 : Int) (l2 : Int) (x4 : Int) (M : Mm) : Option (Int × Mm) := lp (fun s : Int × Int × Mm => lb234_5 r0 x1 s.1 s.2.1 s.2.2) (l2, x4, M)
theorem tb234_5 {X : Nat × Nat × qC} {d : Nat} {r0 : Nat} {x1 : Int} {l2 : Int} {x4 : Int} {M : Mm} {o5 : Option Value} {o7 : Option Value} {o8 : Option Value} {o10 : Option Value} {R : Int × Mm → Prop} (hr0 : isSg r0) (hx1 : R4 x1) (hl2 : R8 l2) (hx4 : R4 x4) (w : Wp (lb234_5 r0 x1 l2 x4 M) (Sum.elim (E234_5 X d r0 x1 R) R)) : mE X (d + 0) 234 2 5 [some (.ref r0), some (.int (Int32.ofInt x1)), some (.long (Int64.ofInt l2)), none, some (.int (Int32.ofInt x4)), o5, none, o7, o8, none, o10] [] M (fun v M2 => R (v, M2)) := by
  refine mE_iload c234_5 rfl ?_
  refine mE_iload_n c234_7 rfl ?_
  by_cases e1 : x4 < x1
  · have w := w.pos e1
    refine mE_icmp_ge_F (t := 138) c234_8 rfl hx4 hx1 e1 ?_
    refine mE_aload_n c234_11 rfl ?_
    refine mE_getA c234_12 qo234 qF7_39 (ok_sg0 hr0) rfl (nz_sg hr0 _) ?_
    refine mE_iload c234_15 rfl ?_
    obtain ⟨g2, w⟩ := w.ogd
    refine mE_aaload3 c234_17 (ok_sg9 hr0) (Or.inr (Or.inr rfl)) hx4 g2 ?_
    refine mE_iload c234_18 rfl ?_
    refine mE_laload c234_20 (ok_sgr hr0 g2) hx4 g2 ?_
    intro u3
    refine mE_lstore (ls2 := [some (.ref r0), some (.int (Int32.ofInt x1)), some (.long (Int64.ofInt l2)), none, some (.int (Int32.ofInt x4)), some (.long (Int64.ofInt (M (r0 + 10 + (x4).toNat) (x4).toNat))), none, o7, o8, none, o10]) c234_21 (Nat.le_of_ble_eq_true rfl) rfl ?_
    refine mE_lload c234_23 rfl ?_
    refine mE_lconst (x := 0) c234_25 rfl ?_
    by_cases e4 : (M (r0 + 10 + (x4).toNat) (x4).toNat) = 0
    · have w := w.pos e4
      refine mE_lcmp_eq_T (t := 36) c234_26 c234_27 rfl u3 (r8_n rfl) e4 ?_
      have w := w.oinr
      refine mE_lconst (x := 0) c234_36 rfl ?_
      exact mE_lret c234_37 qr234 (r8_n rfl) w.osome
    · have w := w.neg e4
      refine mE_lcmp_eq_F (t := 36) c234_26 c234_27 rfl u3 (r8_n rfl) e4 ?_
      refine mE_lload_n c234_30 rfl ?_
      refine mE_lconst (x := 0) c234_31 rfl ?_
      by_cases e5 : l2 = 0
      · have w := w.pos e5
        refine mE_lcmp_ne_F (t := 38) c234_32 c234_33 rfl hl2 (r8_n rfl) e5 ?_
        have w := w.oinr
        refine mE_lconst (x := 0) c234_36 rfl ?_
        exact mE_lret c234_37 qr234 (r8_n rfl) w.osome
      · have w := w.neg e5
        refine mE_lcmp_ne_T (t := 38) c234_32 c234_33 rfl hl2 (r8_n rfl) e5 ?_
        refine mE_iconst c234_38 ?_
        refine mE_istore (ls2 := [some (.ref r0), some (.int (Int32.ofInt x1)), some (.long (Int64.ofInt l2)), none, some (.int (Int32.ofInt x4)), some (.long (Int64.ofInt (M (r0 + 10 + (x4).toNat) (x4).toNat))), none, some (.int (Int32.ofInt 0)), o8, none, o10]) c234_39 (Nat.le_of_ble_eq_true rfl) rfl ?_
        exact t234_41 hr0 hx1 hl2 hx4 u3 (r4_n rfl) w
  · have w := w.neg e1
    refine mE_icmp_ge_T (t := 138) c234_8 rfl hx4 hx1 e1 ?_
    have w := w.oinr
    refine mE_lload_n c234_138 rfl ?_
    exact mE_lret c234_139 qr234 hl2 w.osome
theorem t234_5 {X : Nat × Nat × qC} {d : Nat} {r0 : Nat} {x1 : Int} {l2 : Int} {x4 : Int} {M : Mm} {o5 : Option Value} {o7 : Option Value} {o8 : Option Value} {o10 : Option Value} {R : Int × Mm → Prop} (hr0 : isSg r0) (hx1 : R4 x1) (hl2 : R8 l2) (hx4 : R4 x4) (w : Wp (f234_5 r0 x1 l2 x4 M) R) : mE X (d + 0) 234 2 5 [some (.ref r0), some (.int (Int32.ofInt x1)), some (.long (Int64.ofInt l2)), none, some (.int (Int32.ofInt x4)), o5, none, o7, o8, none, o10] [] M (fun v M2 => R (v, M2)) :=
  Wp.olp (f := fun s : Int × Int × Mm => lb234_5 r0 x1 s.1 s.2.1 s.2.2) (s := (l2, x4, M)) (E := E234_5 X d r0 x1 R) w (fun s w hl2 hx4 _ _ _ _ => tb234_5 hr0 hx1 hl2 hx4 w) hl2 hx4 _ _ _ _
noncomputable def f234 (r0 : Nat) (x1 : Int) (M : Mm) : Option (Int × Mm) :=
  f234_5 r0 x1 1 0 M
theorem t234 {X : Nat × Nat × qC} {d : Nat} {r0 : Nat} {x1 : Int} {M : Mm}  {R : Int × Mm → Prop} (hr0 : isSg r0) (hx1 : R4 x1) (w : Wp (f234 r0 x1 M) R) : mE X (d + 0) 234 2 0 [some (.ref r0), some (.int (Int32.ofInt x1)), none, none, none, none, none, none, none, none, none] [] M (fun v M2 => R (v, M2)) := by
  refine mE_lconst (x := 1) c234_0 rfl ?_
  refine mE_lstore_n (ls2 := [some (.ref r0), some (.int (Int32.ofInt x1)), some (.long (Int64.ofInt 1)), none, none, none, none, none, none, none, none]) c234_1 (Nat.le_of_ble_eq_true rfl) rfl ?_
  refine mE_iconst c234_2 ?_
  refine mE_istore (ls2 := [some (.ref r0), some (.int (Int32.ofInt x1)), some (.long (Int64.ofInt 1)), none, some (.int (Int32.ofInt 0)), none, none, none, none, none, none]) c234_3 (Nat.le_of_ble_eq_true rfl) rfl ?_
  exact t234_5 hr0 hx1 (r8_n rfl) (r4_n rfl) w
theorem s234 {X : Nat × Nat × qC} {d : Nat} {r0 : Nat} {x1 : Int} {M : Mm} {R : Int × Mm → Prop} (hr0 : isSg r0) (hx1 : R4 x1) (w : Wp (f234 r0 x1 M) R) : mC X (d + 1) 234 2 [.ref r0, .int (Int32.ofInt x1)] M (fun v M2 => R (v, M2)) :=
  mC_of (qent_mk qx234 rfl rfl rfl) (t234 hr0 hx1 w)
/-! SaggingNet$Standing.spread -/
def E240_89 (X : Nat × Nat × qC) (d : Nat) (r0 : Nat) (r2 : Nat) (x3 : Int) (l5 : Int) (R : Mm → Prop) : Int × Mm → Prop := fun s => R4 s.1 → ∀ (y4 : Int32), ∀ (o8 : Option Value), mE X (d + 2) 240 0 89 [some (.ref r0), some (.ref 3), some (.ref r2), some (.int (Int32.ofInt x3)), some (.int y4), some (.long (Int64.ofInt l5)), none, some (.int (Int32.ofInt s.1)), o8, none] [] s.2 (fun v M2 => R M2)
def E240_28 (X : Nat × Nat × qC) (d : Nat) (r0 : Nat) (r2 : Nat) (x3 : Int) (x4 : Int) (l5 : Int) (R : Mm → Prop) : Int × Mm → Prop := fun s => R4 s.1 → mE X (d + 2) 240 0 28 [some (.ref r0), some (.ref 3), some (.ref r2), some (.int (Int32.ofInt x3)), some (.int (Int32.ofInt x4)), some (.long (Int64.ofInt l5)), none, some (.int (Int32.ofInt s.1)), none, none] [] s.2 (fun v M2 => R M2)
noncomputable def f240_210 (r0 : Nat) (r2 : Nat) (x3 : Int) (l5 : Int) (x7 : Int) (M : Mm) : Option ((Int × Mm) ⊕ (Mm)) :=
  gd (R4 (x7 + 1)) (
  some (.inl ((x7 + 1), M)))
theorem t240_210 {X : Nat × Nat × qC} {d : Nat} {r0 : Nat} {r2 : Nat} {x3 : Int} {l5 : Int} {x7 : Int} {M : Mm} {y4 : Int32} {o8 : Option Value} {R : Mm → Prop} (hr0 : isSg r0) (hr2 : isSt X.1 r2) (hx3 : R4 x3) (hl5 : R8 l5) (hx7 : R4 x7) (w : Wp (f240_210 r0 r2 x3 l5 x7 M) (Sum.elim (E240_89 X d r0 r2 x3 l5 R) R)) : mE X (d + 2) 240 0 210 [some (.ref r0), some (.ref 3), some (.ref r2), some (.int (Int32.ofInt x3)), some (.int y4), some (.long (Int64.ofInt l5)), none, some (.int (Int32.ofInt x7)), o8, none] [] M (fun v M2 => R M2) := by
  obtain ⟨g1, w⟩ := w.ogd
  refine mE_iinc (ls2 := [some (.ref r0), some (.ref 3), some (.ref r2), some (.int (Int32.ofInt x3)), some (.int y4), some (.long (Int64.ofInt l5)), none, some (.int (Int32.ofInt (x7 + 1))), o8, none]) c240_210 rfl (Nat.le_of_ble_eq_true rfl) rfl ?_
  refine mE_goto (t := 89) c240_213 rfl ?_
  exact w.osome g1 _ _
noncomputable def lb240_89 (r0 : Nat) (r2 : Nat) (x3 : Int) (l5 : Int) (x7 : Int) (M : Mm) : Option ((Int × Mm) ⊕ (Mm)) :=
  if x7 < (M 3 1) then
  (gd (0 ≤ x7 ∧ x7 < 14) (
  if (M (r2 + 2) (x7).toNat) = 0 then
  (gd (0 ≤ (M 14 (x7).toNat) ∧ (M 14 (x7).toNat) < 8) (
  if (M (r0 + 2) ((M 14 (x7).toNat)).toNat) = x3 then
  (gd (0 ≤ (M 15 (x7).toNat) ∧ (M 15 (x7).toNat) < 8) (
  gd (R8 ((M (r0 + 8) ((M 14 (x7).toNat)).toNat) - (M (r0 + 8) ((M 15 (x7).toNat)).toNat))) (
  gd (R8 ((M 16 (x7).toNat) * ((M (r0 + 8) ((M 14 (x7).toNat)).toNat) - (M (r0 + 8) ((M 15 (x7).toNat)).toNat)))) (
  gd (R8 (((M 16 (x7).toNat) * ((M (r0 + 8) ((M 14 (x7).toNat)).toNat) - (M (r0 + 8) ((M 15 (x7).toNat)).toNat))) * 100)) (
  gd (¬ l5 = 0) (
  gd (R8 (Int.tdiv (((M 16 (x7).toNat) * ((M (r0 + 8) ((M 14 (x7).toNat)).toNat) - (M (r0 + 8) ((M 15 (x7).toNat)).toNat))) * 100) l5)) (
  mlet (ms M (r0 + 5) (x7).toNat (Int.tdiv (((M 16 (x7).toNat) * ((M (r0 + 8) ((M 14 (x7).toNat)).toNat) - (M (r0 + 8) ((M 15 (x7).toNat)).toNat))) * 100) l5)) fun M21 =>
  (f4 ((M 16 (x7).toNat) * ((M (r0 + 8) ((M 14 (x7).toNat)).toNat) - (M (r0 + 8) ((M 15 (x7).toNat)).toNat))) M21).bind fun v24 =>
  gd (R8 ((M21 17 (x7).toNat) * l5)) (
  if ((M21 17 (x7).toNat) * l5) < v24 then
  (gd ((bOr (M21 r0 2) 1) = 0 ∨ (bOr (M21 r0 2) 1) = 1) (
  mlet (ms M21 r0 2 (bOr (M21 r0 2) 1)) fun M31 =>
  f240_210 r0 r2 x3 l5 x7 M31))
  else
  (gd ((bOr (M21 r0 2) 0) = 0 ∨ (bOr (M21 r0 2) 0) = 1) (
  mlet (ms M21 r0 2 (bOr (M21 r0 2) 0)) fun M31 =>
  f240_210 r0 r2 x3 l5 x7 M31))))))))))
  else
  (f240_210 r0 r2 x3 l5 x7 M)))
  else
  (f240_210 r0 r2 x3 l5 x7 M)))
  else
  (oinr (some M))
noncomputable def f240_89 (r0 : Nat) (r2 : Nat) (x3 : Int) (l5 : Int) (x7 : Int) (M : Mm) : Option (Mm) := lp (fun s : Int × Mm => lb240_89 r0 r2 x3 l5 s.1 s.2) (x7, M)
theorem tb240_89 {X : Nat × Nat × qC} {d : Nat} {r0 : Nat} {r2 : Nat} {x3 : Int} {l5 : Int} {x7 : Int} {M : Mm} {y4 : Int32} {o8 : Option Value} {R : Mm → Prop} (hr0 : isSg r0) (hr2 : isSt X.1 r2) (hx3 : R4 x3) (hl5 : R8 l5) (hx7 : R4 x7) (w : Wp (lb240_89 r0 r2 x3 l5 x7 M) (Sum.elim (E240_89 X d r0 r2 x3 l5 R) R)) : mE X (d + 2) 240 0 89 [some (.ref r0), some (.ref 3), some (.ref r2), some (.int (Int32.ofInt x3)), some (.int y4), some (.long (Int64.ofInt l5)), none, some (.int (Int32.ofInt x7)), o8, none] [] M (fun v M2 => R M2) := by
  refine mE_iload c240_89 rfl ?_
  refine mE_aload_n c240_91 rfl ?_
  refine mE_getI c240_92 qo240 qF7_118 (ok_lit rfl rfl rfl) rfl ?_
  intro u1
  by_cases e2 : x7 < (M 3 1)
  · have w := w.pos e2
    refine mE_icmp_ge_F (t := 216) c240_95 rfl hx7 u1 e2 ?_
    refine mE_aload_n c240_98 rfl ?_
    refine mE_getA c240_99 qo240 qF7_121 (ok_st0 hr2) rfl (nz_st hr2 _) ?_
    refine mE_iload c240_102 rfl ?_
    obtain ⟨g3, w⟩ := w.ogd
    refine mE_iaload c240_104 (ok_st2 hr2) hx7 g3 ?_
    intro u4
    by_cases e5 : (M (r2 + 2) (x7).toNat) = 0
    · have w := w.pos e5
      refine mE_if_ne_F (t := 210) c240_105 rfl u4 e5 ?_
      refine mE_aload_n c240_108 rfl ?_
      refine mE_getA c240_109 qo240 qF7_15 (ok_sg0 hr0) rfl (nz_sg hr0 _) ?_
      refine mE_aload_n c240_112 rfl ?_
      refine mE_getA c240_113 qo240 qF7_124 (ok_lit rfl rfl rfl) rfl ⟨by decide, by decide⟩ ?_
      refine mE_iload c240_116 rfl ?_
      refine mE_iaload c240_118 (ok_lit rfl rfl rfl) hx7 g3 ?_
      intro u6
      obtain ⟨g7, w⟩ := w.ogd
      refine mE_iaload c240_119 (ok_sg2 hr0) u6 g7 ?_
      intro u8
      refine mE_iload_n c240_120 rfl ?_
      by_cases e9 : (M (r0 + 2) ((M 14 (x7).toNat)).toNat) = x3
      · have w := w.pos e9
        refine mE_icmp_ne_F (t := 210) c240_121 rfl u8 hx3 e9 ?_
        refine mE_aload_n c240_124 rfl ?_
        refine mE_getA c240_125 qo240 qF7_127 (ok_lit rfl rfl rfl) rfl ⟨by decide, by decide⟩ ?_
        refine mE_iload c240_128 rfl ?_
        refine mE_iaload c240_130 (ok_lit rfl rfl rfl) hx7 g3 ?_
        intro u10
        refine mE_i2l c240_131 u10 ?_
        refine mE_aload_n c240_132 rfl ?_
        refine mE_getA c240_133 qo240 qF7_34 (ok_sg0 hr0) rfl (nz_sg hr0 _) ?_
        refine mE_aload_n c240_136 rfl ?_
        refine mE_getA c240_137 qo240 qF7_124 (ok_lit rfl rfl rfl) rfl ⟨by decide, by decide⟩ ?_
        refine mE_iload c240_140 rfl ?_
        refine mE_iaload c240_142 (ok_lit rfl rfl rfl) hx7 g3 ?_
        intro u11
        refine mE_laload c240_143 (ok_sg8 hr0) u11 g7 ?_
        intro u12
        refine mE_aload_n c240_144 rfl ?_
        refine mE_getA c240_145 qo240 qF7_34 (ok_sg0 hr0) rfl (nz_sg hr0 _) ?_
        refine mE_aload_n c240_148 rfl ?_
        refine mE_getA c240_149 qo240 qF7_130 (ok_lit rfl rfl rfl) rfl ⟨by decide, by decide⟩ ?_
        refine mE_iload c240_152 rfl ?_
        refine mE_iaload c240_154 (ok_lit rfl rfl rfl) hx7 g3 ?_
        intro u13
        obtain ⟨g14, w⟩ := w.ogd
        refine mE_laload c240_155 (ok_sg8 hr0) u13 g14 ?_
        intro u15
        obtain ⟨g16, w⟩ := w.ogd
        refine mE_lsub c240_156 ?_
        obtain ⟨g17, w⟩ := w.ogd
        refine mE_lmul c240_157 ?_
        refine mE_lstore (ls2 := [some (.ref r0), some (.ref 3), some (.ref r2), some (.int (Int32.ofInt x3)), some (.int y4), some (.long (Int64.ofInt l5)), none, some (.int (Int32.ofInt x7)), some (.long (Int64.ofInt ((M 16 (x7).toNat) * ((M (r0 + 8) ((M 14 (x7).toNat)).toNat) - (M (r0 + 8) ((M 15 (x7).toNat)).toNat))))), none]) c240_158 (Nat.le_of_ble_eq_true rfl) rfl ?_
        refine mE_aload_n c240_160 rfl ?_
        refine mE_getA c240_161 qo240 qF7_24 (ok_sg0 hr0) rfl (nz_sg hr0 _) ?_
        refine mE_iload c240_164 rfl ?_
        refine mE_lload c240_166 rfl ?_
        refine mE_ldc2_w (x := 100) c240_168 qo240 qJ7_133 rfl ?_
        obtain ⟨g18, w⟩ := w.ogd
        refine mE_lmul c240_171 ?_
        refine mE_lload c240_172 rfl ?_
        obtain ⟨g19, w⟩ := w.ogd
        obtain ⟨g20, w⟩ := w.ogd
        refine mE_ldiv c240_174 g18 hl5 g19 ?_
        obtain ⟨M21, m22, w⟩ := w.mlet
        refine mE_lastore c240_175 (ok_sg5 hr0) hx7 g3 g20 ?_
        refine mE_M m22 ?_
        refine mE_aload_n c240_176 rfl ?_
        refine mE_dup c240_177 rfl ?_
        refine mE_getI c240_178 qo240 qF7_52 (ok_sg0 hr0) rfl ?_
        intro u23
        refine mE_lload c240_181 rfl ?_
        refine mE_static2 (as := [.long (Int64.ofInt ((M 16 (x7).toNat) * ((M (r0 + 8) ((M 14 (x7).toNat)).toNat) - (M (r0 + 8) ((M 15 (x7).toNat)).toNat))))]) (r := [.int (Int32.ofInt (M21 r0 2)), .ref r0]) c240_183 qo240 (by decide) qK7_135 rfl rfl rfl (Nat.le_of_ble_eq_true rfl) (s4 (d := d + 1) g17 w.obind) ?_
        rintro v24 _ q26 ⟨rfl, w⟩
        refine mE_aload_n c240_186 rfl ?_
        refine mE_getA c240_187 qo240 qF7_139 (ok_lit rfl rfl rfl) rfl ⟨by decide, by decide⟩ ?_
        refine mE_iload c240_190 rfl ?_
        refine mE_iaload c240_192 (ok_lit rfl rfl rfl) hx7 g3 ?_
        intro u27
        refine mE_i2l c240_193 u27 ?_
        refine mE_lload c240_194 rfl ?_
        obtain ⟨g28, w⟩ := w.ogd
        refine mE_lmul c240_196 ?_
        by_cases e29 : ((M21 17 (x7).toNat) * l5) < v24
        · have w := w.pos e29
          refine mE_lcmp_le_F (t := 205) c240_197 c240_198 rfl q26 g28 e29 ?_
          refine mE_iconst c240_201 ?_
          refine mE_goto (t := 206) c240_202 rfl ?_
          refine mE_ior c240_206 ?_
          obtain ⟨g30, w⟩ := w.ogd
          obtain ⟨M31, m32, w⟩ := w.mlet
          refine mE_putI c240_207 qo240 qF7_52 qz7_2 (ok_sg0 hr0) (Nat.le_of_ble_eq_true rfl) rfl (r4_or _ _) (by rw [qy7_2]; exact fit01 g30) ?_
          refine mE_M m32 ?_
          exact t240_210 hr0 hr2 hx3 hl5 hx7 w
        · have w := w.neg e29
          refine mE_lcmp_le_T (t := 205) c240_197 c240_198 rfl q26 g28 e29 ?_
          refine mE_iconst c240_205 ?_
          refine mE_ior c240_206 ?_
          obtain ⟨g30, w⟩ := w.ogd
          obtain ⟨M31, m32, w⟩ := w.mlet
          refine mE_putI c240_207 qo240 qF7_52 qz7_2 (ok_sg0 hr0) (Nat.le_of_ble_eq_true rfl) rfl (r4_or _ _) (by rw [qy7_2]; exact fit01 g30) ?_
          refine mE_M m32 ?_
          exact t240_210 hr0 hr2 hx3 hl5 hx7 w
      · have w := w.neg e9
        refine mE_icmp_ne_T (t := 210) c240_121 rfl u8 hx3 e9 ?_
        exact t240_210 hr0 hr2 hx3 hl5 hx7 w
    · have w := w.neg e5
      refine mE_if_ne_T (t := 210) c240_105 rfl u4 e5 ?_
      exact t240_210 hr0 hr2 hx3 hl5 hx7 w
  · have w := w.neg e2
    refine mE_icmp_ge_T (t := 216) c240_95 rfl hx7 u1 e2 ?_
    have w := w.oinr
    exact mE_vret c240_216 qr240 w.osome
theorem t240_89 {X : Nat × Nat × qC} {d : Nat} {r0 : Nat} {r2 : Nat} {x3 : Int} {l5 : Int} {x7 : Int} {M : Mm} {y4 : Int32} {o8 : Option Value} {R : Mm → Prop} (hr0 : isSg r0) (hr2 : isSt X.1 r2) (hx3 : R4 x3) (hl5 : R8 l5) (hx7 : R4 x7) (w : Wp (f240_89 r0 r2 x3 l5 x7 M) R) : mE X (d + 2) 240 0 89 [some (.ref r0), some (.ref 3), some (.ref r2), some (.int (Int32.ofInt x3)), some (.int y4), some (.long (Int64.ofInt l5)), none, some (.int (Int32.ofInt x7)), o8, none] [] M (fun v M2 => R M2) :=
  Wp.olp (f := fun s : Int × Mm => lb240_89 r0 r2 x3 l5 s.1 s.2) (s := (x7, M)) (E := E240_89 X d r0 r2 x3 l5 R) w (fun s w hx7 _ _ => tb240_89 hr0 hr2 hx3 hl5 hx7 w) hx7 _ _
noncomputable def lb240_28 (r0 : Nat) (r2 : Nat) (x3 : Int) (x4 : Int) (l5 : Int) (x7 : Int) (M : Mm) : Option ((Int × Mm) ⊕ (Mm)) :=
  if x7 < (M 3 0) then
  (if x7 = x3 then
  (gd (0 ≤ x7 ∧ x7 < 8) (
  mlet (ms M (r0 + 8) (x7).toNat 0) fun M5 =>
  gd (R4 (x7 + 1)) (
  some (.inl ((x7 + 1), M5)))))
  else
  (gd (0 ≤ x7 ∧ x7 < 8) (
  if (M (r0 + 2) (x7).toNat) = x3 then
  (gd (0 ≤ (M (r0 + 7) (x7).toNat) ∧ (M (r0 + 7) (x7).toNat) < 8) (
  gd (0 ≤ x4 ∧ x4 < 8) (
  mlet (ms M (r0 + 8) (x7).toNat (M (r0 + 10 + ((M (r0 + 7) (x7).toNat)).toNat) (x4).toNat)) fun M11 =>
  gd (R4 (x7 + 1)) (
  some (.inl ((x7 + 1), M11))))))
  else
  (mlet (ms M (r0 + 8) (x7).toNat 0) fun M7 =>
  gd (R4 (x7 + 1)) (
  some (.inl ((x7 + 1), M7)))))))
  else
  (oinr (f240_89 r0 r2 x3 l5 0 M))
noncomputable def f240_28 (r0 : Nat) (r2 : Nat) (x3 : Int) (x4 : Int) (l5 : Int) (x7 : Int) (M : Mm) : Option (Mm) := lp (fun s : Int × Mm => lb240_28 r0 r2 x3 x4 l5 s.1 s.2) (x7, M)
theorem tb240_28 {X : Nat × Nat × qC} {d : Nat} {r0 : Nat} {r2 : Nat} {x3 : Int} {x4 : Int} {l5 : Int} {x7 : Int} {M : Mm}  {R : Mm → Prop} (hr0 : isSg r0) (hr2 : isSt X.1 r2) (hx3 : R4 x3) (hx4 : R4 x4) (hl5 : R8 l5) (hx7 : R4 x7) (w : Wp (lb240_28 r0 r2 x3 x4 l5 x7 M) (Sum.elim (E240_28 X d r0 r2 x3 x4 l5 R) R)) : mE X (d + 2) 240 0 28 [some (.ref r0), some (.ref 3), some (.ref r2), some (.int (Int32.ofInt x3)), some (.int (Int32.ofInt x4)), some (.long (Int64.ofInt l5)), none, some (.int (Int32.ofInt x7)), none, none] [] M (fun v M2 => R M2) := by
  refine mE_iload c240_28 rfl ?_
  refine mE_aload_n c240_30 rfl ?_
  refine mE_getI c240_31 qo240 qF7_68 (ok_lit rfl rfl rfl) rfl ?_
  intro u1
  by_cases e2 : x7 < (M 3 0)
  · have w := w.pos e2
    refine mE_icmp_ge_F (t := 86) c240_34 rfl hx7 u1 e2 ?_
    refine mE_aload_n c240_37 rfl ?_
    refine mE_getA c240_38 qo240 qF7_34 (ok_sg0 hr0) rfl (nz_sg hr0 _) ?_
    refine mE_iload c240_41 rfl ?_
    refine mE_iload c240_43 rfl ?_
    refine mE_iload_n c240_45 rfl ?_
    by_cases e3 : x7 = x3
    · have w := w.pos e3
      refine mE_icmp_eq_T (t := 60) c240_46 rfl hx7 hx3 e3 ?_
      refine mE_lconst (x := 0) c240_60 rfl ?_
      refine mE_goto (t := 79) c240_61 rfl ?_
      obtain ⟨g4, w⟩ := w.ogd
      obtain ⟨M5, m6, w⟩ := w.mlet
      refine mE_lastore c240_79 (ok_sg8 hr0) hx7 g4 (r8_n rfl) ?_
      refine mE_M m6 ?_
      obtain ⟨g7, w⟩ := w.ogd
      refine mE_iinc (ls2 := [some (.ref r0), some (.ref 3), some (.ref r2), some (.int (Int32.ofInt x3)), some (.int (Int32.ofInt x4)), some (.long (Int64.ofInt l5)), none, some (.int (Int32.ofInt (x7 + 1))), none, none]) c240_80 rfl (Nat.le_of_ble_eq_true rfl) rfl ?_
      refine mE_goto (t := 28) c240_83 rfl ?_
      exact w.osome g7
    · have w := w.neg e3
      refine mE_icmp_eq_F (t := 60) c240_46 rfl hx7 hx3 e3 ?_
      refine mE_aload_n c240_49 rfl ?_
      refine mE_getA c240_50 qo240 qF7_15 (ok_sg0 hr0) rfl (nz_sg hr0 _) ?_
      refine mE_iload c240_53 rfl ?_
      obtain ⟨g4, w⟩ := w.ogd
      refine mE_iaload c240_55 (ok_sg2 hr0) hx7 g4 ?_
      intro u5
      refine mE_iload_n c240_56 rfl ?_
      by_cases e6 : (M (r0 + 2) (x7).toNat) = x3
      · have w := w.pos e6
        refine mE_icmp_eq_T (t := 64) c240_57 rfl u5 hx3 e6 ?_
        refine mE_aload_n c240_64 rfl ?_
        refine mE_getA c240_65 qo240 qF7_39 (ok_sg0 hr0) rfl (nz_sg hr0 _) ?_
        refine mE_aload_n c240_68 rfl ?_
        refine mE_getA c240_69 qo240 qF7_31 (ok_sg0 hr0) rfl (nz_sg hr0 _) ?_
        refine mE_iload c240_72 rfl ?_
        refine mE_iaload c240_74 (ok_sg7 hr0) hx7 g4 ?_
        intro u7
        obtain ⟨g8, w⟩ := w.ogd
        refine mE_aaload3 c240_75 (ok_sg9 hr0) (Or.inr (Or.inr rfl)) u7 g8 ?_
        refine mE_iload c240_76 rfl ?_
        obtain ⟨g9, w⟩ := w.ogd
        refine mE_laload c240_78 (ok_sgr hr0 g8) hx4 g9 ?_
        intro u10
        obtain ⟨M11, m12, w⟩ := w.mlet
        refine mE_lastore c240_79 (ok_sg8 hr0) hx7 g4 u10 ?_
        refine mE_M m12 ?_
        obtain ⟨g13, w⟩ := w.ogd
        refine mE_iinc (ls2 := [some (.ref r0), some (.ref 3), some (.ref r2), some (.int (Int32.ofInt x3)), some (.int (Int32.ofInt x4)), some (.long (Int64.ofInt l5)), none, some (.int (Int32.ofInt (x7 + 1))), none, none]) c240_80 rfl (Nat.le_of_ble_eq_true rfl) rfl ?_
        refine mE_goto (t := 28) c240_83 rfl ?_
        exact w.osome g13
      · have w := w.neg e6
        refine mE_icmp_eq_F (t := 64) c240_57 rfl u5 hx3 e6 ?_
        refine mE_lconst (x := 0) c240_60 rfl ?_
        refine mE_goto (t := 79) c240_61 rfl ?_
        obtain ⟨M7, m8, w⟩ := w.mlet
        refine mE_lastore c240_79 (ok_sg8 hr0) hx7 g4 (r8_n rfl) ?_
        refine mE_M m8 ?_
        obtain ⟨g9, w⟩ := w.ogd
        refine mE_iinc (ls2 := [some (.ref r0), some (.ref 3), some (.ref r2), some (.int (Int32.ofInt x3)), some (.int (Int32.ofInt x4)), some (.long (Int64.ofInt l5)), none, some (.int (Int32.ofInt (x7 + 1))), none, none]) c240_80 rfl (Nat.le_of_ble_eq_true rfl) rfl ?_
        refine mE_goto (t := 28) c240_83 rfl ?_
        exact w.osome g9
  · have w := w.neg e2
    refine mE_icmp_ge_T (t := 86) c240_34 rfl hx7 u1 e2 ?_
    have w := w.oinr
    refine mE_iconst c240_86 ?_
    refine mE_istore (ls2 := [some (.ref r0), some (.ref 3), some (.ref r2), some (.int (Int32.ofInt x3)), some (.int (Int32.ofInt x4)), some (.long (Int64.ofInt l5)), none, some (.int (Int32.ofInt 0)), none, none]) c240_87 (Nat.le_of_ble_eq_true rfl) rfl ?_
    exact t240_89 hr0 hr2 hx3 hl5 (r4_n rfl) w
theorem t240_28 {X : Nat × Nat × qC} {d : Nat} {r0 : Nat} {r2 : Nat} {x3 : Int} {x4 : Int} {l5 : Int} {x7 : Int} {M : Mm}  {R : Mm → Prop} (hr0 : isSg r0) (hr2 : isSt X.1 r2) (hx3 : R4 x3) (hx4 : R4 x4) (hl5 : R8 l5) (hx7 : R4 x7) (w : Wp (f240_28 r0 r2 x3 x4 l5 x7 M) R) : mE X (d + 2) 240 0 28 [some (.ref r0), some (.ref 3), some (.ref r2), some (.int (Int32.ofInt x3)), some (.int (Int32.ofInt x4)), some (.long (Int64.ofInt l5)), none, some (.int (Int32.ofInt x7)), none, none] [] M (fun v M2 => R M2) :=
  Wp.olp (f := fun s : Int × Mm => lb240_28 r0 r2 x3 x4 l5 s.1 s.2) (s := (x7, M)) (E := E240_28 X d r0 r2 x3 x4 l5 R) w (fun s w hx7 => tb240_28 hr0 hr2 hx3 hx4 hl5 hx7 w) hx7
noncomputable def f240 (r0 : Nat) (r2 : Nat) (x3 : Int) (M : Mm) : Option (Mm) :=
  obnd (f235 r0 r2 x3 M) fun v1 M2 =>
  obnd (f234 r0 v1 M2) fun v4 M5 =>
  if v4 = 0 then
  (some M5)
  else
  (f240_28 r0 r2 x3 v1 v4 0 M5)
theorem t240 {X : Nat × Nat × qC} {d : Nat} {r0 : Nat} {r2 : Nat} {x3 : Int} {M : Mm}  {R : Mm → Prop} (hr0 : isSg r0) (hr2 : isSt X.1 r2) (hx3 : R4 x3) (w : Wp (f240 r0 r2 x3 M) R) : mE X (d + 2) 240 0 0 [some (.ref r0), some (.ref 3), some (.ref r2), some (.int (Int32.ofInt x3)), none, none, none, none, none, none] [] M (fun v M2 => R M2) := by
  refine mE_aload_n c240_0 rfl ?_
  refine mE_aload_n c240_1 rfl ?_
  refine mE_aload_n c240_2 rfl ?_
  refine mE_iload_n c240_3 rfl ?_
  refine mE_virtual1 (b := r0) (as := [.ref 3, .ref r2, .int (Int32.ofInt x3)]) (r := []) c240_4 qo240 qK7_110 qo235 rfl rfl rfl (ok_sg0 hr0) (Nat.le_of_ble_eq_true rfl) (s235 (d := d + 0) hr0 hr2 hx3 w.oc) ?_
  intro v1 M2 q3 w
  refine mE_istore (ls2 := [some (.ref r0), some (.ref 3), some (.ref r2), some (.int (Int32.ofInt x3)), some (.int (Int32.ofInt v1)), none, none, none, none, none]) c240_7 (Nat.le_of_ble_eq_true rfl) rfl ?_
  refine mE_aload_n c240_9 rfl ?_
  refine mE_iload c240_10 rfl ?_
  refine mE_virtual2 (b := r0) (as := [.int (Int32.ofInt v1)]) (r := []) c240_12 qo240 qK7_114 qo234 rfl rfl rfl (ok_sg0 hr0) (Nat.le_of_ble_eq_true rfl) (s234 (d := d + 1) hr0 q3 w.oc) ?_
  intro v4 M5 q6 w
  refine mE_lstore (ls2 := [some (.ref r0), some (.ref 3), some (.ref r2), some (.int (Int32.ofInt x3)), some (.int (Int32.ofInt v1)), some (.long (Int64.ofInt v4)), none, none, none, none]) c240_15 (Nat.le_of_ble_eq_true rfl) rfl ?_
  refine mE_lload c240_17 rfl ?_
  refine mE_lconst (x := 0) c240_19 rfl ?_
  by_cases e7 : v4 = 0
  · have w := w.pos e7
    refine mE_lcmp_ne_F (t := 25) c240_20 c240_21 rfl q6 (r8_n rfl) e7 ?_
    exact mE_vret c240_24 qr240 w.osome
  · have w := w.neg e7
    refine mE_lcmp_ne_T (t := 25) c240_20 c240_21 rfl q6 (r8_n rfl) e7 ?_
    refine mE_iconst c240_25 ?_
    refine mE_istore (ls2 := [some (.ref r0), some (.ref 3), some (.ref r2), some (.int (Int32.ofInt x3)), some (.int (Int32.ofInt v1)), some (.long (Int64.ofInt v4)), none, some (.int (Int32.ofInt 0)), none, none]) c240_26 (Nat.le_of_ble_eq_true rfl) rfl ?_
    exact t240_28 hr0 hr2 hx3 q3 q6 (r4_n rfl) w
theorem s240 {X : Nat × Nat × qC} {d : Nat} {r0 : Nat} {r2 : Nat} {x3 : Int} {M : Mm} {R : Mm → Prop} (hr0 : isSg r0) (hr2 : isSt X.1 r2) (hx3 : R4 x3) (w : Wp (f240 r0 r2 x3 M) R) : mC X (d + 3) 240 0 [.ref r0, .ref 3, .ref r2, .int (Int32.ofInt x3)] M (fun v M2 => R M2) :=
  mC_of (qent_mk qx240 rfl rfl rfl) (t240 hr0 hr2 hx3 w)
/-! SaggingNet$Standing.reckon -/
def E238_38 (X : Nat × Nat × qC) (d : Nat) (r0 : Nat) (r2 : Nat) (R : Mm → Prop) : Int × Mm → Prop := fun s => R4 s.1 → mE X (d + 3) 238 0 38 [some (.ref r0), some (.ref 3), some (.ref r2), some (.int (Int32.ofInt s.1))] [] s.2 (fun v M2 => R M2)
noncomputable def f238_70 (r0 : Nat) (r2 : Nat) (x3 : Int) (M : Mm) : Option ((Int × Mm) ⊕ (Mm)) :=
  gd (R4 (x3 + 1)) (
  some (.inl ((x3 + 1), M)))
theorem t238_70 {X : Nat × Nat × qC} {d : Nat} {r0 : Nat} {r2 : Nat} {x3 : Int} {M : Mm}  {R : Mm → Prop} (hr0 : isSg r0) (hr2 : isSt X.1 r2) (hx3 : R4 x3) (w : Wp (f238_70 r0 r2 x3 M) (Sum.elim (E238_38 X d r0 r2 R) R)) : mE X (d + 3) 238 0 70 [some (.ref r0), some (.ref 3), some (.ref r2), some (.int (Int32.ofInt x3))] [] M (fun v M2 => R M2) := by
  obtain ⟨g1, w⟩ := w.ogd
  refine mE_iinc (ls2 := [some (.ref r0), some (.ref 3), some (.ref r2), some (.int (Int32.ofInt (x3 + 1)))]) c238_70 rfl (Nat.le_of_ble_eq_true rfl) rfl ?_
  refine mE_goto (t := 38) c238_73 rfl ?_
  exact w.osome g1
noncomputable def lb238_38 (r0 : Nat) (r2 : Nat) (x3 : Int) (M : Mm) : Option ((Int × Mm) ⊕ (Mm)) :=
  if x3 < (M 3 0) then
  (gd (0 ≤ x3 ∧ x3 < 8) (
  if (M (r0 + 2) (x3).toNat) = x3 then
  ((f239 r0 r2 x3 M).bind fun M7 =>
  (f240 r0 r2 x3 M7).bind fun M10 =>
  f238_70 r0 r2 x3 M10)
  else
  (f238_70 r0 r2 x3 M)))
  else
  (oinr (some M))
noncomputable def f238_38 (r0 : Nat) (r2 : Nat) (x3 : Int) (M : Mm) : Option (Mm) := lp (fun s : Int × Mm => lb238_38 r0 r2 s.1 s.2) (x3, M)
theorem tb238_38 {X : Nat × Nat × qC} {d : Nat} {r0 : Nat} {r2 : Nat} {x3 : Int} {M : Mm}  {R : Mm → Prop} (hr0 : isSg r0) (hr2 : isSt X.1 r2) (hx3 : R4 x3) (w : Wp (lb238_38 r0 r2 x3 M) (Sum.elim (E238_38 X d r0 r2 R) R)) : mE X (d + 3) 238 0 38 [some (.ref r0), some (.ref 3), some (.ref r2), some (.int (Int32.ofInt x3))] [] M (fun v M2 => R M2) := by
  refine mE_iload_n c238_38 rfl ?_
  refine mE_aload_n c238_39 rfl ?_
  refine mE_getI c238_40 qo238 qF7_68 (ok_lit rfl rfl rfl) rfl ?_
  intro u1
  by_cases e2 : x3 < (M 3 0)
  · have w := w.pos e2
    refine mE_icmp_ge_F (t := 76) c238_43 rfl hx3 u1 e2 ?_
    refine mE_aload_n c238_46 rfl ?_
    refine mE_getA c238_47 qo238 qF7_15 (ok_sg0 hr0) rfl (nz_sg hr0 _) ?_
    refine mE_iload_n c238_50 rfl ?_
    obtain ⟨g3, w⟩ := w.ogd
    refine mE_iaload c238_51 (ok_sg2 hr0) hx3 g3 ?_
    intro u4
    refine mE_iload_n c238_52 rfl ?_
    by_cases e5 : (M (r0 + 2) (x3).toNat) = x3
    · have w := w.pos e5
      refine mE_icmp_ne_F (t := 70) c238_53 rfl u4 hx3 e5 ?_
      refine mE_aload_n c238_56 rfl ?_
      refine mE_aload_n c238_57 rfl ?_
      refine mE_aload_n c238_58 rfl ?_
      refine mE_iload_n c238_59 rfl ?_
      refine mE_virtual0 (b := r0) (as := [.ref 3, .ref r2, .int (Int32.ofInt x3)]) (r := []) c238_60 qo238 qK7_71 qo239 rfl rfl rfl (ok_sg0 hr0) (Nat.le_of_ble_eq_true rfl) (s239 (d := d + 0) hr0 hr2 hx3 w.obind) ?_
      intro _ M7 w
      refine mE_aload_n c238_63 rfl ?_
      refine mE_aload_n c238_64 rfl ?_
      refine mE_aload_n c238_65 rfl ?_
      refine mE_iload_n c238_66 rfl ?_
      refine mE_virtual0 (b := r0) (as := [.ref 3, .ref r2, .int (Int32.ofInt x3)]) (r := []) c238_67 qo238 qK7_75 qo240 rfl rfl rfl (ok_sg0 hr0) (Nat.le_of_ble_eq_true rfl) (s240 (d := d + 0) hr0 hr2 hx3 w.obind) ?_
      intro _ M10 w
      exact t238_70 hr0 hr2 hx3 w
    · have w := w.neg e5
      refine mE_icmp_ne_T (t := 70) c238_53 rfl u4 hx3 e5 ?_
      exact t238_70 hr0 hr2 hx3 w
  · have w := w.neg e2
    refine mE_icmp_ge_T (t := 76) c238_43 rfl hx3 u1 e2 ?_
    have w := w.oinr
    exact mE_vret c238_76 qr238 w.osome
theorem t238_38 {X : Nat × Nat × qC} {d : Nat} {r0 : Nat} {r2 : Nat} {x3 : Int} {M : Mm}  {R : Mm → Prop} (hr0 : isSg r0) (hr2 : isSt X.1 r2) (hx3 : R4 x3) (w : Wp (f238_38 r0 r2 x3 M) R) : mE X (d + 3) 238 0 38 [some (.ref r0), some (.ref 3), some (.ref r2), some (.int (Int32.ofInt x3))] [] M (fun v M2 => R M2) :=
  Wp.olp (f := fun s : Int × Mm => lb238_38 r0 r2 s.1 s.2) (s := (x3, M)) (E := E238_38 X d r0 r2 R) w (fun s w hx3 => tb238_38 hr0 hr2 hx3 w) hx3
noncomputable def f238 (r0 : Nat) (r2 : Nat) (M : Mm) : Option (Mm) :=
  mlet (ms M r0 0 (M r2 1)) fun M2 =>
  mlet (ms M2 r0 1 0) fun M4 =>
  mlet (ms M4 r0 2 0) fun M6 =>
  (f3 (r0 + 5) 14 0 M6).bind fun M9 =>
  (f213 r2 0 (r0 + 2) M9).bind fun M12 =>
  f238_38 r0 r2 0 M12
theorem t238 {X : Nat × Nat × qC} {d : Nat} {r0 : Nat} {r2 : Nat} {M : Mm}  {R : Mm → Prop} (hr0 : isSg r0) (hr2 : isSt X.1 r2) (w : Wp (f238 r0 r2 M) R) : mE X (d + 3) 238 0 0 [some (.ref r0), some (.ref 3), some (.ref r2), none] [] M (fun v M2 => R M2) := by
  refine mE_aload_n c238_0 rfl ?_
  refine mE_aload_n c238_1 rfl ?_
  refine mE_getI c238_2 qo238 qF7_42 (ok_st0 hr2) rfl ?_
  intro u1
  obtain ⟨M2, m3, w⟩ := w.mlet
  refine mE_putI c238_5 qo238 qF7_48 qz7_0 (ok_sg0 hr0) (Nat.le_of_ble_eq_true rfl) rfl u1 (by rw [qy7_0]; rfl) ?_
  refine mE_M m3 ?_
  refine mE_aload_n c238_8 rfl ?_
  refine mE_iconst c238_9 ?_
  obtain ⟨M4, m5, w⟩ := w.mlet
  refine mE_putI c238_10 qo238 qF7_49 qz7_1 (ok_sg0 hr0) (Nat.le_of_ble_eq_true rfl) rfl (r4_n rfl) (by rw [qy7_1]; rfl) ?_
  refine mE_M m5 ?_
  refine mE_aload_n c238_13 rfl ?_
  refine mE_iconst c238_14 ?_
  obtain ⟨M6, m7, w⟩ := w.mlet
  refine mE_putI c238_15 qo238 qF7_52 qz7_2 (ok_sg0 hr0) (Nat.le_of_ble_eq_true rfl) rfl (r4_n rfl) (by rw [qy7_2]; exact fit01 (Or.inl rfl)) ?_
  refine mE_M m7 ?_
  refine mE_aload_n c238_18 rfl ?_
  refine mE_getA c238_19 qo238 qF7_24 (ok_sg0 hr0) rfl (nz_sg hr0 _) ?_
  refine mE_lconst (x := 0) c238_22 rfl ?_
  refine mE_static0 (as := [.ref (r0 + 5), .long (Int64.ofInt 0)]) (r := []) c238_23 qo238 (by decide) qK7_56 rfl rfl rfl (Nat.le_of_ble_eq_true rfl) (s3 (d := d + 2) (ok_sg5 hr0) (r8_n rfl) w.obind) ?_
  intro _ M9 w
  refine mE_aload_n c238_26 rfl ?_
  refine mE_aload_n c238_27 rfl ?_
  refine mE_iconst c238_28 ?_
  refine mE_aload_n c238_29 rfl ?_
  refine mE_getA c238_30 qo238 qF7_15 (ok_sg0 hr0) rfl (nz_sg hr0 _) ?_
  refine mE_virtual0 (b := 3) (as := [.ref r2, .int (Int32.ofInt 0), .ref (r0 + 2)]) (r := []) c238_33 qo238 qK7_62 qo213 rfl rfl rfl (ok_lit rfl rfl rfl) (Nat.le_of_ble_eq_true rfl) (s213 (d := d + 1) hr2 (r4_n rfl) (ok_sg2 hr0) w.obind) ?_
  intro _ M12 w
  refine mE_iconst c238_36 ?_
  refine mE_istore_n (ls2 := [some (.ref r0), some (.ref 3), some (.ref r2), some (.int (Int32.ofInt 0))]) c238_37 (Nat.le_of_ble_eq_true rfl) rfl ?_
  exact t238_38 hr0 hr2 (r4_n rfl) w
theorem s238 {X : Nat × Nat × qC} {d : Nat} {r0 : Nat} {r2 : Nat} {M : Mm} {R : Mm → Prop} (hr0 : isSg r0) (hr2 : isSt X.1 r2) (w : Wp (f238 r0 r2 M) R) : mC X (d + 4) 238 0 [.ref r0, .ref 3, .ref r2] M (fun v M2 => R M2) :=
  mC_of (qent_mk qx238 rfl rfl rfl) (t238 hr0 hr2 w)
