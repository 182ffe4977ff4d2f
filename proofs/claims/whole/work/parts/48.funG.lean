/-! SaggingNetModel.sheds -/
def E165_20 (X : Nat × Nat × qC) (d : Nat) (x1 : Int) (x2 : Int) (M : Mm) (R : Mm → Prop) : Int × Int → Prop := fun s => R4 s.1 → R4 s.2 → mE X (d + 2) 165 0 20 [some (.ref 142), some (.int (Int32.ofInt x1)), some (.int (Int32.ofInt x2)), some (.int (Int32.ofInt s.1)), some (.int (Int32.ofInt s.2))] [] M (fun v M2 => R M2)
def E165_0 (X : Nat × Nat × qC) (d : Nat) (x1 : Int) (x2 : Int) (R : Mm → Prop) : Mm → Prop := fun s => ∀ (o3 : Option Value), ∀ (o4 : Option Value), mE X (d + 2) 165 0 0 [some (.ref 142), some (.int (Int32.ofInt x1)), some (.int (Int32.ofInt x2)), o3, o4] [] s (fun v M2 => R M2)
noncomputable def f165_74 (x1 : Int) (x2 : Int) (x3 : Int) (x4 : Int) (M : Mm) : Option ((Int × Int) ⊕ ((Mm) ⊕ (Mm))) :=
  gd (R4 (x4 + 1)) (
  some (.inl (x3, (x4 + 1))))
theorem t165_74 {X : Nat × Nat × qC} {d : Nat} {x1 : Int} {x2 : Int} {x3 : Int} {x4 : Int} {M : Mm}  {R : Mm → Prop} (hx1 : R4 x1) (hx2 : R4 x2) (hx3 : R4 x3) (hx4 : R4 x4) (w : Wp (f165_74 x1 x2 x3 x4 M) (Sum.elim (E165_20 X d x1 x2 M R) (Sum.elim (E165_0 X d x1 x2 R) R))) : mE X (d + 2) 165 0 74 [some (.ref 142), some (.int (Int32.ofInt x1)), some (.int (Int32.ofInt x2)), some (.int (Int32.ofInt x3)), some (.int (Int32.ofInt x4))] [] M (fun v M2 => R M2) := by
  obtain ⟨g1, w⟩ := w.ogd
  refine mE_iinc (ls2 := [some (.ref 142), some (.int (Int32.ofInt x1)), some (.int (Int32.ofInt x2)), some (.int (Int32.ofInt x3)), some (.int (Int32.ofInt (x4 + 1)))]) c165_74 rfl (Nat.le_of_ble_eq_true rfl) rfl ?_
  refine mE_goto (t := 20) c165_77 rfl ?_
  exact w.osome hx3 g1
noncomputable def f165_71 (x1 : Int) (x2 : Int) (x4 : Int) (M : Mm) : Option ((Int × Int) ⊕ ((Mm) ⊕ (Mm))) :=
  f165_74 x1 x2 x4 x4 M
theorem t165_71 {X : Nat × Nat × qC} {d : Nat} {x1 : Int} {x2 : Int} {x4 : Int} {M : Mm} {y3 : Int32} {R : Mm → Prop} (hx1 : R4 x1) (hx2 : R4 x2) (hx4 : R4 x4) (w : Wp (f165_71 x1 x2 x4 M) (Sum.elim (E165_20 X d x1 x2 M R) (Sum.elim (E165_0 X d x1 x2 R) R))) : mE X (d + 2) 165 0 71 [some (.ref 142), some (.int (Int32.ofInt x1)), some (.int (Int32.ofInt x2)), some (.int y3), some (.int (Int32.ofInt x4))] [] M (fun v M2 => R M2) := by
  refine mE_iload c165_71 rfl ?_
  refine mE_istore_n (ls2 := [some (.ref 142), some (.int (Int32.ofInt x1)), some (.int (Int32.ofInt x2)), some (.int (Int32.ofInt x4)), some (.int (Int32.ofInt x4))]) c165_73 (Nat.le_of_ble_eq_true rfl) rfl ?_
  exact t165_74 hx1 hx2 hx4 hx4 w
noncomputable def lb165_20 (x1 : Int) (x2 : Int) (x3 : Int) (x4 : Int) (M : Mm) : Option ((Int × Int) ⊕ ((Mm) ⊕ (Mm))) :=
  if x4 < (M 142 3) then
  (gd (0 ≤ x4 ∧ x4 < 8) (
  if (M 158 (x4).toNat) = x2 then
  ((f145 x1 x4 M).bind fun v6 =>
  if 0 < v6 then
  (if x3 = (-1) then
  (f165_71 x1 x2 x4 M)
  else
  (gd (0 ≤ x3 ∧ x3 < 8) (
  if (M 146 (x3).toNat) < (M 146 (x4).toNat) then
  (f165_74 x1 x2 x3 x4 M)
  else
  (f165_71 x1 x2 x4 M))))
  else
  (f165_74 x1 x2 x3 x4 M))
  else
  (f165_74 x1 x2 x3 x4 M)))
  else
  (oinr (gd (R4 (x1 + 51)) (
  gd (R4 ((x1 + 51) + x3)) (
  gd (0 ≤ ((x1 + 51) + x3) ∧ ((x1 + 51) + x3) < 36400) (
  mlet (ms M 144 (((x1 + 51) + x3)).toNat 1) fun M6 =>
  gd (0 ≤ (M6 142 29) ∧ (M6 142 29) < 8) (
  mlet (ms M6 163 ((M6 142 29)).toNat x3) fun M10 =>
  gd (R4 ((M10 142 29) + 1)) (
  mlet (ms M10 142 29 ((M10 142 29) + 1)) fun M14 =>
  some (.inl (M14)))))))))
noncomputable def f165_20 (x1 : Int) (x2 : Int) (x3 : Int) (x4 : Int) (M : Mm) : Option ((Mm) ⊕ (Mm)) := lp (fun s : Int × Int => lb165_20 x1 x2 s.1 s.2 M) (x3, x4)
theorem tb165_20 {X : Nat × Nat × qC} {d : Nat} {x1 : Int} {x2 : Int} {x3 : Int} {x4 : Int} {M : Mm}  {R : Mm → Prop} (hx1 : R4 x1) (hx2 : R4 x2) (hx3 : R4 x3) (hx4 : R4 x4) (w : Wp (lb165_20 x1 x2 x3 x4 M) (Sum.elim (E165_20 X d x1 x2 M R) (Sum.elim (E165_0 X d x1 x2 R) R))) : mE X (d + 2) 165 0 20 [some (.ref 142), some (.int (Int32.ofInt x1)), some (.int (Int32.ofInt x2)), some (.int (Int32.ofInt x3)), some (.int (Int32.ofInt x4))] [] M (fun v M2 => R M2) := by
  refine mE_iload c165_20 rfl ?_
  refine mE_aload_n c165_22 rfl ?_
  refine mE_getI c165_23 qo165 qF12_186 (ok_lit rfl rfl rfl) rfl ?_
  intro u1
  by_cases e2 : x4 < (M 142 3)
  · have w := w.pos e2
    refine mE_icmp_ge_F (t := 80) c165_26 rfl hx4 u1 e2 ?_
    refine mE_aload_n c165_29 rfl ?_
    refine mE_getA c165_30 qo165 qF12_58 (ok_lit rfl rfl rfl) rfl ⟨by decide, by decide⟩ ?_
    refine mE_iload c165_33 rfl ?_
    obtain ⟨g3, w⟩ := w.ogd
    refine mE_iaload c165_35 (ok_lit rfl rfl rfl) hx4 g3 ?_
    intro u4
    refine mE_iload_n c165_36 rfl ?_
    by_cases e5 : (M 158 (x4).toNat) = x2
    · have w := w.pos e5
      refine mE_icmp_ne_F (t := 74) c165_37 rfl u4 hx2 e5 ?_
      refine mE_aload_n c165_40 rfl ?_
      refine mE_iload_n c165_41 rfl ?_
      refine mE_iload c165_42 rfl ?_
      refine mE_virtual1 (b := 142) (as := [.int (Int32.ofInt x1), .int (Int32.ofInt x4)]) (r := []) c165_44 qo165 qK12_235 qo145 rfl rfl rfl (ok_lit rfl rfl rfl) (Nat.le_of_ble_eq_true rfl) (s145 (d := d + 1) hx1 hx4 w.obind) ?_
      rintro v6 _ q8 ⟨rfl, w⟩
      by_cases e9 : 0 < v6
      · have w := w.pos e9
        refine mE_if_le_F (t := 74) c165_47 rfl q8 e9 ?_
        refine mE_iload_n c165_50 rfl ?_
        refine mE_iconst c165_51 ?_
        by_cases e10 : x3 = (-1)
        · have w := w.pos e10
          refine mE_icmp_eq_T (t := 71) c165_52 rfl hx3 (r4_n rfl) e10 ?_
          exact t165_71 hx1 hx2 hx4 w
        · have w := w.neg e10
          refine mE_icmp_eq_F (t := 71) c165_52 rfl hx3 (r4_n rfl) e10 ?_
          refine mE_aload_n c165_55 rfl ?_
          refine mE_getA c165_56 qo165 qF12_21 (ok_lit rfl rfl rfl) rfl ⟨by decide, by decide⟩ ?_
          refine mE_iload c165_59 rfl ?_
          refine mE_iaload c165_61 (ok_lit rfl rfl rfl) hx4 g3 ?_
          intro u11
          refine mE_aload_n c165_62 rfl ?_
          refine mE_getA c165_63 qo165 qF12_21 (ok_lit rfl rfl rfl) rfl ⟨by decide, by decide⟩ ?_
          refine mE_iload_n c165_66 rfl ?_
          obtain ⟨g12, w⟩ := w.ogd
          refine mE_iaload c165_67 (ok_lit rfl rfl rfl) hx3 g12 ?_
          intro u13
          by_cases e14 : (M 146 (x3).toNat) < (M 146 (x4).toNat)
          · have w := w.pos e14
            refine mE_icmp_gt_T (t := 74) c165_68 rfl u11 u13 e14 ?_
            exact t165_74 hx1 hx2 hx3 hx4 w
          · have w := w.neg e14
            refine mE_icmp_gt_F (t := 74) c165_68 rfl u11 u13 e14 ?_
            exact t165_71 hx1 hx2 hx4 w
      · have w := w.neg e9
        refine mE_if_le_T (t := 74) c165_47 rfl q8 e9 ?_
        exact t165_74 hx1 hx2 hx3 hx4 w
    · have w := w.neg e5
      refine mE_icmp_ne_T (t := 74) c165_37 rfl u4 hx2 e5 ?_
      exact t165_74 hx1 hx2 hx3 hx4 w
  · have w := w.neg e2
    refine mE_icmp_ge_T (t := 80) c165_26 rfl hx4 u1 e2 ?_
    have w := w.oinr
    refine mE_aload_n c165_80 rfl ?_
    refine mE_getA c165_81 qo165 qF12_14 (ok_lit rfl rfl rfl) rfl ⟨by decide, by decide⟩ ?_
    refine mE_iload_n c165_84 rfl ?_
    refine mE_bipush (x := 51) c165_85 rfl ?_
    obtain ⟨g3, w⟩ := w.ogd
    refine mE_iadd c165_87 ?_
    refine mE_iload_n c165_88 rfl ?_
    obtain ⟨g4, w⟩ := w.ogd
    refine mE_iadd c165_89 ?_
    refine mE_iconst c165_90 ?_
    obtain ⟨g5, w⟩ := w.ogd
    obtain ⟨M6, m7, w⟩ := w.mlet
    refine mE_iastore c165_91 (ok_lit rfl rfl rfl) g4 g5 (r4_n rfl) ?_
    refine mE_M m7 ?_
    refine mE_aload_n c165_92 rfl ?_
    refine mE_getA c165_93 qo165 qF12_74 (ok_lit rfl rfl rfl) rfl ⟨by decide, by decide⟩ ?_
    refine mE_aload_n c165_96 rfl ?_
    refine mE_getI c165_97 qo165 qF12_245 (ok_lit rfl rfl rfl) rfl ?_
    intro u8
    refine mE_iload_n c165_100 rfl ?_
    obtain ⟨g9, w⟩ := w.ogd
    obtain ⟨M10, m11, w⟩ := w.mlet
    refine mE_iastore c165_101 (ok_lit rfl rfl rfl) u8 g9 hx3 ?_
    refine mE_M m11 ?_
    refine mE_aload_n c165_102 rfl ?_
    refine mE_dup c165_103 rfl ?_
    refine mE_getI c165_104 qo165 qF12_245 (ok_lit rfl rfl rfl) rfl ?_
    intro u12
    refine mE_iconst c165_107 ?_
    obtain ⟨g13, w⟩ := w.ogd
    refine mE_iadd c165_108 ?_
    obtain ⟨M14, m15, w⟩ := w.mlet
    refine mE_putI c165_109 qo165 qF12_245 qz12_29 (ok_lit rfl rfl rfl) (Nat.le_of_ble_eq_true rfl) rfl g13 (by rw [qy12_29]; rfl) ?_
    refine mE_M m15 ?_
    refine mE_goto (t := 0) c165_112 rfl ?_
    exact w.osome _ _
theorem t165_20 {X : Nat × Nat × qC} {d : Nat} {x1 : Int} {x2 : Int} {x3 : Int} {x4 : Int} {M : Mm}  {R : Mm → Prop} (hx1 : R4 x1) (hx2 : R4 x2) (hx3 : R4 x3) (hx4 : R4 x4) (w : Wp (f165_20 x1 x2 x3 x4 M) (Sum.elim (E165_0 X d x1 x2 R) R)) : mE X (d + 2) 165 0 20 [some (.ref 142), some (.int (Int32.ofInt x1)), some (.int (Int32.ofInt x2)), some (.int (Int32.ofInt x3)), some (.int (Int32.ofInt x4))] [] M (fun v M2 => R M2) :=
  Wp.olp (f := fun s : Int × Int => lb165_20 x1 x2 s.1 s.2 M) (s := (x3, x4)) (E := E165_20 X d x1 x2 M R) w (fun s w hx3 hx4 => tb165_20 hx1 hx2 hx3 hx4 w) hx3 hx4
noncomputable def lb165_0 (x1 : Int) (x2 : Int) (M : Mm) : Option ((Mm) ⊕ (Mm)) :=
  (f148 x1 x2 M).bind fun v1 =>
  (f146 x1 x2 M).bind fun v4 =>
  if v1 < v4 then
  (f165_20 x1 x2 (-1) 0 M)
  else
  (oinr (some M))
noncomputable def f165_0 (x1 : Int) (x2 : Int) (M : Mm) : Option (Mm) := lp (fun s : Mm => lb165_0 x1 x2  s) M
theorem tb165_0 {X : Nat × Nat × qC} {d : Nat} {x1 : Int} {x2 : Int} {M : Mm} {o3 : Option Value} {o4 : Option Value} {R : Mm → Prop} (hx1 : R4 x1) (hx2 : R4 x2) (w : Wp (lb165_0 x1 x2 M) (Sum.elim (E165_0 X d x1 x2 R) R)) : mE X (d + 2) 165 0 0 [some (.ref 142), some (.int (Int32.ofInt x1)), some (.int (Int32.ofInt x2)), o3, o4] [] M (fun v M2 => R M2) := by
  refine mE_aload_n c165_0 rfl ?_
  refine mE_iload_n c165_1 rfl ?_
  refine mE_iload_n c165_2 rfl ?_
  refine mE_virtual1 (b := 142) (as := [.int (Int32.ofInt x1), .int (Int32.ofInt x2)]) (r := []) c165_3 qo165 qK12_239 qo148 rfl rfl rfl (ok_lit rfl rfl rfl) (Nat.le_of_ble_eq_true rfl) (s148 (d := d + 1) hx1 hx2 w.obind) ?_
  rintro v1 _ q3 ⟨rfl, w⟩
  refine mE_aload_n c165_6 rfl ?_
  refine mE_iload_n c165_7 rfl ?_
  refine mE_iload_n c165_8 rfl ?_
  refine mE_virtual1 (b := 142) (as := [.int (Int32.ofInt x1), .int (Int32.ofInt x2)]) (r := [.int (Int32.ofInt v1)]) c165_9 qo165 qK12_242 qo146 rfl rfl rfl (ok_lit rfl rfl rfl) (Nat.le_of_ble_eq_true rfl) (s146 (d := d + 0) hx1 hx2 w.obind) ?_
  rintro v4 _ q6 ⟨rfl, w⟩
  by_cases e7 : v1 < v4
  · have w := w.pos e7
    refine mE_icmp_ge_F (t := 115) c165_12 rfl q3 q6 e7 ?_
    refine mE_iconst c165_15 ?_
    refine mE_istore_n (ls2 := [some (.ref 142), some (.int (Int32.ofInt x1)), some (.int (Int32.ofInt x2)), some (.int (Int32.ofInt (-1))), o4]) c165_16 (Nat.le_of_ble_eq_true rfl) rfl ?_
    refine mE_iconst c165_17 ?_
    refine mE_istore (ls2 := [some (.ref 142), some (.int (Int32.ofInt x1)), some (.int (Int32.ofInt x2)), some (.int (Int32.ofInt (-1))), some (.int (Int32.ofInt 0))]) c165_18 (Nat.le_of_ble_eq_true rfl) rfl ?_
    exact t165_20 hx1 hx2 (r4_n rfl) (r4_n rfl) w
  · have w := w.neg e7
    refine mE_icmp_ge_T (t := 115) c165_12 rfl q3 q6 e7 ?_
    have w := w.oinr
    exact mE_vret c165_115 qr165 w.osome
theorem t165_0 {X : Nat × Nat × qC} {d : Nat} {x1 : Int} {x2 : Int} {M : Mm} {o3 : Option Value} {o4 : Option Value} {R : Mm → Prop} (hx1 : R4 x1) (hx2 : R4 x2) (w : Wp (f165_0 x1 x2 M) R) : mE X (d + 2) 165 0 0 [some (.ref 142), some (.int (Int32.ofInt x1)), some (.int (Int32.ofInt x2)), o3, o4] [] M (fun v M2 => R M2) :=
  Wp.olp (f := fun s : Mm => lb165_0 x1 x2  s) (s := M) (E := E165_0 X d x1 x2 R) w (fun s w _ _ => tb165_0 hx1 hx2 w) _ _
noncomputable def f165 (x1 : Int) (x2 : Int) (M : Mm) : Option (Mm) := f165_0 x1 x2 M
theorem s165 {X : Nat × Nat × qC} {d : Nat} {x1 : Int} {x2 : Int} {M : Mm} {R : Mm → Prop} (hx1 : R4 x1) (hx2 : R4 x2) (w : Wp (f165 x1 x2 M) R) : mC X (d + 3) 165 0 [.ref 142, .int (Int32.ofInt x1), .int (Int32.ofInt x2)] M (fun v M2 => R M2) :=
  mC_of (qent_mk qx165 rfl rfl rfl) (t165_0 hx1 hx2 w)
/-! SaggingNetModel.give -/
def E112_30 (X : Nat × Nat × qC) (d : Nat) (x1 : Int) (x2 : Int) (x3 : Int) (x4 : Int) (M : Mm) (R : Mm → Prop) : Int × Int → Prop := fun s => R4 s.1 → R4 s.2 → mE X (d + 2) 112 0 30 [some (.ref 142), some (.int (Int32.ofInt x1)), some (.int (Int32.ofInt x2)), some (.int (Int32.ofInt x3)), some (.int (Int32.ofInt x4)), some (.int (Int32.ofInt s.1)), some (.int (Int32.ofInt s.2))] [] M (fun v M2 => R M2)
def E112_24 (X : Nat × Nat × qC) (d : Nat) (x1 : Int) (x2 : Int) (R : Mm → Prop) : Int × Int × Mm → Prop := fun s => R4 s.1 → R4 s.2.1 → ∀ (o5 : Option Value), ∀ (o6 : Option Value), mE X (d + 2) 112 0 24 [some (.ref 142), some (.int (Int32.ofInt x1)), some (.int (Int32.ofInt x2)), some (.int (Int32.ofInt s.1)), some (.int (Int32.ofInt s.2.1)), o5, o6] [] s.2.2 (fun v M2 => R M2)
noncomputable def f112_108 (x1 : Int) (x2 : Int) (x3 : Int) (x4 : Int) (x5 : Int) (x6 : Int) (M : Mm) : Option ((Int × Int) ⊕ ((Int × Int × Mm) ⊕ (Mm))) :=
  gd (R4 (x6 + 1)) (
  some (.inl (x5, (x6 + 1))))
theorem t112_108 {X : Nat × Nat × qC} {d : Nat} {x1 : Int} {x2 : Int} {x3 : Int} {x4 : Int} {x5 : Int} {x6 : Int} {M : Mm}  {R : Mm → Prop} (hx1 : R4 x1) (hx2 : R4 x2) (hx3 : R4 x3) (hx4 : R4 x4) (hx5 : R4 x5) (hx6 : R4 x6) (w : Wp (f112_108 x1 x2 x3 x4 x5 x6 M) (Sum.elim (E112_30 X d x1 x2 x3 x4 M R) (Sum.elim (E112_24 X d x1 x2 R) R))) : mE X (d + 2) 112 0 108 [some (.ref 142), some (.int (Int32.ofInt x1)), some (.int (Int32.ofInt x2)), some (.int (Int32.ofInt x3)), some (.int (Int32.ofInt x4)), some (.int (Int32.ofInt x5)), some (.int (Int32.ofInt x6))] [] M (fun v M2 => R M2) := by
  obtain ⟨g1, w⟩ := w.ogd
  refine mE_iinc (ls2 := [some (.ref 142), some (.int (Int32.ofInt x1)), some (.int (Int32.ofInt x2)), some (.int (Int32.ofInt x3)), some (.int (Int32.ofInt x4)), some (.int (Int32.ofInt x5)), some (.int (Int32.ofInt (x6 + 1)))]) c112_108 rfl (Nat.le_of_ble_eq_true rfl) rfl ?_
  refine mE_goto (t := 30) c112_111 rfl ?_
  exact w.osome hx5 g1
noncomputable def f112_104 (x1 : Int) (x2 : Int) (x3 : Int) (x4 : Int) (x6 : Int) (M : Mm) : Option ((Int × Int) ⊕ ((Int × Int × Mm) ⊕ (Mm))) :=
  f112_108 x1 x2 x3 x4 x6 x6 M
theorem t112_104 {X : Nat × Nat × qC} {d : Nat} {x1 : Int} {x2 : Int} {x3 : Int} {x4 : Int} {x6 : Int} {M : Mm} {y5 : Int32} {R : Mm → Prop} (hx1 : R4 x1) (hx2 : R4 x2) (hx3 : R4 x3) (hx4 : R4 x4) (hx6 : R4 x6) (w : Wp (f112_104 x1 x2 x3 x4 x6 M) (Sum.elim (E112_30 X d x1 x2 x3 x4 M R) (Sum.elim (E112_24 X d x1 x2 R) R))) : mE X (d + 2) 112 0 104 [some (.ref 142), some (.int (Int32.ofInt x1)), some (.int (Int32.ofInt x2)), some (.int (Int32.ofInt x3)), some (.int (Int32.ofInt x4)), some (.int y5), some (.int (Int32.ofInt x6))] [] M (fun v M2 => R M2) := by
  refine mE_iload c112_104 rfl ?_
  refine mE_istore (ls2 := [some (.ref 142), some (.int (Int32.ofInt x1)), some (.int (Int32.ofInt x2)), some (.int (Int32.ofInt x3)), some (.int (Int32.ofInt x4)), some (.int (Int32.ofInt x6)), some (.int (Int32.ofInt x6))]) c112_106 (Nat.le_of_ble_eq_true rfl) rfl ?_
  exact t112_108 hx1 hx2 hx3 hx4 hx6 hx6 w
noncomputable def lb112_30 (x1 : Int) (x2 : Int) (x3 : Int) (x4 : Int) (x5 : Int) (x6 : Int) (M : Mm) : Option ((Int × Int) ⊕ ((Int × Int × Mm) ⊕ (Mm))) :=
  if x6 < (M 142 5) then
  ((f118 x4 x6 M).bind fun v3 =>
  if v3 = 0 then
  (gd (R4 (x1 + 42)) (
  gd (R4 ((x1 + 42) + x6)) (
  gd (0 ≤ ((x1 + 42) + x6) ∧ ((x1 + 42) + x6) < 36400) (
  if (M 144 (((x1 + 42) + x6)).toNat) = 1 then
  (gd (0 ≤ x6 ∧ x6 < 9) (
  gd (0 ≤ (M 153 (x6).toNat) ∧ (M 153 (x6).toNat) < 8) (
  if (M 158 ((M 153 (x6).toNat)).toNat) = x2 then
  (if x5 = (-1) then
  (f112_104 x1 x2 x3 x4 x6 M)
  else
  (gd (0 ≤ x5 ∧ x5 < 9) (
  if (M 155 (x6).toNat) < (M 155 (x5).toNat) then
  (f112_104 x1 x2 x3 x4 x6 M)
  else
  (f112_108 x1 x2 x3 x4 x5 x6 M))))
  else
  (f112_108 x1 x2 x3 x4 x5 x6 M))))
  else
  (f112_108 x1 x2 x3 x4 x5 x6 M)))))
  else
  (f112_108 x1 x2 x3 x4 x5 x6 M))
  else
  (oinr (if x5 = (-1) then
  (oinr (some M))
  else
  (gd (0 ≤ x5 ∧ x5 < 9) (
  if (M 154 (x5).toNat) < x3 then
  (mlet (ms M 159 (x5).toNat (M 154 (x5).toNat)) fun M8 =>
  gd (R4 (x3 - (M8 159 (x5).toNat))) (
  some (.inl ((x3 - (M8 159 (x5).toNat)), (bOr x4 (bShl 1 x5)), M8))))
  else
  (mlet (ms M 159 (x5).toNat x3) fun M7 =>
  gd (R4 (x3 - (M7 159 (x5).toNat))) (
  some (.inl ((x3 - (M7 159 (x5).toNat)), (bOr x4 (bShl 1 x5)), M7))))))))
noncomputable def f112_30 (x1 : Int) (x2 : Int) (x3 : Int) (x4 : Int) (x5 : Int) (x6 : Int) (M : Mm) : Option ((Int × Int × Mm) ⊕ (Mm)) := lp (fun s : Int × Int => lb112_30 x1 x2 x3 x4 s.1 s.2 M) (x5, x6)
theorem tb112_30 {X : Nat × Nat × qC} {d : Nat} {x1 : Int} {x2 : Int} {x3 : Int} {x4 : Int} {x5 : Int} {x6 : Int} {M : Mm}  {R : Mm → Prop} (hx1 : R4 x1) (hx2 : R4 x2) (hx3 : R4 x3) (hx4 : R4 x4) (hx5 : R4 x5) (hx6 : R4 x6) (w : Wp (lb112_30 x1 x2 x3 x4 x5 x6 M) (Sum.elim (E112_30 X d x1 x2 x3 x4 M R) (Sum.elim (E112_24 X d x1 x2 R) R))) : mE X (d + 2) 112 0 30 [some (.ref 142), some (.int (Int32.ofInt x1)), some (.int (Int32.ofInt x2)), some (.int (Int32.ofInt x3)), some (.int (Int32.ofInt x4)), some (.int (Int32.ofInt x5)), some (.int (Int32.ofInt x6))] [] M (fun v M2 => R M2) := by
  refine mE_iload c112_30 rfl ?_
  refine mE_aload_n c112_32 rfl ?_
  refine mE_getI c112_33 qo112 qF12_197 (ok_lit rfl rfl rfl) rfl ?_
  intro u1
  by_cases e2 : x6 < (M 142 5)
  · have w := w.pos e2
    refine mE_icmp_ge_F (t := 114) c112_36 rfl hx6 u1 e2 ?_
    refine mE_iload c112_39 rfl ?_
    refine mE_iload c112_41 rfl ?_
    refine mE_static1 (as := [.int (Int32.ofInt x4), .int (Int32.ofInt x6)]) (r := []) c112_43 qo112 (by decide) qK12_248 rfl rfl rfl (Nat.le_of_ble_eq_true rfl) (s118 (d := d + 1) hx4 hx6 w.obind) ?_
    rintro v3 _ q5 ⟨rfl, w⟩
    by_cases e6 : v3 = 0
    · have w := w.pos e6
      refine mE_if_ne_F (t := 108) c112_46 rfl q5 e6 ?_
      refine mE_aload_n c112_49 rfl ?_
      refine mE_getA c112_50 qo112 qF12_14 (ok_lit rfl rfl rfl) rfl ⟨by decide, by decide⟩ ?_
      refine mE_iload_n c112_53 rfl ?_
      refine mE_bipush (x := 42) c112_54 rfl ?_
      obtain ⟨g7, w⟩ := w.ogd
      refine mE_iadd c112_56 ?_
      refine mE_iload c112_57 rfl ?_
      obtain ⟨g8, w⟩ := w.ogd
      refine mE_iadd c112_59 ?_
      obtain ⟨g9, w⟩ := w.ogd
      refine mE_iaload c112_60 (ok_lit rfl rfl rfl) g8 g9 ?_
      intro u10
      refine mE_iconst c112_61 ?_
      by_cases e11 : (M 144 (((x1 + 42) + x6)).toNat) = 1
      · have w := w.pos e11
        refine mE_icmp_ne_F (t := 108) c112_62 rfl u10 (r4_n rfl) e11 ?_
        refine mE_aload_n c112_65 rfl ?_
        refine mE_getA c112_66 qo112 qF12_58 (ok_lit rfl rfl rfl) rfl ⟨by decide, by decide⟩ ?_
        refine mE_aload_n c112_69 rfl ?_
        refine mE_getA c112_70 qo112 qF12_42 (ok_lit rfl rfl rfl) rfl ⟨by decide, by decide⟩ ?_
        refine mE_iload c112_73 rfl ?_
        obtain ⟨g12, w⟩ := w.ogd
        refine mE_iaload c112_75 (ok_lit rfl rfl rfl) hx6 g12 ?_
        intro u13
        obtain ⟨g14, w⟩ := w.ogd
        refine mE_iaload c112_76 (ok_lit rfl rfl rfl) u13 g14 ?_
        intro u15
        refine mE_iload_n c112_77 rfl ?_
        by_cases e16 : (M 158 ((M 153 (x6).toNat)).toNat) = x2
        · have w := w.pos e16
          refine mE_icmp_ne_F (t := 108) c112_78 rfl u15 hx2 e16 ?_
          refine mE_iload c112_81 rfl ?_
          refine mE_iconst c112_83 ?_
          by_cases e17 : x5 = (-1)
          · have w := w.pos e17
            refine mE_icmp_eq_T (t := 104) c112_84 rfl hx5 (r4_n rfl) e17 ?_
            exact t112_104 hx1 hx2 hx3 hx4 hx6 w
          · have w := w.neg e17
            refine mE_icmp_eq_F (t := 104) c112_84 rfl hx5 (r4_n rfl) e17 ?_
            refine mE_aload_n c112_87 rfl ?_
            refine mE_getA c112_88 qo112 qF12_48 (ok_lit rfl rfl rfl) rfl ⟨by decide, by decide⟩ ?_
            refine mE_iload c112_91 rfl ?_
            refine mE_iaload c112_93 (ok_lit rfl rfl rfl) hx6 g12 ?_
            intro u18
            refine mE_aload_n c112_94 rfl ?_
            refine mE_getA c112_95 qo112 qF12_48 (ok_lit rfl rfl rfl) rfl ⟨by decide, by decide⟩ ?_
            refine mE_iload c112_98 rfl ?_
            obtain ⟨g19, w⟩ := w.ogd
            refine mE_iaload c112_100 (ok_lit rfl rfl rfl) hx5 g19 ?_
            intro u20
            by_cases e21 : (M 155 (x6).toNat) < (M 155 (x5).toNat)
            · have w := w.pos e21
              refine mE_icmp_ge_F (t := 108) c112_101 rfl u18 u20 e21 ?_
              exact t112_104 hx1 hx2 hx3 hx4 hx6 w
            · have w := w.neg e21
              refine mE_icmp_ge_T (t := 108) c112_101 rfl u18 u20 e21 ?_
              exact t112_108 hx1 hx2 hx3 hx4 hx5 hx6 w
        · have w := w.neg e16
          refine mE_icmp_ne_T (t := 108) c112_78 rfl u15 hx2 e16 ?_
          exact t112_108 hx1 hx2 hx3 hx4 hx5 hx6 w
      · have w := w.neg e11
        refine mE_icmp_ne_T (t := 108) c112_62 rfl u10 (r4_n rfl) e11 ?_
        exact t112_108 hx1 hx2 hx3 hx4 hx5 hx6 w
    · have w := w.neg e6
      refine mE_if_ne_T (t := 108) c112_46 rfl q5 e6 ?_
      exact t112_108 hx1 hx2 hx3 hx4 hx5 hx6 w
  · have w := w.neg e2
    refine mE_icmp_ge_T (t := 114) c112_36 rfl hx6 u1 e2 ?_
    have w := w.oinr
    refine mE_iload c112_114 rfl ?_
    refine mE_iconst c112_116 ?_
    by_cases e3 : x5 = (-1)
    · have w := w.pos e3
      refine mE_icmp_ne_F (t := 121) c112_117 rfl hx5 (r4_n rfl) e3 ?_
      have w := w.oinr
      exact mE_vret c112_120 qr112 w.osome
    · have w := w.neg e3
      refine mE_icmp_ne_T (t := 121) c112_117 rfl hx5 (r4_n rfl) e3 ?_
      refine mE_iload c112_121 rfl ?_
      refine mE_iconst c112_123 ?_
      refine mE_iload c112_124 rfl ?_
      refine mE_ishl c112_126 ?_
      refine mE_ior c112_127 ?_
      refine mE_istore (ls2 := [some (.ref 142), some (.int (Int32.ofInt x1)), some (.int (Int32.ofInt x2)), some (.int (Int32.ofInt x3)), some (.int (Int32.ofInt (bOr x4 (bShl 1 x5)))), some (.int (Int32.ofInt x5)), some (.int (Int32.ofInt x6))]) c112_128 (Nat.le_of_ble_eq_true rfl) rfl ?_
      refine mE_aload_n c112_130 rfl ?_
      refine mE_getA c112_131 qo112 qF12_61 (ok_lit rfl rfl rfl) rfl ⟨by decide, by decide⟩ ?_
      refine mE_iload c112_134 rfl ?_
      refine mE_aload_n c112_136 rfl ?_
      refine mE_getA c112_137 qo112 qF12_45 (ok_lit rfl rfl rfl) rfl ⟨by decide, by decide⟩ ?_
      refine mE_iload c112_140 rfl ?_
      obtain ⟨g4, w⟩ := w.ogd
      refine mE_iaload c112_142 (ok_lit rfl rfl rfl) hx5 g4 ?_
      intro u5
      refine mE_iload_n c112_143 rfl ?_
      by_cases e6 : (M 154 (x5).toNat) < x3
      · have w := w.pos e6
        refine mE_icmp_ge_F (t := 157) c112_144 rfl u5 hx3 e6 ?_
        refine mE_aload_n c112_147 rfl ?_
        refine mE_getA c112_148 qo112 qF12_45 (ok_lit rfl rfl rfl) rfl ⟨by decide, by decide⟩ ?_
        refine mE_iload c112_151 rfl ?_
        refine mE_iaload c112_153 (ok_lit rfl rfl rfl) hx5 g4 ?_
        intro u7
        refine mE_goto (t := 158) c112_154 rfl ?_
        obtain ⟨M8, m9, w⟩ := w.mlet
        refine mE_iastore c112_158 (ok_lit rfl rfl rfl) hx5 g4 u7 ?_
        refine mE_M m9 ?_
        refine mE_iload_n c112_159 rfl ?_
        refine mE_aload_n c112_160 rfl ?_
        refine mE_getA c112_161 qo112 qF12_61 (ok_lit rfl rfl rfl) rfl ⟨by decide, by decide⟩ ?_
        refine mE_iload c112_164 rfl ?_
        refine mE_iaload c112_166 (ok_lit rfl rfl rfl) hx5 g4 ?_
        intro u10
        obtain ⟨g11, w⟩ := w.ogd
        refine mE_isub c112_167 ?_
        refine mE_istore_n (ls2 := [some (.ref 142), some (.int (Int32.ofInt x1)), some (.int (Int32.ofInt x2)), some (.int (Int32.ofInt (x3 - (M8 159 (x5).toNat)))), some (.int (Int32.ofInt (bOr x4 (bShl 1 x5)))), some (.int (Int32.ofInt x5)), some (.int (Int32.ofInt x6))]) c112_168 (Nat.le_of_ble_eq_true rfl) rfl ?_
        refine mE_goto (t := 24) c112_169 rfl ?_
        exact w.osome g11 (r4_or _ _) _ _
      · have w := w.neg e6
        refine mE_icmp_ge_T (t := 157) c112_144 rfl u5 hx3 e6 ?_
        refine mE_iload_n c112_157 rfl ?_
        obtain ⟨M7, m8, w⟩ := w.mlet
        refine mE_iastore c112_158 (ok_lit rfl rfl rfl) hx5 g4 hx3 ?_
        refine mE_M m8 ?_
        refine mE_iload_n c112_159 rfl ?_
        refine mE_aload_n c112_160 rfl ?_
        refine mE_getA c112_161 qo112 qF12_61 (ok_lit rfl rfl rfl) rfl ⟨by decide, by decide⟩ ?_
        refine mE_iload c112_164 rfl ?_
        refine mE_iaload c112_166 (ok_lit rfl rfl rfl) hx5 g4 ?_
        intro u9
        obtain ⟨g10, w⟩ := w.ogd
        refine mE_isub c112_167 ?_
        refine mE_istore_n (ls2 := [some (.ref 142), some (.int (Int32.ofInt x1)), some (.int (Int32.ofInt x2)), some (.int (Int32.ofInt (x3 - (M7 159 (x5).toNat)))), some (.int (Int32.ofInt (bOr x4 (bShl 1 x5)))), some (.int (Int32.ofInt x5)), some (.int (Int32.ofInt x6))]) c112_168 (Nat.le_of_ble_eq_true rfl) rfl ?_
        refine mE_goto (t := 24) c112_169 rfl ?_
        exact w.osome g10 (r4_or _ _) _ _
theorem t112_30 {X : Nat × Nat × qC} {d : Nat} {x1 : Int} {x2 : Int} {x3 : Int} {x4 : Int} {x5 : Int} {x6 : Int} {M : Mm}  {R : Mm → Prop} (hx1 : R4 x1) (hx2 : R4 x2) (hx3 : R4 x3) (hx4 : R4 x4) (hx5 : R4 x5) (hx6 : R4 x6) (w : Wp (f112_30 x1 x2 x3 x4 x5 x6 M) (Sum.elim (E112_24 X d x1 x2 R) R)) : mE X (d + 2) 112 0 30 [some (.ref 142), some (.int (Int32.ofInt x1)), some (.int (Int32.ofInt x2)), some (.int (Int32.ofInt x3)), some (.int (Int32.ofInt x4)), some (.int (Int32.ofInt x5)), some (.int (Int32.ofInt x6))] [] M (fun v M2 => R M2) :=
  Wp.olp (f := fun s : Int × Int => lb112_30 x1 x2 x3 x4 s.1 s.2 M) (s := (x5, x6)) (E := E112_30 X d x1 x2 x3 x4 M R) w (fun s w hx5 hx6 => tb112_30 hx1 hx2 hx3 hx4 hx5 hx6 w) hx5 hx6
noncomputable def lb112_24 (x1 : Int) (x2 : Int) (x3 : Int) (x4 : Int) (M : Mm) : Option ((Int × Int × Mm) ⊕ (Mm)) :=
  f112_30 x1 x2 x3 x4 (-1) 0 M
noncomputable def f112_24 (x1 : Int) (x2 : Int) (x3 : Int) (x4 : Int) (M : Mm) : Option (Mm) := lp (fun s : Int × Int × Mm => lb112_24 x1 x2 s.1 s.2.1 s.2.2) (x3, x4, M)
theorem tb112_24 {X : Nat × Nat × qC} {d : Nat} {x1 : Int} {x2 : Int} {x3 : Int} {x4 : Int} {M : Mm} {o5 : Option Value} {o6 : Option Value} {R : Mm → Prop} (hx1 : R4 x1) (hx2 : R4 x2) (hx3 : R4 x3) (hx4 : R4 x4) (w : Wp (lb112_24 x1 x2 x3 x4 M) (Sum.elim (E112_24 X d x1 x2 R) R)) : mE X (d + 2) 112 0 24 [some (.ref 142), some (.int (Int32.ofInt x1)), some (.int (Int32.ofInt x2)), some (.int (Int32.ofInt x3)), some (.int (Int32.ofInt x4)), o5, o6] [] M (fun v M2 => R M2) := by
  refine mE_iconst c112_24 ?_
  refine mE_istore (ls2 := [some (.ref 142), some (.int (Int32.ofInt x1)), some (.int (Int32.ofInt x2)), some (.int (Int32.ofInt x3)), some (.int (Int32.ofInt x4)), some (.int (Int32.ofInt (-1))), o6]) c112_25 (Nat.le_of_ble_eq_true rfl) rfl ?_
  refine mE_iconst c112_27 ?_
  refine mE_istore (ls2 := [some (.ref 142), some (.int (Int32.ofInt x1)), some (.int (Int32.ofInt x2)), some (.int (Int32.ofInt x3)), some (.int (Int32.ofInt x4)), some (.int (Int32.ofInt (-1))), some (.int (Int32.ofInt 0))]) c112_28 (Nat.le_of_ble_eq_true rfl) rfl ?_
  exact t112_30 hx1 hx2 hx3 hx4 (r4_n rfl) (r4_n rfl) w
theorem t112_24 {X : Nat × Nat × qC} {d : Nat} {x1 : Int} {x2 : Int} {x3 : Int} {x4 : Int} {M : Mm} {o5 : Option Value} {o6 : Option Value} {R : Mm → Prop} (hx1 : R4 x1) (hx2 : R4 x2) (hx3 : R4 x3) (hx4 : R4 x4) (w : Wp (f112_24 x1 x2 x3 x4 M) R) : mE X (d + 2) 112 0 24 [some (.ref 142), some (.int (Int32.ofInt x1)), some (.int (Int32.ofInt x2)), some (.int (Int32.ofInt x3)), some (.int (Int32.ofInt x4)), o5, o6] [] M (fun v M2 => R M2) :=
  Wp.olp (f := fun s : Int × Int × Mm => lb112_24 x1 x2 s.1 s.2.1 s.2.2) (s := (x3, x4, M)) (E := E112_24 X d x1 x2 R) w (fun s w hx3 hx4 _ _ => tb112_24 hx1 hx2 hx3 hx4 w) hx3 hx4 _ _
noncomputable def f112 (x1 : Int) (x2 : Int) (M : Mm) : Option (Mm) :=
  (f146 x1 x2 M).bind fun v1 =>
  (f148 x1 x2 M).bind fun v4 =>
  gd (R4 (v4 - v1)) (
  gd (0 ≤ x2 ∧ x2 < 8) (
  mlet (ms M 160 (x2).toNat (v4 - v1)) fun M9 =>
  f112_24 x1 x2 v1 0 M9))
theorem t112 {X : Nat × Nat × qC} {d : Nat} {x1 : Int} {x2 : Int} {M : Mm}  {R : Mm → Prop} (hx1 : R4 x1) (hx2 : R4 x2) (w : Wp (f112 x1 x2 M) R) : mE X (d + 2) 112 0 0 [some (.ref 142), some (.int (Int32.ofInt x1)), some (.int (Int32.ofInt x2)), none, none, none, none] [] M (fun v M2 => R M2) := by
  refine mE_aload_n c112_0 rfl ?_
  refine mE_iload_n c112_1 rfl ?_
  refine mE_iload_n c112_2 rfl ?_
  refine mE_virtual1 (b := 142) (as := [.int (Int32.ofInt x1), .int (Int32.ofInt x2)]) (r := []) c112_3 qo112 qK12_242 qo146 rfl rfl rfl (ok_lit rfl rfl rfl) (Nat.le_of_ble_eq_true rfl) (s146 (d := d + 0) hx1 hx2 w.obind) ?_
  rintro v1 _ q3 ⟨rfl, w⟩
  refine mE_istore_n (ls2 := [some (.ref 142), some (.int (Int32.ofInt x1)), some (.int (Int32.ofInt x2)), some (.int (Int32.ofInt v1)), none, none, none]) c112_6 (Nat.le_of_ble_eq_true rfl) rfl ?_
  refine mE_aload_n c112_7 rfl ?_
  refine mE_getA c112_8 qo112 qF12_64 (ok_lit rfl rfl rfl) rfl ⟨by decide, by decide⟩ ?_
  refine mE_iload_n c112_11 rfl ?_
  refine mE_aload_n c112_12 rfl ?_
  refine mE_iload_n c112_13 rfl ?_
  refine mE_iload_n c112_14 rfl ?_
  refine mE_virtual1 (b := 142) (as := [.int (Int32.ofInt x1), .int (Int32.ofInt x2)]) (r := [.int (Int32.ofInt x2), .ref 160]) c112_15 qo112 qK12_239 qo148 rfl rfl rfl (ok_lit rfl rfl rfl) (Nat.le_of_ble_eq_true rfl) (s148 (d := d + 1) hx1 hx2 w.obind) ?_
  rintro v4 _ q6 ⟨rfl, w⟩
  refine mE_iload_n c112_18 rfl ?_
  obtain ⟨g7, w⟩ := w.ogd
  refine mE_isub c112_19 ?_
  obtain ⟨g8, w⟩ := w.ogd
  obtain ⟨M9, m10, w⟩ := w.mlet
  refine mE_iastore c112_20 (ok_lit rfl rfl rfl) hx2 g8 g7 ?_
  refine mE_M m10 ?_
  refine mE_iconst c112_21 ?_
  refine mE_istore (ls2 := [some (.ref 142), some (.int (Int32.ofInt x1)), some (.int (Int32.ofInt x2)), some (.int (Int32.ofInt v1)), some (.int (Int32.ofInt 0)), none, none]) c112_22 (Nat.le_of_ble_eq_true rfl) rfl ?_
  exact t112_24 hx1 hx2 q3 (r4_n rfl) w
theorem s112 {X : Nat × Nat × qC} {d : Nat} {x1 : Int} {x2 : Int} {M : Mm} {R : Mm → Prop} (hx1 : R4 x1) (hx2 : R4 x2) (w : Wp (f112 x1 x2 M) R) : mC X (d + 3) 112 0 [.ref 142, .int (Int32.ofInt x1), .int (Int32.ofInt x2)] M (fun v M2 => R M2) :=
  mC_of (qent_mk qx112 rfl rfl rfl) (t112 hx1 hx2 w)
/-! SaggingNetModel.lays -/
def E140_118 (X : Nat × Nat × qC) (d : Nat) (x1 : Int) (x2 : Int) (x3 : Int) (R : Int × Mm → Prop) : Int × Mm → Prop := fun s => R4 s.1 → ∀ (o5 : Option Value), ∀ (o6 : Option Value), mE X (d + 0) 140 1 118 [some (.ref 142), some (.int (Int32.ofInt x1)), some (.int (Int32.ofInt x2)), some (.int (Int32.ofInt x3)), some (.int (Int32.ofInt s.1)), o5, o6] [] s.2 (fun v M2 => R (v, M2))
def E140_86 (X : Nat × Nat × qC) (d : Nat) (x1 : Int) (x2 : Int) (x3 : Int) (R : Int × Mm → Prop) : Int × Mm → Prop := fun s => R4 s.1 → mE X (d + 0) 140 1 86 [some (.ref 142), some (.int (Int32.ofInt x1)), some (.int (Int32.ofInt x2)), some (.int (Int32.ofInt x3)), some (.int (Int32.ofInt s.1)), none, none] [] s.2 (fun v M2 => R (v, M2))
def E140_62 (X : Nat × Nat × qC) (d : Nat) (x1 : Int) (x2 : Int) (x3 : Int) (R : Int × Mm → Prop) : Int × Mm → Prop := fun s => R4 s.1 → mE X (d + 0) 140 1 62 [some (.ref 142), some (.int (Int32.ofInt x1)), some (.int (Int32.ofInt x2)), some (.int (Int32.ofInt x3)), some (.int (Int32.ofInt s.1)), none, none] [] s.2 (fun v M2 => R (v, M2))
def E140_5 (X : Nat × Nat × qC) (d : Nat) (x1 : Int) (x2 : Int) (R : Int × Mm → Prop) : Int × Int × Mm → Prop := fun s => R4 s.1 → R4 s.2.1 → mE X (d + 0) 140 1 5 [some (.ref 142), some (.int (Int32.ofInt x1)), some (.int (Int32.ofInt x2)), some (.int (Int32.ofInt s.1)), some (.int (Int32.ofInt s.2.1)), none, none] [] s.2.2 (fun v M2 => R (v, M2))
noncomputable def f140_53 (x1 : Int) (x2 : Int) (x3 : Int) (x4 : Int) (M : Mm) : Option ((Int × Int × Mm) ⊕ (Int × Mm)) :=
  gd (R4 (x4 + 1)) (
  some (.inl (x3, (x4 + 1), M)))
theorem t140_53 {X : Nat × Nat × qC} {d : Nat} {x1 : Int} {x2 : Int} {x3 : Int} {x4 : Int} {M : Mm}  {R : Int × Mm → Prop} (hx1 : R4 x1) (hx2 : R4 x2) (hx3 : R4 x3) (hx4 : R4 x4) (w : Wp (f140_53 x1 x2 x3 x4 M) (Sum.elim (E140_5 X d x1 x2 R) R)) : mE X (d + 0) 140 1 53 [some (.ref 142), some (.int (Int32.ofInt x1)), some (.int (Int32.ofInt x2)), some (.int (Int32.ofInt x3)), some (.int (Int32.ofInt x4)), none, none] [] M (fun v M2 => R (v, M2)) := by
  obtain ⟨g1, w⟩ := w.ogd
  refine mE_iinc (ls2 := [some (.ref 142), some (.int (Int32.ofInt x1)), some (.int (Int32.ofInt x2)), some (.int (Int32.ofInt x3)), some (.int (Int32.ofInt (x4 + 1))), none, none]) c140_53 rfl (Nat.le_of_ble_eq_true rfl) rfl ?_
  refine mE_goto (t := 5) c140_56 rfl ?_
  exact w.osome hx3 g1
noncomputable def f140_303 (x1 : Int) (x2 : Int) (x3 : Int) (x4 : Int) (M : Mm) : Option ((Int × Mm) ⊕ (Int × Mm)) :=
  gd (R4 (x4 + 1)) (
  some (.inl ((x4 + 1), M)))
theorem t140_303 {X : Nat × Nat × qC} {d : Nat} {x1 : Int} {x2 : Int} {x3 : Int} {x4 : Int} {M : Mm} {o5 : Option Value} {o6 : Option Value} {R : Int × Mm → Prop} (hx1 : R4 x1) (hx2 : R4 x2) (hx3 : R4 x3) (hx4 : R4 x4) (w : Wp (f140_303 x1 x2 x3 x4 M) (Sum.elim (E140_118 X d x1 x2 x3 R) R)) : mE X (d + 0) 140 1 303 [some (.ref 142), some (.int (Int32.ofInt x1)), some (.int (Int32.ofInt x2)), some (.int (Int32.ofInt x3)), some (.int (Int32.ofInt x4)), o5, o6] [] M (fun v M2 => R (v, M2)) := by
  obtain ⟨g1, w⟩ := w.ogd
  refine mE_iinc (ls2 := [some (.ref 142), some (.int (Int32.ofInt x1)), some (.int (Int32.ofInt x2)), some (.int (Int32.ofInt x3)), some (.int (Int32.ofInt (x4 + 1))), o5, o6]) c140_303 rfl (Nat.le_of_ble_eq_true rfl) rfl ?_
  refine mE_goto (t := 118) c140_306 rfl ?_
  exact w.osome g1 _ _
noncomputable def f140_240 (x1 : Int) (x2 : Int) (x3 : Int) (x4 : Int) (x5 : Int) (x6 : Int) (M : Mm) : Option ((Int × Mm) ⊕ (Int × Mm)) :=
  if x5 = (-1) then
  (f140_303 x1 x2 x3 x4 M)
  else
  (if x6 = (-1) then
  (f140_303 x1 x2 x3 x4 M)
  else
  (gd (R4 (14 * x5)) (
  gd (R4 ((14 * x5) + x6)) (
  gd (0 ≤ ((14 * x5) + x6) ∧ ((14 * x5) + x6) < 98) (
  gd (0 ≤ x4 ∧ x4 < 14) (
  gd (R8 ((M 164 (((14 * x5) + x6)).toNat) - (M 149 (x4).toNat))) (
  mlet (ms M 164 (((14 * x5) + x6)).toNat ((M 164 (((14 * x5) + x6)).toNat) - (M 149 (x4).toNat))) fun M10 =>
  gd (R4 (14 * x6)) (
  gd (R4 ((14 * x6) + x5)) (
  gd (0 ≤ ((14 * x6) + x5) ∧ ((14 * x6) + x5) < 98) (
  gd (R8 ((M10 164 (((14 * x6) + x5)).toNat) - (M10 149 (x4).toNat))) (
  mlet (ms M10 164 (((14 * x6) + x5)).toNat ((M10 164 (((14 * x6) + x5)).toNat) - (M10 149 (x4).toNat))) fun M18 =>
  f140_303 x1 x2 x3 x4 M18)))))))))))
theorem t140_240 {X : Nat × Nat × qC} {d : Nat} {x1 : Int} {x2 : Int} {x3 : Int} {x4 : Int} {x5 : Int} {x6 : Int} {M : Mm}  {R : Int × Mm → Prop} (hx1 : R4 x1) (hx2 : R4 x2) (hx3 : R4 x3) (hx4 : R4 x4) (hx5 : R4 x5) (hx6 : R4 x6) (w : Wp (f140_240 x1 x2 x3 x4 x5 x6 M) (Sum.elim (E140_118 X d x1 x2 x3 R) R)) : mE X (d + 0) 140 1 240 [some (.ref 142), some (.int (Int32.ofInt x1)), some (.int (Int32.ofInt x2)), some (.int (Int32.ofInt x3)), some (.int (Int32.ofInt x4)), some (.int (Int32.ofInt x5)), some (.int (Int32.ofInt x6))] [] M (fun v M2 => R (v, M2)) := by
  refine mE_iload c140_240 rfl ?_
  refine mE_iconst c140_242 ?_
  by_cases e1 : x5 = (-1)
  · have w := w.pos e1
    refine mE_icmp_eq_T (t := 303) c140_243 rfl hx5 (r4_n rfl) e1 ?_
    exact t140_303 hx1 hx2 hx3 hx4 w
  · have w := w.neg e1
    refine mE_icmp_eq_F (t := 303) c140_243 rfl hx5 (r4_n rfl) e1 ?_
    refine mE_iload c140_246 rfl ?_
    refine mE_iconst c140_248 ?_
    by_cases e2 : x6 = (-1)
    · have w := w.pos e2
      refine mE_icmp_ne_F (t := 255) c140_249 rfl hx6 (r4_n rfl) e2 ?_
      refine mE_goto (t := 303) c140_252 rfl ?_
      exact t140_303 hx1 hx2 hx3 hx4 w
    · have w := w.neg e2
      refine mE_icmp_ne_T (t := 255) c140_249 rfl hx6 (r4_n rfl) e2 ?_
      refine mE_aload_n c140_255 rfl ?_
      refine mE_getA c140_256 qo140 qF12_77 (ok_lit rfl rfl rfl) rfl ⟨by decide, by decide⟩ ?_
      refine mE_bipush (x := 14) c140_259 rfl ?_
      refine mE_iload c140_261 rfl ?_
      obtain ⟨g3, w⟩ := w.ogd
      refine mE_imul c140_263 ?_
      refine mE_iload c140_264 rfl ?_
      obtain ⟨g4, w⟩ := w.ogd
      refine mE_iadd c140_266 ?_
      refine mE_dup2 c140_267 (Nat.ne_of_beq_eq_false rfl) rfl ?_
      obtain ⟨g5, w⟩ := w.ogd
      refine mE_laload c140_268 (ok_lit rfl rfl rfl) g4 g5 ?_
      intro u6
      refine mE_aload_n c140_269 rfl ?_
      refine mE_getA c140_270 qo140 qF12_30 (ok_lit rfl rfl rfl) rfl ⟨by decide, by decide⟩ ?_
      refine mE_iload c140_273 rfl ?_
      obtain ⟨g7, w⟩ := w.ogd
      refine mE_iaload c140_275 (ok_lit rfl rfl rfl) hx4 g7 ?_
      intro u8
      refine mE_i2l c140_276 u8 ?_
      obtain ⟨g9, w⟩ := w.ogd
      refine mE_lsub c140_277 ?_
      obtain ⟨M10, m11, w⟩ := w.mlet
      refine mE_lastore c140_278 (ok_lit rfl rfl rfl) g4 g5 g9 ?_
      refine mE_M m11 ?_
      refine mE_aload_n c140_279 rfl ?_
      refine mE_getA c140_280 qo140 qF12_77 (ok_lit rfl rfl rfl) rfl ⟨by decide, by decide⟩ ?_
      refine mE_bipush (x := 14) c140_283 rfl ?_
      refine mE_iload c140_285 rfl ?_
      obtain ⟨g12, w⟩ := w.ogd
      refine mE_imul c140_287 ?_
      refine mE_iload c140_288 rfl ?_
      obtain ⟨g13, w⟩ := w.ogd
      refine mE_iadd c140_290 ?_
      refine mE_dup2 c140_291 (Nat.ne_of_beq_eq_false rfl) rfl ?_
      obtain ⟨g14, w⟩ := w.ogd
      refine mE_laload c140_292 (ok_lit rfl rfl rfl) g13 g14 ?_
      intro u15
      refine mE_aload_n c140_293 rfl ?_
      refine mE_getA c140_294 qo140 qF12_30 (ok_lit rfl rfl rfl) rfl ⟨by decide, by decide⟩ ?_
      refine mE_iload c140_297 rfl ?_
      refine mE_iaload c140_299 (ok_lit rfl rfl rfl) hx4 g7 ?_
      intro u16
      refine mE_i2l c140_300 u16 ?_
      obtain ⟨g17, w⟩ := w.ogd
      refine mE_lsub c140_301 ?_
      obtain ⟨M18, m19, w⟩ := w.mlet
      refine mE_lastore c140_302 (ok_lit rfl rfl rfl) g13 g14 g17 ?_
      refine mE_M m19 ?_
      exact t140_303 hx1 hx2 hx3 hx4 w
noncomputable def f140_213 (x1 : Int) (x2 : Int) (x3 : Int) (x4 : Int) (x5 : Int) (x6 : Int) (M : Mm) : Option ((Int × Mm) ⊕ (Int × Mm)) :=
  if x6 = (-1) then
  (f140_240 x1 x2 x3 x4 x5 x6 M)
  else
  (gd (R4 (15 * x6)) (
  gd (0 ≤ (15 * x6) ∧ (15 * x6) < 98) (
  gd (0 ≤ x4 ∧ x4 < 14) (
  gd (R8 ((M 164 ((15 * x6)).toNat) + (M 149 (x4).toNat))) (
  mlet (ms M 164 ((15 * x6)).toNat ((M 164 ((15 * x6)).toNat) + (M 149 (x4).toNat))) fun M8 =>
  f140_240 x1 x2 x3 x4 x5 x6 M8)))))
theorem t140_213 {X : Nat × Nat × qC} {d : Nat} {x1 : Int} {x2 : Int} {x3 : Int} {x4 : Int} {x5 : Int} {x6 : Int} {M : Mm}  {R : Int × Mm → Prop} (hx1 : R4 x1) (hx2 : R4 x2) (hx3 : R4 x3) (hx4 : R4 x4) (hx5 : R4 x5) (hx6 : R4 x6) (w : Wp (f140_213 x1 x2 x3 x4 x5 x6 M) (Sum.elim (E140_118 X d x1 x2 x3 R) R)) : mE X (d + 0) 140 1 213 [some (.ref 142), some (.int (Int32.ofInt x1)), some (.int (Int32.ofInt x2)), some (.int (Int32.ofInt x3)), some (.int (Int32.ofInt x4)), some (.int (Int32.ofInt x5)), some (.int (Int32.ofInt x6))] [] M (fun v M2 => R (v, M2)) := by
  refine mE_iload c140_213 rfl ?_
  refine mE_iconst c140_215 ?_
  by_cases e1 : x6 = (-1)
  · have w := w.pos e1
    refine mE_icmp_eq_T (t := 240) c140_216 rfl hx6 (r4_n rfl) e1 ?_
    exact t140_240 hx1 hx2 hx3 hx4 hx5 hx6 w
  · have w := w.neg e1
    refine mE_icmp_eq_F (t := 240) c140_216 rfl hx6 (r4_n rfl) e1 ?_
    refine mE_aload_n c140_219 rfl ?_
    refine mE_getA c140_220 qo140 qF12_77 (ok_lit rfl rfl rfl) rfl ⟨by decide, by decide⟩ ?_
    refine mE_bipush (x := 15) c140_223 rfl ?_
    refine mE_iload c140_225 rfl ?_
    obtain ⟨g2, w⟩ := w.ogd
    refine mE_imul c140_227 ?_
    refine mE_dup2 c140_228 (Nat.ne_of_beq_eq_false rfl) rfl ?_
    obtain ⟨g3, w⟩ := w.ogd
    refine mE_laload c140_229 (ok_lit rfl rfl rfl) g2 g3 ?_
    intro u4
    refine mE_aload_n c140_230 rfl ?_
    refine mE_getA c140_231 qo140 qF12_30 (ok_lit rfl rfl rfl) rfl ⟨by decide, by decide⟩ ?_
    refine mE_iload c140_234 rfl ?_
    obtain ⟨g5, w⟩ := w.ogd
    refine mE_iaload c140_236 (ok_lit rfl rfl rfl) hx4 g5 ?_
    intro u6
    refine mE_i2l c140_237 u6 ?_
    obtain ⟨g7, w⟩ := w.ogd
    refine mE_ladd c140_238 ?_
    obtain ⟨M8, m9, w⟩ := w.mlet
    refine mE_lastore c140_239 (ok_lit rfl rfl rfl) g2 g3 g7 ?_
    refine mE_M m9 ?_
    exact t140_240 hx1 hx2 hx3 hx4 hx5 hx6 w
noncomputable def lb140_118 (x1 : Int) (x2 : Int) (x3 : Int) (x4 : Int) (M : Mm) : Option ((Int × Mm) ⊕ (Int × Mm)) :=
  if x4 < (M 142 4) then
  (gd (R4 (x1 + x4)) (
  gd (0 ≤ (x1 + x4) ∧ (x1 + x4) < 36400) (
  if (M 144 ((x1 + x4)).toNat) = 0 then
  (gd (0 ≤ x4 ∧ x4 < 14) (
  gd (0 ≤ (M 147 (x4).toNat) ∧ (M 147 (x4).toNat) < 8) (
  if (M 158 ((M 147 (x4).toNat)).toNat) = x2 then
  (gd (0 ≤ (M 148 (x4).toNat) ∧ (M 148 (x4).toNat) < 8) (
  if (M 165 ((M 147 (x4).toNat)).toNat) = (-1) then
  (f140_213 x1 x2 x3 x4 (M 165 ((M 147 (x4).toNat)).toNat) (M 165 ((M 148 (x4).toNat)).toNat) M)
  else
  (gd (R4 (15 * (M 165 ((M 147 (x4).toNat)).toNat))) (
  gd (0 ≤ (15 * (M 165 ((M 147 (x4).toNat)).toNat)) ∧ (15 * (M 165 ((M 147 (x4).toNat)).toNat)) < 98) (
  gd (R8 ((M 164 ((15 * (M 165 ((M 147 (x4).toNat)).toNat))).toNat) + (M 149 (x4).toNat))) (
  mlet (ms M 164 ((15 * (M 165 ((M 147 (x4).toNat)).toNat))).toNat ((M 164 ((15 * (M 165 ((M 147 (x4).toNat)).toNat))).toNat) + (M 149 (x4).toNat))) fun M23 =>
  f140_213 x1 x2 x3 x4 (M 165 ((M 147 (x4).toNat)).toNat) (M 165 ((M 148 (x4).toNat)).toNat) M23))))))
  else
  (f140_303 x1 x2 x3 x4 M))))
  else
  (f140_303 x1 x2 x3 x4 M))))
  else
  (oinr (some (x3, M)))
noncomputable def f140_118 (x1 : Int) (x2 : Int) (x3 : Int) (x4 : Int) (M : Mm) : Option (Int × Mm) := lp (fun s : Int × Mm => lb140_118 x1 x2 x3 s.1 s.2) (x4, M)
theorem tb140_118 {X : Nat × Nat × qC} {d : Nat} {x1 : Int} {x2 : Int} {x3 : Int} {x4 : Int} {M : Mm} {o5 : Option Value} {o6 : Option Value} {R : Int × Mm → Prop} (hx1 : R4 x1) (hx2 : R4 x2) (hx3 : R4 x3) (hx4 : R4 x4) (w : Wp (lb140_118 x1 x2 x3 x4 M) (Sum.elim (E140_118 X d x1 x2 x3 R) R)) : mE X (d + 0) 140 1 118 [some (.ref 142), some (.int (Int32.ofInt x1)), some (.int (Int32.ofInt x2)), some (.int (Int32.ofInt x3)), some (.int (Int32.ofInt x4)), o5, o6] [] M (fun v M2 => R (v, M2)) := by
  refine mE_iload c140_118 rfl ?_
  refine mE_aload_n c140_120 rfl ?_
  refine mE_getI c140_121 qo140 qF12_194 (ok_lit rfl rfl rfl) rfl ?_
  intro u1
  by_cases e2 : x4 < (M 142 4)
  · have w := w.pos e2
    refine mE_icmp_ge_F (t := 309) c140_124 rfl hx4 u1 e2 ?_
    refine mE_aload_n c140_127 rfl ?_
    refine mE_getA c140_128 qo140 qF12_14 (ok_lit rfl rfl rfl) rfl ⟨by decide, by decide⟩ ?_
    refine mE_iload_n c140_131 rfl ?_
    refine mE_iload c140_132 rfl ?_
    obtain ⟨g3, w⟩ := w.ogd
    refine mE_iadd c140_134 ?_
    obtain ⟨g4, w⟩ := w.ogd
    refine mE_iaload c140_135 (ok_lit rfl rfl rfl) g3 g4 ?_
    intro u5
    by_cases e6 : (M 144 ((x1 + x4)).toNat) = 0
    · have w := w.pos e6
      refine mE_if_ne_F (t := 303) c140_136 rfl u5 e6 ?_
      refine mE_aload_n c140_139 rfl ?_
      refine mE_getA c140_140 qo140 qF12_58 (ok_lit rfl rfl rfl) rfl ⟨by decide, by decide⟩ ?_
      refine mE_aload_n c140_143 rfl ?_
      refine mE_getA c140_144 qo140 qF12_24 (ok_lit rfl rfl rfl) rfl ⟨by decide, by decide⟩ ?_
      refine mE_iload c140_147 rfl ?_
      obtain ⟨g7, w⟩ := w.ogd
      refine mE_iaload c140_149 (ok_lit rfl rfl rfl) hx4 g7 ?_
      intro u8
      obtain ⟨g9, w⟩ := w.ogd
      refine mE_iaload c140_150 (ok_lit rfl rfl rfl) u8 g9 ?_
      intro u10
      refine mE_iload_n c140_151 rfl ?_
      by_cases e11 : (M 158 ((M 147 (x4).toNat)).toNat) = x2
      · have w := w.pos e11
        refine mE_icmp_eq_T (t := 158) c140_152 rfl u10 hx2 e11 ?_
        refine mE_aload_n c140_158 rfl ?_
        refine mE_getA c140_159 qo140 qF12_80 (ok_lit rfl rfl rfl) rfl ⟨by decide, by decide⟩ ?_
        refine mE_aload_n c140_162 rfl ?_
        refine mE_getA c140_163 qo140 qF12_24 (ok_lit rfl rfl rfl) rfl ⟨by decide, by decide⟩ ?_
        refine mE_iload c140_166 rfl ?_
        refine mE_iaload c140_168 (ok_lit rfl rfl rfl) hx4 g7 ?_
        intro u12
        refine mE_iaload c140_169 (ok_lit rfl rfl rfl) u12 g9 ?_
        intro u13
        refine mE_istore (ls2 := [some (.ref 142), some (.int (Int32.ofInt x1)), some (.int (Int32.ofInt x2)), some (.int (Int32.ofInt x3)), some (.int (Int32.ofInt x4)), some (.int (Int32.ofInt (M 165 ((M 147 (x4).toNat)).toNat))), o6]) c140_170 (Nat.le_of_ble_eq_true rfl) rfl ?_
        refine mE_aload_n c140_172 rfl ?_
        refine mE_getA c140_173 qo140 qF12_80 (ok_lit rfl rfl rfl) rfl ⟨by decide, by decide⟩ ?_
        refine mE_aload_n c140_176 rfl ?_
        refine mE_getA c140_177 qo140 qF12_27 (ok_lit rfl rfl rfl) rfl ⟨by decide, by decide⟩ ?_
        refine mE_iload c140_180 rfl ?_
        refine mE_iaload c140_182 (ok_lit rfl rfl rfl) hx4 g7 ?_
        intro u14
        obtain ⟨g15, w⟩ := w.ogd
        refine mE_iaload c140_183 (ok_lit rfl rfl rfl) u14 g15 ?_
        intro u16
        refine mE_istore (ls2 := [some (.ref 142), some (.int (Int32.ofInt x1)), some (.int (Int32.ofInt x2)), some (.int (Int32.ofInt x3)), some (.int (Int32.ofInt x4)), some (.int (Int32.ofInt (M 165 ((M 147 (x4).toNat)).toNat))), some (.int (Int32.ofInt (M 165 ((M 148 (x4).toNat)).toNat)))]) c140_184 (Nat.le_of_ble_eq_true rfl) rfl ?_
        refine mE_iload c140_186 rfl ?_
        refine mE_iconst c140_188 ?_
        by_cases e17 : (M 165 ((M 147 (x4).toNat)).toNat) = (-1)
        · have w := w.pos e17
          refine mE_icmp_eq_T (t := 213) c140_189 rfl u13 (r4_n rfl) e17 ?_
          exact t140_213 hx1 hx2 hx3 hx4 u13 u16 w
        · have w := w.neg e17
          refine mE_icmp_eq_F (t := 213) c140_189 rfl u13 (r4_n rfl) e17 ?_
          refine mE_aload_n c140_192 rfl ?_
          refine mE_getA c140_193 qo140 qF12_77 (ok_lit rfl rfl rfl) rfl ⟨by decide, by decide⟩ ?_
          refine mE_bipush (x := 15) c140_196 rfl ?_
          refine mE_iload c140_198 rfl ?_
          obtain ⟨g18, w⟩ := w.ogd
          refine mE_imul c140_200 ?_
          refine mE_dup2 c140_201 (Nat.ne_of_beq_eq_false rfl) rfl ?_
          obtain ⟨g19, w⟩ := w.ogd
          refine mE_laload c140_202 (ok_lit rfl rfl rfl) g18 g19 ?_
          intro u20
          refine mE_aload_n c140_203 rfl ?_
          refine mE_getA c140_204 qo140 qF12_30 (ok_lit rfl rfl rfl) rfl ⟨by decide, by decide⟩ ?_
          refine mE_iload c140_207 rfl ?_
          refine mE_iaload c140_209 (ok_lit rfl rfl rfl) hx4 g7 ?_
          intro u21
          refine mE_i2l c140_210 u21 ?_
          obtain ⟨g22, w⟩ := w.ogd
          refine mE_ladd c140_211 ?_
          obtain ⟨M23, m24, w⟩ := w.mlet
          refine mE_lastore c140_212 (ok_lit rfl rfl rfl) g18 g19 g22 ?_
          refine mE_M m24 ?_
          exact t140_213 hx1 hx2 hx3 hx4 u13 u16 w
      · have w := w.neg e11
        refine mE_icmp_eq_F (t := 158) c140_152 rfl u10 hx2 e11 ?_
        refine mE_goto (t := 303) c140_155 rfl ?_
        exact t140_303 hx1 hx2 hx3 hx4 w
    · have w := w.neg e6
      refine mE_if_ne_T (t := 303) c140_136 rfl u5 e6 ?_
      exact t140_303 hx1 hx2 hx3 hx4 w
  · have w := w.neg e2
    refine mE_icmp_ge_T (t := 309) c140_124 rfl hx4 u1 e2 ?_
    have w := w.oinr
    refine mE_iload_n c140_309 rfl ?_
    exact mE_iret c140_310 qr140 hx3 w.osome
theorem t140_118 {X : Nat × Nat × qC} {d : Nat} {x1 : Int} {x2 : Int} {x3 : Int} {x4 : Int} {M : Mm} {o5 : Option Value} {o6 : Option Value} {R : Int × Mm → Prop} (hx1 : R4 x1) (hx2 : R4 x2) (hx3 : R4 x3) (hx4 : R4 x4) (w : Wp (f140_118 x1 x2 x3 x4 M) R) : mE X (d + 0) 140 1 118 [some (.ref 142), some (.int (Int32.ofInt x1)), some (.int (Int32.ofInt x2)), some (.int (Int32.ofInt x3)), some (.int (Int32.ofInt x4)), o5, o6] [] M (fun v M2 => R (v, M2)) :=
  Wp.olp (f := fun s : Int × Mm => lb140_118 x1 x2 x3 s.1 s.2) (s := (x4, M)) (E := E140_118 X d x1 x2 x3 R) w (fun s w hx4 _ _ => tb140_118 hx1 hx2 hx3 hx4 w) hx4 _ _
noncomputable def lb140_86 (x1 : Int) (x2 : Int) (x3 : Int) (x4 : Int) (M : Mm) : Option ((Int × Mm) ⊕ (Int × Mm)) :=
  if x4 < x3 then
  (gd (R4 (14 * x4)) (
  gd (R4 ((14 * x4) + 7)) (
  gd (R4 (((14 * x4) + 7) + x4)) (
  gd (0 ≤ (((14 * x4) + 7) + x4) ∧ (((14 * x4) + 7) + x4) < 98) (
  mlet (ms M 164 ((((14 * x4) + 7) + x4)).toNat 1) fun M6 =>
  gd (R4 (x4 + 1)) (
  some (.inl ((x4 + 1), M6))))))))
  else
  (oinr (f140_118 x1 x2 x3 0 M))
noncomputable def f140_86 (x1 : Int) (x2 : Int) (x3 : Int) (x4 : Int) (M : Mm) : Option (Int × Mm) := lp (fun s : Int × Mm => lb140_86 x1 x2 x3 s.1 s.2) (x4, M)
theorem tb140_86 {X : Nat × Nat × qC} {d : Nat} {x1 : Int} {x2 : Int} {x3 : Int} {x4 : Int} {M : Mm}  {R : Int × Mm → Prop} (hx1 : R4 x1) (hx2 : R4 x2) (hx3 : R4 x3) (hx4 : R4 x4) (w : Wp (lb140_86 x1 x2 x3 x4 M) (Sum.elim (E140_86 X d x1 x2 x3 R) R)) : mE X (d + 0) 140 1 86 [some (.ref 142), some (.int (Int32.ofInt x1)), some (.int (Int32.ofInt x2)), some (.int (Int32.ofInt x3)), some (.int (Int32.ofInt x4)), none, none] [] M (fun v M2 => R (v, M2)) := by
  refine mE_iload c140_86 rfl ?_
  refine mE_iload_n c140_88 rfl ?_
  by_cases e1 : x4 < x3
  · have w := w.pos e1
    refine mE_icmp_ge_F (t := 115) c140_89 rfl hx4 hx3 e1 ?_
    refine mE_aload_n c140_92 rfl ?_
    refine mE_getA c140_93 qo140 qF12_77 (ok_lit rfl rfl rfl) rfl ⟨by decide, by decide⟩ ?_
    refine mE_bipush (x := 14) c140_96 rfl ?_
    refine mE_iload c140_98 rfl ?_
    obtain ⟨g2, w⟩ := w.ogd
    refine mE_imul c140_100 ?_
    refine mE_bipush (x := 7) c140_101 rfl ?_
    obtain ⟨g3, w⟩ := w.ogd
    refine mE_iadd c140_103 ?_
    refine mE_iload c140_104 rfl ?_
    obtain ⟨g4, w⟩ := w.ogd
    refine mE_iadd c140_106 ?_
    refine mE_lconst (x := 1) c140_107 rfl ?_
    obtain ⟨g5, w⟩ := w.ogd
    obtain ⟨M6, m7, w⟩ := w.mlet
    refine mE_lastore c140_108 (ok_lit rfl rfl rfl) g4 g5 (r8_n rfl) ?_
    refine mE_M m7 ?_
    obtain ⟨g8, w⟩ := w.ogd
    refine mE_iinc (ls2 := [some (.ref 142), some (.int (Int32.ofInt x1)), some (.int (Int32.ofInt x2)), some (.int (Int32.ofInt x3)), some (.int (Int32.ofInt (x4 + 1))), none, none]) c140_109 rfl (Nat.le_of_ble_eq_true rfl) rfl ?_
    refine mE_goto (t := 86) c140_112 rfl ?_
    exact w.osome g8
  · have w := w.neg e1
    refine mE_icmp_ge_T (t := 115) c140_89 rfl hx4 hx3 e1 ?_
    have w := w.oinr
    refine mE_iconst c140_115 ?_
    refine mE_istore (ls2 := [some (.ref 142), some (.int (Int32.ofInt x1)), some (.int (Int32.ofInt x2)), some (.int (Int32.ofInt x3)), some (.int (Int32.ofInt 0)), none, none]) c140_116 (Nat.le_of_ble_eq_true rfl) rfl ?_
    exact t140_118 hx1 hx2 hx3 (r4_n rfl) w
theorem t140_86 {X : Nat × Nat × qC} {d : Nat} {x1 : Int} {x2 : Int} {x3 : Int} {x4 : Int} {M : Mm}  {R : Int × Mm → Prop} (hx1 : R4 x1) (hx2 : R4 x2) (hx3 : R4 x3) (hx4 : R4 x4) (w : Wp (f140_86 x1 x2 x3 x4 M) R) : mE X (d + 0) 140 1 86 [some (.ref 142), some (.int (Int32.ofInt x1)), some (.int (Int32.ofInt x2)), some (.int (Int32.ofInt x3)), some (.int (Int32.ofInt x4)), none, none] [] M (fun v M2 => R (v, M2)) :=
  Wp.olp (f := fun s : Int × Mm => lb140_86 x1 x2 x3 s.1 s.2) (s := (x4, M)) (E := E140_86 X d x1 x2 x3 R) w (fun s w hx4 => tb140_86 hx1 hx2 hx3 hx4 w) hx4
noncomputable def lb140_62 (x1 : Int) (x2 : Int) (x3 : Int) (x4 : Int) (M : Mm) : Option ((Int × Mm) ⊕ (Int × Mm)) :=
  if x4 < 98 then
  (gd (0 ≤ x4 ∧ x4 < 98) (
  mlet (ms M 164 (x4).toNat 0) fun M3 =>
  gd (R4 (x4 + 1)) (
  some (.inl ((x4 + 1), M3)))))
  else
  (oinr (f140_86 x1 x2 x3 0 M))
noncomputable def f140_62 (x1 : Int) (x2 : Int) (x3 : Int) (x4 : Int) (M : Mm) : Option (Int × Mm) := lp (fun s : Int × Mm => lb140_62 x1 x2 x3 s.1 s.2) (x4, M)
theorem tb140_62 {X : Nat × Nat × qC} {d : Nat} {x1 : Int} {x2 : Int} {x3 : Int} {x4 : Int} {M : Mm}  {R : Int × Mm → Prop} (hx1 : R4 x1) (hx2 : R4 x2) (hx3 : R4 x3) (hx4 : R4 x4) (w : Wp (lb140_62 x1 x2 x3 x4 M) (Sum.elim (E140_62 X d x1 x2 x3 R) R)) : mE X (d + 0) 140 1 62 [some (.ref 142), some (.int (Int32.ofInt x1)), some (.int (Int32.ofInt x2)), some (.int (Int32.ofInt x3)), some (.int (Int32.ofInt x4)), none, none] [] M (fun v M2 => R (v, M2)) := by
  refine mE_iload c140_62 rfl ?_
  refine mE_bipush (x := 98) c140_64 rfl ?_
  by_cases e1 : x4 < 98
  · have w := w.pos e1
    refine mE_icmp_ge_F (t := 83) c140_66 rfl hx4 (r4_n rfl) e1 ?_
    refine mE_aload_n c140_69 rfl ?_
    refine mE_getA c140_70 qo140 qF12_77 (ok_lit rfl rfl rfl) rfl ⟨by decide, by decide⟩ ?_
    refine mE_iload c140_73 rfl ?_
    refine mE_lconst (x := 0) c140_75 rfl ?_
    obtain ⟨g2, w⟩ := w.ogd
    obtain ⟨M3, m4, w⟩ := w.mlet
    refine mE_lastore c140_76 (ok_lit rfl rfl rfl) hx4 g2 (r8_n rfl) ?_
    refine mE_M m4 ?_
    obtain ⟨g5, w⟩ := w.ogd
    refine mE_iinc (ls2 := [some (.ref 142), some (.int (Int32.ofInt x1)), some (.int (Int32.ofInt x2)), some (.int (Int32.ofInt x3)), some (.int (Int32.ofInt (x4 + 1))), none, none]) c140_77 rfl (Nat.le_of_ble_eq_true rfl) rfl ?_
    refine mE_goto (t := 62) c140_80 rfl ?_
    exact w.osome g5
  · have w := w.neg e1
    refine mE_icmp_ge_T (t := 83) c140_66 rfl hx4 (r4_n rfl) e1 ?_
    have w := w.oinr
    refine mE_iconst c140_83 ?_
    refine mE_istore (ls2 := [some (.ref 142), some (.int (Int32.ofInt x1)), some (.int (Int32.ofInt x2)), some (.int (Int32.ofInt x3)), some (.int (Int32.ofInt 0)), none, none]) c140_84 (Nat.le_of_ble_eq_true rfl) rfl ?_
    exact t140_86 hx1 hx2 hx3 (r4_n rfl) w
theorem t140_62 {X : Nat × Nat × qC} {d : Nat} {x1 : Int} {x2 : Int} {x3 : Int} {x4 : Int} {M : Mm}  {R : Int × Mm → Prop} (hx1 : R4 x1) (hx2 : R4 x2) (hx3 : R4 x3) (hx4 : R4 x4) (w : Wp (f140_62 x1 x2 x3 x4 M) R) : mE X (d + 0) 140 1 62 [some (.ref 142), some (.int (Int32.ofInt x1)), some (.int (Int32.ofInt x2)), some (.int (Int32.ofInt x3)), some (.int (Int32.ofInt x4)), none, none] [] M (fun v M2 => R (v, M2)) :=
  Wp.olp (f := fun s : Int × Mm => lb140_62 x1 x2 x3 s.1 s.2) (s := (x4, M)) (E := E140_62 X d x1 x2 x3 R) w (fun s w hx4 => tb140_62 hx1 hx2 hx3 hx4 w) hx4
noncomputable def lb140_5 (x1 : Int) (x2 : Int) (x3 : Int) (x4 : Int) (M : Mm) : Option ((Int × Int × Mm) ⊕ (Int × Mm)) :=
  if x4 < (M 142 3) then
  (gd (0 ≤ x4 ∧ x4 < 8) (
  mlet (ms M 165 (x4).toNat (-1)) fun M4 =>
  if (M4 158 (x4).toNat) = x2 then
  (if x4 = x2 then
  (f140_53 x1 x2 x3 x4 M4)
  else
  (mlet (ms M4 165 (x4).toNat x3) fun M9 =>
  gd (R4 (x3 + 1)) (
  f140_53 x1 x2 (x3 + 1) x4 M9)))
  else
  (f140_53 x1 x2 x3 x4 M4)))
  else
  (oinr (f140_62 x1 x2 x3 0 M))
noncomputable def f140_5 (x1 : Int) (x2 : Int) (x3 : Int) (x4 : Int) (M : Mm) : Option (Int × Mm) := lp (fun s : Int × Int × Mm => lb140_5 x1 x2 s.1 s.2.1 s.2.2) (x3, x4, M)
theorem tb140_5 {X : Nat × Nat × qC} {d : Nat} {x1 : Int} {x2 : Int} {x3 : Int} {x4 : Int} {M : Mm}  {R : Int × Mm → Prop} (hx1 : R4 x1) (hx2 : R4 x2) (hx3 : R4 x3) (hx4 : R4 x4) (w : Wp (lb140_5 x1 x2 x3 x4 M) (Sum.elim (E140_5 X d x1 x2 R) R)) : mE X (d + 0) 140 1 5 [some (.ref 142), some (.int (Int32.ofInt x1)), some (.int (Int32.ofInt x2)), some (.int (Int32.ofInt x3)), some (.int (Int32.ofInt x4)), none, none] [] M (fun v M2 => R (v, M2)) := by
  refine mE_iload c140_5 rfl ?_
  refine mE_aload_n c140_7 rfl ?_
  refine mE_getI c140_8 qo140 qF12_186 (ok_lit rfl rfl rfl) rfl ?_
  intro u1
  by_cases e2 : x4 < (M 142 3)
  · have w := w.pos e2
    refine mE_icmp_ge_F (t := 59) c140_11 rfl hx4 u1 e2 ?_
    refine mE_aload_n c140_14 rfl ?_
    refine mE_getA c140_15 qo140 qF12_80 (ok_lit rfl rfl rfl) rfl ⟨by decide, by decide⟩ ?_
    refine mE_iload c140_18 rfl ?_
    refine mE_iconst c140_20 ?_
    obtain ⟨g3, w⟩ := w.ogd
    obtain ⟨M4, m5, w⟩ := w.mlet
    refine mE_iastore c140_21 (ok_lit rfl rfl rfl) hx4 g3 (r4_n rfl) ?_
    refine mE_M m5 ?_
    refine mE_aload_n c140_22 rfl ?_
    refine mE_getA c140_23 qo140 qF12_58 (ok_lit rfl rfl rfl) rfl ⟨by decide, by decide⟩ ?_
    refine mE_iload c140_26 rfl ?_
    refine mE_iaload c140_28 (ok_lit rfl rfl rfl) hx4 g3 ?_
    intro u6
    refine mE_iload_n c140_29 rfl ?_
    by_cases e7 : (M4 158 (x4).toNat) = x2
    · have w := w.pos e7
      refine mE_icmp_ne_F (t := 53) c140_30 rfl u6 hx2 e7 ?_
      refine mE_iload c140_33 rfl ?_
      refine mE_iload_n c140_35 rfl ?_
      by_cases e8 : x4 = x2
      · have w := w.pos e8
        refine mE_icmp_ne_F (t := 42) c140_36 rfl hx4 hx2 e8 ?_
        refine mE_goto (t := 53) c140_39 rfl ?_
        exact t140_53 hx1 hx2 hx3 hx4 w
      · have w := w.neg e8
        refine mE_icmp_ne_T (t := 42) c140_36 rfl hx4 hx2 e8 ?_
        refine mE_aload_n c140_42 rfl ?_
        refine mE_getA c140_43 qo140 qF12_80 (ok_lit rfl rfl rfl) rfl ⟨by decide, by decide⟩ ?_
        refine mE_iload c140_46 rfl ?_
        refine mE_iload_n c140_48 rfl ?_
        obtain ⟨M9, m10, w⟩ := w.mlet
        refine mE_iastore c140_49 (ok_lit rfl rfl rfl) hx4 g3 hx3 ?_
        refine mE_M m10 ?_
        obtain ⟨g11, w⟩ := w.ogd
        refine mE_iinc (ls2 := [some (.ref 142), some (.int (Int32.ofInt x1)), some (.int (Int32.ofInt x2)), some (.int (Int32.ofInt (x3 + 1))), some (.int (Int32.ofInt x4)), none, none]) c140_50 rfl (Nat.le_of_ble_eq_true rfl) rfl ?_
        exact t140_53 hx1 hx2 g11 hx4 w
    · have w := w.neg e7
      refine mE_icmp_ne_T (t := 53) c140_30 rfl u6 hx2 e7 ?_
      exact t140_53 hx1 hx2 hx3 hx4 w
  · have w := w.neg e2
    refine mE_icmp_ge_T (t := 59) c140_11 rfl hx4 u1 e2 ?_
    have w := w.oinr
    refine mE_iconst c140_59 ?_
    refine mE_istore (ls2 := [some (.ref 142), some (.int (Int32.ofInt x1)), some (.int (Int32.ofInt x2)), some (.int (Int32.ofInt x3)), some (.int (Int32.ofInt 0)), none, none]) c140_60 (Nat.le_of_ble_eq_true rfl) rfl ?_
    exact t140_62 hx1 hx2 hx3 (r4_n rfl) w
theorem t140_5 {X : Nat × Nat × qC} {d : Nat} {x1 : Int} {x2 : Int} {x3 : Int} {x4 : Int} {M : Mm}  {R : Int × Mm → Prop} (hx1 : R4 x1) (hx2 : R4 x2) (hx3 : R4 x3) (hx4 : R4 x4) (w : Wp (f140_5 x1 x2 x3 x4 M) R) : mE X (d + 0) 140 1 5 [some (.ref 142), some (.int (Int32.ofInt x1)), some (.int (Int32.ofInt x2)), some (.int (Int32.ofInt x3)), some (.int (Int32.ofInt x4)), none, none] [] M (fun v M2 => R (v, M2)) :=
  Wp.olp (f := fun s : Int × Int × Mm => lb140_5 x1 x2 s.1 s.2.1 s.2.2) (s := (x3, x4, M)) (E := E140_5 X d x1 x2 R) w (fun s w hx3 hx4 => tb140_5 hx1 hx2 hx3 hx4 w) hx3 hx4
noncomputable def f140 (x1 : Int) (x2 : Int) (M : Mm) : Option (Int × Mm) :=
  f140_5 x1 x2 0 0 M
theorem t140 {X : Nat × Nat × qC} {d : Nat} {x1 : Int} {x2 : Int} {M : Mm}  {R : Int × Mm → Prop} (hx1 : R4 x1) (hx2 : R4 x2) (w : Wp (f140 x1 x2 M) R) : mE X (d + 0) 140 1 0 [some (.ref 142), some (.int (Int32.ofInt x1)), some (.int (Int32.ofInt x2)), none, none, none, none] [] M (fun v M2 => R (v, M2)) := by
  refine mE_iconst c140_0 ?_
  refine mE_istore_n (ls2 := [some (.ref 142), some (.int (Int32.ofInt x1)), some (.int (Int32.ofInt x2)), some (.int (Int32.ofInt 0)), none, none, none]) c140_1 (Nat.le_of_ble_eq_true rfl) rfl ?_
  refine mE_iconst c140_2 ?_
  refine mE_istore (ls2 := [some (.ref 142), some (.int (Int32.ofInt x1)), some (.int (Int32.ofInt x2)), some (.int (Int32.ofInt 0)), some (.int (Int32.ofInt 0)), none, none]) c140_3 (Nat.le_of_ble_eq_true rfl) rfl ?_
  exact t140_5 hx1 hx2 (r4_n rfl) (r4_n rfl) w
theorem s140 {X : Nat × Nat × qC} {d : Nat} {x1 : Int} {x2 : Int} {M : Mm} {R : Int × Mm → Prop} (hx1 : R4 x1) (hx2 : R4 x2) (w : Wp (f140 x1 x2 M) R) : mC X (d + 1) 140 1 [.ref 142, .int (Int32.ofInt x1), .int (Int32.ofInt x2)] M (fun v M2 => R (v, M2)) :=
  mC_of (qent_mk qx140 rfl rfl rfl) (t140 hx1 hx2 w)
/-! SaggingNetModel.undoes -/
def E182_60 (X : Nat × Nat × qC) (d : Nat) (x1 : Int) (l2 : Int) (x4 : Int) (l5 : Int) (x7 : Int) (l8 : Int) (R : Int × Mm → Prop) : Int × Mm → Prop := fun s => R4 s.1 → mE X (d + 0) 182 2 60 [some (.ref 142), some (.int (Int32.ofInt x1)), some (.long (Int64.ofInt l2)), none, some (.int (Int32.ofInt x4)), some (.long (Int64.ofInt l5)), none, some (.int (Int32.ofInt x7)), some (.long (Int64.ofInt l8)), none, some (.int (Int32.ofInt s.1))] [] s.2 (fun v M2 => R (v, M2))
def E182_26 (X : Nat × Nat × qC) (d : Nat) (x1 : Int) (l2 : Int) (x4 : Int) (l5 : Int) (R : Int × Mm → Prop) : Int × Mm → Prop := fun s => R4 s.1 → ∀ (o8 : Option Value), ∀ (o10 : Option Value), mE X (d + 0) 182 2 26 [some (.ref 142), some (.int (Int32.ofInt x1)), some (.long (Int64.ofInt l2)), none, some (.int (Int32.ofInt x4)), some (.long (Int64.ofInt l5)), none, some (.int (Int32.ofInt s.1)), o8, none, o10] [] s.2 (fun v M2 => R (v, M2))
def E182_5 (X : Nat × Nat × qC) (d : Nat) (x1 : Int) (R : Int × Mm → Prop) : Int × Int × Mm → Prop := fun s => R8 s.1 → R4 s.2.1 → ∀ (o5 : Option Value), ∀ (o7 : Option Value), ∀ (o8 : Option Value), ∀ (o10 : Option Value), mE X (d + 0) 182 2 5 [some (.ref 142), some (.int (Int32.ofInt x1)), some (.long (Int64.ofInt s.1)), none, some (.int (Int32.ofInt s.2.1)), o5, none, o7, o8, none, o10] [] s.2.2 (fun v M2 => R (v, M2))
noncomputable def f182_121 (x1 : Int) (l2 : Int) (x4 : Int) (l5 : Int) (x7 : Int) (M : Mm) : Option ((Int × Mm) ⊕ ((Int × Int × Mm) ⊕ (Int × Mm))) :=
  gd (R4 (x7 + 1)) (
  some (.inl ((x7 + 1), M)))
theorem t182_121 {X : Nat × Nat × qC} {d : Nat} {x1 : Int} {l2 : Int} {x4 : Int} {l5 : Int} {x7 : Int} {M : Mm} {o8 : Option Value} {o10 : Option Value} {R : Int × Mm → Prop} (hx1 : R4 x1) (hl2 : R8 l2) (hx4 : R4 x4) (hl5 : R8 l5) (hx7 : R4 x7) (w : Wp (f182_121 x1 l2 x4 l5 x7 M) (Sum.elim (E182_26 X d x1 l2 x4 l5 R) (Sum.elim (E182_5 X d x1 R) R))) : mE X (d + 0) 182 2 121 [some (.ref 142), some (.int (Int32.ofInt x1)), some (.long (Int64.ofInt l2)), none, some (.int (Int32.ofInt x4)), some (.long (Int64.ofInt l5)), none, some (.int (Int32.ofInt x7)), o8, none, o10] [] M (fun v M2 => R (v, M2)) := by
  obtain ⟨g1, w⟩ := w.ogd
  refine mE_iinc (ls2 := [some (.ref 142), some (.int (Int32.ofInt x1)), some (.long (Int64.ofInt l2)), none, some (.int (Int32.ofInt x4)), some (.long (Int64.ofInt l5)), none, some (.int (Int32.ofInt (x7 + 1))), o8, none, o10]) c182_121 rfl (Nat.le_of_ble_eq_true rfl) rfl ?_
  refine mE_goto (t := 26) c182_124 rfl ?_
  exact w.osome g1 _ _
noncomputable def lb182_60 (x1 : Int) (l2 : Int) (x4 : Int) (l5 : Int) (x7 : Int) (l8 : Int) (x10 : Int) (M : Mm) : Option ((Int × Mm) ⊕ ((Int × Mm) ⊕ ((Int × Int × Mm) ⊕ (Int × Mm)))) :=
  if x10 < 14 then
  (gd (R4 (14 * x7)) (
  gd (R4 ((14 * x7) + x10)) (
  gd (0 ≤ ((14 * x7) + x10) ∧ ((14 * x7) + x10) < 98) (
  gd (R8 (l5 * (M 164 (((14 * x7) + x10)).toNat))) (
  gd (R4 (14 * x4)) (
  gd (R4 ((14 * x4) + x10)) (
  gd (0 ≤ ((14 * x4) + x10) ∧ ((14 * x4) + x10) < 98) (
  gd (R8 (l8 * (M 164 (((14 * x4) + x10)).toNat))) (
  gd (R8 ((l5 * (M 164 (((14 * x7) + x10)).toNat)) - (l8 * (M 164 (((14 * x4) + x10)).toNat)))) (
  gd (¬ l2 = 0) (
  gd (R8 (Int.tdiv ((l5 * (M 164 (((14 * x7) + x10)).toNat)) - (l8 * (M 164 (((14 * x4) + x10)).toNat))) l2)) (
  mlet (ms M 164 (((14 * x7) + x10)).toNat (Int.tdiv ((l5 * (M 164 (((14 * x7) + x10)).toNat)) - (l8 * (M 164 (((14 * x4) + x10)).toNat))) l2)) fun M15 =>
  gd (R4 (x10 + 1)) (
  some (.inl ((x10 + 1), M15)))))))))))))))
  else
  (oinr (f182_121 x1 l2 x4 l5 x7 M))
noncomputable def f182_60 (x1 : Int) (l2 : Int) (x4 : Int) (l5 : Int) (x7 : Int) (l8 : Int) (x10 : Int) (M : Mm) : Option ((Int × Mm) ⊕ ((Int × Int × Mm) ⊕ (Int × Mm))) := lp (fun s : Int × Mm => lb182_60 x1 l2 x4 l5 x7 l8 s.1 s.2) (x10, M)
theorem tb182_60 {X : Nat × Nat × qC} {d : Nat} {x1 : Int} {l2 : Int} {x4 : Int} {l5 : Int} {x7 : Int} {l8 : Int} {x10 : Int} {M : Mm}  {R : Int × Mm → Prop} (hx1 : R4 x1) (hl2 : R8 l2) (hx4 : R4 x4) (hl5 : R8 l5) (hx7 : R4 x7) (hl8 : R8 l8) (hx10 : R4 x10) (w : Wp (lb182_60 x1 l2 x4 l5 x7 l8 x10 M) (Sum.elim (E182_60 X d x1 l2 x4 l5 x7 l8 R) (Sum.elim (E182_26 X d x1 l2 x4 l5 R) (Sum.elim (E182_5 X d x1 R) R)))) : mE X (d + 0) 182 2 60 [some (.ref 142), some (.int (Int32.ofInt x1)), some (.long (Int64.ofInt l2)), none, some (.int (Int32.ofInt x4)), some (.long (Int64.ofInt l5)), none, some (.int (Int32.ofInt x7)), some (.long (Int64.ofInt l8)), none, some (.int (Int32.ofInt x10))] [] M (fun v M2 => R (v, M2)) := by
  refine mE_iload c182_60 rfl ?_
  refine mE_bipush (x := 14) c182_62 rfl ?_
  by_cases e1 : x10 < 14
  · have w := w.pos e1
    refine mE_icmp_ge_F (t := 121) c182_64 rfl hx10 (r4_n rfl) e1 ?_
    refine mE_aload_n c182_67 rfl ?_
    refine mE_getA c182_68 qo182 qF12_77 (ok_lit rfl rfl rfl) rfl ⟨by decide, by decide⟩ ?_
    refine mE_bipush (x := 14) c182_71 rfl ?_
    refine mE_iload c182_73 rfl ?_
    obtain ⟨g2, w⟩ := w.ogd
    refine mE_imul c182_75 ?_
    refine mE_iload c182_76 rfl ?_
    obtain ⟨g3, w⟩ := w.ogd
    refine mE_iadd c182_78 ?_
    refine mE_lload c182_79 rfl ?_
    refine mE_aload_n c182_81 rfl ?_
    refine mE_getA c182_82 qo182 qF12_77 (ok_lit rfl rfl rfl) rfl ⟨by decide, by decide⟩ ?_
    refine mE_bipush (x := 14) c182_85 rfl ?_
    refine mE_iload c182_87 rfl ?_
    refine mE_imul c182_89 ?_
    refine mE_iload c182_90 rfl ?_
    refine mE_iadd c182_92 ?_
    obtain ⟨g4, w⟩ := w.ogd
    refine mE_laload c182_93 (ok_lit rfl rfl rfl) g3 g4 ?_
    intro u5
    obtain ⟨g6, w⟩ := w.ogd
    refine mE_lmul c182_94 ?_
    refine mE_lload c182_95 rfl ?_
    refine mE_aload_n c182_97 rfl ?_
    refine mE_getA c182_98 qo182 qF12_77 (ok_lit rfl rfl rfl) rfl ⟨by decide, by decide⟩ ?_
    refine mE_bipush (x := 14) c182_101 rfl ?_
    refine mE_iload c182_103 rfl ?_
    obtain ⟨g7, w⟩ := w.ogd
    refine mE_imul c182_105 ?_
    refine mE_iload c182_106 rfl ?_
    obtain ⟨g8, w⟩ := w.ogd
    refine mE_iadd c182_108 ?_
    obtain ⟨g9, w⟩ := w.ogd
    refine mE_laload c182_109 (ok_lit rfl rfl rfl) g8 g9 ?_
    intro u10
    obtain ⟨g11, w⟩ := w.ogd
    refine mE_lmul c182_110 ?_
    obtain ⟨g12, w⟩ := w.ogd
    refine mE_lsub c182_111 ?_
    refine mE_lload_n c182_112 rfl ?_
    obtain ⟨g13, w⟩ := w.ogd
    obtain ⟨g14, w⟩ := w.ogd
    refine mE_ldiv c182_113 g12 hl2 g13 ?_
    obtain ⟨M15, m16, w⟩ := w.mlet
    refine mE_lastore c182_114 (ok_lit rfl rfl rfl) g3 g4 g14 ?_
    refine mE_M m16 ?_
    obtain ⟨g17, w⟩ := w.ogd
    refine mE_iinc (ls2 := [some (.ref 142), some (.int (Int32.ofInt x1)), some (.long (Int64.ofInt l2)), none, some (.int (Int32.ofInt x4)), some (.long (Int64.ofInt l5)), none, some (.int (Int32.ofInt x7)), some (.long (Int64.ofInt l8)), none, some (.int (Int32.ofInt (x10 + 1)))]) c182_115 rfl (Nat.le_of_ble_eq_true rfl) rfl ?_
    refine mE_goto (t := 60) c182_118 rfl ?_
    exact w.osome g17
  · have w := w.neg e1
    refine mE_icmp_ge_T (t := 121) c182_64 rfl hx10 (r4_n rfl) e1 ?_
    have w := w.oinr
    exact t182_121 hx1 hl2 hx4 hl5 hx7 w
theorem t182_60 {X : Nat × Nat × qC} {d : Nat} {x1 : Int} {l2 : Int} {x4 : Int} {l5 : Int} {x7 : Int} {l8 : Int} {x10 : Int} {M : Mm}  {R : Int × Mm → Prop} (hx1 : R4 x1) (hl2 : R8 l2) (hx4 : R4 x4) (hl5 : R8 l5) (hx7 : R4 x7) (hl8 : R8 l8) (hx10 : R4 x10) (w : Wp (f182_60 x1 l2 x4 l5 x7 l8 x10 M) (Sum.elim (E182_26 X d x1 l2 x4 l5 R) (Sum.elim (E182_5 X d x1 R) R))) : mE X (d + 0) 182 2 60 [some (.ref 142), some (.int (Int32.ofInt x1)), some (.long (Int64.ofInt l2)), none, some (.int (Int32.ofInt x4)), some (.long (Int64.ofInt l5)), none, some (.int (Int32.ofInt x7)), some (.long (Int64.ofInt l8)), none, some (.int (Int32.ofInt x10))] [] M (fun v M2 => R (v, M2)) :=
  Wp.olp (f := fun s : Int × Mm => lb182_60 x1 l2 x4 l5 x7 l8 s.1 s.2) (s := (x10, M)) (E := E182_60 X d x1 l2 x4 l5 x7 l8 R) w (fun s w hx10 => tb182_60 hx1 hl2 hx4 hl5 hx7 hl8 hx10 w) hx10
noncomputable def lb182_26 (x1 : Int) (l2 : Int) (x4 : Int) (l5 : Int) (x7 : Int) (M : Mm) : Option ((Int × Mm) ⊕ ((Int × Int × Mm) ⊕ (Int × Mm))) :=
  if x7 < x1 then
  (if x7 = x4 then
  (f182_121 x1 l2 x4 l5 x7 M)
  else
  (gd (R4 (14 * x7)) (
  gd (R4 ((14 * x7) + x4)) (
  gd (0 ≤ ((14 * x7) + x4) ∧ ((14 * x7) + x4) < 98) (
  f182_60 x1 l2 x4 l5 x7 (M 164 (((14 * x7) + x4)).toNat) 0 M)))))
  else
  (oinr (gd (R4 (x4 + 1)) (
  some (.inl (l5, (x4 + 1), M)))))
noncomputable def f182_26 (x1 : Int) (l2 : Int) (x4 : Int) (l5 : Int) (x7 : Int) (M : Mm) : Option ((Int × Int × Mm) ⊕ (Int × Mm)) := lp (fun s : Int × Mm => lb182_26 x1 l2 x4 l5 s.1 s.2) (x7, M)
theorem tb182_26 {X : Nat × Nat × qC} {d : Nat} {x1 : Int} {l2 : Int} {x4 : Int} {l5 : Int} {x7 : Int} {M : Mm} {o8 : Option Value} {o10 : Option Value} {R : Int × Mm → Prop} (hx1 : R4 x1) (hl2 : R8 l2) (hx4 : R4 x4) (hl5 : R8 l5) (hx7 : R4 x7) (w : Wp (lb182_26 x1 l2 x4 l5 x7 M) (Sum.elim (E182_26 X d x1 l2 x4 l5 R) (Sum.elim (E182_5 X d x1 R) R))) : mE X (d + 0) 182 2 26 [some (.ref 142), some (.int (Int32.ofInt x1)), some (.long (Int64.ofInt l2)), none, some (.int (Int32.ofInt x4)), some (.long (Int64.ofInt l5)), none, some (.int (Int32.ofInt x7)), o8, none, o10] [] M (fun v M2 => R (v, M2)) := by
  refine mE_iload c182_26 rfl ?_
  refine mE_iload_n c182_28 rfl ?_
  by_cases e1 : x7 < x1
  · have w := w.pos e1
    refine mE_icmp_ge_F (t := 127) c182_29 rfl hx7 hx1 e1 ?_
    refine mE_iload c182_32 rfl ?_
    refine mE_iload c182_34 rfl ?_
    by_cases e2 : x7 = x4
    · have w := w.pos e2
      refine mE_icmp_ne_F (t := 42) c182_36 rfl hx7 hx4 e2 ?_
      refine mE_goto (t := 121) c182_39 rfl ?_
      exact t182_121 hx1 hl2 hx4 hl5 hx7 w
    · have w := w.neg e2
      refine mE_icmp_ne_T (t := 42) c182_36 rfl hx7 hx4 e2 ?_
      refine mE_aload_n c182_42 rfl ?_
      refine mE_getA c182_43 qo182 qF12_77 (ok_lit rfl rfl rfl) rfl ⟨by decide, by decide⟩ ?_
      refine mE_bipush (x := 14) c182_46 rfl ?_
      refine mE_iload c182_48 rfl ?_
      obtain ⟨g3, w⟩ := w.ogd
      refine mE_imul c182_50 ?_
      refine mE_iload c182_51 rfl ?_
      obtain ⟨g4, w⟩ := w.ogd
      refine mE_iadd c182_53 ?_
      obtain ⟨g5, w⟩ := w.ogd
      refine mE_laload c182_54 (ok_lit rfl rfl rfl) g4 g5 ?_
      intro u6
      refine mE_lstore (ls2 := [some (.ref 142), some (.int (Int32.ofInt x1)), some (.long (Int64.ofInt l2)), none, some (.int (Int32.ofInt x4)), some (.long (Int64.ofInt l5)), none, some (.int (Int32.ofInt x7)), some (.long (Int64.ofInt (M 164 (((14 * x7) + x4)).toNat))), none, o10]) c182_55 (Nat.le_of_ble_eq_true rfl) rfl ?_
      refine mE_iconst c182_57 ?_
      refine mE_istore (ls2 := [some (.ref 142), some (.int (Int32.ofInt x1)), some (.long (Int64.ofInt l2)), none, some (.int (Int32.ofInt x4)), some (.long (Int64.ofInt l5)), none, some (.int (Int32.ofInt x7)), some (.long (Int64.ofInt (M 164 (((14 * x7) + x4)).toNat))), none, some (.int (Int32.ofInt 0))]) c182_58 (Nat.le_of_ble_eq_true rfl) rfl ?_
      exact t182_60 hx1 hl2 hx4 hl5 hx7 u6 (r4_n rfl) w
  · have w := w.neg e1
    refine mE_icmp_ge_T (t := 127) c182_29 rfl hx7 hx1 e1 ?_
    have w := w.oinr
    refine mE_lload c182_127 rfl ?_
    refine mE_lstore_n (ls2 := [some (.ref 142), some (.int (Int32.ofInt x1)), some (.long (Int64.ofInt l5)), none, some (.int (Int32.ofInt x4)), some (.long (Int64.ofInt l5)), none, some (.int (Int32.ofInt x7)), o8, none, o10]) c182_129 (Nat.le_of_ble_eq_true rfl) rfl ?_
    obtain ⟨g2, w⟩ := w.ogd
    refine mE_iinc (ls2 := [some (.ref 142), some (.int (Int32.ofInt x1)), some (.long (Int64.ofInt l5)), none, some (.int (Int32.ofInt (x4 + 1))), some (.long (Int64.ofInt l5)), none, some (.int (Int32.ofInt x7)), o8, none, o10]) c182_130 rfl (Nat.le_of_ble_eq_true rfl) rfl ?_
    refine mE_goto (t := 5) c182_133 rfl ?_
    exact w.osome hl5 g2 _ _ _ _
theorem t182_26 {X : Nat × Nat × qC} {d : Nat} {x1 : Int} {l2 : Int} {x4 : Int} {l5 : Int} {x7 : Int} {M : Mm} {o8 : Option Value} {o10 : Option Value} {R : Int × Mm → Prop} (hx1 : R4 x1) (hl2 : R8 l2) (hx4 : R4 x4) (hl5 : R8 l5) (hx7 : R4 x7) (w : Wp (f182_26 x1 l2 x4 l5 x7 M) (Sum.elim (E182_5 X d x1 R) R)) : mE X (d + 0) 182 2 26 [some (.ref 142), some (.int (Int32.ofInt x1)), some (.long (Int64.ofInt l2)), none, some (.int (Int32.ofInt x4)), some (.long (Int64.ofInt l5)), none, some (.int (Int32.ofInt x7)), o8, none, o10] [] M (fun v M2 => R (v, M2)) :=
  Wp.olp (f := fun s : Int × Mm => lb182_26 x1 l2 x4 l5 s.1 s.2) (s := (x7, M)) (E := E182_26 X d x1 l2 x4 l5 R) w (fun s w hx7 _ _ => tb182_26 hx1 hl2 hx4 hl5 hx7 w) hx7 _ _
noncomputable def lb182_5 (x1 : Int) (l2 : Int) (x4 : Int) (M : Mm) : Option ((Int × Int × Mm) ⊕ (Int × Mm)) :=
  if x4 < x1 then
  (gd (R4 (15 * x4)) (
  gd (0 ≤ (15 * x4) ∧ (15 * x4) < 98) (
  f182_26 x1 l2 x4 (M 164 ((15 * x4)).toNat) 0 M)))
  else
  (oinr (some (l2, M)))
noncomputable def f182_5 (x1 : Int) (l2 : Int) (x4 : Int) (M : Mm) : Option (Int × Mm) := lp (fun s : Int × Int × Mm => lb182_5 x1 s.1 s.2.1 s.2.2) (l2, x4, M)
theorem tb182_5 {X : Nat × Nat × qC} {d : Nat} {x1 : Int} {l2 : Int} {x4 : Int} {M : Mm} {o5 : Option Value} {o7 : Option Value} {o8 : Option Value} {o10 : Option Value} {R : Int × Mm → Prop} (hx1 : R4 x1) (hl2 : R8 l2) (hx4 : R4 x4) (w : Wp (lb182_5 x1 l2 x4 M) (Sum.elim (E182_5 X d x1 R) R)) : mE X (d + 0) 182 2 5 [some (.ref 142), some (.int (Int32.ofInt x1)), some (.long (Int64.ofInt l2)), none, some (.int (Int32.ofInt x4)), o5, none, o7, o8, none, o10] [] M (fun v M2 => R (v, M2)) := by
  refine mE_iload c182_5 rfl ?_
  refine mE_iload_n c182_7 rfl ?_
  by_cases e1 : x4 < x1
  · have w := w.pos e1
    refine mE_icmp_ge_F (t := 136) c182_8 rfl hx4 hx1 e1 ?_
    refine mE_aload_n c182_11 rfl ?_
    refine mE_getA c182_12 qo182 qF12_77 (ok_lit rfl rfl rfl) rfl ⟨by decide, by decide⟩ ?_
    refine mE_bipush (x := 15) c182_15 rfl ?_
    refine mE_iload c182_17 rfl ?_
    obtain ⟨g2, w⟩ := w.ogd
    refine mE_imul c182_19 ?_
    obtain ⟨g3, w⟩ := w.ogd
    refine mE_laload c182_20 (ok_lit rfl rfl rfl) g2 g3 ?_
    intro u4
    refine mE_lstore (ls2 := [some (.ref 142), some (.int (Int32.ofInt x1)), some (.long (Int64.ofInt l2)), none, some (.int (Int32.ofInt x4)), some (.long (Int64.ofInt (M 164 ((15 * x4)).toNat))), none, o7, o8, none, o10]) c182_21 (Nat.le_of_ble_eq_true rfl) rfl ?_
    refine mE_iconst c182_23 ?_
    refine mE_istore (ls2 := [some (.ref 142), some (.int (Int32.ofInt x1)), some (.long (Int64.ofInt l2)), none, some (.int (Int32.ofInt x4)), some (.long (Int64.ofInt (M 164 ((15 * x4)).toNat))), none, some (.int (Int32.ofInt 0)), o8, none, o10]) c182_24 (Nat.le_of_ble_eq_true rfl) rfl ?_
    exact t182_26 hx1 hl2 hx4 u4 (r4_n rfl) w
  · have w := w.neg e1
    refine mE_icmp_ge_T (t := 136) c182_8 rfl hx4 hx1 e1 ?_
    have w := w.oinr
    refine mE_lload_n c182_136 rfl ?_
    exact mE_lret c182_137 qr182 hl2 w.osome
theorem t182_5 {X : Nat × Nat × qC} {d : Nat} {x1 : Int} {l2 : Int} {x4 : Int} {M : Mm} {o5 : Option Value} {o7 : Option Value} {o8 : Option Value} {o10 : Option Value} {R : Int × Mm → Prop} (hx1 : R4 x1) (hl2 : R8 l2) (hx4 : R4 x4) (w : Wp (f182_5 x1 l2 x4 M) R) : mE X (d + 0) 182 2 5 [some (.ref 142), some (.int (Int32.ofInt x1)), some (.long (Int64.ofInt l2)), none, some (.int (Int32.ofInt x4)), o5, none, o7, o8, none, o10] [] M (fun v M2 => R (v, M2)) :=
  Wp.olp (f := fun s : Int × Int × Mm => lb182_5 x1 s.1 s.2.1 s.2.2) (s := (l2, x4, M)) (E := E182_5 X d x1 R) w (fun s w hl2 hx4 _ _ _ _ => tb182_5 hx1 hl2 hx4 w) hl2 hx4 _ _ _ _
noncomputable def f182 (x1 : Int) (M : Mm) : Option (Int × Mm) :=
  f182_5 x1 1 0 M
theorem t182 {X : Nat × Nat × qC} {d : Nat} {x1 : Int} {M : Mm}  {R : Int × Mm → Prop} (hx1 : R4 x1) (w : Wp (f182 x1 M) R) : mE X (d + 0) 182 2 0 [some (.ref 142), some (.int (Int32.ofInt x1)), none, none, none, none, none, none, none, none, none] [] M (fun v M2 => R (v, M2)) := by
  refine mE_lconst (x := 1) c182_0 rfl ?_
  refine mE_lstore_n (ls2 := [some (.ref 142), some (.int (Int32.ofInt x1)), some (.long (Int64.ofInt 1)), none, none, none, none, none, none, none, none]) c182_1 (Nat.le_of_ble_eq_true rfl) rfl ?_
  refine mE_iconst c182_2 ?_
  refine mE_istore (ls2 := [some (.ref 142), some (.int (Int32.ofInt x1)), some (.long (Int64.ofInt 1)), none, some (.int (Int32.ofInt 0)), none, none, none, none, none, none]) c182_3 (Nat.le_of_ble_eq_true rfl) rfl ?_
  exact t182_5 hx1 (r8_n rfl) (r4_n rfl) w
theorem s182 {X : Nat × Nat × qC} {d : Nat} {x1 : Int} {M : Mm} {R : Int × Mm → Prop} (hx1 : R4 x1) (w : Wp (f182 x1 M) R) : mC X (d + 1) 182 2 [.ref 142, .int (Int32.ofInt x1)] M (fun v M2 => R (v, M2)) :=
  mC_of (qent_mk qx182 rfl rfl rfl) (t182 hx1 w)
/-! SaggingNetModel.goesIn -/
def E115_12 (X : Nat × Nat × qC) (d : Nat) (x2 : Int) (M : Mm) (R : Int → Prop) : Int × Int → Prop := fun s => R8 s.1 → R4 s.2 → ∀ (y1 : Int32), mE X (d + 1) 115 2 12 [some (.ref 142), some (.int y1), some (.int (Int32.ofInt x2)), some (.long (Int64.ofInt s.1)), none, some (.int (Int32.ofInt s.2))] [] M (fun v M2 => M = M2 ∧ R v)
noncomputable def lb115_12 (x2 : Int) (l3 : Int) (x5 : Int) (M : Mm) : Option ((Int × Int) ⊕ (Int)) :=
  if x5 < (M 142 5) then
  (gd (0 ≤ x5 ∧ x5 < 9) (
  if (M 153 (x5).toNat) = x2 then
  (gd (R8 (l3 + (M 159 (x5).toNat))) (
  gd (R4 (x5 + 1)) (
  some (.inl ((l3 + (M 159 (x5).toNat)), (x5 + 1))))))
  else
  (gd (R8 (l3 + 0)) (
  gd (R4 (x5 + 1)) (
  some (.inl ((l3 + 0), (x5 + 1))))))))
  else
  (oinr (some l3))
noncomputable def f115_12 (x2 : Int) (l3 : Int) (x5 : Int) (M : Mm) : Option (Int) := lp (fun s : Int × Int => lb115_12 x2 s.1 s.2 M) (l3, x5)
theorem tb115_12 {X : Nat × Nat × qC} {d : Nat} {x2 : Int} {l3 : Int} {x5 : Int} {M : Mm} {y1 : Int32} {R : Int → Prop} (hx2 : R4 x2) (hl3 : R8 l3) (hx5 : R4 x5) (w : Wp (lb115_12 x2 l3 x5 M) (Sum.elim (E115_12 X d x2 M R) R)) : mE X (d + 1) 115 2 12 [some (.ref 142), some (.int y1), some (.int (Int32.ofInt x2)), some (.long (Int64.ofInt l3)), none, some (.int (Int32.ofInt x5))] [] M (fun v M2 => M = M2 ∧ R v) := by
  refine mE_iload c115_12 rfl ?_
  refine mE_aload_n c115_14 rfl ?_
  refine mE_getI c115_15 qo115 qF12_197 (ok_lit rfl rfl rfl) rfl ?_
  intro u1
  by_cases e2 : x5 < (M 142 5)
  · have w := w.pos e2
    refine mE_icmp_ge_F (t := 53) c115_18 rfl hx5 u1 e2 ?_
    refine mE_lload_n c115_21 rfl ?_
    refine mE_aload_n c115_22 rfl ?_
    refine mE_getA c115_23 qo115 qF12_42 (ok_lit rfl rfl rfl) rfl ⟨by decide, by decide⟩ ?_
    refine mE_iload c115_26 rfl ?_
    obtain ⟨g3, w⟩ := w.ogd
    refine mE_iaload c115_28 (ok_lit rfl rfl rfl) hx5 g3 ?_
    intro u4
    refine mE_iload_n c115_29 rfl ?_
    by_cases e5 : (M 153 (x5).toNat) = x2
    · have w := w.pos e5
      refine mE_icmp_ne_F (t := 44) c115_30 rfl u4 hx2 e5 ?_
      refine mE_aload_n c115_33 rfl ?_
      refine mE_getA c115_34 qo115 qF12_61 (ok_lit rfl rfl rfl) rfl ⟨by decide, by decide⟩ ?_
      refine mE_iload c115_37 rfl ?_
      refine mE_iaload c115_39 (ok_lit rfl rfl rfl) hx5 g3 ?_
      intro u6
      refine mE_i2l c115_40 u6 ?_
      refine mE_goto (t := 45) c115_41 rfl ?_
      obtain ⟨g7, w⟩ := w.ogd
      refine mE_ladd c115_45 ?_
      refine mE_lstore_n (ls2 := [some (.ref 142), some (.int y1), some (.int (Int32.ofInt x2)), some (.long (Int64.ofInt (l3 + (M 159 (x5).toNat)))), none, some (.int (Int32.ofInt x5))]) c115_46 (Nat.le_of_ble_eq_true rfl) rfl ?_
      obtain ⟨g8, w⟩ := w.ogd
      refine mE_iinc (ls2 := [some (.ref 142), some (.int y1), some (.int (Int32.ofInt x2)), some (.long (Int64.ofInt (l3 + (M 159 (x5).toNat)))), none, some (.int (Int32.ofInt (x5 + 1)))]) c115_47 rfl (Nat.le_of_ble_eq_true rfl) rfl ?_
      refine mE_goto (t := 12) c115_50 rfl ?_
      exact w.osome g7 g8 _
    · have w := w.neg e5
      refine mE_icmp_ne_T (t := 44) c115_30 rfl u4 hx2 e5 ?_
      refine mE_lconst (x := 0) c115_44 rfl ?_
      obtain ⟨g6, w⟩ := w.ogd
      refine mE_ladd c115_45 ?_
      refine mE_lstore_n (ls2 := [some (.ref 142), some (.int y1), some (.int (Int32.ofInt x2)), some (.long (Int64.ofInt (l3 + 0))), none, some (.int (Int32.ofInt x5))]) c115_46 (Nat.le_of_ble_eq_true rfl) rfl ?_
      obtain ⟨g7, w⟩ := w.ogd
      refine mE_iinc (ls2 := [some (.ref 142), some (.int y1), some (.int (Int32.ofInt x2)), some (.long (Int64.ofInt (l3 + 0))), none, some (.int (Int32.ofInt (x5 + 1)))]) c115_47 rfl (Nat.le_of_ble_eq_true rfl) rfl ?_
      refine mE_goto (t := 12) c115_50 rfl ?_
      exact w.osome g6 g7 _
  · have w := w.neg e2
    refine mE_icmp_ge_T (t := 53) c115_18 rfl hx5 u1 e2 ?_
    have w := w.oinr
    refine mE_lload_n c115_53 rfl ?_
    exact mE_lret c115_54 qr115 hl3 ⟨rfl, w.osome⟩
theorem t115_12 {X : Nat × Nat × qC} {d : Nat} {x2 : Int} {l3 : Int} {x5 : Int} {M : Mm} {y1 : Int32} {R : Int → Prop} (hx2 : R4 x2) (hl3 : R8 l3) (hx5 : R4 x5) (w : Wp (f115_12 x2 l3 x5 M) R) : mE X (d + 1) 115 2 12 [some (.ref 142), some (.int y1), some (.int (Int32.ofInt x2)), some (.long (Int64.ofInt l3)), none, some (.int (Int32.ofInt x5))] [] M (fun v M2 => M = M2 ∧ R v) :=
  Wp.olp (f := fun s : Int × Int => lb115_12 x2 s.1 s.2 M) (s := (l3, x5)) (E := E115_12 X d x2 M R) w (fun s w hl3 hx5 _ => tb115_12 hx2 hl3 hx5 w) hl3 hx5 _
noncomputable def f115 (x1 : Int) (x2 : Int) (M : Mm) : Option (Int) :=
  (f145 x1 x2 M).bind fun v1 =>
  gd (R4 (-v1)) (
  f115_12 x2 (-v1) 0 M)
theorem t115 {X : Nat × Nat × qC} {d : Nat} {x1 : Int} {x2 : Int} {M : Mm}  {R : Int → Prop} (hx1 : R4 x1) (hx2 : R4 x2) (w : Wp (f115 x1 x2 M) R) : mE X (d + 1) 115 2 0 [some (.ref 142), some (.int (Int32.ofInt x1)), some (.int (Int32.ofInt x2)), none, none, none] [] M (fun v M2 => M = M2 ∧ R v) := by
  refine mE_aload_n c115_0 rfl ?_
  refine mE_iload_n c115_1 rfl ?_
  refine mE_iload_n c115_2 rfl ?_
  refine mE_virtual1 (b := 142) (as := [.int (Int32.ofInt x1), .int (Int32.ofInt x2)]) (r := []) c115_3 qo115 qK12_235 qo145 rfl rfl rfl (ok_lit rfl rfl rfl) (Nat.le_of_ble_eq_true rfl) (s145 (d := d + 0) hx1 hx2 w.obind) ?_
  rintro v1 _ q3 ⟨rfl, w⟩
  obtain ⟨g4, w⟩ := w.ogd
  refine mE_ineg c115_6 ?_
  refine mE_i2l c115_7 g4 ?_
  refine mE_lstore_n (ls2 := [some (.ref 142), some (.int (Int32.ofInt x1)), some (.int (Int32.ofInt x2)), some (.long (Int64.ofInt (-v1))), none, none]) c115_8 (Nat.le_of_ble_eq_true rfl) rfl ?_
  refine mE_iconst c115_9 ?_
  refine mE_istore (ls2 := [some (.ref 142), some (.int (Int32.ofInt x1)), some (.int (Int32.ofInt x2)), some (.long (Int64.ofInt (-v1))), none, some (.int (Int32.ofInt 0))]) c115_10 (Nat.le_of_ble_eq_true rfl) rfl ?_
  exact t115_12 hx2 (R4.to8 g4) (r4_n rfl) w
theorem s115 {X : Nat × Nat × qC} {d : Nat} {x1 : Int} {x2 : Int} {M : Mm} {R : Int → Prop} (hx1 : R4 x1) (hx2 : R4 x2) (w : Wp (f115 x1 x2 M) R) : mC X (d + 2) 115 2 [.ref 142, .int (Int32.ofInt x1), .int (Int32.ofInt x2)] M (fun v M2 => M = M2 ∧ R v) :=
  mC_of (qent_mk qx115 rfl rfl rfl) (t115 hx1 hx2 w)
/-! SaggingNetModel.flows -/
def E111_51 (X : Nat × Nat × qC) (d : Nat) (x1 : Int) (x2 : Int) (l4 : Int) (x6 : Int) (R : Mm → Prop) : Int × Mm → Prop := fun s => R4 s.1 → ∀ (y3 : Int32), mE X (d + 2) 111 0 51 [some (.ref 142), some (.int (Int32.ofInt x1)), some (.int (Int32.ofInt x2)), some (.int y3), some (.long (Int64.ofInt l4)), none, some (.int (Int32.ofInt x6)), some (.int (Int32.ofInt s.1))] [] s.2 (fun v M2 => R M2)
def E111_152 (X : Nat × Nat × qC) (d : Nat) (x1 : Int) (x2 : Int) (l4 : Int) (R : Mm → Prop) : Int × Mm → Prop := fun s => R4 s.1 → ∀ (y3 : Int32), ∀ (o7 : Option Value), mE X (d + 2) 111 0 152 [some (.ref 142), some (.int (Int32.ofInt x1)), some (.int (Int32.ofInt x2)), some (.int y3), some (.long (Int64.ofInt l4)), none, some (.int (Int32.ofInt s.1)), o7] [] s.2 (fun v M2 => R M2)
def E111_17 (X : Nat × Nat × qC) (d : Nat) (x1 : Int) (x2 : Int) (l4 : Int) (R : Mm → Prop) : Int × Mm → Prop := fun s => R4 s.1 → ∀ (y3 : Int32), ∀ (o7 : Option Value), mE X (d + 2) 111 0 17 [some (.ref 142), some (.int (Int32.ofInt x1)), some (.int (Int32.ofInt x2)), some (.int y3), some (.long (Int64.ofInt l4)), none, some (.int (Int32.ofInt s.1)), o7] [] s.2 (fun v M2 => R M2)
noncomputable def f111_143 (x1 : Int) (x2 : Int) (l4 : Int) (x6 : Int) (M : Mm) : Option ((Int × Mm) ⊕ (Mm)) :=
  gd (R4 (x6 + 1)) (
  some (.inl ((x6 + 1), M)))
theorem t111_143 {X : Nat × Nat × qC} {d : Nat} {x1 : Int} {x2 : Int} {l4 : Int} {x6 : Int} {M : Mm} {y3 : Int32} {o7 : Option Value} {R : Mm → Prop} (hx1 : R4 x1) (hx2 : R4 x2) (hl4 : R8 l4) (hx6 : R4 x6) (w : Wp (f111_143 x1 x2 l4 x6 M) (Sum.elim (E111_17 X d x1 x2 l4 R) R)) : mE X (d + 2) 111 0 143 [some (.ref 142), some (.int (Int32.ofInt x1)), some (.int (Int32.ofInt x2)), some (.int y3), some (.long (Int64.ofInt l4)), none, some (.int (Int32.ofInt x6)), o7] [] M (fun v M2 => R M2) := by
  obtain ⟨g1, w⟩ := w.ogd
  refine mE_iinc (ls2 := [some (.ref 142), some (.int (Int32.ofInt x1)), some (.int (Int32.ofInt x2)), some (.int y3), some (.long (Int64.ofInt l4)), none, some (.int (Int32.ofInt (x6 + 1))), o7]) c111_143 rfl (Nat.le_of_ble_eq_true rfl) rfl ?_
  refine mE_goto (t := 17) c111_146 rfl ?_
  exact w.osome g1 _ _
noncomputable def f111_137 (x1 : Int) (x2 : Int) (l4 : Int) (x6 : Int) (x7 : Int) (M : Mm) : Option ((Int × Mm) ⊕ ((Int × Mm) ⊕ (Mm))) :=
  gd (R4 (x7 + 1)) (
  some (.inl ((x7 + 1), M)))
theorem t111_137 {X : Nat × Nat × qC} {d : Nat} {x1 : Int} {x2 : Int} {l4 : Int} {x6 : Int} {x7 : Int} {M : Mm} {y3 : Int32} {R : Mm → Prop} (hx1 : R4 x1) (hx2 : R4 x2) (hl4 : R8 l4) (hx6 : R4 x6) (hx7 : R4 x7) (w : Wp (f111_137 x1 x2 l4 x6 x7 M) (Sum.elim (E111_51 X d x1 x2 l4 x6 R) (Sum.elim (E111_17 X d x1 x2 l4 R) R))) : mE X (d + 2) 111 0 137 [some (.ref 142), some (.int (Int32.ofInt x1)), some (.int (Int32.ofInt x2)), some (.int y3), some (.long (Int64.ofInt l4)), none, some (.int (Int32.ofInt x6)), some (.int (Int32.ofInt x7))] [] M (fun v M2 => R M2) := by
  obtain ⟨g1, w⟩ := w.ogd
  refine mE_iinc (ls2 := [some (.ref 142), some (.int (Int32.ofInt x1)), some (.int (Int32.ofInt x2)), some (.int y3), some (.long (Int64.ofInt l4)), none, some (.int (Int32.ofInt x6)), some (.int (Int32.ofInt (x7 + 1)))]) c111_137 rfl (Nat.le_of_ble_eq_true rfl) rfl ?_
  refine mE_goto (t := 51) c111_140 rfl ?_
  exact w.osome g1 _
noncomputable def lb111_51 (x1 : Int) (x2 : Int) (l4 : Int) (x6 : Int) (x7 : Int) (M : Mm) : Option ((Int × Mm) ⊕ ((Int × Mm) ⊕ (Mm))) :=
  if x7 < (M 142 3) then
  (gd (0 ≤ x6 ∧ x6 < 8) (
  if (M 165 (x6).toNat) = (-1) then
  (oinr (f111_143 x1 x2 l4 x6 M))
  else
  (gd (0 ≤ x7 ∧ x7 < 8) (
  if (M 158 (x7).toNat) = x2 then
  (if (M 165 (x7).toNat) = (-1) then
  (f111_137 x1 x2 l4 x6 x7 M)
  else
  (gd (R4 (14 * (M 165 (x6).toNat))) (
  gd (R4 ((14 * (M 165 (x6).toNat)) + 7)) (
  gd (R4 (((14 * (M 165 (x6).toNat)) + 7) + (M 165 (x7).toNat))) (
  gd (0 ≤ (((14 * (M 165 (x6).toNat)) + 7) + (M 165 (x7).toNat)) ∧ (((14 * (M 165 (x6).toNat)) + 7) + (M 165 (x7).toNat)) < 98) (
  (f115 x1 x7 M).bind fun v19 =>
  gd (R8 ((M 164 ((((14 * (M 165 (x6).toNat)) + 7) + (M 165 (x7).toNat))).toNat) * v19)) (
  gd (R8 ((M 166 (x6).toNat) + ((M 164 ((((14 * (M 165 (x6).toNat)) + 7) + (M 165 (x7).toNat))).toNat) * v19))) (
  mlet (ms M 166 (x6).toNat ((M 166 (x6).toNat) + ((M 164 ((((14 * (M 165 (x6).toNat)) + 7) + (M 165 (x7).toNat))).toNat) * v19))) fun M24 =>
  f111_137 x1 x2 l4 x6 x7 M24))))))))
  else
  (f111_137 x1 x2 l4 x6 x7 M)))))
  else
  (oinr (f111_143 x1 x2 l4 x6 M))
noncomputable def f111_51 (x1 : Int) (x2 : Int) (l4 : Int) (x6 : Int) (x7 : Int) (M : Mm) : Option ((Int × Mm) ⊕ (Mm)) := lp (fun s : Int × Mm => lb111_51 x1 x2 l4 x6 s.1 s.2) (x7, M)
theorem tb111_51 {X : Nat × Nat × qC} {d : Nat} {x1 : Int} {x2 : Int} {l4 : Int} {x6 : Int} {x7 : Int} {M : Mm} {y3 : Int32} {R : Mm → Prop} (hx1 : R4 x1) (hx2 : R4 x2) (hl4 : R8 l4) (hx6 : R4 x6) (hx7 : R4 x7) (w : Wp (lb111_51 x1 x2 l4 x6 x7 M) (Sum.elim (E111_51 X d x1 x2 l4 x6 R) (Sum.elim (E111_17 X d x1 x2 l4 R) R))) : mE X (d + 2) 111 0 51 [some (.ref 142), some (.int (Int32.ofInt x1)), some (.int (Int32.ofInt x2)), some (.int y3), some (.long (Int64.ofInt l4)), none, some (.int (Int32.ofInt x6)), some (.int (Int32.ofInt x7))] [] M (fun v M2 => R M2) := by
  refine mE_iload c111_51 rfl ?_
  refine mE_aload_n c111_53 rfl ?_
  refine mE_getI c111_54 qo111 qF12_186 (ok_lit rfl rfl rfl) rfl ?_
  intro u1
  by_cases e2 : x7 < (M 142 3)
  · have w := w.pos e2
    refine mE_icmp_ge_F (t := 143) c111_57 rfl hx7 u1 e2 ?_
    refine mE_aload_n c111_60 rfl ?_
    refine mE_getA c111_61 qo111 qF12_80 (ok_lit rfl rfl rfl) rfl ⟨by decide, by decide⟩ ?_
    refine mE_iload c111_64 rfl ?_
    obtain ⟨g3, w⟩ := w.ogd
    refine mE_iaload c111_66 (ok_lit rfl rfl rfl) hx6 g3 ?_
    intro u4
    refine mE_iconst c111_67 ?_
    by_cases e5 : (M 165 (x6).toNat) = (-1)
    · have w := w.pos e5
      refine mE_icmp_eq_T (t := 143) c111_68 rfl u4 (r4_n rfl) e5 ?_
      have w := w.oinr
      exact t111_143 hx1 hx2 hl4 hx6 w
    · have w := w.neg e5
      refine mE_icmp_eq_F (t := 143) c111_68 rfl u4 (r4_n rfl) e5 ?_
      refine mE_aload_n c111_71 rfl ?_
      refine mE_getA c111_72 qo111 qF12_58 (ok_lit rfl rfl rfl) rfl ⟨by decide, by decide⟩ ?_
      refine mE_iload c111_75 rfl ?_
      obtain ⟨g6, w⟩ := w.ogd
      refine mE_iaload c111_77 (ok_lit rfl rfl rfl) hx7 g6 ?_
      intro u7
      refine mE_iload_n c111_78 rfl ?_
      by_cases e8 : (M 158 (x7).toNat) = x2
      · have w := w.pos e8
        refine mE_icmp_ne_F (t := 137) c111_79 rfl u7 hx2 e8 ?_
        refine mE_aload_n c111_82 rfl ?_
        refine mE_getA c111_83 qo111 qF12_80 (ok_lit rfl rfl rfl) rfl ⟨by decide, by decide⟩ ?_
        refine mE_iload c111_86 rfl ?_
        refine mE_iaload c111_88 (ok_lit rfl rfl rfl) hx7 g6 ?_
        intro u9
        refine mE_iconst c111_89 ?_
        by_cases e10 : (M 165 (x7).toNat) = (-1)
        · have w := w.pos e10
          refine mE_icmp_eq_T (t := 137) c111_90 rfl u9 (r4_n rfl) e10 ?_
          exact t111_137 hx1 hx2 hl4 hx6 hx7 w
        · have w := w.neg e10
          refine mE_icmp_eq_F (t := 137) c111_90 rfl u9 (r4_n rfl) e10 ?_
          refine mE_aload_n c111_93 rfl ?_
          refine mE_getA c111_94 qo111 qF12_83 (ok_lit rfl rfl rfl) rfl ⟨by decide, by decide⟩ ?_
          refine mE_iload c111_97 rfl ?_
          refine mE_dup2 c111_99 (Nat.ne_of_beq_eq_false rfl) rfl ?_
          refine mE_laload c111_100 (ok_lit rfl rfl rfl) hx6 g3 ?_
          intro u11
          refine mE_aload_n c111_101 rfl ?_
          refine mE_getA c111_102 qo111 qF12_77 (ok_lit rfl rfl rfl) rfl ⟨by decide, by decide⟩ ?_
          refine mE_bipush (x := 14) c111_105 rfl ?_
          refine mE_aload_n c111_107 rfl ?_
          refine mE_getA c111_108 qo111 qF12_80 (ok_lit rfl rfl rfl) rfl ⟨by decide, by decide⟩ ?_
          refine mE_iload c111_111 rfl ?_
          refine mE_iaload c111_113 (ok_lit rfl rfl rfl) hx6 g3 ?_
          intro u12
          obtain ⟨g13, w⟩ := w.ogd
          refine mE_imul c111_114 ?_
          refine mE_bipush (x := 7) c111_115 rfl ?_
          obtain ⟨g14, w⟩ := w.ogd
          refine mE_iadd c111_117 ?_
          refine mE_aload_n c111_118 rfl ?_
          refine mE_getA c111_119 qo111 qF12_80 (ok_lit rfl rfl rfl) rfl ⟨by decide, by decide⟩ ?_
          refine mE_iload c111_122 rfl ?_
          refine mE_iaload c111_124 (ok_lit rfl rfl rfl) hx7 g6 ?_
          intro u15
          obtain ⟨g16, w⟩ := w.ogd
          refine mE_iadd c111_125 ?_
          obtain ⟨g17, w⟩ := w.ogd
          refine mE_laload c111_126 (ok_lit rfl rfl rfl) g16 g17 ?_
          intro u18
          refine mE_aload_n c111_127 rfl ?_
          refine mE_iload_n c111_128 rfl ?_
          refine mE_iload c111_129 rfl ?_
          refine mE_virtual2 (b := 142) (as := [.int (Int32.ofInt x1), .int (Int32.ofInt x7)]) (r := [.long (Int64.ofInt (M 164 ((((14 * (M 165 (x6).toNat)) + 7) + (M 165 (x7).toNat))).toNat)), .long (Int64.ofInt (M 166 (x6).toNat)), .int (Int32.ofInt x6), .ref 166]) c111_131 qo111 qK12_259 qo115 rfl rfl rfl (ok_lit rfl rfl rfl) (Nat.le_of_ble_eq_true rfl) (s115 (d := d + 0) hx1 hx7 w.obind) ?_
          rintro v19 _ q21 ⟨rfl, w⟩
          obtain ⟨g22, w⟩ := w.ogd
          refine mE_lmul c111_134 ?_
          obtain ⟨g23, w⟩ := w.ogd
          refine mE_ladd c111_135 ?_
          obtain ⟨M24, m25, w⟩ := w.mlet
          refine mE_lastore c111_136 (ok_lit rfl rfl rfl) hx6 g3 g23 ?_
          refine mE_M m25 ?_
          exact t111_137 hx1 hx2 hl4 hx6 hx7 w
      · have w := w.neg e8
        refine mE_icmp_ne_T (t := 137) c111_79 rfl u7 hx2 e8 ?_
        exact t111_137 hx1 hx2 hl4 hx6 hx7 w
  · have w := w.neg e2
    refine mE_icmp_ge_T (t := 143) c111_57 rfl hx7 u1 e2 ?_
    have w := w.oinr
    exact t111_143 hx1 hx2 hl4 hx6 w
theorem t111_51 {X : Nat × Nat × qC} {d : Nat} {x1 : Int} {x2 : Int} {l4 : Int} {x6 : Int} {x7 : Int} {M : Mm} {y3 : Int32} {R : Mm → Prop} (hx1 : R4 x1) (hx2 : R4 x2) (hl4 : R8 l4) (hx6 : R4 x6) (hx7 : R4 x7) (w : Wp (f111_51 x1 x2 l4 x6 x7 M) (Sum.elim (E111_17 X d x1 x2 l4 R) R)) : mE X (d + 2) 111 0 51 [some (.ref 142), some (.int (Int32.ofInt x1)), some (.int (Int32.ofInt x2)), some (.int y3), some (.long (Int64.ofInt l4)), none, some (.int (Int32.ofInt x6)), some (.int (Int32.ofInt x7))] [] M (fun v M2 => R M2) :=
  Wp.olp (f := fun s : Int × Mm => lb111_51 x1 x2 l4 x6 s.1 s.2) (s := (x7, M)) (E := E111_51 X d x1 x2 l4 x6 R) w (fun s w hx7 _ => tb111_51 hx1 hx2 hl4 hx6 hx7 w) hx7 _
noncomputable def f111_242 (x1 : Int) (x2 : Int) (l4 : Int) (x6 : Int) (M : Mm) : Option ((Int × Mm) ⊕ (Mm)) :=
  gd (R4 (x6 + 1)) (
  some (.inl ((x6 + 1), M)))
theorem t111_242 {X : Nat × Nat × qC} {d : Nat} {x1 : Int} {x2 : Int} {l4 : Int} {x6 : Int} {M : Mm} {y3 : Int32} {o7 : Option Value} {R : Mm → Prop} (hx1 : R4 x1) (hx2 : R4 x2) (hl4 : R8 l4) (hx6 : R4 x6) (w : Wp (f111_242 x1 x2 l4 x6 M) (Sum.elim (E111_152 X d x1 x2 l4 R) R)) : mE X (d + 2) 111 0 242 [some (.ref 142), some (.int (Int32.ofInt x1)), some (.int (Int32.ofInt x2)), some (.int y3), some (.long (Int64.ofInt l4)), none, some (.int (Int32.ofInt x6)), o7] [] M (fun v M2 => R M2) := by
  obtain ⟨g1, w⟩ := w.ogd
  refine mE_iinc (ls2 := [some (.ref 142), some (.int (Int32.ofInt x1)), some (.int (Int32.ofInt x2)), some (.int y3), some (.long (Int64.ofInt l4)), none, some (.int (Int32.ofInt (x6 + 1))), o7]) c111_242 rfl (Nat.le_of_ble_eq_true rfl) rfl ?_
  refine mE_goto (t := 152) c111_245 rfl ?_
  exact w.osome g1 _ _
noncomputable def lb111_152 (x1 : Int) (x2 : Int) (l4 : Int) (x6 : Int) (M : Mm) : Option ((Int × Mm) ⊕ (Mm)) :=
  if x6 < (M 142 4) then
  (gd (R4 (x1 + x6)) (
  gd (0 ≤ (x1 + x6) ∧ (x1 + x6) < 36400) (
  if (M 144 ((x1 + x6)).toNat) = 0 then
  (gd (0 ≤ x6 ∧ x6 < 14) (
  gd (0 ≤ (M 147 (x6).toNat) ∧ (M 147 (x6).toNat) < 8) (
  if (M 158 ((M 147 (x6).toNat)).toNat) = x2 then
  (gd (0 ≤ (M 148 (x6).toNat) ∧ (M 148 (x6).toNat) < 8) (
  gd (R8 ((M 166 ((M 147 (x6).toNat)).toNat) - (M 166 ((M 148 (x6).toNat)).toNat))) (
  gd (R8 ((M 149 (x6).toNat) * ((M 166 ((M 147 (x6).toNat)).toNat) - (M 166 ((M 148 (x6).toNat)).toNat)))) (
  mlet (ms M 161 (x6).toNat ((M 149 (x6).toNat) * ((M 166 ((M 147 (x6).toNat)).toNat) - (M 166 ((M 148 (x6).toNat)).toNat)))) fun M20 =>
  mlet (ms M20 162 (x6).toNat l4) fun M22 =>
  f111_242 x1 x2 l4 x6 M22))))
  else
  (f111_242 x1 x2 l4 x6 M))))
  else
  (f111_242 x1 x2 l4 x6 M))))
  else
  (oinr (some M))
noncomputable def f111_152 (x1 : Int) (x2 : Int) (l4 : Int) (x6 : Int) (M : Mm) : Option (Mm) := lp (fun s : Int × Mm => lb111_152 x1 x2 l4 s.1 s.2) (x6, M)
theorem tb111_152 {X : Nat × Nat × qC} {d : Nat} {x1 : Int} {x2 : Int} {l4 : Int} {x6 : Int} {M : Mm} {y3 : Int32} {o7 : Option Value} {R : Mm → Prop} (hx1 : R4 x1) (hx2 : R4 x2) (hl4 : R8 l4) (hx6 : R4 x6) (w : Wp (lb111_152 x1 x2 l4 x6 M) (Sum.elim (E111_152 X d x1 x2 l4 R) R)) : mE X (d + 2) 111 0 152 [some (.ref 142), some (.int (Int32.ofInt x1)), some (.int (Int32.ofInt x2)), some (.int y3), some (.long (Int64.ofInt l4)), none, some (.int (Int32.ofInt x6)), o7] [] M (fun v M2 => R M2) := by
  refine mE_iload c111_152 rfl ?_
  refine mE_aload_n c111_154 rfl ?_
  refine mE_getI c111_155 qo111 qF12_194 (ok_lit rfl rfl rfl) rfl ?_
  intro u1
  by_cases e2 : x6 < (M 142 4)
  · have w := w.pos e2
    refine mE_icmp_ge_F (t := 248) c111_158 rfl hx6 u1 e2 ?_
    refine mE_aload_n c111_161 rfl ?_
    refine mE_getA c111_162 qo111 qF12_14 (ok_lit rfl rfl rfl) rfl ⟨by decide, by decide⟩ ?_
    refine mE_iload_n c111_165 rfl ?_
    refine mE_iload c111_166 rfl ?_
    obtain ⟨g3, w⟩ := w.ogd
    refine mE_iadd c111_168 ?_
    obtain ⟨g4, w⟩ := w.ogd
    refine mE_iaload c111_169 (ok_lit rfl rfl rfl) g3 g4 ?_
    intro u5
    by_cases e6 : (M 144 ((x1 + x6)).toNat) = 0
    · have w := w.pos e6
      refine mE_if_ne_F (t := 242) c111_170 rfl u5 e6 ?_
      refine mE_aload_n c111_173 rfl ?_
      refine mE_getA c111_174 qo111 qF12_58 (ok_lit rfl rfl rfl) rfl ⟨by decide, by decide⟩ ?_
      refine mE_aload_n c111_177 rfl ?_
      refine mE_getA c111_178 qo111 qF12_24 (ok_lit rfl rfl rfl) rfl ⟨by decide, by decide⟩ ?_
      refine mE_iload c111_181 rfl ?_
      obtain ⟨g7, w⟩ := w.ogd
      refine mE_iaload c111_183 (ok_lit rfl rfl rfl) hx6 g7 ?_
      intro u8
      obtain ⟨g9, w⟩ := w.ogd
      refine mE_iaload c111_184 (ok_lit rfl rfl rfl) u8 g9 ?_
      intro u10
      refine mE_iload_n c111_185 rfl ?_
      by_cases e11 : (M 158 ((M 147 (x6).toNat)).toNat) = x2
      · have w := w.pos e11
        refine mE_icmp_eq_T (t := 192) c111_186 rfl u10 hx2 e11 ?_
        refine mE_aload_n c111_192 rfl ?_
        refine mE_getA c111_193 qo111 qF12_67 (ok_lit rfl rfl rfl) rfl ⟨by decide, by decide⟩ ?_
        refine mE_iload c111_196 rfl ?_
        refine mE_aload_n c111_198 rfl ?_
        refine mE_getA c111_199 qo111 qF12_30 (ok_lit rfl rfl rfl) rfl ⟨by decide, by decide⟩ ?_
        refine mE_iload c111_202 rfl ?_
        refine mE_iaload c111_204 (ok_lit rfl rfl rfl) hx6 g7 ?_
        intro u12
        refine mE_i2l c111_205 u12 ?_
        refine mE_aload_n c111_206 rfl ?_
        refine mE_getA c111_207 qo111 qF12_83 (ok_lit rfl rfl rfl) rfl ⟨by decide, by decide⟩ ?_
        refine mE_aload_n c111_210 rfl ?_
        refine mE_getA c111_211 qo111 qF12_24 (ok_lit rfl rfl rfl) rfl ⟨by decide, by decide⟩ ?_
        refine mE_iload c111_214 rfl ?_
        refine mE_iaload c111_216 (ok_lit rfl rfl rfl) hx6 g7 ?_
        intro u13
        refine mE_laload c111_217 (ok_lit rfl rfl rfl) u13 g9 ?_
        intro u14
        refine mE_aload_n c111_218 rfl ?_
        refine mE_getA c111_219 qo111 qF12_83 (ok_lit rfl rfl rfl) rfl ⟨by decide, by decide⟩ ?_
        refine mE_aload_n c111_222 rfl ?_
        refine mE_getA c111_223 qo111 qF12_27 (ok_lit rfl rfl rfl) rfl ⟨by decide, by decide⟩ ?_
        refine mE_iload c111_226 rfl ?_
        refine mE_iaload c111_228 (ok_lit rfl rfl rfl) hx6 g7 ?_
        intro u15
        obtain ⟨g16, w⟩ := w.ogd
        refine mE_laload c111_229 (ok_lit rfl rfl rfl) u15 g16 ?_
        intro u17
        obtain ⟨g18, w⟩ := w.ogd
        refine mE_lsub c111_230 ?_
        obtain ⟨g19, w⟩ := w.ogd
        refine mE_lmul c111_231 ?_
        obtain ⟨M20, m21, w⟩ := w.mlet
        refine mE_lastore c111_232 (ok_lit rfl rfl rfl) hx6 g7 g19 ?_
        refine mE_M m21 ?_
        refine mE_aload_n c111_233 rfl ?_
        refine mE_getA c111_234 qo111 qF12_71 (ok_lit rfl rfl rfl) rfl ⟨by decide, by decide⟩ ?_
        refine mE_iload c111_237 rfl ?_
        refine mE_lload c111_239 rfl ?_
        obtain ⟨M22, m23, w⟩ := w.mlet
        refine mE_lastore c111_241 (ok_lit rfl rfl rfl) hx6 g7 hl4 ?_
        refine mE_M m23 ?_
        exact t111_242 hx1 hx2 hl4 hx6 w
      · have w := w.neg e11
        refine mE_icmp_eq_F (t := 192) c111_186 rfl u10 hx2 e11 ?_
        refine mE_goto (t := 242) c111_189 rfl ?_
        exact t111_242 hx1 hx2 hl4 hx6 w
    · have w := w.neg e6
      refine mE_if_ne_T (t := 242) c111_170 rfl u5 e6 ?_
      exact t111_242 hx1 hx2 hl4 hx6 w
  · have w := w.neg e2
    refine mE_icmp_ge_T (t := 248) c111_158 rfl hx6 u1 e2 ?_
    have w := w.oinr
    exact mE_vret c111_248 qr111 w.osome
theorem t111_152 {X : Nat × Nat × qC} {d : Nat} {x1 : Int} {x2 : Int} {l4 : Int} {x6 : Int} {M : Mm} {y3 : Int32} {o7 : Option Value} {R : Mm → Prop} (hx1 : R4 x1) (hx2 : R4 x2) (hl4 : R8 l4) (hx6 : R4 x6) (w : Wp (f111_152 x1 x2 l4 x6 M) R) : mE X (d + 2) 111 0 152 [some (.ref 142), some (.int (Int32.ofInt x1)), some (.int (Int32.ofInt x2)), some (.int y3), some (.long (Int64.ofInt l4)), none, some (.int (Int32.ofInt x6)), o7] [] M (fun v M2 => R M2) :=
  Wp.olp (f := fun s : Int × Mm => lb111_152 x1 x2 l4 s.1 s.2) (s := (x6, M)) (E := E111_152 X d x1 x2 l4 R) w (fun s w hx6 _ _ => tb111_152 hx1 hx2 hl4 hx6 w) hx6 _ _
noncomputable def lb111_17 (x1 : Int) (x2 : Int) (l4 : Int) (x6 : Int) (M : Mm) : Option ((Int × Mm) ⊕ (Mm)) :=
  if x6 < (M 142 3) then
  (gd (0 ≤ x6 ∧ x6 < 8) (
  if (M 158 (x6).toNat) = x2 then
  (mlet (ms M 166 (x6).toNat 0) fun M6 =>
  f111_51 x1 x2 l4 x6 0 M6)
  else
  (f111_143 x1 x2 l4 x6 M)))
  else
  (oinr (f111_152 x1 x2 l4 0 M))
noncomputable def f111_17 (x1 : Int) (x2 : Int) (l4 : Int) (x6 : Int) (M : Mm) : Option (Mm) := lp (fun s : Int × Mm => lb111_17 x1 x2 l4 s.1 s.2) (x6, M)
theorem tb111_17 {X : Nat × Nat × qC} {d : Nat} {x1 : Int} {x2 : Int} {l4 : Int} {x6 : Int} {M : Mm} {y3 : Int32} {o7 : Option Value} {R : Mm → Prop} (hx1 : R4 x1) (hx2 : R4 x2) (hl4 : R8 l4) (hx6 : R4 x6) (w : Wp (lb111_17 x1 x2 l4 x6 M) (Sum.elim (E111_17 X d x1 x2 l4 R) R)) : mE X (d + 2) 111 0 17 [some (.ref 142), some (.int (Int32.ofInt x1)), some (.int (Int32.ofInt x2)), some (.int y3), some (.long (Int64.ofInt l4)), none, some (.int (Int32.ofInt x6)), o7] [] M (fun v M2 => R M2) := by
  refine mE_iload c111_17 rfl ?_
  refine mE_aload_n c111_19 rfl ?_
  refine mE_getI c111_20 qo111 qF12_186 (ok_lit rfl rfl rfl) rfl ?_
  intro u1
  by_cases e2 : x6 < (M 142 3)
  · have w := w.pos e2
    refine mE_icmp_ge_F (t := 149) c111_23 rfl hx6 u1 e2 ?_
    refine mE_aload_n c111_26 rfl ?_
    refine mE_getA c111_27 qo111 qF12_58 (ok_lit rfl rfl rfl) rfl ⟨by decide, by decide⟩ ?_
    refine mE_iload c111_30 rfl ?_
    obtain ⟨g3, w⟩ := w.ogd
    refine mE_iaload c111_32 (ok_lit rfl rfl rfl) hx6 g3 ?_
    intro u4
    refine mE_iload_n c111_33 rfl ?_
    by_cases e5 : (M 158 (x6).toNat) = x2
    · have w := w.pos e5
      refine mE_icmp_eq_T (t := 40) c111_34 rfl u4 hx2 e5 ?_
      refine mE_aload_n c111_40 rfl ?_
      refine mE_getA c111_41 qo111 qF12_83 (ok_lit rfl rfl rfl) rfl ⟨by decide, by decide⟩ ?_
      refine mE_iload c111_44 rfl ?_
      refine mE_lconst (x := 0) c111_46 rfl ?_
      obtain ⟨M6, m7, w⟩ := w.mlet
      refine mE_lastore c111_47 (ok_lit rfl rfl rfl) hx6 g3 (r8_n rfl) ?_
      refine mE_M m7 ?_
      refine mE_iconst c111_48 ?_
      refine mE_istore (ls2 := [some (.ref 142), some (.int (Int32.ofInt x1)), some (.int (Int32.ofInt x2)), some (.int y3), some (.long (Int64.ofInt l4)), none, some (.int (Int32.ofInt x6)), some (.int (Int32.ofInt 0))]) c111_49 (Nat.le_of_ble_eq_true rfl) rfl ?_
      exact t111_51 hx1 hx2 hl4 hx6 (r4_n rfl) w
    · have w := w.neg e5
      refine mE_icmp_eq_F (t := 40) c111_34 rfl u4 hx2 e5 ?_
      refine mE_goto (t := 143) c111_37 rfl ?_
      exact t111_143 hx1 hx2 hl4 hx6 w
  · have w := w.neg e2
    refine mE_icmp_ge_T (t := 149) c111_23 rfl hx6 u1 e2 ?_
    have w := w.oinr
    refine mE_iconst c111_149 ?_
    refine mE_istore (ls2 := [some (.ref 142), some (.int (Int32.ofInt x1)), some (.int (Int32.ofInt x2)), some (.int y3), some (.long (Int64.ofInt l4)), none, some (.int (Int32.ofInt 0)), o7]) c111_150 (Nat.le_of_ble_eq_true rfl) rfl ?_
    exact t111_152 hx1 hx2 hl4 (r4_n rfl) w
theorem t111_17 {X : Nat × Nat × qC} {d : Nat} {x1 : Int} {x2 : Int} {l4 : Int} {x6 : Int} {M : Mm} {y3 : Int32} {o7 : Option Value} {R : Mm → Prop} (hx1 : R4 x1) (hx2 : R4 x2) (hl4 : R8 l4) (hx6 : R4 x6) (w : Wp (f111_17 x1 x2 l4 x6 M) R) : mE X (d + 2) 111 0 17 [some (.ref 142), some (.int (Int32.ofInt x1)), some (.int (Int32.ofInt x2)), some (.int y3), some (.long (Int64.ofInt l4)), none, some (.int (Int32.ofInt x6)), o7] [] M (fun v M2 => R M2) :=
  Wp.olp (f := fun s : Int × Mm => lb111_17 x1 x2 l4 s.1 s.2) (s := (x6, M)) (E := E111_17 X d x1 x2 l4 R) w (fun s w hx6 _ _ => tb111_17 hx1 hx2 hl4 hx6 w) hx6 _ _
noncomputable def f111 (x1 : Int) (x2 : Int) (M : Mm) : Option (Mm) :=
  obnd (f140 x1 x2 M) fun v1 M2 =>
  obnd (f182 v1 M2) fun v4 M5 =>
  f111_17 x1 x2 v4 0 M5
theorem t111 {X : Nat × Nat × qC} {d : Nat} {x1 : Int} {x2 : Int} {M : Mm}  {R : Mm → Prop} (hx1 : R4 x1) (hx2 : R4 x2) (w : Wp (f111 x1 x2 M) R) : mE X (d + 2) 111 0 0 [some (.ref 142), some (.int (Int32.ofInt x1)), some (.int (Int32.ofInt x2)), none, none, none, none, none] [] M (fun v M2 => R M2) := by
  refine mE_aload_n c111_0 rfl ?_
  refine mE_iload_n c111_1 rfl ?_
  refine mE_iload_n c111_2 rfl ?_
  refine mE_virtual1 (b := 142) (as := [.int (Int32.ofInt x1), .int (Int32.ofInt x2)]) (r := []) c111_3 qo111 qK12_252 qo140 rfl rfl rfl (ok_lit rfl rfl rfl) (Nat.le_of_ble_eq_true rfl) (s140 (d := d + 1) hx1 hx2 w.oc) ?_
  intro v1 M2 q3 w
  refine mE_istore_n (ls2 := [some (.ref 142), some (.int (Int32.ofInt x1)), some (.int (Int32.ofInt x2)), some (.int (Int32.ofInt v1)), none, none, none, none]) c111_6 (Nat.le_of_ble_eq_true rfl) rfl ?_
  refine mE_aload_n c111_7 rfl ?_
  refine mE_iload_n c111_8 rfl ?_
  refine mE_virtual2 (b := 142) (as := [.int (Int32.ofInt v1)]) (r := []) c111_9 qo111 qK12_255 qo182 rfl rfl rfl (ok_lit rfl rfl rfl) (Nat.le_of_ble_eq_true rfl) (s182 (d := d + 1) q3 w.oc) ?_
  intro v4 M5 q6 w
  refine mE_lstore (ls2 := [some (.ref 142), some (.int (Int32.ofInt x1)), some (.int (Int32.ofInt x2)), some (.int (Int32.ofInt v1)), some (.long (Int64.ofInt v4)), none, none, none]) c111_12 (Nat.le_of_ble_eq_true rfl) rfl ?_
  refine mE_iconst c111_14 ?_
  refine mE_istore (ls2 := [some (.ref 142), some (.int (Int32.ofInt x1)), some (.int (Int32.ofInt x2)), some (.int (Int32.ofInt v1)), some (.long (Int64.ofInt v4)), none, some (.int (Int32.ofInt 0)), none]) c111_15 (Nat.le_of_ble_eq_true rfl) rfl ?_
  exact t111_17 hx1 hx2 q6 (r4_n rfl) w
theorem s111 {X : Nat × Nat × qC} {d : Nat} {x1 : Int} {x2 : Int} {M : Mm} {R : Mm → Prop} (hx1 : R4 x1) (hx2 : R4 x2) (w : Wp (f111 x1 x2 M) R) : mC X (d + 3) 111 0 [.ref 142, .int (Int32.ofInt x1), .int (Int32.ofInt x2)] M (fun v M2 => R M2) :=
  mC_of (qent_mk qx111 rfl rfl rfl) (t111 hx1 hx2 w)
/-! SaggingNetModel.stands -/
def E173_62 (X : Nat × Nat × qC) (d : Nat) (x1 : Int) (R : Mm → Prop) : Int × Mm → Prop := fun s => R4 s.1 → mE X (d + 3) 173 0 62 [some (.ref 142), some (.int (Int32.ofInt x1)), some (.int (Int32.ofInt s.1))] [] s.2 (fun v M2 => R M2)
def E173_34 (X : Nat × Nat × qC) (d : Nat) (x1 : Int) (R : Mm → Prop) : Int × Mm → Prop := fun s => R4 s.1 → mE X (d + 3) 173 0 34 [some (.ref 142), some (.int (Int32.ofInt x1)), some (.int (Int32.ofInt s.1))] [] s.2 (fun v M2 => R M2)
def E173_13 (X : Nat × Nat × qC) (d : Nat) (x1 : Int) (R : Mm → Prop) : Int × Mm → Prop := fun s => R4 s.1 → mE X (d + 3) 173 0 13 [some (.ref 142), some (.int (Int32.ofInt x1)), some (.int (Int32.ofInt s.1))] [] s.2 (fun v M2 => R M2)
noncomputable def f173_101 (x1 : Int) (x2 : Int) (M : Mm) : Option ((Int × Mm) ⊕ (Mm)) :=
  gd (R4 (x2 + 1)) (
  some (.inl ((x2 + 1), M)))
theorem t173_101 {X : Nat × Nat × qC} {d : Nat} {x1 : Int} {x2 : Int} {M : Mm}  {R : Mm → Prop} (hx1 : R4 x1) (hx2 : R4 x2) (w : Wp (f173_101 x1 x2 M) (Sum.elim (E173_62 X d x1 R) R)) : mE X (d + 3) 173 0 101 [some (.ref 142), some (.int (Int32.ofInt x1)), some (.int (Int32.ofInt x2))] [] M (fun v M2 => R M2) := by
  obtain ⟨g1, w⟩ := w.ogd
  refine mE_iinc (ls2 := [some (.ref 142), some (.int (Int32.ofInt x1)), some (.int (Int32.ofInt (x2 + 1)))]) c173_101 rfl (Nat.le_of_ble_eq_true rfl) rfl ?_
  refine mE_goto (t := 62) c173_104 rfl ?_
  exact w.osome g1
noncomputable def lb173_62 (x1 : Int) (x2 : Int) (M : Mm) : Option ((Int × Mm) ⊕ (Mm)) :=
  if x2 < (M 142 3) then
  (gd (0 ≤ x2 ∧ x2 < 8) (
  if (M 158 (x2).toNat) = x2 then
  ((f165 x1 x2 M).bind fun M7 =>
  (f112 x1 x2 M7).bind fun M10 =>
  (f111 x1 x2 M10).bind fun M13 =>
  f173_101 x1 x2 M13)
  else
  (f173_101 x1 x2 M)))
  else
  (oinr (some M))
noncomputable def f173_62 (x1 : Int) (x2 : Int) (M : Mm) : Option (Mm) := lp (fun s : Int × Mm => lb173_62 x1 s.1 s.2) (x2, M)
theorem tb173_62 {X : Nat × Nat × qC} {d : Nat} {x1 : Int} {x2 : Int} {M : Mm}  {R : Mm → Prop} (hx1 : R4 x1) (hx2 : R4 x2) (w : Wp (lb173_62 x1 x2 M) (Sum.elim (E173_62 X d x1 R) R)) : mE X (d + 3) 173 0 62 [some (.ref 142), some (.int (Int32.ofInt x1)), some (.int (Int32.ofInt x2))] [] M (fun v M2 => R M2) := by
  refine mE_iload_n c173_62 rfl ?_
  refine mE_aload_n c173_63 rfl ?_
  refine mE_getI c173_64 qo173 qF12_186 (ok_lit rfl rfl rfl) rfl ?_
  intro u1
  by_cases e2 : x2 < (M 142 3)
  · have w := w.pos e2
    refine mE_icmp_ge_F (t := 107) c173_67 rfl hx2 u1 e2 ?_
    refine mE_aload_n c173_70 rfl ?_
    refine mE_getA c173_71 qo173 qF12_58 (ok_lit rfl rfl rfl) rfl ⟨by decide, by decide⟩ ?_
    refine mE_iload_n c173_74 rfl ?_
    obtain ⟨g3, w⟩ := w.ogd
    refine mE_iaload c173_75 (ok_lit rfl rfl rfl) hx2 g3 ?_
    intro u4
    refine mE_iload_n c173_76 rfl ?_
    by_cases e5 : (M 158 (x2).toNat) = x2
    · have w := w.pos e5
      refine mE_icmp_eq_T (t := 83) c173_77 rfl u4 hx2 e5 ?_
      refine mE_aload_n c173_83 rfl ?_
      refine mE_iload_n c173_84 rfl ?_
      refine mE_iload_n c173_85 rfl ?_
      refine mE_virtual0 (b := 142) (as := [.int (Int32.ofInt x1), .int (Int32.ofInt x2)]) (r := []) c173_86 qo173 qK12_267 qo165 rfl rfl rfl (ok_lit rfl rfl rfl) (Nat.le_of_ble_eq_true rfl) (s165 (d := d + 0) hx1 hx2 w.obind) ?_
      intro _ M7 w
      refine mE_aload_n c173_89 rfl ?_
      refine mE_iload_n c173_90 rfl ?_
      refine mE_iload_n c173_91 rfl ?_
      refine mE_virtual0 (b := 142) (as := [.int (Int32.ofInt x1), .int (Int32.ofInt x2)]) (r := []) c173_92 qo173 qK12_271 qo112 rfl rfl rfl (ok_lit rfl rfl rfl) (Nat.le_of_ble_eq_true rfl) (s112 (d := d + 0) hx1 hx2 w.obind) ?_
      intro _ M10 w
      refine mE_aload_n c173_95 rfl ?_
      refine mE_iload_n c173_96 rfl ?_
      refine mE_iload_n c173_97 rfl ?_
      refine mE_virtual0 (b := 142) (as := [.int (Int32.ofInt x1), .int (Int32.ofInt x2)]) (r := []) c173_98 qo173 qK12_274 qo111 rfl rfl rfl (ok_lit rfl rfl rfl) (Nat.le_of_ble_eq_true rfl) (s111 (d := d + 0) hx1 hx2 w.obind) ?_
      intro _ M13 w
      exact t173_101 hx1 hx2 w
    · have w := w.neg e5
      refine mE_icmp_eq_F (t := 83) c173_77 rfl u4 hx2 e5 ?_
      refine mE_goto (t := 101) c173_80 rfl ?_
      exact t173_101 hx1 hx2 w
  · have w := w.neg e2
    refine mE_icmp_ge_T (t := 107) c173_67 rfl hx2 u1 e2 ?_
    have w := w.oinr
    exact mE_vret c173_107 qr173 w.osome
theorem t173_62 {X : Nat × Nat × qC} {d : Nat} {x1 : Int} {x2 : Int} {M : Mm}  {R : Mm → Prop} (hx1 : R4 x1) (hx2 : R4 x2) (w : Wp (f173_62 x1 x2 M) R) : mE X (d + 3) 173 0 62 [some (.ref 142), some (.int (Int32.ofInt x1)), some (.int (Int32.ofInt x2))] [] M (fun v M2 => R M2) :=
  Wp.olp (f := fun s : Int × Mm => lb173_62 x1 s.1 s.2) (s := (x2, M)) (E := E173_62 X d x1 R) w (fun s w hx2 => tb173_62 hx1 hx2 w) hx2
noncomputable def lb173_34 (x1 : Int) (x2 : Int) (M : Mm) : Option ((Int × Mm) ⊕ (Mm)) :=
  if x2 < 14 then
  (gd (0 ≤ x2 ∧ x2 < 14) (
  mlet (ms M 161 (x2).toNat 0) fun M3 =>
  mlet (ms M3 162 (x2).toNat 1) fun M5 =>
  gd (R4 (x2 + 1)) (
  some (.inl ((x2 + 1), M5)))))
  else
  (oinr (f173_62 x1 0 M))
noncomputable def f173_34 (x1 : Int) (x2 : Int) (M : Mm) : Option (Mm) := lp (fun s : Int × Mm => lb173_34 x1 s.1 s.2) (x2, M)
theorem tb173_34 {X : Nat × Nat × qC} {d : Nat} {x1 : Int} {x2 : Int} {M : Mm}  {R : Mm → Prop} (hx1 : R4 x1) (hx2 : R4 x2) (w : Wp (lb173_34 x1 x2 M) (Sum.elim (E173_34 X d x1 R) R)) : mE X (d + 3) 173 0 34 [some (.ref 142), some (.int (Int32.ofInt x1)), some (.int (Int32.ofInt x2))] [] M (fun v M2 => R M2) := by
  refine mE_iload_n c173_34 rfl ?_
  refine mE_bipush (x := 14) c173_35 rfl ?_
  by_cases e1 : x2 < 14
  · have w := w.pos e1
    refine mE_icmp_ge_F (t := 60) c173_37 rfl hx2 (r4_n rfl) e1 ?_
    refine mE_aload_n c173_40 rfl ?_
    refine mE_getA c173_41 qo173 qF12_67 (ok_lit rfl rfl rfl) rfl ⟨by decide, by decide⟩ ?_
    refine mE_iload_n c173_44 rfl ?_
    refine mE_lconst (x := 0) c173_45 rfl ?_
    obtain ⟨g2, w⟩ := w.ogd
    obtain ⟨M3, m4, w⟩ := w.mlet
    refine mE_lastore c173_46 (ok_lit rfl rfl rfl) hx2 g2 (r8_n rfl) ?_
    refine mE_M m4 ?_
    refine mE_aload_n c173_47 rfl ?_
    refine mE_getA c173_48 qo173 qF12_71 (ok_lit rfl rfl rfl) rfl ⟨by decide, by decide⟩ ?_
    refine mE_iload_n c173_51 rfl ?_
    refine mE_lconst (x := 1) c173_52 rfl ?_
    obtain ⟨M5, m6, w⟩ := w.mlet
    refine mE_lastore c173_53 (ok_lit rfl rfl rfl) hx2 g2 (r8_n rfl) ?_
    refine mE_M m6 ?_
    obtain ⟨g7, w⟩ := w.ogd
    refine mE_iinc (ls2 := [some (.ref 142), some (.int (Int32.ofInt x1)), some (.int (Int32.ofInt (x2 + 1)))]) c173_54 rfl (Nat.le_of_ble_eq_true rfl) rfl ?_
    refine mE_goto (t := 34) c173_57 rfl ?_
    exact w.osome g7
  · have w := w.neg e1
    refine mE_icmp_ge_T (t := 60) c173_37 rfl hx2 (r4_n rfl) e1 ?_
    have w := w.oinr
    refine mE_iconst c173_60 ?_
    refine mE_istore_n (ls2 := [some (.ref 142), some (.int (Int32.ofInt x1)), some (.int (Int32.ofInt 0))]) c173_61 (Nat.le_of_ble_eq_true rfl) rfl ?_
    exact t173_62 hx1 (r4_n rfl) w
theorem t173_34 {X : Nat × Nat × qC} {d : Nat} {x1 : Int} {x2 : Int} {M : Mm}  {R : Mm → Prop} (hx1 : R4 x1) (hx2 : R4 x2) (w : Wp (f173_34 x1 x2 M) R) : mE X (d + 3) 173 0 34 [some (.ref 142), some (.int (Int32.ofInt x1)), some (.int (Int32.ofInt x2))] [] M (fun v M2 => R M2) :=
  Wp.olp (f := fun s : Int × Mm => lb173_34 x1 s.1 s.2) (s := (x2, M)) (E := E173_34 X d x1 R) w (fun s w hx2 => tb173_34 hx1 hx2 w) hx2
noncomputable def lb173_13 (x1 : Int) (x2 : Int) (M : Mm) : Option ((Int × Mm) ⊕ (Mm)) :=
  if x2 < 9 then
  (gd (0 ≤ x2 ∧ x2 < 9) (
  mlet (ms M 159 (x2).toNat 0) fun M3 =>
  gd (R4 (x2 + 1)) (
  some (.inl ((x2 + 1), M3)))))
  else
  (oinr (f173_34 x1 0 M))
noncomputable def f173_13 (x1 : Int) (x2 : Int) (M : Mm) : Option (Mm) := lp (fun s : Int × Mm => lb173_13 x1 s.1 s.2) (x2, M)
theorem tb173_13 {X : Nat × Nat × qC} {d : Nat} {x1 : Int} {x2 : Int} {M : Mm}  {R : Mm → Prop} (hx1 : R4 x1) (hx2 : R4 x2) (w : Wp (lb173_13 x1 x2 M) (Sum.elim (E173_13 X d x1 R) R)) : mE X (d + 3) 173 0 13 [some (.ref 142), some (.int (Int32.ofInt x1)), some (.int (Int32.ofInt x2))] [] M (fun v M2 => R M2) := by
  refine mE_iload_n c173_13 rfl ?_
  refine mE_bipush (x := 9) c173_14 rfl ?_
  by_cases e1 : x2 < 9
  · have w := w.pos e1
    refine mE_icmp_ge_F (t := 32) c173_16 rfl hx2 (r4_n rfl) e1 ?_
    refine mE_aload_n c173_19 rfl ?_
    refine mE_getA c173_20 qo173 qF12_61 (ok_lit rfl rfl rfl) rfl ⟨by decide, by decide⟩ ?_
    refine mE_iload_n c173_23 rfl ?_
    refine mE_iconst c173_24 ?_
    obtain ⟨g2, w⟩ := w.ogd
    obtain ⟨M3, m4, w⟩ := w.mlet
    refine mE_iastore c173_25 (ok_lit rfl rfl rfl) hx2 g2 (r4_n rfl) ?_
    refine mE_M m4 ?_
    obtain ⟨g5, w⟩ := w.ogd
    refine mE_iinc (ls2 := [some (.ref 142), some (.int (Int32.ofInt x1)), some (.int (Int32.ofInt (x2 + 1)))]) c173_26 rfl (Nat.le_of_ble_eq_true rfl) rfl ?_
    refine mE_goto (t := 13) c173_29 rfl ?_
    exact w.osome g5
  · have w := w.neg e1
    refine mE_icmp_ge_T (t := 32) c173_16 rfl hx2 (r4_n rfl) e1 ?_
    have w := w.oinr
    refine mE_iconst c173_32 ?_
    refine mE_istore_n (ls2 := [some (.ref 142), some (.int (Int32.ofInt x1)), some (.int (Int32.ofInt 0))]) c173_33 (Nat.le_of_ble_eq_true rfl) rfl ?_
    exact t173_34 hx1 (r4_n rfl) w
theorem t173_13 {X : Nat × Nat × qC} {d : Nat} {x1 : Int} {x2 : Int} {M : Mm}  {R : Mm → Prop} (hx1 : R4 x1) (hx2 : R4 x2) (w : Wp (f173_13 x1 x2 M) R) : mE X (d + 3) 173 0 13 [some (.ref 142), some (.int (Int32.ofInt x1)), some (.int (Int32.ofInt x2))] [] M (fun v M2 => R M2) :=
  Wp.olp (f := fun s : Int × Mm => lb173_13 x1 s.1 s.2) (s := (x2, M)) (E := E173_13 X d x1 R) w (fun s w hx2 => tb173_13 hx1 hx2 w) hx2
noncomputable def f173 (x1 : Int) (M : Mm) : Option (Mm) :=
  (f117 x1 0 M).bind fun M2 =>
  mlet (ms M2 142 29 0) fun M4 =>
  f173_13 x1 0 M4
theorem t173 {X : Nat × Nat × qC} {d : Nat} {x1 : Int} {M : Mm}  {R : Mm → Prop} (hx1 : R4 x1) (w : Wp (f173 x1 M) R) : mE X (d + 3) 173 0 0 [some (.ref 142), some (.int (Int32.ofInt x1)), none] [] M (fun v M2 => R M2) := by
  refine mE_aload_n c173_0 rfl ?_
  refine mE_iload_n c173_1 rfl ?_
  refine mE_iconst c173_2 ?_
  refine mE_virtual0 (b := 142) (as := [.int (Int32.ofInt x1), .int (Int32.ofInt 0)]) (r := []) c173_3 qo173 qK12_263 qo117 rfl rfl rfl (ok_lit rfl rfl rfl) (Nat.le_of_ble_eq_true rfl) (s117 (d := d + 2) hx1 (r4_n rfl) w.obind) ?_
  intro _ M2 w
  refine mE_aload_n c173_6 rfl ?_
  refine mE_iconst c173_7 ?_
  obtain ⟨M4, m5, w⟩ := w.mlet
  refine mE_putI c173_8 qo173 qF12_245 qz12_29 (ok_lit rfl rfl rfl) (Nat.le_of_ble_eq_true rfl) rfl (r4_n rfl) (by rw [qy12_29]; rfl) ?_
  refine mE_M m5 ?_
  refine mE_iconst c173_11 ?_
  refine mE_istore_n (ls2 := [some (.ref 142), some (.int (Int32.ofInt x1)), some (.int (Int32.ofInt 0))]) c173_12 (Nat.le_of_ble_eq_true rfl) rfl ?_
  exact t173_13 hx1 (r4_n rfl) w
theorem s173 {X : Nat × Nat × qC} {d : Nat} {x1 : Int} {M : Mm} {R : Mm → Prop} (hx1 : R4 x1) (w : Wp (f173 x1 M) R) : mC X (d + 4) 173 0 [.ref 142, .int (Int32.ofInt x1)] M (fun v M2 => R M2) :=
  mC_of (qent_mk qx173 rfl rfl rfl) (t173 hx1 w)
/-! SaggingNetModel.shedSet -/
def E164_4 (X : Nat × Nat × qC) (d : Nat) (x1 : Int) (M : Mm) (R : Int → Prop) : Int × Int → Prop := fun s => R4 s.1 → R4 s.2 → mE X (d + 0) 164 1 4 [some (.ref 142), some (.int (Int32.ofInt x1)), some (.int (Int32.ofInt s.1)), some (.int (Int32.ofInt s.2))] [] M (fun v M2 => M = M2 ∧ R v)
noncomputable def lb164_4 (x1 : Int) (x2 : Int) (x3 : Int) (M : Mm) : Option ((Int × Int) ⊕ (Int)) :=
  if x3 < (M 142 3) then
  (gd (R4 (x1 + 51)) (
  gd (R4 ((x1 + 51) + x3)) (
  gd (0 ≤ ((x1 + 51) + x3) ∧ ((x1 + 51) + x3) < 36400) (
  gd (R4 (x3 + 1)) (
  some (.inl ((bOr x2 (bShl (M 144 (((x1 + 51) + x3)).toNat) x3)), (x3 + 1))))))))
  else
  (oinr (some x2))
noncomputable def f164_4 (x1 : Int) (x2 : Int) (x3 : Int) (M : Mm) : Option (Int) := lp (fun s : Int × Int => lb164_4 x1 s.1 s.2 M) (x2, x3)
theorem tb164_4 {X : Nat × Nat × qC} {d : Nat} {x1 : Int} {x2 : Int} {x3 : Int} {M : Mm}  {R : Int → Prop} (hx1 : R4 x1) (hx2 : R4 x2) (hx3 : R4 x3) (w : Wp (lb164_4 x1 x2 x3 M) (Sum.elim (E164_4 X d x1 M R) R)) : mE X (d + 0) 164 1 4 [some (.ref 142), some (.int (Int32.ofInt x1)), some (.int (Int32.ofInt x2)), some (.int (Int32.ofInt x3))] [] M (fun v M2 => M = M2 ∧ R v) := by
  refine mE_iload_n c164_4 rfl ?_
  refine mE_aload_n c164_5 rfl ?_
  refine mE_getI c164_6 qo164 qF12_186 (ok_lit rfl rfl rfl) rfl ?_
  intro u1
  by_cases e2 : x3 < (M 142 3)
  · have w := w.pos e2
    refine mE_icmp_ge_F (t := 34) c164_9 rfl hx3 u1 e2 ?_
    refine mE_iload_n c164_12 rfl ?_
    refine mE_aload_n c164_13 rfl ?_
    refine mE_getA c164_14 qo164 qF12_14 (ok_lit rfl rfl rfl) rfl ⟨by decide, by decide⟩ ?_
    refine mE_iload_n c164_17 rfl ?_
    refine mE_bipush (x := 51) c164_18 rfl ?_
    obtain ⟨g3, w⟩ := w.ogd
    refine mE_iadd c164_20 ?_
    refine mE_iload_n c164_21 rfl ?_
    obtain ⟨g4, w⟩ := w.ogd
    refine mE_iadd c164_22 ?_
    obtain ⟨g5, w⟩ := w.ogd
    refine mE_iaload c164_23 (ok_lit rfl rfl rfl) g4 g5 ?_
    intro u6
    refine mE_iload_n c164_24 rfl ?_
    refine mE_ishl c164_25 ?_
    refine mE_ior c164_26 ?_
    refine mE_istore_n (ls2 := [some (.ref 142), some (.int (Int32.ofInt x1)), some (.int (Int32.ofInt (bOr x2 (bShl (M 144 (((x1 + 51) + x3)).toNat) x3)))), some (.int (Int32.ofInt x3))]) c164_27 (Nat.le_of_ble_eq_true rfl) rfl ?_
    obtain ⟨g7, w⟩ := w.ogd
    refine mE_iinc (ls2 := [some (.ref 142), some (.int (Int32.ofInt x1)), some (.int (Int32.ofInt (bOr x2 (bShl (M 144 (((x1 + 51) + x3)).toNat) x3)))), some (.int (Int32.ofInt (x3 + 1)))]) c164_28 rfl (Nat.le_of_ble_eq_true rfl) rfl ?_
    refine mE_goto (t := 4) c164_31 rfl ?_
    exact w.osome (r4_or _ _) g7
  · have w := w.neg e2
    refine mE_icmp_ge_T (t := 34) c164_9 rfl hx3 u1 e2 ?_
    have w := w.oinr
    refine mE_iload_n c164_34 rfl ?_
    exact mE_iret c164_35 qr164 hx2 ⟨rfl, w.osome⟩
theorem t164_4 {X : Nat × Nat × qC} {d : Nat} {x1 : Int} {x2 : Int} {x3 : Int} {M : Mm}  {R : Int → Prop} (hx1 : R4 x1) (hx2 : R4 x2) (hx3 : R4 x3) (w : Wp (f164_4 x1 x2 x3 M) R) : mE X (d + 0) 164 1 4 [some (.ref 142), some (.int (Int32.ofInt x1)), some (.int (Int32.ofInt x2)), some (.int (Int32.ofInt x3))] [] M (fun v M2 => M = M2 ∧ R v) :=
  Wp.olp (f := fun s : Int × Int => lb164_4 x1 s.1 s.2 M) (s := (x2, x3)) (E := E164_4 X d x1 M R) w (fun s w hx2 hx3 => tb164_4 hx1 hx2 hx3 w) hx2 hx3
noncomputable def f164 (x1 : Int) (M : Mm) : Option (Int) :=
  f164_4 x1 0 0 M
theorem t164 {X : Nat × Nat × qC} {d : Nat} {x1 : Int} {M : Mm}  {R : Int → Prop} (hx1 : R4 x1) (w : Wp (f164 x1 M) R) : mE X (d + 0) 164 1 0 [some (.ref 142), some (.int (Int32.ofInt x1)), none, none] [] M (fun v M2 => M = M2 ∧ R v) := by
  refine mE_iconst c164_0 ?_
  refine mE_istore_n (ls2 := [some (.ref 142), some (.int (Int32.ofInt x1)), some (.int (Int32.ofInt 0)), none]) c164_1 (Nat.le_of_ble_eq_true rfl) rfl ?_
  refine mE_iconst c164_2 ?_
  refine mE_istore_n (ls2 := [some (.ref 142), some (.int (Int32.ofInt x1)), some (.int (Int32.ofInt 0)), some (.int (Int32.ofInt 0))]) c164_3 (Nat.le_of_ble_eq_true rfl) rfl ?_
  exact t164_4 hx1 (r4_n rfl) (r4_n rfl) w
theorem s164 {X : Nat × Nat × qC} {d : Nat} {x1 : Int} {M : Mm} {R : Int → Prop} (hx1 : R4 x1) (w : Wp (f164 x1 M) R) : mC X (d + 1) 164 1 [.ref 142, .int (Int32.ofInt x1)] M (fun v M2 => M = M2 ∧ R v) :=
  mC_of (qent_mk qx164 rfl rfl rfl) (t164 hx1 w)
/-! SaggingNetModel.sizeOfFlow -/
noncomputable def f170 (l0 : Int) (M : Mm) : Option (Int) :=
  if l0 < 0 then
  (gd (R8 (-l0)) (
  some (-l0)))
  else
  (some l0)
theorem t170 {X : Nat × Nat × qC} {d : Nat} {l0 : Int} {M : Mm}  {R : Int → Prop} (hl0 : R8 l0) (w : Wp (f170 l0 M) R) : mE X (d + 0) 170 2 0 [some (.long (Int64.ofInt l0)), none] [] M (fun v M2 => M = M2 ∧ R v) := by
  refine mE_lload_n c170_0 rfl ?_
  refine mE_lconst (x := 0) c170_1 rfl ?_
  by_cases e1 : l0 < 0
  · have w := w.pos e1
    refine mE_lcmp_ge_F (t := 11) c170_2 c170_3 rfl hl0 (r8_n rfl) e1 ?_
    refine mE_lload_n c170_6 rfl ?_
    obtain ⟨g2, w⟩ := w.ogd
    refine mE_lneg c170_7 ?_
    refine mE_goto (t := 12) c170_8 rfl ?_
    exact mE_lret c170_12 qr170 g2 ⟨rfl, w.osome⟩
  · have w := w.neg e1
    refine mE_lcmp_ge_T (t := 11) c170_2 c170_3 rfl hl0 (r8_n rfl) e1 ?_
    refine mE_lload_n c170_11 rfl ?_
    exact mE_lret c170_12 qr170 hl0 ⟨rfl, w.osome⟩
theorem s170 {X : Nat × Nat × qC} {d : Nat} {l0 : Int} {M : Mm} {R : Int → Prop} (hl0 : R8 l0) (w : Wp (f170 l0 M) R) : mC X (d + 1) 170 2 [.long (Int64.ofInt l0)] M (fun v M2 => M = M2 ∧ R v) :=
  mC_of (qent_mk qx170 rfl rfl rfl) (t170 hl0 w)
/-! SaggingNetModel.isTooMuch -/
def E134_30 (X : Nat × Nat × qC) (d : Nat) (x2 : Int) (M : Mm) (R : Int × Mm → Prop) : Int → Prop := fun s => R4 s → ∀ (y1 : Int32), mE X (d + 4) 134 1 30 [some (.ref 142), some (.int y1), some (.int (Int32.ofInt x2)), some (.int (Int32.ofInt s))] [] M (fun v M2 => R (v, M2))
noncomputable def lb134_30 (x2 : Int) (x3 : Int) (M : Mm) : Option ((Int) ⊕ (Int × Mm)) :=
  if x3 < (M 142 4) then
  (gd (0 ≤ x3 ∧ x3 < 14) (
  (f170 (M 161 (x3).toNat) M).bind fun v5 =>
  gd (R8 ((M 150 (x3).toNat) * (M 162 (x3).toNat))) (
  if ((M 150 (x3).toNat) * (M 162 (x3).toNat)) < v5 then
  (oinr (some (1, M)))
  else
  (gd (R4 (x3 + 1)) (
  some (.inl ((x3 + 1))))))))
  else
  (oinr ((f164 36216 M).bind fun v3 =>
  if (bAnd v3 (bXor x2 (-1))) = 0 then
  (some (0, M))
  else
  (some (1, M))))
noncomputable def f134_30 (x2 : Int) (x3 : Int) (M : Mm) : Option (Int × Mm) := lp (fun s : Int => lb134_30 x2 s M) x3
theorem tb134_30 {X : Nat × Nat × qC} {d : Nat} {x2 : Int} {x3 : Int} {M : Mm} {y1 : Int32} {R : Int × Mm → Prop} (hx2 : R4 x2) (hx3 : R4 x3) (w : Wp (lb134_30 x2 x3 M) (Sum.elim (E134_30 X d x2 M R) R)) : mE X (d + 4) 134 1 30 [some (.ref 142), some (.int y1), some (.int (Int32.ofInt x2)), some (.int (Int32.ofInt x3))] [] M (fun v M2 => R (v, M2)) := by
  refine mE_iload_n c134_30 rfl ?_
  refine mE_aload_n c134_31 rfl ?_
  refine mE_getI c134_32 qo134 qF12_194 (ok_lit rfl rfl rfl) rfl ?_
  intro u1
  by_cases e2 : x3 < (M 142 4)
  · have w := w.pos e2
    refine mE_icmp_ge_F (t := 73) c134_35 rfl hx3 u1 e2 ?_
    refine mE_aload_n c134_38 rfl ?_
    refine mE_getA c134_39 qo134 qF12_67 (ok_lit rfl rfl rfl) rfl ⟨by decide, by decide⟩ ?_
    refine mE_iload_n c134_42 rfl ?_
    obtain ⟨g3, w⟩ := w.ogd
    refine mE_laload c134_43 (ok_lit rfl rfl rfl) hx3 g3 ?_
    intro u4
    refine mE_static2 (as := [.long (Int64.ofInt (M 161 (x3).toNat))]) (r := []) c134_44 qo134 (by decide) qK12_279 rfl rfl rfl (Nat.le_of_ble_eq_true rfl) (s170 (d := d + 3) u4 w.obind) ?_
    rintro v5 _ q7 ⟨rfl, w⟩
    refine mE_aload_n c134_47 rfl ?_
    refine mE_getA c134_48 qo134 qF12_33 (ok_lit rfl rfl rfl) rfl ⟨by decide, by decide⟩ ?_
    refine mE_iload_n c134_51 rfl ?_
    refine mE_iaload c134_52 (ok_lit rfl rfl rfl) hx3 g3 ?_
    intro u8
    refine mE_i2l c134_53 u8 ?_
    refine mE_aload_n c134_54 rfl ?_
    refine mE_getA c134_55 qo134 qF12_71 (ok_lit rfl rfl rfl) rfl ⟨by decide, by decide⟩ ?_
    refine mE_iload_n c134_58 rfl ?_
    refine mE_laload c134_59 (ok_lit rfl rfl rfl) hx3 g3 ?_
    intro u9
    obtain ⟨g10, w⟩ := w.ogd
    refine mE_lmul c134_60 ?_
    by_cases e11 : ((M 150 (x3).toNat) * (M 162 (x3).toNat)) < v5
    · have w := w.pos e11
      refine mE_lcmp_le_F (t := 67) c134_61 c134_62 rfl q7 g10 e11 ?_
      have w := w.oinr
      refine mE_iconst c134_65 ?_
      exact mE_zret c134_66 qr134 (Or.inr rfl) w.osome
    · have w := w.neg e11
      refine mE_lcmp_le_T (t := 67) c134_61 c134_62 rfl q7 g10 e11 ?_
      obtain ⟨g12, w⟩ := w.ogd
      refine mE_iinc (ls2 := [some (.ref 142), some (.int y1), some (.int (Int32.ofInt x2)), some (.int (Int32.ofInt (x3 + 1)))]) c134_67 rfl (Nat.le_of_ble_eq_true rfl) rfl ?_
      refine mE_goto (t := 30) c134_70 rfl ?_
      exact w.osome g12 _
  · have w := w.neg e2
    refine mE_icmp_ge_T (t := 73) c134_35 rfl hx3 u1 e2 ?_
    have w := w.oinr
    refine mE_aload_n c134_73 rfl ?_
    refine mE_ldc_w (x := 36216) c134_74 qo134 qI12_443 rfl ?_
    refine mE_virtual1 (b := 142) (as := [.int (Int32.ofInt 36216)]) (r := []) c134_77 qo134 qK12_447 qo164 rfl rfl rfl (ok_lit rfl rfl rfl) (Nat.le_of_ble_eq_true rfl) (s164 (d := d + 3) (r4_n rfl) w.obind) ?_
    rintro v3 _ q5 ⟨rfl, w⟩
    refine mE_iload_n c134_80 rfl ?_
    refine mE_iconst c134_81 ?_
    refine mE_ixor c134_82 ?_
    refine mE_iand c134_83 ?_
    by_cases e6 : (bAnd v3 (bXor x2 (-1))) = 0
    · have w := w.pos e6
      refine mE_if_eq_T (t := 91) c134_84 rfl (r4_and _ _) e6 ?_
      refine mE_iconst c134_91 ?_
      exact mE_zret c134_92 qr134 (Or.inl rfl) w.osome
    · have w := w.neg e6
      refine mE_if_eq_F (t := 91) c134_84 rfl (r4_and _ _) e6 ?_
      refine mE_iconst c134_87 ?_
      refine mE_goto (t := 92) c134_88 rfl ?_
      exact mE_zret c134_92 qr134 (Or.inr rfl) w.osome
theorem t134_30 {X : Nat × Nat × qC} {d : Nat} {x2 : Int} {x3 : Int} {M : Mm} {y1 : Int32} {R : Int × Mm → Prop} (hx2 : R4 x2) (hx3 : R4 x3) (w : Wp (f134_30 x2 x3 M) R) : mE X (d + 4) 134 1 30 [some (.ref 142), some (.int y1), some (.int (Int32.ofInt x2)), some (.int (Int32.ofInt x3))] [] M (fun v M2 => R (v, M2)) :=
  Wp.olp (f := fun s : Int => lb134_30 x2 s M) (s := x3) (E := E134_30 X d x2 M R) w (fun s w hx3 _ => tb134_30 hx2 hx3 w) hx3 _
noncomputable def f134 (x1 : Int) (x2 : Int) (M : Mm) : Option (Int × Mm) :=
  (f96 36072 36216 M).bind fun M2 =>
  gd (R4 (36216 + x1)) (
  gd (0 ≤ (36216 + x1) ∧ (36216 + x1) < 36400) (
  mlet (ms M2 144 ((36216 + x1)).toNat 1) fun M6 =>
  (f173 36216 M6).bind fun M9 =>
  f134_30 x2 0 M9))
theorem t134 {X : Nat × Nat × qC} {d : Nat} {x1 : Int} {x2 : Int} {M : Mm}  {R : Int × Mm → Prop} (hx1 : R4 x1) (hx2 : R4 x2) (w : Wp (f134 x1 x2 M) R) : mE X (d + 4) 134 1 0 [some (.ref 142), some (.int (Int32.ofInt x1)), some (.int (Int32.ofInt x2)), none] [] M (fun v M2 => R (v, M2)) := by
  refine mE_aload_n c134_0 rfl ?_
  refine mE_ldc_w (x := 36072) c134_1 qo134 qI12_442 rfl ?_
  refine mE_ldc_w (x := 36216) c134_4 qo134 qI12_443 rfl ?_
  refine mE_virtual0 (b := 142) (as := [.int (Int32.ofInt 36072), .int (Int32.ofInt 36216)]) (r := []) c134_7 qo134 qK12_444 qo96 rfl rfl rfl (ok_lit rfl rfl rfl) (Nat.le_of_ble_eq_true rfl) (s96 (d := d + 3) (r4_n rfl) (r4_n rfl) w.obind) ?_
  intro _ M2 w
  refine mE_aload_n c134_10 rfl ?_
  refine mE_getA c134_11 qo134 qF12_14 (ok_lit rfl rfl rfl) rfl ⟨by decide, by decide⟩ ?_
  refine mE_ldc_w (x := 36216) c134_14 qo134 qI12_443 rfl ?_
  refine mE_iload_n c134_17 rfl ?_
  obtain ⟨g4, w⟩ := w.ogd
  refine mE_iadd c134_18 ?_
  refine mE_iconst c134_19 ?_
  obtain ⟨g5, w⟩ := w.ogd
  obtain ⟨M6, m7, w⟩ := w.mlet
  refine mE_iastore c134_20 (ok_lit rfl rfl rfl) g4 g5 (r4_n rfl) ?_
  refine mE_M m7 ?_
  refine mE_aload_n c134_21 rfl ?_
  refine mE_ldc_w (x := 36216) c134_22 qo134 qI12_443 rfl ?_
  refine mE_virtual0 (b := 142) (as := [.int (Int32.ofInt 36216)]) (r := []) c134_25 qo134 qK12_429 qo173 rfl rfl rfl (ok_lit rfl rfl rfl) (Nat.le_of_ble_eq_true rfl) (s173 (d := d + 0) (r4_n rfl) w.obind) ?_
  intro _ M9 w
  refine mE_iconst c134_28 ?_
  refine mE_istore_n (ls2 := [some (.ref 142), some (.int (Int32.ofInt x1)), some (.int (Int32.ofInt x2)), some (.int (Int32.ofInt 0))]) c134_29 (Nat.le_of_ble_eq_true rfl) rfl ?_
  exact t134_30 hx2 (r4_n rfl) w
theorem s134 {X : Nat × Nat × qC} {d : Nat} {x1 : Int} {x2 : Int} {M : Mm} {R : Int × Mm → Prop} (hx1 : R4 x1) (hx2 : R4 x2) (w : Wp (f134 x1 x2 M) R) : mC X (d + 5) 134 1 [.ref 142, .int (Int32.ofInt x1), .int (Int32.ofInt x2)] M (fun v M2 => R (v, M2)) :=
  mC_of (qent_mk qx134 rfl rfl rfl) (t134 hx1 hx2 w)
/-! SaggingNetModel.cannot -/
def E89_37 (X : Nat × Nat × qC) (d : Nat) (x1 : Int) (R : Int × Mm → Prop) : Int × Int × Mm → Prop := fun s => R4 s.1 → R4 s.2.1 → mE X (d + 5) 89 1 37 [some (.ref 142), some (.int (Int32.ofInt x1)), some (.int (Int32.ofInt s.1)), some (.int (Int32.ofInt s.2.1))] [] s.2.2 (fun v M2 => R (v, M2))
noncomputable def f89_72 (x1 : Int) (x2 : Int) (x3 : Int) (M : Mm) : Option ((Int × Int × Mm) ⊕ (Int × Mm)) :=
  gd (R4 (x3 + 1)) (
  some (.inl (x2, (x3 + 1), M)))
theorem t89_72 {X : Nat × Nat × qC} {d : Nat} {x1 : Int} {x2 : Int} {x3 : Int} {M : Mm}  {R : Int × Mm → Prop} (hx1 : R4 x1) (hx2 : R4 x2) (hx3 : R4 x3) (w : Wp (f89_72 x1 x2 x3 M) (Sum.elim (E89_37 X d x1 R) R)) : mE X (d + 5) 89 1 72 [some (.ref 142), some (.int (Int32.ofInt x1)), some (.int (Int32.ofInt x2)), some (.int (Int32.ofInt x3))] [] M (fun v M2 => R (v, M2)) := by
  obtain ⟨g1, w⟩ := w.ogd
  refine mE_iinc (ls2 := [some (.ref 142), some (.int (Int32.ofInt x1)), some (.int (Int32.ofInt x2)), some (.int (Int32.ofInt (x3 + 1)))]) c89_72 rfl (Nat.le_of_ble_eq_true rfl) rfl ?_
  refine mE_goto (t := 37) c89_75 rfl ?_
  exact w.osome hx2 g1
noncomputable def lb89_37 (x1 : Int) (x2 : Int) (x3 : Int) (M : Mm) : Option ((Int × Int × Mm) ⊕ (Int × Mm)) :=
  if x3 < (M 142 4) then
  (gd (R4 (36000 + x3)) (
  gd (0 ≤ (36000 + x3) ∧ (36000 + x3) < 36400) (
  if (M 144 ((36000 + x3)).toNat) = 0 then
  (obnd (f134 x3 x1 M) fun v7 M8 =>
  if v7 = 0 then
  (f89_72 x1 x2 x3 M8)
  else
  (f89_72 x1 (bOr x2 (bShl 1 x3)) x3 M8))
  else
  (f89_72 x1 x2 x3 M))))
  else
  (oinr (some (x2, M)))
noncomputable def f89_37 (x1 : Int) (x2 : Int) (x3 : Int) (M : Mm) : Option (Int × Mm) := lp (fun s : Int × Int × Mm => lb89_37 x1 s.1 s.2.1 s.2.2) (x2, x3, M)
theorem tb89_37 {X : Nat × Nat × qC} {d : Nat} {x1 : Int} {x2 : Int} {x3 : Int} {M : Mm}  {R : Int × Mm → Prop} (hx1 : R4 x1) (hx2 : R4 x2) (hx3 : R4 x3) (w : Wp (lb89_37 x1 x2 x3 M) (Sum.elim (E89_37 X d x1 R) R)) : mE X (d + 5) 89 1 37 [some (.ref 142), some (.int (Int32.ofInt x1)), some (.int (Int32.ofInt x2)), some (.int (Int32.ofInt x3))] [] M (fun v M2 => R (v, M2)) := by
  refine mE_iload_n c89_37 rfl ?_
  refine mE_aload_n c89_38 rfl ?_
  refine mE_getI c89_39 qo89 qF12_194 (ok_lit rfl rfl rfl) rfl ?_
  intro u1
  by_cases e2 : x3 < (M 142 4)
  · have w := w.pos e2
    refine mE_icmp_ge_F (t := 78) c89_42 rfl hx3 u1 e2 ?_
    refine mE_aload_n c89_45 rfl ?_
    refine mE_getA c89_46 qo89 qF12_14 (ok_lit rfl rfl rfl) rfl ⟨by decide, by decide⟩ ?_
    refine mE_ldc (x := 36000) c89_49 qo89 qI12_230 rfl ?_
    refine mE_iload_n c89_51 rfl ?_
    obtain ⟨g3, w⟩ := w.ogd
    refine mE_iadd c89_52 ?_
    obtain ⟨g4, w⟩ := w.ogd
    refine mE_iaload c89_53 (ok_lit rfl rfl rfl) g3 g4 ?_
    intro u5
    by_cases e6 : (M 144 ((36000 + x3)).toNat) = 0
    · have w := w.pos e6
      refine mE_if_ne_F (t := 72) c89_54 rfl u5 e6 ?_
      refine mE_aload_n c89_57 rfl ?_
      refine mE_iload_n c89_58 rfl ?_
      refine mE_iload_n c89_59 rfl ?_
      refine mE_virtual1 (b := 142) (as := [.int (Int32.ofInt x3), .int (Int32.ofInt x1)]) (r := []) c89_60 qo89 qK12_452 qo134 rfl rfl rfl (ok_lit rfl rfl rfl) (Nat.le_of_ble_eq_true rfl) (s134 (d := d + 0) hx3 hx1 w.oc) ?_
      intro v7 M8 q9 w
      by_cases e10 : v7 = 0
      · have w := w.pos e10
        refine mE_if_eq_T (t := 72) c89_63 rfl q9 e10 ?_
        exact t89_72 hx1 hx2 hx3 w
      · have w := w.neg e10
        refine mE_if_eq_F (t := 72) c89_63 rfl q9 e10 ?_
        refine mE_iload_n c89_66 rfl ?_
        refine mE_iconst c89_67 ?_
        refine mE_iload_n c89_68 rfl ?_
        refine mE_ishl c89_69 ?_
        refine mE_ior c89_70 ?_
        refine mE_istore_n (ls2 := [some (.ref 142), some (.int (Int32.ofInt x1)), some (.int (Int32.ofInt (bOr x2 (bShl 1 x3)))), some (.int (Int32.ofInt x3))]) c89_71 (Nat.le_of_ble_eq_true rfl) rfl ?_
        exact t89_72 hx1 (r4_or _ _) hx3 w
    · have w := w.neg e6
      refine mE_if_ne_T (t := 72) c89_54 rfl u5 e6 ?_
      exact t89_72 hx1 hx2 hx3 w
  · have w := w.neg e2
    refine mE_icmp_ge_T (t := 78) c89_42 rfl hx3 u1 e2 ?_
    have w := w.oinr
    refine mE_iload_n c89_78 rfl ?_
    exact mE_iret c89_79 qr89 hx2 w.osome
theorem t89_37 {X : Nat × Nat × qC} {d : Nat} {x1 : Int} {x2 : Int} {x3 : Int} {M : Mm}  {R : Int × Mm → Prop} (hx1 : R4 x1) (hx2 : R4 x2) (hx3 : R4 x3) (w : Wp (f89_37 x1 x2 x3 M) R) : mE X (d + 5) 89 1 37 [some (.ref 142), some (.int (Int32.ofInt x1)), some (.int (Int32.ofInt x2)), some (.int (Int32.ofInt x3))] [] M (fun v M2 => R (v, M2)) :=
  Wp.olp (f := fun s : Int × Int × Mm => lb89_37 x1 s.1 s.2.1 s.2.2) (s := (x2, x3, M)) (E := E89_37 X d x1 R) w (fun s w hx2 hx3 => tb89_37 hx1 hx2 hx3 w) hx2 hx3
noncomputable def f89  (M : Mm) : Option (Int × Mm) :=
  (f96 36000 36072 M).bind fun M2 =>
  (f96 36000 36144 M2).bind fun M5 =>
  (f173 36144 M5).bind fun M8 =>
  (f164 36144 M8).bind fun v10 =>
  f89_37 v10 0 0 M8
theorem t89 {X : Nat × Nat × qC} {d : Nat}  {M : Mm}  {R : Int × Mm → Prop}  (w : Wp (f89  M) R) : mE X (d + 5) 89 1 0 [some (.ref 142), none, none, none] [] M (fun v M2 => R (v, M2)) := by
  refine mE_aload_n c89_0 rfl ?_
  refine mE_ldc (x := 36000) c89_1 qo89 qI12_230 rfl ?_
  refine mE_ldc_w (x := 36072) c89_3 qo89 qI12_442 rfl ?_
  refine mE_virtual0 (b := 142) (as := [.int (Int32.ofInt 36000), .int (Int32.ofInt 36072)]) (r := []) c89_6 qo89 qK12_444 qo96 rfl rfl rfl (ok_lit rfl rfl rfl) (Nat.le_of_ble_eq_true rfl) (s96 (d := d + 4) (r4_n rfl) (r4_n rfl) w.obind) ?_
  intro _ M2 w
  refine mE_aload_n c89_9 rfl ?_
  refine mE_ldc (x := 36000) c89_10 qo89 qI12_230 rfl ?_
  refine mE_ldc_w (x := 36144) c89_12 qo89 qI12_451 rfl ?_
  refine mE_virtual0 (b := 142) (as := [.int (Int32.ofInt 36000), .int (Int32.ofInt 36144)]) (r := []) c89_15 qo89 qK12_444 qo96 rfl rfl rfl (ok_lit rfl rfl rfl) (Nat.le_of_ble_eq_true rfl) (s96 (d := d + 4) (r4_n rfl) (r4_n rfl) w.obind) ?_
  intro _ M5 w
  refine mE_aload_n c89_18 rfl ?_
  refine mE_ldc_w (x := 36144) c89_19 qo89 qI12_451 rfl ?_
  refine mE_virtual0 (b := 142) (as := [.int (Int32.ofInt 36144)]) (r := []) c89_22 qo89 qK12_429 qo173 rfl rfl rfl (ok_lit rfl rfl rfl) (Nat.le_of_ble_eq_true rfl) (s173 (d := d + 1) (r4_n rfl) w.obind) ?_
  intro _ M8 w
  refine mE_aload_n c89_25 rfl ?_
  refine mE_ldc_w (x := 36144) c89_26 qo89 qI12_451 rfl ?_
  refine mE_virtual1 (b := 142) (as := [.int (Int32.ofInt 36144)]) (r := []) c89_29 qo89 qK12_447 qo164 rfl rfl rfl (ok_lit rfl rfl rfl) (Nat.le_of_ble_eq_true rfl) (s164 (d := d + 4) (r4_n rfl) w.obind) ?_
  rintro v10 _ q12 ⟨rfl, w⟩
  refine mE_istore_n (ls2 := [some (.ref 142), some (.int (Int32.ofInt v10)), none, none]) c89_32 (Nat.le_of_ble_eq_true rfl) rfl ?_
  refine mE_iconst c89_33 ?_
  refine mE_istore_n (ls2 := [some (.ref 142), some (.int (Int32.ofInt v10)), some (.int (Int32.ofInt 0)), none]) c89_34 (Nat.le_of_ble_eq_true rfl) rfl ?_
  refine mE_iconst c89_35 ?_
  refine mE_istore_n (ls2 := [some (.ref 142), some (.int (Int32.ofInt v10)), some (.int (Int32.ofInt 0)), some (.int (Int32.ofInt 0))]) c89_36 (Nat.le_of_ble_eq_true rfl) rfl ?_
  exact t89_37 q12 (r4_n rfl) (r4_n rfl) w
theorem s89 {X : Nat × Nat × qC} {d : Nat}  {M : Mm} {R : Int × Mm → Prop}  (w : Wp (f89  M) R) : mC X (d + 6) 89 1 [.ref 142] M (fun v M2 => R (v, M2)) :=
  mC_of (qent_mk qx89 rfl rfl rfl) (t89  w)
/-! SaggingNetModel.numberAt -/
def E149_4 (X : Nat × Nat × qC) (d : Nat) (x1 : Int) (M : Mm) (R : Int → Prop) : Int × Int → Prop := fun s => R4 s.1 → R4 s.2 → mE X (d + 0) 149 1 4 [some (.ref 142), some (.int (Int32.ofInt x1)), some (.int (Int32.ofInt s.1)), some (.int (Int32.ofInt s.2))] [] M (fun v M2 => M = M2 ∧ R v)
noncomputable def lb149_4 (x1 : Int) (x2 : Int) (x3 : Int) (M : Mm) : Option ((Int × Int) ⊕ (Int)) :=
  if x3 < 4 then
  (gd (R4 (4 * x1)) (
  gd (R4 ((4 * x1) + x3)) (
  gd (0 ≤ ((4 * x1) + x3) ∧ ((4 * x1) + x3) < 200) (
  gd (R4 (x3 + 1)) (
  some (.inl ((bOr (bShl x2 8) (bAnd (M 143 (((4 * x1) + x3)).toNat) 255)), (x3 + 1))))))))
  else
  (oinr (some x2))
noncomputable def f149_4 (x1 : Int) (x2 : Int) (x3 : Int) (M : Mm) : Option (Int) := lp (fun s : Int × Int => lb149_4 x1 s.1 s.2 M) (x2, x3)
theorem tb149_4 {X : Nat × Nat × qC} {d : Nat} {x1 : Int} {x2 : Int} {x3 : Int} {M : Mm}  {R : Int → Prop} (hx1 : R4 x1) (hx2 : R4 x2) (hx3 : R4 x3) (w : Wp (lb149_4 x1 x2 x3 M) (Sum.elim (E149_4 X d x1 M R) R)) : mE X (d + 0) 149 1 4 [some (.ref 142), some (.int (Int32.ofInt x1)), some (.int (Int32.ofInt x2)), some (.int (Int32.ofInt x3))] [] M (fun v M2 => M = M2 ∧ R v) := by
  refine mE_iload_n c149_4 rfl ?_
  refine mE_iconst c149_5 ?_
  by_cases e1 : x3 < 4
  · have w := w.pos e1
    refine mE_icmp_ge_F (t := 35) c149_6 rfl hx3 (r4_n rfl) e1 ?_
    refine mE_iload_n c149_9 rfl ?_
    refine mE_bipush (x := 8) c149_10 rfl ?_
    refine mE_ishl c149_12 ?_
    refine mE_aload_n c149_13 rfl ?_
    refine mE_getA c149_14 qo149 qF12_7 (ok_lit rfl rfl rfl) rfl ⟨by decide, by decide⟩ ?_
    refine mE_iconst c149_17 ?_
    refine mE_iload_n c149_18 rfl ?_
    obtain ⟨g2, w⟩ := w.ogd
    refine mE_imul c149_19 ?_
    refine mE_iload_n c149_20 rfl ?_
    obtain ⟨g3, w⟩ := w.ogd
    refine mE_iadd c149_21 ?_
    obtain ⟨g4, w⟩ := w.ogd
    refine mE_baload c149_22 (ok_lit rfl rfl rfl) g3 g4 ?_
    intro u5
    refine mE_sipush (x := 255) c149_23 rfl ?_
    refine mE_iand c149_26 ?_
    refine mE_ior c149_27 ?_
    refine mE_istore_n (ls2 := [some (.ref 142), some (.int (Int32.ofInt x1)), some (.int (Int32.ofInt (bOr (bShl x2 8) (bAnd (M 143 (((4 * x1) + x3)).toNat) 255)))), some (.int (Int32.ofInt x3))]) c149_28 (Nat.le_of_ble_eq_true rfl) rfl ?_
    obtain ⟨g6, w⟩ := w.ogd
    refine mE_iinc (ls2 := [some (.ref 142), some (.int (Int32.ofInt x1)), some (.int (Int32.ofInt (bOr (bShl x2 8) (bAnd (M 143 (((4 * x1) + x3)).toNat) 255)))), some (.int (Int32.ofInt (x3 + 1)))]) c149_29 rfl (Nat.le_of_ble_eq_true rfl) rfl ?_
    refine mE_goto (t := 4) c149_32 rfl ?_
    exact w.osome (r4_or _ _) g6
  · have w := w.neg e1
    refine mE_icmp_ge_T (t := 35) c149_6 rfl hx3 (r4_n rfl) e1 ?_
    have w := w.oinr
    refine mE_iload_n c149_35 rfl ?_
    exact mE_iret c149_36 qr149 hx2 ⟨rfl, w.osome⟩
theorem t149_4 {X : Nat × Nat × qC} {d : Nat} {x1 : Int} {x2 : Int} {x3 : Int} {M : Mm}  {R : Int → Prop} (hx1 : R4 x1) (hx2 : R4 x2) (hx3 : R4 x3) (w : Wp (f149_4 x1 x2 x3 M) R) : mE X (d + 0) 149 1 4 [some (.ref 142), some (.int (Int32.ofInt x1)), some (.int (Int32.ofInt x2)), some (.int (Int32.ofInt x3))] [] M (fun v M2 => M = M2 ∧ R v) :=
  Wp.olp (f := fun s : Int × Int => lb149_4 x1 s.1 s.2 M) (s := (x2, x3)) (E := E149_4 X d x1 M R) w (fun s w hx2 hx3 => tb149_4 hx1 hx2 hx3 w) hx2 hx3
noncomputable def f149 (x1 : Int) (M : Mm) : Option (Int) :=
  f149_4 x1 0 0 M
theorem t149 {X : Nat × Nat × qC} {d : Nat} {x1 : Int} {M : Mm}  {R : Int → Prop} (hx1 : R4 x1) (w : Wp (f149 x1 M) R) : mE X (d + 0) 149 1 0 [some (.ref 142), some (.int (Int32.ofInt x1)), none, none] [] M (fun v M2 => M = M2 ∧ R v) := by
  refine mE_iconst c149_0 ?_
  refine mE_istore_n (ls2 := [some (.ref 142), some (.int (Int32.ofInt x1)), some (.int (Int32.ofInt 0)), none]) c149_1 (Nat.le_of_ble_eq_true rfl) rfl ?_
  refine mE_iconst c149_2 ?_
  refine mE_istore_n (ls2 := [some (.ref 142), some (.int (Int32.ofInt x1)), some (.int (Int32.ofInt 0)), some (.int (Int32.ofInt 0))]) c149_3 (Nat.le_of_ble_eq_true rfl) rfl ?_
  exact t149_4 hx1 (r4_n rfl) (r4_n rfl) w
theorem s149 {X : Nat × Nat × qC} {d : Nat} {x1 : Int} {M : Mm} {R : Int → Prop} (hx1 : R4 x1) (w : Wp (f149 x1 M) R) : mC X (d + 1) 149 1 [.ref 142, .int (Int32.ofInt x1)] M (fun v M2 => M = M2 ∧ R v) :=
  mC_of (qent_mk qx149 rfl rfl rfl) (t149 hx1 w)
/-! SaggingNetModel.check -/
def E90_25 (X : Nat × Nat × qC) (d : Nat) (x1 : Int) (M : Mm) (R : Int × Mm → Prop) : Int → Prop := fun s => R4 s → mE X (d + 1) 90 1 25 [some (.ref 142), some (.int (Int32.ofInt x1)), some (.int (Int32.ofInt s))] [] M (fun v M2 => R (v, M2))
noncomputable def lb90_25 (x1 : Int) (x2 : Int) (M : Mm) : Option ((Int) ⊕ (Int × Mm)) :=
  if x2 < (M 142 4) then
  (if x2 = x1 then
  (oinr (gd (R4 (3 * x1)) (
  some ((3 * x1), M))))
  else
  (gd (R4 (3 * x2)) (
  (f149 (3 * x2) M).bind fun v5 =>
  if v5 = x2 then
  (gd (R4 ((3 * x2) + 1)) (
  (f149 ((3 * x2) + 1) M).bind fun v10 =>
  gd (R4 (36000 + x2)) (
  gd (0 ≤ (36000 + x2) ∧ (36000 + x2) < 36400) (
  if v10 = (M 144 ((36000 + x2)).toNat) then
  (gd (R4 ((3 * x2) + 2)) (
  (f149 ((3 * x2) + 2) M).bind fun v18 =>
  gd (R4 (36014 + x2)) (
  gd (0 ≤ (36014 + x2) ∧ (36014 + x2) < 36400) (
  if v18 = (M 144 ((36014 + x2)).toNat) then
  (gd (R4 (x2 + 1)) (
  some (.inl ((x2 + 1)))))
  else
  (oinr (some (((3 * x2) + 2), M)))))))
  else
  (oinr (some (((3 * x2) + 1), M)))))))
  else
  (oinr (some ((3 * x2), M))))))
  else
  (oinr (if x1 = (M 142 4) then
  (some ((-1), M))
  else
  (gd (R4 (3 * (M 142 4))) (
  some ((3 * (M 142 4)), M)))))
noncomputable def f90_25 (x1 : Int) (x2 : Int) (M : Mm) : Option (Int × Mm) := lp (fun s : Int => lb90_25 x1 s M) x2
theorem tb90_25 {X : Nat × Nat × qC} {d : Nat} {x1 : Int} {x2 : Int} {M : Mm}  {R : Int × Mm → Prop} (hx1 : R4 x1) (hx2 : R4 x2) (w : Wp (lb90_25 x1 x2 M) (Sum.elim (E90_25 X d x1 M R) R)) : mE X (d + 1) 90 1 25 [some (.ref 142), some (.int (Int32.ofInt x1)), some (.int (Int32.ofInt x2))] [] M (fun v M2 => R (v, M2)) := by
  refine mE_iload_n c90_25 rfl ?_
  refine mE_aload_n c90_26 rfl ?_
  refine mE_getI c90_27 qo90 qF12_194 (ok_lit rfl rfl rfl) rfl ?_
  intro u1
  by_cases e2 : x2 < (M 142 4)
  · have w := w.pos e2
    refine mE_icmp_ge_F (t := 118) c90_30 rfl hx2 u1 e2 ?_
    refine mE_iload_n c90_33 rfl ?_
    refine mE_iload_n c90_34 rfl ?_
    by_cases e3 : x2 = x1
    · have w := w.pos e3
      refine mE_icmp_ne_F (t := 42) c90_35 rfl hx2 hx1 e3 ?_
      have w := w.oinr
      refine mE_iconst c90_38 ?_
      refine mE_iload_n c90_39 rfl ?_
      obtain ⟨g4, w⟩ := w.ogd
      refine mE_imul c90_40 ?_
      exact mE_iret c90_41 qr90 g4 w.osome
    · have w := w.neg e3
      refine mE_icmp_ne_T (t := 42) c90_35 rfl hx2 hx1 e3 ?_
      refine mE_aload_n c90_42 rfl ?_
      refine mE_iconst c90_43 ?_
      refine mE_iload_n c90_44 rfl ?_
      obtain ⟨g4, w⟩ := w.ogd
      refine mE_imul c90_45 ?_
      refine mE_virtual1 (b := 142) (as := [.int (Int32.ofInt (3 * x2))]) (r := []) c90_46 qo90 qK12_541 qo149 rfl rfl rfl (ok_lit rfl rfl rfl) (Nat.le_of_ble_eq_true rfl) (s149 (d := d + 0) g4 w.obind) ?_
      rintro v5 _ q7 ⟨rfl, w⟩
      refine mE_iload_n c90_49 rfl ?_
      by_cases e8 : v5 = x2
      · have w := w.pos e8
        refine mE_icmp_eq_T (t := 57) c90_50 rfl q7 hx2 e8 ?_
        refine mE_aload_n c90_57 rfl ?_
        refine mE_iconst c90_58 ?_
        refine mE_iload_n c90_59 rfl ?_
        refine mE_imul c90_60 ?_
        refine mE_iconst c90_61 ?_
        obtain ⟨g9, w⟩ := w.ogd
        refine mE_iadd c90_62 ?_
        refine mE_virtual1 (b := 142) (as := [.int (Int32.ofInt ((3 * x2) + 1))]) (r := []) c90_63 qo90 qK12_541 qo149 rfl rfl rfl (ok_lit rfl rfl rfl) (Nat.le_of_ble_eq_true rfl) (s149 (d := d + 0) g9 w.obind) ?_
        rintro v10 _ q12 ⟨rfl, w⟩
        refine mE_aload_n c90_66 rfl ?_
        refine mE_getA c90_67 qo90 qF12_14 (ok_lit rfl rfl rfl) rfl ⟨by decide, by decide⟩ ?_
        refine mE_ldc (x := 36000) c90_70 qo90 qI12_230 rfl ?_
        refine mE_iload_n c90_72 rfl ?_
        obtain ⟨g13, w⟩ := w.ogd
        refine mE_iadd c90_73 ?_
        obtain ⟨g14, w⟩ := w.ogd
        refine mE_iaload c90_74 (ok_lit rfl rfl rfl) g13 g14 ?_
        intro u15
        by_cases e16 : v10 = (M 144 ((36000 + x2)).toNat)
        · have w := w.pos e16
          refine mE_icmp_eq_T (t := 84) c90_75 rfl q12 u15 e16 ?_
          refine mE_aload_n c90_84 rfl ?_
          refine mE_iconst c90_85 ?_
          refine mE_iload_n c90_86 rfl ?_
          refine mE_imul c90_87 ?_
          refine mE_iconst c90_88 ?_
          obtain ⟨g17, w⟩ := w.ogd
          refine mE_iadd c90_89 ?_
          refine mE_virtual1 (b := 142) (as := [.int (Int32.ofInt ((3 * x2) + 2))]) (r := []) c90_90 qo90 qK12_541 qo149 rfl rfl rfl (ok_lit rfl rfl rfl) (Nat.le_of_ble_eq_true rfl) (s149 (d := d + 0) g17 w.obind) ?_
          rintro v18 _ q20 ⟨rfl, w⟩
          refine mE_aload_n c90_93 rfl ?_
          refine mE_getA c90_94 qo90 qF12_14 (ok_lit rfl rfl rfl) rfl ⟨by decide, by decide⟩ ?_
          refine mE_ldc_w (x := 36014) c90_97 qo90 qI12_469 rfl ?_
          refine mE_iload_n c90_100 rfl ?_
          obtain ⟨g21, w⟩ := w.ogd
          refine mE_iadd c90_101 ?_
          obtain ⟨g22, w⟩ := w.ogd
          refine mE_iaload c90_102 (ok_lit rfl rfl rfl) g21 g22 ?_
          intro u23
          by_cases e24 : v18 = (M 144 ((36014 + x2)).toNat)
          · have w := w.pos e24
            refine mE_icmp_eq_T (t := 112) c90_103 rfl q20 u23 e24 ?_
            obtain ⟨g25, w⟩ := w.ogd
            refine mE_iinc (ls2 := [some (.ref 142), some (.int (Int32.ofInt x1)), some (.int (Int32.ofInt (x2 + 1)))]) c90_112 rfl (Nat.le_of_ble_eq_true rfl) rfl ?_
            refine mE_goto (t := 25) c90_115 rfl ?_
            exact w.osome g25
          · have w := w.neg e24
            refine mE_icmp_eq_F (t := 112) c90_103 rfl q20 u23 e24 ?_
            have w := w.oinr
            refine mE_iconst c90_106 ?_
            refine mE_iload_n c90_107 rfl ?_
            refine mE_imul c90_108 ?_
            refine mE_iconst c90_109 ?_
            refine mE_iadd c90_110 ?_
            exact mE_iret c90_111 qr90 g17 w.osome
        · have w := w.neg e16
          refine mE_icmp_eq_F (t := 84) c90_75 rfl q12 u15 e16 ?_
          have w := w.oinr
          refine mE_iconst c90_78 ?_
          refine mE_iload_n c90_79 rfl ?_
          refine mE_imul c90_80 ?_
          refine mE_iconst c90_81 ?_
          refine mE_iadd c90_82 ?_
          exact mE_iret c90_83 qr90 g9 w.osome
      · have w := w.neg e8
        refine mE_icmp_eq_F (t := 57) c90_50 rfl q7 hx2 e8 ?_
        have w := w.oinr
        refine mE_iconst c90_53 ?_
        refine mE_iload_n c90_54 rfl ?_
        refine mE_imul c90_55 ?_
        exact mE_iret c90_56 qr90 g4 w.osome
  · have w := w.neg e2
    refine mE_icmp_ge_T (t := 118) c90_30 rfl hx2 u1 e2 ?_
    have w := w.oinr
    refine mE_iload_n c90_118 rfl ?_
    refine mE_aload_n c90_119 rfl ?_
    refine mE_getI c90_120 qo90 qF12_194 (ok_lit rfl rfl rfl) rfl ?_
    intro u3
    by_cases e4 : x1 = (M 142 4)
    · have w := w.pos e4
      refine mE_icmp_ne_F (t := 130) c90_123 rfl hx1 u3 e4 ?_
      refine mE_iconst c90_126 ?_
      refine mE_goto (t := 136) c90_127 rfl ?_
      exact mE_iret c90_136 qr90 (r4_n rfl) w.osome
    · have w := w.neg e4
      refine mE_icmp_ne_T (t := 130) c90_123 rfl hx1 u3 e4 ?_
      refine mE_iconst c90_130 ?_
      refine mE_aload_n c90_131 rfl ?_
      refine mE_getI c90_132 qo90 qF12_194 (ok_lit rfl rfl rfl) rfl ?_
      intro u5
      obtain ⟨g6, w⟩ := w.ogd
      refine mE_imul c90_135 ?_
      exact mE_iret c90_136 qr90 g6 w.osome
theorem t90_25 {X : Nat × Nat × qC} {d : Nat} {x1 : Int} {x2 : Int} {M : Mm}  {R : Int × Mm → Prop} (hx1 : R4 x1) (hx2 : R4 x2) (w : Wp (f90_25 x1 x2 M) R) : mE X (d + 1) 90 1 25 [some (.ref 142), some (.int (Int32.ofInt x1)), some (.int (Int32.ofInt x2))] [] M (fun v M2 => R (v, M2)) :=
  Wp.olp (f := fun s : Int => lb90_25 x1 s M) (s := x2) (E := E90_25 X d x1 M R) w (fun s w hx2 => tb90_25 hx1 hx2 w) hx2
noncomputable def f90 (x1 : Int) (M : Mm) : Option (Int × Mm) :=
  if x1 < 0 then
  (some ((-2), M))
  else
  (gd (R4 (Int.tdiv (M 142 1) 12)) (
  if (Int.tdiv (M 142 1) 12) < x1 then
  (some ((-2), M))
  else
  (mlet (ms M 142 1 0) fun M5 =>
  f90_25 x1 0 M5)))
theorem t90 {X : Nat × Nat × qC} {d : Nat} {x1 : Int} {M : Mm}  {R : Int × Mm → Prop} (hx1 : R4 x1) (w : Wp (f90 x1 M) R) : mE X (d + 1) 90 1 0 [some (.ref 142), some (.int (Int32.ofInt x1)), none] [] M (fun v M2 => R (v, M2)) := by
  refine mE_iload_n c90_0 rfl ?_
  by_cases e1 : x1 < 0
  · have w := w.pos e1
    refine mE_if_lt_T (t := 15) c90_1 rfl hx1 e1 ?_
    refine mE_bipush (x := (-2)) c90_15 rfl ?_
    exact mE_iret c90_17 qr90 (r4_n rfl) w.osome
  · have w := w.neg e1
    refine mE_if_lt_F (t := 15) c90_1 rfl hx1 e1 ?_
    refine mE_iload_n c90_4 rfl ?_
    refine mE_aload_n c90_5 rfl ?_
    refine mE_getI c90_6 qo90 qF12_283 (ok_lit rfl rfl rfl) rfl ?_
    intro u2
    refine mE_bipush (x := 12) c90_9 rfl ?_
    obtain ⟨g3, w⟩ := w.ogd
    refine mE_idiv c90_11 u2 (r4_n rfl) (by decide) ?_
    by_cases e4 : (Int.tdiv (M 142 1) 12) < x1
    · have w := w.pos e4
      refine mE_icmp_le_F (t := 18) c90_12 rfl hx1 g3 e4 ?_
      refine mE_bipush (x := (-2)) c90_15 rfl ?_
      exact mE_iret c90_17 qr90 (r4_n rfl) w.osome
    · have w := w.neg e4
      refine mE_icmp_le_T (t := 18) c90_12 rfl hx1 g3 e4 ?_
      refine mE_aload_n c90_18 rfl ?_
      refine mE_iconst c90_19 ?_
      obtain ⟨M5, m6, w⟩ := w.mlet
      refine mE_putI c90_20 qo90 qF12_283 qz12_1 (ok_lit rfl rfl rfl) (Nat.le_of_ble_eq_true rfl) rfl (r4_n rfl) (by rw [qy12_1]; rfl) ?_
      refine mE_M m6 ?_
      refine mE_iconst c90_23 ?_
      refine mE_istore_n (ls2 := [some (.ref 142), some (.int (Int32.ofInt x1)), some (.int (Int32.ofInt 0))]) c90_24 (Nat.le_of_ble_eq_true rfl) rfl ?_
      exact t90_25 hx1 (r4_n rfl) w
theorem s90 {X : Nat × Nat × qC} {d : Nat} {x1 : Int} {M : Mm} {R : Int × Mm → Prop} (hx1 : R4 x1) (w : Wp (f90 x1 M) R) : mC X (d + 2) 90 1 [.ref 142, .int (Int32.ofInt x1)] M (fun v M2 => R (v, M2)) :=
  mC_of (qent_mk qx90 rfl rfl rfl) (t90 hx1 w)
/-! SaggingNetModel.here -/
noncomputable def f120  (M : Mm) : Option (Int) :=
  if (M 142 44) < (M 142 45) then
  (gd (0 ≤ (M 142 44) ∧ (M 142 44) < 200) (
  some (bAnd (M 143 ((M 142 44)).toNat) 255)))
  else
  (some 0)
theorem t120 {X : Nat × Nat × qC} {d : Nat}  {M : Mm}  {R : Int → Prop}  (w : Wp (f120  M) R) : mE X (d + 0) 120 1 0 [some (.ref 142)] [] M (fun v M2 => M = M2 ∧ R v) := by
  refine mE_aload_n c120_0 rfl ?_
  refine mE_getI c120_1 qo120 qF12_290 (ok_lit rfl rfl rfl) rfl ?_
  intro u1
  refine mE_aload_n c120_4 rfl ?_
  refine mE_getI c120_5 qo120 qF12_293 (ok_lit rfl rfl rfl) rfl ?_
  intro u2
  by_cases e3 : (M 142 44) < (M 142 45)
  · have w := w.pos e3
    refine mE_icmp_ge_F (t := 27) c120_8 rfl u1 u2 e3 ?_
    refine mE_aload_n c120_11 rfl ?_
    refine mE_getA c120_12 qo120 qF12_7 (ok_lit rfl rfl rfl) rfl ⟨by decide, by decide⟩ ?_
    refine mE_aload_n c120_15 rfl ?_
    refine mE_getI c120_16 qo120 qF12_290 (ok_lit rfl rfl rfl) rfl ?_
    intro u4
    obtain ⟨g5, w⟩ := w.ogd
    refine mE_baload c120_19 (ok_lit rfl rfl rfl) u4 g5 ?_
    intro u6
    refine mE_sipush (x := 255) c120_20 rfl ?_
    refine mE_iand c120_23 ?_
    refine mE_goto (t := 28) c120_24 rfl ?_
    exact mE_iret c120_28 qr120 (r4_and _ _) ⟨rfl, w.osome⟩
  · have w := w.neg e3
    refine mE_icmp_ge_T (t := 27) c120_8 rfl u1 u2 e3 ?_
    refine mE_iconst c120_27 ?_
    exact mE_iret c120_28 qr120 (r4_n rfl) ⟨rfl, w.osome⟩
theorem s120 {X : Nat × Nat × qC} {d : Nat}  {M : Mm} {R : Int → Prop}  (w : Wp (f120  M) R) : mC X (d + 1) 120 1 [.ref 142] M (fun v M2 => M = M2 ∧ R v) :=
  mC_of (qent_mk qx120 rfl rfl rfl) (t120  w)
/-! SaggingNetModel.wrongs -/
noncomputable def f190 (x1 : Int) (x2 : Int) (M : Mm) : Option (Mm) :=
  if (M 142 46) < 0 then
  (mlet (ms M 142 46 (M 142 46)) fun M4 =>
  some M4)
  else
  (gd (R4 ((-1000) * x1)) (
  gd (R4 (((-1000) * x1) - x2)) (
  mlet (ms M 142 46 (((-1000) * x1) - x2)) fun M5 =>
  some M5)))
theorem t190 {X : Nat × Nat × qC} {d : Nat} {x1 : Int} {x2 : Int} {M : Mm}  {R : Mm → Prop} (hx1 : R4 x1) (hx2 : R4 x2) (w : Wp (f190 x1 x2 M) R) : mE X (d + 0) 190 0 0 [some (.ref 142), some (.int (Int32.ofInt x1)), some (.int (Int32.ofInt x2))] [] M (fun v M2 => R M2) := by
  refine mE_aload_n c190_0 rfl ?_
  refine mE_aload_n c190_1 rfl ?_
  refine mE_getI c190_2 qo190 qF12_296 (ok_lit rfl rfl rfl) rfl ?_
  intro u1
  by_cases e2 : (M 142 46) < 0
  · have w := w.pos e2
    refine mE_if_ge_F (t := 15) c190_5 rfl u1 e2 ?_
    refine mE_aload_n c190_8 rfl ?_
    refine mE_getI c190_9 qo190 qF12_296 (ok_lit rfl rfl rfl) rfl ?_
    intro u3
    refine mE_goto (t := 22) c190_12 rfl ?_
    obtain ⟨M4, m5, w⟩ := w.mlet
    refine mE_putI c190_22 qo190 qF12_296 qz12_46 (ok_lit rfl rfl rfl) (Nat.le_of_ble_eq_true rfl) rfl u3 (by rw [qy12_46]; rfl) ?_
    refine mE_M m5 ?_
    exact mE_vret c190_25 qr190 w.osome
  · have w := w.neg e2
    refine mE_if_ge_T (t := 15) c190_5 rfl u1 e2 ?_
    refine mE_sipush (x := (-1000)) c190_15 rfl ?_
    refine mE_iload_n c190_18 rfl ?_
    obtain ⟨g3, w⟩ := w.ogd
    refine mE_imul c190_19 ?_
    refine mE_iload_n c190_20 rfl ?_
    obtain ⟨g4, w⟩ := w.ogd
    refine mE_isub c190_21 ?_
    obtain ⟨M5, m6, w⟩ := w.mlet
    refine mE_putI c190_22 qo190 qF12_296 qz12_46 (ok_lit rfl rfl rfl) (Nat.le_of_ble_eq_true rfl) rfl g4 (by rw [qy12_46]; rfl) ?_
    refine mE_M m6 ?_
    exact mE_vret c190_25 qr190 w.osome
theorem s190 {X : Nat × Nat × qC} {d : Nat} {x1 : Int} {x2 : Int} {M : Mm} {R : Mm → Prop} (hx1 : R4 x1) (hx2 : R4 x2) (w : Wp (f190 x1 x2 M) R) : mC X (d + 1) 190 0 [.ref 142, .int (Int32.ofInt x1), .int (Int32.ofInt x2)] M (fun v M2 => R M2) :=
  mC_of (qent_mk qx190 rfl rfl rfl) (t190 hx1 hx2 w)
/-! SaggingNetModel.isGood -/
noncomputable def f124  (M : Mm) : Option (Int) :=
  if (M 142 46) = 0 then
  (some 1)
  else
  (some 0)
theorem t124 {X : Nat × Nat × qC} {d : Nat}  {M : Mm}  {R : Int → Prop}  (w : Wp (f124  M) R) : mE X (d + 0) 124 1 0 [some (.ref 142)] [] M (fun v M2 => M = M2 ∧ R v) := by
  refine mE_aload_n c124_0 rfl ?_
  refine mE_getI c124_1 qo124 qF12_296 (ok_lit rfl rfl rfl) rfl ?_
  intro u1
  by_cases e2 : (M 142 46) = 0
  · have w := w.pos e2
    refine mE_if_ne_F (t := 11) c124_4 rfl u1 e2 ?_
    refine mE_iconst c124_7 ?_
    refine mE_goto (t := 12) c124_8 rfl ?_
    exact mE_zret c124_12 qr124 (Or.inr rfl) ⟨rfl, w.osome⟩
  · have w := w.neg e2
    refine mE_if_ne_T (t := 11) c124_4 rfl u1 e2 ?_
    refine mE_iconst c124_11 ?_
    exact mE_zret c124_12 qr124 (Or.inl rfl) ⟨rfl, w.osome⟩
theorem s124 {X : Nat × Nat × qC} {d : Nat}  {M : Mm} {R : Int → Prop}  (w : Wp (f124  M) R) : mC X (d + 1) 124 1 [.ref 142] M (fun v M2 => M = M2 ∧ R v) :=
  mC_of (qent_mk qx124 rfl rfl rfl) (t124  w)
/-! SaggingNetModel.puts -/
noncomputable def f155 (x1 : Int) (M : Mm) : Option (Mm) :=
  gd (0 ≤ (M 142 50) ∧ (M 142 50) < 200) (
  mlet (ms M 177 ((M 142 50)).toNat x1) fun M3 =>
  gd (R4 ((M3 142 50) + 1)) (
  mlet (ms M3 142 50 ((M3 142 50) + 1)) fun M7 =>
  gd (R4 ((M7 142 44) + 1)) (
  mlet (ms M7 142 44 ((M7 142 44) + 1)) fun M11 =>
  some M11)))
theorem t155 {X : Nat × Nat × qC} {d : Nat} {x1 : Int} {M : Mm}  {R : Mm → Prop} (hx1 : R4 x1) (w : Wp (f155 x1 M) R) : mE X (d + 0) 155 0 0 [some (.ref 142), some (.int (Int32.ofInt x1))] [] M (fun v M2 => R M2) := by
  refine mE_aload_n c155_0 rfl ?_
  refine mE_getA c155_1 qo155 qF12_116 (ok_lit rfl rfl rfl) rfl ⟨by decide, by decide⟩ ?_
  refine mE_aload_n c155_4 rfl ?_
  refine mE_getI c155_5 qo155 qF12_306 (ok_lit rfl rfl rfl) rfl ?_
  intro u1
  refine mE_iload_n c155_8 rfl ?_
  obtain ⟨g2, w⟩ := w.ogd
  obtain ⟨M3, m4, w⟩ := w.mlet
  refine mE_iastore c155_9 (ok_lit rfl rfl rfl) u1 g2 hx1 ?_
  refine mE_M m4 ?_
  refine mE_aload_n c155_10 rfl ?_
  refine mE_dup c155_11 rfl ?_
  refine mE_getI c155_12 qo155 qF12_306 (ok_lit rfl rfl rfl) rfl ?_
  intro u5
  refine mE_iconst c155_15 ?_
  obtain ⟨g6, w⟩ := w.ogd
  refine mE_iadd c155_16 ?_
  obtain ⟨M7, m8, w⟩ := w.mlet
  refine mE_putI c155_17 qo155 qF12_306 qz12_50 (ok_lit rfl rfl rfl) (Nat.le_of_ble_eq_true rfl) rfl g6 (by rw [qy12_50]; rfl) ?_
  refine mE_M m8 ?_
  refine mE_aload_n c155_20 rfl ?_
  refine mE_dup c155_21 rfl ?_
  refine mE_getI c155_22 qo155 qF12_290 (ok_lit rfl rfl rfl) rfl ?_
  intro u9
  refine mE_iconst c155_25 ?_
  obtain ⟨g10, w⟩ := w.ogd
  refine mE_iadd c155_26 ?_
  obtain ⟨M11, m12, w⟩ := w.mlet
  refine mE_putI c155_27 qo155 qF12_290 qz12_44 (ok_lit rfl rfl rfl) (Nat.le_of_ble_eq_true rfl) rfl g10 (by rw [qy12_44]; rfl) ?_
  refine mE_M m12 ?_
  exact mE_vret c155_30 qr155 w.osome
theorem s155 {X : Nat × Nat × qC} {d : Nat} {x1 : Int} {M : Mm} {R : Mm → Prop} (hx1 : R4 x1) (w : Wp (f155 x1 M) R) : mC X (d + 1) 155 0 [.ref 142, .int (Int32.ofInt x1)] M (fun v M2 => R M2) :=
  mC_of (qent_mk qx155 rfl rfl rfl) (t155 hx1 w)
