/-! What each piece of the code does, from a place to the next. -/
theorem b1_0 {d : Nat} {h : qH} {x0 : Int32}   : qE d 1 0 [some (.int x0)] [] h (some (.int ((((((((x0 - (((x0 : Int32).toUInt32 >>> ((1 : Int32).toUInt32 &&& Int32.toUInt32 31)).toInt32 &&& 1431655765)) &&& 858993459) + ((((x0 - (((x0 : Int32).toUInt32 >>> ((1 : Int32).toUInt32 &&& Int32.toUInt32 31)).toInt32 &&& 1431655765)) : Int32).toUInt32 >>> ((2 : Int32).toUInt32 &&& Int32.toUInt32 31)).toInt32 &&& 858993459)) + (((((x0 - (((x0 : Int32).toUInt32 >>> ((1 : Int32).toUInt32 &&& Int32.toUInt32 31)).toInt32 &&& 1431655765)) &&& 858993459) + ((((x0 - (((x0 : Int32).toUInt32 >>> ((1 : Int32).toUInt32 &&& Int32.toUInt32 31)).toInt32 &&& 1431655765)) : Int32).toUInt32 >>> ((2 : Int32).toUInt32 &&& Int32.toUInt32 31)).toInt32 &&& 858993459)) : Int32).toUInt32 >>> ((4 : Int32).toUInt32 &&& Int32.toUInt32 31)).toInt32) &&& 252645135) + (((((((x0 - (((x0 : Int32).toUInt32 >>> ((1 : Int32).toUInt32 &&& Int32.toUInt32 31)).toInt32 &&& 1431655765)) &&& 858993459) + ((((x0 - (((x0 : Int32).toUInt32 >>> ((1 : Int32).toUInt32 &&& Int32.toUInt32 31)).toInt32 &&& 1431655765)) : Int32).toUInt32 >>> ((2 : Int32).toUInt32 &&& Int32.toUInt32 31)).toInt32 &&& 858993459)) + (((((x0 - (((x0 : Int32).toUInt32 >>> ((1 : Int32).toUInt32 &&& Int32.toUInt32 31)).toInt32 &&& 1431655765)) &&& 858993459) + ((((x0 - (((x0 : Int32).toUInt32 >>> ((1 : Int32).toUInt32 &&& Int32.toUInt32 31)).toInt32 &&& 1431655765)) : Int32).toUInt32 >>> ((2 : Int32).toUInt32 &&& Int32.toUInt32 31)).toInt32 &&& 858993459)) : Int32).toUInt32 >>> ((4 : Int32).toUInt32 &&& Int32.toUInt32 31)).toInt32) &&& 252645135) : Int32).toUInt32 >>> ((8 : Int32).toUInt32 &&& Int32.toUInt32 31)).toInt32) + ((((((((x0 - (((x0 : Int32).toUInt32 >>> ((1 : Int32).toUInt32 &&& Int32.toUInt32 31)).toInt32 &&& 1431655765)) &&& 858993459) + ((((x0 - (((x0 : Int32).toUInt32 >>> ((1 : Int32).toUInt32 &&& Int32.toUInt32 31)).toInt32 &&& 1431655765)) : Int32).toUInt32 >>> ((2 : Int32).toUInt32 &&& Int32.toUInt32 31)).toInt32 &&& 858993459)) + (((((x0 - (((x0 : Int32).toUInt32 >>> ((1 : Int32).toUInt32 &&& Int32.toUInt32 31)).toInt32 &&& 1431655765)) &&& 858993459) + ((((x0 - (((x0 : Int32).toUInt32 >>> ((1 : Int32).toUInt32 &&& Int32.toUInt32 31)).toInt32 &&& 1431655765)) : Int32).toUInt32 >>> ((2 : Int32).toUInt32 &&& Int32.toUInt32 31)).toInt32 &&& 858993459)) : Int32).toUInt32 >>> ((4 : Int32).toUInt32 &&& Int32.toUInt32 31)).toInt32) &&& 252645135) + (((((((x0 - (((x0 : Int32).toUInt32 >>> ((1 : Int32).toUInt32 &&& Int32.toUInt32 31)).toInt32 &&& 1431655765)) &&& 858993459) + ((((x0 - (((x0 : Int32).toUInt32 >>> ((1 : Int32).toUInt32 &&& Int32.toUInt32 31)).toInt32 &&& 1431655765)) : Int32).toUInt32 >>> ((2 : Int32).toUInt32 &&& Int32.toUInt32 31)).toInt32 &&& 858993459)) + (((((x0 - (((x0 : Int32).toUInt32 >>> ((1 : Int32).toUInt32 &&& Int32.toUInt32 31)).toInt32 &&& 1431655765)) &&& 858993459) + ((((x0 - (((x0 : Int32).toUInt32 >>> ((1 : Int32).toUInt32 &&& Int32.toUInt32 31)).toInt32 &&& 1431655765)) : Int32).toUInt32 >>> ((2 : Int32).toUInt32 &&& Int32.toUInt32 31)).toInt32 &&& 858993459)) : Int32).toUInt32 >>> ((4 : Int32).toUInt32 &&& Int32.toUInt32 31)).toInt32) &&& 252645135) : Int32).toUInt32 >>> ((8 : Int32).toUInt32 &&& Int32.toUInt32 31)).toInt32) : Int32).toUInt32 >>> ((16 : Int32).toUInt32 &&& Int32.toUInt32 31)).toInt32) &&& 63)), h) := by
  refine qe_iload_n c1_0 rfl ?_
  refine qe_iload_n c1_1 rfl ?_
  refine qe_iconst (x := 1) c1_2 (by decide) ?_
  refine qe_iushr c1_3 ?_
  refine qe_ldc_w (x := 1431655765) c1_4 qo1 qI14_265 ?_
  refine qe_iand c1_7 ?_
  refine qe_isub c1_8 ?_
  refine qe_istore_n (ls2 := [some (.int (x0 - (((x0 : Int32).toUInt32 >>> ((1 : Int32).toUInt32 &&& Int32.toUInt32 31)).toInt32 &&& 1431655765)))]) c1_9 (Nat.le_of_ble_eq_true rfl) rfl ?_
  refine qe_iload_n c1_10 rfl ?_
  refine qe_ldc_w (x := 858993459) c1_11 qo1 qI14_266 ?_
  refine qe_iand c1_14 ?_
  refine qe_iload_n c1_15 rfl ?_
  refine qe_iconst (x := 2) c1_16 (by decide) ?_
  refine qe_iushr c1_17 ?_
  refine qe_ldc_w (x := 858993459) c1_18 qo1 qI14_266 ?_
  refine qe_iand c1_21 ?_
  refine qe_iadd c1_22 ?_
  refine qe_istore_n (ls2 := [some (.int (((x0 - (((x0 : Int32).toUInt32 >>> ((1 : Int32).toUInt32 &&& Int32.toUInt32 31)).toInt32 &&& 1431655765)) &&& 858993459) + ((((x0 - (((x0 : Int32).toUInt32 >>> ((1 : Int32).toUInt32 &&& Int32.toUInt32 31)).toInt32 &&& 1431655765)) : Int32).toUInt32 >>> ((2 : Int32).toUInt32 &&& Int32.toUInt32 31)).toInt32 &&& 858993459)))]) c1_23 (Nat.le_of_ble_eq_true rfl) rfl ?_
  refine qe_iload_n c1_24 rfl ?_
  refine qe_iload_n c1_25 rfl ?_
  refine qe_iconst (x := 4) c1_26 (by decide) ?_
  refine qe_iushr c1_27 ?_
  refine qe_iadd c1_28 ?_
  refine qe_ldc_w (x := 252645135) c1_29 qo1 qI14_267 ?_
  refine qe_iand c1_32 ?_
  refine qe_istore_n (ls2 := [some (.int (((((x0 - (((x0 : Int32).toUInt32 >>> ((1 : Int32).toUInt32 &&& Int32.toUInt32 31)).toInt32 &&& 1431655765)) &&& 858993459) + ((((x0 - (((x0 : Int32).toUInt32 >>> ((1 : Int32).toUInt32 &&& Int32.toUInt32 31)).toInt32 &&& 1431655765)) : Int32).toUInt32 >>> ((2 : Int32).toUInt32 &&& Int32.toUInt32 31)).toInt32 &&& 858993459)) + (((((x0 - (((x0 : Int32).toUInt32 >>> ((1 : Int32).toUInt32 &&& Int32.toUInt32 31)).toInt32 &&& 1431655765)) &&& 858993459) + ((((x0 - (((x0 : Int32).toUInt32 >>> ((1 : Int32).toUInt32 &&& Int32.toUInt32 31)).toInt32 &&& 1431655765)) : Int32).toUInt32 >>> ((2 : Int32).toUInt32 &&& Int32.toUInt32 31)).toInt32 &&& 858993459)) : Int32).toUInt32 >>> ((4 : Int32).toUInt32 &&& Int32.toUInt32 31)).toInt32) &&& 252645135))]) c1_33 (Nat.le_of_ble_eq_true rfl) rfl ?_
  refine qe_iload_n c1_34 rfl ?_
  refine qe_iload_n c1_35 rfl ?_
  refine qe_bipush (x := 8) c1_36 (by decide) ?_
  refine qe_iushr c1_38 ?_
  refine qe_iadd c1_39 ?_
  refine qe_istore_n (ls2 := [some (.int ((((((x0 - (((x0 : Int32).toUInt32 >>> ((1 : Int32).toUInt32 &&& Int32.toUInt32 31)).toInt32 &&& 1431655765)) &&& 858993459) + ((((x0 - (((x0 : Int32).toUInt32 >>> ((1 : Int32).toUInt32 &&& Int32.toUInt32 31)).toInt32 &&& 1431655765)) : Int32).toUInt32 >>> ((2 : Int32).toUInt32 &&& Int32.toUInt32 31)).toInt32 &&& 858993459)) + (((((x0 - (((x0 : Int32).toUInt32 >>> ((1 : Int32).toUInt32 &&& Int32.toUInt32 31)).toInt32 &&& 1431655765)) &&& 858993459) + ((((x0 - (((x0 : Int32).toUInt32 >>> ((1 : Int32).toUInt32 &&& Int32.toUInt32 31)).toInt32 &&& 1431655765)) : Int32).toUInt32 >>> ((2 : Int32).toUInt32 &&& Int32.toUInt32 31)).toInt32 &&& 858993459)) : Int32).toUInt32 >>> ((4 : Int32).toUInt32 &&& Int32.toUInt32 31)).toInt32) &&& 252645135) + (((((((x0 - (((x0 : Int32).toUInt32 >>> ((1 : Int32).toUInt32 &&& Int32.toUInt32 31)).toInt32 &&& 1431655765)) &&& 858993459) + ((((x0 - (((x0 : Int32).toUInt32 >>> ((1 : Int32).toUInt32 &&& Int32.toUInt32 31)).toInt32 &&& 1431655765)) : Int32).toUInt32 >>> ((2 : Int32).toUInt32 &&& Int32.toUInt32 31)).toInt32 &&& 858993459)) + (((((x0 - (((x0 : Int32).toUInt32 >>> ((1 : Int32).toUInt32 &&& Int32.toUInt32 31)).toInt32 &&& 1431655765)) &&& 858993459) + ((((x0 - (((x0 : Int32).toUInt32 >>> ((1 : Int32).toUInt32 &&& Int32.toUInt32 31)).toInt32 &&& 1431655765)) : Int32).toUInt32 >>> ((2 : Int32).toUInt32 &&& Int32.toUInt32 31)).toInt32 &&& 858993459)) : Int32).toUInt32 >>> ((4 : Int32).toUInt32 &&& Int32.toUInt32 31)).toInt32) &&& 252645135) : Int32).toUInt32 >>> ((8 : Int32).toUInt32 &&& Int32.toUInt32 31)).toInt32))]) c1_40 (Nat.le_of_ble_eq_true rfl) rfl ?_
  refine qe_iload_n c1_41 rfl ?_
  refine qe_iload_n c1_42 rfl ?_
  refine qe_bipush (x := 16) c1_43 (by decide) ?_
  refine qe_iushr c1_45 ?_
  refine qe_iadd c1_46 ?_
  refine qe_istore_n (ls2 := [some (.int (((((((x0 - (((x0 : Int32).toUInt32 >>> ((1 : Int32).toUInt32 &&& Int32.toUInt32 31)).toInt32 &&& 1431655765)) &&& 858993459) + ((((x0 - (((x0 : Int32).toUInt32 >>> ((1 : Int32).toUInt32 &&& Int32.toUInt32 31)).toInt32 &&& 1431655765)) : Int32).toUInt32 >>> ((2 : Int32).toUInt32 &&& Int32.toUInt32 31)).toInt32 &&& 858993459)) + (((((x0 - (((x0 : Int32).toUInt32 >>> ((1 : Int32).toUInt32 &&& Int32.toUInt32 31)).toInt32 &&& 1431655765)) &&& 858993459) + ((((x0 - (((x0 : Int32).toUInt32 >>> ((1 : Int32).toUInt32 &&& Int32.toUInt32 31)).toInt32 &&& 1431655765)) : Int32).toUInt32 >>> ((2 : Int32).toUInt32 &&& Int32.toUInt32 31)).toInt32 &&& 858993459)) : Int32).toUInt32 >>> ((4 : Int32).toUInt32 &&& Int32.toUInt32 31)).toInt32) &&& 252645135) + (((((((x0 - (((x0 : Int32).toUInt32 >>> ((1 : Int32).toUInt32 &&& Int32.toUInt32 31)).toInt32 &&& 1431655765)) &&& 858993459) + ((((x0 - (((x0 : Int32).toUInt32 >>> ((1 : Int32).toUInt32 &&& Int32.toUInt32 31)).toInt32 &&& 1431655765)) : Int32).toUInt32 >>> ((2 : Int32).toUInt32 &&& Int32.toUInt32 31)).toInt32 &&& 858993459)) + (((((x0 - (((x0 : Int32).toUInt32 >>> ((1 : Int32).toUInt32 &&& Int32.toUInt32 31)).toInt32 &&& 1431655765)) &&& 858993459) + ((((x0 - (((x0 : Int32).toUInt32 >>> ((1 : Int32).toUInt32 &&& Int32.toUInt32 31)).toInt32 &&& 1431655765)) : Int32).toUInt32 >>> ((2 : Int32).toUInt32 &&& Int32.toUInt32 31)).toInt32 &&& 858993459)) : Int32).toUInt32 >>> ((4 : Int32).toUInt32 &&& Int32.toUInt32 31)).toInt32) &&& 252645135) : Int32).toUInt32 >>> ((8 : Int32).toUInt32 &&& Int32.toUInt32 31)).toInt32) + ((((((((x0 - (((x0 : Int32).toUInt32 >>> ((1 : Int32).toUInt32 &&& Int32.toUInt32 31)).toInt32 &&& 1431655765)) &&& 858993459) + ((((x0 - (((x0 : Int32).toUInt32 >>> ((1 : Int32).toUInt32 &&& Int32.toUInt32 31)).toInt32 &&& 1431655765)) : Int32).toUInt32 >>> ((2 : Int32).toUInt32 &&& Int32.toUInt32 31)).toInt32 &&& 858993459)) + (((((x0 - (((x0 : Int32).toUInt32 >>> ((1 : Int32).toUInt32 &&& Int32.toUInt32 31)).toInt32 &&& 1431655765)) &&& 858993459) + ((((x0 - (((x0 : Int32).toUInt32 >>> ((1 : Int32).toUInt32 &&& Int32.toUInt32 31)).toInt32 &&& 1431655765)) : Int32).toUInt32 >>> ((2 : Int32).toUInt32 &&& Int32.toUInt32 31)).toInt32 &&& 858993459)) : Int32).toUInt32 >>> ((4 : Int32).toUInt32 &&& Int32.toUInt32 31)).toInt32) &&& 252645135) + (((((((x0 - (((x0 : Int32).toUInt32 >>> ((1 : Int32).toUInt32 &&& Int32.toUInt32 31)).toInt32 &&& 1431655765)) &&& 858993459) + ((((x0 - (((x0 : Int32).toUInt32 >>> ((1 : Int32).toUInt32 &&& Int32.toUInt32 31)).toInt32 &&& 1431655765)) : Int32).toUInt32 >>> ((2 : Int32).toUInt32 &&& Int32.toUInt32 31)).toInt32 &&& 858993459)) + (((((x0 - (((x0 : Int32).toUInt32 >>> ((1 : Int32).toUInt32 &&& Int32.toUInt32 31)).toInt32 &&& 1431655765)) &&& 858993459) + ((((x0 - (((x0 : Int32).toUInt32 >>> ((1 : Int32).toUInt32 &&& Int32.toUInt32 31)).toInt32 &&& 1431655765)) : Int32).toUInt32 >>> ((2 : Int32).toUInt32 &&& Int32.toUInt32 31)).toInt32 &&& 858993459)) : Int32).toUInt32 >>> ((4 : Int32).toUInt32 &&& Int32.toUInt32 31)).toInt32) &&& 252645135) : Int32).toUInt32 >>> ((8 : Int32).toUInt32 &&& Int32.toUInt32 31)).toInt32) : Int32).toUInt32 >>> ((16 : Int32).toUInt32 &&& Int32.toUInt32 31)).toInt32))]) c1_47 (Nat.le_of_ble_eq_true rfl) rfl ?_
  refine qe_iload_n c1_48 rfl ?_
  refine qe_bipush (x := 63) c1_49 (by decide) ?_
  refine qe_iand c1_51 ?_
  exact qe_iret c1_52 qr1
theorem b2_0 {d : Nat} {q : Option Value × qH} {h : qH} {r0 : Nat} {x1 : Int32} {n1 : Nat} {f2 : Nat → Int32}  (e3 : h.2.2 r0 = some (.inl (0, n1, .inl f2))) (kk : qE d 2 5 [some (.ref r0), some (.int x1), some (.int 0), some (.int (Int32.ofNat n1))] [] h q): qE d 2 0 [some (.ref r0), some (.int x1), none, none] [] h q := by
  refine qe_iconst (x := 0) c2_0 (by decide) ?_
  refine qe_istore_n (ls2 := [some (.ref r0), some (.int x1), some (.int 0), none]) c2_1 (Nat.le_of_ble_eq_true rfl) rfl ?_
  refine qe_aload_n c2_2 rfl ?_
  refine qe_arraylength c2_3 e3 ?_
  refine qe_istore_n (ls2 := [some (.ref r0), some (.int x1), some (.int 0), some (.int (Int32.ofNat n1))]) c2_4 (Nat.le_of_ble_eq_true rfl) rfl ?_
  exact kk
theorem b2_5F {d : Nat} {q : Option Value × qH} {h : qH} {r0 : Nat} {x1 : Int32} {x2 : Int32} {x3 : Int32}  (e1 : ¬ ((x3 : Int32) ≤ x2)) (kk : qE d 2 10 [some (.ref r0), some (.int x1), some (.int x2), some (.int x3)] [] h q): qE d 2 5 [some (.ref r0), some (.int x1), some (.int x2), some (.int x3)] [] h q := by
  refine qe_iload_n c2_5 rfl ?_
  refine qe_iload_n c2_6 rfl ?_
  refine qe_icmp_ge_F (t := 20) c2_7 rfl e1 ?_
  exact kk
theorem b2_5T {d : Nat} {q : Option Value × qH} {h : qH} {r0 : Nat} {x1 : Int32} {x2 : Int32} {x3 : Int32}  (e1 : (x3 : Int32) ≤ x2) (kk : qE d 2 20 [some (.ref r0), some (.int x1), some (.int x2), some (.int x3)] [] h q): qE d 2 5 [some (.ref r0), some (.int x1), some (.int x2), some (.int x3)] [] h q := by
  refine qe_iload_n c2_5 rfl ?_
  refine qe_iload_n c2_6 rfl ?_
  refine qe_icmp_ge_T (t := 20) c2_7 rfl e1 ?_
  exact kk
theorem b2_10 {d : Nat} {q : Option Value × qH} {h : qH} {r0 : Nat} {x1 : Int32} {x2 : Int32} {x3 : Int32} {n1 : Nat} {f2 : Nat → Int32} {h1 : qH}  (e3 : h.2.2 r0 = some (.inl (0, n1, .inl f2))) (e4 : 0 ≤ (x2 : Int32).toInt ∧ (x2 : Int32).toInt < (n1 : Nat)) (e5 : qset h r0 (.inl (0, n1, .inl (upd f2 ((x2 : Int32).toNatClampNeg) x1))) = h1) (kk : qE d 2 5 [some (.ref r0), some (.int x1), some (.int (x2 + 1)), some (.int x3)] [] h1 q): qE d 2 10 [some (.ref r0), some (.int x1), some (.int x2), some (.int x3)] [] h q := by
  refine qe_aload_n c2_10 rfl ?_
  refine qe_iload_n c2_11 rfl ?_
  refine qe_iload_n c2_12 rfl ?_
  refine qe_iastore c2_13 e3 e4 ?_
  rw [e5]
  refine qe_iinc (y := (x2 + 1)) (ls2 := [some (.ref r0), some (.int x1), some (.int (x2 + 1)), some (.int x3)]) c2_14 rfl (Nat.le_of_ble_eq_true rfl) rfl rfl ?_
  refine qe_goto (t := 5) c2_17 rfl ?_
  exact kk
theorem b2_20 {d : Nat} {h : qH} {r0 : Nat} {x1 : Int32} {x2 : Int32} {x3 : Int32}   : qE d 2 20 [some (.ref r0), some (.int x1), some (.int x2), some (.int x3)] [] h (none, h) := by
  exact qe_vret c2_20 qr2
theorem b3_0 {d : Nat} {q : Option Value × qH} {h : qH} {r0 : Nat} {l1 : Int64} {n1 : Nat} {f2 : Nat → Int64}  (e3 : h.2.2 r0 = some (.inl (2, n1, .inr (.inl f2)))) (kk : qE d 3 6 [some (.ref r0), some (.long l1), none, some (.int 0), some (.int (Int32.ofNat n1))] [] h q): qE d 3 0 [some (.ref r0), some (.long l1), none, none, none] [] h q := by
  refine qe_iconst (x := 0) c3_0 (by decide) ?_
  refine qe_istore_n (ls2 := [some (.ref r0), some (.long l1), none, some (.int 0), none]) c3_1 (Nat.le_of_ble_eq_true rfl) rfl ?_
  refine qe_aload_n c3_2 rfl ?_
  refine qe_arraylength c3_3 e3 ?_
  refine qe_istore (ls2 := [some (.ref r0), some (.long l1), none, some (.int 0), some (.int (Int32.ofNat n1))]) c3_4 (Nat.le_of_ble_eq_true rfl) rfl ?_
  exact kk
theorem b3_6F {d : Nat} {q : Option Value × qH} {h : qH} {r0 : Nat} {l1 : Int64} {x3 : Int32} {x4 : Int32}  (e1 : ¬ ((x4 : Int32) ≤ x3)) (kk : qE d 3 12 [some (.ref r0), some (.long l1), none, some (.int x3), some (.int x4)] [] h q): qE d 3 6 [some (.ref r0), some (.long l1), none, some (.int x3), some (.int x4)] [] h q := by
  refine qe_iload_n c3_6 rfl ?_
  refine qe_iload c3_7 rfl ?_
  refine qe_icmp_ge_F (t := 22) c3_9 rfl e1 ?_
  exact kk
theorem b3_6T {d : Nat} {q : Option Value × qH} {h : qH} {r0 : Nat} {l1 : Int64} {x3 : Int32} {x4 : Int32}  (e1 : (x4 : Int32) ≤ x3) (kk : qE d 3 22 [some (.ref r0), some (.long l1), none, some (.int x3), some (.int x4)] [] h q): qE d 3 6 [some (.ref r0), some (.long l1), none, some (.int x3), some (.int x4)] [] h q := by
  refine qe_iload_n c3_6 rfl ?_
  refine qe_iload c3_7 rfl ?_
  refine qe_icmp_ge_T (t := 22) c3_9 rfl e1 ?_
  exact kk
theorem b3_12 {d : Nat} {q : Option Value × qH} {h : qH} {r0 : Nat} {l1 : Int64} {x3 : Int32} {x4 : Int32} {n1 : Nat} {f2 : Nat → Int64} {h1 : qH}  (e3 : h.2.2 r0 = some (.inl (2, n1, .inr (.inl f2)))) (e4 : 0 ≤ (x3 : Int32).toInt ∧ (x3 : Int32).toInt < (n1 : Nat)) (e5 : qset h r0 (.inl (2, n1, .inr (.inl (vp_updL f2 ((x3 : Int32).toNatClampNeg) l1)))) = h1) (kk : qE d 3 6 [some (.ref r0), some (.long l1), none, some (.int (x3 + 1)), some (.int x4)] [] h1 q): qE d 3 12 [some (.ref r0), some (.long l1), none, some (.int x3), some (.int x4)] [] h q := by
  refine qe_aload_n c3_12 rfl ?_
  refine qe_iload_n c3_13 rfl ?_
  refine qe_lload_n c3_14 rfl ?_
  refine qe_lastore c3_15 e3 e4 ?_
  rw [e5]
  refine qe_iinc (y := (x3 + 1)) (ls2 := [some (.ref r0), some (.long l1), none, some (.int (x3 + 1)), some (.int x4)]) c3_16 rfl (Nat.le_of_ble_eq_true rfl) rfl rfl ?_
  refine qe_goto (t := 6) c3_19 rfl ?_
  exact kk
theorem b3_22 {d : Nat} {h : qH} {r0 : Nat} {l1 : Int64} {x3 : Int32} {x4 : Int32}   : qE d 3 22 [some (.ref r0), some (.long l1), none, some (.int x3), some (.int x4)] [] h (none, h) := by
  exact qe_vret c3_22 qr3
theorem b4_0F {d : Nat} {q : Option Value × qH} {h : qH} {l0 : Int64}  (e1 : ¬ ((0 : Int32) ≤ (lg_cmp l0 0))) (kk : qE d 4 6 [some (.long l0), none] [] h q): qE d 4 0 [some (.long l0), none] [] h q := by
  refine qe_lload_n c4_0 rfl ?_
  refine qe_lconst (x := 0) c4_1 (by decide) ?_
  refine qe_lcmp c4_2 ?_
  refine qe_if_ge_F (t := 11) c4_3 rfl e1 ?_
  exact kk
theorem b4_0T {d : Nat} {q : Option Value × qH} {h : qH} {l0 : Int64}  (e1 : (0 : Int32) ≤ (lg_cmp l0 0)) (kk : qE d 4 11 [some (.long l0), none] [] h q): qE d 4 0 [some (.long l0), none] [] h q := by
  refine qe_lload_n c4_0 rfl ?_
  refine qe_lconst (x := 0) c4_1 (by decide) ?_
  refine qe_lcmp c4_2 ?_
  refine qe_if_ge_T (t := 11) c4_3 rfl e1 ?_
  exact kk
theorem b4_6 {d : Nat} {q : Option Value × qH} {h : qH} {l0 : Int64}   (kk : qE d 4 12 [some (.long l0), none] [.long (-l0)] h q): qE d 4 6 [some (.long l0), none] [] h q := by
  refine qe_lload_n c4_6 rfl ?_
  refine qe_lneg c4_7 ?_
  refine qe_goto (t := 12) c4_8 rfl ?_
  exact kk
theorem b4_11 {d : Nat} {q : Option Value × qH} {h : qH} {l0 : Int64}   (kk : qE d 4 12 [some (.long l0), none] [.long l0] h q): qE d 4 11 [some (.long l0), none] [] h q := by
  refine qe_lload_n c4_11 rfl ?_
  exact kk
theorem b4_12 {d : Nat} {h : qH} {l0 : Int64} {ls0 : Int64}   : qE d 4 12 [some (.long l0), none] [.long ls0] h (some (.long ls0), h) := by
  exact qe_lret c4_12 qr4
theorem b5_0F {d : Nat} {q : Option Value × qH} {h : qH} {l0 : Int64} {l2 : Int64}  (e1 : ¬ (((lg_cmp l0 l2) : Int32) < 0)) (kk : qE d 5 6 [some (.long l0), none, some (.long l2), none] [] h q): qE d 5 0 [some (.long l0), none, some (.long l2), none] [] h q := by
  refine qe_lload_n c5_0 rfl ?_
  refine qe_lload_n c5_1 rfl ?_
  refine qe_lcmp c5_2 ?_
  refine qe_if_lt_F (t := 10) c5_3 rfl e1 ?_
  exact kk
theorem b5_0T {d : Nat} {q : Option Value × qH} {h : qH} {l0 : Int64} {l2 : Int64}  (e1 : ((lg_cmp l0 l2) : Int32) < 0) (kk : qE d 5 10 [some (.long l0), none, some (.long l2), none] [] h q): qE d 5 0 [some (.long l0), none, some (.long l2), none] [] h q := by
  refine qe_lload_n c5_0 rfl ?_
  refine qe_lload_n c5_1 rfl ?_
  refine qe_lcmp c5_2 ?_
  refine qe_if_lt_T (t := 10) c5_3 rfl e1 ?_
  exact kk
theorem b5_6 {d : Nat} {q : Option Value × qH} {h : qH} {l0 : Int64} {l2 : Int64}   (kk : qE d 5 11 [some (.long l0), none, some (.long l2), none] [.long l0] h q): qE d 5 6 [some (.long l0), none, some (.long l2), none] [] h q := by
  refine qe_lload_n c5_6 rfl ?_
  refine qe_goto (t := 11) c5_7 rfl ?_
  exact kk
theorem b5_10 {d : Nat} {q : Option Value × qH} {h : qH} {l0 : Int64} {l2 : Int64}   (kk : qE d 5 11 [some (.long l0), none, some (.long l2), none] [.long l2] h q): qE d 5 10 [some (.long l0), none, some (.long l2), none] [] h q := by
  refine qe_lload_n c5_10 rfl ?_
  exact kk
theorem b5_11 {d : Nat} {h : qH} {l0 : Int64} {l2 : Int64} {ls0 : Int64}   : qE d 5 11 [some (.long l0), none, some (.long l2), none] [.long ls0] h (some (.long ls0), h) := by
  exact qe_lret c5_11 qr5
theorem b6_0F {d : Nat} {q : Option Value × qH} {h : qH} {x0 : Int32} {x1 : Int32}  (e1 : ¬ ((x1 : Int32) < x0)) (kk : qE d 6 5 [some (.int x0), some (.int x1)] [] h q): qE d 6 0 [some (.int x0), some (.int x1)] [] h q := by
  refine qe_iload_n c6_0 rfl ?_
  refine qe_iload_n c6_1 rfl ?_
  refine qe_icmp_gt_F (t := 9) c6_2 rfl e1 ?_
  exact kk
theorem b6_0T {d : Nat} {q : Option Value × qH} {h : qH} {x0 : Int32} {x1 : Int32}  (e1 : (x1 : Int32) < x0) (kk : qE d 6 9 [some (.int x0), some (.int x1)] [] h q): qE d 6 0 [some (.int x0), some (.int x1)] [] h q := by
  refine qe_iload_n c6_0 rfl ?_
  refine qe_iload_n c6_1 rfl ?_
  refine qe_icmp_gt_T (t := 9) c6_2 rfl e1 ?_
  exact kk
theorem b6_5 {d : Nat} {q : Option Value × qH} {h : qH} {x0 : Int32} {x1 : Int32}   (kk : qE d 6 10 [some (.int x0), some (.int x1)] [.int x0] h q): qE d 6 5 [some (.int x0), some (.int x1)] [] h q := by
  refine qe_iload_n c6_5 rfl ?_
  refine qe_goto (t := 10) c6_6 rfl ?_
  exact kk
theorem b6_9 {d : Nat} {q : Option Value × qH} {h : qH} {x0 : Int32} {x1 : Int32}   (kk : qE d 6 10 [some (.int x0), some (.int x1)] [.int x1] h q): qE d 6 9 [some (.int x0), some (.int x1)] [] h q := by
  refine qe_iload_n c6_9 rfl ?_
  exact kk
theorem b6_10 {d : Nat} {h : qH} {x0 : Int32} {x1 : Int32} {xs0 : Int32}   : qE d 6 10 [some (.int x0), some (.int x1)] [.int xs0] h (some (.int xs0), h) := by
  exact qe_iret c6_10 qr6
theorem b7_0F {d : Nat} {q : Option Value × qH} {h : qH} {l0 : Int64} {l2 : Int64}  (e1 : ¬ ((0 : Int32) < (lg_cmp l0 l2))) (kk : qE d 7 6 [some (.long l0), none, some (.long l2), none] [] h q): qE d 7 0 [some (.long l0), none, some (.long l2), none] [] h q := by
  refine qe_lload_n c7_0 rfl ?_
  refine qe_lload_n c7_1 rfl ?_
  refine qe_lcmp c7_2 ?_
  refine qe_if_gt_F (t := 10) c7_3 rfl e1 ?_
  exact kk
theorem b7_0T {d : Nat} {q : Option Value × qH} {h : qH} {l0 : Int64} {l2 : Int64}  (e1 : (0 : Int32) < (lg_cmp l0 l2)) (kk : qE d 7 10 [some (.long l0), none, some (.long l2), none] [] h q): qE d 7 0 [some (.long l0), none, some (.long l2), none] [] h q := by
  refine qe_lload_n c7_0 rfl ?_
  refine qe_lload_n c7_1 rfl ?_
  refine qe_lcmp c7_2 ?_
  refine qe_if_gt_T (t := 10) c7_3 rfl e1 ?_
  exact kk
theorem b7_6 {d : Nat} {q : Option Value × qH} {h : qH} {l0 : Int64} {l2 : Int64}   (kk : qE d 7 11 [some (.long l0), none, some (.long l2), none] [.long l0] h q): qE d 7 6 [some (.long l0), none, some (.long l2), none] [] h q := by
  refine qe_lload_n c7_6 rfl ?_
  refine qe_goto (t := 11) c7_7 rfl ?_
  exact kk
theorem b7_10 {d : Nat} {q : Option Value × qH} {h : qH} {l0 : Int64} {l2 : Int64}   (kk : qE d 7 11 [some (.long l0), none, some (.long l2), none] [.long l2] h q): qE d 7 10 [some (.long l0), none, some (.long l2), none] [] h q := by
  refine qe_lload_n c7_10 rfl ?_
  exact kk
theorem b7_11 {d : Nat} {h : qH} {l0 : Int64} {l2 : Int64} {ls0 : Int64}   : qE d 7 11 [some (.long l0), none, some (.long l2), none] [.long ls0] h (some (.long ls0), h) := by
  exact qe_lret c7_11 qr7
