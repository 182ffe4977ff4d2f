/-! What each piece of the code does, from a place to the next. -/
theorem b120_0F {d : Nat} {q : Option Value × qH} {h : qH} {r0 : Nat} {fs1 : List Value} {y3 : Int32} {y5 : Int32}  (e2 : h.2.2 r0 = some (.inr (12, fs1))) (e4 : fs1[44]? = some (.int y3)) (e6 : fs1[45]? = some (.int y5)) (e7 : ¬ ((y5 : Int32) ≤ y3)) (kk : qE d 120 11 [some (.ref r0)] [] h q): qE d 120 0 [some (.ref r0)] [] h q := by
  refine qe_aload_n c120_0 rfl ?_
  refine qe_getfield c120_1 qo120 qF12_290 e2 e4 ?_
  refine qe_aload_n c120_4 rfl ?_
  refine qe_getfield c120_5 qo120 qF12_293 e2 e6 ?_
  refine qe_icmp_ge_F (t := 27) c120_8 rfl e7 ?_
  exact kk
theorem b120_0T {d : Nat} {q : Option Value × qH} {h : qH} {r0 : Nat} {fs1 : List Value} {y3 : Int32} {y5 : Int32}  (e2 : h.2.2 r0 = some (.inr (12, fs1))) (e4 : fs1[44]? = some (.int y3)) (e6 : fs1[45]? = some (.int y5)) (e7 : (y5 : Int32) ≤ y3) (kk : qE d 120 27 [some (.ref r0)] [] h q): qE d 120 0 [some (.ref r0)] [] h q := by
  refine qe_aload_n c120_0 rfl ?_
  refine qe_getfield c120_1 qo120 qF12_290 e2 e4 ?_
  refine qe_aload_n c120_4 rfl ?_
  refine qe_getfield c120_5 qo120 qF12_293 e2 e6 ?_
  refine qe_icmp_ge_T (t := 27) c120_8 rfl e7 ?_
  exact kk
theorem b120_11 {d : Nat} {q : Option Value × qH} {h : qH} {r0 : Nat} {fs1 : List Value} {y3 : Nat} {y5 : Int32} {n7 : Nat} {f8 : Nat → Int32}  (e2 : h.2.2 r0 = some (.inr (12, fs1))) (e4 : fs1[0]? = some (.ref y3)) (e6 : fs1[44]? = some (.int y5)) (e9 : h.2.2 y3 = some (.inl (3, n7, .inl f8))) (e10 : 0 ≤ (y5 : Int32).toInt ∧ (y5 : Int32).toInt < (n7 : Nat)) (kk : qE d 120 28 [some (.ref r0)] [.int ((f8 (y5 : Int32).toNatClampNeg) &&& 255)] h q): qE d 120 11 [some (.ref r0)] [] h q := by
  refine qe_aload_n c120_11 rfl ?_
  refine qe_getfield c120_12 qo120 qF12_7 e2 e4 ?_
  refine qe_aload_n c120_15 rfl ?_
  refine qe_getfield c120_16 qo120 qF12_290 e2 e6 ?_
  refine qe_baload c120_19 e9 e10 ?_
  refine qe_sipush (x := 255) c120_20 (by decide) ?_
  refine qe_iand c120_23 ?_
  refine qe_goto (t := 28) c120_24 rfl ?_
  exact kk
theorem b120_27 {d : Nat} {q : Option Value × qH} {h : qH} {r0 : Nat}   (kk : qE d 120 28 [some (.ref r0)] [.int 0] h q): qE d 120 27 [some (.ref r0)] [] h q := by
  refine qe_iconst (x := 0) c120_27 (by decide) ?_
  exact kk
theorem b120_28 {d : Nat} {h : qH} {r0 : Nat} {xs0 : Int32}   : qE d 120 28 [some (.ref r0)] [.int xs0] h (some (.int xs0), h) := by
  exact qe_iret c120_28 qr120
theorem b121_0 {d : Nat} {q : Option Value × qH} {h : qH} {r0 : Nat} {x1 : Int32} {fs1 : List Value} {y3 : Nat} {n5 : Nat} {f6 : Nat → Int32}  (e2 : h.2.2 r0 = some (.inr (12, fs1))) (e4 : fs1[35]? = some (.ref y3)) (e7 : h.2.2 y3 = some (.inl (0, n5, .inl f6))) (e8 : 0 ≤ (x1 : Int32).toInt ∧ (x1 : Int32).toInt < (n5 : Nat)) (kk : qE d 121 9 [some (.ref r0), some (.int x1), some (.int 0), some (.int (f6 (x1 : Int32).toNatClampNeg))] [] h q): qE d 121 0 [some (.ref r0), some (.int x1), none, none] [] h q := by
  refine qe_iconst (x := 0) c121_0 (by decide) ?_
  refine qe_istore_n (ls2 := [some (.ref r0), some (.int x1), some (.int 0), none]) c121_1 (Nat.le_of_ble_eq_true rfl) rfl ?_
  refine qe_aload_n c121_2 rfl ?_
  refine qe_getfield c121_3 qo121 qF12_89 e2 e4 ?_
  refine qe_iload_n c121_6 rfl ?_
  refine qe_iaload c121_7 e7 e8 ?_
  refine qe_istore_n (ls2 := [some (.ref r0), some (.int x1), some (.int 0), some (.int (f6 (x1 : Int32).toNatClampNeg))]) c121_8 (Nat.le_of_ble_eq_true rfl) rfl ?_
  exact kk
theorem b121_9F {d : Nat} {q : Option Value × qH} {h : qH} {r0 : Nat} {x1 : Int32} {x2 : Int32} {x3 : Int32} {fs1 : List Value} {y3 : Nat} {n5 : Nat} {f6 : Nat → Int32}  (e2 : h.2.2 r0 = some (.inr (12, fs1))) (e4 : fs1[36]? = some (.ref y3)) (e7 : h.2.2 y3 = some (.inl (0, n5, .inl f6))) (e8 : 0 ≤ (x1 : Int32).toInt ∧ (x1 : Int32).toInt < (n5 : Nat)) (e9 : ¬ (((f6 (x1 : Int32).toNatClampNeg) : Int32) ≤ x3)) (kk : qE d 121 19 [some (.ref r0), some (.int x1), some (.int x2), some (.int x3)] [] h q): qE d 121 9 [some (.ref r0), some (.int x1), some (.int x2), some (.int x3)] [] h q := by
  refine qe_iload_n c121_9 rfl ?_
  refine qe_aload_n c121_10 rfl ?_
  refine qe_getfield c121_11 qo121 qF12_92 e2 e4 ?_
  refine qe_iload_n c121_14 rfl ?_
  refine qe_iaload c121_15 e7 e8 ?_
  refine qe_icmp_ge_F (t := 130) c121_16 rfl e9 ?_
  exact kk
theorem b121_9T {d : Nat} {q : Option Value × qH} {h : qH} {r0 : Nat} {x1 : Int32} {x2 : Int32} {x3 : Int32} {fs1 : List Value} {y3 : Nat} {n5 : Nat} {f6 : Nat → Int32}  (e2 : h.2.2 r0 = some (.inr (12, fs1))) (e4 : fs1[36]? = some (.ref y3)) (e7 : h.2.2 y3 = some (.inl (0, n5, .inl f6))) (e8 : 0 ≤ (x1 : Int32).toInt ∧ (x1 : Int32).toInt < (n5 : Nat)) (e9 : ((f6 (x1 : Int32).toNatClampNeg) : Int32) ≤ x3) (kk : qE d 121 130 [some (.ref r0), some (.int x1), some (.int x2), some (.int x3)] [] h q): qE d 121 9 [some (.ref r0), some (.int x1), some (.int x2), some (.int x3)] [] h q := by
  refine qe_iload_n c121_9 rfl ?_
  refine qe_aload_n c121_10 rfl ?_
  refine qe_getfield c121_11 qo121 qF12_92 e2 e4 ?_
  refine qe_iload_n c121_14 rfl ?_
  refine qe_iaload c121_15 e7 e8 ?_
  refine qe_icmp_ge_T (t := 130) c121_16 rfl e9 ?_
  exact kk
theorem b121_19F {d : Nat} {q : Option Value × qH} {h : qH} {r0 : Nat} {x1 : Int32} {x2 : Int32} {x3 : Int32} {fs1 : List Value} {y3 : Nat} {n5 : Nat} {f6 : Nat → Int32}  (e2 : h.2.2 r0 = some (.inr (12, fs1))) (e4 : fs1[37]? = some (.ref y3)) (e7 : h.2.2 y3 = some (.inl (0, n5, .inl f6))) (e8 : 0 ≤ (x3 : Int32).toInt ∧ (x3 : Int32).toInt < (n5 : Nat)) (e9 : ¬ (((f6 (x3 : Int32).toNatClampNeg) : Int32) ≤ 2)) (kk : qE d 121 29 [some (.ref r0), some (.int x1), some (.int x2), some (.int x3)] [] h q): qE d 121 19 [some (.ref r0), some (.int x1), some (.int x2), some (.int x3)] [] h q := by
  refine qe_aload_n c121_19 rfl ?_
  refine qe_getfield c121_20 qo121 qF12_95 e2 e4 ?_
  refine qe_iload_n c121_23 rfl ?_
  refine qe_iaload c121_24 e7 e8 ?_
  refine qe_iconst (x := 2) c121_25 (by decide) ?_
  refine qe_icmp_le_F (t := 48) c121_26 rfl e9 ?_
  exact kk
theorem b121_19T {d : Nat} {q : Option Value × qH} {h : qH} {r0 : Nat} {x1 : Int32} {x2 : Int32} {x3 : Int32} {fs1 : List Value} {y3 : Nat} {n5 : Nat} {f6 : Nat → Int32}  (e2 : h.2.2 r0 = some (.inr (12, fs1))) (e4 : fs1[37]? = some (.ref y3)) (e7 : h.2.2 y3 = some (.inl (0, n5, .inl f6))) (e8 : 0 ≤ (x3 : Int32).toInt ∧ (x3 : Int32).toInt < (n5 : Nat)) (e9 : ((f6 (x3 : Int32).toNatClampNeg) : Int32) ≤ 2) (kk : qE d 121 48 [some (.ref r0), some (.int x1), some (.int x2), some (.int x3)] [] h q): qE d 121 19 [some (.ref r0), some (.int x1), some (.int x2), some (.int x3)] [] h q := by
  refine qe_aload_n c121_19 rfl ?_
  refine qe_getfield c121_20 qo121 qF12_95 e2 e4 ?_
  refine qe_iload_n c121_23 rfl ?_
  refine qe_iaload c121_24 e7 e8 ?_
  refine qe_iconst (x := 2) c121_25 (by decide) ?_
  refine qe_icmp_le_T (t := 48) c121_26 rfl e9 ?_
  exact kk
theorem b121_29 {d : Nat} {q : Option Value × qH} {h : qH} {r0 : Nat} {x1 : Int32} {x2 : Int32} {x3 : Int32} {fs1 : List Value} {y3 : Nat} {n5 : Nat} {f6 : Nat → Int32} {h1 : qH}  (e2 : h.2.2 r0 = some (.inr (12, fs1))) (e4 : fs1[37]? = some (.ref y3)) (e7 : h.2.2 y3 = some (.inl (0, n5, .inl f6))) (e8 : 0 ≤ (x3 : Int32).toInt ∧ (x3 : Int32).toInt < (n5 : Nat)) (e9 : qCall d 102 [.ref r0, .int (f6 (x3 : Int32).toNatClampNeg), .int ((x2 + (-1)) - 1)] h (none, h1)) (kk : qE d 121 124 [some (.ref r0), some (.int x1), some (.int (x2 + (-1))), some (.int x3)] [] h1 q): qE d 121 29 [some (.ref r0), some (.int x1), some (.int x2), some (.int x3)] [] h q := by
  refine qe_iinc (y := (x2 + (-1))) (ls2 := [some (.ref r0), some (.int x1), some (.int (x2 + (-1))), some (.int x3)]) c121_29 rfl (Nat.le_of_ble_eq_true rfl) rfl rfl ?_
  refine qe_aload_n c121_32 rfl ?_
  refine qe_aload_n c121_33 rfl ?_
  refine qe_getfield c121_34 qo121 qF12_95 e2 e4 ?_
  refine qe_iload_n c121_37 rfl ?_
  refine qe_iaload c121_38 e7 e8 ?_
  refine qe_iload_n c121_39 rfl ?_
  refine qe_iconst (x := 1) c121_40 (by decide) ?_
  refine qe_isub c121_41 ?_
  refine qe_virtual (b := r0) (as := [.int (f6 (x3 : Int32).toNatClampNeg), .int ((x2 + (-1)) - 1)]) (r := []) (v := none) (h2 := h1) c121_42 qo121 qK12_415 rfl rfl rfl (by rw [qo102]; exact e2) (Nat.le_of_ble_eq_true rfl) e9 ?_
  refine qe_goto (t := 124) c121_45 rfl ?_
  exact kk
theorem b121_48F {d : Nat} {q : Option Value × qH} {h : qH} {r0 : Nat} {x1 : Int32} {x2 : Int32} {x3 : Int32} {fs1 : List Value} {y3 : Nat} {n5 : Nat} {f6 : Nat → Int32}  (e2 : h.2.2 r0 = some (.inr (12, fs1))) (e4 : fs1[37]? = some (.ref y3)) (e7 : h.2.2 y3 = some (.inl (0, n5, .inl f6))) (e8 : 0 ≤ (x3 : Int32).toInt ∧ (x3 : Int32).toInt < (n5 : Nat)) (e9 : ((f6 (x3 : Int32).toNatClampNeg) : Int32) = 2) (kk : qE d 121 58 [some (.ref r0), some (.int x1), some (.int x2), some (.int x3)] [] h q): qE d 121 48 [some (.ref r0), some (.int x1), some (.int x2), some (.int x3)] [] h q := by
  refine qe_aload_n c121_48 rfl ?_
  refine qe_getfield c121_49 qo121 qF12_95 e2 e4 ?_
  refine qe_iload_n c121_52 rfl ?_
  refine qe_iaload c121_53 e7 e8 ?_
  refine qe_iconst (x := 2) c121_54 (by decide) ?_
  refine qe_icmp_ne_F (t := 79) c121_55 rfl e9 ?_
  exact kk
theorem b121_48T {d : Nat} {q : Option Value × qH} {h : qH} {r0 : Nat} {x1 : Int32} {x2 : Int32} {x3 : Int32} {fs1 : List Value} {y3 : Nat} {n5 : Nat} {f6 : Nat → Int32}  (e2 : h.2.2 r0 = some (.inr (12, fs1))) (e4 : fs1[37]? = some (.ref y3)) (e7 : h.2.2 y3 = some (.inl (0, n5, .inl f6))) (e8 : 0 ≤ (x3 : Int32).toInt ∧ (x3 : Int32).toInt < (n5 : Nat)) (e9 : ¬ (((f6 (x3 : Int32).toNatClampNeg) : Int32) = 2)) (kk : qE d 121 79 [some (.ref r0), some (.int x1), some (.int x2), some (.int x3)] [] h q): qE d 121 48 [some (.ref r0), some (.int x1), some (.int x2), some (.int x3)] [] h q := by
  refine qe_aload_n c121_48 rfl ?_
  refine qe_getfield c121_49 qo121 qF12_95 e2 e4 ?_
  refine qe_iload_n c121_52 rfl ?_
  refine qe_iaload c121_53 e7 e8 ?_
  refine qe_iconst (x := 2) c121_54 (by decide) ?_
  refine qe_icmp_ne_T (t := 79) c121_55 rfl e9 ?_
  exact kk
theorem b121_58 {d : Nat} {q : Option Value × qH} {h : qH} {r0 : Nat} {x1 : Int32} {x2 : Int32} {x3 : Int32} {fs1 : List Value} {y3 : Nat} {n6 : Nat} {f7 : Nat → Int64} {h1 : qH}  (e2 : h.2.2 r0 = some (.inr (12, fs1))) (e4 : fs1[57]? = some (.ref y3)) (e8 : h.2.2 y3 = some (.inl (2, n6, .inr (.inl f7)))) (e9 : 0 ≤ ((x2 - 1) : Int32).toInt ∧ ((x2 - 1) : Int32).toInt < (n6 : Nat)) (e10 : 0 ≤ ((x2 - 1) : Int32).toInt ∧ ((x2 - 1) : Int32).toInt < (n6 : Nat)) (e11 : qset h y3 (.inl (2, n6, .inr (.inl (vp_updL f7 (((x2 - 1) : Int32).toNatClampNeg) ((1 - (f7 ((x2 - 1) : Int32).toNatClampNeg))))))) = h1) (kk : qE d 121 124 [some (.ref r0), some (.int x1), some (.int x2), some (.int x3)] [] h1 q): qE d 121 58 [some (.ref r0), some (.int x1), some (.int x2), some (.int x3)] [] h q := by
  refine qe_aload_n c121_58 rfl ?_
  refine qe_getfield c121_59 qo121 qF12_119 e2 e4 ?_
  refine qe_iload_n c121_62 rfl ?_
  refine qe_iconst (x := 1) c121_63 (by decide) ?_
  refine qe_isub c121_64 ?_
  refine qe_lconst (x := 1) c121_65 (by decide) ?_
  refine qe_aload_n c121_66 rfl ?_
  refine qe_getfield c121_67 qo121 qF12_119 e2 e4 ?_
  refine qe_iload_n c121_70 rfl ?_
  refine qe_iconst (x := 1) c121_71 (by decide) ?_
  refine qe_isub c121_72 ?_
  refine qe_laload c121_73 e8 e9 ?_
  refine qe_lsub c121_74 ?_
  refine qe_lastore c121_75 e8 e10 ?_
  rw [e11]
  refine qe_goto (t := 124) c121_76 rfl ?_
  exact kk
theorem b121_79F {d : Nat} {q : Option Value × qH} {h : qH} {r0 : Nat} {x1 : Int32} {x2 : Int32} {x3 : Int32} {fs1 : List Value} {y3 : Nat} {n5 : Nat} {f6 : Nat → Int32} {h1 : qH} {fs10 : List Value} {y12 : Nat} {y14 : Nat} {n16 : Nat} {f17 : Nat → Int32}  (e2 : h.2.2 r0 = some (.inr (12, fs1))) (e4 : fs1[58]? = some (.ref y3)) (e7 : h.2.2 y3 = some (.inl (1, n5, .inl f6))) (e8 : 0 ≤ (x2 : Int32).toInt ∧ (x2 : Int32).toInt < (n5 : Nat)) (e9 : qset h y3 (.inl (1, n5, .inl (upd f6 ((x2 : Int32).toNatClampNeg) 0))) = h1) (e11 : h1.2.2 r0 = some (.inr (12, fs10))) (e13 : fs10[57]? = some (.ref y12)) (e15 : fs10[37]? = some (.ref y14)) (e18 : h1.2.2 y14 = some (.inl (0, n16, .inl f17))) (e19 : 0 ≤ (x3 : Int32).toInt ∧ (x3 : Int32).toInt < (n16 : Nat)) (e20 : ((f17 (x3 : Int32).toNatClampNeg) : Int32) = 0) (kk : qE d 121 100 [some (.ref r0), some (.int x1), some (.int x2), some (.int x3)] [.int x2, .ref y12] h1 q): qE d 121 79 [some (.ref r0), some (.int x1), some (.int x2), some (.int x3)] [] h q := by
  refine qe_aload_n c121_79 rfl ?_
  refine qe_getfield c121_80 qo121 qF12_122 e2 e4 ?_
  refine qe_iload_n c121_83 rfl ?_
  refine qe_iconst (x := 0) c121_84 (by decide) ?_
  refine qe_zastore c121_85 e7 e8 (by decide) ?_
  rw [e9]
  refine qe_aload_n c121_86 rfl ?_
  refine qe_getfield c121_87 qo121 qF12_119 e11 e13 ?_
  refine qe_iload_n c121_90 rfl ?_
  refine qe_aload_n c121_91 rfl ?_
  refine qe_getfield c121_92 qo121 qF12_95 e11 e15 ?_
  refine qe_iload_n c121_95 rfl ?_
  refine qe_iaload c121_96 e18 e19 ?_
  refine qe_if_ne_F (t := 110) c121_97 rfl e20 ?_
  exact kk
theorem b121_79T {d : Nat} {q : Option Value × qH} {h : qH} {r0 : Nat} {x1 : Int32} {x2 : Int32} {x3 : Int32} {fs1 : List Value} {y3 : Nat} {n5 : Nat} {f6 : Nat → Int32} {h1 : qH} {fs10 : List Value} {y12 : Nat} {y14 : Nat} {n16 : Nat} {f17 : Nat → Int32}  (e2 : h.2.2 r0 = some (.inr (12, fs1))) (e4 : fs1[58]? = some (.ref y3)) (e7 : h.2.2 y3 = some (.inl (1, n5, .inl f6))) (e8 : 0 ≤ (x2 : Int32).toInt ∧ (x2 : Int32).toInt < (n5 : Nat)) (e9 : qset h y3 (.inl (1, n5, .inl (upd f6 ((x2 : Int32).toNatClampNeg) 0))) = h1) (e11 : h1.2.2 r0 = some (.inr (12, fs10))) (e13 : fs10[57]? = some (.ref y12)) (e15 : fs10[37]? = some (.ref y14)) (e18 : h1.2.2 y14 = some (.inl (0, n16, .inl f17))) (e19 : 0 ≤ (x3 : Int32).toInt ∧ (x3 : Int32).toInt < (n16 : Nat)) (e20 : ¬ (((f17 (x3 : Int32).toNatClampNeg) : Int32) = 0)) (kk : qE d 121 110 [some (.ref r0), some (.int x1), some (.int x2), some (.int x3)] [.int x2, .ref y12] h1 q): qE d 121 79 [some (.ref r0), some (.int x1), some (.int x2), some (.int x3)] [] h q := by
  refine qe_aload_n c121_79 rfl ?_
  refine qe_getfield c121_80 qo121 qF12_122 e2 e4 ?_
  refine qe_iload_n c121_83 rfl ?_
  refine qe_iconst (x := 0) c121_84 (by decide) ?_
  refine qe_zastore c121_85 e7 e8 (by decide) ?_
  rw [e9]
  refine qe_aload_n c121_86 rfl ?_
  refine qe_getfield c121_87 qo121 qF12_119 e11 e13 ?_
  refine qe_iload_n c121_90 rfl ?_
  refine qe_aload_n c121_91 rfl ?_
  refine qe_getfield c121_92 qo121 qF12_95 e11 e15 ?_
  refine qe_iload_n c121_95 rfl ?_
  refine qe_iaload c121_96 e18 e19 ?_
  refine qe_if_ne_T (t := 110) c121_97 rfl e20 ?_
  exact kk
theorem b121_100 {d : Nat} {q : Option Value × qH} {h : qH} {r0 : Nat} {x1 : Int32} {x2 : Int32} {x3 : Int32} {rs0 : Nat} {xs1 : Int32} {fs1 : List Value} {y3 : Nat} {n5 : Nat} {f6 : Nat → Int32}  (e2 : h.2.2 r0 = some (.inr (12, fs1))) (e4 : fs1[38]? = some (.ref y3)) (e7 : h.2.2 y3 = some (.inl (0, n5, .inl f6))) (e8 : 0 ≤ (x3 : Int32).toInt ∧ (x3 : Int32).toInt < (n5 : Nat)) (kk : qE d 121 120 [some (.ref r0), some (.int x1), some (.int x2), some (.int x3)] [.long ((f6 (x3 : Int32).toNatClampNeg) : Int32).toInt64, .int xs1, .ref rs0] h q): qE d 121 100 [some (.ref r0), some (.int x1), some (.int x2), some (.int x3)] [.int xs1, .ref rs0] h q := by
  refine qe_aload_n c121_100 rfl ?_
  refine qe_getfield c121_101 qo121 qF12_98 e2 e4 ?_
  refine qe_iload_n c121_104 rfl ?_
  refine qe_iaload c121_105 e7 e8 ?_
  refine qe_i2l c121_106 ?_
  refine qe_goto (t := 120) c121_107 rfl ?_
  exact kk
theorem b121_110 {d : Nat} {q : Option Value × qH} {h : qH} {r0 : Nat} {x1 : Int32} {x2 : Int32} {x3 : Int32} {rs0 : Nat} {xs1 : Int32} {fs1 : List Value} {y3 : Nat} {n5 : Nat} {f6 : Nat → Int32} {h1 : qH} {z9 : Int64}  (e2 : h.2.2 r0 = some (.inr (12, fs1))) (e4 : fs1[38]? = some (.ref y3)) (e7 : h.2.2 y3 = some (.inl (0, n5, .inl f6))) (e8 : 0 ≤ (x3 : Int32).toInt ∧ (x3 : Int32).toInt < (n5 : Nat)) (e10 : qCall d 183 [.ref r0, .int (f6 (x3 : Int32).toNatClampNeg)] h ((some (.long z9)), h1)) (kk : qE d 121 120 [some (.ref r0), some (.int x1), some (.int x2), some (.int x3)] [.long z9, .int xs1, .ref rs0] h1 q): qE d 121 110 [some (.ref r0), some (.int x1), some (.int x2), some (.int x3)] [.int xs1, .ref rs0] h q := by
  refine qe_aload_n c121_110 rfl ?_
  refine qe_aload_n c121_111 rfl ?_
  refine qe_getfield c121_112 qo121 qF12_98 e2 e4 ?_
  refine qe_iload_n c121_115 rfl ?_
  refine qe_iaload c121_116 e7 e8 ?_
  refine qe_virtual (b := r0) (as := [.int (f6 (x3 : Int32).toNatClampNeg)]) (r := [.int xs1, .ref rs0]) (v := (some (.long z9))) (h2 := h1) c121_117 qo121 qK12_418 rfl rfl rfl (by rw [qo183]; exact e2) (Nat.le_of_ble_eq_true rfl) e10 ?_
  exact kk
theorem b121_120 {d : Nat} {q : Option Value × qH} {h : qH} {r0 : Nat} {x1 : Int32} {x2 : Int32} {x3 : Int32} {rs0 : Nat} {xs1 : Int32} {ls2 : Int64} {n1 : Nat} {f2 : Nat → Int64} {h1 : qH}  (e3 : h.2.2 rs0 = some (.inl (2, n1, .inr (.inl f2)))) (e4 : 0 ≤ (xs1 : Int32).toInt ∧ (xs1 : Int32).toInt < (n1 : Nat)) (e5 : qset h rs0 (.inl (2, n1, .inr (.inl (vp_updL f2 ((xs1 : Int32).toNatClampNeg) ls2)))) = h1) (kk : qE d 121 124 [some (.ref r0), some (.int x1), some (.int (x2 + 1)), some (.int x3)] [] h1 q): qE d 121 120 [some (.ref r0), some (.int x1), some (.int x2), some (.int x3)] [.long ls2, .int xs1, .ref rs0] h q := by
  refine qe_lastore c121_120 e3 e4 ?_
  rw [e5]
  refine qe_iinc (y := (x2 + 1)) (ls2 := [some (.ref r0), some (.int x1), some (.int (x2 + 1)), some (.int x3)]) c121_121 rfl (Nat.le_of_ble_eq_true rfl) rfl rfl ?_
  exact kk
theorem b121_124 {d : Nat} {q : Option Value × qH} {h : qH} {r0 : Nat} {x1 : Int32} {x2 : Int32} {x3 : Int32}   (kk : qE d 121 9 [some (.ref r0), some (.int x1), some (.int x2), some (.int (x3 + 1))] [] h q): qE d 121 124 [some (.ref r0), some (.int x1), some (.int x2), some (.int x3)] [] h q := by
  refine qe_iinc (y := (x3 + 1)) (ls2 := [some (.ref r0), some (.int x1), some (.int x2), some (.int (x3 + 1))]) c121_124 rfl (Nat.le_of_ble_eq_true rfl) rfl rfl ?_
  refine qe_goto (t := 9) c121_127 rfl ?_
  exact kk
theorem b121_130F {d : Nat} {q : Option Value × qH} {h : qH} {r0 : Nat} {x1 : Int32} {x2 : Int32} {x3 : Int32} {fs1 : List Value} {y3 : Nat} {n5 : Nat} {f6 : Nat → Int32}  (e2 : h.2.2 r0 = some (.inr (12, fs1))) (e4 : fs1[58]? = some (.ref y3)) (e7 : h.2.2 y3 = some (.inl (1, n5, .inl f6))) (e8 : 0 ≤ (0 : Int32).toInt ∧ (0 : Int32).toInt < (n5 : Nat)) (e9 : ((f6 (0 : Int32).toNatClampNeg) : Int32) = 0) (kk : qE d 121 139 [some (.ref r0), some (.int x1), some (.int x2), some (.int x3)] [] h q): qE d 121 130 [some (.ref r0), some (.int x1), some (.int x2), some (.int x3)] [] h q := by
  refine qe_aload_n c121_130 rfl ?_
  refine qe_getfield c121_131 qo121 qF12_122 e2 e4 ?_
  refine qe_iconst (x := 0) c121_134 (by decide) ?_
  refine qe_zaload c121_135 e7 e8 ?_
  refine qe_if_ne_F (t := 154) c121_136 rfl e9 ?_
  exact kk
theorem b121_130T {d : Nat} {q : Option Value × qH} {h : qH} {r0 : Nat} {x1 : Int32} {x2 : Int32} {x3 : Int32} {fs1 : List Value} {y3 : Nat} {n5 : Nat} {f6 : Nat → Int32}  (e2 : h.2.2 r0 = some (.inr (12, fs1))) (e4 : fs1[58]? = some (.ref y3)) (e7 : h.2.2 y3 = some (.inl (1, n5, .inl f6))) (e8 : 0 ≤ (0 : Int32).toInt ∧ (0 : Int32).toInt < (n5 : Nat)) (e9 : ¬ (((f6 (0 : Int32).toNatClampNeg) : Int32) = 0)) (kk : qE d 121 154 [some (.ref r0), some (.int x1), some (.int x2), some (.int x3)] [] h q): qE d 121 130 [some (.ref r0), some (.int x1), some (.int x2), some (.int x3)] [] h q := by
  refine qe_aload_n c121_130 rfl ?_
  refine qe_getfield c121_131 qo121 qF12_122 e2 e4 ?_
  refine qe_iconst (x := 0) c121_134 (by decide) ?_
  refine qe_zaload c121_135 e7 e8 ?_
  refine qe_if_ne_T (t := 154) c121_136 rfl e9 ?_
  exact kk
theorem b121_139F {d : Nat} {q : Option Value × qH} {h : qH} {r0 : Nat} {x1 : Int32} {x2 : Int32} {x3 : Int32} {fs1 : List Value} {y3 : Nat} {n5 : Nat} {f6 : Nat → Int64}  (e2 : h.2.2 r0 = some (.inr (12, fs1))) (e4 : fs1[57]? = some (.ref y3)) (e7 : h.2.2 y3 = some (.inl (2, n5, .inr (.inl f6)))) (e8 : 0 ≤ (0 : Int32).toInt ∧ (0 : Int32).toInt < (n5 : Nat)) (e9 : ((lg_cmp ((f6 (0 : Int32).toNatClampNeg)) 1) : Int32) = 0) (kk : qE d 121 150 [some (.ref r0), some (.int x1), some (.int x2), some (.int x3)] [] h q): qE d 121 139 [some (.ref r0), some (.int x1), some (.int x2), some (.int x3)] [] h q := by
  refine qe_aload_n c121_139 rfl ?_
  refine qe_getfield c121_140 qo121 qF12_119 e2 e4 ?_
  refine qe_iconst (x := 0) c121_143 (by decide) ?_
  refine qe_laload c121_144 e7 e8 ?_
  refine qe_lconst (x := 1) c121_145 (by decide) ?_
  refine qe_lcmp c121_146 ?_
  refine qe_if_ne_F (t := 154) c121_147 rfl e9 ?_
  exact kk
theorem b121_139T {d : Nat} {q : Option Value × qH} {h : qH} {r0 : Nat} {x1 : Int32} {x2 : Int32} {x3 : Int32} {fs1 : List Value} {y3 : Nat} {n5 : Nat} {f6 : Nat → Int64}  (e2 : h.2.2 r0 = some (.inr (12, fs1))) (e4 : fs1[57]? = some (.ref y3)) (e7 : h.2.2 y3 = some (.inl (2, n5, .inr (.inl f6)))) (e8 : 0 ≤ (0 : Int32).toInt ∧ (0 : Int32).toInt < (n5 : Nat)) (e9 : ¬ (((lg_cmp ((f6 (0 : Int32).toNatClampNeg)) 1) : Int32) = 0)) (kk : qE d 121 154 [some (.ref r0), some (.int x1), some (.int x2), some (.int x3)] [] h q): qE d 121 139 [some (.ref r0), some (.int x1), some (.int x2), some (.int x3)] [] h q := by
  refine qe_aload_n c121_139 rfl ?_
  refine qe_getfield c121_140 qo121 qF12_119 e2 e4 ?_
  refine qe_iconst (x := 0) c121_143 (by decide) ?_
  refine qe_laload c121_144 e7 e8 ?_
  refine qe_lconst (x := 1) c121_145 (by decide) ?_
  refine qe_lcmp c121_146 ?_
  refine qe_if_ne_T (t := 154) c121_147 rfl e9 ?_
  exact kk
theorem b121_150 {d : Nat} {q : Option Value × qH} {h : qH} {r0 : Nat} {x1 : Int32} {x2 : Int32} {x3 : Int32}   (kk : qE d 121 155 [some (.ref r0), some (.int x1), some (.int x2), some (.int x3)] [.int 1] h q): qE d 121 150 [some (.ref r0), some (.int x1), some (.int x2), some (.int x3)] [] h q := by
  refine qe_iconst (x := 1) c121_150 (by decide) ?_
  refine qe_goto (t := 155) c121_151 rfl ?_
  exact kk
theorem b121_154 {d : Nat} {q : Option Value × qH} {h : qH} {r0 : Nat} {x1 : Int32} {x2 : Int32} {x3 : Int32}   (kk : qE d 121 155 [some (.ref r0), some (.int x1), some (.int x2), some (.int x3)] [.int 0] h q): qE d 121 154 [some (.ref r0), some (.int x1), some (.int x2), some (.int x3)] [] h q := by
  refine qe_iconst (x := 0) c121_154 (by decide) ?_
  exact kk
theorem b121_155 {d : Nat} {h : qH} {r0 : Nat} {x1 : Int32} {x2 : Int32} {x3 : Int32} {xs0 : Int32}  (e1 : (xs0 : Int32) = 0 ∨ (xs0 : Int32) = 1) : qE d 121 155 [some (.ref r0), some (.int x1), some (.int x2), some (.int x3)] [.int xs0] h (some (.int xs0), h) := by
  exact qe_zret c121_155 qr121 e1
theorem b122_0 {d : Nat} {q : Option Value × qH} {h : qH} {r0 : Nat} {x1 : Int32} {x2 : Int32} {x3 : Int32} {fs1 : List Value} {h1 : qH} {fs5 : List Value} {h2 : qH} {fs9 : List Value} {h3 : qH}  (e2 : h.2.2 r0 = some (.inr (12, fs1))) (e3 : 54 < fs1.length) (e4 : qset h r0 (.inr (12, fs1.set 54 (.int x1))) = h1) (e6 : h1.2.2 r0 = some (.inr (12, fs5))) (e7 : 55 < fs5.length) (e8 : qset h1 r0 (.inr (12, fs5.set 55 (.int x3))) = h2) (e10 : h2.2.2 r0 = some (.inr (12, fs9))) (e11 : 56 < fs9.length) (e12 : (x2 : Int32) = 0 ∨ (x2 : Int32) = 1) (e13 : qset h2 r0 (.inr (12, fs9.set 56 (.int x2))) = h3) (kk : qE d 122 18 [some (.ref r0), some (.int x1), some (.int x2), some (.int x3), some (.int 0)] [] h3 q): qE d 122 0 [some (.ref r0), some (.int x1), some (.int x2), some (.int x3), none] [] h q := by
  refine qe_aload_n c122_0 rfl ?_
  refine qe_iload_n c122_1 rfl ?_
  refine qe_putfield c122_2 qo122 qF12_402 qz12_54 e2 e3 (by rw [qy12_54]; rfl) ?_
  rw [e4]
  refine qe_aload_n c122_5 rfl ?_
  refine qe_iload_n c122_6 rfl ?_
  refine qe_putfield c122_7 qo122 qF12_396 qz12_55 e6 e7 (by rw [qy12_55]; rfl) ?_
  rw [e8]
  refine qe_aload_n c122_10 rfl ?_
  refine qe_iload_n c122_11 rfl ?_
  refine qe_putfield c122_12 qo122 qF12_399 qz12_56 e10 e11 (by rw [qy12_56]; exact decide_eq_true e12) ?_
  rw [e13]
  refine qe_iconst (x := 0) c122_15 (by decide) ?_
  refine qe_istore (ls2 := [some (.ref r0), some (.int x1), some (.int x2), some (.int x3), some (.int 0)]) c122_16 (Nat.le_of_ble_eq_true rfl) rfl ?_
  exact kk
theorem b122_18F {d : Nat} {q : Option Value × qH} {h : qH} {r0 : Nat} {x1 : Int32} {x2 : Int32} {x3 : Int32} {x4 : Int32} {fs1 : List Value} {y3 : Int32}  (e2 : h.2.2 r0 = some (.inr (12, fs1))) (e4 : fs1[6]? = some (.int y3)) (e5 : ¬ ((y3 : Int32) ≤ x4)) (kk : qE d 122 27 [some (.ref r0), some (.int x1), some (.int x2), some (.int x3), some (.int x4)] [] h q): qE d 122 18 [some (.ref r0), some (.int x1), some (.int x2), some (.int x3), some (.int x4)] [] h q := by
  refine qe_iload c122_18 rfl ?_
  refine qe_aload_n c122_20 rfl ?_
  refine qe_getfield c122_21 qo122 qF12_393 e2 e4 ?_
  refine qe_icmp_ge_F (t := 65) c122_24 rfl e5 ?_
  exact kk
theorem b122_18T {d : Nat} {q : Option Value × qH} {h : qH} {r0 : Nat} {x1 : Int32} {x2 : Int32} {x3 : Int32} {x4 : Int32} {fs1 : List Value} {y3 : Int32}  (e2 : h.2.2 r0 = some (.inr (12, fs1))) (e4 : fs1[6]? = some (.int y3)) (e5 : (y3 : Int32) ≤ x4) (kk : qE d 122 65 [some (.ref r0), some (.int x1), some (.int x2), some (.int x3), some (.int x4)] [] h q): qE d 122 18 [some (.ref r0), some (.int x1), some (.int x2), some (.int x3), some (.int x4)] [] h q := by
  refine qe_iload c122_18 rfl ?_
  refine qe_aload_n c122_20 rfl ?_
  refine qe_getfield c122_21 qo122 qF12_393 e2 e4 ?_
  refine qe_icmp_ge_T (t := 65) c122_24 rfl e5 ?_
  exact kk
theorem b122_27F {d : Nat} {q : Option Value × qH} {h : qH} {r0 : Nat} {x1 : Int32} {x2 : Int32} {x3 : Int32} {x4 : Int32} {fs1 : List Value} {y3 : Nat} {n5 : Nat} {f6 : Nat → Int32}  (e2 : h.2.2 r0 = some (.inr (12, fs1))) (e4 : fs1[34]? = some (.ref y3)) (e7 : h.2.2 y3 = some (.inl (0, n5, .inl f6))) (e8 : 0 ≤ (x4 : Int32).toInt ∧ (x4 : Int32).toInt < (n5 : Nat)) (e9 : ¬ ((x2 : Int32) = 0)) (kk : qE d 122 38 [some (.ref r0), some (.int x1), some (.int x2), some (.int x3), some (.int x4)] [.int (f6 (x4 : Int32).toNatClampNeg)] h q): qE d 122 27 [some (.ref r0), some (.int x1), some (.int x2), some (.int x3), some (.int x4)] [] h q := by
  refine qe_aload_n c122_27 rfl ?_
  refine qe_getfield c122_28 qo122 qF12_86 e2 e4 ?_
  refine qe_iload c122_31 rfl ?_
  refine qe_iaload c122_33 e7 e8 ?_
  refine qe_iload_n c122_34 rfl ?_
  refine qe_if_eq_F (t := 43) c122_35 rfl e9 ?_
  exact kk
theorem b122_27T {d : Nat} {q : Option Value × qH} {h : qH} {r0 : Nat} {x1 : Int32} {x2 : Int32} {x3 : Int32} {x4 : Int32} {fs1 : List Value} {y3 : Nat} {n5 : Nat} {f6 : Nat → Int32}  (e2 : h.2.2 r0 = some (.inr (12, fs1))) (e4 : fs1[34]? = some (.ref y3)) (e7 : h.2.2 y3 = some (.inl (0, n5, .inl f6))) (e8 : 0 ≤ (x4 : Int32).toInt ∧ (x4 : Int32).toInt < (n5 : Nat)) (e9 : (x2 : Int32) = 0) (kk : qE d 122 43 [some (.ref r0), some (.int x1), some (.int x2), some (.int x3), some (.int x4)] [.int (f6 (x4 : Int32).toNatClampNeg)] h q): qE d 122 27 [some (.ref r0), some (.int x1), some (.int x2), some (.int x3), some (.int x4)] [] h q := by
  refine qe_aload_n c122_27 rfl ?_
  refine qe_getfield c122_28 qo122 qF12_86 e2 e4 ?_
  refine qe_iload c122_31 rfl ?_
  refine qe_iaload c122_33 e7 e8 ?_
  refine qe_iload_n c122_34 rfl ?_
  refine qe_if_eq_T (t := 43) c122_35 rfl e9 ?_
  exact kk
theorem b122_38 {d : Nat} {q : Option Value × qH} {h : qH} {r0 : Nat} {x1 : Int32} {x2 : Int32} {x3 : Int32} {x4 : Int32} {xs0 : Int32}   (kk : qE d 122 45 [some (.ref r0), some (.int x1), some (.int x2), some (.int x3), some (.int x4)] [.int 116, .int xs0] h q): qE d 122 38 [some (.ref r0), some (.int x1), some (.int x2), some (.int x3), some (.int x4)] [.int xs0] h q := by
  refine qe_bipush (x := 116) c122_38 (by decide) ?_
  refine qe_goto (t := 45) c122_40 rfl ?_
  exact kk
theorem b122_43 {d : Nat} {q : Option Value × qH} {h : qH} {r0 : Nat} {x1 : Int32} {x2 : Int32} {x3 : Int32} {x4 : Int32} {xs0 : Int32}   (kk : qE d 122 45 [some (.ref r0), some (.int x1), some (.int x2), some (.int x3), some (.int x4)] [.int 111, .int xs0] h q): qE d 122 43 [some (.ref r0), some (.int x1), some (.int x2), some (.int x3), some (.int x4)] [.int xs0] h q := by
  refine qe_bipush (x := 111) c122_43 (by decide) ?_
  exact kk
theorem b122_45F {d : Nat} {q : Option Value × qH} {h : qH} {r0 : Nat} {x1 : Int32} {x2 : Int32} {x3 : Int32} {x4 : Int32} {xs0 : Int32} {xs1 : Int32}  (e1 : (xs0 : Int32) = xs1) (kk : qE d 122 48 [some (.ref r0), some (.int x1), some (.int x2), some (.int x3), some (.int x4)] [] h q): qE d 122 45 [some (.ref r0), some (.int x1), some (.int x2), some (.int x3), some (.int x4)] [.int xs1, .int xs0] h q := by
  refine qe_icmp_ne_F (t := 59) c122_45 rfl e1 ?_
  exact kk
theorem b122_45T {d : Nat} {q : Option Value × qH} {h : qH} {r0 : Nat} {x1 : Int32} {x2 : Int32} {x3 : Int32} {x4 : Int32} {xs0 : Int32} {xs1 : Int32}  (e1 : ¬ ((xs0 : Int32) = xs1)) (kk : qE d 122 59 [some (.ref r0), some (.int x1), some (.int x2), some (.int x3), some (.int x4)] [] h q): qE d 122 45 [some (.ref r0), some (.int x1), some (.int x2), some (.int x3), some (.int x4)] [.int xs1, .int xs0] h q := by
  refine qe_icmp_ne_T (t := 59) c122_45 rfl e1 ?_
  exact kk
theorem b122_48F {d : Nat} {q : Option Value × qH} {h : qH} {r0 : Nat} {x1 : Int32} {x2 : Int32} {x3 : Int32} {x4 : Int32} {fs1 : List Value} {h1 : qH} {z3 : Int32}  (e2 : h.2.2 r0 = some (.inr (12, fs1))) (e4 : qCall d 121 [.ref r0, .int x4] h ((some (.int z3)), h1)) (e5 : ¬ ((z3 : Int32) = 0)) (kk : qE d 122 57 [some (.ref r0), some (.int x1), some (.int x2), some (.int x3), some (.int x4)] [] h1 q): qE d 122 48 [some (.ref r0), some (.int x1), some (.int x2), some (.int x3), some (.int x4)] [] h q := by
  refine qe_aload_n c122_48 rfl ?_
  refine qe_iload c122_49 rfl ?_
  refine qe_virtual (b := r0) (as := [.int x4]) (r := []) (v := (some (.int z3))) (h2 := h1) c122_51 qo122 qK12_421 rfl rfl rfl (by rw [qo121]; exact e2) (Nat.le_of_ble_eq_true rfl) e4 ?_
  refine qe_if_eq_F (t := 59) c122_54 rfl e5 ?_
  exact kk
theorem b122_48T {d : Nat} {q : Option Value × qH} {h : qH} {r0 : Nat} {x1 : Int32} {x2 : Int32} {x3 : Int32} {x4 : Int32} {fs1 : List Value} {h1 : qH} {z3 : Int32}  (e2 : h.2.2 r0 = some (.inr (12, fs1))) (e4 : qCall d 121 [.ref r0, .int x4] h ((some (.int z3)), h1)) (e5 : (z3 : Int32) = 0) (kk : qE d 122 59 [some (.ref r0), some (.int x1), some (.int x2), some (.int x3), some (.int x4)] [] h1 q): qE d 122 48 [some (.ref r0), some (.int x1), some (.int x2), some (.int x3), some (.int x4)] [] h q := by
  refine qe_aload_n c122_48 rfl ?_
  refine qe_iload c122_49 rfl ?_
  refine qe_virtual (b := r0) (as := [.int x4]) (r := []) (v := (some (.int z3))) (h2 := h1) c122_51 qo122 qK12_421 rfl rfl rfl (by rw [qo121]; exact e2) (Nat.le_of_ble_eq_true rfl) e4 ?_
  refine qe_if_eq_T (t := 59) c122_54 rfl e5 ?_
  exact kk
theorem b122_57 {d : Nat} {h : qH} {r0 : Nat} {x1 : Int32} {x2 : Int32} {x3 : Int32} {x4 : Int32}   : qE d 122 57 [some (.ref r0), some (.int x1), some (.int x2), some (.int x3), some (.int x4)] [] h (some (.int 1), h) := by
  refine qe_iconst (x := 1) c122_57 (by decide) ?_
  exact qe_zret c122_58 qr122 (by decide)
theorem b122_59 {d : Nat} {q : Option Value × qH} {h : qH} {r0 : Nat} {x1 : Int32} {x2 : Int32} {x3 : Int32} {x4 : Int32}   (kk : qE d 122 18 [some (.ref r0), some (.int x1), some (.int x2), some (.int x3), some (.int (x4 + 1))] [] h q): qE d 122 59 [some (.ref r0), some (.int x1), some (.int x2), some (.int x3), some (.int x4)] [] h q := by
  refine qe_iinc (y := (x4 + 1)) (ls2 := [some (.ref r0), some (.int x1), some (.int x2), some (.int x3), some (.int (x4 + 1))]) c122_59 rfl (Nat.le_of_ble_eq_true rfl) rfl rfl ?_
  refine qe_goto (t := 18) c122_62 rfl ?_
  exact kk
theorem b122_65 {d : Nat} {h : qH} {r0 : Nat} {x1 : Int32} {x2 : Int32} {x3 : Int32} {x4 : Int32}   : qE d 122 65 [some (.ref r0), some (.int x1), some (.int x2), some (.int x3), some (.int x4)] [] h (some (.int 0), h) := by
  refine qe_iconst (x := 0) c122_65 (by decide) ?_
  exact qe_zret c122_66 qr122 (by decide)
theorem b123_0 {d : Nat} {q : Option Value × qH} {h : qH} {r0 : Nat} {h1 : qH} {fs2 : List Value} {h2 : qH} {h3 : qH} {fs7 : List Value} {h4 : qH} {h5 : qH} {fs12 : List Value} {h6 : qH} {h7 : qH} {fs17 : List Value} {h8 : qH} {h9 : qH} {fs22 : List Value} {h10 : qH} {h11 : qH} {fs27 : List Value} {h12 : qH} {h13 : qH} {fs32 : List Value} {h14 : qH} {h15 : qH} {fs37 : List Value} {h16 : qH} {h17 : qH} {fs42 : List Value} {h18 : qH} {h19 : qH} {fs47 : List Value} {h20 : qH} {h21 : qH} {fs52 : List Value} {h22 : qH} {h23 : qH} {fs57 : List Value} {h24 : qH} {h25 : qH} {fs62 : List Value} {h26 : qH} {h27 : qH} {fs67 : List Value} {h28 : qH} {h29 : qH} {fs72 : List Value} {h30 : qH} {h31 : qH} {fs77 : List Value} {h32 : qH} {h33 : qH} {fs82 : List Value} {h34 : qH} {h35 : qH} {fs87 : List Value} {h36 : qH} {h37 : qH} {fs92 : List Value} {h38 : qH} {h39 : qH} {fs97 : List Value} {h40 : qH} {h41 : qH} {fs102 : List Value} {h42 : qH} {h43 : qH} {fs107 : List Value} {h44 : qH} {h45 : qH} {fs112 : List Value} {h46 : qH} {h47 : qH} {fs117 : List Value} {h48 : qH} {h49 : qH} {fs122 : List Value} {h50 : qH} {h51 : qH} {fs127 : List Value} {h52 : qH} {h53 : qH} {fs132 : List Value} {h54 : qH} {h55 : qH} {fs137 : List Value} {h56 : qH} {h57 : qH} {fs142 : List Value} {h58 : qH} {h59 : qH} {fs147 : List Value} {h60 : qH} {h61 : qH} {fs152 : List Value} {h62 : qH} {h63 : qH} {fs157 : List Value} {h64 : qH} {h65 : qH} {fs162 : List Value} {h66 : qH} {h67 : qH} {fs167 : List Value} {h68 : qH} {h69 : qH} {fs172 : List Value} {h70 : qH} {h71 : qH} {fs177 : List Value} {h72 : qH} {h73 : qH} {fs182 : List Value} {h74 : qH} {h75 : qH} {fs187 : List Value} {h76 : qH} {h77 : qH} {fs192 : List Value} {h78 : qH} {h79 : qH} {fs197 : List Value} {h80 : qH} {h81 : qH} {fs202 : List Value} {h82 : qH} {h83 : qH} {fs207 : List Value} {h84 : qH} {h85 : qH} {fs212 : List Value} {h86 : qH} {h87 : qH} {fs217 : List Value} {h88 : qH} {h89 : qH} {fs222 : List Value} {h90 : qH} {h91 : qH} {fs227 : List Value} {h92 : qH} {h93 : qH} {fs232 : List Value} {h94 : qH} {h95 : qH} {fs237 : List Value} {h96 : qH} {h97 : qH} {fs242 : List Value} {h98 : qH} {h99 : qH} {fs247 : List Value} {h100 : qH} {h101 : qH} {fs252 : List Value} {h102 : qH} {h103 : qH} {fs257 : List Value} {h104 : qH} {h105 : qH} {fs262 : List Value} {h106 : qH} {h107 : qH} {fs267 : List Value} {h108 : qH} {h109 : qH} {fs272 : List Value} {h110 : qH} {h111 : qH} {fs277 : List Value} {h112 : qH} {h113 : qH} {fs282 : List Value} {h114 : qH} {fs286 : List Value} {y288 : Nat} {n290 : Nat} {f291 : Nat → Int32} {h115 : qH} (hd0 : 0 < d) (e1 : qnew h 200 (.inl (3, 200, .inl fun _ => 0)) = h1) (e3 : h1.2.2 r0 = some (.inr (12, fs2))) (e4 : 0 < fs2.length) (e5 : qset h1 r0 (.inr (12, fs2.set 0 (.ref h.1))) = h2) (e6 : qnew h2 36400 (.inl (0, 36400, .inl fun _ => 0)) = h3) (e8 : h3.2.2 r0 = some (.inr (12, fs7))) (e9 : 10 < fs7.length) (e10 : qset h3 r0 (.inr (12, fs7.set 10 (.ref h2.1))) = h4) (e11 : qnew h4 8 (.inl (0, 8, .inl fun _ => 0)) = h5) (e13 : h5.2.2 r0 = some (.inr (12, fs12))) (e14 : 11 < fs12.length) (e15 : qset h5 r0 (.inr (12, fs12.set 11 (.ref h4.1))) = h6) (e16 : qnew h6 8 (.inl (0, 8, .inl fun _ => 0)) = h7) (e18 : h7.2.2 r0 = some (.inr (12, fs17))) (e19 : 12 < fs17.length) (e20 : qset h7 r0 (.inr (12, fs17.set 12 (.ref h6.1))) = h8) (e21 : qnew h8 14 (.inl (0, 14, .inl fun _ => 0)) = h9) (e23 : h9.2.2 r0 = some (.inr (12, fs22))) (e24 : 13 < fs22.length) (e25 : qset h9 r0 (.inr (12, fs22.set 13 (.ref h8.1))) = h10) (e26 : qnew h10 14 (.inl (0, 14, .inl fun _ => 0)) = h11) (e28 : h11.2.2 r0 = some (.inr (12, fs27))) (e29 : 14 < fs27.length) (e30 : qset h11 r0 (.inr (12, fs27.set 14 (.ref h10.1))) = h12) (e31 : qnew h12 14 (.inl (0, 14, .inl fun _ => 0)) = h13) (e33 : h13.2.2 r0 = some (.inr (12, fs32))) (e34 : 15 < fs32.length) (e35 : qset h13 r0 (.inr (12, fs32.set 15 (.ref h12.1))) = h14) (e36 : qnew h14 14 (.inl (0, 14, .inl fun _ => 0)) = h15) (e38 : h15.2.2 r0 = some (.inr (12, fs37))) (e39 : 16 < fs37.length) (e40 : qset h15 r0 (.inr (12, fs37.set 16 (.ref h14.1))) = h16) (e41 : qnew h16 14 (.inl (0, 14, .inl fun _ => 0)) = h17) (e43 : h17.2.2 r0 = some (.inr (12, fs42))) (e44 : 17 < fs42.length) (e45 : qset h17 r0 (.inr (12, fs42.set 17 (.ref h16.1))) = h18) (e46 : qnew h18 14 (.inl (0, 14, .inl fun _ => 0)) = h19) (e48 : h19.2.2 r0 = some (.inr (12, fs47))) (e49 : 18 < fs47.length) (e50 : qset h19 r0 (.inr (12, fs47.set 18 (.ref h18.1))) = h20) (e51 : qnew h20 9 (.inl (0, 9, .inl fun _ => 0)) = h21) (e53 : h21.2.2 r0 = some (.inr (12, fs52))) (e54 : 19 < fs52.length) (e55 : qset h21 r0 (.inr (12, fs52.set 19 (.ref h20.1))) = h22) (e56 : qnew h22 9 (.inl (0, 9, .inl fun _ => 0)) = h23) (e58 : h23.2.2 r0 = some (.inr (12, fs57))) (e59 : 20 < fs57.length) (e60 : qset h23 r0 (.inr (12, fs57.set 20 (.ref h22.1))) = h24) (e61 : qnew h24 9 (.inl (0, 9, .inl fun _ => 0)) = h25) (e63 : h25.2.2 r0 = some (.inr (12, fs62))) (e64 : 21 < fs62.length) (e65 : qset h25 r0 (.inr (12, fs62.set 21 (.ref h24.1))) = h26) (e66 : qnew h26 9 (.inl (1, 9, .inl fun _ => 0)) = h27) (e68 : h27.2.2 r0 = some (.inr (12, fs67))) (e69 : 22 < fs67.length) (e70 : qset h27 r0 (.inr (12, fs67.set 22 (.ref h26.1))) = h28) (e71 : qnew h28 9 (.inl (0, 9, .inl fun _ => 0)) = h29) (e73 : h29.2.2 r0 = some (.inr (12, fs72))) (e74 : 23 < fs72.length) (e75 : qset h29 r0 (.inr (12, fs72.set 23 (.ref h28.1))) = h30) (e76 : qnew h30 8 (.inl (0, 8, .inl fun _ => 0)) = h31) (e78 : h31.2.2 r0 = some (.inr (12, fs77))) (e79 : 24 < fs77.length) (e80 : qset h31 r0 (.inr (12, fs77.set 24 (.ref h30.1))) = h32) (e81 : qnew h32 9 (.inl (0, 9, .inl fun _ => 0)) = h33) (e83 : h33.2.2 r0 = some (.inr (12, fs82))) (e84 : 25 < fs82.length) (e85 : qset h33 r0 (.inr (12, fs82.set 25 (.ref h32.1))) = h34) (e86 : qnew h34 8 (.inl (0, 8, .inl fun _ => 0)) = h35) (e88 : h35.2.2 r0 = some (.inr (12, fs87))) (e89 : 26 < fs87.length) (e90 : qset h35 r0 (.inr (12, fs87.set 26 (.ref h34.1))) = h36) (e91 : qnew h36 14 (.inl (2, 14, .inr (.inl fun _ => 0))) = h37) (e93 : h37.2.2 r0 = some (.inr (12, fs92))) (e94 : 27 < fs92.length) (e95 : qset h37 r0 (.inr (12, fs92.set 27 (.ref h36.1))) = h38) (e96 : qnew h38 14 (.inl (2, 14, .inr (.inl fun _ => 0))) = h39) (e98 : h39.2.2 r0 = some (.inr (12, fs97))) (e99 : 28 < fs97.length) (e100 : qset h39 r0 (.inr (12, fs97.set 28 (.ref h38.1))) = h40) (e101 : qnew h40 8 (.inl (0, 8, .inl fun _ => 0)) = h41) (e103 : h41.2.2 r0 = some (.inr (12, fs102))) (e104 : 30 < fs102.length) (e105 : qset h41 r0 (.inr (12, fs102.set 30 (.ref h40.1))) = h42) (e106 : qnew h42 98 (.inl (2, 98, .inr (.inl fun _ => 0))) = h43) (e108 : h43.2.2 r0 = some (.inr (12, fs107))) (e109 : 31 < fs107.length) (e110 : qset h43 r0 (.inr (12, fs107.set 31 (.ref h42.1))) = h44) (e111 : qnew h44 8 (.inl (0, 8, .inl fun _ => 0)) = h45) (e113 : h45.2.2 r0 = some (.inr (12, fs112))) (e114 : 32 < fs112.length) (e115 : qset h45 r0 (.inr (12, fs112.set 32 (.ref h44.1))) = h46) (e116 : qnew h46 8 (.inl (2, 8, .inr (.inl fun _ => 0))) = h47) (e118 : h47.2.2 r0 = some (.inr (12, fs117))) (e119 : 33 < fs117.length) (e120 : qset h47 r0 (.inr (12, fs117.set 33 (.ref h46.1))) = h48) (e121 : qnew h48 12 (.inl (0, 12, .inl fun _ => 0)) = h49) (e123 : h49.2.2 r0 = some (.inr (12, fs122))) (e124 : 34 < fs122.length) (e125 : qset h49 r0 (.inr (12, fs122.set 34 (.ref h48.1))) = h50) (e126 : qnew h50 12 (.inl (0, 12, .inl fun _ => 0)) = h51) (e128 : h51.2.2 r0 = some (.inr (12, fs127))) (e129 : 35 < fs127.length) (e130 : qset h51 r0 (.inr (12, fs127.set 35 (.ref h50.1))) = h52) (e131 : qnew h52 12 (.inl (0, 12, .inl fun _ => 0)) = h53) (e133 : h53.2.2 r0 = some (.inr (12, fs132))) (e134 : 36 < fs132.length) (e135 : qset h53 r0 (.inr (12, fs132.set 36 (.ref h52.1))) = h54) (e136 : qnew h54 160 (.inl (0, 160, .inl fun _ => 0)) = h55) (e138 : h55.2.2 r0 = some (.inr (12, fs137))) (e139 : 37 < fs137.length) (e140 : qset h55 r0 (.inr (12, fs137.set 37 (.ref h54.1))) = h56) (e141 : qnew h56 160 (.inl (0, 160, .inl fun _ => 0)) = h57) (e143 : h57.2.2 r0 = some (.inr (12, fs142))) (e144 : 38 < fs142.length) (e145 : qset h57 r0 (.inr (12, fs142.set 38 (.ref h56.1))) = h58) (e146 : qnew h58 12 (.inl (0, 12, .inl fun _ => 0)) = h59) (e148 : h59.2.2 r0 = some (.inr (12, fs147))) (e149 : 39 < fs147.length) (e150 : qset h59 r0 (.inr (12, fs147.set 39 (.ref h58.1))) = h60) (e151 : qnew h60 12 (.inl (0, 12, .inl fun _ => 0)) = h61) (e153 : h61.2.2 r0 = some (.inr (12, fs152))) (e154 : 40 < fs152.length) (e155 : qset h61 r0 (.inr (12, fs152.set 40 (.ref h60.1))) = h62) (e156 : qnew h62 12 (.inl (0, 12, .inl fun _ => 0)) = h63) (e158 : h63.2.2 r0 = some (.inr (12, fs157))) (e159 : 41 < fs157.length) (e160 : qset h63 r0 (.inr (12, fs157.set 41 (.ref h62.1))) = h64) (e161 : qnew h64 160 (.inl (0, 160, .inl fun _ => 0)) = h65) (e163 : h65.2.2 r0 = some (.inr (12, fs162))) (e164 : 42 < fs162.length) (e165 : qset h65 r0 (.inr (12, fs162.set 42 (.ref h64.1))) = h66) (e166 : qnew h66 160 (.inl (0, 160, .inl fun _ => 0)) = h67) (e168 : h67.2.2 r0 = some (.inr (12, fs167))) (e169 : 43 < fs167.length) (e170 : qset h67 r0 (.inr (12, fs167.set 43 (.ref h66.1))) = h68) (e171 : qnew h68 200 (.inl (0, 200, .inl fun _ => 0)) = h69) (e173 : h69.2.2 r0 = some (.inr (12, fs172))) (e174 : 53 < fs172.length) (e175 : qset h69 r0 (.inr (12, fs172.set 53 (.ref h68.1))) = h70) (e176 : qnew h70 200 (.inl (2, 200, .inr (.inl fun _ => 0))) = h71) (e178 : h71.2.2 r0 = some (.inr (12, fs177))) (e179 : 57 < fs177.length) (e180 : qset h71 r0 (.inr (12, fs177.set 57 (.ref h70.1))) = h72) (e181 : qnew h72 200 (.inl (1, 200, .inl fun _ => 0)) = h73) (e183 : h73.2.2 r0 = some (.inr (12, fs182))) (e184 : 58 < fs182.length) (e185 : qset h73 r0 (.inr (12, fs182.set 58 (.ref h72.1))) = h74) (e186 : qnew h74 64 (.inl (0, 64, .inl fun _ => 0)) = h75) (e188 : h75.2.2 r0 = some (.inr (12, fs187))) (e189 : 60 < fs187.length) (e190 : qset h75 r0 (.inr (12, fs187.set 60 (.ref h74.1))) = h76) (e191 : qnew h76 64 (.inl (0, 64, .inl fun _ => 0)) = h77) (e193 : h77.2.2 r0 = some (.inr (12, fs192))) (e194 : 61 < fs192.length) (e195 : qset h77 r0 (.inr (12, fs192.set 61 (.ref h76.1))) = h78) (e196 : qnew h78 500 (.inl (0, 500, .inl fun _ => 0)) = h79) (e198 : h79.2.2 r0 = some (.inr (12, fs197))) (e199 : 62 < fs197.length) (e200 : qset h79 r0 (.inr (12, fs197.set 62 (.ref h78.1))) = h80) (e201 : qnew h80 7000 (.inl (0, 7000, .inl fun _ => 0)) = h81) (e203 : h81.2.2 r0 = some (.inr (12, fs202))) (e204 : 63 < fs202.length) (e205 : qset h81 r0 (.inr (12, fs202.set 63 (.ref h80.1))) = h82) (e206 : qnew h82 7000 (.inl (1, 7000, .inl fun _ => 0)) = h83) (e208 : h83.2.2 r0 = some (.inr (12, fs207))) (e209 : 64 < fs207.length) (e210 : qset h83 r0 (.inr (12, fs207.set 64 (.ref h82.1))) = h84) (e211 : qnew h84 400 (.inl (0, 400, .inl fun _ => 0)) = h85) (e213 : h85.2.2 r0 = some (.inr (12, fs212))) (e214 : 65 < fs212.length) (e215 : qset h85 r0 (.inr (12, fs212.set 65 (.ref h84.1))) = h86) (e216 : qnew h86 400 (.inl (0, 400, .inl fun _ => 0)) = h87) (e218 : h87.2.2 r0 = some (.inr (12, fs217))) (e219 : 66 < fs217.length) (e220 : qset h87 r0 (.inr (12, fs217.set 66 (.ref h86.1))) = h88) (e221 : qnew h88 400 (.inl (0, 400, .inl fun _ => 0)) = h89) (e223 : h89.2.2 r0 = some (.inr (12, fs222))) (e224 : 67 < fs222.length) (e225 : qset h89 r0 (.inr (12, fs222.set 67 (.ref h88.1))) = h90) (e226 : qnew h90 4 (.inl (1, 4, .inl fun _ => 0)) = h91) (e228 : h91.2.2 r0 = some (.inr (12, fs227))) (e229 : 68 < fs227.length) (e230 : qset h91 r0 (.inr (12, fs227.set 68 (.ref h90.1))) = h92) (e231 : qnew h92 4 (.inl (0, 4, .inl fun _ => 0)) = h93) (e233 : h93.2.2 r0 = some (.inr (12, fs232))) (e234 : 69 < fs232.length) (e235 : qset h93 r0 (.inr (12, fs232.set 69 (.ref h92.1))) = h94) (e236 : qnew h94 4 (.inl (0, 4, .inl fun _ => 0)) = h95) (e238 : h95.2.2 r0 = some (.inr (12, fs237))) (e239 : 70 < fs237.length) (e240 : qset h95 r0 (.inr (12, fs237.set 70 (.ref h94.1))) = h96) (e241 : qnew h96 4 (.inl (0, 4, .inl fun _ => 0)) = h97) (e243 : h97.2.2 r0 = some (.inr (12, fs242))) (e244 : 71 < fs242.length) (e245 : qset h97 r0 (.inr (12, fs242.set 71 (.ref h96.1))) = h98) (e246 : qnew h98 4 (.inl (0, 4, .inl fun _ => 0)) = h99) (e248 : h99.2.2 r0 = some (.inr (12, fs247))) (e249 : 72 < fs247.length) (e250 : qset h99 r0 (.inr (12, fs247.set 72 (.ref h98.1))) = h100) (e251 : qnew h100 40 (.inl (0, 40, .inl fun _ => 0)) = h101) (e253 : h101.2.2 r0 = some (.inr (12, fs252))) (e254 : 73 < fs252.length) (e255 : qset h101 r0 (.inr (12, fs252.set 73 (.ref h100.1))) = h102) (e256 : qnew h102 40 (.inl (0, 40, .inl fun _ => 0)) = h103) (e258 : h103.2.2 r0 = some (.inr (12, fs257))) (e259 : 74 < fs257.length) (e260 : qset h103 r0 (.inr (12, fs257.set 74 (.ref h102.1))) = h104) (e261 : qnew h104 100 (.inl (0, 100, .inl fun _ => 0)) = h105) (e263 : h105.2.2 r0 = some (.inr (12, fs262))) (e264 : 75 < fs262.length) (e265 : qset h105 r0 (.inr (12, fs262.set 75 (.ref h104.1))) = h106) (e266 : qnew h106 100 (.inl (0, 100, .inl fun _ => 0)) = h107) (e268 : h107.2.2 r0 = some (.inr (12, fs267))) (e269 : 76 < fs267.length) (e270 : qset h107 r0 (.inr (12, fs267.set 76 (.ref h106.1))) = h108) (e271 : qnew h108 25 (.inl (0, 25, .inl fun _ => 0)) = h109) (e273 : h109.2.2 r0 = some (.inr (12, fs272))) (e274 : 77 < fs272.length) (e275 : qset h109 r0 (.inr (12, fs272.set 77 (.ref h108.1))) = h110) (e276 : qnew h110 512 (.inl (2, 512, .inr (.inl fun _ => 0))) = h111) (e278 : h111.2.2 r0 = some (.inr (12, fs277))) (e279 : 78 < fs277.length) (e280 : qset h111 r0 (.inr (12, fs277.set 78 (.ref h110.1))) = h112) (e281 : qnew h112 8 (.inl (0, 8, .inl fun _ => 0)) = h113) (e283 : h113.2.2 r0 = some (.inr (12, fs282))) (e284 : 79 < fs282.length) (e285 : qset h113 r0 (.inr (12, fs282.set 79 (.ref h112.1))) = h114) (e287 : h114.2.2 r0 = some (.inr (12, fs286))) (e289 : fs286[10]? = some (.ref y288)) (e292 : h114.2.2 y288 = some (.inl (0, n290, .inl f291))) (e293 : 0 ≤ (36069 : Int32).toInt ∧ (36069 : Int32).toInt < (n290 : Nat)) (e294 : qset h114 y288 (.inl (0, n290, .inl (upd f291 ((36069 : Int32).toNatClampNeg) 100))) = h115) (kk : qE d 123 481 [some (.ref r0), some (.int 0)] [] h115 q): qE d 123 0 [some (.ref r0), none] [] h q := by
  refine qe_aload_n c123_0 rfl ?_
  refine qe_objinit c123_1 qo123 (by decide +kernel) (by decide) hd0 (Nat.le_of_ble_eq_true rfl) ?_
  refine qe_aload_n c123_4 rfl ?_
  refine qe_sipush (x := 200) c123_5 (by decide) ?_
  refine qe_new_byte c123_8 (by decide) ?_
  rw [show Int32.toNatClampNeg 200 = 200 from by decide]
  rw [e1]
  refine qe_putfinal c123_10 qo123 qF12_7 (by decide +kernel) e3 e4 (by rw [qy12_0]; rfl) ?_
  rw [e5]
  refine qe_aload_n c123_13 rfl ?_
  refine qe_ldc (x := 36400) c123_14 qo123 qI12_13 ?_
  refine qe_new_int c123_16 (by decide) ?_
  rw [show Int32.toNatClampNeg 36400 = 36400 from by decide]
  rw [e6]
  refine qe_putfinal c123_18 qo123 qF12_14 (by decide +kernel) e8 e9 (by rw [qy12_10]; rfl) ?_
  rw [e10]
  refine qe_aload_n c123_21 rfl ?_
  refine qe_bipush (x := 8) c123_22 (by decide) ?_
  refine qe_new_int c123_24 (by decide) ?_
  rw [show Int32.toNatClampNeg 8 = 8 from by decide]
  rw [e11]
  refine qe_putfinal c123_26 qo123 qF12_18 (by decide +kernel) e13 e14 (by rw [qy12_11]; rfl) ?_
  rw [e15]
  refine qe_aload_n c123_29 rfl ?_
  refine qe_bipush (x := 8) c123_30 (by decide) ?_
  refine qe_new_int c123_32 (by decide) ?_
  rw [show Int32.toNatClampNeg 8 = 8 from by decide]
  rw [e16]
  refine qe_putfinal c123_34 qo123 qF12_21 (by decide +kernel) e18 e19 (by rw [qy12_12]; rfl) ?_
  rw [e20]
  refine qe_aload_n c123_37 rfl ?_
  refine qe_bipush (x := 14) c123_38 (by decide) ?_
  refine qe_new_int c123_40 (by decide) ?_
  rw [show Int32.toNatClampNeg 14 = 14 from by decide]
  rw [e21]
  refine qe_putfinal c123_42 qo123 qF12_24 (by decide +kernel) e23 e24 (by rw [qy12_13]; rfl) ?_
  rw [e25]
  refine qe_aload_n c123_45 rfl ?_
  refine qe_bipush (x := 14) c123_46 (by decide) ?_
  refine qe_new_int c123_48 (by decide) ?_
  rw [show Int32.toNatClampNeg 14 = 14 from by decide]
  rw [e26]
  refine qe_putfinal c123_50 qo123 qF12_27 (by decide +kernel) e28 e29 (by rw [qy12_14]; rfl) ?_
  rw [e30]
  refine qe_aload_n c123_53 rfl ?_
  refine qe_bipush (x := 14) c123_54 (by decide) ?_
  refine qe_new_int c123_56 (by decide) ?_
  rw [show Int32.toNatClampNeg 14 = 14 from by decide]
  rw [e31]
  refine qe_putfinal c123_58 qo123 qF12_30 (by decide +kernel) e33 e34 (by rw [qy12_15]; rfl) ?_
  rw [e35]
  refine qe_aload_n c123_61 rfl ?_
  refine qe_bipush (x := 14) c123_62 (by decide) ?_
  refine qe_new_int c123_64 (by decide) ?_
  rw [show Int32.toNatClampNeg 14 = 14 from by decide]
  rw [e36]
  refine qe_putfinal c123_66 qo123 qF12_33 (by decide +kernel) e38 e39 (by rw [qy12_16]; rfl) ?_
  rw [e40]
  refine qe_aload_n c123_69 rfl ?_
  refine qe_bipush (x := 14) c123_70 (by decide) ?_
  refine qe_new_int c123_72 (by decide) ?_
  rw [show Int32.toNatClampNeg 14 = 14 from by decide]
  rw [e41]
  refine qe_putfinal c123_74 qo123 qF12_36 (by decide +kernel) e43 e44 (by rw [qy12_17]; rfl) ?_
  rw [e45]
  refine qe_aload_n c123_77 rfl ?_
  refine qe_bipush (x := 14) c123_78 (by decide) ?_
  refine qe_new_int c123_80 (by decide) ?_
  rw [show Int32.toNatClampNeg 14 = 14 from by decide]
  rw [e46]
  refine qe_putfinal c123_82 qo123 qF12_39 (by decide +kernel) e48 e49 (by rw [qy12_18]; rfl) ?_
  rw [e50]
  refine qe_aload_n c123_85 rfl ?_
  refine qe_bipush (x := 9) c123_86 (by decide) ?_
  refine qe_new_int c123_88 (by decide) ?_
  rw [show Int32.toNatClampNeg 9 = 9 from by decide]
  rw [e51]
  refine qe_putfinal c123_90 qo123 qF12_42 (by decide +kernel) e53 e54 (by rw [qy12_19]; rfl) ?_
  rw [e55]
  refine qe_aload_n c123_93 rfl ?_
  refine qe_bipush (x := 9) c123_94 (by decide) ?_
  refine qe_new_int c123_96 (by decide) ?_
  rw [show Int32.toNatClampNeg 9 = 9 from by decide]
  rw [e56]
  refine qe_putfinal c123_98 qo123 qF12_45 (by decide +kernel) e58 e59 (by rw [qy12_20]; rfl) ?_
  rw [e60]
  refine qe_aload_n c123_101 rfl ?_
  refine qe_bipush (x := 9) c123_102 (by decide) ?_
  refine qe_new_int c123_104 (by decide) ?_
  rw [show Int32.toNatClampNeg 9 = 9 from by decide]
  rw [e61]
  refine qe_putfinal c123_106 qo123 qF12_48 (by decide +kernel) e63 e64 (by rw [qy12_21]; rfl) ?_
  rw [e65]
  refine qe_aload_n c123_109 rfl ?_
  refine qe_bipush (x := 9) c123_110 (by decide) ?_
  refine qe_new_boolean c123_112 (by decide) ?_
  rw [show Int32.toNatClampNeg 9 = 9 from by decide]
  rw [e66]
  refine qe_putfinal c123_114 qo123 qF12_51 (by decide +kernel) e68 e69 (by rw [qy12_22]; rfl) ?_
  rw [e70]
  refine qe_aload_n c123_117 rfl ?_
  refine qe_bipush (x := 9) c123_118 (by decide) ?_
  refine qe_new_int c123_120 (by decide) ?_
  rw [show Int32.toNatClampNeg 9 = 9 from by decide]
  rw [e71]
  refine qe_putfinal c123_122 qo123 qF12_55 (by decide +kernel) e73 e74 (by rw [qy12_23]; rfl) ?_
  rw [e75]
  refine qe_aload_n c123_125 rfl ?_
  refine qe_bipush (x := 8) c123_126 (by decide) ?_
  refine qe_new_int c123_128 (by decide) ?_
  rw [show Int32.toNatClampNeg 8 = 8 from by decide]
  rw [e76]
  refine qe_putfinal c123_130 qo123 qF12_58 (by decide +kernel) e78 e79 (by rw [qy12_24]; rfl) ?_
  rw [e80]
  refine qe_aload_n c123_133 rfl ?_
  refine qe_bipush (x := 9) c123_134 (by decide) ?_
  refine qe_new_int c123_136 (by decide) ?_
  rw [show Int32.toNatClampNeg 9 = 9 from by decide]
  rw [e81]
  refine qe_putfinal c123_138 qo123 qF12_61 (by decide +kernel) e83 e84 (by rw [qy12_25]; rfl) ?_
  rw [e85]
  refine qe_aload_n c123_141 rfl ?_
  refine qe_bipush (x := 8) c123_142 (by decide) ?_
  refine qe_new_int c123_144 (by decide) ?_
  rw [show Int32.toNatClampNeg 8 = 8 from by decide]
  rw [e86]
  refine qe_putfinal c123_146 qo123 qF12_64 (by decide +kernel) e88 e89 (by rw [qy12_26]; rfl) ?_
  rw [e90]
  refine qe_aload_n c123_149 rfl ?_
  refine qe_bipush (x := 14) c123_150 (by decide) ?_
  refine qe_new_long c123_152 (by decide) ?_
  rw [show Int32.toNatClampNeg 14 = 14 from by decide]
  rw [e91]
  refine qe_putfinal c123_154 qo123 qF12_67 (by decide +kernel) e93 e94 (by rw [qy12_27]; rfl) ?_
  rw [e95]
  refine qe_aload_n c123_157 rfl ?_
  refine qe_bipush (x := 14) c123_158 (by decide) ?_
  refine qe_new_long c123_160 (by decide) ?_
  rw [show Int32.toNatClampNeg 14 = 14 from by decide]
  rw [e96]
  refine qe_putfinal c123_162 qo123 qF12_71 (by decide +kernel) e98 e99 (by rw [qy12_28]; rfl) ?_
  rw [e100]
  refine qe_aload_n c123_165 rfl ?_
  refine qe_bipush (x := 8) c123_166 (by decide) ?_
  refine qe_new_int c123_168 (by decide) ?_
  rw [show Int32.toNatClampNeg 8 = 8 from by decide]
  rw [e101]
  refine qe_putfinal c123_170 qo123 qF12_74 (by decide +kernel) e103 e104 (by rw [qy12_30]; rfl) ?_
  rw [e105]
  refine qe_aload_n c123_173 rfl ?_
  refine qe_bipush (x := 98) c123_174 (by decide) ?_
  refine qe_new_long c123_176 (by decide) ?_
  rw [show Int32.toNatClampNeg 98 = 98 from by decide]
  rw [e106]
  refine qe_putfinal c123_178 qo123 qF12_77 (by decide +kernel) e108 e109 (by rw [qy12_31]; rfl) ?_
  rw [e110]
  refine qe_aload_n c123_181 rfl ?_
  refine qe_bipush (x := 8) c123_182 (by decide) ?_
  refine qe_new_int c123_184 (by decide) ?_
  rw [show Int32.toNatClampNeg 8 = 8 from by decide]
  rw [e111]
  refine qe_putfinal c123_186 qo123 qF12_80 (by decide +kernel) e113 e114 (by rw [qy12_32]; rfl) ?_
  rw [e115]
  refine qe_aload_n c123_189 rfl ?_
  refine qe_bipush (x := 8) c123_190 (by decide) ?_
  refine qe_new_long c123_192 (by decide) ?_
  rw [show Int32.toNatClampNeg 8 = 8 from by decide]
  rw [e116]
  refine qe_putfinal c123_194 qo123 qF12_83 (by decide +kernel) e118 e119 (by rw [qy12_33]; rfl) ?_
  rw [e120]
  refine qe_aload_n c123_197 rfl ?_
  refine qe_bipush (x := 12) c123_198 (by decide) ?_
  refine qe_new_int c123_200 (by decide) ?_
  rw [show Int32.toNatClampNeg 12 = 12 from by decide]
  rw [e121]
  refine qe_putfinal c123_202 qo123 qF12_86 (by decide +kernel) e123 e124 (by rw [qy12_34]; rfl) ?_
  rw [e125]
  refine qe_aload_n c123_205 rfl ?_
  refine qe_bipush (x := 12) c123_206 (by decide) ?_
  refine qe_new_int c123_208 (by decide) ?_
  rw [show Int32.toNatClampNeg 12 = 12 from by decide]
  rw [e126]
  refine qe_putfinal c123_210 qo123 qF12_89 (by decide +kernel) e128 e129 (by rw [qy12_35]; rfl) ?_
  rw [e130]
  refine qe_aload_n c123_213 rfl ?_
  refine qe_bipush (x := 12) c123_214 (by decide) ?_
  refine qe_new_int c123_216 (by decide) ?_
  rw [show Int32.toNatClampNeg 12 = 12 from by decide]
  rw [e131]
  refine qe_putfinal c123_218 qo123 qF12_92 (by decide +kernel) e133 e134 (by rw [qy12_36]; rfl) ?_
  rw [e135]
  refine qe_aload_n c123_221 rfl ?_
  refine qe_sipush (x := 160) c123_222 (by decide) ?_
  refine qe_new_int c123_225 (by decide) ?_
  rw [show Int32.toNatClampNeg 160 = 160 from by decide]
  rw [e136]
  refine qe_putfinal c123_227 qo123 qF12_95 (by decide +kernel) e138 e139 (by rw [qy12_37]; rfl) ?_
  rw [e140]
  refine qe_aload_n c123_230 rfl ?_
  refine qe_sipush (x := 160) c123_231 (by decide) ?_
  refine qe_new_int c123_234 (by decide) ?_
  rw [show Int32.toNatClampNeg 160 = 160 from by decide]
  rw [e141]
  refine qe_putfinal c123_236 qo123 qF12_98 (by decide +kernel) e143 e144 (by rw [qy12_38]; rfl) ?_
  rw [e145]
  refine qe_aload_n c123_239 rfl ?_
  refine qe_bipush (x := 12) c123_240 (by decide) ?_
  refine qe_new_int c123_242 (by decide) ?_
  rw [show Int32.toNatClampNeg 12 = 12 from by decide]
  rw [e146]
  refine qe_putfinal c123_244 qo123 qF12_101 (by decide +kernel) e148 e149 (by rw [qy12_39]; rfl) ?_
  rw [e150]
  refine qe_aload_n c123_247 rfl ?_
  refine qe_bipush (x := 12) c123_248 (by decide) ?_
  refine qe_new_int c123_250 (by decide) ?_
  rw [show Int32.toNatClampNeg 12 = 12 from by decide]
  rw [e151]
  refine qe_putfinal c123_252 qo123 qF12_104 (by decide +kernel) e153 e154 (by rw [qy12_40]; rfl) ?_
  rw [e155]
  refine qe_aload_n c123_255 rfl ?_
  refine qe_bipush (x := 12) c123_256 (by decide) ?_
  refine qe_new_int c123_258 (by decide) ?_
  rw [show Int32.toNatClampNeg 12 = 12 from by decide]
  rw [e156]
  refine qe_putfinal c123_260 qo123 qF12_107 (by decide +kernel) e158 e159 (by rw [qy12_41]; rfl) ?_
  rw [e160]
  refine qe_aload_n c123_263 rfl ?_
  refine qe_sipush (x := 160) c123_264 (by decide) ?_
  refine qe_new_int c123_267 (by decide) ?_
  rw [show Int32.toNatClampNeg 160 = 160 from by decide]
  rw [e161]
  refine qe_putfinal c123_269 qo123 qF12_110 (by decide +kernel) e163 e164 (by rw [qy12_42]; rfl) ?_
  rw [e165]
  refine qe_aload_n c123_272 rfl ?_
  refine qe_sipush (x := 160) c123_273 (by decide) ?_
  refine qe_new_int c123_276 (by decide) ?_
  rw [show Int32.toNatClampNeg 160 = 160 from by decide]
  rw [e166]
  refine qe_putfinal c123_278 qo123 qF12_113 (by decide +kernel) e168 e169 (by rw [qy12_43]; rfl) ?_
  rw [e170]
  refine qe_aload_n c123_281 rfl ?_
  refine qe_sipush (x := 200) c123_282 (by decide) ?_
  refine qe_new_int c123_285 (by decide) ?_
  rw [show Int32.toNatClampNeg 200 = 200 from by decide]
  rw [e171]
  refine qe_putfinal c123_287 qo123 qF12_116 (by decide +kernel) e173 e174 (by rw [qy12_53]; rfl) ?_
  rw [e175]
  refine qe_aload_n c123_290 rfl ?_
  refine qe_sipush (x := 200) c123_291 (by decide) ?_
  refine qe_new_long c123_294 (by decide) ?_
  rw [show Int32.toNatClampNeg 200 = 200 from by decide]
  rw [e176]
  refine qe_putfinal c123_296 qo123 qF12_119 (by decide +kernel) e178 e179 (by rw [qy12_57]; rfl) ?_
  rw [e180]
  refine qe_aload_n c123_299 rfl ?_
  refine qe_sipush (x := 200) c123_300 (by decide) ?_
  refine qe_new_boolean c123_303 (by decide) ?_
  rw [show Int32.toNatClampNeg 200 = 200 from by decide]
  rw [e181]
  refine qe_putfinal c123_305 qo123 qF12_122 (by decide +kernel) e183 e184 (by rw [qy12_58]; rfl) ?_
  rw [e185]
  refine qe_aload_n c123_308 rfl ?_
  refine qe_bipush (x := 64) c123_309 (by decide) ?_
  refine qe_new_int c123_311 (by decide) ?_
  rw [show Int32.toNatClampNeg 64 = 64 from by decide]
  rw [e186]
  refine qe_putfinal c123_313 qo123 qF12_125 (by decide +kernel) e188 e189 (by rw [qy12_60]; rfl) ?_
  rw [e190]
  refine qe_aload_n c123_316 rfl ?_
  refine qe_bipush (x := 64) c123_317 (by decide) ?_
  refine qe_new_int c123_319 (by decide) ?_
  rw [show Int32.toNatClampNeg 64 = 64 from by decide]
  rw [e191]
  refine qe_putfinal c123_321 qo123 qF12_128 (by decide +kernel) e193 e194 (by rw [qy12_61]; rfl) ?_
  rw [e195]
  refine qe_aload_n c123_324 rfl ?_
  refine qe_sipush (x := 500) c123_325 (by decide) ?_
  refine qe_new_int c123_328 (by decide) ?_
  rw [show Int32.toNatClampNeg 500 = 500 from by decide]
  rw [e196]
  refine qe_putfinal c123_330 qo123 qF12_131 (by decide +kernel) e198 e199 (by rw [qy12_62]; rfl) ?_
  rw [e200]
  refine qe_aload_n c123_333 rfl ?_
  refine qe_sipush (x := 7000) c123_334 (by decide) ?_
  refine qe_new_int c123_337 (by decide) ?_
  rw [show Int32.toNatClampNeg 7000 = 7000 from by decide]
  rw [e201]
  refine qe_putfinal c123_339 qo123 qF12_134 (by decide +kernel) e203 e204 (by rw [qy12_63]; rfl) ?_
  rw [e205]
  refine qe_aload_n c123_342 rfl ?_
  refine qe_sipush (x := 7000) c123_343 (by decide) ?_
  refine qe_new_boolean c123_346 (by decide) ?_
  rw [show Int32.toNatClampNeg 7000 = 7000 from by decide]
  rw [e206]
  refine qe_putfinal c123_348 qo123 qF12_137 (by decide +kernel) e208 e209 (by rw [qy12_64]; rfl) ?_
  rw [e210]
  refine qe_aload_n c123_351 rfl ?_
  refine qe_sipush (x := 400) c123_352 (by decide) ?_
  refine qe_new_int c123_355 (by decide) ?_
  rw [show Int32.toNatClampNeg 400 = 400 from by decide]
  rw [e211]
  refine qe_putfinal c123_357 qo123 qF12_140 (by decide +kernel) e213 e214 (by rw [qy12_65]; rfl) ?_
  rw [e215]
  refine qe_aload_n c123_360 rfl ?_
  refine qe_sipush (x := 400) c123_361 (by decide) ?_
  refine qe_new_int c123_364 (by decide) ?_
  rw [show Int32.toNatClampNeg 400 = 400 from by decide]
  rw [e216]
  refine qe_putfinal c123_366 qo123 qF12_143 (by decide +kernel) e218 e219 (by rw [qy12_66]; rfl) ?_
  rw [e220]
  refine qe_aload_n c123_369 rfl ?_
  refine qe_sipush (x := 400) c123_370 (by decide) ?_
  refine qe_new_int c123_373 (by decide) ?_
  rw [show Int32.toNatClampNeg 400 = 400 from by decide]
  rw [e221]
  refine qe_putfinal c123_375 qo123 qF12_146 (by decide +kernel) e223 e224 (by rw [qy12_67]; rfl) ?_
  rw [e225]
  refine qe_aload_n c123_378 rfl ?_
  refine qe_iconst (x := 4) c123_379 (by decide) ?_
  refine qe_new_boolean c123_380 (by decide) ?_
  rw [show Int32.toNatClampNeg 4 = 4 from by decide]
  rw [e226]
  refine qe_putfinal c123_382 qo123 qF12_149 (by decide +kernel) e228 e229 (by rw [qy12_68]; rfl) ?_
  rw [e230]
  refine qe_aload_n c123_385 rfl ?_
  refine qe_iconst (x := 4) c123_386 (by decide) ?_
  refine qe_new_int c123_387 (by decide) ?_
  rw [show Int32.toNatClampNeg 4 = 4 from by decide]
  rw [e231]
  refine qe_putfinal c123_389 qo123 qF12_152 (by decide +kernel) e233 e234 (by rw [qy12_69]; rfl) ?_
  rw [e235]
  refine qe_aload_n c123_392 rfl ?_
  refine qe_iconst (x := 4) c123_393 (by decide) ?_
  refine qe_new_int c123_394 (by decide) ?_
  rw [show Int32.toNatClampNeg 4 = 4 from by decide]
  rw [e236]
  refine qe_putfinal c123_396 qo123 qF12_155 (by decide +kernel) e238 e239 (by rw [qy12_70]; rfl) ?_
  rw [e240]
  refine qe_aload_n c123_399 rfl ?_
  refine qe_iconst (x := 4) c123_400 (by decide) ?_
  refine qe_new_int c123_401 (by decide) ?_
  rw [show Int32.toNatClampNeg 4 = 4 from by decide]
  rw [e241]
  refine qe_putfinal c123_403 qo123 qF12_158 (by decide +kernel) e243 e244 (by rw [qy12_71]; rfl) ?_
  rw [e245]
  refine qe_aload_n c123_406 rfl ?_
  refine qe_iconst (x := 4) c123_407 (by decide) ?_
  refine qe_new_int c123_408 (by decide) ?_
  rw [show Int32.toNatClampNeg 4 = 4 from by decide]
  rw [e246]
  refine qe_putfinal c123_410 qo123 qF12_161 (by decide +kernel) e248 e249 (by rw [qy12_72]; rfl) ?_
  rw [e250]
  refine qe_aload_n c123_413 rfl ?_
  refine qe_bipush (x := 40) c123_414 (by decide) ?_
  refine qe_new_int c123_416 (by decide) ?_
  rw [show Int32.toNatClampNeg 40 = 40 from by decide]
  rw [e251]
  refine qe_putfinal c123_418 qo123 qF12_164 (by decide +kernel) e253 e254 (by rw [qy12_73]; rfl) ?_
  rw [e255]
  refine qe_aload_n c123_421 rfl ?_
  refine qe_bipush (x := 40) c123_422 (by decide) ?_
  refine qe_new_int c123_424 (by decide) ?_
  rw [show Int32.toNatClampNeg 40 = 40 from by decide]
  rw [e256]
  refine qe_putfinal c123_426 qo123 qF12_167 (by decide +kernel) e258 e259 (by rw [qy12_74]; rfl) ?_
  rw [e260]
  refine qe_aload_n c123_429 rfl ?_
  refine qe_bipush (x := 100) c123_430 (by decide) ?_
  refine qe_new_int c123_432 (by decide) ?_
  rw [show Int32.toNatClampNeg 100 = 100 from by decide]
  rw [e261]
  refine qe_putfinal c123_434 qo123 qF12_170 (by decide +kernel) e263 e264 (by rw [qy12_75]; rfl) ?_
  rw [e265]
  refine qe_aload_n c123_437 rfl ?_
  refine qe_bipush (x := 100) c123_438 (by decide) ?_
  refine qe_new_int c123_440 (by decide) ?_
  rw [show Int32.toNatClampNeg 100 = 100 from by decide]
  rw [e266]
  refine qe_putfinal c123_442 qo123 qF12_173 (by decide +kernel) e268 e269 (by rw [qy12_76]; rfl) ?_
  rw [e270]
  refine qe_aload_n c123_445 rfl ?_
  refine qe_bipush (x := 25) c123_446 (by decide) ?_
  refine qe_new_int c123_448 (by decide) ?_
  rw [show Int32.toNatClampNeg 25 = 25 from by decide]
  rw [e271]
  refine qe_putfinal c123_450 qo123 qF12_176 (by decide +kernel) e273 e274 (by rw [qy12_77]; rfl) ?_
  rw [e275]
  refine qe_aload_n c123_453 rfl ?_
  refine qe_sipush (x := 512) c123_454 (by decide) ?_
  refine qe_new_long c123_457 (by decide) ?_
  rw [show Int32.toNatClampNeg 512 = 512 from by decide]
  rw [e276]
  refine qe_putfinal c123_459 qo123 qF12_179 (by decide +kernel) e278 e279 (by rw [qy12_78]; rfl) ?_
  rw [e280]
  refine qe_aload_n c123_462 rfl ?_
  refine qe_bipush (x := 8) c123_463 (by decide) ?_
  refine qe_new_int c123_465 (by decide) ?_
  rw [show Int32.toNatClampNeg 8 = 8 from by decide]
  rw [e281]
  refine qe_putfinal c123_467 qo123 qF12_182 (by decide +kernel) e283 e284 (by rw [qy12_79]; rfl) ?_
  rw [e285]
  refine qe_aload_n c123_470 rfl ?_
  refine qe_getfield c123_471 qo123 qF12_14 e287 e289 ?_
  refine qe_ldc (x := 36069) c123_474 qo123 qI12_185 ?_
  refine qe_bipush (x := 100) c123_476 (by decide) ?_
  refine qe_iastore c123_478 e292 e293 ?_
  rw [e294]
  refine qe_iconst (x := 0) c123_479 (by decide) ?_
  refine qe_istore_n (ls2 := [some (.ref r0), some (.int 0)]) c123_480 (Nat.le_of_ble_eq_true rfl) rfl ?_
  exact kk
theorem b123_481F {d : Nat} {q : Option Value × qH} {h : qH} {r0 : Nat} {x1 : Int32}  (e1 : ¬ ((14 : Int32) ≤ x1)) (kk : qE d 123 487 [some (.ref r0), some (.int x1)] [] h q): qE d 123 481 [some (.ref r0), some (.int x1)] [] h q := by
  refine qe_iload_n c123_481 rfl ?_
  refine qe_bipush (x := 14) c123_482 (by decide) ?_
  refine qe_icmp_ge_F (t := 500) c123_484 rfl e1 ?_
  exact kk
theorem b123_481T {d : Nat} {q : Option Value × qH} {h : qH} {r0 : Nat} {x1 : Int32}  (e1 : (14 : Int32) ≤ x1) (kk : qE d 123 500 [some (.ref r0), some (.int x1)] [] h q): qE d 123 481 [some (.ref r0), some (.int x1)] [] h q := by
  refine qe_iload_n c123_481 rfl ?_
  refine qe_bipush (x := 14) c123_482 (by decide) ?_
  refine qe_icmp_ge_T (t := 500) c123_484 rfl e1 ?_
  exact kk
theorem b123_487 {d : Nat} {q : Option Value × qH} {h : qH} {r0 : Nat} {x1 : Int32} {fs1 : List Value} {y3 : Nat} {n5 : Nat} {f6 : Nat → Int32} {h1 : qH}  (e2 : h.2.2 r0 = some (.inr (12, fs1))) (e4 : fs1[18]? = some (.ref y3)) (e7 : h.2.2 y3 = some (.inl (0, n5, .inl f6))) (e8 : 0 ≤ (x1 : Int32).toInt ∧ (x1 : Int32).toInt < (n5 : Nat)) (e9 : qset h y3 (.inl (0, n5, .inl (upd f6 ((x1 : Int32).toNatClampNeg) 1))) = h1) (kk : qE d 123 481 [some (.ref r0), some (.int (x1 + 1))] [] h1 q): qE d 123 487 [some (.ref r0), some (.int x1)] [] h q := by
  refine qe_aload_n c123_487 rfl ?_
  refine qe_getfield c123_488 qo123 qF12_39 e2 e4 ?_
  refine qe_iload_n c123_491 rfl ?_
  refine qe_iconst (x := 1) c123_492 (by decide) ?_
  refine qe_iastore c123_493 e7 e8 ?_
  rw [e9]
  refine qe_iinc (y := (x1 + 1)) (ls2 := [some (.ref r0), some (.int (x1 + 1))]) c123_494 rfl (Nat.le_of_ble_eq_true rfl) rfl rfl ?_
  refine qe_goto (t := 481) c123_497 rfl ?_
  exact kk
theorem b123_500 {d : Nat} {q : Option Value × qH} {h : qH} {r0 : Nat} {x1 : Int32}   (kk : qE d 123 502 [some (.ref r0), some (.int 0)] [] h q): qE d 123 500 [some (.ref r0), some (.int x1)] [] h q := by
  refine qe_iconst (x := 0) c123_500 (by decide) ?_
  refine qe_istore_n (ls2 := [some (.ref r0), some (.int 0)]) c123_501 (Nat.le_of_ble_eq_true rfl) rfl ?_
  exact kk
theorem b123_502F {d : Nat} {q : Option Value × qH} {h : qH} {r0 : Nat} {x1 : Int32}  (e1 : ¬ ((9 : Int32) ≤ x1)) (kk : qE d 123 508 [some (.ref r0), some (.int x1)] [] h q): qE d 123 502 [some (.ref r0), some (.int x1)] [] h q := by
  refine qe_iload_n c123_502 rfl ?_
  refine qe_bipush (x := 9) c123_503 (by decide) ?_
  refine qe_icmp_ge_F (t := 522) c123_505 rfl e1 ?_
  exact kk
theorem b123_502T {d : Nat} {q : Option Value × qH} {h : qH} {r0 : Nat} {x1 : Int32}  (e1 : (9 : Int32) ≤ x1) (kk : qE d 123 522 [some (.ref r0), some (.int x1)] [] h q): qE d 123 502 [some (.ref r0), some (.int x1)] [] h q := by
  refine qe_iload_n c123_502 rfl ?_
  refine qe_bipush (x := 9) c123_503 (by decide) ?_
  refine qe_icmp_ge_T (t := 522) c123_505 rfl e1 ?_
  exact kk
theorem b123_508 {d : Nat} {q : Option Value × qH} {h : qH} {r0 : Nat} {x1 : Int32} {fs1 : List Value} {y3 : Nat} {n5 : Nat} {f6 : Nat → Int32} {h1 : qH}  (e2 : h.2.2 r0 = some (.inr (12, fs1))) (e4 : fs1[23]? = some (.ref y3)) (e7 : h.2.2 y3 = some (.inl (0, n5, .inl f6))) (e8 : 0 ≤ (x1 : Int32).toInt ∧ (x1 : Int32).toInt < (n5 : Nat)) (e9 : qset h y3 (.inl (0, n5, .inl (upd f6 ((x1 : Int32).toNatClampNeg) 10))) = h1) (kk : qE d 123 502 [some (.ref r0), some (.int (x1 + 1))] [] h1 q): qE d 123 508 [some (.ref r0), some (.int x1)] [] h q := by
  refine qe_aload_n c123_508 rfl ?_
  refine qe_getfield c123_509 qo123 qF12_55 e2 e4 ?_
  refine qe_iload_n c123_512 rfl ?_
  refine qe_bipush (x := 10) c123_513 (by decide) ?_
  refine qe_iastore c123_515 e7 e8 ?_
  rw [e9]
  refine qe_iinc (y := (x1 + 1)) (ls2 := [some (.ref r0), some (.int (x1 + 1))]) c123_516 rfl (Nat.le_of_ble_eq_true rfl) rfl rfl ?_
  refine qe_goto (t := 502) c123_519 rfl ?_
  exact kk
theorem b123_522 {d : Nat} {q : Option Value × qH} {h : qH} {r0 : Nat} {x1 : Int32}   (kk : qE d 123 524 [some (.ref r0), some (.int 0)] [] h q): qE d 123 522 [some (.ref r0), some (.int x1)] [] h q := by
  refine qe_iconst (x := 0) c123_522 (by decide) ?_
  refine qe_istore_n (ls2 := [some (.ref r0), some (.int 0)]) c123_523 (Nat.le_of_ble_eq_true rfl) rfl ?_
  exact kk
theorem b123_524F {d : Nat} {q : Option Value × qH} {h : qH} {r0 : Nat} {x1 : Int32}  (e1 : ¬ ((4 : Int32) ≤ x1)) (kk : qE d 123 529 [some (.ref r0), some (.int x1)] [] h q): qE d 123 524 [some (.ref r0), some (.int x1)] [] h q := by
  refine qe_iload_n c123_524 rfl ?_
  refine qe_iconst (x := 4) c123_525 (by decide) ?_
  refine qe_icmp_ge_F (t := 542) c123_526 rfl e1 ?_
  exact kk
theorem b123_524T {d : Nat} {q : Option Value × qH} {h : qH} {r0 : Nat} {x1 : Int32}  (e1 : (4 : Int32) ≤ x1) (kk : qE d 123 542 [some (.ref r0), some (.int x1)] [] h q): qE d 123 524 [some (.ref r0), some (.int x1)] [] h q := by
  refine qe_iload_n c123_524 rfl ?_
  refine qe_iconst (x := 4) c123_525 (by decide) ?_
  refine qe_icmp_ge_T (t := 542) c123_526 rfl e1 ?_
  exact kk
theorem b123_529 {d : Nat} {q : Option Value × qH} {h : qH} {r0 : Nat} {x1 : Int32} {fs1 : List Value} {y3 : Nat} {n5 : Nat} {f6 : Nat → Int32} {h1 : qH}  (e2 : h.2.2 r0 = some (.inr (12, fs1))) (e4 : fs1[70]? = some (.ref y3)) (e7 : h.2.2 y3 = some (.inl (0, n5, .inl f6))) (e8 : 0 ≤ (x1 : Int32).toInt ∧ (x1 : Int32).toInt < (n5 : Nat)) (e9 : qset h y3 (.inl (0, n5, .inl (upd f6 ((x1 : Int32).toNatClampNeg) ((-1))))) = h1) (kk : qE d 123 524 [some (.ref r0), some (.int (x1 + 1))] [] h1 q): qE d 123 529 [some (.ref r0), some (.int x1)] [] h q := by
  refine qe_aload_n c123_529 rfl ?_
  refine qe_getfield c123_530 qo123 qF12_155 e2 e4 ?_
  refine qe_iload_n c123_533 rfl ?_
  refine qe_iconst (x := (-1)) c123_534 (by decide) ?_
  refine qe_iastore c123_535 e7 e8 ?_
  rw [e9]
  refine qe_iinc (y := (x1 + 1)) (ls2 := [some (.ref r0), some (.int (x1 + 1))]) c123_536 rfl (Nat.le_of_ble_eq_true rfl) rfl rfl ?_
  refine qe_goto (t := 524) c123_539 rfl ?_
  exact kk
theorem b123_542 {d : Nat} {h : qH} {r0 : Nat} {x1 : Int32}   : qE d 123 542 [some (.ref r0), some (.int x1)] [] h (none, h) := by
  exact qe_vret c123_542 qr123
theorem b124_0F {d : Nat} {q : Option Value × qH} {h : qH} {r0 : Nat} {fs1 : List Value} {y3 : Int32}  (e2 : h.2.2 r0 = some (.inr (12, fs1))) (e4 : fs1[46]? = some (.int y3)) (e5 : (y3 : Int32) = 0) (kk : qE d 124 7 [some (.ref r0)] [] h q): qE d 124 0 [some (.ref r0)] [] h q := by
  refine qe_aload_n c124_0 rfl ?_
  refine qe_getfield c124_1 qo124 qF12_296 e2 e4 ?_
  refine qe_if_ne_F (t := 11) c124_4 rfl e5 ?_
  exact kk
theorem b124_0T {d : Nat} {q : Option Value × qH} {h : qH} {r0 : Nat} {fs1 : List Value} {y3 : Int32}  (e2 : h.2.2 r0 = some (.inr (12, fs1))) (e4 : fs1[46]? = some (.int y3)) (e5 : ¬ ((y3 : Int32) = 0)) (kk : qE d 124 11 [some (.ref r0)] [] h q): qE d 124 0 [some (.ref r0)] [] h q := by
  refine qe_aload_n c124_0 rfl ?_
  refine qe_getfield c124_1 qo124 qF12_296 e2 e4 ?_
  refine qe_if_ne_T (t := 11) c124_4 rfl e5 ?_
  exact kk
theorem b124_7 {d : Nat} {q : Option Value × qH} {h : qH} {r0 : Nat}   (kk : qE d 124 12 [some (.ref r0)] [.int 1] h q): qE d 124 7 [some (.ref r0)] [] h q := by
  refine qe_iconst (x := 1) c124_7 (by decide) ?_
  refine qe_goto (t := 12) c124_8 rfl ?_
  exact kk
theorem b124_11 {d : Nat} {q : Option Value × qH} {h : qH} {r0 : Nat}   (kk : qE d 124 12 [some (.ref r0)] [.int 0] h q): qE d 124 11 [some (.ref r0)] [] h q := by
  refine qe_iconst (x := 0) c124_11 (by decide) ?_
  exact kk
theorem b124_12 {d : Nat} {h : qH} {r0 : Nat} {xs0 : Int32}  (e1 : (xs0 : Int32) = 0 ∨ (xs0 : Int32) = 1) : qE d 124 12 [some (.ref r0)] [.int xs0] h (some (.int xs0), h) := by
  exact qe_zret c124_12 qr124 e1
theorem b125_0 {d : Nat} {q : Option Value × qH} {h : qH} {r0 : Nat} {x1 : Int32} {x2 : Int32} {x3 : Int32} {fs1 : List Value} {h1 : qH}  (e2 : h.2.2 r0 = some (.inr (12, fs1))) (e3 : qCall d 153 [.ref r0, .int x1, .int x2] h (none, h1)) (kk : qE d 125 9 [some (.ref r0), some (.int x1), some (.int x2), some (.int x3), some (.int 0)] [] h1 q): qE d 125 0 [some (.ref r0), some (.int x1), some (.int x2), some (.int x3), none] [] h q := by
  refine qe_aload_n c125_0 rfl ?_
  refine qe_iload_n c125_1 rfl ?_
  refine qe_iload_n c125_2 rfl ?_
  refine qe_virtual (b := r0) (as := [.int x1, .int x2]) (r := []) (v := none) (h2 := h1) c125_3 qo125 qK12_485 rfl rfl rfl (by rw [qo153]; exact e2) (Nat.le_of_ble_eq_true rfl) e3 ?_
  refine qe_iconst (x := 0) c125_6 (by decide) ?_
  refine qe_istore (ls2 := [some (.ref r0), some (.int x1), some (.int x2), some (.int x3), some (.int 0)]) c125_7 (Nat.le_of_ble_eq_true rfl) rfl ?_
  exact kk
theorem b125_9F {d : Nat} {q : Option Value × qH} {h : qH} {r0 : Nat} {x1 : Int32} {x2 : Int32} {x3 : Int32} {x4 : Int32}  (e1 : ¬ ((x3 : Int32) ≤ x4)) (kk : qE d 125 15 [some (.ref r0), some (.int x1), some (.int x2), some (.int x3), some (.int x4)] [] h q): qE d 125 9 [some (.ref r0), some (.int x1), some (.int x2), some (.int x3), some (.int x4)] [] h q := by
  refine qe_iload c125_9 rfl ?_
  refine qe_iload_n c125_11 rfl ?_
  refine qe_icmp_ge_F (t := 37) c125_12 rfl e1 ?_
  exact kk
theorem b125_9T {d : Nat} {q : Option Value × qH} {h : qH} {r0 : Nat} {x1 : Int32} {x2 : Int32} {x3 : Int32} {x4 : Int32}  (e1 : (x3 : Int32) ≤ x4) (kk : qE d 125 37 [some (.ref r0), some (.int x1), some (.int x2), some (.int x3), some (.int x4)] [] h q): qE d 125 9 [some (.ref r0), some (.int x1), some (.int x2), some (.int x3), some (.int x4)] [] h q := by
  refine qe_iload c125_9 rfl ?_
  refine qe_iload_n c125_11 rfl ?_
  refine qe_icmp_ge_T (t := 37) c125_12 rfl e1 ?_
  exact kk
theorem b125_15F {d : Nat} {q : Option Value × qH} {h : qH} {r0 : Nat} {x1 : Int32} {x2 : Int32} {x3 : Int32} {x4 : Int32} {fs1 : List Value} {h1 : qH} {fs4 : List Value} {y6 : Int32}  (e2 : h.2.2 r0 = some (.inr (12, fs1))) (e3 : qCall d 175 [.ref r0, .int 36288] h (none, h1)) (e5 : h1.2.2 r0 = some (.inr (12, fs4))) (e7 : fs4[59]? = some (.int y6)) (e8 : ¬ ((y6 : Int32) ≤ 0)) (kk : qE d 125 29 [some (.ref r0), some (.int x1), some (.int x2), some (.int x3), some (.int x4)] [] h1 q): qE d 125 15 [some (.ref r0), some (.int x1), some (.int x2), some (.int x3), some (.int x4)] [] h q := by
  refine qe_aload_n c125_15 rfl ?_
  refine qe_ldc_w (x := 36288) c125_16 qo125 qI12_471 ?_
  refine qe_virtual (b := r0) (as := [.int 36288]) (r := []) (v := none) (h2 := h1) c125_19 qo125 qK12_458 rfl rfl rfl (by rw [qo175]; exact e2) (Nat.le_of_ble_eq_true rfl) e3 ?_
  refine qe_aload_n c125_22 rfl ?_
  refine qe_getfield c125_23 qo125 qF12_424 e5 e7 ?_
  refine qe_if_le_F (t := 31) c125_26 rfl e8 ?_
  exact kk
theorem b125_15T {d : Nat} {q : Option Value × qH} {h : qH} {r0 : Nat} {x1 : Int32} {x2 : Int32} {x3 : Int32} {x4 : Int32} {fs1 : List Value} {h1 : qH} {fs4 : List Value} {y6 : Int32}  (e2 : h.2.2 r0 = some (.inr (12, fs1))) (e3 : qCall d 175 [.ref r0, .int 36288] h (none, h1)) (e5 : h1.2.2 r0 = some (.inr (12, fs4))) (e7 : fs4[59]? = some (.int y6)) (e8 : (y6 : Int32) ≤ 0) (kk : qE d 125 31 [some (.ref r0), some (.int x1), some (.int x2), some (.int x3), some (.int x4)] [] h1 q): qE d 125 15 [some (.ref r0), some (.int x1), some (.int x2), some (.int x3), some (.int x4)] [] h q := by
  refine qe_aload_n c125_15 rfl ?_
  refine qe_ldc_w (x := 36288) c125_16 qo125 qI12_471 ?_
  refine qe_virtual (b := r0) (as := [.int 36288]) (r := []) (v := none) (h2 := h1) c125_19 qo125 qK12_458 rfl rfl rfl (by rw [qo175]; exact e2) (Nat.le_of_ble_eq_true rfl) e3 ?_
  refine qe_aload_n c125_22 rfl ?_
  refine qe_getfield c125_23 qo125 qF12_424 e5 e7 ?_
  refine qe_if_le_T (t := 31) c125_26 rfl e8 ?_
  exact kk
theorem b125_29 {d : Nat} {h : qH} {r0 : Nat} {x1 : Int32} {x2 : Int32} {x3 : Int32} {x4 : Int32}   : qE d 125 29 [some (.ref r0), some (.int x1), some (.int x2), some (.int x3), some (.int x4)] [] h (some (.int 0), h) := by
  refine qe_iconst (x := 0) c125_29 (by decide) ?_
  exact qe_zret c125_30 qr125 (by decide)
theorem b125_31 {d : Nat} {q : Option Value × qH} {h : qH} {r0 : Nat} {x1 : Int32} {x2 : Int32} {x3 : Int32} {x4 : Int32}   (kk : qE d 125 9 [some (.ref r0), some (.int x1), some (.int x2), some (.int x3), some (.int (x4 + 1))] [] h q): qE d 125 31 [some (.ref r0), some (.int x1), some (.int x2), some (.int x3), some (.int x4)] [] h q := by
  refine qe_iinc (y := (x4 + 1)) (ls2 := [some (.ref r0), some (.int x1), some (.int x2), some (.int x3), some (.int (x4 + 1))]) c125_31 rfl (Nat.le_of_ble_eq_true rfl) rfl rfl ?_
  refine qe_goto (t := 9) c125_34 rfl ?_
  exact kk
theorem b125_37 {d : Nat} {h : qH} {r0 : Nat} {x1 : Int32} {x2 : Int32} {x3 : Int32} {x4 : Int32}   : qE d 125 37 [some (.ref r0), some (.int x1), some (.int x2), some (.int x3), some (.int x4)] [] h (some (.int 1), h) := by
  refine qe_iconst (x := 1) c125_37 (by decide) ?_
  exact qe_zret c125_38 qr125 (by decide)
theorem b126_0 {d : Nat} {h : qH} {x0 : Int32} {h1 : qH} {z1 : Int32}  (e2 : qCall d 143 [.long (x0 : Int32).toInt64, .long 0, .long 3] h ((some (.int z1)), h1)) (e3 : (z1 : Int32) = 0 ∨ (z1 : Int32) = 1) : qE d 126 0 [some (.int x0)] [] h (some (.int z1), h1) := by
  refine qe_iload_n c126_0 rfl ?_
  refine qe_i2l c126_1 ?_
  refine qe_lconst (x := 0) c126_2 (by decide) ?_
  refine qe_ldc2_w (x := 3) c126_3 qo126 qJ12_200 ?_
  refine qe_static (as := [.long (x0 : Int32).toInt64, .long 0, .long 3]) (r := []) (v := (some (.int z1))) (h2 := h1) c126_6 qo126 (by decide) qK12_190 rfl rfl rfl (Nat.le_of_ble_eq_true rfl) e2 ?_
  exact qe_zret c126_9 qr126 e3
theorem b127_0 {d : Nat} {h : qH} {x0 : Int32} {h1 : qH} {z1 : Int32}  (e2 : qCall d 143 [.long (x0 : Int32).toInt64, .long 1, .long 30] h ((some (.int z1)), h1)) (e3 : (z1 : Int32) = 0 ∨ (z1 : Int32) = 1) : qE d 127 0 [some (.int x0)] [] h (some (.int z1), h1) := by
  refine qe_iload_n c127_0 rfl ?_
  refine qe_i2l c127_1 ?_
  refine qe_lconst (x := 1) c127_2 (by decide) ?_
  refine qe_ldc2_w (x := 30) c127_3 qo127 qJ12_488 ?_
  refine qe_static (as := [.long (x0 : Int32).toInt64, .long 1, .long 30]) (r := []) (v := (some (.int z1))) (h2 := h1) c127_6 qo127 (by decide) qK12_190 rfl rfl rfl (Nat.le_of_ble_eq_true rfl) e2 ?_
  exact qe_zret c127_9 qr127 e3
theorem b128_0F {d : Nat} {q : Option Value × qH} {h : qH} {x0 : Int32}  (e1 : ¬ ((x0 : Int32) = 43)) (kk : qE d 128 6 [some (.int x0)] [] h q): qE d 128 0 [some (.int x0)] [] h q := by
  refine qe_iload_n c128_0 rfl ?_
  refine qe_bipush (x := 43) c128_1 (by decide) ?_
  refine qe_icmp_eq_F (t := 12) c128_3 rfl e1 ?_
  exact kk
theorem b128_0T {d : Nat} {q : Option Value × qH} {h : qH} {x0 : Int32}  (e1 : (x0 : Int32) = 43) (kk : qE d 128 12 [some (.int x0)] [] h q): qE d 128 0 [some (.int x0)] [] h q := by
  refine qe_iload_n c128_0 rfl ?_
  refine qe_bipush (x := 43) c128_1 (by decide) ?_
  refine qe_icmp_eq_T (t := 12) c128_3 rfl e1 ?_
  exact kk
theorem b128_6F {d : Nat} {q : Option Value × qH} {h : qH} {x0 : Int32}  (e1 : (x0 : Int32) = 45) (kk : qE d 128 12 [some (.int x0)] [] h q): qE d 128 6 [some (.int x0)] [] h q := by
  refine qe_iload_n c128_6 rfl ?_
  refine qe_bipush (x := 45) c128_7 (by decide) ?_
  refine qe_icmp_ne_F (t := 16) c128_9 rfl e1 ?_
  exact kk
theorem b128_6T {d : Nat} {q : Option Value × qH} {h : qH} {x0 : Int32}  (e1 : ¬ ((x0 : Int32) = 45)) (kk : qE d 128 16 [some (.int x0)] [] h q): qE d 128 6 [some (.int x0)] [] h q := by
  refine qe_iload_n c128_6 rfl ?_
  refine qe_bipush (x := 45) c128_7 (by decide) ?_
  refine qe_icmp_ne_T (t := 16) c128_9 rfl e1 ?_
  exact kk
theorem b128_12 {d : Nat} {q : Option Value × qH} {h : qH} {x0 : Int32}   (kk : qE d 128 17 [some (.int x0)] [.int 1] h q): qE d 128 12 [some (.int x0)] [] h q := by
  refine qe_iconst (x := 1) c128_12 (by decide) ?_
  refine qe_goto (t := 17) c128_13 rfl ?_
  exact kk
theorem b128_16 {d : Nat} {q : Option Value × qH} {h : qH} {x0 : Int32}   (kk : qE d 128 17 [some (.int x0)] [.int 0] h q): qE d 128 16 [some (.int x0)] [] h q := by
  refine qe_iconst (x := 0) c128_16 (by decide) ?_
  exact kk
theorem b128_17 {d : Nat} {h : qH} {x0 : Int32} {xs0 : Int32}  (e1 : (xs0 : Int32) = 0 ∨ (xs0 : Int32) = 1) : qE d 128 17 [some (.int x0)] [.int xs0] h (some (.int xs0), h) := by
  exact qe_zret c128_17 qr128 e1
theorem b129_0 {d : Nat} {h : qH} {r0 : Nat} {x1 : Int32} {fs1 : List Value} {y3 : Int32} {h1 : qH} {z5 : Int32}  (e2 : h.2.2 r0 = some (.inr (12, fs1))) (e4 : fs1[8]? = some (.int y3)) (e6 : qCall d 143 [.long (x1 : Int32).toInt64, .long 0, .long ((y3 - 1) : Int32).toInt64] h ((some (.int z5)), h1)) (e7 : (z5 : Int32) = 0 ∨ (z5 : Int32) = 1) : qE d 129 0 [some (.ref r0), some (.int x1)] [] h (some (.int z5), h1) := by
  refine qe_iload_n c129_0 rfl ?_
  refine qe_i2l c129_1 ?_
  refine qe_lconst (x := 0) c129_2 (by decide) ?_
  refine qe_aload_n c129_3 rfl ?_
  refine qe_getfield c129_4 qo129 qF12_505 e2 e4 ?_
  refine qe_iconst (x := 1) c129_7 (by decide) ?_
  refine qe_isub c129_8 ?_
  refine qe_i2l c129_9 ?_
  refine qe_static (as := [.long (x1 : Int32).toInt64, .long 0, .long ((y3 - 1) : Int32).toInt64]) (r := []) (v := (some (.int z5))) (h2 := h1) c129_10 qo129 (by decide) qK12_190 rfl rfl rfl (Nat.le_of_ble_eq_true rfl) e6 ?_
  exact qe_zret c129_13 qr129 e7
theorem b130_0 {d : Nat} {h : qH} {r0 : Nat} {x1 : Int32} {fs1 : List Value} {y3 : Int32} {h1 : qH} {z5 : Int32}  (e2 : h.2.2 r0 = some (.inr (12, fs1))) (e4 : fs1[3]? = some (.int y3)) (e6 : qCall d 143 [.long (x1 : Int32).toInt64, .long 0, .long (((1 <<< (y3 &&& 31)) - 1) : Int32).toInt64] h ((some (.int z5)), h1)) (e7 : (z5 : Int32) = 0 ∨ (z5 : Int32) = 1) : qE d 130 0 [some (.ref r0), some (.int x1)] [] h (some (.int z5), h1) := by
  refine qe_iload_n c130_0 rfl ?_
  refine qe_i2l c130_1 ?_
  refine qe_lconst (x := 0) c130_2 (by decide) ?_
  refine qe_iconst (x := 1) c130_3 (by decide) ?_
  refine qe_aload_n c130_4 rfl ?_
  refine qe_getfield c130_5 qo130 qF12_186 e2 e4 ?_
  refine qe_ishl c130_8 ?_
  refine qe_iconst (x := 1) c130_9 (by decide) ?_
  refine qe_isub c130_10 ?_
  refine qe_i2l c130_11 ?_
  refine qe_static (as := [.long (x1 : Int32).toInt64, .long 0, .long (((1 <<< (y3 &&& 31)) - 1) : Int32).toInt64]) (r := []) (v := (some (.int z5))) (h2 := h1) c130_12 qo130 (by decide) qK12_190 rfl rfl rfl (Nat.le_of_ble_eq_true rfl) e6 ?_
  exact qe_zret c130_15 qr130 e7
theorem b131_0F {d : Nat} {q : Option Value × qH} {h : qH} {x0 : Int32}  (e1 : ¬ ((x0 : Int32) = 60)) (kk : qE d 131 6 [some (.int x0)] [] h q): qE d 131 0 [some (.int x0)] [] h q := by
  refine qe_iload_n c131_0 rfl ?_
  refine qe_bipush (x := 60) c131_1 (by decide) ?_
  refine qe_icmp_eq_F (t := 18) c131_3 rfl e1 ?_
  exact kk
theorem b131_0T {d : Nat} {q : Option Value × qH} {h : qH} {x0 : Int32}  (e1 : (x0 : Int32) = 60) (kk : qE d 131 18 [some (.int x0)] [] h q): qE d 131 0 [some (.int x0)] [] h q := by
  refine qe_iload_n c131_0 rfl ?_
  refine qe_bipush (x := 60) c131_1 (by decide) ?_
  refine qe_icmp_eq_T (t := 18) c131_3 rfl e1 ?_
  exact kk
theorem b131_6F {d : Nat} {q : Option Value × qH} {h : qH} {x0 : Int32}  (e1 : ¬ ((x0 : Int32) = 62)) (kk : qE d 131 12 [some (.int x0)] [] h q): qE d 131 6 [some (.int x0)] [] h q := by
  refine qe_iload_n c131_6 rfl ?_
  refine qe_bipush (x := 62) c131_7 (by decide) ?_
  refine qe_icmp_eq_F (t := 18) c131_9 rfl e1 ?_
  exact kk
theorem b131_6T {d : Nat} {q : Option Value × qH} {h : qH} {x0 : Int32}  (e1 : (x0 : Int32) = 62) (kk : qE d 131 18 [some (.int x0)] [] h q): qE d 131 6 [some (.int x0)] [] h q := by
  refine qe_iload_n c131_6 rfl ?_
  refine qe_bipush (x := 62) c131_7 (by decide) ?_
  refine qe_icmp_eq_T (t := 18) c131_9 rfl e1 ?_
  exact kk
theorem b131_12F {d : Nat} {q : Option Value × qH} {h : qH} {x0 : Int32}  (e1 : (x0 : Int32) = 61) (kk : qE d 131 18 [some (.int x0)] [] h q): qE d 131 12 [some (.int x0)] [] h q := by
  refine qe_iload_n c131_12 rfl ?_
  refine qe_bipush (x := 61) c131_13 (by decide) ?_
  refine qe_icmp_ne_F (t := 22) c131_15 rfl e1 ?_
  exact kk
theorem b131_12T {d : Nat} {q : Option Value × qH} {h : qH} {x0 : Int32}  (e1 : ¬ ((x0 : Int32) = 61)) (kk : qE d 131 22 [some (.int x0)] [] h q): qE d 131 12 [some (.int x0)] [] h q := by
  refine qe_iload_n c131_12 rfl ?_
  refine qe_bipush (x := 61) c131_13 (by decide) ?_
  refine qe_icmp_ne_T (t := 22) c131_15 rfl e1 ?_
  exact kk
theorem b131_18 {d : Nat} {q : Option Value × qH} {h : qH} {x0 : Int32}   (kk : qE d 131 23 [some (.int x0)] [.int 1] h q): qE d 131 18 [some (.int x0)] [] h q := by
  refine qe_iconst (x := 1) c131_18 (by decide) ?_
  refine qe_goto (t := 23) c131_19 rfl ?_
  exact kk
theorem b131_22 {d : Nat} {q : Option Value × qH} {h : qH} {x0 : Int32}   (kk : qE d 131 23 [some (.int x0)] [.int 0] h q): qE d 131 22 [some (.int x0)] [] h q := by
  refine qe_iconst (x := 0) c131_22 (by decide) ?_
  exact kk
theorem b131_23 {d : Nat} {h : qH} {x0 : Int32} {xs0 : Int32}  (e1 : (xs0 : Int32) = 0 ∨ (xs0 : Int32) = 1) : qE d 131 23 [some (.int x0)] [.int xs0] h (some (.int xs0), h) := by
  exact qe_zret c131_23 qr131 e1
theorem b132_0 {d : Nat} {h : qH} {r0 : Nat} {x1 : Int32} {fs1 : List Value} {y3 : Int32} {h1 : qH} {z5 : Int32}  (e2 : h.2.2 r0 = some (.inr (12, fs1))) (e4 : fs1[3]? = some (.int y3)) (e6 : qCall d 143 [.long (x1 : Int32).toInt64, .long 0, .long ((y3 - 1) : Int32).toInt64] h ((some (.int z5)), h1)) (e7 : (z5 : Int32) = 0 ∨ (z5 : Int32) = 1) : qE d 132 0 [some (.ref r0), some (.int x1)] [] h (some (.int z5), h1) := by
  refine qe_iload_n c132_0 rfl ?_
  refine qe_i2l c132_1 ?_
  refine qe_lconst (x := 0) c132_2 (by decide) ?_
  refine qe_aload_n c132_3 rfl ?_
  refine qe_getfield c132_4 qo132 qF12_186 e2 e4 ?_
  refine qe_iconst (x := 1) c132_7 (by decide) ?_
  refine qe_isub c132_8 ?_
  refine qe_i2l c132_9 ?_
  refine qe_static (as := [.long (x1 : Int32).toInt64, .long 0, .long ((y3 - 1) : Int32).toInt64]) (r := []) (v := (some (.int z5))) (h2 := h1) c132_10 qo132 (by decide) qK12_190 rfl rfl rfl (Nat.le_of_ble_eq_true rfl) e6 ?_
  exact qe_zret c132_13 qr132 e7
theorem b133_0F {d : Nat} {q : Option Value × qH} {h : qH} {x0 : Int32}  (e1 : ¬ ((x0 : Int32) = 42)) (kk : qE d 133 6 [some (.int x0)] [] h q): qE d 133 0 [some (.int x0)] [] h q := by
  refine qe_iload_n c133_0 rfl ?_
  refine qe_bipush (x := 42) c133_1 (by decide) ?_
  refine qe_icmp_eq_F (t := 18) c133_3 rfl e1 ?_
  exact kk
theorem b133_0T {d : Nat} {q : Option Value × qH} {h : qH} {x0 : Int32}  (e1 : (x0 : Int32) = 42) (kk : qE d 133 18 [some (.int x0)] [] h q): qE d 133 0 [some (.int x0)] [] h q := by
  refine qe_iload_n c133_0 rfl ?_
  refine qe_bipush (x := 42) c133_1 (by decide) ?_
  refine qe_icmp_eq_T (t := 18) c133_3 rfl e1 ?_
  exact kk
theorem b133_6F {d : Nat} {q : Option Value × qH} {h : qH} {x0 : Int32}  (e1 : ¬ ((x0 : Int32) = 47)) (kk : qE d 133 12 [some (.int x0)] [] h q): qE d 133 6 [some (.int x0)] [] h q := by
  refine qe_iload_n c133_6 rfl ?_
  refine qe_bipush (x := 47) c133_7 (by decide) ?_
  refine qe_icmp_eq_F (t := 18) c133_9 rfl e1 ?_
  exact kk
theorem b133_6T {d : Nat} {q : Option Value × qH} {h : qH} {x0 : Int32}  (e1 : (x0 : Int32) = 47) (kk : qE d 133 18 [some (.int x0)] [] h q): qE d 133 6 [some (.int x0)] [] h q := by
  refine qe_iload_n c133_6 rfl ?_
  refine qe_bipush (x := 47) c133_7 (by decide) ?_
  refine qe_icmp_eq_T (t := 18) c133_9 rfl e1 ?_
  exact kk
theorem b133_12F {d : Nat} {q : Option Value × qH} {h : qH} {x0 : Int32}  (e1 : (x0 : Int32) = 37) (kk : qE d 133 18 [some (.int x0)] [] h q): qE d 133 12 [some (.int x0)] [] h q := by
  refine qe_iload_n c133_12 rfl ?_
  refine qe_bipush (x := 37) c133_13 (by decide) ?_
  refine qe_icmp_ne_F (t := 22) c133_15 rfl e1 ?_
  exact kk
theorem b133_12T {d : Nat} {q : Option Value × qH} {h : qH} {x0 : Int32}  (e1 : ¬ ((x0 : Int32) = 37)) (kk : qE d 133 22 [some (.int x0)] [] h q): qE d 133 12 [some (.int x0)] [] h q := by
  refine qe_iload_n c133_12 rfl ?_
  refine qe_bipush (x := 37) c133_13 (by decide) ?_
  refine qe_icmp_ne_T (t := 22) c133_15 rfl e1 ?_
  exact kk
theorem b133_18 {d : Nat} {q : Option Value × qH} {h : qH} {x0 : Int32}   (kk : qE d 133 23 [some (.int x0)] [.int 1] h q): qE d 133 18 [some (.int x0)] [] h q := by
  refine qe_iconst (x := 1) c133_18 (by decide) ?_
  refine qe_goto (t := 23) c133_19 rfl ?_
  exact kk
theorem b133_22 {d : Nat} {q : Option Value × qH} {h : qH} {x0 : Int32}   (kk : qE d 133 23 [some (.int x0)] [.int 0] h q): qE d 133 22 [some (.int x0)] [] h q := by
  refine qe_iconst (x := 0) c133_22 (by decide) ?_
  exact kk
theorem b133_23 {d : Nat} {h : qH} {x0 : Int32} {xs0 : Int32}  (e1 : (xs0 : Int32) = 0 ∨ (xs0 : Int32) = 1) : qE d 133 23 [some (.int x0)] [.int xs0] h (some (.int xs0), h) := by
  exact qe_zret c133_23 qr133 e1
theorem b134_0 {d : Nat} {q : Option Value × qH} {h : qH} {r0 : Nat} {x1 : Int32} {x2 : Int32} {fs1 : List Value} {h1 : qH} {fs4 : List Value} {y6 : Nat} {n8 : Nat} {f9 : Nat → Int32} {h2 : qH} {fs13 : List Value} {h3 : qH}  (e2 : h.2.2 r0 = some (.inr (12, fs1))) (e3 : qCall d 96 [.ref r0, .int 36072, .int 36216] h (none, h1)) (e5 : h1.2.2 r0 = some (.inr (12, fs4))) (e7 : fs4[10]? = some (.ref y6)) (e10 : h1.2.2 y6 = some (.inl (0, n8, .inl f9))) (e11 : 0 ≤ ((36216 + x1) : Int32).toInt ∧ ((36216 + x1) : Int32).toInt < (n8 : Nat)) (e12 : qset h1 y6 (.inl (0, n8, .inl (upd f9 (((36216 + x1) : Int32).toNatClampNeg) 1))) = h2) (e14 : h2.2.2 r0 = some (.inr (12, fs13))) (e15 : qCall d 173 [.ref r0, .int 36216] h2 (none, h3)) (kk : qE d 134 30 [some (.ref r0), some (.int x1), some (.int x2), some (.int 0)] [] h3 q): qE d 134 0 [some (.ref r0), some (.int x1), some (.int x2), none] [] h q := by
  refine qe_aload_n c134_0 rfl ?_
  refine qe_ldc_w (x := 36072) c134_1 qo134 qI12_442 ?_
  refine qe_ldc_w (x := 36216) c134_4 qo134 qI12_443 ?_
  refine qe_virtual (b := r0) (as := [.int 36072, .int 36216]) (r := []) (v := none) (h2 := h1) c134_7 qo134 qK12_444 rfl rfl rfl (by rw [qo96]; exact e2) (Nat.le_of_ble_eq_true rfl) e3 ?_
  refine qe_aload_n c134_10 rfl ?_
  refine qe_getfield c134_11 qo134 qF12_14 e5 e7 ?_
  refine qe_ldc_w (x := 36216) c134_14 qo134 qI12_443 ?_
  refine qe_iload_n c134_17 rfl ?_
  refine qe_iadd c134_18 ?_
  refine qe_iconst (x := 1) c134_19 (by decide) ?_
  refine qe_iastore c134_20 e10 e11 ?_
  rw [e12]
  refine qe_aload_n c134_21 rfl ?_
  refine qe_ldc_w (x := 36216) c134_22 qo134 qI12_443 ?_
  refine qe_virtual (b := r0) (as := [.int 36216]) (r := []) (v := none) (h2 := h3) c134_25 qo134 qK12_429 rfl rfl rfl (by rw [qo173]; exact e14) (Nat.le_of_ble_eq_true rfl) e15 ?_
  refine qe_iconst (x := 0) c134_28 (by decide) ?_
  refine qe_istore_n (ls2 := [some (.ref r0), some (.int x1), some (.int x2), some (.int 0)]) c134_29 (Nat.le_of_ble_eq_true rfl) rfl ?_
  exact kk
theorem b134_30F {d : Nat} {q : Option Value × qH} {h : qH} {r0 : Nat} {x1 : Int32} {x2 : Int32} {x3 : Int32} {fs1 : List Value} {y3 : Int32}  (e2 : h.2.2 r0 = some (.inr (12, fs1))) (e4 : fs1[4]? = some (.int y3)) (e5 : ¬ ((y3 : Int32) ≤ x3)) (kk : qE d 134 38 [some (.ref r0), some (.int x1), some (.int x2), some (.int x3)] [] h q): qE d 134 30 [some (.ref r0), some (.int x1), some (.int x2), some (.int x3)] [] h q := by
  refine qe_iload_n c134_30 rfl ?_
  refine qe_aload_n c134_31 rfl ?_
  refine qe_getfield c134_32 qo134 qF12_194 e2 e4 ?_
  refine qe_icmp_ge_F (t := 73) c134_35 rfl e5 ?_
  exact kk
theorem b134_30T {d : Nat} {q : Option Value × qH} {h : qH} {r0 : Nat} {x1 : Int32} {x2 : Int32} {x3 : Int32} {fs1 : List Value} {y3 : Int32}  (e2 : h.2.2 r0 = some (.inr (12, fs1))) (e4 : fs1[4]? = some (.int y3)) (e5 : (y3 : Int32) ≤ x3) (kk : qE d 134 73 [some (.ref r0), some (.int x1), some (.int x2), some (.int x3)] [] h q): qE d 134 30 [some (.ref r0), some (.int x1), some (.int x2), some (.int x3)] [] h q := by
  refine qe_iload_n c134_30 rfl ?_
  refine qe_aload_n c134_31 rfl ?_
  refine qe_getfield c134_32 qo134 qF12_194 e2 e4 ?_
  refine qe_icmp_ge_T (t := 73) c134_35 rfl e5 ?_
  exact kk
theorem b134_38F {d : Nat} {q : Option Value × qH} {h : qH} {r0 : Nat} {x1 : Int32} {x2 : Int32} {x3 : Int32} {fs1 : List Value} {y3 : Nat} {n5 : Nat} {f6 : Nat → Int64} {h1 : qH} {z9 : Int64} {fs11 : List Value} {y13 : Nat} {n15 : Nat} {f16 : Nat → Int32} {y19 : Nat} {n21 : Nat} {f22 : Nat → Int64}  (e2 : h.2.2 r0 = some (.inr (12, fs1))) (e4 : fs1[27]? = some (.ref y3)) (e7 : h.2.2 y3 = some (.inl (2, n5, .inr (.inl f6)))) (e8 : 0 ≤ (x3 : Int32).toInt ∧ (x3 : Int32).toInt < (n5 : Nat)) (e10 : qCall d 170 [.long (f6 (x3 : Int32).toNatClampNeg)] h ((some (.long z9)), h1)) (e12 : h1.2.2 r0 = some (.inr (12, fs11))) (e14 : fs11[16]? = some (.ref y13)) (e17 : h1.2.2 y13 = some (.inl (0, n15, .inl f16))) (e18 : 0 ≤ (x3 : Int32).toInt ∧ (x3 : Int32).toInt < (n15 : Nat)) (e20 : fs11[28]? = some (.ref y19)) (e23 : h1.2.2 y19 = some (.inl (2, n21, .inr (.inl f22)))) (e24 : 0 ≤ (x3 : Int32).toInt ∧ (x3 : Int32).toInt < (n21 : Nat)) (e25 : ¬ (((lg_cmp z9 ((((f16 (x3 : Int32).toNatClampNeg) : Int32).toInt64 * (f22 (x3 : Int32).toNatClampNeg)))) : Int32) ≤ 0)) (kk : qE d 134 65 [some (.ref r0), some (.int x1), some (.int x2), some (.int x3)] [] h1 q): qE d 134 38 [some (.ref r0), some (.int x1), some (.int x2), some (.int x3)] [] h q := by
  refine qe_aload_n c134_38 rfl ?_
  refine qe_getfield c134_39 qo134 qF12_67 e2 e4 ?_
  refine qe_iload_n c134_42 rfl ?_
  refine qe_laload c134_43 e7 e8 ?_
  refine qe_static (as := [.long (f6 (x3 : Int32).toNatClampNeg)]) (r := []) (v := (some (.long z9))) (h2 := h1) c134_44 qo134 (by decide) qK12_279 rfl rfl rfl (Nat.le_of_ble_eq_true rfl) e10 ?_
  refine qe_aload_n c134_47 rfl ?_
  refine qe_getfield c134_48 qo134 qF12_33 e12 e14 ?_
  refine qe_iload_n c134_51 rfl ?_
  refine qe_iaload c134_52 e17 e18 ?_
  refine qe_i2l c134_53 ?_
  refine qe_aload_n c134_54 rfl ?_
  refine qe_getfield c134_55 qo134 qF12_71 e12 e20 ?_
  refine qe_iload_n c134_58 rfl ?_
  refine qe_laload c134_59 e23 e24 ?_
  refine qe_lmul c134_60 ?_
  refine qe_lcmp c134_61 ?_
  refine qe_if_le_F (t := 67) c134_62 rfl e25 ?_
  exact kk
theorem b134_38T {d : Nat} {q : Option Value × qH} {h : qH} {r0 : Nat} {x1 : Int32} {x2 : Int32} {x3 : Int32} {fs1 : List Value} {y3 : Nat} {n5 : Nat} {f6 : Nat → Int64} {h1 : qH} {z9 : Int64} {fs11 : List Value} {y13 : Nat} {n15 : Nat} {f16 : Nat → Int32} {y19 : Nat} {n21 : Nat} {f22 : Nat → Int64}  (e2 : h.2.2 r0 = some (.inr (12, fs1))) (e4 : fs1[27]? = some (.ref y3)) (e7 : h.2.2 y3 = some (.inl (2, n5, .inr (.inl f6)))) (e8 : 0 ≤ (x3 : Int32).toInt ∧ (x3 : Int32).toInt < (n5 : Nat)) (e10 : qCall d 170 [.long (f6 (x3 : Int32).toNatClampNeg)] h ((some (.long z9)), h1)) (e12 : h1.2.2 r0 = some (.inr (12, fs11))) (e14 : fs11[16]? = some (.ref y13)) (e17 : h1.2.2 y13 = some (.inl (0, n15, .inl f16))) (e18 : 0 ≤ (x3 : Int32).toInt ∧ (x3 : Int32).toInt < (n15 : Nat)) (e20 : fs11[28]? = some (.ref y19)) (e23 : h1.2.2 y19 = some (.inl (2, n21, .inr (.inl f22)))) (e24 : 0 ≤ (x3 : Int32).toInt ∧ (x3 : Int32).toInt < (n21 : Nat)) (e25 : ((lg_cmp z9 ((((f16 (x3 : Int32).toNatClampNeg) : Int32).toInt64 * (f22 (x3 : Int32).toNatClampNeg)))) : Int32) ≤ 0) (kk : qE d 134 67 [some (.ref r0), some (.int x1), some (.int x2), some (.int x3)] [] h1 q): qE d 134 38 [some (.ref r0), some (.int x1), some (.int x2), some (.int x3)] [] h q := by
  refine qe_aload_n c134_38 rfl ?_
  refine qe_getfield c134_39 qo134 qF12_67 e2 e4 ?_
  refine qe_iload_n c134_42 rfl ?_
  refine qe_laload c134_43 e7 e8 ?_
  refine qe_static (as := [.long (f6 (x3 : Int32).toNatClampNeg)]) (r := []) (v := (some (.long z9))) (h2 := h1) c134_44 qo134 (by decide) qK12_279 rfl rfl rfl (Nat.le_of_ble_eq_true rfl) e10 ?_
  refine qe_aload_n c134_47 rfl ?_
  refine qe_getfield c134_48 qo134 qF12_33 e12 e14 ?_
  refine qe_iload_n c134_51 rfl ?_
  refine qe_iaload c134_52 e17 e18 ?_
  refine qe_i2l c134_53 ?_
  refine qe_aload_n c134_54 rfl ?_
  refine qe_getfield c134_55 qo134 qF12_71 e12 e20 ?_
  refine qe_iload_n c134_58 rfl ?_
  refine qe_laload c134_59 e23 e24 ?_
  refine qe_lmul c134_60 ?_
  refine qe_lcmp c134_61 ?_
  refine qe_if_le_T (t := 67) c134_62 rfl e25 ?_
  exact kk
theorem b134_65 {d : Nat} {h : qH} {r0 : Nat} {x1 : Int32} {x2 : Int32} {x3 : Int32}   : qE d 134 65 [some (.ref r0), some (.int x1), some (.int x2), some (.int x3)] [] h (some (.int 1), h) := by
  refine qe_iconst (x := 1) c134_65 (by decide) ?_
  exact qe_zret c134_66 qr134 (by decide)
theorem b134_67 {d : Nat} {q : Option Value × qH} {h : qH} {r0 : Nat} {x1 : Int32} {x2 : Int32} {x3 : Int32}   (kk : qE d 134 30 [some (.ref r0), some (.int x1), some (.int x2), some (.int (x3 + 1))] [] h q): qE d 134 67 [some (.ref r0), some (.int x1), some (.int x2), some (.int x3)] [] h q := by
  refine qe_iinc (y := (x3 + 1)) (ls2 := [some (.ref r0), some (.int x1), some (.int x2), some (.int (x3 + 1))]) c134_67 rfl (Nat.le_of_ble_eq_true rfl) rfl rfl ?_
  refine qe_goto (t := 30) c134_70 rfl ?_
  exact kk
theorem b134_73F {d : Nat} {q : Option Value × qH} {h : qH} {r0 : Nat} {x1 : Int32} {x2 : Int32} {x3 : Int32} {fs1 : List Value} {h1 : qH} {z3 : Int32}  (e2 : h.2.2 r0 = some (.inr (12, fs1))) (e4 : qCall d 164 [.ref r0, .int 36216] h ((some (.int z3)), h1)) (e5 : ¬ (((z3 &&& (x2 ^^^ (-1))) : Int32) = 0)) (kk : qE d 134 87 [some (.ref r0), some (.int x1), some (.int x2), some (.int x3)] [] h1 q): qE d 134 73 [some (.ref r0), some (.int x1), some (.int x2), some (.int x3)] [] h q := by
  refine qe_aload_n c134_73 rfl ?_
  refine qe_ldc_w (x := 36216) c134_74 qo134 qI12_443 ?_
  refine qe_virtual (b := r0) (as := [.int 36216]) (r := []) (v := (some (.int z3))) (h2 := h1) c134_77 qo134 qK12_447 rfl rfl rfl (by rw [qo164]; exact e2) (Nat.le_of_ble_eq_true rfl) e4 ?_
  refine qe_iload_n c134_80 rfl ?_
  refine qe_iconst (x := (-1)) c134_81 (by decide) ?_
  refine qe_ixor c134_82 ?_
  refine qe_iand c134_83 ?_
  refine qe_if_eq_F (t := 91) c134_84 rfl e5 ?_
  exact kk
theorem b134_73T {d : Nat} {q : Option Value × qH} {h : qH} {r0 : Nat} {x1 : Int32} {x2 : Int32} {x3 : Int32} {fs1 : List Value} {h1 : qH} {z3 : Int32}  (e2 : h.2.2 r0 = some (.inr (12, fs1))) (e4 : qCall d 164 [.ref r0, .int 36216] h ((some (.int z3)), h1)) (e5 : ((z3 &&& (x2 ^^^ (-1))) : Int32) = 0) (kk : qE d 134 91 [some (.ref r0), some (.int x1), some (.int x2), some (.int x3)] [] h1 q): qE d 134 73 [some (.ref r0), some (.int x1), some (.int x2), some (.int x3)] [] h q := by
  refine qe_aload_n c134_73 rfl ?_
  refine qe_ldc_w (x := 36216) c134_74 qo134 qI12_443 ?_
  refine qe_virtual (b := r0) (as := [.int 36216]) (r := []) (v := (some (.int z3))) (h2 := h1) c134_77 qo134 qK12_447 rfl rfl rfl (by rw [qo164]; exact e2) (Nat.le_of_ble_eq_true rfl) e4 ?_
  refine qe_iload_n c134_80 rfl ?_
  refine qe_iconst (x := (-1)) c134_81 (by decide) ?_
  refine qe_ixor c134_82 ?_
  refine qe_iand c134_83 ?_
  refine qe_if_eq_T (t := 91) c134_84 rfl e5 ?_
  exact kk
theorem b134_87 {d : Nat} {q : Option Value × qH} {h : qH} {r0 : Nat} {x1 : Int32} {x2 : Int32} {x3 : Int32}   (kk : qE d 134 92 [some (.ref r0), some (.int x1), some (.int x2), some (.int x3)] [.int 1] h q): qE d 134 87 [some (.ref r0), some (.int x1), some (.int x2), some (.int x3)] [] h q := by
  refine qe_iconst (x := 1) c134_87 (by decide) ?_
  refine qe_goto (t := 92) c134_88 rfl ?_
  exact kk
theorem b134_91 {d : Nat} {q : Option Value × qH} {h : qH} {r0 : Nat} {x1 : Int32} {x2 : Int32} {x3 : Int32}   (kk : qE d 134 92 [some (.ref r0), some (.int x1), some (.int x2), some (.int x3)] [.int 0] h q): qE d 134 91 [some (.ref r0), some (.int x1), some (.int x2), some (.int x3)] [] h q := by
  refine qe_iconst (x := 0) c134_91 (by decide) ?_
  exact kk
theorem b134_92 {d : Nat} {h : qH} {r0 : Nat} {x1 : Int32} {x2 : Int32} {x3 : Int32} {xs0 : Int32}  (e1 : (xs0 : Int32) = 0 ∨ (xs0 : Int32) = 1) : qE d 134 92 [some (.ref r0), some (.int x1), some (.int x2), some (.int x3)] [.int xs0] h (some (.int xs0), h) := by
  exact qe_zret c134_92 qr134 e1
theorem b135_0F {d : Nat} {q : Option Value × qH} {h : qH} {r0 : Nat} {x1 : Int32}  (e1 : ¬ ((x1 : Int32) = 109)) (kk : qE d 135 6 [some (.ref r0), some (.int x1)] [] h q): qE d 135 0 [some (.ref r0), some (.int x1)] [] h q := by
  refine qe_iload_n c135_0 rfl ?_
  refine qe_bipush (x := 109) c135_1 (by decide) ?_
  refine qe_icmp_eq_F (t := 36) c135_3 rfl e1 ?_
  exact kk
theorem b135_0T {d : Nat} {q : Option Value × qH} {h : qH} {r0 : Nat} {x1 : Int32}  (e1 : (x1 : Int32) = 109) (kk : qE d 135 36 [some (.ref r0), some (.int x1)] [] h q): qE d 135 0 [some (.ref r0), some (.int x1)] [] h q := by
  refine qe_iload_n c135_0 rfl ?_
  refine qe_bipush (x := 109) c135_1 (by decide) ?_
  refine qe_icmp_eq_T (t := 36) c135_3 rfl e1 ?_
  exact kk
theorem b135_6F {d : Nat} {q : Option Value × qH} {h : qH} {r0 : Nat} {x1 : Int32}  (e1 : ¬ ((x1 : Int32) = 105)) (kk : qE d 135 12 [some (.ref r0), some (.int x1)] [] h q): qE d 135 6 [some (.ref r0), some (.int x1)] [] h q := by
  refine qe_iload_n c135_6 rfl ?_
  refine qe_bipush (x := 105) c135_7 (by decide) ?_
  refine qe_icmp_eq_F (t := 36) c135_9 rfl e1 ?_
  exact kk
theorem b135_6T {d : Nat} {q : Option Value × qH} {h : qH} {r0 : Nat} {x1 : Int32}  (e1 : (x1 : Int32) = 105) (kk : qE d 135 36 [some (.ref r0), some (.int x1)] [] h q): qE d 135 6 [some (.ref r0), some (.int x1)] [] h q := by
  refine qe_iload_n c135_6 rfl ?_
  refine qe_bipush (x := 105) c135_7 (by decide) ?_
  refine qe_icmp_eq_T (t := 36) c135_9 rfl e1 ?_
  exact kk
theorem b135_12F {d : Nat} {q : Option Value × qH} {h : qH} {r0 : Nat} {x1 : Int32}  (e1 : ¬ ((x1 : Int32) = 107)) (kk : qE d 135 18 [some (.ref r0), some (.int x1)] [] h q): qE d 135 12 [some (.ref r0), some (.int x1)] [] h q := by
  refine qe_iload_n c135_12 rfl ?_
  refine qe_bipush (x := 107) c135_13 (by decide) ?_
  refine qe_icmp_eq_F (t := 36) c135_15 rfl e1 ?_
  exact kk
theorem b135_12T {d : Nat} {q : Option Value × qH} {h : qH} {r0 : Nat} {x1 : Int32}  (e1 : (x1 : Int32) = 107) (kk : qE d 135 36 [some (.ref r0), some (.int x1)] [] h q): qE d 135 12 [some (.ref r0), some (.int x1)] [] h q := by
  refine qe_iload_n c135_12 rfl ?_
  refine qe_bipush (x := 107) c135_13 (by decide) ?_
  refine qe_icmp_eq_T (t := 36) c135_15 rfl e1 ?_
  exact kk
theorem b135_18F {d : Nat} {q : Option Value × qH} {h : qH} {r0 : Nat} {x1 : Int32}  (e1 : ¬ ((x1 : Int32) = 114)) (kk : qE d 135 24 [some (.ref r0), some (.int x1)] [] h q): qE d 135 18 [some (.ref r0), some (.int x1)] [] h q := by
  refine qe_iload_n c135_18 rfl ?_
  refine qe_bipush (x := 114) c135_19 (by decide) ?_
  refine qe_icmp_eq_F (t := 36) c135_21 rfl e1 ?_
  exact kk
theorem b135_18T {d : Nat} {q : Option Value × qH} {h : qH} {r0 : Nat} {x1 : Int32}  (e1 : (x1 : Int32) = 114) (kk : qE d 135 36 [some (.ref r0), some (.int x1)] [] h q): qE d 135 18 [some (.ref r0), some (.int x1)] [] h q := by
  refine qe_iload_n c135_18 rfl ?_
  refine qe_bipush (x := 114) c135_19 (by decide) ?_
  refine qe_icmp_eq_T (t := 36) c135_21 rfl e1 ?_
  exact kk
theorem b135_24F {d : Nat} {q : Option Value × qH} {h : qH} {r0 : Nat} {x1 : Int32}  (e1 : ¬ ((x1 : Int32) = 100)) (kk : qE d 135 30 [some (.ref r0), some (.int x1)] [] h q): qE d 135 24 [some (.ref r0), some (.int x1)] [] h q := by
  refine qe_iload_n c135_24 rfl ?_
  refine qe_bipush (x := 100) c135_25 (by decide) ?_
  refine qe_icmp_eq_F (t := 36) c135_27 rfl e1 ?_
  exact kk
theorem b135_24T {d : Nat} {q : Option Value × qH} {h : qH} {r0 : Nat} {x1 : Int32}  (e1 : (x1 : Int32) = 100) (kk : qE d 135 36 [some (.ref r0), some (.int x1)] [] h q): qE d 135 24 [some (.ref r0), some (.int x1)] [] h q := by
  refine qe_iload_n c135_24 rfl ?_
  refine qe_bipush (x := 100) c135_25 (by decide) ?_
  refine qe_icmp_eq_T (t := 36) c135_27 rfl e1 ?_
  exact kk
theorem b135_30F {d : Nat} {q : Option Value × qH} {h : qH} {r0 : Nat} {x1 : Int32}  (e1 : (x1 : Int32) = 110) (kk : qE d 135 36 [some (.ref r0), some (.int x1)] [] h q): qE d 135 30 [some (.ref r0), some (.int x1)] [] h q := by
  refine qe_iload_n c135_30 rfl ?_
  refine qe_bipush (x := 110) c135_31 (by decide) ?_
  refine qe_icmp_ne_F (t := 38) c135_33 rfl e1 ?_
  exact kk
theorem b135_30T {d : Nat} {q : Option Value × qH} {h : qH} {r0 : Nat} {x1 : Int32}  (e1 : ¬ ((x1 : Int32) = 110)) (kk : qE d 135 38 [some (.ref r0), some (.int x1)] [] h q): qE d 135 30 [some (.ref r0), some (.int x1)] [] h q := by
  refine qe_iload_n c135_30 rfl ?_
  refine qe_bipush (x := 110) c135_31 (by decide) ?_
  refine qe_icmp_ne_T (t := 38) c135_33 rfl e1 ?_
  exact kk
theorem b135_36 {d : Nat} {h : qH} {r0 : Nat} {x1 : Int32}   : qE d 135 36 [some (.ref r0), some (.int x1)] [] h (some (.int 1), h) := by
  refine qe_iconst (x := 1) c135_36 (by decide) ?_
  exact qe_zret c135_37 qr135 (by decide)
theorem b135_38F {d : Nat} {q : Option Value × qH} {h : qH} {r0 : Nat} {x1 : Int32} {fs1 : List Value} {y3 : Nat} {y5 : Int32} {n7 : Nat} {f8 : Nat → Int32}  (e2 : h.2.2 r0 = some (.inr (12, fs1))) (e4 : fs1[39]? = some (.ref y3)) (e6 : fs1[47]? = some (.int y5)) (e9 : h.2.2 y3 = some (.inl (0, n7, .inl f8))) (e10 : 0 ≤ (y5 : Int32).toInt ∧ (y5 : Int32).toInt < (n7 : Nat)) (e11 : ((f8 (y5 : Int32).toNatClampNeg) : Int32) = 116) (kk : qE d 135 52 [some (.ref r0), some (.int x1)] [] h q): qE d 135 38 [some (.ref r0), some (.int x1)] [] h q := by
  refine qe_aload_n c135_38 rfl ?_
  refine qe_getfield c135_39 qo135 qF12_101 e2 e4 ?_
  refine qe_aload_n c135_42 rfl ?_
  refine qe_getfield c135_43 qo135 qF12_329 e2 e6 ?_
  refine qe_iaload c135_46 e9 e10 ?_
  refine qe_bipush (x := 116) c135_47 (by decide) ?_
  refine qe_icmp_ne_F (t := 78) c135_49 rfl e11 ?_
  exact kk
theorem b135_38T {d : Nat} {q : Option Value × qH} {h : qH} {r0 : Nat} {x1 : Int32} {fs1 : List Value} {y3 : Nat} {y5 : Int32} {n7 : Nat} {f8 : Nat → Int32}  (e2 : h.2.2 r0 = some (.inr (12, fs1))) (e4 : fs1[39]? = some (.ref y3)) (e6 : fs1[47]? = some (.int y5)) (e9 : h.2.2 y3 = some (.inl (0, n7, .inl f8))) (e10 : 0 ≤ (y5 : Int32).toInt ∧ (y5 : Int32).toInt < (n7 : Nat)) (e11 : ¬ (((f8 (y5 : Int32).toNatClampNeg) : Int32) = 116)) (kk : qE d 135 78 [some (.ref r0), some (.int x1)] [] h q): qE d 135 38 [some (.ref r0), some (.int x1)] [] h q := by
  refine qe_aload_n c135_38 rfl ?_
  refine qe_getfield c135_39 qo135 qF12_101 e2 e4 ?_
  refine qe_aload_n c135_42 rfl ?_
  refine qe_getfield c135_43 qo135 qF12_329 e2 e6 ?_
  refine qe_iaload c135_46 e9 e10 ?_
  refine qe_bipush (x := 116) c135_47 (by decide) ?_
  refine qe_icmp_ne_T (t := 78) c135_49 rfl e11 ?_
  exact kk
theorem b135_52F {d : Nat} {q : Option Value × qH} {h : qH} {r0 : Nat} {x1 : Int32}  (e1 : ¬ ((x1 : Int32) = 102)) (kk : qE d 135 58 [some (.ref r0), some (.int x1)] [] h q): qE d 135 52 [some (.ref r0), some (.int x1)] [] h q := by
  refine qe_iload_n c135_52 rfl ?_
  refine qe_bipush (x := 102) c135_53 (by decide) ?_
  refine qe_icmp_eq_F (t := 70) c135_55 rfl e1 ?_
  exact kk
theorem b135_52T {d : Nat} {q : Option Value × qH} {h : qH} {r0 : Nat} {x1 : Int32}  (e1 : (x1 : Int32) = 102) (kk : qE d 135 70 [some (.ref r0), some (.int x1)] [] h q): qE d 135 52 [some (.ref r0), some (.int x1)] [] h q := by
  refine qe_iload_n c135_52 rfl ?_
  refine qe_bipush (x := 102) c135_53 (by decide) ?_
  refine qe_icmp_eq_T (t := 70) c135_55 rfl e1 ?_
  exact kk
theorem b135_58F {d : Nat} {q : Option Value × qH} {h : qH} {r0 : Nat} {x1 : Int32}  (e1 : ¬ ((x1 : Int32) = 108)) (kk : qE d 135 64 [some (.ref r0), some (.int x1)] [] h q): qE d 135 58 [some (.ref r0), some (.int x1)] [] h q := by
  refine qe_iload_n c135_58 rfl ?_
  refine qe_bipush (x := 108) c135_59 (by decide) ?_
  refine qe_icmp_eq_F (t := 70) c135_61 rfl e1 ?_
  exact kk
theorem b135_58T {d : Nat} {q : Option Value × qH} {h : qH} {r0 : Nat} {x1 : Int32}  (e1 : (x1 : Int32) = 108) (kk : qE d 135 70 [some (.ref r0), some (.int x1)] [] h q): qE d 135 58 [some (.ref r0), some (.int x1)] [] h q := by
  refine qe_iload_n c135_58 rfl ?_
  refine qe_bipush (x := 108) c135_59 (by decide) ?_
  refine qe_icmp_eq_T (t := 70) c135_61 rfl e1 ?_
  exact kk
theorem b135_64F {d : Nat} {q : Option Value × qH} {h : qH} {r0 : Nat} {x1 : Int32}  (e1 : (x1 : Int32) = 119) (kk : qE d 135 70 [some (.ref r0), some (.int x1)] [] h q): qE d 135 64 [some (.ref r0), some (.int x1)] [] h q := by
  refine qe_iload_n c135_64 rfl ?_
  refine qe_bipush (x := 119) c135_65 (by decide) ?_
  refine qe_icmp_ne_F (t := 74) c135_67 rfl e1 ?_
  exact kk
theorem b135_64T {d : Nat} {q : Option Value × qH} {h : qH} {r0 : Nat} {x1 : Int32}  (e1 : ¬ ((x1 : Int32) = 119)) (kk : qE d 135 74 [some (.ref r0), some (.int x1)] [] h q): qE d 135 64 [some (.ref r0), some (.int x1)] [] h q := by
  refine qe_iload_n c135_64 rfl ?_
  refine qe_bipush (x := 119) c135_65 (by decide) ?_
  refine qe_icmp_ne_T (t := 74) c135_67 rfl e1 ?_
  exact kk
theorem b135_70 {d : Nat} {q : Option Value × qH} {h : qH} {r0 : Nat} {x1 : Int32}   (kk : qE d 135 95 [some (.ref r0), some (.int x1)] [.int 1] h q): qE d 135 70 [some (.ref r0), some (.int x1)] [] h q := by
  refine qe_iconst (x := 1) c135_70 (by decide) ?_
  refine qe_goto (t := 95) c135_71 rfl ?_
  exact kk
theorem b135_74 {d : Nat} {q : Option Value × qH} {h : qH} {r0 : Nat} {x1 : Int32}   (kk : qE d 135 95 [some (.ref r0), some (.int x1)] [.int 0] h q): qE d 135 74 [some (.ref r0), some (.int x1)] [] h q := by
  refine qe_iconst (x := 0) c135_74 (by decide) ?_
  refine qe_goto (t := 95) c135_75 rfl ?_
  exact kk
theorem b135_78F {d : Nat} {q : Option Value × qH} {h : qH} {r0 : Nat} {x1 : Int32}  (e1 : ¬ ((x1 : Int32) = 103)) (kk : qE d 135 84 [some (.ref r0), some (.int x1)] [] h q): qE d 135 78 [some (.ref r0), some (.int x1)] [] h q := by
  refine qe_iload_n c135_78 rfl ?_
  refine qe_bipush (x := 103) c135_79 (by decide) ?_
  refine qe_icmp_eq_F (t := 90) c135_81 rfl e1 ?_
  exact kk
theorem b135_78T {d : Nat} {q : Option Value × qH} {h : qH} {r0 : Nat} {x1 : Int32}  (e1 : (x1 : Int32) = 103) (kk : qE d 135 90 [some (.ref r0), some (.int x1)] [] h q): qE d 135 78 [some (.ref r0), some (.int x1)] [] h q := by
  refine qe_iload_n c135_78 rfl ?_
  refine qe_bipush (x := 103) c135_79 (by decide) ?_
  refine qe_icmp_eq_T (t := 90) c135_81 rfl e1 ?_
  exact kk
theorem b135_84F {d : Nat} {q : Option Value × qH} {h : qH} {r0 : Nat} {x1 : Int32}  (e1 : (x1 : Int32) = 120) (kk : qE d 135 90 [some (.ref r0), some (.int x1)] [] h q): qE d 135 84 [some (.ref r0), some (.int x1)] [] h q := by
  refine qe_iload_n c135_84 rfl ?_
  refine qe_bipush (x := 120) c135_85 (by decide) ?_
  refine qe_icmp_ne_F (t := 94) c135_87 rfl e1 ?_
  exact kk
theorem b135_84T {d : Nat} {q : Option Value × qH} {h : qH} {r0 : Nat} {x1 : Int32}  (e1 : ¬ ((x1 : Int32) = 120)) (kk : qE d 135 94 [some (.ref r0), some (.int x1)] [] h q): qE d 135 84 [some (.ref r0), some (.int x1)] [] h q := by
  refine qe_iload_n c135_84 rfl ?_
  refine qe_bipush (x := 120) c135_85 (by decide) ?_
  refine qe_icmp_ne_T (t := 94) c135_87 rfl e1 ?_
  exact kk
theorem b135_90 {d : Nat} {q : Option Value × qH} {h : qH} {r0 : Nat} {x1 : Int32}   (kk : qE d 135 95 [some (.ref r0), some (.int x1)] [.int 1] h q): qE d 135 90 [some (.ref r0), some (.int x1)] [] h q := by
  refine qe_iconst (x := 1) c135_90 (by decide) ?_
  refine qe_goto (t := 95) c135_91 rfl ?_
  exact kk
theorem b135_94 {d : Nat} {q : Option Value × qH} {h : qH} {r0 : Nat} {x1 : Int32}   (kk : qE d 135 95 [some (.ref r0), some (.int x1)] [.int 0] h q): qE d 135 94 [some (.ref r0), some (.int x1)] [] h q := by
  refine qe_iconst (x := 0) c135_94 (by decide) ?_
  exact kk
theorem b135_95 {d : Nat} {h : qH} {r0 : Nat} {x1 : Int32} {xs0 : Int32}  (e1 : (xs0 : Int32) = 0 ∨ (xs0 : Int32) = 1) : qE d 135 95 [some (.ref r0), some (.int x1)] [.int xs0] h (some (.int xs0), h) := by
  exact qe_zret c135_95 qr135 e1
theorem b136_0 {d : Nat} {h : qH} {r0 : Nat} {x1 : Int32} {fs1 : List Value} {y3 : Int32} {h1 : qH} {z5 : Int32}  (e2 : h.2.2 r0 = some (.inr (12, fs1))) (e4 : fs1[4]? = some (.int y3)) (e6 : qCall d 143 [.long (x1 : Int32).toInt64, .long 0, .long ((y3 - 1) : Int32).toInt64] h ((some (.int z5)), h1)) (e7 : (z5 : Int32) = 0 ∨ (z5 : Int32) = 1) : qE d 136 0 [some (.ref r0), some (.int x1)] [] h (some (.int z5), h1) := by
  refine qe_iload_n c136_0 rfl ?_
  refine qe_i2l c136_1 ?_
  refine qe_lconst (x := 0) c136_2 (by decide) ?_
  refine qe_aload_n c136_3 rfl ?_
  refine qe_getfield c136_4 qo136 qF12_194 e2 e4 ?_
  refine qe_iconst (x := 1) c136_7 (by decide) ?_
  refine qe_isub c136_8 ?_
  refine qe_i2l c136_9 ?_
  refine qe_static (as := [.long (x1 : Int32).toInt64, .long 0, .long ((y3 - 1) : Int32).toInt64]) (r := []) (v := (some (.int z5))) (h2 := h1) c136_10 qo136 (by decide) qK12_190 rfl rfl rfl (Nat.le_of_ble_eq_true rfl) e6 ?_
  exact qe_zret c136_13 qr136 e7
theorem b137_0 {d : Nat} {h : qH} {r0 : Nat} {x1 : Int32} {fs1 : List Value} {y3 : Int32} {h1 : qH} {z5 : Int32}  (e2 : h.2.2 r0 = some (.inr (12, fs1))) (e4 : fs1[5]? = some (.int y3)) (e6 : qCall d 143 [.long (x1 : Int32).toInt64, .long 0, .long ((y3 - 1) : Int32).toInt64] h ((some (.int z5)), h1)) (e7 : (z5 : Int32) = 0 ∨ (z5 : Int32) = 1) : qE d 137 0 [some (.ref r0), some (.int x1)] [] h (some (.int z5), h1) := by
  refine qe_iload_n c137_0 rfl ?_
  refine qe_i2l c137_1 ?_
  refine qe_lconst (x := 0) c137_2 (by decide) ?_
  refine qe_aload_n c137_3 rfl ?_
  refine qe_getfield c137_4 qo137 qF12_197 e2 e4 ?_
  refine qe_iconst (x := 1) c137_7 (by decide) ?_
  refine qe_isub c137_8 ?_
  refine qe_i2l c137_9 ?_
  refine qe_static (as := [.long (x1 : Int32).toInt64, .long 0, .long ((y3 - 1) : Int32).toInt64]) (r := []) (v := (some (.int z5))) (h2 := h1) c137_10 qo137 (by decide) qK12_190 rfl rfl rfl (Nat.le_of_ble_eq_true rfl) e6 ?_
  exact qe_zret c137_13 qr137 e7
theorem b138_0F {d : Nat} {q : Option Value × qH} {h : qH} {r0 : Nat} {x1 : Int32} {fs1 : List Value} {h1 : qH} {z3 : Int32}  (e2 : h.2.2 r0 = some (.inr (12, fs1))) (e4 : qCall d 179 [.ref r0] h ((some (.int z3)), h1)) (e5 : ¬ ((z3 : Int32) = 38)) (kk : qE d 138 9 [some (.ref r0), some (.int x1)] [] h1 q): qE d 138 0 [some (.ref r0), some (.int x1)] [] h q := by
  refine qe_aload_n c138_0 rfl ?_
  refine qe_virtual (b := r0) (as := []) (r := []) (v := (some (.int z3))) (h2 := h1) c138_1 qo138 qK12_332 rfl rfl rfl (by rw [qo179]; exact e2) (Nat.le_of_ble_eq_true rfl) e4 ?_
  refine qe_bipush (x := 38) c138_4 (by decide) ?_
  refine qe_icmp_eq_F (t := 22) c138_6 rfl e5 ?_
  exact kk
theorem b138_0T {d : Nat} {q : Option Value × qH} {h : qH} {r0 : Nat} {x1 : Int32} {fs1 : List Value} {h1 : qH} {z3 : Int32}  (e2 : h.2.2 r0 = some (.inr (12, fs1))) (e4 : qCall d 179 [.ref r0] h ((some (.int z3)), h1)) (e5 : (z3 : Int32) = 38) (kk : qE d 138 22 [some (.ref r0), some (.int x1)] [] h1 q): qE d 138 0 [some (.ref r0), some (.int x1)] [] h q := by
  refine qe_aload_n c138_0 rfl ?_
  refine qe_virtual (b := r0) (as := []) (r := []) (v := (some (.int z3))) (h2 := h1) c138_1 qo138 qK12_332 rfl rfl rfl (by rw [qo179]; exact e2) (Nat.le_of_ble_eq_true rfl) e4 ?_
  refine qe_bipush (x := 38) c138_4 (by decide) ?_
  refine qe_icmp_eq_T (t := 22) c138_6 rfl e5 ?_
  exact kk
theorem b138_9F {d : Nat} {q : Option Value × qH} {h : qH} {r0 : Nat} {x1 : Int32}  (e1 : ¬ ((x1 : Int32) = 0)) (kk : qE d 138 13 [some (.ref r0), some (.int x1)] [] h q): qE d 138 9 [some (.ref r0), some (.int x1)] [] h q := by
  refine qe_iload_n c138_9 rfl ?_
  refine qe_if_eq_F (t := 44) c138_10 rfl e1 ?_
  exact kk
theorem b138_9T {d : Nat} {q : Option Value × qH} {h : qH} {r0 : Nat} {x1 : Int32}  (e1 : (x1 : Int32) = 0) (kk : qE d 138 44 [some (.ref r0), some (.int x1)] [] h q): qE d 138 9 [some (.ref r0), some (.int x1)] [] h q := by
  refine qe_iload_n c138_9 rfl ?_
  refine qe_if_eq_T (t := 44) c138_10 rfl e1 ?_
  exact kk
theorem b138_13F {d : Nat} {q : Option Value × qH} {h : qH} {r0 : Nat} {x1 : Int32} {fs1 : List Value} {h1 : qH} {z3 : Int32}  (e2 : h.2.2 r0 = some (.inr (12, fs1))) (e4 : qCall d 179 [.ref r0] h ((some (.int z3)), h1)) (e5 : (z3 : Int32) = 124) (kk : qE d 138 22 [some (.ref r0), some (.int x1)] [] h1 q): qE d 138 13 [some (.ref r0), some (.int x1)] [] h q := by
  refine qe_aload_n c138_13 rfl ?_
  refine qe_virtual (b := r0) (as := []) (r := []) (v := (some (.int z3))) (h2 := h1) c138_14 qo138 qK12_332 rfl rfl rfl (by rw [qo179]; exact e2) (Nat.le_of_ble_eq_true rfl) e4 ?_
  refine qe_bipush (x := 124) c138_17 (by decide) ?_
  refine qe_icmp_ne_F (t := 44) c138_19 rfl e5 ?_
  exact kk
theorem b138_13T {d : Nat} {q : Option Value × qH} {h : qH} {r0 : Nat} {x1 : Int32} {fs1 : List Value} {h1 : qH} {z3 : Int32}  (e2 : h.2.2 r0 = some (.inr (12, fs1))) (e4 : qCall d 179 [.ref r0] h ((some (.int z3)), h1)) (e5 : ¬ ((z3 : Int32) = 124)) (kk : qE d 138 44 [some (.ref r0), some (.int x1)] [] h1 q): qE d 138 13 [some (.ref r0), some (.int x1)] [] h q := by
  refine qe_aload_n c138_13 rfl ?_
  refine qe_virtual (b := r0) (as := []) (r := []) (v := (some (.int z3))) (h2 := h1) c138_14 qo138 qK12_332 rfl rfl rfl (by rw [qo179]; exact e2) (Nat.le_of_ble_eq_true rfl) e4 ?_
  refine qe_bipush (x := 124) c138_17 (by decide) ?_
  refine qe_icmp_ne_T (t := 44) c138_19 rfl e5 ?_
  exact kk
theorem b138_22 {d : Nat} {q : Option Value × qH} {h : qH} {r0 : Nat} {x1 : Int32} {fs1 : List Value} {h1 : qH} {z3 : Int32} {fs5 : List Value} {h2 : qH} {fs8 : List Value} {y10 : Int32} {h3 : qH}  (e2 : h.2.2 r0 = some (.inr (12, fs1))) (e4 : qCall d 179 [.ref r0] h ((some (.int z3)), h1)) (e6 : h1.2.2 r0 = some (.inr (12, fs5))) (e7 : qCall d 103 [.ref r0, .int z3, .int 0] h1 (none, h2)) (e9 : h2.2.2 r0 = some (.inr (12, fs8))) (e11 : fs8[50]? = some (.int y10)) (e12 : 50 < fs8.length) (e13 : qset h2 r0 (.inr (12, fs8.set 50 (.int (y10 - 1)))) = h3) (kk : qE d 138 0 [some (.ref r0), some (.int x1)] [] h3 q): qE d 138 22 [some (.ref r0), some (.int x1)] [] h q := by
  refine qe_aload_n c138_22 rfl ?_
  refine qe_aload_n c138_23 rfl ?_
  refine qe_virtual (b := r0) (as := []) (r := [.ref r0]) (v := (some (.int z3))) (h2 := h1) c138_24 qo138 qK12_332 rfl rfl rfl (by rw [qo179]; exact e2) (Nat.le_of_ble_eq_true rfl) e4 ?_
  refine qe_iconst (x := 0) c138_27 (by decide) ?_
  refine qe_virtual (b := r0) (as := [.int z3, .int 0]) (r := []) (v := none) (h2 := h2) c138_28 qo138 qK12_341 rfl rfl rfl (by rw [qo103]; exact e6) (Nat.le_of_ble_eq_true rfl) e7 ?_
  refine qe_aload_n c138_31 rfl ?_
  refine qe_dup c138_32 rfl ?_
  refine qe_getfield c138_33 qo138 qF12_306 e9 e11 ?_
  refine qe_iconst (x := 1) c138_36 (by decide) ?_
  refine qe_isub c138_37 ?_
  refine qe_putfield c138_38 qo138 qF12_306 qz12_50 e9 e12 (by rw [qy12_50]; rfl) ?_
  rw [e13]
  refine qe_goto (t := 0) c138_41 rfl ?_
  exact kk
theorem b138_44 {d : Nat} {h : qH} {r0 : Nat} {x1 : Int32}   : qE d 138 44 [some (.ref r0), some (.int x1)] [] h (none, h) := by
  exact qe_vret c138_44 qr138
theorem b139_0F {d : Nat} {q : Option Value × qH} {h : qH} {r0 : Nat} {x1 : Int32} {x2 : Int32} {fs1 : List Value} {h1 : qH} {z3 : Int32}  (e2 : h.2.2 r0 = some (.inr (12, fs1))) (e4 : qCall d 130 [.ref r0, .int x1] h ((some (.int z3)), h1)) (e5 : ¬ ((z3 : Int32) = 0)) (kk : qE d 139 8 [some (.ref r0), some (.int x1), some (.int x2), none] [] h1 q): qE d 139 0 [some (.ref r0), some (.int x1), some (.int x2), none] [] h q := by
  refine qe_aload_n c139_0 rfl ?_
  refine qe_iload_n c139_1 rfl ?_
  refine qe_virtual (b := r0) (as := [.int x1]) (r := []) (v := (some (.int z3))) (h2 := h1) c139_2 qo139 qK12_490 rfl rfl rfl (by rw [qo130]; exact e2) (Nat.le_of_ble_eq_true rfl) e4 ?_
  refine qe_if_eq_F (t := 15) c139_5 rfl e5 ?_
  exact kk
theorem b139_0T {d : Nat} {q : Option Value × qH} {h : qH} {r0 : Nat} {x1 : Int32} {x2 : Int32} {fs1 : List Value} {h1 : qH} {z3 : Int32}  (e2 : h.2.2 r0 = some (.inr (12, fs1))) (e4 : qCall d 130 [.ref r0, .int x1] h ((some (.int z3)), h1)) (e5 : (z3 : Int32) = 0) (kk : qE d 139 15 [some (.ref r0), some (.int x1), some (.int x2), none] [] h1 q): qE d 139 0 [some (.ref r0), some (.int x1), some (.int x2), none] [] h q := by
  refine qe_aload_n c139_0 rfl ?_
  refine qe_iload_n c139_1 rfl ?_
  refine qe_virtual (b := r0) (as := [.int x1]) (r := []) (v := (some (.int z3))) (h2 := h1) c139_2 qo139 qK12_490 rfl rfl rfl (by rw [qo130]; exact e2) (Nat.le_of_ble_eq_true rfl) e4 ?_
  refine qe_if_eq_T (t := 15) c139_5 rfl e5 ?_
  exact kk
theorem b139_8F {d : Nat} {q : Option Value × qH} {h : qH} {r0 : Nat} {x1 : Int32} {x2 : Int32} {h1 : qH} {z1 : Int32}  (e2 : qCall d 127 [.int x2] h ((some (.int z1)), h1)) (e3 : (z1 : Int32) = 0) (kk : qE d 139 15 [some (.ref r0), some (.int x1), some (.int x2), none] [] h1 q): qE d 139 8 [some (.ref r0), some (.int x1), some (.int x2), none] [] h q := by
  refine qe_iload_n c139_8 rfl ?_
  refine qe_static (as := [.int x2]) (r := []) (v := (some (.int z1))) (h2 := h1) c139_9 qo139 (by decide) qK12_493 rfl rfl rfl (Nat.le_of_ble_eq_true rfl) e2 ?_
  refine qe_if_ne_F (t := 17) c139_12 rfl e3 ?_
  exact kk
theorem b139_8T {d : Nat} {q : Option Value × qH} {h : qH} {r0 : Nat} {x1 : Int32} {x2 : Int32} {h1 : qH} {z1 : Int32}  (e2 : qCall d 127 [.int x2] h ((some (.int z1)), h1)) (e3 : ¬ ((z1 : Int32) = 0)) (kk : qE d 139 17 [some (.ref r0), some (.int x1), some (.int x2), none] [] h1 q): qE d 139 8 [some (.ref r0), some (.int x1), some (.int x2), none] [] h q := by
  refine qe_iload_n c139_8 rfl ?_
  refine qe_static (as := [.int x2]) (r := []) (v := (some (.int z1))) (h2 := h1) c139_9 qo139 (by decide) qK12_493 rfl rfl rfl (Nat.le_of_ble_eq_true rfl) e2 ?_
  refine qe_if_ne_T (t := 17) c139_12 rfl e3 ?_
  exact kk
theorem b139_15 {d : Nat} {h : qH} {r0 : Nat} {x1 : Int32} {x2 : Int32}   : qE d 139 15 [some (.ref r0), some (.int x1), some (.int x2), none] [] h (some (.int (-1)), h) := by
  refine qe_iconst (x := (-1)) c139_15 (by decide) ?_
  exact qe_iret c139_16 qr139
theorem b139_17 {d : Nat} {q : Option Value × qH} {h : qH} {r0 : Nat} {x1 : Int32} {x2 : Int32} {fs1 : List Value} {y3 : Int32}  (e2 : h.2.2 r0 = some (.inr (12, fs1))) (e4 : fs1[2]? = some (.int y3)) (kk : qE d 139 22 [some (.ref r0), some (.int x1), some (.int x2), some (.int y3)] [] h q): qE d 139 17 [some (.ref r0), some (.int x1), some (.int x2), none] [] h q := by
  refine qe_aload_n c139_17 rfl ?_
  refine qe_getfield c139_18 qo139 qF12_202 e2 e4 ?_
  refine qe_istore_n (ls2 := [some (.ref r0), some (.int x1), some (.int x2), some (.int y3)]) c139_21 (Nat.le_of_ble_eq_true rfl) rfl ?_
  exact kk
theorem b139_22F {d : Nat} {q : Option Value × qH} {h : qH} {r0 : Nat} {x1 : Int32} {x2 : Int32} {x3 : Int32}  (e1 : ¬ ((x3 : Int32) < 0)) (kk : qE d 139 26 [some (.ref r0), some (.int x1), some (.int x2), some (.int x3)] [] h q): qE d 139 22 [some (.ref r0), some (.int x1), some (.int x2), some (.int x3)] [] h q := by
  refine qe_iload_n c139_22 rfl ?_
  refine qe_if_lt_F (t := 44) c139_23 rfl e1 ?_
  exact kk
theorem b139_22T {d : Nat} {q : Option Value × qH} {h : qH} {r0 : Nat} {x1 : Int32} {x2 : Int32} {x3 : Int32}  (e1 : (x3 : Int32) < 0) (kk : qE d 139 44 [some (.ref r0), some (.int x1), some (.int x2), some (.int x3)] [] h q): qE d 139 22 [some (.ref r0), some (.int x1), some (.int x2), some (.int x3)] [] h q := by
  refine qe_iload_n c139_22 rfl ?_
  refine qe_if_lt_T (t := 44) c139_23 rfl e1 ?_
  exact kk
theorem b139_26F {d : Nat} {q : Option Value × qH} {h : qH} {r0 : Nat} {x1 : Int32} {x2 : Int32} {x3 : Int32} {fs1 : List Value} {h1 : qH} {z3 : Int32}  (e2 : h.2.2 r0 = some (.inr (12, fs1))) (e4 : qCall d 125 [.ref r0, .int x3, .int x1, .int x2] h ((some (.int z3)), h1)) (e5 : ¬ ((z3 : Int32) = 0)) (kk : qE d 139 36 [some (.ref r0), some (.int x1), some (.int x2), some (.int x3)] [] h1 q): qE d 139 26 [some (.ref r0), some (.int x1), some (.int x2), some (.int x3)] [] h q := by
  refine qe_aload_n c139_26 rfl ?_
  refine qe_iload_n c139_27 rfl ?_
  refine qe_iload_n c139_28 rfl ?_
  refine qe_iload_n c139_29 rfl ?_
  refine qe_virtual (b := r0) (as := [.int x3, .int x1, .int x2]) (r := []) (v := (some (.int z3))) (h2 := h1) c139_30 qo139 qK12_496 rfl rfl rfl (by rw [qo125]; exact e2) (Nat.le_of_ble_eq_true rfl) e4 ?_
  refine qe_if_eq_F (t := 38) c139_33 rfl e5 ?_
  exact kk
theorem b139_26T {d : Nat} {q : Option Value × qH} {h : qH} {r0 : Nat} {x1 : Int32} {x2 : Int32} {x3 : Int32} {fs1 : List Value} {h1 : qH} {z3 : Int32}  (e2 : h.2.2 r0 = some (.inr (12, fs1))) (e4 : qCall d 125 [.ref r0, .int x3, .int x1, .int x2] h ((some (.int z3)), h1)) (e5 : (z3 : Int32) = 0) (kk : qE d 139 38 [some (.ref r0), some (.int x1), some (.int x2), some (.int x3)] [] h1 q): qE d 139 26 [some (.ref r0), some (.int x1), some (.int x2), some (.int x3)] [] h q := by
  refine qe_aload_n c139_26 rfl ?_
  refine qe_iload_n c139_27 rfl ?_
  refine qe_iload_n c139_28 rfl ?_
  refine qe_iload_n c139_29 rfl ?_
  refine qe_virtual (b := r0) (as := [.int x3, .int x1, .int x2]) (r := []) (v := (some (.int z3))) (h2 := h1) c139_30 qo139 qK12_496 rfl rfl rfl (by rw [qo125]; exact e2) (Nat.le_of_ble_eq_true rfl) e4 ?_
  refine qe_if_eq_T (t := 38) c139_33 rfl e5 ?_
  exact kk
theorem b139_36 {d : Nat} {h : qH} {r0 : Nat} {x1 : Int32} {x2 : Int32} {x3 : Int32}   : qE d 139 36 [some (.ref r0), some (.int x1), some (.int x2), some (.int x3)] [] h (some (.int x3), h) := by
  refine qe_iload_n c139_36 rfl ?_
  exact qe_iret c139_37 qr139
theorem b139_38 {d : Nat} {q : Option Value × qH} {h : qH} {r0 : Nat} {x1 : Int32} {x2 : Int32} {x3 : Int32}   (kk : qE d 139 22 [some (.ref r0), some (.int x1), some (.int x2), some (.int (x3 + (-1)))] [] h q): qE d 139 38 [some (.ref r0), some (.int x1), some (.int x2), some (.int x3)] [] h q := by
  refine qe_iinc (y := (x3 + (-1))) (ls2 := [some (.ref r0), some (.int x1), some (.int x2), some (.int (x3 + (-1)))]) c139_38 rfl (Nat.le_of_ble_eq_true rfl) rfl rfl ?_
  refine qe_goto (t := 22) c139_41 rfl ?_
  exact kk
theorem b139_44 {d : Nat} {h : qH} {r0 : Nat} {x1 : Int32} {x2 : Int32} {x3 : Int32}   : qE d 139 44 [some (.ref r0), some (.int x1), some (.int x2), some (.int x3)] [] h (some (.int (-1)), h) := by
  refine qe_iconst (x := (-1)) c139_44 (by decide) ?_
  exact qe_iret c139_45 qr139
theorem b140_0 {d : Nat} {q : Option Value × qH} {h : qH} {r0 : Nat} {x1 : Int32} {x2 : Int32}   (kk : qE d 140 5 [some (.ref r0), some (.int x1), some (.int x2), some (.int 0), some (.int 0), none, none] [] h q): qE d 140 0 [some (.ref r0), some (.int x1), some (.int x2), none, none, none, none] [] h q := by
  refine qe_iconst (x := 0) c140_0 (by decide) ?_
  refine qe_istore_n (ls2 := [some (.ref r0), some (.int x1), some (.int x2), some (.int 0), none, none, none]) c140_1 (Nat.le_of_ble_eq_true rfl) rfl ?_
  refine qe_iconst (x := 0) c140_2 (by decide) ?_
  refine qe_istore (ls2 := [some (.ref r0), some (.int x1), some (.int x2), some (.int 0), some (.int 0), none, none]) c140_3 (Nat.le_of_ble_eq_true rfl) rfl ?_
  exact kk
theorem b140_5F {d : Nat} {q : Option Value × qH} {h : qH} {r0 : Nat} {x1 : Int32} {x2 : Int32} {x3 : Int32} {x4 : Int32} {fs1 : List Value} {y3 : Int32}  (e2 : h.2.2 r0 = some (.inr (12, fs1))) (e4 : fs1[3]? = some (.int y3)) (e5 : ¬ ((y3 : Int32) ≤ x4)) (kk : qE d 140 14 [some (.ref r0), some (.int x1), some (.int x2), some (.int x3), some (.int x4), none, none] [] h q): qE d 140 5 [some (.ref r0), some (.int x1), some (.int x2), some (.int x3), some (.int x4), none, none] [] h q := by
  refine qe_iload c140_5 rfl ?_
  refine qe_aload_n c140_7 rfl ?_
  refine qe_getfield c140_8 qo140 qF12_186 e2 e4 ?_
  refine qe_icmp_ge_F (t := 59) c140_11 rfl e5 ?_
  exact kk
theorem b140_5T {d : Nat} {q : Option Value × qH} {h : qH} {r0 : Nat} {x1 : Int32} {x2 : Int32} {x3 : Int32} {x4 : Int32} {fs1 : List Value} {y3 : Int32}  (e2 : h.2.2 r0 = some (.inr (12, fs1))) (e4 : fs1[3]? = some (.int y3)) (e5 : (y3 : Int32) ≤ x4) (kk : qE d 140 59 [some (.ref r0), some (.int x1), some (.int x2), some (.int x3), some (.int x4), none, none] [] h q): qE d 140 5 [some (.ref r0), some (.int x1), some (.int x2), some (.int x3), some (.int x4), none, none] [] h q := by
  refine qe_iload c140_5 rfl ?_
  refine qe_aload_n c140_7 rfl ?_
  refine qe_getfield c140_8 qo140 qF12_186 e2 e4 ?_
  refine qe_icmp_ge_T (t := 59) c140_11 rfl e5 ?_
  exact kk
theorem b140_14F {d : Nat} {q : Option Value × qH} {h : qH} {r0 : Nat} {x1 : Int32} {x2 : Int32} {x3 : Int32} {x4 : Int32} {fs1 : List Value} {y3 : Nat} {n5 : Nat} {f6 : Nat → Int32} {h1 : qH} {fs10 : List Value} {y12 : Nat} {n14 : Nat} {f15 : Nat → Int32}  (e2 : h.2.2 r0 = some (.inr (12, fs1))) (e4 : fs1[32]? = some (.ref y3)) (e7 : h.2.2 y3 = some (.inl (0, n5, .inl f6))) (e8 : 0 ≤ (x4 : Int32).toInt ∧ (x4 : Int32).toInt < (n5 : Nat)) (e9 : qset h y3 (.inl (0, n5, .inl (upd f6 ((x4 : Int32).toNatClampNeg) ((-1))))) = h1) (e11 : h1.2.2 r0 = some (.inr (12, fs10))) (e13 : fs10[24]? = some (.ref y12)) (e16 : h1.2.2 y12 = some (.inl (0, n14, .inl f15))) (e17 : 0 ≤ (x4 : Int32).toInt ∧ (x4 : Int32).toInt < (n14 : Nat)) (e18 : ((f15 (x4 : Int32).toNatClampNeg) : Int32) = x2) (kk : qE d 140 33 [some (.ref r0), some (.int x1), some (.int x2), some (.int x3), some (.int x4), none, none] [] h1 q): qE d 140 14 [some (.ref r0), some (.int x1), some (.int x2), some (.int x3), some (.int x4), none, none] [] h q := by
  refine qe_aload_n c140_14 rfl ?_
  refine qe_getfield c140_15 qo140 qF12_80 e2 e4 ?_
  refine qe_iload c140_18 rfl ?_
  refine qe_iconst (x := (-1)) c140_20 (by decide) ?_
  refine qe_iastore c140_21 e7 e8 ?_
  rw [e9]
  refine qe_aload_n c140_22 rfl ?_
  refine qe_getfield c140_23 qo140 qF12_58 e11 e13 ?_
  refine qe_iload c140_26 rfl ?_
  refine qe_iaload c140_28 e16 e17 ?_
  refine qe_iload_n c140_29 rfl ?_
  refine qe_icmp_ne_F (t := 53) c140_30 rfl e18 ?_
  exact kk
theorem b140_14T {d : Nat} {q : Option Value × qH} {h : qH} {r0 : Nat} {x1 : Int32} {x2 : Int32} {x3 : Int32} {x4 : Int32} {fs1 : List Value} {y3 : Nat} {n5 : Nat} {f6 : Nat → Int32} {h1 : qH} {fs10 : List Value} {y12 : Nat} {n14 : Nat} {f15 : Nat → Int32}  (e2 : h.2.2 r0 = some (.inr (12, fs1))) (e4 : fs1[32]? = some (.ref y3)) (e7 : h.2.2 y3 = some (.inl (0, n5, .inl f6))) (e8 : 0 ≤ (x4 : Int32).toInt ∧ (x4 : Int32).toInt < (n5 : Nat)) (e9 : qset h y3 (.inl (0, n5, .inl (upd f6 ((x4 : Int32).toNatClampNeg) ((-1))))) = h1) (e11 : h1.2.2 r0 = some (.inr (12, fs10))) (e13 : fs10[24]? = some (.ref y12)) (e16 : h1.2.2 y12 = some (.inl (0, n14, .inl f15))) (e17 : 0 ≤ (x4 : Int32).toInt ∧ (x4 : Int32).toInt < (n14 : Nat)) (e18 : ¬ (((f15 (x4 : Int32).toNatClampNeg) : Int32) = x2)) (kk : qE d 140 53 [some (.ref r0), some (.int x1), some (.int x2), some (.int x3), some (.int x4), none, none] [] h1 q): qE d 140 14 [some (.ref r0), some (.int x1), some (.int x2), some (.int x3), some (.int x4), none, none] [] h q := by
  refine qe_aload_n c140_14 rfl ?_
  refine qe_getfield c140_15 qo140 qF12_80 e2 e4 ?_
  refine qe_iload c140_18 rfl ?_
  refine qe_iconst (x := (-1)) c140_20 (by decide) ?_
  refine qe_iastore c140_21 e7 e8 ?_
  rw [e9]
  refine qe_aload_n c140_22 rfl ?_
  refine qe_getfield c140_23 qo140 qF12_58 e11 e13 ?_
  refine qe_iload c140_26 rfl ?_
  refine qe_iaload c140_28 e16 e17 ?_
  refine qe_iload_n c140_29 rfl ?_
  refine qe_icmp_ne_T (t := 53) c140_30 rfl e18 ?_
  exact kk
theorem b140_33F {d : Nat} {q : Option Value × qH} {h : qH} {r0 : Nat} {x1 : Int32} {x2 : Int32} {x3 : Int32} {x4 : Int32}  (e1 : (x4 : Int32) = x2) (kk : qE d 140 39 [some (.ref r0), some (.int x1), some (.int x2), some (.int x3), some (.int x4), none, none] [] h q): qE d 140 33 [some (.ref r0), some (.int x1), some (.int x2), some (.int x3), some (.int x4), none, none] [] h q := by
  refine qe_iload c140_33 rfl ?_
  refine qe_iload_n c140_35 rfl ?_
  refine qe_icmp_ne_F (t := 42) c140_36 rfl e1 ?_
  exact kk
theorem b140_33T {d : Nat} {q : Option Value × qH} {h : qH} {r0 : Nat} {x1 : Int32} {x2 : Int32} {x3 : Int32} {x4 : Int32}  (e1 : ¬ ((x4 : Int32) = x2)) (kk : qE d 140 42 [some (.ref r0), some (.int x1), some (.int x2), some (.int x3), some (.int x4), none, none] [] h q): qE d 140 33 [some (.ref r0), some (.int x1), some (.int x2), some (.int x3), some (.int x4), none, none] [] h q := by
  refine qe_iload c140_33 rfl ?_
  refine qe_iload_n c140_35 rfl ?_
  refine qe_icmp_ne_T (t := 42) c140_36 rfl e1 ?_
  exact kk
theorem b140_39 {d : Nat} {q : Option Value × qH} {h : qH} {r0 : Nat} {x1 : Int32} {x2 : Int32} {x3 : Int32} {x4 : Int32}   (kk : qE d 140 53 [some (.ref r0), some (.int x1), some (.int x2), some (.int x3), some (.int x4), none, none] [] h q): qE d 140 39 [some (.ref r0), some (.int x1), some (.int x2), some (.int x3), some (.int x4), none, none] [] h q := by
  refine qe_goto (t := 53) c140_39 rfl ?_
  exact kk
theorem b140_42 {d : Nat} {q : Option Value × qH} {h : qH} {r0 : Nat} {x1 : Int32} {x2 : Int32} {x3 : Int32} {x4 : Int32} {fs1 : List Value} {y3 : Nat} {n5 : Nat} {f6 : Nat → Int32} {h1 : qH}  (e2 : h.2.2 r0 = some (.inr (12, fs1))) (e4 : fs1[32]? = some (.ref y3)) (e7 : h.2.2 y3 = some (.inl (0, n5, .inl f6))) (e8 : 0 ≤ (x4 : Int32).toInt ∧ (x4 : Int32).toInt < (n5 : Nat)) (e9 : qset h y3 (.inl (0, n5, .inl (upd f6 ((x4 : Int32).toNatClampNeg) x3))) = h1) (kk : qE d 140 53 [some (.ref r0), some (.int x1), some (.int x2), some (.int (x3 + 1)), some (.int x4), none, none] [] h1 q): qE d 140 42 [some (.ref r0), some (.int x1), some (.int x2), some (.int x3), some (.int x4), none, none] [] h q := by
  refine qe_aload_n c140_42 rfl ?_
  refine qe_getfield c140_43 qo140 qF12_80 e2 e4 ?_
  refine qe_iload c140_46 rfl ?_
  refine qe_iload_n c140_48 rfl ?_
  refine qe_iastore c140_49 e7 e8 ?_
  rw [e9]
  refine qe_iinc (y := (x3 + 1)) (ls2 := [some (.ref r0), some (.int x1), some (.int x2), some (.int (x3 + 1)), some (.int x4), none, none]) c140_50 rfl (Nat.le_of_ble_eq_true rfl) rfl rfl ?_
  exact kk
theorem b140_53 {d : Nat} {q : Option Value × qH} {h : qH} {r0 : Nat} {x1 : Int32} {x2 : Int32} {x3 : Int32} {x4 : Int32}   (kk : qE d 140 5 [some (.ref r0), some (.int x1), some (.int x2), some (.int x3), some (.int (x4 + 1)), none, none] [] h q): qE d 140 53 [some (.ref r0), some (.int x1), some (.int x2), some (.int x3), some (.int x4), none, none] [] h q := by
  refine qe_iinc (y := (x4 + 1)) (ls2 := [some (.ref r0), some (.int x1), some (.int x2), some (.int x3), some (.int (x4 + 1)), none, none]) c140_53 rfl (Nat.le_of_ble_eq_true rfl) rfl rfl ?_
  refine qe_goto (t := 5) c140_56 rfl ?_
  exact kk
theorem b140_59 {d : Nat} {q : Option Value × qH} {h : qH} {r0 : Nat} {x1 : Int32} {x2 : Int32} {x3 : Int32} {x4 : Int32}   (kk : qE d 140 62 [some (.ref r0), some (.int x1), some (.int x2), some (.int x3), some (.int 0), none, none] [] h q): qE d 140 59 [some (.ref r0), some (.int x1), some (.int x2), some (.int x3), some (.int x4), none, none] [] h q := by
  refine qe_iconst (x := 0) c140_59 (by decide) ?_
  refine qe_istore (ls2 := [some (.ref r0), some (.int x1), some (.int x2), some (.int x3), some (.int 0), none, none]) c140_60 (Nat.le_of_ble_eq_true rfl) rfl ?_
  exact kk
theorem b140_62F {d : Nat} {q : Option Value × qH} {h : qH} {r0 : Nat} {x1 : Int32} {x2 : Int32} {x3 : Int32} {x4 : Int32}  (e1 : ¬ ((98 : Int32) ≤ x4)) (kk : qE d 140 69 [some (.ref r0), some (.int x1), some (.int x2), some (.int x3), some (.int x4), none, none] [] h q): qE d 140 62 [some (.ref r0), some (.int x1), some (.int x2), some (.int x3), some (.int x4), none, none] [] h q := by
  refine qe_iload c140_62 rfl ?_
  refine qe_bipush (x := 98) c140_64 (by decide) ?_
  refine qe_icmp_ge_F (t := 83) c140_66 rfl e1 ?_
  exact kk
theorem b140_62T {d : Nat} {q : Option Value × qH} {h : qH} {r0 : Nat} {x1 : Int32} {x2 : Int32} {x3 : Int32} {x4 : Int32}  (e1 : (98 : Int32) ≤ x4) (kk : qE d 140 83 [some (.ref r0), some (.int x1), some (.int x2), some (.int x3), some (.int x4), none, none] [] h q): qE d 140 62 [some (.ref r0), some (.int x1), some (.int x2), some (.int x3), some (.int x4), none, none] [] h q := by
  refine qe_iload c140_62 rfl ?_
  refine qe_bipush (x := 98) c140_64 (by decide) ?_
  refine qe_icmp_ge_T (t := 83) c140_66 rfl e1 ?_
  exact kk
theorem b140_69 {d : Nat} {q : Option Value × qH} {h : qH} {r0 : Nat} {x1 : Int32} {x2 : Int32} {x3 : Int32} {x4 : Int32} {fs1 : List Value} {y3 : Nat} {n5 : Nat} {f6 : Nat → Int64} {h1 : qH}  (e2 : h.2.2 r0 = some (.inr (12, fs1))) (e4 : fs1[31]? = some (.ref y3)) (e7 : h.2.2 y3 = some (.inl (2, n5, .inr (.inl f6)))) (e8 : 0 ≤ (x4 : Int32).toInt ∧ (x4 : Int32).toInt < (n5 : Nat)) (e9 : qset h y3 (.inl (2, n5, .inr (.inl (vp_updL f6 ((x4 : Int32).toNatClampNeg) 0)))) = h1) (kk : qE d 140 62 [some (.ref r0), some (.int x1), some (.int x2), some (.int x3), some (.int (x4 + 1)), none, none] [] h1 q): qE d 140 69 [some (.ref r0), some (.int x1), some (.int x2), some (.int x3), some (.int x4), none, none] [] h q := by
  refine qe_aload_n c140_69 rfl ?_
  refine qe_getfield c140_70 qo140 qF12_77 e2 e4 ?_
  refine qe_iload c140_73 rfl ?_
  refine qe_lconst (x := 0) c140_75 (by decide) ?_
  refine qe_lastore c140_76 e7 e8 ?_
  rw [e9]
  refine qe_iinc (y := (x4 + 1)) (ls2 := [some (.ref r0), some (.int x1), some (.int x2), some (.int x3), some (.int (x4 + 1)), none, none]) c140_77 rfl (Nat.le_of_ble_eq_true rfl) rfl rfl ?_
  refine qe_goto (t := 62) c140_80 rfl ?_
  exact kk
theorem b140_83 {d : Nat} {q : Option Value × qH} {h : qH} {r0 : Nat} {x1 : Int32} {x2 : Int32} {x3 : Int32} {x4 : Int32}   (kk : qE d 140 86 [some (.ref r0), some (.int x1), some (.int x2), some (.int x3), some (.int 0), none, none] [] h q): qE d 140 83 [some (.ref r0), some (.int x1), some (.int x2), some (.int x3), some (.int x4), none, none] [] h q := by
  refine qe_iconst (x := 0) c140_83 (by decide) ?_
  refine qe_istore (ls2 := [some (.ref r0), some (.int x1), some (.int x2), some (.int x3), some (.int 0), none, none]) c140_84 (Nat.le_of_ble_eq_true rfl) rfl ?_
  exact kk
theorem b140_86F {d : Nat} {q : Option Value × qH} {h : qH} {r0 : Nat} {x1 : Int32} {x2 : Int32} {x3 : Int32} {x4 : Int32}  (e1 : ¬ ((x3 : Int32) ≤ x4)) (kk : qE d 140 92 [some (.ref r0), some (.int x1), some (.int x2), some (.int x3), some (.int x4), none, none] [] h q): qE d 140 86 [some (.ref r0), some (.int x1), some (.int x2), some (.int x3), some (.int x4), none, none] [] h q := by
  refine qe_iload c140_86 rfl ?_
  refine qe_iload_n c140_88 rfl ?_
  refine qe_icmp_ge_F (t := 115) c140_89 rfl e1 ?_
  exact kk
theorem b140_86T {d : Nat} {q : Option Value × qH} {h : qH} {r0 : Nat} {x1 : Int32} {x2 : Int32} {x3 : Int32} {x4 : Int32}  (e1 : (x3 : Int32) ≤ x4) (kk : qE d 140 115 [some (.ref r0), some (.int x1), some (.int x2), some (.int x3), some (.int x4), none, none] [] h q): qE d 140 86 [some (.ref r0), some (.int x1), some (.int x2), some (.int x3), some (.int x4), none, none] [] h q := by
  refine qe_iload c140_86 rfl ?_
  refine qe_iload_n c140_88 rfl ?_
  refine qe_icmp_ge_T (t := 115) c140_89 rfl e1 ?_
  exact kk
theorem b140_92 {d : Nat} {q : Option Value × qH} {h : qH} {r0 : Nat} {x1 : Int32} {x2 : Int32} {x3 : Int32} {x4 : Int32} {fs1 : List Value} {y3 : Nat} {n5 : Nat} {f6 : Nat → Int64} {h1 : qH}  (e2 : h.2.2 r0 = some (.inr (12, fs1))) (e4 : fs1[31]? = some (.ref y3)) (e7 : h.2.2 y3 = some (.inl (2, n5, .inr (.inl f6)))) (e8 : 0 ≤ ((((14 * x4) + 7) + x4) : Int32).toInt ∧ ((((14 * x4) + 7) + x4) : Int32).toInt < (n5 : Nat)) (e9 : qset h y3 (.inl (2, n5, .inr (.inl (vp_updL f6 (((((14 * x4) + 7) + x4) : Int32).toNatClampNeg) 1)))) = h1) (kk : qE d 140 86 [some (.ref r0), some (.int x1), some (.int x2), some (.int x3), some (.int (x4 + 1)), none, none] [] h1 q): qE d 140 92 [some (.ref r0), some (.int x1), some (.int x2), some (.int x3), some (.int x4), none, none] [] h q := by
  refine qe_aload_n c140_92 rfl ?_
  refine qe_getfield c140_93 qo140 qF12_77 e2 e4 ?_
  refine qe_bipush (x := 14) c140_96 (by decide) ?_
  refine qe_iload c140_98 rfl ?_
  refine qe_imul c140_100 ?_
  refine qe_bipush (x := 7) c140_101 (by decide) ?_
  refine qe_iadd c140_103 ?_
  refine qe_iload c140_104 rfl ?_
  refine qe_iadd c140_106 ?_
  refine qe_lconst (x := 1) c140_107 (by decide) ?_
  refine qe_lastore c140_108 e7 e8 ?_
  rw [e9]
  refine qe_iinc (y := (x4 + 1)) (ls2 := [some (.ref r0), some (.int x1), some (.int x2), some (.int x3), some (.int (x4 + 1)), none, none]) c140_109 rfl (Nat.le_of_ble_eq_true rfl) rfl rfl ?_
  refine qe_goto (t := 86) c140_112 rfl ?_
  exact kk
theorem b140_115 {d : Nat} {q : Option Value × qH} {h : qH} {r0 : Nat} {x1 : Int32} {x2 : Int32} {x3 : Int32} {x4 : Int32}   (kk : qE d 140 118 [some (.ref r0), some (.int x1), some (.int x2), some (.int x3), some (.int 0), none, none] [] h q): qE d 140 115 [some (.ref r0), some (.int x1), some (.int x2), some (.int x3), some (.int x4), none, none] [] h q := by
  refine qe_iconst (x := 0) c140_115 (by decide) ?_
  refine qe_istore (ls2 := [some (.ref r0), some (.int x1), some (.int x2), some (.int x3), some (.int 0), none, none]) c140_116 (Nat.le_of_ble_eq_true rfl) rfl ?_
  exact kk
theorem b140_118F {d : Nat} {q : Option Value × qH} {h : qH} {r0 : Nat} {x1 : Int32} {x2 : Int32} {x3 : Int32} {x4 : Int32} {o5 : Option Value} {o6 : Option Value} {fs1 : List Value} {y3 : Int32}  (e2 : h.2.2 r0 = some (.inr (12, fs1))) (e4 : fs1[4]? = some (.int y3)) (e5 : ¬ ((y3 : Int32) ≤ x4)) (kk : qE d 140 127 [some (.ref r0), some (.int x1), some (.int x2), some (.int x3), some (.int x4), o5, o6] [] h q): qE d 140 118 [some (.ref r0), some (.int x1), some (.int x2), some (.int x3), some (.int x4), o5, o6] [] h q := by
  refine qe_iload c140_118 rfl ?_
  refine qe_aload_n c140_120 rfl ?_
  refine qe_getfield c140_121 qo140 qF12_194 e2 e4 ?_
  refine qe_icmp_ge_F (t := 309) c140_124 rfl e5 ?_
  exact kk
theorem b140_118T {d : Nat} {q : Option Value × qH} {h : qH} {r0 : Nat} {x1 : Int32} {x2 : Int32} {x3 : Int32} {x4 : Int32} {o5 : Option Value} {o6 : Option Value} {fs1 : List Value} {y3 : Int32}  (e2 : h.2.2 r0 = some (.inr (12, fs1))) (e4 : fs1[4]? = some (.int y3)) (e5 : (y3 : Int32) ≤ x4) (kk : qE d 140 309 [some (.ref r0), some (.int x1), some (.int x2), some (.int x3), some (.int x4), o5, o6] [] h q): qE d 140 118 [some (.ref r0), some (.int x1), some (.int x2), some (.int x3), some (.int x4), o5, o6] [] h q := by
  refine qe_iload c140_118 rfl ?_
  refine qe_aload_n c140_120 rfl ?_
  refine qe_getfield c140_121 qo140 qF12_194 e2 e4 ?_
  refine qe_icmp_ge_T (t := 309) c140_124 rfl e5 ?_
  exact kk
theorem b140_127F {d : Nat} {q : Option Value × qH} {h : qH} {r0 : Nat} {x1 : Int32} {x2 : Int32} {x3 : Int32} {x4 : Int32} {o5 : Option Value} {o6 : Option Value} {fs1 : List Value} {y3 : Nat} {n5 : Nat} {f6 : Nat → Int32}  (e2 : h.2.2 r0 = some (.inr (12, fs1))) (e4 : fs1[10]? = some (.ref y3)) (e7 : h.2.2 y3 = some (.inl (0, n5, .inl f6))) (e8 : 0 ≤ ((x1 + x4) : Int32).toInt ∧ ((x1 + x4) : Int32).toInt < (n5 : Nat)) (e9 : ((f6 ((x1 + x4) : Int32).toNatClampNeg) : Int32) = 0) (kk : qE d 140 139 [some (.ref r0), some (.int x1), some (.int x2), some (.int x3), some (.int x4), o5, o6] [] h q): qE d 140 127 [some (.ref r0), some (.int x1), some (.int x2), some (.int x3), some (.int x4), o5, o6] [] h q := by
  refine qe_aload_n c140_127 rfl ?_
  refine qe_getfield c140_128 qo140 qF12_14 e2 e4 ?_
  refine qe_iload_n c140_131 rfl ?_
  refine qe_iload c140_132 rfl ?_
  refine qe_iadd c140_134 ?_
  refine qe_iaload c140_135 e7 e8 ?_
  refine qe_if_ne_F (t := 303) c140_136 rfl e9 ?_
  exact kk
theorem b140_127T {d : Nat} {q : Option Value × qH} {h : qH} {r0 : Nat} {x1 : Int32} {x2 : Int32} {x3 : Int32} {x4 : Int32} {o5 : Option Value} {o6 : Option Value} {fs1 : List Value} {y3 : Nat} {n5 : Nat} {f6 : Nat → Int32}  (e2 : h.2.2 r0 = some (.inr (12, fs1))) (e4 : fs1[10]? = some (.ref y3)) (e7 : h.2.2 y3 = some (.inl (0, n5, .inl f6))) (e8 : 0 ≤ ((x1 + x4) : Int32).toInt ∧ ((x1 + x4) : Int32).toInt < (n5 : Nat)) (e9 : ¬ (((f6 ((x1 + x4) : Int32).toNatClampNeg) : Int32) = 0)) (kk : qE d 140 303 [some (.ref r0), some (.int x1), some (.int x2), some (.int x3), some (.int x4), o5, o6] [] h q): qE d 140 127 [some (.ref r0), some (.int x1), some (.int x2), some (.int x3), some (.int x4), o5, o6] [] h q := by
  refine qe_aload_n c140_127 rfl ?_
  refine qe_getfield c140_128 qo140 qF12_14 e2 e4 ?_
  refine qe_iload_n c140_131 rfl ?_
  refine qe_iload c140_132 rfl ?_
  refine qe_iadd c140_134 ?_
  refine qe_iaload c140_135 e7 e8 ?_
  refine qe_if_ne_T (t := 303) c140_136 rfl e9 ?_
  exact kk
theorem b140_139F {d : Nat} {q : Option Value × qH} {h : qH} {r0 : Nat} {x1 : Int32} {x2 : Int32} {x3 : Int32} {x4 : Int32} {o5 : Option Value} {o6 : Option Value} {fs1 : List Value} {y3 : Nat} {y5 : Nat} {n7 : Nat} {f8 : Nat → Int32} {n11 : Nat} {f12 : Nat → Int32}  (e2 : h.2.2 r0 = some (.inr (12, fs1))) (e4 : fs1[24]? = some (.ref y3)) (e6 : fs1[13]? = some (.ref y5)) (e9 : h.2.2 y5 = some (.inl (0, n7, .inl f8))) (e10 : 0 ≤ (x4 : Int32).toInt ∧ (x4 : Int32).toInt < (n7 : Nat)) (e13 : h.2.2 y3 = some (.inl (0, n11, .inl f12))) (e14 : 0 ≤ ((f8 (x4 : Int32).toNatClampNeg) : Int32).toInt ∧ ((f8 (x4 : Int32).toNatClampNeg) : Int32).toInt < (n11 : Nat)) (e15 : ¬ (((f12 ((f8 (x4 : Int32).toNatClampNeg) : Int32).toNatClampNeg) : Int32) = x2)) (kk : qE d 140 155 [some (.ref r0), some (.int x1), some (.int x2), some (.int x3), some (.int x4), o5, o6] [] h q): qE d 140 139 [some (.ref r0), some (.int x1), some (.int x2), some (.int x3), some (.int x4), o5, o6] [] h q := by
  refine qe_aload_n c140_139 rfl ?_
  refine qe_getfield c140_140 qo140 qF12_58 e2 e4 ?_
  refine qe_aload_n c140_143 rfl ?_
  refine qe_getfield c140_144 qo140 qF12_24 e2 e6 ?_
  refine qe_iload c140_147 rfl ?_
  refine qe_iaload c140_149 e9 e10 ?_
  refine qe_iaload c140_150 e13 e14 ?_
  refine qe_iload_n c140_151 rfl ?_
  refine qe_icmp_eq_F (t := 158) c140_152 rfl e15 ?_
  exact kk
theorem b140_139T {d : Nat} {q : Option Value × qH} {h : qH} {r0 : Nat} {x1 : Int32} {x2 : Int32} {x3 : Int32} {x4 : Int32} {o5 : Option Value} {o6 : Option Value} {fs1 : List Value} {y3 : Nat} {y5 : Nat} {n7 : Nat} {f8 : Nat → Int32} {n11 : Nat} {f12 : Nat → Int32}  (e2 : h.2.2 r0 = some (.inr (12, fs1))) (e4 : fs1[24]? = some (.ref y3)) (e6 : fs1[13]? = some (.ref y5)) (e9 : h.2.2 y5 = some (.inl (0, n7, .inl f8))) (e10 : 0 ≤ (x4 : Int32).toInt ∧ (x4 : Int32).toInt < (n7 : Nat)) (e13 : h.2.2 y3 = some (.inl (0, n11, .inl f12))) (e14 : 0 ≤ ((f8 (x4 : Int32).toNatClampNeg) : Int32).toInt ∧ ((f8 (x4 : Int32).toNatClampNeg) : Int32).toInt < (n11 : Nat)) (e15 : ((f12 ((f8 (x4 : Int32).toNatClampNeg) : Int32).toNatClampNeg) : Int32) = x2) (kk : qE d 140 158 [some (.ref r0), some (.int x1), some (.int x2), some (.int x3), some (.int x4), o5, o6] [] h q): qE d 140 139 [some (.ref r0), some (.int x1), some (.int x2), some (.int x3), some (.int x4), o5, o6] [] h q := by
  refine qe_aload_n c140_139 rfl ?_
  refine qe_getfield c140_140 qo140 qF12_58 e2 e4 ?_
  refine qe_aload_n c140_143 rfl ?_
  refine qe_getfield c140_144 qo140 qF12_24 e2 e6 ?_
  refine qe_iload c140_147 rfl ?_
  refine qe_iaload c140_149 e9 e10 ?_
  refine qe_iaload c140_150 e13 e14 ?_
  refine qe_iload_n c140_151 rfl ?_
  refine qe_icmp_eq_T (t := 158) c140_152 rfl e15 ?_
  exact kk
theorem b140_155 {d : Nat} {q : Option Value × qH} {h : qH} {r0 : Nat} {x1 : Int32} {x2 : Int32} {x3 : Int32} {x4 : Int32} {o5 : Option Value} {o6 : Option Value}   (kk : qE d 140 303 [some (.ref r0), some (.int x1), some (.int x2), some (.int x3), some (.int x4), o5, o6] [] h q): qE d 140 155 [some (.ref r0), some (.int x1), some (.int x2), some (.int x3), some (.int x4), o5, o6] [] h q := by
  refine qe_goto (t := 303) c140_155 rfl ?_
  exact kk
theorem b140_158F {d : Nat} {q : Option Value × qH} {h : qH} {r0 : Nat} {x1 : Int32} {x2 : Int32} {x3 : Int32} {x4 : Int32} {o5 : Option Value} {o6 : Option Value} {fs1 : List Value} {y3 : Nat} {y5 : Nat} {n7 : Nat} {f8 : Nat → Int32} {n11 : Nat} {f12 : Nat → Int32} {y16 : Nat} {n18 : Nat} {f19 : Nat → Int32}  (e2 : h.2.2 r0 = some (.inr (12, fs1))) (e4 : fs1[32]? = some (.ref y3)) (e6 : fs1[13]? = some (.ref y5)) (e9 : h.2.2 y5 = some (.inl (0, n7, .inl f8))) (e10 : 0 ≤ (x4 : Int32).toInt ∧ (x4 : Int32).toInt < (n7 : Nat)) (e13 : h.2.2 y3 = some (.inl (0, n11, .inl f12))) (e14 : 0 ≤ ((f8 (x4 : Int32).toNatClampNeg) : Int32).toInt ∧ ((f8 (x4 : Int32).toNatClampNeg) : Int32).toInt < (n11 : Nat)) (e17 : fs1[14]? = some (.ref y16)) (e20 : h.2.2 y16 = some (.inl (0, n18, .inl f19))) (e21 : 0 ≤ (x4 : Int32).toInt ∧ (x4 : Int32).toInt < (n18 : Nat)) (e22 : 0 ≤ ((f19 (x4 : Int32).toNatClampNeg) : Int32).toInt ∧ ((f19 (x4 : Int32).toNatClampNeg) : Int32).toInt < (n11 : Nat)) (e23 : ¬ (((f12 ((f8 (x4 : Int32).toNatClampNeg) : Int32).toNatClampNeg) : Int32) = (-1))) (kk : qE d 140 192 [some (.ref r0), some (.int x1), some (.int x2), some (.int x3), some (.int x4), some (.int (f12 ((f8 (x4 : Int32).toNatClampNeg) : Int32).toNatClampNeg)), some (.int (f12 ((f19 (x4 : Int32).toNatClampNeg) : Int32).toNatClampNeg))] [] h q): qE d 140 158 [some (.ref r0), some (.int x1), some (.int x2), some (.int x3), some (.int x4), o5, o6] [] h q := by
  refine qe_aload_n c140_158 rfl ?_
  refine qe_getfield c140_159 qo140 qF12_80 e2 e4 ?_
  refine qe_aload_n c140_162 rfl ?_
  refine qe_getfield c140_163 qo140 qF12_24 e2 e6 ?_
  refine qe_iload c140_166 rfl ?_
  refine qe_iaload c140_168 e9 e10 ?_
  refine qe_iaload c140_169 e13 e14 ?_
  refine qe_istore (ls2 := [some (.ref r0), some (.int x1), some (.int x2), some (.int x3), some (.int x4), some (.int (f12 ((f8 (x4 : Int32).toNatClampNeg) : Int32).toNatClampNeg)), o6]) c140_170 (Nat.le_of_ble_eq_true rfl) rfl ?_
  refine qe_aload_n c140_172 rfl ?_
  refine qe_getfield c140_173 qo140 qF12_80 e2 e4 ?_
  refine qe_aload_n c140_176 rfl ?_
  refine qe_getfield c140_177 qo140 qF12_27 e2 e17 ?_
  refine qe_iload c140_180 rfl ?_
  refine qe_iaload c140_182 e20 e21 ?_
  refine qe_iaload c140_183 e13 e22 ?_
  refine qe_istore (ls2 := [some (.ref r0), some (.int x1), some (.int x2), some (.int x3), some (.int x4), some (.int (f12 ((f8 (x4 : Int32).toNatClampNeg) : Int32).toNatClampNeg)), some (.int (f12 ((f19 (x4 : Int32).toNatClampNeg) : Int32).toNatClampNeg))]) c140_184 (Nat.le_of_ble_eq_true rfl) rfl ?_
  refine qe_iload c140_186 rfl ?_
  refine qe_iconst (x := (-1)) c140_188 (by decide) ?_
  refine qe_icmp_eq_F (t := 213) c140_189 rfl e23 ?_
  exact kk
theorem b140_158T {d : Nat} {q : Option Value × qH} {h : qH} {r0 : Nat} {x1 : Int32} {x2 : Int32} {x3 : Int32} {x4 : Int32} {o5 : Option Value} {o6 : Option Value} {fs1 : List Value} {y3 : Nat} {y5 : Nat} {n7 : Nat} {f8 : Nat → Int32} {n11 : Nat} {f12 : Nat → Int32} {y16 : Nat} {n18 : Nat} {f19 : Nat → Int32}  (e2 : h.2.2 r0 = some (.inr (12, fs1))) (e4 : fs1[32]? = some (.ref y3)) (e6 : fs1[13]? = some (.ref y5)) (e9 : h.2.2 y5 = some (.inl (0, n7, .inl f8))) (e10 : 0 ≤ (x4 : Int32).toInt ∧ (x4 : Int32).toInt < (n7 : Nat)) (e13 : h.2.2 y3 = some (.inl (0, n11, .inl f12))) (e14 : 0 ≤ ((f8 (x4 : Int32).toNatClampNeg) : Int32).toInt ∧ ((f8 (x4 : Int32).toNatClampNeg) : Int32).toInt < (n11 : Nat)) (e17 : fs1[14]? = some (.ref y16)) (e20 : h.2.2 y16 = some (.inl (0, n18, .inl f19))) (e21 : 0 ≤ (x4 : Int32).toInt ∧ (x4 : Int32).toInt < (n18 : Nat)) (e22 : 0 ≤ ((f19 (x4 : Int32).toNatClampNeg) : Int32).toInt ∧ ((f19 (x4 : Int32).toNatClampNeg) : Int32).toInt < (n11 : Nat)) (e23 : ((f12 ((f8 (x4 : Int32).toNatClampNeg) : Int32).toNatClampNeg) : Int32) = (-1)) (kk : qE d 140 213 [some (.ref r0), some (.int x1), some (.int x2), some (.int x3), some (.int x4), some (.int (f12 ((f8 (x4 : Int32).toNatClampNeg) : Int32).toNatClampNeg)), some (.int (f12 ((f19 (x4 : Int32).toNatClampNeg) : Int32).toNatClampNeg))] [] h q): qE d 140 158 [some (.ref r0), some (.int x1), some (.int x2), some (.int x3), some (.int x4), o5, o6] [] h q := by
  refine qe_aload_n c140_158 rfl ?_
  refine qe_getfield c140_159 qo140 qF12_80 e2 e4 ?_
  refine qe_aload_n c140_162 rfl ?_
  refine qe_getfield c140_163 qo140 qF12_24 e2 e6 ?_
  refine qe_iload c140_166 rfl ?_
  refine qe_iaload c140_168 e9 e10 ?_
  refine qe_iaload c140_169 e13 e14 ?_
  refine qe_istore (ls2 := [some (.ref r0), some (.int x1), some (.int x2), some (.int x3), some (.int x4), some (.int (f12 ((f8 (x4 : Int32).toNatClampNeg) : Int32).toNatClampNeg)), o6]) c140_170 (Nat.le_of_ble_eq_true rfl) rfl ?_
  refine qe_aload_n c140_172 rfl ?_
  refine qe_getfield c140_173 qo140 qF12_80 e2 e4 ?_
  refine qe_aload_n c140_176 rfl ?_
  refine qe_getfield c140_177 qo140 qF12_27 e2 e17 ?_
  refine qe_iload c140_180 rfl ?_
  refine qe_iaload c140_182 e20 e21 ?_
  refine qe_iaload c140_183 e13 e22 ?_
  refine qe_istore (ls2 := [some (.ref r0), some (.int x1), some (.int x2), some (.int x3), some (.int x4), some (.int (f12 ((f8 (x4 : Int32).toNatClampNeg) : Int32).toNatClampNeg)), some (.int (f12 ((f19 (x4 : Int32).toNatClampNeg) : Int32).toNatClampNeg))]) c140_184 (Nat.le_of_ble_eq_true rfl) rfl ?_
  refine qe_iload c140_186 rfl ?_
  refine qe_iconst (x := (-1)) c140_188 (by decide) ?_
  refine qe_icmp_eq_T (t := 213) c140_189 rfl e23 ?_
  exact kk
theorem b140_192 {d : Nat} {q : Option Value × qH} {h : qH} {r0 : Nat} {x1 : Int32} {x2 : Int32} {x3 : Int32} {x4 : Int32} {x5 : Int32} {x6 : Int32} {fs1 : List Value} {y3 : Nat} {n5 : Nat} {f6 : Nat → Int64} {y9 : Nat} {n11 : Nat} {f12 : Nat → Int32} {h1 : qH}  (e2 : h.2.2 r0 = some (.inr (12, fs1))) (e4 : fs1[31]? = some (.ref y3)) (e7 : h.2.2 y3 = some (.inl (2, n5, .inr (.inl f6)))) (e8 : 0 ≤ ((15 * x5) : Int32).toInt ∧ ((15 * x5) : Int32).toInt < (n5 : Nat)) (e10 : fs1[15]? = some (.ref y9)) (e13 : h.2.2 y9 = some (.inl (0, n11, .inl f12))) (e14 : 0 ≤ (x4 : Int32).toInt ∧ (x4 : Int32).toInt < (n11 : Nat)) (e15 : 0 ≤ ((15 * x5) : Int32).toInt ∧ ((15 * x5) : Int32).toInt < (n5 : Nat)) (e16 : qset h y3 (.inl (2, n5, .inr (.inl (vp_updL f6 (((15 * x5) : Int32).toNatClampNeg) (((f6 ((15 * x5) : Int32).toNatClampNeg) + ((f12 (x4 : Int32).toNatClampNeg) : Int32).toInt64)))))) = h1) (kk : qE d 140 213 [some (.ref r0), some (.int x1), some (.int x2), some (.int x3), some (.int x4), some (.int x5), some (.int x6)] [] h1 q): qE d 140 192 [some (.ref r0), some (.int x1), some (.int x2), some (.int x3), some (.int x4), some (.int x5), some (.int x6)] [] h q := by
  refine qe_aload_n c140_192 rfl ?_
  refine qe_getfield c140_193 qo140 qF12_77 e2 e4 ?_
  refine qe_bipush (x := 15) c140_196 (by decide) ?_
  refine qe_iload c140_198 rfl ?_
  refine qe_imul c140_200 ?_
  refine qe_dup2 c140_201 (Nat.ne_of_beq_eq_false rfl) rfl ?_
  refine qe_laload c140_202 e7 e8 ?_
  refine qe_aload_n c140_203 rfl ?_
  refine qe_getfield c140_204 qo140 qF12_30 e2 e10 ?_
  refine qe_iload c140_207 rfl ?_
  refine qe_iaload c140_209 e13 e14 ?_
  refine qe_i2l c140_210 ?_
  refine qe_ladd c140_211 ?_
  refine qe_lastore c140_212 e7 e15 ?_
  rw [e16]
  exact kk
theorem b140_213F {d : Nat} {q : Option Value × qH} {h : qH} {r0 : Nat} {x1 : Int32} {x2 : Int32} {x3 : Int32} {x4 : Int32} {x5 : Int32} {x6 : Int32}  (e1 : ¬ ((x6 : Int32) = (-1))) (kk : qE d 140 219 [some (.ref r0), some (.int x1), some (.int x2), some (.int x3), some (.int x4), some (.int x5), some (.int x6)] [] h q): qE d 140 213 [some (.ref r0), some (.int x1), some (.int x2), some (.int x3), some (.int x4), some (.int x5), some (.int x6)] [] h q := by
  refine qe_iload c140_213 rfl ?_
  refine qe_iconst (x := (-1)) c140_215 (by decide) ?_
  refine qe_icmp_eq_F (t := 240) c140_216 rfl e1 ?_
  exact kk
theorem b140_213T {d : Nat} {q : Option Value × qH} {h : qH} {r0 : Nat} {x1 : Int32} {x2 : Int32} {x3 : Int32} {x4 : Int32} {x5 : Int32} {x6 : Int32}  (e1 : (x6 : Int32) = (-1)) (kk : qE d 140 240 [some (.ref r0), some (.int x1), some (.int x2), some (.int x3), some (.int x4), some (.int x5), some (.int x6)] [] h q): qE d 140 213 [some (.ref r0), some (.int x1), some (.int x2), some (.int x3), some (.int x4), some (.int x5), some (.int x6)] [] h q := by
  refine qe_iload c140_213 rfl ?_
  refine qe_iconst (x := (-1)) c140_215 (by decide) ?_
  refine qe_icmp_eq_T (t := 240) c140_216 rfl e1 ?_
  exact kk
theorem b140_219 {d : Nat} {q : Option Value × qH} {h : qH} {r0 : Nat} {x1 : Int32} {x2 : Int32} {x3 : Int32} {x4 : Int32} {x5 : Int32} {x6 : Int32} {fs1 : List Value} {y3 : Nat} {n5 : Nat} {f6 : Nat → Int64} {y9 : Nat} {n11 : Nat} {f12 : Nat → Int32} {h1 : qH}  (e2 : h.2.2 r0 = some (.inr (12, fs1))) (e4 : fs1[31]? = some (.ref y3)) (e7 : h.2.2 y3 = some (.inl (2, n5, .inr (.inl f6)))) (e8 : 0 ≤ ((15 * x6) : Int32).toInt ∧ ((15 * x6) : Int32).toInt < (n5 : Nat)) (e10 : fs1[15]? = some (.ref y9)) (e13 : h.2.2 y9 = some (.inl (0, n11, .inl f12))) (e14 : 0 ≤ (x4 : Int32).toInt ∧ (x4 : Int32).toInt < (n11 : Nat)) (e15 : 0 ≤ ((15 * x6) : Int32).toInt ∧ ((15 * x6) : Int32).toInt < (n5 : Nat)) (e16 : qset h y3 (.inl (2, n5, .inr (.inl (vp_updL f6 (((15 * x6) : Int32).toNatClampNeg) (((f6 ((15 * x6) : Int32).toNatClampNeg) + ((f12 (x4 : Int32).toNatClampNeg) : Int32).toInt64)))))) = h1) (kk : qE d 140 240 [some (.ref r0), some (.int x1), some (.int x2), some (.int x3), some (.int x4), some (.int x5), some (.int x6)] [] h1 q): qE d 140 219 [some (.ref r0), some (.int x1), some (.int x2), some (.int x3), some (.int x4), some (.int x5), some (.int x6)] [] h q := by
  refine qe_aload_n c140_219 rfl ?_
  refine qe_getfield c140_220 qo140 qF12_77 e2 e4 ?_
  refine qe_bipush (x := 15) c140_223 (by decide) ?_
  refine qe_iload c140_225 rfl ?_
  refine qe_imul c140_227 ?_
  refine qe_dup2 c140_228 (Nat.ne_of_beq_eq_false rfl) rfl ?_
  refine qe_laload c140_229 e7 e8 ?_
  refine qe_aload_n c140_230 rfl ?_
  refine qe_getfield c140_231 qo140 qF12_30 e2 e10 ?_
  refine qe_iload c140_234 rfl ?_
  refine qe_iaload c140_236 e13 e14 ?_
  refine qe_i2l c140_237 ?_
  refine qe_ladd c140_238 ?_
  refine qe_lastore c140_239 e7 e15 ?_
  rw [e16]
  exact kk
theorem b140_240F {d : Nat} {q : Option Value × qH} {h : qH} {r0 : Nat} {x1 : Int32} {x2 : Int32} {x3 : Int32} {x4 : Int32} {x5 : Int32} {x6 : Int32}  (e1 : ¬ ((x5 : Int32) = (-1))) (kk : qE d 140 246 [some (.ref r0), some (.int x1), some (.int x2), some (.int x3), some (.int x4), some (.int x5), some (.int x6)] [] h q): qE d 140 240 [some (.ref r0), some (.int x1), some (.int x2), some (.int x3), some (.int x4), some (.int x5), some (.int x6)] [] h q := by
  refine qe_iload c140_240 rfl ?_
  refine qe_iconst (x := (-1)) c140_242 (by decide) ?_
  refine qe_icmp_eq_F (t := 303) c140_243 rfl e1 ?_
  exact kk
theorem b140_240T {d : Nat} {q : Option Value × qH} {h : qH} {r0 : Nat} {x1 : Int32} {x2 : Int32} {x3 : Int32} {x4 : Int32} {x5 : Int32} {x6 : Int32}  (e1 : (x5 : Int32) = (-1)) (kk : qE d 140 303 [some (.ref r0), some (.int x1), some (.int x2), some (.int x3), some (.int x4), some (.int x5), some (.int x6)] [] h q): qE d 140 240 [some (.ref r0), some (.int x1), some (.int x2), some (.int x3), some (.int x4), some (.int x5), some (.int x6)] [] h q := by
  refine qe_iload c140_240 rfl ?_
  refine qe_iconst (x := (-1)) c140_242 (by decide) ?_
  refine qe_icmp_eq_T (t := 303) c140_243 rfl e1 ?_
  exact kk
theorem b140_246F {d : Nat} {q : Option Value × qH} {h : qH} {r0 : Nat} {x1 : Int32} {x2 : Int32} {x3 : Int32} {x4 : Int32} {x5 : Int32} {x6 : Int32}  (e1 : (x6 : Int32) = (-1)) (kk : qE d 140 252 [some (.ref r0), some (.int x1), some (.int x2), some (.int x3), some (.int x4), some (.int x5), some (.int x6)] [] h q): qE d 140 246 [some (.ref r0), some (.int x1), some (.int x2), some (.int x3), some (.int x4), some (.int x5), some (.int x6)] [] h q := by
  refine qe_iload c140_246 rfl ?_
  refine qe_iconst (x := (-1)) c140_248 (by decide) ?_
  refine qe_icmp_ne_F (t := 255) c140_249 rfl e1 ?_
  exact kk
theorem b140_246T {d : Nat} {q : Option Value × qH} {h : qH} {r0 : Nat} {x1 : Int32} {x2 : Int32} {x3 : Int32} {x4 : Int32} {x5 : Int32} {x6 : Int32}  (e1 : ¬ ((x6 : Int32) = (-1))) (kk : qE d 140 255 [some (.ref r0), some (.int x1), some (.int x2), some (.int x3), some (.int x4), some (.int x5), some (.int x6)] [] h q): qE d 140 246 [some (.ref r0), some (.int x1), some (.int x2), some (.int x3), some (.int x4), some (.int x5), some (.int x6)] [] h q := by
  refine qe_iload c140_246 rfl ?_
  refine qe_iconst (x := (-1)) c140_248 (by decide) ?_
  refine qe_icmp_ne_T (t := 255) c140_249 rfl e1 ?_
  exact kk
theorem b140_252 {d : Nat} {q : Option Value × qH} {h : qH} {r0 : Nat} {x1 : Int32} {x2 : Int32} {x3 : Int32} {x4 : Int32} {x5 : Int32} {x6 : Int32}   (kk : qE d 140 303 [some (.ref r0), some (.int x1), some (.int x2), some (.int x3), some (.int x4), some (.int x5), some (.int x6)] [] h q): qE d 140 252 [some (.ref r0), some (.int x1), some (.int x2), some (.int x3), some (.int x4), some (.int x5), some (.int x6)] [] h q := by
  refine qe_goto (t := 303) c140_252 rfl ?_
  exact kk
theorem b140_255 {d : Nat} {q : Option Value × qH} {h : qH} {r0 : Nat} {x1 : Int32} {x2 : Int32} {x3 : Int32} {x4 : Int32} {x5 : Int32} {x6 : Int32} {fs1 : List Value} {y3 : Nat} {n5 : Nat} {f6 : Nat → Int64} {y9 : Nat} {n11 : Nat} {f12 : Nat → Int32} {h1 : qH} {fs17 : List Value} {y19 : Nat} {n21 : Nat} {f22 : Nat → Int64} {y25 : Nat} {n27 : Nat} {f28 : Nat → Int32} {h2 : qH}  (e2 : h.2.2 r0 = some (.inr (12, fs1))) (e4 : fs1[31]? = some (.ref y3)) (e7 : h.2.2 y3 = some (.inl (2, n5, .inr (.inl f6)))) (e8 : 0 ≤ (((14 * x5) + x6) : Int32).toInt ∧ (((14 * x5) + x6) : Int32).toInt < (n5 : Nat)) (e10 : fs1[15]? = some (.ref y9)) (e13 : h.2.2 y9 = some (.inl (0, n11, .inl f12))) (e14 : 0 ≤ (x4 : Int32).toInt ∧ (x4 : Int32).toInt < (n11 : Nat)) (e15 : 0 ≤ (((14 * x5) + x6) : Int32).toInt ∧ (((14 * x5) + x6) : Int32).toInt < (n5 : Nat)) (e16 : qset h y3 (.inl (2, n5, .inr (.inl (vp_updL f6 ((((14 * x5) + x6) : Int32).toNatClampNeg) (((f6 (((14 * x5) + x6) : Int32).toNatClampNeg) - ((f12 (x4 : Int32).toNatClampNeg) : Int32).toInt64)))))) = h1) (e18 : h1.2.2 r0 = some (.inr (12, fs17))) (e20 : fs17[31]? = some (.ref y19)) (e23 : h1.2.2 y19 = some (.inl (2, n21, .inr (.inl f22)))) (e24 : 0 ≤ (((14 * x6) + x5) : Int32).toInt ∧ (((14 * x6) + x5) : Int32).toInt < (n21 : Nat)) (e26 : fs17[15]? = some (.ref y25)) (e29 : h1.2.2 y25 = some (.inl (0, n27, .inl f28))) (e30 : 0 ≤ (x4 : Int32).toInt ∧ (x4 : Int32).toInt < (n27 : Nat)) (e31 : 0 ≤ (((14 * x6) + x5) : Int32).toInt ∧ (((14 * x6) + x5) : Int32).toInt < (n21 : Nat)) (e32 : qset h1 y19 (.inl (2, n21, .inr (.inl (vp_updL f22 ((((14 * x6) + x5) : Int32).toNatClampNeg) (((f22 (((14 * x6) + x5) : Int32).toNatClampNeg) - ((f28 (x4 : Int32).toNatClampNeg) : Int32).toInt64)))))) = h2) (kk : qE d 140 303 [some (.ref r0), some (.int x1), some (.int x2), some (.int x3), some (.int x4), some (.int x5), some (.int x6)] [] h2 q): qE d 140 255 [some (.ref r0), some (.int x1), some (.int x2), some (.int x3), some (.int x4), some (.int x5), some (.int x6)] [] h q := by
  refine qe_aload_n c140_255 rfl ?_
  refine qe_getfield c140_256 qo140 qF12_77 e2 e4 ?_
  refine qe_bipush (x := 14) c140_259 (by decide) ?_
  refine qe_iload c140_261 rfl ?_
  refine qe_imul c140_263 ?_
  refine qe_iload c140_264 rfl ?_
  refine qe_iadd c140_266 ?_
  refine qe_dup2 c140_267 (Nat.ne_of_beq_eq_false rfl) rfl ?_
  refine qe_laload c140_268 e7 e8 ?_
  refine qe_aload_n c140_269 rfl ?_
  refine qe_getfield c140_270 qo140 qF12_30 e2 e10 ?_
  refine qe_iload c140_273 rfl ?_
  refine qe_iaload c140_275 e13 e14 ?_
  refine qe_i2l c140_276 ?_
  refine qe_lsub c140_277 ?_
  refine qe_lastore c140_278 e7 e15 ?_
  rw [e16]
  refine qe_aload_n c140_279 rfl ?_
  refine qe_getfield c140_280 qo140 qF12_77 e18 e20 ?_
  refine qe_bipush (x := 14) c140_283 (by decide) ?_
  refine qe_iload c140_285 rfl ?_
  refine qe_imul c140_287 ?_
  refine qe_iload c140_288 rfl ?_
  refine qe_iadd c140_290 ?_
  refine qe_dup2 c140_291 (Nat.ne_of_beq_eq_false rfl) rfl ?_
  refine qe_laload c140_292 e23 e24 ?_
  refine qe_aload_n c140_293 rfl ?_
  refine qe_getfield c140_294 qo140 qF12_30 e18 e26 ?_
  refine qe_iload c140_297 rfl ?_
  refine qe_iaload c140_299 e29 e30 ?_
  refine qe_i2l c140_300 ?_
  refine qe_lsub c140_301 ?_
  refine qe_lastore c140_302 e23 e31 ?_
  rw [e32]
  exact kk
theorem b140_303 {d : Nat} {q : Option Value × qH} {h : qH} {r0 : Nat} {x1 : Int32} {x2 : Int32} {x3 : Int32} {x4 : Int32} {o5 : Option Value} {o6 : Option Value}   (kk : qE d 140 118 [some (.ref r0), some (.int x1), some (.int x2), some (.int x3), some (.int (x4 + 1)), o5, o6] [] h q): qE d 140 303 [some (.ref r0), some (.int x1), some (.int x2), some (.int x3), some (.int x4), o5, o6] [] h q := by
  refine qe_iinc (y := (x4 + 1)) (ls2 := [some (.ref r0), some (.int x1), some (.int x2), some (.int x3), some (.int (x4 + 1)), o5, o6]) c140_303 rfl (Nat.le_of_ble_eq_true rfl) rfl rfl ?_
  refine qe_goto (t := 118) c140_306 rfl ?_
  exact kk
theorem b140_309 {d : Nat} {h : qH} {r0 : Nat} {x1 : Int32} {x2 : Int32} {x3 : Int32} {x4 : Int32} {o5 : Option Value} {o6 : Option Value}   : qE d 140 309 [some (.ref r0), some (.int x1), some (.int x2), some (.int x3), some (.int x4), o5, o6] [] h (some (.int x3), h) := by
  refine qe_iload_n c140_309 rfl ?_
  exact qe_iret c140_310 qr140
theorem b141_0F {d : Nat} {q : Option Value × qH} {h : qH} {r0 : Nat} {x1 : Int32} {x2 : Int32} {fs1 : List Value} {y3 : Int32} {h1 : qH} {z5 : Int32}  (e2 : h.2.2 r0 = some (.inr (12, fs1))) (e4 : fs1[2]? = some (.int y3)) (e6 : qCall d 143 [.long (x1 : Int32).toInt64, .long 0, .long (y3 : Int32).toInt64] h ((some (.int z5)), h1)) (e7 : ¬ ((z5 : Int32) = 0)) (kk : qE d 141 14 [some (.ref r0), some (.int x1), some (.int x2), none, none, none, none, none, none] [] h1 q): qE d 141 0 [some (.ref r0), some (.int x1), some (.int x2), none, none, none, none, none, none] [] h q := by
  refine qe_iload_n c141_0 rfl ?_
  refine qe_i2l c141_1 ?_
  refine qe_lconst (x := 0) c141_2 (by decide) ?_
  refine qe_aload_n c141_3 rfl ?_
  refine qe_getfield c141_4 qo141 qF12_202 e2 e4 ?_
  refine qe_i2l c141_7 ?_
  refine qe_static (as := [.long (x1 : Int32).toInt64, .long 0, .long (y3 : Int32).toInt64]) (r := []) (v := (some (.int z5))) (h2 := h1) c141_8 qo141 (by decide) qK12_190 rfl rfl rfl (Nat.le_of_ble_eq_true rfl) e6 ?_
  refine qe_if_eq_F (t := 21) c141_11 rfl e7 ?_
  exact kk
theorem b141_0T {d : Nat} {q : Option Value × qH} {h : qH} {r0 : Nat} {x1 : Int32} {x2 : Int32} {fs1 : List Value} {y3 : Int32} {h1 : qH} {z5 : Int32}  (e2 : h.2.2 r0 = some (.inr (12, fs1))) (e4 : fs1[2]? = some (.int y3)) (e6 : qCall d 143 [.long (x1 : Int32).toInt64, .long 0, .long (y3 : Int32).toInt64] h ((some (.int z5)), h1)) (e7 : (z5 : Int32) = 0) (kk : qE d 141 21 [some (.ref r0), some (.int x1), some (.int x2), none, none, none, none, none, none] [] h1 q): qE d 141 0 [some (.ref r0), some (.int x1), some (.int x2), none, none, none, none, none, none] [] h q := by
  refine qe_iload_n c141_0 rfl ?_
  refine qe_i2l c141_1 ?_
  refine qe_lconst (x := 0) c141_2 (by decide) ?_
  refine qe_aload_n c141_3 rfl ?_
  refine qe_getfield c141_4 qo141 qF12_202 e2 e4 ?_
  refine qe_i2l c141_7 ?_
  refine qe_static (as := [.long (x1 : Int32).toInt64, .long 0, .long (y3 : Int32).toInt64]) (r := []) (v := (some (.int z5))) (h2 := h1) c141_8 qo141 (by decide) qK12_190 rfl rfl rfl (Nat.le_of_ble_eq_true rfl) e6 ?_
  refine qe_if_eq_T (t := 21) c141_11 rfl e7 ?_
  exact kk
theorem b141_14F {d : Nat} {q : Option Value × qH} {h : qH} {r0 : Nat} {x1 : Int32} {x2 : Int32} {h1 : qH} {z1 : Int32}  (e2 : qCall d 127 [.int x2] h ((some (.int z1)), h1)) (e3 : (z1 : Int32) = 0) (kk : qE d 141 21 [some (.ref r0), some (.int x1), some (.int x2), none, none, none, none, none, none] [] h1 q): qE d 141 14 [some (.ref r0), some (.int x1), some (.int x2), none, none, none, none, none, none] [] h q := by
  refine qe_iload_n c141_14 rfl ?_
  refine qe_static (as := [.int x2]) (r := []) (v := (some (.int z1))) (h2 := h1) c141_15 qo141 (by decide) qK12_493 rfl rfl rfl (Nat.le_of_ble_eq_true rfl) e2 ?_
  refine qe_if_ne_F (t := 23) c141_18 rfl e3 ?_
  exact kk
theorem b141_14T {d : Nat} {q : Option Value × qH} {h : qH} {r0 : Nat} {x1 : Int32} {x2 : Int32} {h1 : qH} {z1 : Int32}  (e2 : qCall d 127 [.int x2] h ((some (.int z1)), h1)) (e3 : ¬ ((z1 : Int32) = 0)) (kk : qE d 141 23 [some (.ref r0), some (.int x1), some (.int x2), none, none, none, none, none, none] [] h1 q): qE d 141 14 [some (.ref r0), some (.int x1), some (.int x2), none, none, none, none, none, none] [] h q := by
  refine qe_iload_n c141_14 rfl ?_
  refine qe_static (as := [.int x2]) (r := []) (v := (some (.int z1))) (h2 := h1) c141_15 qo141 (by decide) qK12_493 rfl rfl rfl (Nat.le_of_ble_eq_true rfl) e2 ?_
  refine qe_if_ne_T (t := 23) c141_18 rfl e3 ?_
  exact kk
theorem b141_21 {d : Nat} {h : qH} {r0 : Nat} {x1 : Int32} {x2 : Int32}   : qE d 141 21 [some (.ref r0), some (.int x1), some (.int x2), none, none, none, none, none, none] [] h (some (.int (-1)), h) := by
  refine qe_iconst (x := (-1)) c141_21 (by decide) ?_
  exact qe_iret c141_22 qr141
theorem b141_23F {d : Nat} {q : Option Value × qH} {h : qH} {r0 : Nat} {x1 : Int32} {x2 : Int32} {fs1 : List Value} {y3 : Int32}  (e2 : h.2.2 r0 = some (.inr (12, fs1))) (e4 : fs1[2]? = some (.int y3)) (e5 : (x1 : Int32) = y3) (kk : qE d 141 31 [some (.ref r0), some (.int x1), some (.int x2), none, none, none, none, none, none] [] h q): qE d 141 23 [some (.ref r0), some (.int x1), some (.int x2), none, none, none, none, none, none] [] h q := by
  refine qe_iload_n c141_23 rfl ?_
  refine qe_aload_n c141_24 rfl ?_
  refine qe_getfield c141_25 qo141 qF12_202 e2 e4 ?_
  refine qe_icmp_ne_F (t := 36) c141_28 rfl e5 ?_
  exact kk
theorem b141_23T {d : Nat} {q : Option Value × qH} {h : qH} {r0 : Nat} {x1 : Int32} {x2 : Int32} {fs1 : List Value} {y3 : Int32}  (e2 : h.2.2 r0 = some (.inr (12, fs1))) (e4 : fs1[2]? = some (.int y3)) (e5 : ¬ ((x1 : Int32) = y3)) (kk : qE d 141 36 [some (.ref r0), some (.int x1), some (.int x2), none, none, none, none, none, none] [] h q): qE d 141 23 [some (.ref r0), some (.int x1), some (.int x2), none, none, none, none, none, none] [] h q := by
  refine qe_iload_n c141_23 rfl ?_
  refine qe_aload_n c141_24 rfl ?_
  refine qe_getfield c141_25 qo141 qF12_202 e2 e4 ?_
  refine qe_icmp_ne_T (t := 36) c141_28 rfl e5 ?_
  exact kk
theorem b141_31 {d : Nat} {q : Option Value × qH} {h : qH} {r0 : Nat} {x1 : Int32} {x2 : Int32}   (kk : qE d 141 40 [some (.ref r0), some (.int x1), some (.int x2), none, none, none, none, none, none] [.int 36000] h q): qE d 141 31 [some (.ref r0), some (.int x1), some (.int x2), none, none, none, none, none, none] [] h q := by
  refine qe_ldc (x := 36000) c141_31 qo141 qI12_230 ?_
  refine qe_goto (t := 40) c141_33 rfl ?_
  exact kk
theorem b141_36 {d : Nat} {q : Option Value × qH} {h : qH} {r0 : Nat} {x1 : Int32} {x2 : Int32}   (kk : qE d 141 40 [some (.ref r0), some (.int x1), some (.int x2), none, none, none, none, none, none] [.int (72 * x1)] h q): qE d 141 36 [some (.ref r0), some (.int x1), some (.int x2), none, none, none, none, none, none] [] h q := by
  refine qe_bipush (x := 72) c141_36 (by decide) ?_
  refine qe_iload_n c141_38 rfl ?_
  refine qe_imul c141_39 ?_
  exact kk
theorem b141_40 {d : Nat} {q : Option Value × qH} {h : qH} {r0 : Nat} {x1 : Int32} {x2 : Int32} {xs0 : Int32}   (kk : qE d 141 51 [some (.ref r0), some (.int x1), some (.int x2), some (.int xs0), some (.int (-2)), some (.int 0), some (.int 0), none, none] [] h q): qE d 141 40 [some (.ref r0), some (.int x1), some (.int x2), none, none, none, none, none, none] [.int xs0] h q := by
  refine qe_istore_n (ls2 := [some (.ref r0), some (.int x1), some (.int x2), some (.int xs0), none, none, none, none, none]) c141_40 (Nat.le_of_ble_eq_true rfl) rfl ?_
  refine qe_bipush (x := (-2)) c141_41 (by decide) ?_
  refine qe_istore (ls2 := [some (.ref r0), some (.int x1), some (.int x2), some (.int xs0), some (.int (-2)), none, none, none, none]) c141_43 (Nat.le_of_ble_eq_true rfl) rfl ?_
  refine qe_iconst (x := 0) c141_45 (by decide) ?_
  refine qe_istore (ls2 := [some (.ref r0), some (.int x1), some (.int x2), some (.int xs0), some (.int (-2)), some (.int 0), none, none, none]) c141_46 (Nat.le_of_ble_eq_true rfl) rfl ?_
  refine qe_iconst (x := 0) c141_48 (by decide) ?_
  refine qe_istore (ls2 := [some (.ref r0), some (.int x1), some (.int x2), some (.int xs0), some (.int (-2)), some (.int 0), some (.int 0), none, none]) c141_49 (Nat.le_of_ble_eq_true rfl) rfl ?_
  exact kk
theorem b141_51F {d : Nat} {q : Option Value × qH} {h : qH} {r0 : Nat} {x1 : Int32} {x2 : Int32} {x3 : Int32} {x4 : Int32} {x5 : Int32} {x6 : Int32} {o7 : Option Value} {o8 : Option Value} {fs1 : List Value} {y3 : Int32}  (e2 : h.2.2 r0 = some (.inr (12, fs1))) (e4 : fs1[3]? = some (.int y3)) (e5 : ¬ (((1 <<< (y3 &&& 31)) : Int32) ≤ x6)) (kk : qE d 141 62 [some (.ref r0), some (.int x1), some (.int x2), some (.int x3), some (.int x4), some (.int x5), some (.int x6), o7, o8] [] h q): qE d 141 51 [some (.ref r0), some (.int x1), some (.int x2), some (.int x3), some (.int x4), some (.int x5), some (.int x6), o7, o8] [] h q := by
  refine qe_iload c141_51 rfl ?_
  refine qe_iconst (x := 1) c141_53 (by decide) ?_
  refine qe_aload_n c141_54 rfl ?_
  refine qe_getfield c141_55 qo141 qF12_186 e2 e4 ?_
  refine qe_ishl c141_58 ?_
  refine qe_icmp_ge_F (t := 169) c141_59 rfl e5 ?_
  exact kk
theorem b141_51T {d : Nat} {q : Option Value × qH} {h : qH} {r0 : Nat} {x1 : Int32} {x2 : Int32} {x3 : Int32} {x4 : Int32} {x5 : Int32} {x6 : Int32} {o7 : Option Value} {o8 : Option Value} {fs1 : List Value} {y3 : Int32}  (e2 : h.2.2 r0 = some (.inr (12, fs1))) (e4 : fs1[3]? = some (.int y3)) (e5 : ((1 <<< (y3 &&& 31)) : Int32) ≤ x6) (kk : qE d 141 169 [some (.ref r0), some (.int x1), some (.int x2), some (.int x3), some (.int x4), some (.int x5), some (.int x6), o7, o8] [] h q): qE d 141 51 [some (.ref r0), some (.int x1), some (.int x2), some (.int x3), some (.int x4), some (.int x5), some (.int x6), o7, o8] [] h q := by
  refine qe_iload c141_51 rfl ?_
  refine qe_iconst (x := 1) c141_53 (by decide) ?_
  refine qe_aload_n c141_54 rfl ?_
  refine qe_getfield c141_55 qo141 qF12_186 e2 e4 ?_
  refine qe_ishl c141_58 ?_
  refine qe_icmp_ge_T (t := 169) c141_59 rfl e5 ?_
  exact kk
theorem b141_62 {d : Nat} {q : Option Value × qH} {h : qH} {r0 : Nat} {x1 : Int32} {x2 : Int32} {x3 : Int32} {x4 : Int32} {x5 : Int32} {x6 : Int32} {o7 : Option Value} {o8 : Option Value}   (kk : qE d 141 68 [some (.ref r0), some (.int x1), some (.int x2), some (.int x3), some (.int x4), some (.int x5), some (.int x6), some (.int 0), some (.int 0)] [] h q): qE d 141 62 [some (.ref r0), some (.int x1), some (.int x2), some (.int x3), some (.int x4), some (.int x5), some (.int x6), o7, o8] [] h q := by
  refine qe_iconst (x := 0) c141_62 (by decide) ?_
  refine qe_istore (ls2 := [some (.ref r0), some (.int x1), some (.int x2), some (.int x3), some (.int x4), some (.int x5), some (.int x6), some (.int 0), o8]) c141_63 (Nat.le_of_ble_eq_true rfl) rfl ?_
  refine qe_iconst (x := 0) c141_65 (by decide) ?_
  refine qe_istore (ls2 := [some (.ref r0), some (.int x1), some (.int x2), some (.int x3), some (.int x4), some (.int x5), some (.int x6), some (.int 0), some (.int 0)]) c141_66 (Nat.le_of_ble_eq_true rfl) rfl ?_
  exact kk
theorem b141_68F {d : Nat} {q : Option Value × qH} {h : qH} {r0 : Nat} {x1 : Int32} {x2 : Int32} {x3 : Int32} {x4 : Int32} {x5 : Int32} {x6 : Int32} {x7 : Int32} {x8 : Int32} {fs1 : List Value} {y3 : Int32}  (e2 : h.2.2 r0 = some (.inr (12, fs1))) (e4 : fs1[3]? = some (.int y3)) (e5 : ¬ ((y3 : Int32) ≤ x8)) (kk : qE d 141 77 [some (.ref r0), some (.int x1), some (.int x2), some (.int x3), some (.int x4), some (.int x5), some (.int x6), some (.int x7), some (.int x8)] [] h q): qE d 141 68 [some (.ref r0), some (.int x1), some (.int x2), some (.int x3), some (.int x4), some (.int x5), some (.int x6), some (.int x7), some (.int x8)] [] h q := by
  refine qe_iload c141_68 rfl ?_
  refine qe_aload_n c141_70 rfl ?_
  refine qe_getfield c141_71 qo141 qF12_186 e2 e4 ?_
  refine qe_icmp_ge_F (t := 109) c141_74 rfl e5 ?_
  exact kk
theorem b141_68T {d : Nat} {q : Option Value × qH} {h : qH} {r0 : Nat} {x1 : Int32} {x2 : Int32} {x3 : Int32} {x4 : Int32} {x5 : Int32} {x6 : Int32} {x7 : Int32} {x8 : Int32} {fs1 : List Value} {y3 : Int32}  (e2 : h.2.2 r0 = some (.inr (12, fs1))) (e4 : fs1[3]? = some (.int y3)) (e5 : (y3 : Int32) ≤ x8) (kk : qE d 141 109 [some (.ref r0), some (.int x1), some (.int x2), some (.int x3), some (.int x4), some (.int x5), some (.int x6), some (.int x7), some (.int x8)] [] h q): qE d 141 68 [some (.ref r0), some (.int x1), some (.int x2), some (.int x3), some (.int x4), some (.int x5), some (.int x6), some (.int x7), some (.int x8)] [] h q := by
  refine qe_iload c141_68 rfl ?_
  refine qe_aload_n c141_70 rfl ?_
  refine qe_getfield c141_71 qo141 qF12_186 e2 e4 ?_
  refine qe_icmp_ge_T (t := 109) c141_74 rfl e5 ?_
  exact kk
theorem b141_77F {d : Nat} {q : Option Value × qH} {h : qH} {r0 : Nat} {x1 : Int32} {x2 : Int32} {x3 : Int32} {x4 : Int32} {x5 : Int32} {x6 : Int32} {x7 : Int32} {x8 : Int32} {h1 : qH} {z1 : Int32}  (e2 : qCall d 118 [.int x6, .int x8] h ((some (.int z1)), h1)) (e3 : ¬ ((z1 : Int32) = 0)) (kk : qE d 141 89 [some (.ref r0), some (.int x1), some (.int x2), some (.int x3), some (.int x4), some (.int x5), some (.int x6), some (.int x7), some (.int x8)] [.int x7] h1 q): qE d 141 77 [some (.ref r0), some (.int x1), some (.int x2), some (.int x3), some (.int x4), some (.int x5), some (.int x6), some (.int x7), some (.int x8)] [] h q := by
  refine qe_iload c141_77 rfl ?_
  refine qe_iload c141_79 rfl ?_
  refine qe_iload c141_81 rfl ?_
  refine qe_static (as := [.int x6, .int x8]) (r := [.int x7]) (v := (some (.int z1))) (h2 := h1) c141_83 qo141 (by decide) qK12_248 rfl rfl rfl (Nat.le_of_ble_eq_true rfl) e2 ?_
  refine qe_if_eq_F (t := 99) c141_86 rfl e3 ?_
  exact kk
theorem b141_77T {d : Nat} {q : Option Value × qH} {h : qH} {r0 : Nat} {x1 : Int32} {x2 : Int32} {x3 : Int32} {x4 : Int32} {x5 : Int32} {x6 : Int32} {x7 : Int32} {x8 : Int32} {h1 : qH} {z1 : Int32}  (e2 : qCall d 118 [.int x6, .int x8] h ((some (.int z1)), h1)) (e3 : (z1 : Int32) = 0) (kk : qE d 141 99 [some (.ref r0), some (.int x1), some (.int x2), some (.int x3), some (.int x4), some (.int x5), some (.int x6), some (.int x7), some (.int x8)] [.int x7] h1 q): qE d 141 77 [some (.ref r0), some (.int x1), some (.int x2), some (.int x3), some (.int x4), some (.int x5), some (.int x6), some (.int x7), some (.int x8)] [] h q := by
  refine qe_iload c141_77 rfl ?_
  refine qe_iload c141_79 rfl ?_
  refine qe_iload c141_81 rfl ?_
  refine qe_static (as := [.int x6, .int x8]) (r := [.int x7]) (v := (some (.int z1))) (h2 := h1) c141_83 qo141 (by decide) qK12_248 rfl rfl rfl (Nat.le_of_ble_eq_true rfl) e2 ?_
  refine qe_if_eq_T (t := 99) c141_86 rfl e3 ?_
  exact kk
theorem b141_89 {d : Nat} {q : Option Value × qH} {h : qH} {r0 : Nat} {x1 : Int32} {x2 : Int32} {x3 : Int32} {x4 : Int32} {x5 : Int32} {x6 : Int32} {x7 : Int32} {x8 : Int32} {xs0 : Int32} {fs1 : List Value} {h1 : qH} {z3 : Int32}  (e2 : h.2.2 r0 = some (.inr (12, fs1))) (e4 : qCall d 145 [.ref r0, .int x3, .int x8] h ((some (.int z3)), h1)) (kk : qE d 141 100 [some (.ref r0), some (.int x1), some (.int x2), some (.int x3), some (.int x4), some (.int x5), some (.int x6), some (.int x7), some (.int x8)] [.int z3, .int xs0] h1 q): qE d 141 89 [some (.ref r0), some (.int x1), some (.int x2), some (.int x3), some (.int x4), some (.int x5), some (.int x6), some (.int x7), some (.int x8)] [.int xs0] h q := by
  refine qe_aload_n c141_89 rfl ?_
  refine qe_iload_n c141_90 rfl ?_
  refine qe_iload c141_91 rfl ?_
  refine qe_virtual (b := r0) (as := [.int x3, .int x8]) (r := [.int xs0]) (v := (some (.int z3))) (h2 := h1) c141_93 qo141 qK12_235 rfl rfl rfl (by rw [qo145]; exact e2) (Nat.le_of_ble_eq_true rfl) e4 ?_
  refine qe_goto (t := 100) c141_96 rfl ?_
  exact kk
theorem b141_99 {d : Nat} {q : Option Value × qH} {h : qH} {r0 : Nat} {x1 : Int32} {x2 : Int32} {x3 : Int32} {x4 : Int32} {x5 : Int32} {x6 : Int32} {x7 : Int32} {x8 : Int32} {xs0 : Int32}   (kk : qE d 141 100 [some (.ref r0), some (.int x1), some (.int x2), some (.int x3), some (.int x4), some (.int x5), some (.int x6), some (.int x7), some (.int x8)] [.int 0, .int xs0] h q): qE d 141 99 [some (.ref r0), some (.int x1), some (.int x2), some (.int x3), some (.int x4), some (.int x5), some (.int x6), some (.int x7), some (.int x8)] [.int xs0] h q := by
  refine qe_iconst (x := 0) c141_99 (by decide) ?_
  exact kk
theorem b141_100 {d : Nat} {q : Option Value × qH} {h : qH} {r0 : Nat} {x1 : Int32} {x2 : Int32} {x3 : Int32} {x4 : Int32} {x5 : Int32} {x6 : Int32} {x7 : Int32} {x8 : Int32} {xs0 : Int32} {xs1 : Int32}   (kk : qE d 141 68 [some (.ref r0), some (.int x1), some (.int x2), some (.int x3), some (.int x4), some (.int x5), some (.int x6), some (.int (xs0 + xs1)), some (.int (x8 + 1))] [] h q): qE d 141 100 [some (.ref r0), some (.int x1), some (.int x2), some (.int x3), some (.int x4), some (.int x5), some (.int x6), some (.int x7), some (.int x8)] [.int xs1, .int xs0] h q := by
  refine qe_iadd c141_100 ?_
  refine qe_istore (ls2 := [some (.ref r0), some (.int x1), some (.int x2), some (.int x3), some (.int x4), some (.int x5), some (.int x6), some (.int (xs0 + xs1)), some (.int x8)]) c141_101 (Nat.le_of_ble_eq_true rfl) rfl ?_
  refine qe_iinc (y := (x8 + 1)) (ls2 := [some (.ref r0), some (.int x1), some (.int x2), some (.int x3), some (.int x4), some (.int x5), some (.int x6), some (.int (xs0 + xs1)), some (.int (x8 + 1))]) c141_103 rfl (Nat.le_of_ble_eq_true rfl) rfl rfl ?_
  refine qe_goto (t := 68) c141_106 rfl ?_
  exact kk
theorem b141_109F {d : Nat} {q : Option Value × qH} {h : qH} {r0 : Nat} {x1 : Int32} {x2 : Int32} {x3 : Int32} {x4 : Int32} {x5 : Int32} {x6 : Int32} {x7 : Int32} {x8 : Int32}  (e1 : ¬ ((x4 : Int32) < 0)) (kk : qE d 141 114 [some (.ref r0), some (.int x1), some (.int x2), some (.int x3), some (.int x4), some (.int x5), some (.int x6), some (.int x7), some (.int x8)] [] h q): qE d 141 109 [some (.ref r0), some (.int x1), some (.int x2), some (.int x3), some (.int x4), some (.int x5), some (.int x6), some (.int x7), some (.int x8)] [] h q := by
  refine qe_iload c141_109 rfl ?_
  refine qe_if_lt_F (t := 141) c141_111 rfl e1 ?_
  exact kk
theorem b141_109T {d : Nat} {q : Option Value × qH} {h : qH} {r0 : Nat} {x1 : Int32} {x2 : Int32} {x3 : Int32} {x4 : Int32} {x5 : Int32} {x6 : Int32} {x7 : Int32} {x8 : Int32}  (e1 : (x4 : Int32) < 0) (kk : qE d 141 141 [some (.ref r0), some (.int x1), some (.int x2), some (.int x3), some (.int x4), some (.int x5), some (.int x6), some (.int x7), some (.int x8)] [] h q): qE d 141 109 [some (.ref r0), some (.int x1), some (.int x2), some (.int x3), some (.int x4), some (.int x5), some (.int x6), some (.int x7), some (.int x8)] [] h q := by
  refine qe_iload c141_109 rfl ?_
  refine qe_if_lt_T (t := 141) c141_111 rfl e1 ?_
  exact kk
theorem b141_114F {d : Nat} {q : Option Value × qH} {h : qH} {r0 : Nat} {x1 : Int32} {x2 : Int32} {x3 : Int32} {x4 : Int32} {x5 : Int32} {x6 : Int32} {x7 : Int32} {x8 : Int32}  (e1 : ¬ ((x5 : Int32) < x7)) (kk : qE d 141 121 [some (.ref r0), some (.int x1), some (.int x2), some (.int x3), some (.int x4), some (.int x5), some (.int x6), some (.int x7), some (.int x8)] [] h q): qE d 141 114 [some (.ref r0), some (.int x1), some (.int x2), some (.int x3), some (.int x4), some (.int x5), some (.int x6), some (.int x7), some (.int x8)] [] h q := by
  refine qe_iload c141_114 rfl ?_
  refine qe_iload c141_116 rfl ?_
  refine qe_icmp_gt_F (t := 163) c141_118 rfl e1 ?_
  exact kk
theorem b141_114T {d : Nat} {q : Option Value × qH} {h : qH} {r0 : Nat} {x1 : Int32} {x2 : Int32} {x3 : Int32} {x4 : Int32} {x5 : Int32} {x6 : Int32} {x7 : Int32} {x8 : Int32}  (e1 : (x5 : Int32) < x7) (kk : qE d 141 163 [some (.ref r0), some (.int x1), some (.int x2), some (.int x3), some (.int x4), some (.int x5), some (.int x6), some (.int x7), some (.int x8)] [] h q): qE d 141 114 [some (.ref r0), some (.int x1), some (.int x2), some (.int x3), some (.int x4), some (.int x5), some (.int x6), some (.int x7), some (.int x8)] [] h q := by
  refine qe_iload c141_114 rfl ?_
  refine qe_iload c141_116 rfl ?_
  refine qe_icmp_gt_T (t := 163) c141_118 rfl e1 ?_
  exact kk
theorem b141_121F {d : Nat} {q : Option Value × qH} {h : qH} {r0 : Nat} {x1 : Int32} {x2 : Int32} {x3 : Int32} {x4 : Int32} {x5 : Int32} {x6 : Int32} {x7 : Int32} {x8 : Int32}  (e1 : (x7 : Int32) = x5) (kk : qE d 141 128 [some (.ref r0), some (.int x1), some (.int x2), some (.int x3), some (.int x4), some (.int x5), some (.int x6), some (.int x7), some (.int x8)] [] h q): qE d 141 121 [some (.ref r0), some (.int x1), some (.int x2), some (.int x3), some (.int x4), some (.int x5), some (.int x6), some (.int x7), some (.int x8)] [] h q := by
  refine qe_iload c141_121 rfl ?_
  refine qe_iload c141_123 rfl ?_
  refine qe_icmp_ne_F (t := 141) c141_125 rfl e1 ?_
  exact kk
theorem b141_121T {d : Nat} {q : Option Value × qH} {h : qH} {r0 : Nat} {x1 : Int32} {x2 : Int32} {x3 : Int32} {x4 : Int32} {x5 : Int32} {x6 : Int32} {x7 : Int32} {x8 : Int32}  (e1 : ¬ ((x7 : Int32) = x5)) (kk : qE d 141 141 [some (.ref r0), some (.int x1), some (.int x2), some (.int x3), some (.int x4), some (.int x5), some (.int x6), some (.int x7), some (.int x8)] [] h q): qE d 141 121 [some (.ref r0), some (.int x1), some (.int x2), some (.int x3), some (.int x4), some (.int x5), some (.int x6), some (.int x7), some (.int x8)] [] h q := by
  refine qe_iload c141_121 rfl ?_
  refine qe_iload c141_123 rfl ?_
  refine qe_icmp_ne_T (t := 141) c141_125 rfl e1 ?_
  exact kk
theorem b141_128F {d : Nat} {q : Option Value × qH} {h : qH} {r0 : Nat} {x1 : Int32} {x2 : Int32} {x3 : Int32} {x4 : Int32} {x5 : Int32} {x6 : Int32} {x7 : Int32} {x8 : Int32} {h1 : qH} {z1 : Int32} {h2 : qH} {z3 : Int32}  (e2 : qCall d 169 [.int x6] h ((some (.int z1)), h1)) (e4 : qCall d 169 [.int x4] h1 ((some (.int z3)), h2)) (e5 : ¬ ((z3 : Int32) ≤ z1)) (kk : qE d 141 141 [some (.ref r0), some (.int x1), some (.int x2), some (.int x3), some (.int x4), some (.int x5), some (.int x6), some (.int x7), some (.int x8)] [] h2 q): qE d 141 128 [some (.ref r0), some (.int x1), some (.int x2), some (.int x3), some (.int x4), some (.int x5), some (.int x6), some (.int x7), some (.int x8)] [] h q := by
  refine qe_iload c141_128 rfl ?_
  refine qe_static (as := [.int x6]) (r := []) (v := (some (.int z1))) (h2 := h1) c141_130 qo141 (by decide) qK12_500 rfl rfl rfl (Nat.le_of_ble_eq_true rfl) e2 ?_
  refine qe_iload c141_133 rfl ?_
  refine qe_static (as := [.int x4]) (r := [.int z1]) (v := (some (.int z3))) (h2 := h2) c141_135 qo141 (by decide) qK12_500 rfl rfl rfl (Nat.le_of_ble_eq_true rfl) e4 ?_
  refine qe_icmp_ge_F (t := 163) c141_138 rfl e5 ?_
  exact kk
theorem b141_128T {d : Nat} {q : Option Value × qH} {h : qH} {r0 : Nat} {x1 : Int32} {x2 : Int32} {x3 : Int32} {x4 : Int32} {x5 : Int32} {x6 : Int32} {x7 : Int32} {x8 : Int32} {h1 : qH} {z1 : Int32} {h2 : qH} {z3 : Int32}  (e2 : qCall d 169 [.int x6] h ((some (.int z1)), h1)) (e4 : qCall d 169 [.int x4] h1 ((some (.int z3)), h2)) (e5 : (z3 : Int32) ≤ z1) (kk : qE d 141 163 [some (.ref r0), some (.int x1), some (.int x2), some (.int x3), some (.int x4), some (.int x5), some (.int x6), some (.int x7), some (.int x8)] [] h2 q): qE d 141 128 [some (.ref r0), some (.int x1), some (.int x2), some (.int x3), some (.int x4), some (.int x5), some (.int x6), some (.int x7), some (.int x8)] [] h q := by
  refine qe_iload c141_128 rfl ?_
  refine qe_static (as := [.int x6]) (r := []) (v := (some (.int z1))) (h2 := h1) c141_130 qo141 (by decide) qK12_500 rfl rfl rfl (Nat.le_of_ble_eq_true rfl) e2 ?_
  refine qe_iload c141_133 rfl ?_
  refine qe_static (as := [.int x4]) (r := [.int z1]) (v := (some (.int z3))) (h2 := h2) c141_135 qo141 (by decide) qK12_500 rfl rfl rfl (Nat.le_of_ble_eq_true rfl) e4 ?_
  refine qe_icmp_ge_T (t := 163) c141_138 rfl e5 ?_
  exact kk
theorem b141_141F {d : Nat} {q : Option Value × qH} {h : qH} {r0 : Nat} {x1 : Int32} {x2 : Int32} {x3 : Int32} {x4 : Int32} {x5 : Int32} {x6 : Int32} {x7 : Int32} {x8 : Int32} {fs1 : List Value} {h1 : qH} {z3 : Int32}  (e2 : h.2.2 r0 = some (.inr (12, fs1))) (e4 : qCall d 125 [.ref r0, .int x1, .int x6, .int x2] h ((some (.int z3)), h1)) (e5 : (z3 : Int32) = 0) (kk : qE d 141 152 [some (.ref r0), some (.int x1), some (.int x2), some (.int x3), some (.int x4), some (.int x5), some (.int x6), some (.int x7), some (.int x8)] [] h1 q): qE d 141 141 [some (.ref r0), some (.int x1), some (.int x2), some (.int x3), some (.int x4), some (.int x5), some (.int x6), some (.int x7), some (.int x8)] [] h q := by
  refine qe_aload_n c141_141 rfl ?_
  refine qe_iload_n c141_142 rfl ?_
  refine qe_iload c141_143 rfl ?_
  refine qe_iload_n c141_145 rfl ?_
  refine qe_virtual (b := r0) (as := [.int x1, .int x6, .int x2]) (r := []) (v := (some (.int z3))) (h2 := h1) c141_146 qo141 qK12_496 rfl rfl rfl (by rw [qo125]; exact e2) (Nat.le_of_ble_eq_true rfl) e4 ?_
  refine qe_if_ne_F (t := 155) c141_149 rfl e5 ?_
  exact kk
theorem b141_141T {d : Nat} {q : Option Value × qH} {h : qH} {r0 : Nat} {x1 : Int32} {x2 : Int32} {x3 : Int32} {x4 : Int32} {x5 : Int32} {x6 : Int32} {x7 : Int32} {x8 : Int32} {fs1 : List Value} {h1 : qH} {z3 : Int32}  (e2 : h.2.2 r0 = some (.inr (12, fs1))) (e4 : qCall d 125 [.ref r0, .int x1, .int x6, .int x2] h ((some (.int z3)), h1)) (e5 : ¬ ((z3 : Int32) = 0)) (kk : qE d 141 155 [some (.ref r0), some (.int x1), some (.int x2), some (.int x3), some (.int x4), some (.int x5), some (.int x6), some (.int x7), some (.int x8)] [] h1 q): qE d 141 141 [some (.ref r0), some (.int x1), some (.int x2), some (.int x3), some (.int x4), some (.int x5), some (.int x6), some (.int x7), some (.int x8)] [] h q := by
  refine qe_aload_n c141_141 rfl ?_
  refine qe_iload_n c141_142 rfl ?_
  refine qe_iload c141_143 rfl ?_
  refine qe_iload_n c141_145 rfl ?_
  refine qe_virtual (b := r0) (as := [.int x1, .int x6, .int x2]) (r := []) (v := (some (.int z3))) (h2 := h1) c141_146 qo141 qK12_496 rfl rfl rfl (by rw [qo125]; exact e2) (Nat.le_of_ble_eq_true rfl) e4 ?_
  refine qe_if_ne_T (t := 155) c141_149 rfl e5 ?_
  exact kk
theorem b141_152 {d : Nat} {q : Option Value × qH} {h : qH} {r0 : Nat} {x1 : Int32} {x2 : Int32} {x3 : Int32} {x4 : Int32} {x5 : Int32} {x6 : Int32} {x7 : Int32} {x8 : Int32}   (kk : qE d 141 163 [some (.ref r0), some (.int x1), some (.int x2), some (.int x3), some (.int x4), some (.int x5), some (.int x6), some (.int x7), some (.int x8)] [] h q): qE d 141 152 [some (.ref r0), some (.int x1), some (.int x2), some (.int x3), some (.int x4), some (.int x5), some (.int x6), some (.int x7), some (.int x8)] [] h q := by
  refine qe_goto (t := 163) c141_152 rfl ?_
  exact kk
theorem b141_155 {d : Nat} {q : Option Value × qH} {h : qH} {r0 : Nat} {x1 : Int32} {x2 : Int32} {x3 : Int32} {x4 : Int32} {x5 : Int32} {x6 : Int32} {x7 : Int32} {x8 : Int32}   (kk : qE d 141 163 [some (.ref r0), some (.int x1), some (.int x2), some (.int x3), some (.int x6), some (.int x7), some (.int x6), some (.int x7), some (.int x8)] [] h q): qE d 141 155 [some (.ref r0), some (.int x1), some (.int x2), some (.int x3), some (.int x4), some (.int x5), some (.int x6), some (.int x7), some (.int x8)] [] h q := by
  refine qe_iload c141_155 rfl ?_
  refine qe_istore (ls2 := [some (.ref r0), some (.int x1), some (.int x2), some (.int x3), some (.int x6), some (.int x5), some (.int x6), some (.int x7), some (.int x8)]) c141_157 (Nat.le_of_ble_eq_true rfl) rfl ?_
  refine qe_iload c141_159 rfl ?_
  refine qe_istore (ls2 := [some (.ref r0), some (.int x1), some (.int x2), some (.int x3), some (.int x6), some (.int x7), some (.int x6), some (.int x7), some (.int x8)]) c141_161 (Nat.le_of_ble_eq_true rfl) rfl ?_
  exact kk
theorem b141_163 {d : Nat} {q : Option Value × qH} {h : qH} {r0 : Nat} {x1 : Int32} {x2 : Int32} {x3 : Int32} {x4 : Int32} {x5 : Int32} {x6 : Int32} {x7 : Int32} {x8 : Int32}   (kk : qE d 141 51 [some (.ref r0), some (.int x1), some (.int x2), some (.int x3), some (.int x4), some (.int x5), some (.int (x6 + 1)), some (.int x7), some (.int x8)] [] h q): qE d 141 163 [some (.ref r0), some (.int x1), some (.int x2), some (.int x3), some (.int x4), some (.int x5), some (.int x6), some (.int x7), some (.int x8)] [] h q := by
  refine qe_iinc (y := (x6 + 1)) (ls2 := [some (.ref r0), some (.int x1), some (.int x2), some (.int x3), some (.int x4), some (.int x5), some (.int (x6 + 1)), some (.int x7), some (.int x8)]) c141_163 rfl (Nat.le_of_ble_eq_true rfl) rfl rfl ?_
  refine qe_goto (t := 51) c141_166 rfl ?_
  exact kk
theorem b141_169 {d : Nat} {h : qH} {r0 : Nat} {x1 : Int32} {x2 : Int32} {x3 : Int32} {x4 : Int32} {x5 : Int32} {x6 : Int32} {o7 : Option Value} {o8 : Option Value}   : qE d 141 169 [some (.ref r0), some (.int x1), some (.int x2), some (.int x3), some (.int x4), some (.int x5), some (.int x6), o7, o8] [] h (some (.int x4), h) := by
  refine qe_iload c141_169 rfl ?_
  exact qe_iret c141_171 qr141
theorem b142_0F {d : Nat} {q : Option Value × qH} {h : qH} {r0 : Nat} {x1 : Int32} {x2 : Int32} {fs1 : List Value} {y3 : Nat} {n5 : Nat} {f6 : Nat → Int32}  (e2 : h.2.2 r0 = some (.inr (12, fs1))) (e4 : fs1[65]? = some (.ref y3)) (e7 : h.2.2 y3 = some (.inl (0, n5, .inl f6))) (e8 : 0 ≤ (x1 : Int32).toInt ∧ (x1 : Int32).toInt < (n5 : Nat)) (e9 : ¬ (((f6 (x1 : Int32).toNatClampNeg) : Int32) = 0)) (kk : qE d 142 11 [some (.ref r0), some (.int x1), some (.int x2), some (.int (f6 (x1 : Int32).toNatClampNeg)), none] [] h q): qE d 142 0 [some (.ref r0), some (.int x1), some (.int x2), none, none] [] h q := by
  refine qe_aload_n c142_0 rfl ?_
  refine qe_getfield c142_1 qo142 qF12_140 e2 e4 ?_
  refine qe_iload_n c142_4 rfl ?_
  refine qe_iaload c142_5 e7 e8 ?_
  refine qe_istore_n (ls2 := [some (.ref r0), some (.int x1), some (.int x2), some (.int (f6 (x1 : Int32).toNatClampNeg)), none]) c142_6 (Nat.le_of_ble_eq_true rfl) rfl ?_
  refine qe_iload_n c142_7 rfl ?_
  refine qe_if_eq_F (t := 28) c142_8 rfl e9 ?_
  exact kk
theorem b142_0T {d : Nat} {q : Option Value × qH} {h : qH} {r0 : Nat} {x1 : Int32} {x2 : Int32} {fs1 : List Value} {y3 : Nat} {n5 : Nat} {f6 : Nat → Int32}  (e2 : h.2.2 r0 = some (.inr (12, fs1))) (e4 : fs1[65]? = some (.ref y3)) (e7 : h.2.2 y3 = some (.inl (0, n5, .inl f6))) (e8 : 0 ≤ (x1 : Int32).toInt ∧ (x1 : Int32).toInt < (n5 : Nat)) (e9 : ((f6 (x1 : Int32).toNatClampNeg) : Int32) = 0) (kk : qE d 142 28 [some (.ref r0), some (.int x1), some (.int x2), some (.int (f6 (x1 : Int32).toNatClampNeg)), none] [] h q): qE d 142 0 [some (.ref r0), some (.int x1), some (.int x2), none, none] [] h q := by
  refine qe_aload_n c142_0 rfl ?_
  refine qe_getfield c142_1 qo142 qF12_140 e2 e4 ?_
  refine qe_iload_n c142_4 rfl ?_
  refine qe_iaload c142_5 e7 e8 ?_
  refine qe_istore_n (ls2 := [some (.ref r0), some (.int x1), some (.int x2), some (.int (f6 (x1 : Int32).toNatClampNeg)), none]) c142_6 (Nat.le_of_ble_eq_true rfl) rfl ?_
  refine qe_iload_n c142_7 rfl ?_
  refine qe_if_eq_T (t := 28) c142_8 rfl e9 ?_
  exact kk
theorem b142_11F {d : Nat} {q : Option Value × qH} {h : qH} {r0 : Nat} {x1 : Int32} {x2 : Int32} {x3 : Int32} {fs1 : List Value} {y3 : Nat} {n5 : Nat} {f6 : Nat → Int32}  (e2 : h.2.2 r0 = some (.inr (12, fs1))) (e4 : fs1[67]? = some (.ref y3)) (e7 : h.2.2 y3 = some (.inl (0, n5, .inl f6))) (e8 : 0 ≤ (x1 : Int32).toInt ∧ (x1 : Int32).toInt < (n5 : Nat)) (e10 : 0 ≤ (x2 : Int32).toInt ∧ (x2 : Int32).toInt < (n5 : Nat)) (e11 : ¬ (((f6 (x1 : Int32).toNatClampNeg) : Int32) = ((f6 (x2 : Int32).toNatClampNeg) - 1))) (kk : qE d 142 28 [some (.ref r0), some (.int x1), some (.int x2), some (.int x3), none] [] h q): qE d 142 11 [some (.ref r0), some (.int x1), some (.int x2), some (.int x3), none] [] h q := by
  refine qe_aload_n c142_11 rfl ?_
  refine qe_getfield c142_12 qo142 qF12_146 e2 e4 ?_
  refine qe_iload_n c142_15 rfl ?_
  refine qe_iaload c142_16 e7 e8 ?_
  refine qe_aload_n c142_17 rfl ?_
  refine qe_getfield c142_18 qo142 qF12_146 e2 e4 ?_
  refine qe_iload_n c142_21 rfl ?_
  refine qe_iaload c142_22 e7 e10 ?_
  refine qe_iconst (x := 1) c142_23 (by decide) ?_
  refine qe_isub c142_24 ?_
  refine qe_icmp_eq_F (t := 30) c142_25 rfl e11 ?_
  exact kk
theorem b142_11T {d : Nat} {q : Option Value × qH} {h : qH} {r0 : Nat} {x1 : Int32} {x2 : Int32} {x3 : Int32} {fs1 : List Value} {y3 : Nat} {n5 : Nat} {f6 : Nat → Int32}  (e2 : h.2.2 r0 = some (.inr (12, fs1))) (e4 : fs1[67]? = some (.ref y3)) (e7 : h.2.2 y3 = some (.inl (0, n5, .inl f6))) (e8 : 0 ≤ (x1 : Int32).toInt ∧ (x1 : Int32).toInt < (n5 : Nat)) (e10 : 0 ≤ (x2 : Int32).toInt ∧ (x2 : Int32).toInt < (n5 : Nat)) (e11 : ((f6 (x1 : Int32).toNatClampNeg) : Int32) = ((f6 (x2 : Int32).toNatClampNeg) - 1)) (kk : qE d 142 30 [some (.ref r0), some (.int x1), some (.int x2), some (.int x3), none] [] h q): qE d 142 11 [some (.ref r0), some (.int x1), some (.int x2), some (.int x3), none] [] h q := by
  refine qe_aload_n c142_11 rfl ?_
  refine qe_getfield c142_12 qo142 qF12_146 e2 e4 ?_
  refine qe_iload_n c142_15 rfl ?_
  refine qe_iaload c142_16 e7 e8 ?_
  refine qe_aload_n c142_17 rfl ?_
  refine qe_getfield c142_18 qo142 qF12_146 e2 e4 ?_
  refine qe_iload_n c142_21 rfl ?_
  refine qe_iaload c142_22 e7 e10 ?_
  refine qe_iconst (x := 1) c142_23 (by decide) ?_
  refine qe_isub c142_24 ?_
  refine qe_icmp_eq_T (t := 30) c142_25 rfl e11 ?_
  exact kk
theorem b142_28 {d : Nat} {h : qH} {r0 : Nat} {x1 : Int32} {x2 : Int32} {x3 : Int32}   : qE d 142 28 [some (.ref r0), some (.int x1), some (.int x2), some (.int x3), none] [] h (some (.int 0), h) := by
  refine qe_iconst (x := 0) c142_28 (by decide) ?_
  exact qe_zret c142_29 qr142 (by decide)
theorem b142_30F {d : Nat} {q : Option Value × qH} {h : qH} {r0 : Nat} {x1 : Int32} {x2 : Int32} {x3 : Int32} {fs1 : List Value} {y3 : Nat} {n5 : Nat} {f6 : Nat → Int32} {h1 : qH} {fs10 : List Value} {y12 : Nat} {n15 : Nat} {f16 : Nat → Int32} {h2 : qH}  (e2 : h.2.2 r0 = some (.inr (12, fs1))) (e4 : fs1[67]? = some (.ref y3)) (e7 : h.2.2 y3 = some (.inl (0, n5, .inl f6))) (e8 : 0 ≤ (x2 : Int32).toInt ∧ (x2 : Int32).toInt < (n5 : Nat)) (e9 : qCall d 96 [.ref r0, .int (72 * (f6 (x2 : Int32).toNatClampNeg)), .int 36288] h (none, h1)) (e11 : h1.2.2 r0 = some (.inr (12, fs10))) (e13 : fs10[10]? = some (.ref y12)) (e17 : h1.2.2 y12 = some (.inl (0, n15, .inl f16))) (e18 : 0 ≤ (36069 : Int32).toInt ∧ (36069 : Int32).toInt < (n15 : Nat)) (e19 : 0 ≤ (36357 : Int32).toInt ∧ (36357 : Int32).toInt < (n15 : Nat)) (e20 : qset h1 y12 (.inl (0, n15, .inl (upd f16 ((36357 : Int32).toNatClampNeg) ((f16 (36069 : Int32).toNatClampNeg))))) = h2) (e21 : ¬ ((3 : Int32) ≤ x3)) (kk : qE d 142 66 [some (.ref r0), some (.int x1), some (.int x2), some (.int x3), none] [] h2 q): qE d 142 30 [some (.ref r0), some (.int x1), some (.int x2), some (.int x3), none] [] h q := by
  refine qe_aload_n c142_30 rfl ?_
  refine qe_bipush (x := 72) c142_31 (by decide) ?_
  refine qe_aload_n c142_33 rfl ?_
  refine qe_getfield c142_34 qo142 qF12_146 e2 e4 ?_
  refine qe_iload_n c142_37 rfl ?_
  refine qe_iaload c142_38 e7 e8 ?_
  refine qe_imul c142_39 ?_
  refine qe_ldc_w (x := 36288) c142_40 qo142 qI12_471 ?_
  refine qe_virtual (b := r0) (as := [.int (72 * (f6 (x2 : Int32).toNatClampNeg)), .int 36288]) (r := []) (v := none) (h2 := h1) c142_43 qo142 qK12_444 rfl rfl rfl (by rw [qo96]; exact e2) (Nat.le_of_ble_eq_true rfl) e9 ?_
  refine qe_aload_n c142_46 rfl ?_
  refine qe_getfield c142_47 qo142 qF12_14 e11 e13 ?_
  refine qe_ldc_w (x := 36357) c142_50 qo142 qI12_472 ?_
  refine qe_aload_n c142_53 rfl ?_
  refine qe_getfield c142_54 qo142 qF12_14 e11 e13 ?_
  refine qe_ldc (x := 36069) c142_57 qo142 qI12_185 ?_
  refine qe_iaload c142_59 e17 e18 ?_
  refine qe_iastore c142_60 e17 e19 ?_
  rw [e20]
  refine qe_iload_n c142_61 rfl ?_
  refine qe_iconst (x := 3) c142_62 (by decide) ?_
  refine qe_icmp_ge_F (t := 85) c142_63 rfl e21 ?_
  exact kk
theorem b142_30T {d : Nat} {q : Option Value × qH} {h : qH} {r0 : Nat} {x1 : Int32} {x2 : Int32} {x3 : Int32} {fs1 : List Value} {y3 : Nat} {n5 : Nat} {f6 : Nat → Int32} {h1 : qH} {fs10 : List Value} {y12 : Nat} {n15 : Nat} {f16 : Nat → Int32} {h2 : qH}  (e2 : h.2.2 r0 = some (.inr (12, fs1))) (e4 : fs1[67]? = some (.ref y3)) (e7 : h.2.2 y3 = some (.inl (0, n5, .inl f6))) (e8 : 0 ≤ (x2 : Int32).toInt ∧ (x2 : Int32).toInt < (n5 : Nat)) (e9 : qCall d 96 [.ref r0, .int (72 * (f6 (x2 : Int32).toNatClampNeg)), .int 36288] h (none, h1)) (e11 : h1.2.2 r0 = some (.inr (12, fs10))) (e13 : fs10[10]? = some (.ref y12)) (e17 : h1.2.2 y12 = some (.inl (0, n15, .inl f16))) (e18 : 0 ≤ (36069 : Int32).toInt ∧ (36069 : Int32).toInt < (n15 : Nat)) (e19 : 0 ≤ (36357 : Int32).toInt ∧ (36357 : Int32).toInt < (n15 : Nat)) (e20 : qset h1 y12 (.inl (0, n15, .inl (upd f16 ((36357 : Int32).toNatClampNeg) ((f16 (36069 : Int32).toNatClampNeg))))) = h2) (e21 : (3 : Int32) ≤ x3) (kk : qE d 142 85 [some (.ref r0), some (.int x1), some (.int x2), some (.int x3), none] [] h2 q): qE d 142 30 [some (.ref r0), some (.int x1), some (.int x2), some (.int x3), none] [] h q := by
  refine qe_aload_n c142_30 rfl ?_
  refine qe_bipush (x := 72) c142_31 (by decide) ?_
  refine qe_aload_n c142_33 rfl ?_
  refine qe_getfield c142_34 qo142 qF12_146 e2 e4 ?_
  refine qe_iload_n c142_37 rfl ?_
  refine qe_iaload c142_38 e7 e8 ?_
  refine qe_imul c142_39 ?_
  refine qe_ldc_w (x := 36288) c142_40 qo142 qI12_471 ?_
  refine qe_virtual (b := r0) (as := [.int (72 * (f6 (x2 : Int32).toNatClampNeg)), .int 36288]) (r := []) (v := none) (h2 := h1) c142_43 qo142 qK12_444 rfl rfl rfl (by rw [qo96]; exact e2) (Nat.le_of_ble_eq_true rfl) e9 ?_
  refine qe_aload_n c142_46 rfl ?_
  refine qe_getfield c142_47 qo142 qF12_14 e11 e13 ?_
  refine qe_ldc_w (x := 36357) c142_50 qo142 qI12_472 ?_
  refine qe_aload_n c142_53 rfl ?_
  refine qe_getfield c142_54 qo142 qF12_14 e11 e13 ?_
  refine qe_ldc (x := 36069) c142_57 qo142 qI12_185 ?_
  refine qe_iaload c142_59 e17 e18 ?_
  refine qe_iastore c142_60 e17 e19 ?_
  rw [e20]
  refine qe_iload_n c142_61 rfl ?_
  refine qe_iconst (x := 3) c142_62 (by decide) ?_
  refine qe_icmp_ge_T (t := 85) c142_63 rfl e21 ?_
  exact kk
theorem b142_66 {d : Nat} {q : Option Value × qH} {h : qH} {r0 : Nat} {x1 : Int32} {x2 : Int32} {x3 : Int32} {fs1 : List Value} {y3 : Nat} {y5 : Nat} {n7 : Nat} {f8 : Nat → Int32} {n11 : Nat} {f12 : Nat → Int32} {h1 : qH}  (e2 : h.2.2 r0 = some (.inr (12, fs1))) (e4 : fs1[10]? = some (.ref y3)) (e6 : fs1[66]? = some (.ref y5)) (e9 : h.2.2 y5 = some (.inl (0, n7, .inl f8))) (e10 : 0 ≤ (x1 : Int32).toInt ∧ (x1 : Int32).toInt < (n7 : Nat)) (e13 : h.2.2 y3 = some (.inl (0, n11, .inl f12))) (e14 : 0 ≤ ((36288 + (f8 (x1 : Int32).toNatClampNeg)) : Int32).toInt ∧ ((36288 + (f8 (x1 : Int32).toNatClampNeg)) : Int32).toInt < (n11 : Nat)) (e15 : qset h y3 (.inl (0, n11, .inl (upd f12 (((36288 + (f8 (x1 : Int32).toNatClampNeg)) : Int32).toNatClampNeg) 0))) = h1) (kk : qE d 142 101 [some (.ref r0), some (.int x1), some (.int x2), some (.int x3), none] [] h1 q): qE d 142 66 [some (.ref r0), some (.int x1), some (.int x2), some (.int x3), none] [] h q := by
  refine qe_aload_n c142_66 rfl ?_
  refine qe_getfield c142_67 qo142 qF12_14 e2 e4 ?_
  refine qe_ldc_w (x := 36288) c142_70 qo142 qI12_471 ?_
  refine qe_aload_n c142_73 rfl ?_
  refine qe_getfield c142_74 qo142 qF12_143 e2 e6 ?_
  refine qe_iload_n c142_77 rfl ?_
  refine qe_iaload c142_78 e9 e10 ?_
  refine qe_iadd c142_79 ?_
  refine qe_iconst (x := 0) c142_80 (by decide) ?_
  refine qe_iastore c142_81 e13 e14 ?_
  rw [e15]
  refine qe_goto (t := 101) c142_82 rfl ?_
  exact kk
theorem b142_85 {d : Nat} {q : Option Value × qH} {h : qH} {r0 : Nat} {x1 : Int32} {x2 : Int32} {x3 : Int32} {fs1 : List Value} {y3 : Nat} {y5 : Nat} {n7 : Nat} {f8 : Nat → Int32} {n11 : Nat} {f12 : Nat → Int32} {h1 : qH}  (e2 : h.2.2 r0 = some (.inr (12, fs1))) (e4 : fs1[10]? = some (.ref y3)) (e6 : fs1[66]? = some (.ref y5)) (e9 : h.2.2 y5 = some (.inl (0, n7, .inl f8))) (e10 : 0 ≤ (x1 : Int32).toInt ∧ (x1 : Int32).toInt < (n7 : Nat)) (e13 : h.2.2 y3 = some (.inl (0, n11, .inl f12))) (e14 : 0 ≤ ((36330 + (f8 (x1 : Int32).toNatClampNeg)) : Int32).toInt ∧ ((36330 + (f8 (x1 : Int32).toNatClampNeg)) : Int32).toInt < (n11 : Nat)) (e15 : qset h y3 (.inl (0, n11, .inl (upd f12 (((36330 + (f8 (x1 : Int32).toNatClampNeg)) : Int32).toNatClampNeg) 1))) = h1) (kk : qE d 142 101 [some (.ref r0), some (.int x1), some (.int x2), some (.int x3), none] [] h1 q): qE d 142 85 [some (.ref r0), some (.int x1), some (.int x2), some (.int x3), none] [] h q := by
  refine qe_aload_n c142_85 rfl ?_
  refine qe_getfield c142_86 qo142 qF12_14 e2 e4 ?_
  refine qe_ldc_w (x := 36330) c142_89 qo142 qI12_473 ?_
  refine qe_aload_n c142_92 rfl ?_
  refine qe_getfield c142_93 qo142 qF12_143 e2 e6 ?_
  refine qe_iload_n c142_96 rfl ?_
  refine qe_iaload c142_97 e9 e10 ?_
  refine qe_iadd c142_98 ?_
  refine qe_iconst (x := 1) c142_99 (by decide) ?_
  refine qe_iastore c142_100 e13 e14 ?_
  rw [e15]
  exact kk
theorem b142_101 {d : Nat} {q : Option Value × qH} {h : qH} {r0 : Nat} {x1 : Int32} {x2 : Int32} {x3 : Int32} {fs1 : List Value} {h1 : qH}  (e2 : h.2.2 r0 = some (.inr (12, fs1))) (e3 : qCall d 175 [.ref r0, .int 36288] h (none, h1)) (kk : qE d 142 111 [some (.ref r0), some (.int x1), some (.int x2), some (.int x3), some (.int 0)] [] h1 q): qE d 142 101 [some (.ref r0), some (.int x1), some (.int x2), some (.int x3), none] [] h q := by
  refine qe_aload_n c142_101 rfl ?_
  refine qe_ldc_w (x := 36288) c142_102 qo142 qI12_471 ?_
  refine qe_virtual (b := r0) (as := [.int 36288]) (r := []) (v := none) (h2 := h1) c142_105 qo142 qK12_458 rfl rfl rfl (by rw [qo175]; exact e2) (Nat.le_of_ble_eq_true rfl) e3 ?_
  refine qe_iconst (x := 0) c142_108 (by decide) ?_
  refine qe_istore (ls2 := [some (.ref r0), some (.int x1), some (.int x2), some (.int x3), some (.int 0)]) c142_109 (Nat.le_of_ble_eq_true rfl) rfl ?_
  exact kk
theorem b142_111F {d : Nat} {q : Option Value × qH} {h : qH} {r0 : Nat} {x1 : Int32} {x2 : Int32} {x3 : Int32} {x4 : Int32} {fs1 : List Value} {y3 : Int32}  (e2 : h.2.2 r0 = some (.inr (12, fs1))) (e4 : fs1[59]? = some (.int y3)) (e5 : ¬ ((y3 : Int32) ≤ x4)) (kk : qE d 142 120 [some (.ref r0), some (.int x1), some (.int x2), some (.int x3), some (.int x4)] [] h q): qE d 142 111 [some (.ref r0), some (.int x1), some (.int x2), some (.int x3), some (.int x4)] [] h q := by
  refine qe_iload c142_111 rfl ?_
  refine qe_aload_n c142_113 rfl ?_
  refine qe_getfield c142_114 qo142 qF12_424 e2 e4 ?_
  refine qe_icmp_ge_F (t := 160) c142_117 rfl e5 ?_
  exact kk
theorem b142_111T {d : Nat} {q : Option Value × qH} {h : qH} {r0 : Nat} {x1 : Int32} {x2 : Int32} {x3 : Int32} {x4 : Int32} {fs1 : List Value} {y3 : Int32}  (e2 : h.2.2 r0 = some (.inr (12, fs1))) (e4 : fs1[59]? = some (.int y3)) (e5 : (y3 : Int32) ≤ x4) (kk : qE d 142 160 [some (.ref r0), some (.int x1), some (.int x2), some (.int x3), some (.int x4)] [] h q): qE d 142 111 [some (.ref r0), some (.int x1), some (.int x2), some (.int x3), some (.int x4)] [] h q := by
  refine qe_iload c142_111 rfl ?_
  refine qe_aload_n c142_113 rfl ?_
  refine qe_getfield c142_114 qo142 qF12_424 e2 e4 ?_
  refine qe_icmp_ge_T (t := 160) c142_117 rfl e5 ?_
  exact kk
theorem b142_120F {d : Nat} {q : Option Value × qH} {h : qH} {r0 : Nat} {x1 : Int32} {x2 : Int32} {x3 : Int32} {x4 : Int32} {fs1 : List Value} {y3 : Nat} {n5 : Nat} {f6 : Nat → Int32} {y9 : Nat} {n11 : Nat} {f12 : Nat → Int32}  (e2 : h.2.2 r0 = some (.inr (12, fs1))) (e4 : fs1[60]? = some (.ref y3)) (e7 : h.2.2 y3 = some (.inl (0, n5, .inl f6))) (e8 : 0 ≤ (x4 : Int32).toInt ∧ (x4 : Int32).toInt < (n5 : Nat)) (e10 : fs1[65]? = some (.ref y9)) (e13 : h.2.2 y9 = some (.inl (0, n11, .inl f12))) (e14 : 0 ≤ (x2 : Int32).toInt ∧ (x2 : Int32).toInt < (n11 : Nat)) (e15 : ((f6 (x4 : Int32).toNatClampNeg) : Int32) = (f12 (x2 : Int32).toNatClampNeg)) (kk : qE d 142 136 [some (.ref r0), some (.int x1), some (.int x2), some (.int x3), some (.int x4)] [] h q): qE d 142 120 [some (.ref r0), some (.int x1), some (.int x2), some (.int x3), some (.int x4)] [] h q := by
  refine qe_aload_n c142_120 rfl ?_
  refine qe_getfield c142_121 qo142 qF12_125 e2 e4 ?_
  refine qe_iload c142_124 rfl ?_
  refine qe_iaload c142_126 e7 e8 ?_
  refine qe_aload_n c142_127 rfl ?_
  refine qe_getfield c142_128 qo142 qF12_140 e2 e10 ?_
  refine qe_iload_n c142_131 rfl ?_
  refine qe_iaload c142_132 e13 e14 ?_
  refine qe_icmp_ne_F (t := 154) c142_133 rfl e15 ?_
  exact kk
theorem b142_120T {d : Nat} {q : Option Value × qH} {h : qH} {r0 : Nat} {x1 : Int32} {x2 : Int32} {x3 : Int32} {x4 : Int32} {fs1 : List Value} {y3 : Nat} {n5 : Nat} {f6 : Nat → Int32} {y9 : Nat} {n11 : Nat} {f12 : Nat → Int32}  (e2 : h.2.2 r0 = some (.inr (12, fs1))) (e4 : fs1[60]? = some (.ref y3)) (e7 : h.2.2 y3 = some (.inl (0, n5, .inl f6))) (e8 : 0 ≤ (x4 : Int32).toInt ∧ (x4 : Int32).toInt < (n5 : Nat)) (e10 : fs1[65]? = some (.ref y9)) (e13 : h.2.2 y9 = some (.inl (0, n11, .inl f12))) (e14 : 0 ≤ (x2 : Int32).toInt ∧ (x2 : Int32).toInt < (n11 : Nat)) (e15 : ¬ (((f6 (x4 : Int32).toNatClampNeg) : Int32) = (f12 (x2 : Int32).toNatClampNeg))) (kk : qE d 142 154 [some (.ref r0), some (.int x1), some (.int x2), some (.int x3), some (.int x4)] [] h q): qE d 142 120 [some (.ref r0), some (.int x1), some (.int x2), some (.int x3), some (.int x4)] [] h q := by
  refine qe_aload_n c142_120 rfl ?_
  refine qe_getfield c142_121 qo142 qF12_125 e2 e4 ?_
  refine qe_iload c142_124 rfl ?_
  refine qe_iaload c142_126 e7 e8 ?_
  refine qe_aload_n c142_127 rfl ?_
  refine qe_getfield c142_128 qo142 qF12_140 e2 e10 ?_
  refine qe_iload_n c142_131 rfl ?_
  refine qe_iaload c142_132 e13 e14 ?_
  refine qe_icmp_ne_T (t := 154) c142_133 rfl e15 ?_
  exact kk
theorem b142_136F {d : Nat} {q : Option Value × qH} {h : qH} {r0 : Nat} {x1 : Int32} {x2 : Int32} {x3 : Int32} {x4 : Int32} {fs1 : List Value} {y3 : Nat} {n5 : Nat} {f6 : Nat → Int32} {y9 : Nat} {n11 : Nat} {f12 : Nat → Int32}  (e2 : h.2.2 r0 = some (.inr (12, fs1))) (e4 : fs1[61]? = some (.ref y3)) (e7 : h.2.2 y3 = some (.inl (0, n5, .inl f6))) (e8 : 0 ≤ (x4 : Int32).toInt ∧ (x4 : Int32).toInt < (n5 : Nat)) (e10 : fs1[66]? = some (.ref y9)) (e13 : h.2.2 y9 = some (.inl (0, n11, .inl f12))) (e14 : 0 ≤ (x2 : Int32).toInt ∧ (x2 : Int32).toInt < (n11 : Nat)) (e15 : ((f6 (x4 : Int32).toNatClampNeg) : Int32) = (f12 (x2 : Int32).toNatClampNeg)) (kk : qE d 142 152 [some (.ref r0), some (.int x1), some (.int x2), some (.int x3), some (.int x4)] [] h q): qE d 142 136 [some (.ref r0), some (.int x1), some (.int x2), some (.int x3), some (.int x4)] [] h q := by
  refine qe_aload_n c142_136 rfl ?_
  refine qe_getfield c142_137 qo142 qF12_128 e2 e4 ?_
  refine qe_iload c142_140 rfl ?_
  refine qe_iaload c142_142 e7 e8 ?_
  refine qe_aload_n c142_143 rfl ?_
  refine qe_getfield c142_144 qo142 qF12_143 e2 e10 ?_
  refine qe_iload_n c142_147 rfl ?_
  refine qe_iaload c142_148 e13 e14 ?_
  refine qe_icmp_ne_F (t := 154) c142_149 rfl e15 ?_
  exact kk
theorem b142_136T {d : Nat} {q : Option Value × qH} {h : qH} {r0 : Nat} {x1 : Int32} {x2 : Int32} {x3 : Int32} {x4 : Int32} {fs1 : List Value} {y3 : Nat} {n5 : Nat} {f6 : Nat → Int32} {y9 : Nat} {n11 : Nat} {f12 : Nat → Int32}  (e2 : h.2.2 r0 = some (.inr (12, fs1))) (e4 : fs1[61]? = some (.ref y3)) (e7 : h.2.2 y3 = some (.inl (0, n5, .inl f6))) (e8 : 0 ≤ (x4 : Int32).toInt ∧ (x4 : Int32).toInt < (n5 : Nat)) (e10 : fs1[66]? = some (.ref y9)) (e13 : h.2.2 y9 = some (.inl (0, n11, .inl f12))) (e14 : 0 ≤ (x2 : Int32).toInt ∧ (x2 : Int32).toInt < (n11 : Nat)) (e15 : ¬ (((f6 (x4 : Int32).toNatClampNeg) : Int32) = (f12 (x2 : Int32).toNatClampNeg))) (kk : qE d 142 154 [some (.ref r0), some (.int x1), some (.int x2), some (.int x3), some (.int x4)] [] h q): qE d 142 136 [some (.ref r0), some (.int x1), some (.int x2), some (.int x3), some (.int x4)] [] h q := by
  refine qe_aload_n c142_136 rfl ?_
  refine qe_getfield c142_137 qo142 qF12_128 e2 e4 ?_
  refine qe_iload c142_140 rfl ?_
  refine qe_iaload c142_142 e7 e8 ?_
  refine qe_aload_n c142_143 rfl ?_
  refine qe_getfield c142_144 qo142 qF12_143 e2 e10 ?_
  refine qe_iload_n c142_147 rfl ?_
  refine qe_iaload c142_148 e13 e14 ?_
  refine qe_icmp_ne_T (t := 154) c142_149 rfl e15 ?_
  exact kk
theorem b142_152 {d : Nat} {h : qH} {r0 : Nat} {x1 : Int32} {x2 : Int32} {x3 : Int32} {x4 : Int32}   : qE d 142 152 [some (.ref r0), some (.int x1), some (.int x2), some (.int x3), some (.int x4)] [] h (some (.int 0), h) := by
  refine qe_iconst (x := 0) c142_152 (by decide) ?_
  exact qe_zret c142_153 qr142 (by decide)
theorem b142_154 {d : Nat} {q : Option Value × qH} {h : qH} {r0 : Nat} {x1 : Int32} {x2 : Int32} {x3 : Int32} {x4 : Int32}   (kk : qE d 142 111 [some (.ref r0), some (.int x1), some (.int x2), some (.int x3), some (.int (x4 + 1))] [] h q): qE d 142 154 [some (.ref r0), some (.int x1), some (.int x2), some (.int x3), some (.int x4)] [] h q := by
  refine qe_iinc (y := (x4 + 1)) (ls2 := [some (.ref r0), some (.int x1), some (.int x2), some (.int x3), some (.int (x4 + 1))]) c142_154 rfl (Nat.le_of_ble_eq_true rfl) rfl rfl ?_
  refine qe_goto (t := 111) c142_157 rfl ?_
  exact kk
theorem b142_160 {d : Nat} {h : qH} {r0 : Nat} {x1 : Int32} {x2 : Int32} {x3 : Int32} {x4 : Int32}   : qE d 142 160 [some (.ref r0), some (.int x1), some (.int x2), some (.int x3), some (.int x4)] [] h (some (.int 1), h) := by
  refine qe_iconst (x := 1) c142_160 (by decide) ?_
  exact qe_zret c142_161 qr142 (by decide)
theorem b143_0F {d : Nat} {q : Option Value × qH} {h : qH} {l0 : Int64} {l2 : Int64} {l4 : Int64}  (e1 : ¬ (((lg_cmp l0 l2) : Int32) < 0)) (kk : qE d 143 6 [some (.long l0), none, some (.long l2), none, some (.long l4), none] [] h q): qE d 143 0 [some (.long l0), none, some (.long l2), none, some (.long l4), none] [] h q := by
  refine qe_lload_n c143_0 rfl ?_
  refine qe_lload_n c143_1 rfl ?_
  refine qe_lcmp c143_2 ?_
  refine qe_if_lt_F (t := 17) c143_3 rfl e1 ?_
  exact kk
theorem b143_0T {d : Nat} {q : Option Value × qH} {h : qH} {l0 : Int64} {l2 : Int64} {l4 : Int64}  (e1 : ((lg_cmp l0 l2) : Int32) < 0) (kk : qE d 143 17 [some (.long l0), none, some (.long l2), none, some (.long l4), none] [] h q): qE d 143 0 [some (.long l0), none, some (.long l2), none, some (.long l4), none] [] h q := by
  refine qe_lload_n c143_0 rfl ?_
  refine qe_lload_n c143_1 rfl ?_
  refine qe_lcmp c143_2 ?_
  refine qe_if_lt_T (t := 17) c143_3 rfl e1 ?_
  exact kk
theorem b143_6F {d : Nat} {q : Option Value × qH} {h : qH} {l0 : Int64} {l2 : Int64} {l4 : Int64}  (e1 : ¬ ((0 : Int32) < (lg_cmp l0 l4))) (kk : qE d 143 13 [some (.long l0), none, some (.long l2), none, some (.long l4), none] [] h q): qE d 143 6 [some (.long l0), none, some (.long l2), none, some (.long l4), none] [] h q := by
  refine qe_lload_n c143_6 rfl ?_
  refine qe_lload c143_7 rfl ?_
  refine qe_lcmp c143_9 ?_
  refine qe_if_gt_F (t := 17) c143_10 rfl e1 ?_
  exact kk
theorem b143_6T {d : Nat} {q : Option Value × qH} {h : qH} {l0 : Int64} {l2 : Int64} {l4 : Int64}  (e1 : (0 : Int32) < (lg_cmp l0 l4)) (kk : qE d 143 17 [some (.long l0), none, some (.long l2), none, some (.long l4), none] [] h q): qE d 143 6 [some (.long l0), none, some (.long l2), none, some (.long l4), none] [] h q := by
  refine qe_lload_n c143_6 rfl ?_
  refine qe_lload c143_7 rfl ?_
  refine qe_lcmp c143_9 ?_
  refine qe_if_gt_T (t := 17) c143_10 rfl e1 ?_
  exact kk
theorem b143_13 {d : Nat} {q : Option Value × qH} {h : qH} {l0 : Int64} {l2 : Int64} {l4 : Int64}   (kk : qE d 143 18 [some (.long l0), none, some (.long l2), none, some (.long l4), none] [.int 1] h q): qE d 143 13 [some (.long l0), none, some (.long l2), none, some (.long l4), none] [] h q := by
  refine qe_iconst (x := 1) c143_13 (by decide) ?_
  refine qe_goto (t := 18) c143_14 rfl ?_
  exact kk
theorem b143_17 {d : Nat} {q : Option Value × qH} {h : qH} {l0 : Int64} {l2 : Int64} {l4 : Int64}   (kk : qE d 143 18 [some (.long l0), none, some (.long l2), none, some (.long l4), none] [.int 0] h q): qE d 143 17 [some (.long l0), none, some (.long l2), none, some (.long l4), none] [] h q := by
  refine qe_iconst (x := 0) c143_17 (by decide) ?_
  exact kk
theorem b143_18 {d : Nat} {h : qH} {l0 : Int64} {l2 : Int64} {l4 : Int64} {xs0 : Int32}  (e1 : (xs0 : Int32) = 0 ∨ (xs0 : Int32) = 1) : qE d 143 18 [some (.long l0), none, some (.long l2), none, some (.long l4), none] [.int xs0] h (some (.int xs0), h) := by
  exact qe_zret c143_18 qr143 e1
theorem b144_0F {d : Nat} {q : Option Value × qH} {h : qH} {r0 : Nat} {x1 : Int32} {x2 : Int32} {fs1 : List Value} {h1 : qH} {z3 : Int32}  (e2 : h.2.2 r0 = some (.inr (12, fs1))) (e4 : qCall d 132 [.ref r0, .int x1] h ((some (.int z3)), h1)) (e5 : ¬ ((z3 : Int32) = 0)) (kk : qE d 144 8 [some (.ref r0), some (.int x1), some (.int x2)] [] h1 q): qE d 144 0 [some (.ref r0), some (.int x1), some (.int x2)] [] h q := by
  refine qe_aload_n c144_0 rfl ?_
  refine qe_iload_n c144_1 rfl ?_
  refine qe_virtual (b := r0) (as := [.int x1]) (r := []) (v := (some (.int z3))) (h2 := h1) c144_2 qo144 qK12_214 rfl rfl rfl (by rw [qo132]; exact e2) (Nat.le_of_ble_eq_true rfl) e4 ?_
  refine qe_if_eq_F (t := 20) c144_5 rfl e5 ?_
  exact kk
theorem b144_0T {d : Nat} {q : Option Value × qH} {h : qH} {r0 : Nat} {x1 : Int32} {x2 : Int32} {fs1 : List Value} {h1 : qH} {z3 : Int32}  (e2 : h.2.2 r0 = some (.inr (12, fs1))) (e4 : qCall d 132 [.ref r0, .int x1] h ((some (.int z3)), h1)) (e5 : (z3 : Int32) = 0) (kk : qE d 144 20 [some (.ref r0), some (.int x1), some (.int x2)] [] h1 q): qE d 144 0 [some (.ref r0), some (.int x1), some (.int x2)] [] h q := by
  refine qe_aload_n c144_0 rfl ?_
  refine qe_iload_n c144_1 rfl ?_
  refine qe_virtual (b := r0) (as := [.int x1]) (r := []) (v := (some (.int z3))) (h2 := h1) c144_2 qo144 qK12_214 rfl rfl rfl (by rw [qo132]; exact e2) (Nat.le_of_ble_eq_true rfl) e4 ?_
  refine qe_if_eq_T (t := 20) c144_5 rfl e5 ?_
  exact kk
theorem b144_8F {d : Nat} {q : Option Value × qH} {h : qH} {r0 : Nat} {x1 : Int32} {x2 : Int32} {h1 : qH} {z1 : Int32}  (e2 : qCall d 143 [.long (x2 : Int32).toInt64, .long 0, .long 2000] h ((some (.int z1)), h1)) (e3 : (z1 : Int32) = 0) (kk : qE d 144 20 [some (.ref r0), some (.int x1), some (.int x2)] [] h1 q): qE d 144 8 [some (.ref r0), some (.int x1), some (.int x2)] [] h q := by
  refine qe_iload_n c144_8 rfl ?_
  refine qe_i2l c144_9 ?_
  refine qe_lconst (x := 0) c144_10 (by decide) ?_
  refine qe_ldc2_w (x := 2000) c144_11 qo144 qJ12_209 ?_
  refine qe_static (as := [.long (x2 : Int32).toInt64, .long 0, .long 2000]) (r := []) (v := (some (.int z1))) (h2 := h1) c144_14 qo144 (by decide) qK12_190 rfl rfl rfl (Nat.le_of_ble_eq_true rfl) e2 ?_
  refine qe_if_ne_F (t := 22) c144_17 rfl e3 ?_
  exact kk
theorem b144_8T {d : Nat} {q : Option Value × qH} {h : qH} {r0 : Nat} {x1 : Int32} {x2 : Int32} {h1 : qH} {z1 : Int32}  (e2 : qCall d 143 [.long (x2 : Int32).toInt64, .long 0, .long 2000] h ((some (.int z1)), h1)) (e3 : ¬ ((z1 : Int32) = 0)) (kk : qE d 144 22 [some (.ref r0), some (.int x1), some (.int x2)] [] h1 q): qE d 144 8 [some (.ref r0), some (.int x1), some (.int x2)] [] h q := by
  refine qe_iload_n c144_8 rfl ?_
  refine qe_i2l c144_9 ?_
  refine qe_lconst (x := 0) c144_10 (by decide) ?_
  refine qe_ldc2_w (x := 2000) c144_11 qo144 qJ12_209 ?_
  refine qe_static (as := [.long (x2 : Int32).toInt64, .long 0, .long 2000]) (r := []) (v := (some (.int z1))) (h2 := h1) c144_14 qo144 (by decide) qK12_190 rfl rfl rfl (Nat.le_of_ble_eq_true rfl) e2 ?_
  refine qe_if_ne_T (t := 22) c144_17 rfl e3 ?_
  exact kk
theorem b144_20 {d : Nat} {h : qH} {r0 : Nat} {x1 : Int32} {x2 : Int32}   : qE d 144 20 [some (.ref r0), some (.int x1), some (.int x2)] [] h (some (.int 0), h) := by
  refine qe_iconst (x := 0) c144_20 (by decide) ?_
  exact qe_zret c144_21 qr144 (by decide)
theorem b144_22 {d : Nat} {h : qH} {r0 : Nat} {x1 : Int32} {x2 : Int32} {fs1 : List Value} {y3 : Nat} {n5 : Nat} {f6 : Nat → Int32} {h1 : qH}  (e2 : h.2.2 r0 = some (.inr (12, fs1))) (e4 : fs1[10]? = some (.ref y3)) (e7 : h.2.2 y3 = some (.inl (0, n5, .inl f6))) (e8 : 0 ≤ ((36059 + x1) : Int32).toInt ∧ ((36059 + x1) : Int32).toInt < (n5 : Nat)) (e9 : qset h y3 (.inl (0, n5, .inl (upd f6 (((36059 + x1) : Int32).toNatClampNeg) x2))) = h1) : qE d 144 22 [some (.ref r0), some (.int x1), some (.int x2)] [] h (some (.int 1), h1) := by
  refine qe_aload_n c144_22 rfl ?_
  refine qe_getfield c144_23 qo144 qF12_14 e2 e4 ?_
  refine qe_ldc (x := 36059) c144_26 qo144 qI12_213 ?_
  refine qe_iload_n c144_28 rfl ?_
  refine qe_iadd c144_29 ?_
  refine qe_iload_n c144_30 rfl ?_
  refine qe_iastore c144_31 e7 e8 ?_
  rw [e9]
  refine qe_iconst (x := 1) c144_32 (by decide) ?_
  exact qe_zret c144_33 qr144 (by decide)
theorem b145_0F {d : Nat} {q : Option Value × qH} {h : qH} {r0 : Nat} {x1 : Int32} {x2 : Int32} {fs1 : List Value} {y3 : Nat} {n5 : Nat} {f6 : Nat → Int32}  (e2 : h.2.2 r0 = some (.inr (12, fs1))) (e4 : fs1[10]? = some (.ref y3)) (e7 : h.2.2 y3 = some (.inl (0, n5, .inl f6))) (e8 : 0 ≤ (((x1 + 51) + x2) : Int32).toInt ∧ (((x1 + 51) + x2) : Int32).toInt < (n5 : Nat)) (e9 : ((f6 (((x1 + 51) + x2) : Int32).toNatClampNeg) : Int32) = 1) (kk : qE d 145 15 [some (.ref r0), some (.int x1), some (.int x2)] [] h q): qE d 145 0 [some (.ref r0), some (.int x1), some (.int x2)] [] h q := by
  refine qe_aload_n c145_0 rfl ?_
  refine qe_getfield c145_1 qo145 qF12_14 e2 e4 ?_
  refine qe_iload_n c145_4 rfl ?_
  refine qe_bipush (x := 51) c145_5 (by decide) ?_
  refine qe_iadd c145_7 ?_
  refine qe_iload_n c145_8 rfl ?_
  refine qe_iadd c145_9 ?_
  refine qe_iaload c145_10 e7 e8 ?_
  refine qe_iconst (x := 1) c145_11 (by decide) ?_
  refine qe_icmp_ne_F (t := 19) c145_12 rfl e9 ?_
  exact kk
theorem b145_0T {d : Nat} {q : Option Value × qH} {h : qH} {r0 : Nat} {x1 : Int32} {x2 : Int32} {fs1 : List Value} {y3 : Nat} {n5 : Nat} {f6 : Nat → Int32}  (e2 : h.2.2 r0 = some (.inr (12, fs1))) (e4 : fs1[10]? = some (.ref y3)) (e7 : h.2.2 y3 = some (.inl (0, n5, .inl f6))) (e8 : 0 ≤ (((x1 + 51) + x2) : Int32).toInt ∧ (((x1 + 51) + x2) : Int32).toInt < (n5 : Nat)) (e9 : ¬ (((f6 (((x1 + 51) + x2) : Int32).toNatClampNeg) : Int32) = 1)) (kk : qE d 145 19 [some (.ref r0), some (.int x1), some (.int x2)] [] h q): qE d 145 0 [some (.ref r0), some (.int x1), some (.int x2)] [] h q := by
  refine qe_aload_n c145_0 rfl ?_
  refine qe_getfield c145_1 qo145 qF12_14 e2 e4 ?_
  refine qe_iload_n c145_4 rfl ?_
  refine qe_bipush (x := 51) c145_5 (by decide) ?_
  refine qe_iadd c145_7 ?_
  refine qe_iload_n c145_8 rfl ?_
  refine qe_iadd c145_9 ?_
  refine qe_iaload c145_10 e7 e8 ?_
  refine qe_iconst (x := 1) c145_11 (by decide) ?_
  refine qe_icmp_ne_T (t := 19) c145_12 rfl e9 ?_
  exact kk
theorem b145_15 {d : Nat} {q : Option Value × qH} {h : qH} {r0 : Nat} {x1 : Int32} {x2 : Int32}   (kk : qE d 145 30 [some (.ref r0), some (.int x1), some (.int x2)] [.int 0] h q): qE d 145 15 [some (.ref r0), some (.int x1), some (.int x2)] [] h q := by
  refine qe_iconst (x := 0) c145_15 (by decide) ?_
  refine qe_goto (t := 30) c145_16 rfl ?_
  exact kk
theorem b145_19 {d : Nat} {q : Option Value × qH} {h : qH} {r0 : Nat} {x1 : Int32} {x2 : Int32} {fs1 : List Value} {y3 : Nat} {n5 : Nat} {f6 : Nat → Int32}  (e2 : h.2.2 r0 = some (.inr (12, fs1))) (e4 : fs1[10]? = some (.ref y3)) (e7 : h.2.2 y3 = some (.inl (0, n5, .inl f6))) (e8 : 0 ≤ (((x1 + 59) + x2) : Int32).toInt ∧ (((x1 + 59) + x2) : Int32).toInt < (n5 : Nat)) (kk : qE d 145 30 [some (.ref r0), some (.int x1), some (.int x2)] [.int (f6 (((x1 + 59) + x2) : Int32).toNatClampNeg)] h q): qE d 145 19 [some (.ref r0), some (.int x1), some (.int x2)] [] h q := by
  refine qe_aload_n c145_19 rfl ?_
  refine qe_getfield c145_20 qo145 qF12_14 e2 e4 ?_
  refine qe_iload_n c145_23 rfl ?_
  refine qe_bipush (x := 59) c145_24 (by decide) ?_
  refine qe_iadd c145_26 ?_
  refine qe_iload_n c145_27 rfl ?_
  refine qe_iadd c145_28 ?_
  refine qe_iaload c145_29 e7 e8 ?_
  exact kk
theorem b145_30 {d : Nat} {h : qH} {r0 : Nat} {x1 : Int32} {x2 : Int32} {xs0 : Int32}   : qE d 145 30 [some (.ref r0), some (.int x1), some (.int x2)] [.int xs0] h (some (.int xs0), h) := by
  exact qe_iret c145_30 qr145
theorem b146_0 {d : Nat} {q : Option Value × qH} {h : qH} {r0 : Nat} {x1 : Int32} {x2 : Int32}   (kk : qE d 146 5 [some (.ref r0), some (.int x1), some (.int x2), some (.int 0), some (.int 0)] [] h q): qE d 146 0 [some (.ref r0), some (.int x1), some (.int x2), none, none] [] h q := by
  refine qe_iconst (x := 0) c146_0 (by decide) ?_
  refine qe_istore_n (ls2 := [some (.ref r0), some (.int x1), some (.int x2), some (.int 0), none]) c146_1 (Nat.le_of_ble_eq_true rfl) rfl ?_
  refine qe_iconst (x := 0) c146_2 (by decide) ?_
  refine qe_istore (ls2 := [some (.ref r0), some (.int x1), some (.int x2), some (.int 0), some (.int 0)]) c146_3 (Nat.le_of_ble_eq_true rfl) rfl ?_
  exact kk
theorem b146_5F {d : Nat} {q : Option Value × qH} {h : qH} {r0 : Nat} {x1 : Int32} {x2 : Int32} {x3 : Int32} {x4 : Int32} {fs1 : List Value} {y3 : Int32}  (e2 : h.2.2 r0 = some (.inr (12, fs1))) (e4 : fs1[3]? = some (.int y3)) (e5 : ¬ ((y3 : Int32) ≤ x4)) (kk : qE d 146 14 [some (.ref r0), some (.int x1), some (.int x2), some (.int x3), some (.int x4)] [] h q): qE d 146 5 [some (.ref r0), some (.int x1), some (.int x2), some (.int x3), some (.int x4)] [] h q := by
  refine qe_iload c146_5 rfl ?_
  refine qe_aload_n c146_7 rfl ?_
  refine qe_getfield c146_8 qo146 qF12_186 e2 e4 ?_
  refine qe_icmp_ge_F (t := 45) c146_11 rfl e5 ?_
  exact kk
theorem b146_5T {d : Nat} {q : Option Value × qH} {h : qH} {r0 : Nat} {x1 : Int32} {x2 : Int32} {x3 : Int32} {x4 : Int32} {fs1 : List Value} {y3 : Int32}  (e2 : h.2.2 r0 = some (.inr (12, fs1))) (e4 : fs1[3]? = some (.int y3)) (e5 : (y3 : Int32) ≤ x4) (kk : qE d 146 45 [some (.ref r0), some (.int x1), some (.int x2), some (.int x3), some (.int x4)] [] h q): qE d 146 5 [some (.ref r0), some (.int x1), some (.int x2), some (.int x3), some (.int x4)] [] h q := by
  refine qe_iload c146_5 rfl ?_
  refine qe_aload_n c146_7 rfl ?_
  refine qe_getfield c146_8 qo146 qF12_186 e2 e4 ?_
  refine qe_icmp_ge_T (t := 45) c146_11 rfl e5 ?_
  exact kk
theorem b146_14F {d : Nat} {q : Option Value × qH} {h : qH} {r0 : Nat} {x1 : Int32} {x2 : Int32} {x3 : Int32} {x4 : Int32} {fs1 : List Value} {y3 : Nat} {n5 : Nat} {f6 : Nat → Int32}  (e2 : h.2.2 r0 = some (.inr (12, fs1))) (e4 : fs1[24]? = some (.ref y3)) (e7 : h.2.2 y3 = some (.inl (0, n5, .inl f6))) (e8 : 0 ≤ (x4 : Int32).toInt ∧ (x4 : Int32).toInt < (n5 : Nat)) (e9 : ((f6 (x4 : Int32).toNatClampNeg) : Int32) = x2) (kk : qE d 146 26 [some (.ref r0), some (.int x1), some (.int x2), some (.int x3), some (.int x4)] [.int x3] h q): qE d 146 14 [some (.ref r0), some (.int x1), some (.int x2), some (.int x3), some (.int x4)] [] h q := by
  refine qe_iload_n c146_14 rfl ?_
  refine qe_aload_n c146_15 rfl ?_
  refine qe_getfield c146_16 qo146 qF12_58 e2 e4 ?_
  refine qe_iload c146_19 rfl ?_
  refine qe_iaload c146_21 e7 e8 ?_
  refine qe_iload_n c146_22 rfl ?_
  refine qe_icmp_ne_F (t := 36) c146_23 rfl e9 ?_
  exact kk
theorem b146_14T {d : Nat} {q : Option Value × qH} {h : qH} {r0 : Nat} {x1 : Int32} {x2 : Int32} {x3 : Int32} {x4 : Int32} {fs1 : List Value} {y3 : Nat} {n5 : Nat} {f6 : Nat → Int32}  (e2 : h.2.2 r0 = some (.inr (12, fs1))) (e4 : fs1[24]? = some (.ref y3)) (e7 : h.2.2 y3 = some (.inl (0, n5, .inl f6))) (e8 : 0 ≤ (x4 : Int32).toInt ∧ (x4 : Int32).toInt < (n5 : Nat)) (e9 : ¬ (((f6 (x4 : Int32).toNatClampNeg) : Int32) = x2)) (kk : qE d 146 36 [some (.ref r0), some (.int x1), some (.int x2), some (.int x3), some (.int x4)] [.int x3] h q): qE d 146 14 [some (.ref r0), some (.int x1), some (.int x2), some (.int x3), some (.int x4)] [] h q := by
  refine qe_iload_n c146_14 rfl ?_
  refine qe_aload_n c146_15 rfl ?_
  refine qe_getfield c146_16 qo146 qF12_58 e2 e4 ?_
  refine qe_iload c146_19 rfl ?_
  refine qe_iaload c146_21 e7 e8 ?_
  refine qe_iload_n c146_22 rfl ?_
  refine qe_icmp_ne_T (t := 36) c146_23 rfl e9 ?_
  exact kk
theorem b146_26 {d : Nat} {q : Option Value × qH} {h : qH} {r0 : Nat} {x1 : Int32} {x2 : Int32} {x3 : Int32} {x4 : Int32} {xs0 : Int32} {fs1 : List Value} {h1 : qH} {z3 : Int32}  (e2 : h.2.2 r0 = some (.inr (12, fs1))) (e4 : qCall d 145 [.ref r0, .int x1, .int x4] h ((some (.int z3)), h1)) (kk : qE d 146 37 [some (.ref r0), some (.int x1), some (.int x2), some (.int x3), some (.int x4)] [.int z3, .int xs0] h1 q): qE d 146 26 [some (.ref r0), some (.int x1), some (.int x2), some (.int x3), some (.int x4)] [.int xs0] h q := by
  refine qe_aload_n c146_26 rfl ?_
  refine qe_iload_n c146_27 rfl ?_
  refine qe_iload c146_28 rfl ?_
  refine qe_virtual (b := r0) (as := [.int x1, .int x4]) (r := [.int xs0]) (v := (some (.int z3))) (h2 := h1) c146_30 qo146 qK12_235 rfl rfl rfl (by rw [qo145]; exact e2) (Nat.le_of_ble_eq_true rfl) e4 ?_
  refine qe_goto (t := 37) c146_33 rfl ?_
  exact kk
theorem b146_36 {d : Nat} {q : Option Value × qH} {h : qH} {r0 : Nat} {x1 : Int32} {x2 : Int32} {x3 : Int32} {x4 : Int32} {xs0 : Int32}   (kk : qE d 146 37 [some (.ref r0), some (.int x1), some (.int x2), some (.int x3), some (.int x4)] [.int 0, .int xs0] h q): qE d 146 36 [some (.ref r0), some (.int x1), some (.int x2), some (.int x3), some (.int x4)] [.int xs0] h q := by
  refine qe_iconst (x := 0) c146_36 (by decide) ?_
  exact kk
theorem b146_37 {d : Nat} {q : Option Value × qH} {h : qH} {r0 : Nat} {x1 : Int32} {x2 : Int32} {x3 : Int32} {x4 : Int32} {xs0 : Int32} {xs1 : Int32}   (kk : qE d 146 5 [some (.ref r0), some (.int x1), some (.int x2), some (.int (xs0 + xs1)), some (.int (x4 + 1))] [] h q): qE d 146 37 [some (.ref r0), some (.int x1), some (.int x2), some (.int x3), some (.int x4)] [.int xs1, .int xs0] h q := by
  refine qe_iadd c146_37 ?_
  refine qe_istore_n (ls2 := [some (.ref r0), some (.int x1), some (.int x2), some (.int (xs0 + xs1)), some (.int x4)]) c146_38 (Nat.le_of_ble_eq_true rfl) rfl ?_
  refine qe_iinc (y := (x4 + 1)) (ls2 := [some (.ref r0), some (.int x1), some (.int x2), some (.int (xs0 + xs1)), some (.int (x4 + 1))]) c146_39 rfl (Nat.le_of_ble_eq_true rfl) rfl rfl ?_
  refine qe_goto (t := 5) c146_42 rfl ?_
  exact kk
theorem b146_45 {d : Nat} {h : qH} {r0 : Nat} {x1 : Int32} {x2 : Int32} {x3 : Int32} {x4 : Int32}   : qE d 146 45 [some (.ref r0), some (.int x1), some (.int x2), some (.int x3), some (.int x4)] [] h (some (.int x3), h) := by
  refine qe_iload_n c146_45 rfl ?_
  exact qe_iret c146_46 qr146
theorem b147_0F {d : Nat} {q : Option Value × qH} {h : qH} {r0 : Nat} {x1 : Int32} {fs1 : List Value} {h1 : qH} {z3 : Int32}  (e2 : h.2.2 r0 = some (.inr (12, fs1))) (e4 : qCall d 136 [.ref r0, .int x1] h ((some (.int z3)), h1)) (e5 : ¬ ((z3 : Int32) = 0)) (kk : qE d 147 8 [some (.ref r0), some (.int x1)] [] h1 q): qE d 147 0 [some (.ref r0), some (.int x1)] [] h q := by
  refine qe_aload_n c147_0 rfl ?_
  refine qe_iload_n c147_1 rfl ?_
  refine qe_virtual (b := r0) (as := [.int x1]) (r := []) (v := (some (.int z3))) (h2 := h1) c147_2 qo147 qK12_224 rfl rfl rfl (by rw [qo136]; exact e2) (Nat.le_of_ble_eq_true rfl) e4 ?_
  refine qe_if_eq_F (t := 21) c147_5 rfl e5 ?_
  exact kk
theorem b147_0T {d : Nat} {q : Option Value × qH} {h : qH} {r0 : Nat} {x1 : Int32} {fs1 : List Value} {h1 : qH} {z3 : Int32}  (e2 : h.2.2 r0 = some (.inr (12, fs1))) (e4 : qCall d 136 [.ref r0, .int x1] h ((some (.int z3)), h1)) (e5 : (z3 : Int32) = 0) (kk : qE d 147 21 [some (.ref r0), some (.int x1)] [] h1 q): qE d 147 0 [some (.ref r0), some (.int x1)] [] h q := by
  refine qe_aload_n c147_0 rfl ?_
  refine qe_iload_n c147_1 rfl ?_
  refine qe_virtual (b := r0) (as := [.int x1]) (r := []) (v := (some (.int z3))) (h2 := h1) c147_2 qo147 qK12_224 rfl rfl rfl (by rw [qo136]; exact e2) (Nat.le_of_ble_eq_true rfl) e4 ?_
  refine qe_if_eq_T (t := 21) c147_5 rfl e5 ?_
  exact kk
theorem b147_8F {d : Nat} {q : Option Value × qH} {h : qH} {r0 : Nat} {x1 : Int32} {fs1 : List Value} {y3 : Nat} {n5 : Nat} {f6 : Nat → Int32}  (e2 : h.2.2 r0 = some (.inr (12, fs1))) (e4 : fs1[10]? = some (.ref y3)) (e7 : h.2.2 y3 = some (.inl (0, n5, .inl f6))) (e8 : 0 ≤ ((36000 + x1) : Int32).toInt ∧ ((36000 + x1) : Int32).toInt < (n5 : Nat)) (e9 : ¬ (((f6 ((36000 + x1) : Int32).toNatClampNeg) : Int32) = 3)) (kk : qE d 147 21 [some (.ref r0), some (.int x1)] [] h q): qE d 147 8 [some (.ref r0), some (.int x1)] [] h q := by
  refine qe_aload_n c147_8 rfl ?_
  refine qe_getfield c147_9 qo147 qF12_14 e2 e4 ?_
  refine qe_ldc (x := 36000) c147_12 qo147 qI12_230 ?_
  refine qe_iload_n c147_14 rfl ?_
  refine qe_iadd c147_15 ?_
  refine qe_iaload c147_16 e7 e8 ?_
  refine qe_iconst (x := 3) c147_17 (by decide) ?_
  refine qe_icmp_eq_F (t := 23) c147_18 rfl e9 ?_
  exact kk
theorem b147_8T {d : Nat} {q : Option Value × qH} {h : qH} {r0 : Nat} {x1 : Int32} {fs1 : List Value} {y3 : Nat} {n5 : Nat} {f6 : Nat → Int32}  (e2 : h.2.2 r0 = some (.inr (12, fs1))) (e4 : fs1[10]? = some (.ref y3)) (e7 : h.2.2 y3 = some (.inl (0, n5, .inl f6))) (e8 : 0 ≤ ((36000 + x1) : Int32).toInt ∧ ((36000 + x1) : Int32).toInt < (n5 : Nat)) (e9 : ((f6 ((36000 + x1) : Int32).toNatClampNeg) : Int32) = 3) (kk : qE d 147 23 [some (.ref r0), some (.int x1)] [] h q): qE d 147 8 [some (.ref r0), some (.int x1)] [] h q := by
  refine qe_aload_n c147_8 rfl ?_
  refine qe_getfield c147_9 qo147 qF12_14 e2 e4 ?_
  refine qe_ldc (x := 36000) c147_12 qo147 qI12_230 ?_
  refine qe_iload_n c147_14 rfl ?_
  refine qe_iadd c147_15 ?_
  refine qe_iaload c147_16 e7 e8 ?_
  refine qe_iconst (x := 3) c147_17 (by decide) ?_
  refine qe_icmp_eq_T (t := 23) c147_18 rfl e9 ?_
  exact kk
theorem b147_21 {d : Nat} {h : qH} {r0 : Nat} {x1 : Int32}   : qE d 147 21 [some (.ref r0), some (.int x1)] [] h (some (.int 0), h) := by
  refine qe_iconst (x := 0) c147_21 (by decide) ?_
  exact qe_zret c147_22 qr147 (by decide)
theorem b147_23 {d : Nat} {h : qH} {r0 : Nat} {x1 : Int32} {fs1 : List Value} {y3 : Nat} {n5 : Nat} {f6 : Nat → Int32} {h1 : qH}  (e2 : h.2.2 r0 = some (.inr (12, fs1))) (e4 : fs1[10]? = some (.ref y3)) (e7 : h.2.2 y3 = some (.inl (0, n5, .inl f6))) (e8 : 0 ≤ ((36000 + x1) : Int32).toInt ∧ ((36000 + x1) : Int32).toInt < (n5 : Nat)) (e9 : qset h y3 (.inl (0, n5, .inl (upd f6 (((36000 + x1) : Int32).toNatClampNeg) 1))) = h1) : qE d 147 23 [some (.ref r0), some (.int x1)] [] h (some (.int 1), h1) := by
  refine qe_aload_n c147_23 rfl ?_
  refine qe_getfield c147_24 qo147 qF12_14 e2 e4 ?_
  refine qe_ldc (x := 36000) c147_27 qo147 qI12_230 ?_
  refine qe_iload_n c147_29 rfl ?_
  refine qe_iadd c147_30 ?_
  refine qe_iconst (x := 1) c147_31 (by decide) ?_
  refine qe_iastore c147_32 e7 e8 ?_
  rw [e9]
  refine qe_iconst (x := 1) c147_33 (by decide) ?_
  exact qe_zret c147_34 qr147 (by decide)
theorem b148_0 {d : Nat} {q : Option Value × qH} {h : qH} {r0 : Nat} {x1 : Int32} {x2 : Int32}   (kk : qE d 148 5 [some (.ref r0), some (.int x1), some (.int x2), some (.int 0), some (.int 0)] [] h q): qE d 148 0 [some (.ref r0), some (.int x1), some (.int x2), none, none] [] h q := by
  refine qe_iconst (x := 0) c148_0 (by decide) ?_
  refine qe_istore_n (ls2 := [some (.ref r0), some (.int x1), some (.int x2), some (.int 0), none]) c148_1 (Nat.le_of_ble_eq_true rfl) rfl ?_
  refine qe_iconst (x := 0) c148_2 (by decide) ?_
  refine qe_istore (ls2 := [some (.ref r0), some (.int x1), some (.int x2), some (.int 0), some (.int 0)]) c148_3 (Nat.le_of_ble_eq_true rfl) rfl ?_
  exact kk
theorem b148_5F {d : Nat} {q : Option Value × qH} {h : qH} {r0 : Nat} {x1 : Int32} {x2 : Int32} {x3 : Int32} {x4 : Int32} {fs1 : List Value} {y3 : Int32}  (e2 : h.2.2 r0 = some (.inr (12, fs1))) (e4 : fs1[5]? = some (.int y3)) (e5 : ¬ ((y3 : Int32) ≤ x4)) (kk : qE d 148 14 [some (.ref r0), some (.int x1), some (.int x2), some (.int x3), some (.int x4)] [] h q): qE d 148 5 [some (.ref r0), some (.int x1), some (.int x2), some (.int x3), some (.int x4)] [] h q := by
  refine qe_iload c148_5 rfl ?_
  refine qe_aload_n c148_7 rfl ?_
  refine qe_getfield c148_8 qo148 qF12_197 e2 e4 ?_
  refine qe_icmp_ge_F (t := 66) c148_11 rfl e5 ?_
  exact kk
theorem b148_5T {d : Nat} {q : Option Value × qH} {h : qH} {r0 : Nat} {x1 : Int32} {x2 : Int32} {x3 : Int32} {x4 : Int32} {fs1 : List Value} {y3 : Int32}  (e2 : h.2.2 r0 = some (.inr (12, fs1))) (e4 : fs1[5]? = some (.int y3)) (e5 : (y3 : Int32) ≤ x4) (kk : qE d 148 66 [some (.ref r0), some (.int x1), some (.int x2), some (.int x3), some (.int x4)] [] h q): qE d 148 5 [some (.ref r0), some (.int x1), some (.int x2), some (.int x3), some (.int x4)] [] h q := by
  refine qe_iload c148_5 rfl ?_
  refine qe_aload_n c148_7 rfl ?_
  refine qe_getfield c148_8 qo148 qF12_197 e2 e4 ?_
  refine qe_icmp_ge_T (t := 66) c148_11 rfl e5 ?_
  exact kk
theorem b148_14F {d : Nat} {q : Option Value × qH} {h : qH} {r0 : Nat} {x1 : Int32} {x2 : Int32} {x3 : Int32} {x4 : Int32} {fs1 : List Value} {y3 : Nat} {n5 : Nat} {f6 : Nat → Int32}  (e2 : h.2.2 r0 = some (.inr (12, fs1))) (e4 : fs1[10]? = some (.ref y3)) (e7 : h.2.2 y3 = some (.inl (0, n5, .inl f6))) (e8 : 0 ≤ (((x1 + 42) + x4) : Int32).toInt ∧ (((x1 + 42) + x4) : Int32).toInt < (n5 : Nat)) (e9 : ((f6 (((x1 + 42) + x4) : Int32).toNatClampNeg) : Int32) = 1) (kk : qE d 148 31 [some (.ref r0), some (.int x1), some (.int x2), some (.int x3), some (.int x4)] [.int x3] h q): qE d 148 14 [some (.ref r0), some (.int x1), some (.int x2), some (.int x3), some (.int x4)] [] h q := by
  refine qe_iload_n c148_14 rfl ?_
  refine qe_aload_n c148_15 rfl ?_
  refine qe_getfield c148_16 qo148 qF12_14 e2 e4 ?_
  refine qe_iload_n c148_19 rfl ?_
  refine qe_bipush (x := 42) c148_20 (by decide) ?_
  refine qe_iadd c148_22 ?_
  refine qe_iload c148_23 rfl ?_
  refine qe_iadd c148_25 ?_
  refine qe_iaload c148_26 e7 e8 ?_
  refine qe_iconst (x := 1) c148_27 (by decide) ?_
  refine qe_icmp_ne_F (t := 57) c148_28 rfl e9 ?_
  exact kk
theorem b148_14T {d : Nat} {q : Option Value × qH} {h : qH} {r0 : Nat} {x1 : Int32} {x2 : Int32} {x3 : Int32} {x4 : Int32} {fs1 : List Value} {y3 : Nat} {n5 : Nat} {f6 : Nat → Int32}  (e2 : h.2.2 r0 = some (.inr (12, fs1))) (e4 : fs1[10]? = some (.ref y3)) (e7 : h.2.2 y3 = some (.inl (0, n5, .inl f6))) (e8 : 0 ≤ (((x1 + 42) + x4) : Int32).toInt ∧ (((x1 + 42) + x4) : Int32).toInt < (n5 : Nat)) (e9 : ¬ (((f6 (((x1 + 42) + x4) : Int32).toNatClampNeg) : Int32) = 1)) (kk : qE d 148 57 [some (.ref r0), some (.int x1), some (.int x2), some (.int x3), some (.int x4)] [.int x3] h q): qE d 148 14 [some (.ref r0), some (.int x1), some (.int x2), some (.int x3), some (.int x4)] [] h q := by
  refine qe_iload_n c148_14 rfl ?_
  refine qe_aload_n c148_15 rfl ?_
  refine qe_getfield c148_16 qo148 qF12_14 e2 e4 ?_
  refine qe_iload_n c148_19 rfl ?_
  refine qe_bipush (x := 42) c148_20 (by decide) ?_
  refine qe_iadd c148_22 ?_
  refine qe_iload c148_23 rfl ?_
  refine qe_iadd c148_25 ?_
  refine qe_iaload c148_26 e7 e8 ?_
  refine qe_iconst (x := 1) c148_27 (by decide) ?_
  refine qe_icmp_ne_T (t := 57) c148_28 rfl e9 ?_
  exact kk
theorem b148_31F {d : Nat} {q : Option Value × qH} {h : qH} {r0 : Nat} {x1 : Int32} {x2 : Int32} {x3 : Int32} {x4 : Int32} {xs0 : Int32} {fs1 : List Value} {y3 : Nat} {y5 : Nat} {n7 : Nat} {f8 : Nat → Int32} {n11 : Nat} {f12 : Nat → Int32}  (e2 : h.2.2 r0 = some (.inr (12, fs1))) (e4 : fs1[24]? = some (.ref y3)) (e6 : fs1[19]? = some (.ref y5)) (e9 : h.2.2 y5 = some (.inl (0, n7, .inl f8))) (e10 : 0 ≤ (x4 : Int32).toInt ∧ (x4 : Int32).toInt < (n7 : Nat)) (e13 : h.2.2 y3 = some (.inl (0, n11, .inl f12))) (e14 : 0 ≤ ((f8 (x4 : Int32).toNatClampNeg) : Int32).toInt ∧ ((f8 (x4 : Int32).toNatClampNeg) : Int32).toInt < (n11 : Nat)) (e15 : ((f12 ((f8 (x4 : Int32).toNatClampNeg) : Int32).toNatClampNeg) : Int32) = x2) (kk : qE d 148 47 [some (.ref r0), some (.int x1), some (.int x2), some (.int x3), some (.int x4)] [.int xs0] h q): qE d 148 31 [some (.ref r0), some (.int x1), some (.int x2), some (.int x3), some (.int x4)] [.int xs0] h q := by
  refine qe_aload_n c148_31 rfl ?_
  refine qe_getfield c148_32 qo148 qF12_58 e2 e4 ?_
  refine qe_aload_n c148_35 rfl ?_
  refine qe_getfield c148_36 qo148 qF12_42 e2 e6 ?_
  refine qe_iload c148_39 rfl ?_
  refine qe_iaload c148_41 e9 e10 ?_
  refine qe_iaload c148_42 e13 e14 ?_
  refine qe_iload_n c148_43 rfl ?_
  refine qe_icmp_ne_F (t := 57) c148_44 rfl e15 ?_
  exact kk
theorem b148_31T {d : Nat} {q : Option Value × qH} {h : qH} {r0 : Nat} {x1 : Int32} {x2 : Int32} {x3 : Int32} {x4 : Int32} {xs0 : Int32} {fs1 : List Value} {y3 : Nat} {y5 : Nat} {n7 : Nat} {f8 : Nat → Int32} {n11 : Nat} {f12 : Nat → Int32}  (e2 : h.2.2 r0 = some (.inr (12, fs1))) (e4 : fs1[24]? = some (.ref y3)) (e6 : fs1[19]? = some (.ref y5)) (e9 : h.2.2 y5 = some (.inl (0, n7, .inl f8))) (e10 : 0 ≤ (x4 : Int32).toInt ∧ (x4 : Int32).toInt < (n7 : Nat)) (e13 : h.2.2 y3 = some (.inl (0, n11, .inl f12))) (e14 : 0 ≤ ((f8 (x4 : Int32).toNatClampNeg) : Int32).toInt ∧ ((f8 (x4 : Int32).toNatClampNeg) : Int32).toInt < (n11 : Nat)) (e15 : ¬ (((f12 ((f8 (x4 : Int32).toNatClampNeg) : Int32).toNatClampNeg) : Int32) = x2)) (kk : qE d 148 57 [some (.ref r0), some (.int x1), some (.int x2), some (.int x3), some (.int x4)] [.int xs0] h q): qE d 148 31 [some (.ref r0), some (.int x1), some (.int x2), some (.int x3), some (.int x4)] [.int xs0] h q := by
  refine qe_aload_n c148_31 rfl ?_
  refine qe_getfield c148_32 qo148 qF12_58 e2 e4 ?_
  refine qe_aload_n c148_35 rfl ?_
  refine qe_getfield c148_36 qo148 qF12_42 e2 e6 ?_
  refine qe_iload c148_39 rfl ?_
  refine qe_iaload c148_41 e9 e10 ?_
  refine qe_iaload c148_42 e13 e14 ?_
  refine qe_iload_n c148_43 rfl ?_
  refine qe_icmp_ne_T (t := 57) c148_44 rfl e15 ?_
  exact kk
theorem b148_47 {d : Nat} {q : Option Value × qH} {h : qH} {r0 : Nat} {x1 : Int32} {x2 : Int32} {x3 : Int32} {x4 : Int32} {xs0 : Int32} {fs1 : List Value} {y3 : Nat} {n5 : Nat} {f6 : Nat → Int32}  (e2 : h.2.2 r0 = some (.inr (12, fs1))) (e4 : fs1[20]? = some (.ref y3)) (e7 : h.2.2 y3 = some (.inl (0, n5, .inl f6))) (e8 : 0 ≤ (x4 : Int32).toInt ∧ (x4 : Int32).toInt < (n5 : Nat)) (kk : qE d 148 58 [some (.ref r0), some (.int x1), some (.int x2), some (.int x3), some (.int x4)] [.int (f6 (x4 : Int32).toNatClampNeg), .int xs0] h q): qE d 148 47 [some (.ref r0), some (.int x1), some (.int x2), some (.int x3), some (.int x4)] [.int xs0] h q := by
  refine qe_aload_n c148_47 rfl ?_
  refine qe_getfield c148_48 qo148 qF12_45 e2 e4 ?_
  refine qe_iload c148_51 rfl ?_
  refine qe_iaload c148_53 e7 e8 ?_
  refine qe_goto (t := 58) c148_54 rfl ?_
  exact kk
theorem b148_57 {d : Nat} {q : Option Value × qH} {h : qH} {r0 : Nat} {x1 : Int32} {x2 : Int32} {x3 : Int32} {x4 : Int32} {xs0 : Int32}   (kk : qE d 148 58 [some (.ref r0), some (.int x1), some (.int x2), some (.int x3), some (.int x4)] [.int 0, .int xs0] h q): qE d 148 57 [some (.ref r0), some (.int x1), some (.int x2), some (.int x3), some (.int x4)] [.int xs0] h q := by
  refine qe_iconst (x := 0) c148_57 (by decide) ?_
  exact kk
theorem b148_58 {d : Nat} {q : Option Value × qH} {h : qH} {r0 : Nat} {x1 : Int32} {x2 : Int32} {x3 : Int32} {x4 : Int32} {xs0 : Int32} {xs1 : Int32}   (kk : qE d 148 5 [some (.ref r0), some (.int x1), some (.int x2), some (.int (xs0 + xs1)), some (.int (x4 + 1))] [] h q): qE d 148 58 [some (.ref r0), some (.int x1), some (.int x2), some (.int x3), some (.int x4)] [.int xs1, .int xs0] h q := by
  refine qe_iadd c148_58 ?_
  refine qe_istore_n (ls2 := [some (.ref r0), some (.int x1), some (.int x2), some (.int (xs0 + xs1)), some (.int x4)]) c148_59 (Nat.le_of_ble_eq_true rfl) rfl ?_
  refine qe_iinc (y := (x4 + 1)) (ls2 := [some (.ref r0), some (.int x1), some (.int x2), some (.int (xs0 + xs1)), some (.int (x4 + 1))]) c148_60 rfl (Nat.le_of_ble_eq_true rfl) rfl rfl ?_
  refine qe_goto (t := 5) c148_63 rfl ?_
  exact kk
theorem b148_66 {d : Nat} {h : qH} {r0 : Nat} {x1 : Int32} {x2 : Int32} {x3 : Int32} {x4 : Int32}   : qE d 148 66 [some (.ref r0), some (.int x1), some (.int x2), some (.int x3), some (.int x4)] [] h (some (.int x3), h) := by
  refine qe_iload_n c148_66 rfl ?_
  exact qe_iret c148_67 qr148
theorem b149_0 {d : Nat} {q : Option Value × qH} {h : qH} {r0 : Nat} {x1 : Int32}   (kk : qE d 149 4 [some (.ref r0), some (.int x1), some (.int 0), some (.int 0)] [] h q): qE d 149 0 [some (.ref r0), some (.int x1), none, none] [] h q := by
  refine qe_iconst (x := 0) c149_0 (by decide) ?_
  refine qe_istore_n (ls2 := [some (.ref r0), some (.int x1), some (.int 0), none]) c149_1 (Nat.le_of_ble_eq_true rfl) rfl ?_
  refine qe_iconst (x := 0) c149_2 (by decide) ?_
  refine qe_istore_n (ls2 := [some (.ref r0), some (.int x1), some (.int 0), some (.int 0)]) c149_3 (Nat.le_of_ble_eq_true rfl) rfl ?_
  exact kk
theorem b149_4F {d : Nat} {q : Option Value × qH} {h : qH} {r0 : Nat} {x1 : Int32} {x2 : Int32} {x3 : Int32}  (e1 : ¬ ((4 : Int32) ≤ x3)) (kk : qE d 149 9 [some (.ref r0), some (.int x1), some (.int x2), some (.int x3)] [] h q): qE d 149 4 [some (.ref r0), some (.int x1), some (.int x2), some (.int x3)] [] h q := by
  refine qe_iload_n c149_4 rfl ?_
  refine qe_iconst (x := 4) c149_5 (by decide) ?_
  refine qe_icmp_ge_F (t := 35) c149_6 rfl e1 ?_
  exact kk
theorem b149_4T {d : Nat} {q : Option Value × qH} {h : qH} {r0 : Nat} {x1 : Int32} {x2 : Int32} {x3 : Int32}  (e1 : (4 : Int32) ≤ x3) (kk : qE d 149 35 [some (.ref r0), some (.int x1), some (.int x2), some (.int x3)] [] h q): qE d 149 4 [some (.ref r0), some (.int x1), some (.int x2), some (.int x3)] [] h q := by
  refine qe_iload_n c149_4 rfl ?_
  refine qe_iconst (x := 4) c149_5 (by decide) ?_
  refine qe_icmp_ge_T (t := 35) c149_6 rfl e1 ?_
  exact kk
theorem b149_9 {d : Nat} {q : Option Value × qH} {h : qH} {r0 : Nat} {x1 : Int32} {x2 : Int32} {x3 : Int32} {fs1 : List Value} {y3 : Nat} {n5 : Nat} {f6 : Nat → Int32}  (e2 : h.2.2 r0 = some (.inr (12, fs1))) (e4 : fs1[0]? = some (.ref y3)) (e7 : h.2.2 y3 = some (.inl (3, n5, .inl f6))) (e8 : 0 ≤ (((4 * x1) + x3) : Int32).toInt ∧ (((4 * x1) + x3) : Int32).toInt < (n5 : Nat)) (kk : qE d 149 4 [some (.ref r0), some (.int x1), some (.int ((x2 <<< (8 &&& 31)) ||| ((f6 (((4 * x1) + x3) : Int32).toNatClampNeg) &&& 255))), some (.int (x3 + 1))] [] h q): qE d 149 9 [some (.ref r0), some (.int x1), some (.int x2), some (.int x3)] [] h q := by
  refine qe_iload_n c149_9 rfl ?_
  refine qe_bipush (x := 8) c149_10 (by decide) ?_
  refine qe_ishl c149_12 ?_
  refine qe_aload_n c149_13 rfl ?_
  refine qe_getfield c149_14 qo149 qF12_7 e2 e4 ?_
  refine qe_iconst (x := 4) c149_17 (by decide) ?_
  refine qe_iload_n c149_18 rfl ?_
  refine qe_imul c149_19 ?_
  refine qe_iload_n c149_20 rfl ?_
  refine qe_iadd c149_21 ?_
  refine qe_baload c149_22 e7 e8 ?_
  refine qe_sipush (x := 255) c149_23 (by decide) ?_
  refine qe_iand c149_26 ?_
  refine qe_ior c149_27 ?_
  refine qe_istore_n (ls2 := [some (.ref r0), some (.int x1), some (.int ((x2 <<< (8 &&& 31)) ||| ((f6 (((4 * x1) + x3) : Int32).toNatClampNeg) &&& 255))), some (.int x3)]) c149_28 (Nat.le_of_ble_eq_true rfl) rfl ?_
  refine qe_iinc (y := (x3 + 1)) (ls2 := [some (.ref r0), some (.int x1), some (.int ((x2 <<< (8 &&& 31)) ||| ((f6 (((4 * x1) + x3) : Int32).toNatClampNeg) &&& 255))), some (.int (x3 + 1))]) c149_29 rfl (Nat.le_of_ble_eq_true rfl) rfl rfl ?_
  refine qe_goto (t := 4) c149_32 rfl ?_
  exact kk
theorem b149_35 {d : Nat} {h : qH} {r0 : Nat} {x1 : Int32} {x2 : Int32} {x3 : Int32}   : qE d 149 35 [some (.ref r0), some (.int x1), some (.int x2), some (.int x3)] [] h (some (.int x2), h) := by
  refine qe_iload_n c149_35 rfl ?_
  exact qe_iret c149_36 qr149
theorem b150_0F {d : Nat} {q : Option Value × qH} {h : qH} {r0 : Nat} {fs1 : List Value} {y3 : Int32}  (e2 : h.2.2 r0 = some (.inr (12, fs1))) (e4 : fs1[49]? = some (.int y3)) (e5 : (y3 : Int32) = 6) (kk : qE d 150 9 [some (.ref r0)] [] h q): qE d 150 0 [some (.ref r0)] [] h q := by
  refine qe_aload_n c150_0 rfl ?_
  refine qe_getfield c150_1 qo150 qF12_309 e2 e4 ?_
  refine qe_bipush (x := 6) c150_4 (by decide) ?_
  refine qe_icmp_ne_F (t := 18) c150_6 rfl e5 ?_
  exact kk
theorem b150_0T {d : Nat} {q : Option Value × qH} {h : qH} {r0 : Nat} {fs1 : List Value} {y3 : Int32}  (e2 : h.2.2 r0 = some (.inr (12, fs1))) (e4 : fs1[49]? = some (.int y3)) (e5 : ¬ ((y3 : Int32) = 6)) (kk : qE d 150 18 [some (.ref r0)] [] h q): qE d 150 0 [some (.ref r0)] [] h q := by
  refine qe_aload_n c150_0 rfl ?_
  refine qe_getfield c150_1 qo150 qF12_309 e2 e4 ?_
  refine qe_bipush (x := 6) c150_4 (by decide) ?_
  refine qe_icmp_ne_T (t := 18) c150_6 rfl e5 ?_
  exact kk
theorem b150_9 {d : Nat} {q : Option Value × qH} {h : qH} {r0 : Nat} {fs1 : List Value} {y3 : Int32} {h1 : qH}  (e2 : h.2.2 r0 = some (.inr (12, fs1))) (e4 : fs1[44]? = some (.int y3)) (e5 : qCall d 190 [.ref r0, .int 5, .int y3] h (none, h1)) (kk : qE d 150 18 [some (.ref r0)] [] h1 q): qE d 150 9 [some (.ref r0)] [] h q := by
  refine qe_aload_n c150_9 rfl ?_
  refine qe_iconst (x := 5) c150_10 (by decide) ?_
  refine qe_aload_n c150_11 rfl ?_
  refine qe_getfield c150_12 qo150 qF12_290 e2 e4 ?_
  refine qe_virtual (b := r0) (as := [.int 5, .int y3]) (r := []) (v := none) (h2 := h1) c150_15 qo150 qK12_312 rfl rfl rfl (by rw [qo190]; exact e2) (Nat.le_of_ble_eq_true rfl) e5 ?_
  exact kk
theorem b150_18 {d : Nat} {h : qH} {r0 : Nat} {fs1 : List Value} {y3 : Int32} {h1 : qH} {fs7 : List Value} {h2 : qH} {z9 : Int32} {fs11 : List Value} {h3 : qH}  (e2 : h.2.2 r0 = some (.inr (12, fs1))) (e4 : fs1[49]? = some (.int y3)) (e5 : 49 < fs1.length) (e6 : qset h r0 (.inr (12, fs1.set 49 (.int (y3 + 1)))) = h1) (e8 : h1.2.2 r0 = some (.inr (12, fs7))) (e10 : qCall d 120 [.ref r0] h1 ((some (.int z9)), h2)) (e12 : h2.2.2 r0 = some (.inr (12, fs11))) (e13 : qCall d 155 [.ref r0, .int z9] h2 (none, h3)) : qE d 150 18 [some (.ref r0)] [] h (none, h3) := by
  refine qe_aload_n c150_18 rfl ?_
  refine qe_dup c150_19 rfl ?_
  refine qe_getfield c150_20 qo150 qF12_309 e2 e4 ?_
  refine qe_iconst (x := 1) c150_23 (by decide) ?_
  refine qe_iadd c150_24 ?_
  refine qe_putfield c150_25 qo150 qF12_309 qz12_49 e2 e5 (by rw [qy12_49]; rfl) ?_
  rw [e6]
  refine qe_aload_n c150_28 rfl ?_
  refine qe_aload_n c150_29 rfl ?_
  refine qe_virtual (b := r0) (as := []) (r := [.ref r0]) (v := (some (.int z9))) (h2 := h2) c150_30 qo150 qK12_315 rfl rfl rfl (by rw [qo120]; exact e8) (Nat.le_of_ble_eq_true rfl) e10 ?_
  refine qe_virtual (b := r0) (as := [.int z9]) (r := []) (v := none) (h2 := h3) c150_33 qo150 qK12_319 rfl rfl rfl (by rw [qo155]; exact e12) (Nat.le_of_ble_eq_true rfl) e13 ?_
  exact qe_vret c150_36 qr150
theorem b151_0F {d : Nat} {q : Option Value × qH} {h : qH} {r0 : Nat} {x1 : Int32} {x2 : Int32} {fs1 : List Value} {h1 : qH} {z3 : Int32}  (e2 : h.2.2 r0 = some (.inr (12, fs1))) (e4 : qCall d 129 [.ref r0, .int x1] h ((some (.int z3)), h1)) (e5 : ¬ ((z3 : Int32) = 0)) (kk : qE d 151 8 [some (.ref r0), some (.int x1), some (.int x2), none, none, none, none, none] [] h1 q): qE d 151 0 [some (.ref r0), some (.int x1), some (.int x2), none, none, none, none, none] [] h q := by
  refine qe_aload_n c151_0 rfl ?_
  refine qe_iload_n c151_1 rfl ?_
  refine qe_virtual (b := r0) (as := [.int x1]) (r := []) (v := (some (.int z3))) (h2 := h1) c151_2 qo151 qK12_513 rfl rfl rfl (by rw [qo129]; exact e2) (Nat.le_of_ble_eq_true rfl) e4 ?_
  refine qe_if_eq_F (t := 16) c151_5 rfl e5 ?_
  exact kk
theorem b151_0T {d : Nat} {q : Option Value × qH} {h : qH} {r0 : Nat} {x1 : Int32} {x2 : Int32} {fs1 : List Value} {h1 : qH} {z3 : Int32}  (e2 : h.2.2 r0 = some (.inr (12, fs1))) (e4 : qCall d 129 [.ref r0, .int x1] h ((some (.int z3)), h1)) (e5 : (z3 : Int32) = 0) (kk : qE d 151 16 [some (.ref r0), some (.int x1), some (.int x2), none, none, none, none, none] [] h1 q): qE d 151 0 [some (.ref r0), some (.int x1), some (.int x2), none, none, none, none, none] [] h q := by
  refine qe_aload_n c151_0 rfl ?_
  refine qe_iload_n c151_1 rfl ?_
  refine qe_virtual (b := r0) (as := [.int x1]) (r := []) (v := (some (.int z3))) (h2 := h1) c151_2 qo151 qK12_513 rfl rfl rfl (by rw [qo129]; exact e2) (Nat.le_of_ble_eq_true rfl) e4 ?_
  refine qe_if_eq_T (t := 16) c151_5 rfl e5 ?_
  exact kk
theorem b151_8F {d : Nat} {q : Option Value × qH} {h : qH} {r0 : Nat} {x1 : Int32} {x2 : Int32} {fs1 : List Value} {h1 : qH} {z3 : Int32}  (e2 : h.2.2 r0 = some (.inr (12, fs1))) (e4 : qCall d 129 [.ref r0, .int x2] h ((some (.int z3)), h1)) (e5 : (z3 : Int32) = 0) (kk : qE d 151 16 [some (.ref r0), some (.int x1), some (.int x2), none, none, none, none, none] [] h1 q): qE d 151 8 [some (.ref r0), some (.int x1), some (.int x2), none, none, none, none, none] [] h q := by
  refine qe_aload_n c151_8 rfl ?_
  refine qe_iload_n c151_9 rfl ?_
  refine qe_virtual (b := r0) (as := [.int x2]) (r := []) (v := (some (.int z3))) (h2 := h1) c151_10 qo151 qK12_513 rfl rfl rfl (by rw [qo129]; exact e2) (Nat.le_of_ble_eq_true rfl) e4 ?_
  refine qe_if_ne_F (t := 18) c151_13 rfl e5 ?_
  exact kk
theorem b151_8T {d : Nat} {q : Option Value × qH} {h : qH} {r0 : Nat} {x1 : Int32} {x2 : Int32} {fs1 : List Value} {h1 : qH} {z3 : Int32}  (e2 : h.2.2 r0 = some (.inr (12, fs1))) (e4 : qCall d 129 [.ref r0, .int x2] h ((some (.int z3)), h1)) (e5 : ¬ ((z3 : Int32) = 0)) (kk : qE d 151 18 [some (.ref r0), some (.int x1), some (.int x2), none, none, none, none, none] [] h1 q): qE d 151 8 [some (.ref r0), some (.int x1), some (.int x2), none, none, none, none, none] [] h q := by
  refine qe_aload_n c151_8 rfl ?_
  refine qe_iload_n c151_9 rfl ?_
  refine qe_virtual (b := r0) (as := [.int x2]) (r := []) (v := (some (.int z3))) (h2 := h1) c151_10 qo151 qK12_513 rfl rfl rfl (by rw [qo129]; exact e2) (Nat.le_of_ble_eq_true rfl) e4 ?_
  refine qe_if_ne_T (t := 18) c151_13 rfl e5 ?_
  exact kk
theorem b151_16 {d : Nat} {h : qH} {r0 : Nat} {x1 : Int32} {x2 : Int32}   : qE d 151 16 [some (.ref r0), some (.int x1), some (.int x2), none, none, none, none, none] [] h (some (.int (-1)), h) := by
  refine qe_iconst (x := (-1)) c151_16 (by decide) ?_
  exact qe_iret c151_17 qr151
theorem b151_18F {d : Nat} {q : Option Value × qH} {h : qH} {r0 : Nat} {x1 : Int32} {x2 : Int32} {fs1 : List Value} {h1 : qH} {z3 : Int32}  (e2 : h.2.2 r0 = some (.inr (12, fs1))) (e4 : qCall d 109 [.ref r0] h ((some (.int z3)), h1)) (e5 : (z3 : Int32) = 0) (kk : qE d 151 25 [some (.ref r0), some (.int x1), some (.int x2), none, none, none, none, none] [] h1 q): qE d 151 18 [some (.ref r0), some (.int x1), some (.int x2), none, none, none, none, none] [] h q := by
  refine qe_aload_n c151_18 rfl ?_
  refine qe_virtual (b := r0) (as := []) (r := []) (v := (some (.int z3))) (h2 := h1) c151_19 qo151 qK12_521 rfl rfl rfl (by rw [qo109]; exact e2) (Nat.le_of_ble_eq_true rfl) e4 ?_
  refine qe_if_ne_F (t := 27) c151_22 rfl e5 ?_
  exact kk
theorem b151_18T {d : Nat} {q : Option Value × qH} {h : qH} {r0 : Nat} {x1 : Int32} {x2 : Int32} {fs1 : List Value} {h1 : qH} {z3 : Int32}  (e2 : h.2.2 r0 = some (.inr (12, fs1))) (e4 : qCall d 109 [.ref r0] h ((some (.int z3)), h1)) (e5 : ¬ ((z3 : Int32) = 0)) (kk : qE d 151 27 [some (.ref r0), some (.int x1), some (.int x2), none, none, none, none, none] [] h1 q): qE d 151 18 [some (.ref r0), some (.int x1), some (.int x2), none, none, none, none, none] [] h q := by
  refine qe_aload_n c151_18 rfl ?_
  refine qe_virtual (b := r0) (as := []) (r := []) (v := (some (.int z3))) (h2 := h1) c151_19 qo151 qK12_521 rfl rfl rfl (by rw [qo109]; exact e2) (Nat.le_of_ble_eq_true rfl) e4 ?_
  refine qe_if_ne_T (t := 27) c151_22 rfl e5 ?_
  exact kk
theorem b151_25 {d : Nat} {h : qH} {r0 : Nat} {x1 : Int32} {x2 : Int32}   : qE d 151 25 [some (.ref r0), some (.int x1), some (.int x2), none, none, none, none, none] [] h (some (.int 4), h) := by
  refine qe_iconst (x := 4) c151_25 (by decide) ?_
  exact qe_iret c151_26 qr151
theorem b151_27F {d : Nat} {q : Option Value × qH} {h : qH} {r0 : Nat} {x1 : Int32} {x2 : Int32} {fs1 : List Value} {y3 : Nat} {n5 : Nat} {f6 : Nat → Int32} {y11 : Nat} {n13 : Nat} {f14 : Nat → Int32} {y19 : Nat} {n21 : Nat} {f22 : Nat → Int32}  (e2 : h.2.2 r0 = some (.inr (12, fs1))) (e4 : fs1[73]? = some (.ref y3)) (e7 : h.2.2 y3 = some (.inl (0, n5, .inl f6))) (e8 : 0 ≤ (x1 : Int32).toInt ∧ (x1 : Int32).toInt < (n5 : Nat)) (e10 : 0 ≤ (x2 : Int32).toInt ∧ (x2 : Int32).toInt < (n5 : Nat)) (e12 : fs1[74]? = some (.ref y11)) (e15 : h.2.2 y11 = some (.inl (0, n13, .inl f14))) (e16 : 0 ≤ (x1 : Int32).toInt ∧ (x1 : Int32).toInt < (n13 : Nat)) (e18 : 0 ≤ (x2 : Int32).toInt ∧ (x2 : Int32).toInt < (n13 : Nat)) (e20 : fs1[77]? = some (.ref y19)) (e23 : h.2.2 y19 = some (.inl (0, n21, .inl f22))) (e24 : 0 ≤ (((5 * (f6 (x1 : Int32).toNatClampNeg)) + (f6 (x2 : Int32).toNatClampNeg)) : Int32).toInt ∧ (((5 * (f6 (x1 : Int32).toNatClampNeg)) + (f6 (x2 : Int32).toNatClampNeg)) : Int32).toInt < (n21 : Nat)) (e26 : 0 ≤ (((5 * (f6 (x2 : Int32).toNatClampNeg)) + (f6 (x1 : Int32).toNatClampNeg)) : Int32).toInt ∧ (((5 * (f6 (x2 : Int32).toNatClampNeg)) + (f6 (x1 : Int32).toNatClampNeg)) : Int32).toInt < (n21 : Nat)) (e27 : ¬ ((0 : Int32) ≤ (((f14 (x1 : Int32).toNatClampNeg) - (f14 (x2 : Int32).toNatClampNeg)) + (f22 (((5 * (f6 (x2 : Int32).toNatClampNeg)) + (f6 (x1 : Int32).toNatClampNeg)) : Int32).toNatClampNeg)))) (kk : qE d 151 94 [some (.ref r0), some (.int x1), some (.int x2), some (.int (f6 (x1 : Int32).toNatClampNeg)), some (.int (f6 (x2 : Int32).toNatClampNeg)), some (.int ((f14 (x1 : Int32).toNatClampNeg) - (f14 (x2 : Int32).toNatClampNeg))), some (.int (((f14 (x1 : Int32).toNatClampNeg) - (f14 (x2 : Int32).toNatClampNeg)) - (f22 (((5 * (f6 (x1 : Int32).toNatClampNeg)) + (f6 (x2 : Int32).toNatClampNeg)) : Int32).toNatClampNeg))), some (.int (((f14 (x1 : Int32).toNatClampNeg) - (f14 (x2 : Int32).toNatClampNeg)) + (f22 (((5 * (f6 (x2 : Int32).toNatClampNeg)) + (f6 (x1 : Int32).toNatClampNeg)) : Int32).toNatClampNeg)))] [] h q): qE d 151 27 [some (.ref r0), some (.int x1), some (.int x2), none, none, none, none, none] [] h q := by
  refine qe_aload_n c151_27 rfl ?_
  refine qe_getfield c151_28 qo151 qF12_164 e2 e4 ?_
  refine qe_iload_n c151_31 rfl ?_
  refine qe_iaload c151_32 e7 e8 ?_
  refine qe_istore_n (ls2 := [some (.ref r0), some (.int x1), some (.int x2), some (.int (f6 (x1 : Int32).toNatClampNeg)), none, none, none, none]) c151_33 (Nat.le_of_ble_eq_true rfl) rfl ?_
  refine qe_aload_n c151_34 rfl ?_
  refine qe_getfield c151_35 qo151 qF12_164 e2 e4 ?_
  refine qe_iload_n c151_38 rfl ?_
  refine qe_iaload c151_39 e7 e10 ?_
  refine qe_istore (ls2 := [some (.ref r0), some (.int x1), some (.int x2), some (.int (f6 (x1 : Int32).toNatClampNeg)), some (.int (f6 (x2 : Int32).toNatClampNeg)), none, none, none]) c151_40 (Nat.le_of_ble_eq_true rfl) rfl ?_
  refine qe_aload_n c151_42 rfl ?_
  refine qe_getfield c151_43 qo151 qF12_167 e2 e12 ?_
  refine qe_iload_n c151_46 rfl ?_
  refine qe_iaload c151_47 e15 e16 ?_
  refine qe_aload_n c151_48 rfl ?_
  refine qe_getfield c151_49 qo151 qF12_167 e2 e12 ?_
  refine qe_iload_n c151_52 rfl ?_
  refine qe_iaload c151_53 e15 e18 ?_
  refine qe_isub c151_54 ?_
  refine qe_istore (ls2 := [some (.ref r0), some (.int x1), some (.int x2), some (.int (f6 (x1 : Int32).toNatClampNeg)), some (.int (f6 (x2 : Int32).toNatClampNeg)), some (.int ((f14 (x1 : Int32).toNatClampNeg) - (f14 (x2 : Int32).toNatClampNeg))), none, none]) c151_55 (Nat.le_of_ble_eq_true rfl) rfl ?_
  refine qe_iload c151_57 rfl ?_
  refine qe_aload_n c151_59 rfl ?_
  refine qe_getfield c151_60 qo151 qF12_176 e2 e20 ?_
  refine qe_iconst (x := 5) c151_63 (by decide) ?_
  refine qe_iload_n c151_64 rfl ?_
  refine qe_imul c151_65 ?_
  refine qe_iload c151_66 rfl ?_
  refine qe_iadd c151_68 ?_
  refine qe_iaload c151_69 e23 e24 ?_
  refine qe_isub c151_70 ?_
  refine qe_istore (ls2 := [some (.ref r0), some (.int x1), some (.int x2), some (.int (f6 (x1 : Int32).toNatClampNeg)), some (.int (f6 (x2 : Int32).toNatClampNeg)), some (.int ((f14 (x1 : Int32).toNatClampNeg) - (f14 (x2 : Int32).toNatClampNeg))), some (.int (((f14 (x1 : Int32).toNatClampNeg) - (f14 (x2 : Int32).toNatClampNeg)) - (f22 (((5 * (f6 (x1 : Int32).toNatClampNeg)) + (f6 (x2 : Int32).toNatClampNeg)) : Int32).toNatClampNeg))), none]) c151_71 (Nat.le_of_ble_eq_true rfl) rfl ?_
  refine qe_iload c151_73 rfl ?_
  refine qe_aload_n c151_75 rfl ?_
  refine qe_getfield c151_76 qo151 qF12_176 e2 e20 ?_
  refine qe_iconst (x := 5) c151_79 (by decide) ?_
  refine qe_iload c151_80 rfl ?_
  refine qe_imul c151_82 ?_
  refine qe_iload_n c151_83 rfl ?_
  refine qe_iadd c151_84 ?_
  refine qe_iaload c151_85 e23 e26 ?_
  refine qe_iadd c151_86 ?_
  refine qe_istore (ls2 := [some (.ref r0), some (.int x1), some (.int x2), some (.int (f6 (x1 : Int32).toNatClampNeg)), some (.int (f6 (x2 : Int32).toNatClampNeg)), some (.int ((f14 (x1 : Int32).toNatClampNeg) - (f14 (x2 : Int32).toNatClampNeg))), some (.int (((f14 (x1 : Int32).toNatClampNeg) - (f14 (x2 : Int32).toNatClampNeg)) - (f22 (((5 * (f6 (x1 : Int32).toNatClampNeg)) + (f6 (x2 : Int32).toNatClampNeg)) : Int32).toNatClampNeg))), some (.int (((f14 (x1 : Int32).toNatClampNeg) - (f14 (x2 : Int32).toNatClampNeg)) + (f22 (((5 * (f6 (x2 : Int32).toNatClampNeg)) + (f6 (x1 : Int32).toNatClampNeg)) : Int32).toNatClampNeg)))]) c151_87 (Nat.le_of_ble_eq_true rfl) rfl ?_
  refine qe_iload c151_89 rfl ?_
  refine qe_if_ge_F (t := 98) c151_91 rfl e27 ?_
  exact kk
theorem b151_27T {d : Nat} {q : Option Value × qH} {h : qH} {r0 : Nat} {x1 : Int32} {x2 : Int32} {fs1 : List Value} {y3 : Nat} {n5 : Nat} {f6 : Nat → Int32} {y11 : Nat} {n13 : Nat} {f14 : Nat → Int32} {y19 : Nat} {n21 : Nat} {f22 : Nat → Int32}  (e2 : h.2.2 r0 = some (.inr (12, fs1))) (e4 : fs1[73]? = some (.ref y3)) (e7 : h.2.2 y3 = some (.inl (0, n5, .inl f6))) (e8 : 0 ≤ (x1 : Int32).toInt ∧ (x1 : Int32).toInt < (n5 : Nat)) (e10 : 0 ≤ (x2 : Int32).toInt ∧ (x2 : Int32).toInt < (n5 : Nat)) (e12 : fs1[74]? = some (.ref y11)) (e15 : h.2.2 y11 = some (.inl (0, n13, .inl f14))) (e16 : 0 ≤ (x1 : Int32).toInt ∧ (x1 : Int32).toInt < (n13 : Nat)) (e18 : 0 ≤ (x2 : Int32).toInt ∧ (x2 : Int32).toInt < (n13 : Nat)) (e20 : fs1[77]? = some (.ref y19)) (e23 : h.2.2 y19 = some (.inl (0, n21, .inl f22))) (e24 : 0 ≤ (((5 * (f6 (x1 : Int32).toNatClampNeg)) + (f6 (x2 : Int32).toNatClampNeg)) : Int32).toInt ∧ (((5 * (f6 (x1 : Int32).toNatClampNeg)) + (f6 (x2 : Int32).toNatClampNeg)) : Int32).toInt < (n21 : Nat)) (e26 : 0 ≤ (((5 * (f6 (x2 : Int32).toNatClampNeg)) + (f6 (x1 : Int32).toNatClampNeg)) : Int32).toInt ∧ (((5 * (f6 (x2 : Int32).toNatClampNeg)) + (f6 (x1 : Int32).toNatClampNeg)) : Int32).toInt < (n21 : Nat)) (e27 : (0 : Int32) ≤ (((f14 (x1 : Int32).toNatClampNeg) - (f14 (x2 : Int32).toNatClampNeg)) + (f22 (((5 * (f6 (x2 : Int32).toNatClampNeg)) + (f6 (x1 : Int32).toNatClampNeg)) : Int32).toNatClampNeg))) (kk : qE d 151 98 [some (.ref r0), some (.int x1), some (.int x2), some (.int (f6 (x1 : Int32).toNatClampNeg)), some (.int (f6 (x2 : Int32).toNatClampNeg)), some (.int ((f14 (x1 : Int32).toNatClampNeg) - (f14 (x2 : Int32).toNatClampNeg))), some (.int (((f14 (x1 : Int32).toNatClampNeg) - (f14 (x2 : Int32).toNatClampNeg)) - (f22 (((5 * (f6 (x1 : Int32).toNatClampNeg)) + (f6 (x2 : Int32).toNatClampNeg)) : Int32).toNatClampNeg))), some (.int (((f14 (x1 : Int32).toNatClampNeg) - (f14 (x2 : Int32).toNatClampNeg)) + (f22 (((5 * (f6 (x2 : Int32).toNatClampNeg)) + (f6 (x1 : Int32).toNatClampNeg)) : Int32).toNatClampNeg)))] [] h q): qE d 151 27 [some (.ref r0), some (.int x1), some (.int x2), none, none, none, none, none] [] h q := by
  refine qe_aload_n c151_27 rfl ?_
  refine qe_getfield c151_28 qo151 qF12_164 e2 e4 ?_
  refine qe_iload_n c151_31 rfl ?_
  refine qe_iaload c151_32 e7 e8 ?_
  refine qe_istore_n (ls2 := [some (.ref r0), some (.int x1), some (.int x2), some (.int (f6 (x1 : Int32).toNatClampNeg)), none, none, none, none]) c151_33 (Nat.le_of_ble_eq_true rfl) rfl ?_
  refine qe_aload_n c151_34 rfl ?_
  refine qe_getfield c151_35 qo151 qF12_164 e2 e4 ?_
  refine qe_iload_n c151_38 rfl ?_
  refine qe_iaload c151_39 e7 e10 ?_
  refine qe_istore (ls2 := [some (.ref r0), some (.int x1), some (.int x2), some (.int (f6 (x1 : Int32).toNatClampNeg)), some (.int (f6 (x2 : Int32).toNatClampNeg)), none, none, none]) c151_40 (Nat.le_of_ble_eq_true rfl) rfl ?_
  refine qe_aload_n c151_42 rfl ?_
  refine qe_getfield c151_43 qo151 qF12_167 e2 e12 ?_
  refine qe_iload_n c151_46 rfl ?_
  refine qe_iaload c151_47 e15 e16 ?_
  refine qe_aload_n c151_48 rfl ?_
  refine qe_getfield c151_49 qo151 qF12_167 e2 e12 ?_
  refine qe_iload_n c151_52 rfl ?_
  refine qe_iaload c151_53 e15 e18 ?_
  refine qe_isub c151_54 ?_
  refine qe_istore (ls2 := [some (.ref r0), some (.int x1), some (.int x2), some (.int (f6 (x1 : Int32).toNatClampNeg)), some (.int (f6 (x2 : Int32).toNatClampNeg)), some (.int ((f14 (x1 : Int32).toNatClampNeg) - (f14 (x2 : Int32).toNatClampNeg))), none, none]) c151_55 (Nat.le_of_ble_eq_true rfl) rfl ?_
  refine qe_iload c151_57 rfl ?_
  refine qe_aload_n c151_59 rfl ?_
  refine qe_getfield c151_60 qo151 qF12_176 e2 e20 ?_
  refine qe_iconst (x := 5) c151_63 (by decide) ?_
  refine qe_iload_n c151_64 rfl ?_
  refine qe_imul c151_65 ?_
  refine qe_iload c151_66 rfl ?_
  refine qe_iadd c151_68 ?_
  refine qe_iaload c151_69 e23 e24 ?_
  refine qe_isub c151_70 ?_
  refine qe_istore (ls2 := [some (.ref r0), some (.int x1), some (.int x2), some (.int (f6 (x1 : Int32).toNatClampNeg)), some (.int (f6 (x2 : Int32).toNatClampNeg)), some (.int ((f14 (x1 : Int32).toNatClampNeg) - (f14 (x2 : Int32).toNatClampNeg))), some (.int (((f14 (x1 : Int32).toNatClampNeg) - (f14 (x2 : Int32).toNatClampNeg)) - (f22 (((5 * (f6 (x1 : Int32).toNatClampNeg)) + (f6 (x2 : Int32).toNatClampNeg)) : Int32).toNatClampNeg))), none]) c151_71 (Nat.le_of_ble_eq_true rfl) rfl ?_
  refine qe_iload c151_73 rfl ?_
  refine qe_aload_n c151_75 rfl ?_
  refine qe_getfield c151_76 qo151 qF12_176 e2 e20 ?_
  refine qe_iconst (x := 5) c151_79 (by decide) ?_
  refine qe_iload c151_80 rfl ?_
  refine qe_imul c151_82 ?_
  refine qe_iload_n c151_83 rfl ?_
  refine qe_iadd c151_84 ?_
  refine qe_iaload c151_85 e23 e26 ?_
  refine qe_iadd c151_86 ?_
  refine qe_istore (ls2 := [some (.ref r0), some (.int x1), some (.int x2), some (.int (f6 (x1 : Int32).toNatClampNeg)), some (.int (f6 (x2 : Int32).toNatClampNeg)), some (.int ((f14 (x1 : Int32).toNatClampNeg) - (f14 (x2 : Int32).toNatClampNeg))), some (.int (((f14 (x1 : Int32).toNatClampNeg) - (f14 (x2 : Int32).toNatClampNeg)) - (f22 (((5 * (f6 (x1 : Int32).toNatClampNeg)) + (f6 (x2 : Int32).toNatClampNeg)) : Int32).toNatClampNeg))), some (.int (((f14 (x1 : Int32).toNatClampNeg) - (f14 (x2 : Int32).toNatClampNeg)) + (f22 (((5 * (f6 (x2 : Int32).toNatClampNeg)) + (f6 (x1 : Int32).toNatClampNeg)) : Int32).toNatClampNeg)))]) c151_87 (Nat.le_of_ble_eq_true rfl) rfl ?_
  refine qe_iload c151_89 rfl ?_
  refine qe_if_ge_T (t := 98) c151_91 rfl e27 ?_
  exact kk
theorem b151_94 {d : Nat} {q : Option Value × qH} {h : qH} {r0 : Nat} {x1 : Int32} {x2 : Int32} {x3 : Int32} {x4 : Int32} {x5 : Int32} {x6 : Int32} {x7 : Int32}   (kk : qE d 151 122 [some (.ref r0), some (.int x1), some (.int x2), some (.int x3), some (.int x4), some (.int x5), some (.int x6), some (.int x7)] [.int 0] h q): qE d 151 94 [some (.ref r0), some (.int x1), some (.int x2), some (.int x3), some (.int x4), some (.int x5), some (.int x6), some (.int x7)] [] h q := by
  refine qe_iconst (x := 0) c151_94 (by decide) ?_
  refine qe_goto (t := 122) c151_95 rfl ?_
  exact kk
theorem b151_98F {d : Nat} {q : Option Value × qH} {h : qH} {r0 : Nat} {x1 : Int32} {x2 : Int32} {x3 : Int32} {x4 : Int32} {x5 : Int32} {x6 : Int32} {x7 : Int32}  (e1 : ¬ ((x6 : Int32) ≤ 0)) (kk : qE d 151 103 [some (.ref r0), some (.int x1), some (.int x2), some (.int x3), some (.int x4), some (.int x5), some (.int x6), some (.int x7)] [] h q): qE d 151 98 [some (.ref r0), some (.int x1), some (.int x2), some (.int x3), some (.int x4), some (.int x5), some (.int x6), some (.int x7)] [] h q := by
  refine qe_iload c151_98 rfl ?_
  refine qe_if_le_F (t := 107) c151_100 rfl e1 ?_
  exact kk
theorem b151_98T {d : Nat} {q : Option Value × qH} {h : qH} {r0 : Nat} {x1 : Int32} {x2 : Int32} {x3 : Int32} {x4 : Int32} {x5 : Int32} {x6 : Int32} {x7 : Int32}  (e1 : (x6 : Int32) ≤ 0) (kk : qE d 151 107 [some (.ref r0), some (.int x1), some (.int x2), some (.int x3), some (.int x4), some (.int x5), some (.int x6), some (.int x7)] [] h q): qE d 151 98 [some (.ref r0), some (.int x1), some (.int x2), some (.int x3), some (.int x4), some (.int x5), some (.int x6), some (.int x7)] [] h q := by
  refine qe_iload c151_98 rfl ?_
  refine qe_if_le_T (t := 107) c151_100 rfl e1 ?_
  exact kk
theorem b151_103 {d : Nat} {q : Option Value × qH} {h : qH} {r0 : Nat} {x1 : Int32} {x2 : Int32} {x3 : Int32} {x4 : Int32} {x5 : Int32} {x6 : Int32} {x7 : Int32}   (kk : qE d 151 122 [some (.ref r0), some (.int x1), some (.int x2), some (.int x3), some (.int x4), some (.int x5), some (.int x6), some (.int x7)] [.int 1] h q): qE d 151 103 [some (.ref r0), some (.int x1), some (.int x2), some (.int x3), some (.int x4), some (.int x5), some (.int x6), some (.int x7)] [] h q := by
  refine qe_iconst (x := 1) c151_103 (by decide) ?_
  refine qe_goto (t := 122) c151_104 rfl ?_
  exact kk
theorem b151_107F {d : Nat} {q : Option Value × qH} {h : qH} {r0 : Nat} {x1 : Int32} {x2 : Int32} {x3 : Int32} {x4 : Int32} {x5 : Int32} {x6 : Int32} {x7 : Int32}  (e1 : (x6 : Int32) = 0) (kk : qE d 151 112 [some (.ref r0), some (.int x1), some (.int x2), some (.int x3), some (.int x4), some (.int x5), some (.int x6), some (.int x7)] [] h q): qE d 151 107 [some (.ref r0), some (.int x1), some (.int x2), some (.int x3), some (.int x4), some (.int x5), some (.int x6), some (.int x7)] [] h q := by
  refine qe_iload c151_107 rfl ?_
  refine qe_if_ne_F (t := 121) c151_109 rfl e1 ?_
  exact kk
theorem b151_107T {d : Nat} {q : Option Value × qH} {h : qH} {r0 : Nat} {x1 : Int32} {x2 : Int32} {x3 : Int32} {x4 : Int32} {x5 : Int32} {x6 : Int32} {x7 : Int32}  (e1 : ¬ ((x6 : Int32) = 0)) (kk : qE d 151 121 [some (.ref r0), some (.int x1), some (.int x2), some (.int x3), some (.int x4), some (.int x5), some (.int x6), some (.int x7)] [] h q): qE d 151 107 [some (.ref r0), some (.int x1), some (.int x2), some (.int x3), some (.int x4), some (.int x5), some (.int x6), some (.int x7)] [] h q := by
  refine qe_iload c151_107 rfl ?_
  refine qe_if_ne_T (t := 121) c151_109 rfl e1 ?_
  exact kk
theorem b151_112F {d : Nat} {q : Option Value × qH} {h : qH} {r0 : Nat} {x1 : Int32} {x2 : Int32} {x3 : Int32} {x4 : Int32} {x5 : Int32} {x6 : Int32} {x7 : Int32}  (e1 : (x7 : Int32) = 0) (kk : qE d 151 117 [some (.ref r0), some (.int x1), some (.int x2), some (.int x3), some (.int x4), some (.int x5), some (.int x6), some (.int x7)] [] h q): qE d 151 112 [some (.ref r0), some (.int x1), some (.int x2), some (.int x3), some (.int x4), some (.int x5), some (.int x6), some (.int x7)] [] h q := by
  refine qe_iload c151_112 rfl ?_
  refine qe_if_ne_F (t := 121) c151_114 rfl e1 ?_
  exact kk
theorem b151_112T {d : Nat} {q : Option Value × qH} {h : qH} {r0 : Nat} {x1 : Int32} {x2 : Int32} {x3 : Int32} {x4 : Int32} {x5 : Int32} {x6 : Int32} {x7 : Int32}  (e1 : ¬ ((x7 : Int32) = 0)) (kk : qE d 151 121 [some (.ref r0), some (.int x1), some (.int x2), some (.int x3), some (.int x4), some (.int x5), some (.int x6), some (.int x7)] [] h q): qE d 151 112 [some (.ref r0), some (.int x1), some (.int x2), some (.int x3), some (.int x4), some (.int x5), some (.int x6), some (.int x7)] [] h q := by
  refine qe_iload c151_112 rfl ?_
  refine qe_if_ne_T (t := 121) c151_114 rfl e1 ?_
  exact kk
theorem b151_117 {d : Nat} {q : Option Value × qH} {h : qH} {r0 : Nat} {x1 : Int32} {x2 : Int32} {x3 : Int32} {x4 : Int32} {x5 : Int32} {x6 : Int32} {x7 : Int32}   (kk : qE d 151 122 [some (.ref r0), some (.int x1), some (.int x2), some (.int x3), some (.int x4), some (.int x5), some (.int x6), some (.int x7)] [.int 2] h q): qE d 151 117 [some (.ref r0), some (.int x1), some (.int x2), some (.int x3), some (.int x4), some (.int x5), some (.int x6), some (.int x7)] [] h q := by
  refine qe_iconst (x := 2) c151_117 (by decide) ?_
  refine qe_goto (t := 122) c151_118 rfl ?_
  exact kk
theorem b151_121 {d : Nat} {q : Option Value × qH} {h : qH} {r0 : Nat} {x1 : Int32} {x2 : Int32} {x3 : Int32} {x4 : Int32} {x5 : Int32} {x6 : Int32} {x7 : Int32}   (kk : qE d 151 122 [some (.ref r0), some (.int x1), some (.int x2), some (.int x3), some (.int x4), some (.int x5), some (.int x6), some (.int x7)] [.int 3] h q): qE d 151 121 [some (.ref r0), some (.int x1), some (.int x2), some (.int x3), some (.int x4), some (.int x5), some (.int x6), some (.int x7)] [] h q := by
  refine qe_iconst (x := 3) c151_121 (by decide) ?_
  exact kk
theorem b151_122 {d : Nat} {h : qH} {r0 : Nat} {x1 : Int32} {x2 : Int32} {x3 : Int32} {x4 : Int32} {x5 : Int32} {x6 : Int32} {x7 : Int32} {xs0 : Int32}   : qE d 151 122 [some (.ref r0), some (.int x1), some (.int x2), some (.int x3), some (.int x4), some (.int x5), some (.int x6), some (.int x7)] [.int xs0] h (some (.int xs0), h) := by
  exact qe_iret c151_122 qr151
theorem b152_0F {d : Nat} {q : Option Value × qH} {h : qH} {r0 : Nat} {fs1 : List Value} {h1 : qH} {z3 : Int32}  (e2 : h.2.2 r0 = some (.inr (12, fs1))) (e4 : qCall d 124 [.ref r0] h ((some (.int z3)), h1)) (e5 : ¬ ((z3 : Int32) = 0)) (kk : qE d 152 7 [some (.ref r0), none] [] h1 q): qE d 152 0 [some (.ref r0), none] [] h q := by
  refine qe_aload_n c152_0 rfl ?_
  refine qe_virtual (b := r0) (as := []) (r := []) (v := (some (.int z3))) (h2 := h1) c152_1 qo152 qK12_299 rfl rfl rfl (by rw [qo124]; exact e2) (Nat.le_of_ble_eq_true rfl) e4 ?_
  refine qe_if_eq_F (t := 32) c152_4 rfl e5 ?_
  exact kk
theorem b152_0T {d : Nat} {q : Option Value × qH} {h : qH} {r0 : Nat} {fs1 : List Value} {h1 : qH} {z3 : Int32}  (e2 : h.2.2 r0 = some (.inr (12, fs1))) (e4 : qCall d 124 [.ref r0] h ((some (.int z3)), h1)) (e5 : (z3 : Int32) = 0) (kk : qE d 152 32 [some (.ref r0), none] [] h1 q): qE d 152 0 [some (.ref r0), none] [] h q := by
  refine qe_aload_n c152_0 rfl ?_
  refine qe_virtual (b := r0) (as := []) (r := []) (v := (some (.int z3))) (h2 := h1) c152_1 qo152 qK12_299 rfl rfl rfl (by rw [qo124]; exact e2) (Nat.le_of_ble_eq_true rfl) e4 ?_
  refine qe_if_eq_T (t := 32) c152_4 rfl e5 ?_
  exact kk
theorem b152_7F {d : Nat} {q : Option Value × qH} {h : qH} {r0 : Nat} {fs1 : List Value} {h1 : qH} {z3 : Int32}  (e2 : h.2.2 r0 = some (.inr (12, fs1))) (e4 : qCall d 120 [.ref r0] h ((some (.int z3)), h1)) (e5 : ¬ ((z3 : Int32) = 33)) (kk : qE d 152 16 [some (.ref r0), none] [] h1 q): qE d 152 7 [some (.ref r0), none] [] h q := by
  refine qe_aload_n c152_7 rfl ?_
  refine qe_virtual (b := r0) (as := []) (r := []) (v := (some (.int z3))) (h2 := h1) c152_8 qo152 qK12_315 rfl rfl rfl (by rw [qo120]; exact e2) (Nat.le_of_ble_eq_true rfl) e4 ?_
  refine qe_bipush (x := 33) c152_11 (by decide) ?_
  refine qe_icmp_eq_F (t := 25) c152_13 rfl e5 ?_
  exact kk
theorem b152_7T {d : Nat} {q : Option Value × qH} {h : qH} {r0 : Nat} {fs1 : List Value} {h1 : qH} {z3 : Int32}  (e2 : h.2.2 r0 = some (.inr (12, fs1))) (e4 : qCall d 120 [.ref r0] h ((some (.int z3)), h1)) (e5 : (z3 : Int32) = 33) (kk : qE d 152 25 [some (.ref r0), none] [] h1 q): qE d 152 7 [some (.ref r0), none] [] h q := by
  refine qe_aload_n c152_7 rfl ?_
  refine qe_virtual (b := r0) (as := []) (r := []) (v := (some (.int z3))) (h2 := h1) c152_8 qo152 qK12_315 rfl rfl rfl (by rw [qo120]; exact e2) (Nat.le_of_ble_eq_true rfl) e4 ?_
  refine qe_bipush (x := 33) c152_11 (by decide) ?_
  refine qe_icmp_eq_T (t := 25) c152_13 rfl e5 ?_
  exact kk
theorem b152_16F {d : Nat} {q : Option Value × qH} {h : qH} {r0 : Nat} {fs1 : List Value} {h1 : qH} {z3 : Int32}  (e2 : h.2.2 r0 = some (.inr (12, fs1))) (e4 : qCall d 120 [.ref r0] h ((some (.int z3)), h1)) (e5 : (z3 : Int32) = 40) (kk : qE d 152 25 [some (.ref r0), none] [] h1 q): qE d 152 16 [some (.ref r0), none] [] h q := by
  refine qe_aload_n c152_16 rfl ?_
  refine qe_virtual (b := r0) (as := []) (r := []) (v := (some (.int z3))) (h2 := h1) c152_17 qo152 qK12_315 rfl rfl rfl (by rw [qo120]; exact e2) (Nat.le_of_ble_eq_true rfl) e4 ?_
  refine qe_bipush (x := 40) c152_20 (by decide) ?_
  refine qe_icmp_ne_F (t := 32) c152_22 rfl e5 ?_
  exact kk
theorem b152_16T {d : Nat} {q : Option Value × qH} {h : qH} {r0 : Nat} {fs1 : List Value} {h1 : qH} {z3 : Int32}  (e2 : h.2.2 r0 = some (.inr (12, fs1))) (e4 : qCall d 120 [.ref r0] h ((some (.int z3)), h1)) (e5 : ¬ ((z3 : Int32) = 40)) (kk : qE d 152 32 [some (.ref r0), none] [] h1 q): qE d 152 16 [some (.ref r0), none] [] h q := by
  refine qe_aload_n c152_16 rfl ?_
  refine qe_virtual (b := r0) (as := []) (r := []) (v := (some (.int z3))) (h2 := h1) c152_17 qo152 qK12_315 rfl rfl rfl (by rw [qo120]; exact e2) (Nat.le_of_ble_eq_true rfl) e4 ?_
  refine qe_bipush (x := 40) c152_20 (by decide) ?_
  refine qe_icmp_ne_T (t := 32) c152_22 rfl e5 ?_
  exact kk
theorem b152_25 {d : Nat} {q : Option Value × qH} {h : qH} {r0 : Nat} {fs1 : List Value} {h1 : qH}  (e2 : h.2.2 r0 = some (.inr (12, fs1))) (e3 : qCall d 150 [.ref r0] h (none, h1)) (kk : qE d 152 0 [some (.ref r0), none] [] h1 q): qE d 152 25 [some (.ref r0), none] [] h q := by
  refine qe_aload_n c152_25 rfl ?_
  refine qe_virtual (b := r0) (as := []) (r := []) (v := none) (h2 := h1) c152_26 qo152 qK12_344 rfl rfl rfl (by rw [qo150]; exact e2) (Nat.le_of_ble_eq_true rfl) e3 ?_
  refine qe_goto (t := 0) c152_29 rfl ?_
  exact kk
theorem b152_32 {d : Nat} {q : Option Value × qH} {h : qH} {r0 : Nat} {fs1 : List Value} {h1 : qH}  (e2 : h.2.2 r0 = some (.inr (12, fs1))) (e3 : 52 < fs1.length) (e4 : qset h r0 (.inr (12, fs1.set 52 (.int 0))) = h1) (kk : qE d 152 39 [some (.ref r0), some (.int 1)] [] h1 q): qE d 152 32 [some (.ref r0), none] [] h q := by
  refine qe_iconst (x := 1) c152_32 (by decide) ?_
  refine qe_istore_n (ls2 := [some (.ref r0), some (.int 1)]) c152_33 (Nat.le_of_ble_eq_true rfl) rfl ?_
  refine qe_aload_n c152_34 rfl ?_
  refine qe_iconst (x := 0) c152_35 (by decide) ?_
  refine qe_putfield c152_36 qo152 qF12_357 qz12_52 e2 e3 (by rw [qy12_52]; exact decide_eq_true (p := (0 : Int32) = 0 ∨ (0 : Int32) = 1) (by decide)) ?_
  rw [e4]
  exact kk
theorem b152_39F {d : Nat} {q : Option Value × qH} {h : qH} {r0 : Nat} {x1 : Int32}  (e1 : ¬ ((x1 : Int32) = 0)) (kk : qE d 152 43 [some (.ref r0), some (.int x1)] [] h q): qE d 152 39 [some (.ref r0), some (.int x1)] [] h q := by
  refine qe_iload_n c152_39 rfl ?_
  refine qe_if_eq_F (t := 89) c152_40 rfl e1 ?_
  exact kk
theorem b152_39T {d : Nat} {q : Option Value × qH} {h : qH} {r0 : Nat} {x1 : Int32}  (e1 : (x1 : Int32) = 0) (kk : qE d 152 89 [some (.ref r0), some (.int x1)] [] h q): qE d 152 39 [some (.ref r0), some (.int x1)] [] h q := by
  refine qe_iload_n c152_39 rfl ?_
  refine qe_if_eq_T (t := 89) c152_40 rfl e1 ?_
  exact kk
theorem b152_43F {d : Nat} {q : Option Value × qH} {h : qH} {r0 : Nat} {x1 : Int32} {fs1 : List Value} {h1 : qH} {z3 : Int32}  (e2 : h.2.2 r0 = some (.inr (12, fs1))) (e4 : qCall d 124 [.ref r0] h ((some (.int z3)), h1)) (e5 : ¬ ((z3 : Int32) = 0)) (kk : qE d 152 50 [some (.ref r0), some (.int x1)] [] h1 q): qE d 152 43 [some (.ref r0), some (.int x1)] [] h q := by
  refine qe_aload_n c152_43 rfl ?_
  refine qe_virtual (b := r0) (as := []) (r := []) (v := (some (.int z3))) (h2 := h1) c152_44 qo152 qK12_299 rfl rfl rfl (by rw [qo124]; exact e2) (Nat.le_of_ble_eq_true rfl) e4 ?_
  refine qe_if_eq_F (t := 89) c152_47 rfl e5 ?_
  exact kk
theorem b152_43T {d : Nat} {q : Option Value × qH} {h : qH} {r0 : Nat} {x1 : Int32} {fs1 : List Value} {h1 : qH} {z3 : Int32}  (e2 : h.2.2 r0 = some (.inr (12, fs1))) (e4 : qCall d 124 [.ref r0] h ((some (.int z3)), h1)) (e5 : (z3 : Int32) = 0) (kk : qE d 152 89 [some (.ref r0), some (.int x1)] [] h1 q): qE d 152 43 [some (.ref r0), some (.int x1)] [] h q := by
  refine qe_aload_n c152_43 rfl ?_
  refine qe_virtual (b := r0) (as := []) (r := []) (v := (some (.int z3))) (h2 := h1) c152_44 qo152 qK12_299 rfl rfl rfl (by rw [qo124]; exact e2) (Nat.le_of_ble_eq_true rfl) e4 ?_
  refine qe_if_eq_T (t := 89) c152_47 rfl e5 ?_
  exact kk
theorem b152_50F {d : Nat} {q : Option Value × qH} {h : qH} {r0 : Nat} {x1 : Int32} {fs1 : List Value} {y3 : Int32}  (e2 : h.2.2 r0 = some (.inr (12, fs1))) (e4 : fs1[52]? = some (.int y3)) (e5 : (y3 : Int32) = 0) (kk : qE d 152 57 [some (.ref r0), some (.int x1)] [] h q): qE d 152 50 [some (.ref r0), some (.int x1)] [] h q := by
  refine qe_aload_n c152_50 rfl ?_
  refine qe_getfield c152_51 qo152 qF12_357 e2 e4 ?_
  refine qe_if_ne_F (t := 61) c152_54 rfl e5 ?_
  exact kk
theorem b152_50T {d : Nat} {q : Option Value × qH} {h : qH} {r0 : Nat} {x1 : Int32} {fs1 : List Value} {y3 : Int32}  (e2 : h.2.2 r0 = some (.inr (12, fs1))) (e4 : fs1[52]? = some (.int y3)) (e5 : ¬ ((y3 : Int32) = 0)) (kk : qE d 152 61 [some (.ref r0), some (.int x1)] [] h q): qE d 152 50 [some (.ref r0), some (.int x1)] [] h q := by
  refine qe_aload_n c152_50 rfl ?_
  refine qe_getfield c152_51 qo152 qF12_357 e2 e4 ?_
  refine qe_if_ne_T (t := 61) c152_54 rfl e5 ?_
  exact kk
theorem b152_57 {d : Nat} {q : Option Value × qH} {h : qH} {r0 : Nat} {x1 : Int32} {fs1 : List Value} {h1 : qH}  (e2 : h.2.2 r0 = some (.inr (12, fs1))) (e3 : qCall d 106 [.ref r0] h (none, h1)) (kk : qE d 152 61 [some (.ref r0), some (.int x1)] [] h1 q): qE d 152 57 [some (.ref r0), some (.int x1)] [] h q := by
  refine qe_aload_n c152_57 rfl ?_
  refine qe_virtual (b := r0) (as := []) (r := []) (v := none) (h2 := h1) c152_58 qo152 qK12_364 rfl rfl rfl (by rw [qo106]; exact e2) (Nat.le_of_ble_eq_true rfl) e3 ?_
  exact kk
theorem b152_61F {d : Nat} {q : Option Value × qH} {h : qH} {r0 : Nat} {x1 : Int32} {fs1 : List Value} {h1 : qH} {fs5 : List Value} {h2 : qH} {z7 : Int32}  (e2 : h.2.2 r0 = some (.inr (12, fs1))) (e3 : 52 < fs1.length) (e4 : qset h r0 (.inr (12, fs1.set 52 (.int 0))) = h1) (e6 : h1.2.2 r0 = some (.inr (12, fs5))) (e8 : qCall d 124 [.ref r0] h1 ((some (.int z7)), h2)) (e9 : ¬ ((z7 : Int32) = 0)) (kk : qE d 152 73 [some (.ref r0), some (.int x1)] [] h2 q): qE d 152 61 [some (.ref r0), some (.int x1)] [] h q := by
  refine qe_aload_n c152_61 rfl ?_
  refine qe_iconst (x := 0) c152_62 (by decide) ?_
  refine qe_putfield c152_63 qo152 qF12_357 qz12_52 e2 e3 (by rw [qy12_52]; exact decide_eq_true (p := (0 : Int32) = 0 ∨ (0 : Int32) = 1) (by decide)) ?_
  rw [e4]
  refine qe_aload_n c152_66 rfl ?_
  refine qe_virtual (b := r0) (as := []) (r := []) (v := (some (.int z7))) (h2 := h2) c152_67 qo152 qK12_299 rfl rfl rfl (by rw [qo124]; exact e6) (Nat.le_of_ble_eq_true rfl) e8 ?_
  refine qe_if_eq_F (t := 84) c152_70 rfl e9 ?_
  exact kk
theorem b152_61T {d : Nat} {q : Option Value × qH} {h : qH} {r0 : Nat} {x1 : Int32} {fs1 : List Value} {h1 : qH} {fs5 : List Value} {h2 : qH} {z7 : Int32}  (e2 : h.2.2 r0 = some (.inr (12, fs1))) (e3 : 52 < fs1.length) (e4 : qset h r0 (.inr (12, fs1.set 52 (.int 0))) = h1) (e6 : h1.2.2 r0 = some (.inr (12, fs5))) (e8 : qCall d 124 [.ref r0] h1 ((some (.int z7)), h2)) (e9 : (z7 : Int32) = 0) (kk : qE d 152 84 [some (.ref r0), some (.int x1)] [] h2 q): qE d 152 61 [some (.ref r0), some (.int x1)] [] h q := by
  refine qe_aload_n c152_61 rfl ?_
  refine qe_iconst (x := 0) c152_62 (by decide) ?_
  refine qe_putfield c152_63 qo152 qF12_357 qz12_52 e2 e3 (by rw [qy12_52]; exact decide_eq_true (p := (0 : Int32) = 0 ∨ (0 : Int32) = 1) (by decide)) ?_
  rw [e4]
  refine qe_aload_n c152_66 rfl ?_
  refine qe_virtual (b := r0) (as := []) (r := []) (v := (some (.int z7))) (h2 := h2) c152_67 qo152 qK12_299 rfl rfl rfl (by rw [qo124]; exact e6) (Nat.le_of_ble_eq_true rfl) e8 ?_
  refine qe_if_eq_T (t := 84) c152_70 rfl e9 ?_
  exact kk
theorem b152_73F {d : Nat} {q : Option Value × qH} {h : qH} {r0 : Nat} {x1 : Int32} {fs1 : List Value} {h1 : qH} {z3 : Int32}  (e2 : h.2.2 r0 = some (.inr (12, fs1))) (e4 : qCall d 116 [.ref r0] h ((some (.int z3)), h1)) (e5 : ¬ ((z3 : Int32) = 0)) (kk : qE d 152 80 [some (.ref r0), some (.int x1)] [] h1 q): qE d 152 73 [some (.ref r0), some (.int x1)] [] h q := by
  refine qe_aload_n c152_73 rfl ?_
  refine qe_virtual (b := r0) (as := []) (r := []) (v := (some (.int z3))) (h2 := h1) c152_74 qo152 qK12_367 rfl rfl rfl (by rw [qo116]; exact e2) (Nat.le_of_ble_eq_true rfl) e4 ?_
  refine qe_if_eq_F (t := 84) c152_77 rfl e5 ?_
  exact kk
theorem b152_73T {d : Nat} {q : Option Value × qH} {h : qH} {r0 : Nat} {x1 : Int32} {fs1 : List Value} {h1 : qH} {z3 : Int32}  (e2 : h.2.2 r0 = some (.inr (12, fs1))) (e4 : qCall d 116 [.ref r0] h ((some (.int z3)), h1)) (e5 : (z3 : Int32) = 0) (kk : qE d 152 84 [some (.ref r0), some (.int x1)] [] h1 q): qE d 152 73 [some (.ref r0), some (.int x1)] [] h q := by
  refine qe_aload_n c152_73 rfl ?_
  refine qe_virtual (b := r0) (as := []) (r := []) (v := (some (.int z3))) (h2 := h1) c152_74 qo152 qK12_367 rfl rfl rfl (by rw [qo116]; exact e2) (Nat.le_of_ble_eq_true rfl) e4 ?_
  refine qe_if_eq_T (t := 84) c152_77 rfl e5 ?_
  exact kk
theorem b152_80 {d : Nat} {q : Option Value × qH} {h : qH} {r0 : Nat} {x1 : Int32}   (kk : qE d 152 85 [some (.ref r0), some (.int x1)] [.int 1] h q): qE d 152 80 [some (.ref r0), some (.int x1)] [] h q := by
  refine qe_iconst (x := 1) c152_80 (by decide) ?_
  refine qe_goto (t := 85) c152_81 rfl ?_
  exact kk
theorem b152_84 {d : Nat} {q : Option Value × qH} {h : qH} {r0 : Nat} {x1 : Int32}   (kk : qE d 152 85 [some (.ref r0), some (.int x1)] [.int 0] h q): qE d 152 84 [some (.ref r0), some (.int x1)] [] h q := by
  refine qe_iconst (x := 0) c152_84 (by decide) ?_
  exact kk
theorem b152_85 {d : Nat} {q : Option Value × qH} {h : qH} {r0 : Nat} {x1 : Int32} {xs0 : Int32}   (kk : qE d 152 39 [some (.ref r0), some (.int xs0)] [] h q): qE d 152 85 [some (.ref r0), some (.int x1)] [.int xs0] h q := by
  refine qe_istore_n (ls2 := [some (.ref r0), some (.int xs0)]) c152_85 (Nat.le_of_ble_eq_true rfl) rfl ?_
  refine qe_goto (t := 39) c152_86 rfl ?_
  exact kk
theorem b152_89F {d : Nat} {q : Option Value × qH} {h : qH} {r0 : Nat} {x1 : Int32} {fs1 : List Value} {h1 : qH} {z3 : Int32}  (e2 : h.2.2 r0 = some (.inr (12, fs1))) (e4 : qCall d 124 [.ref r0] h ((some (.int z3)), h1)) (e5 : ¬ ((z3 : Int32) = 0)) (kk : qE d 152 96 [some (.ref r0), some (.int x1)] [] h1 q): qE d 152 89 [some (.ref r0), some (.int x1)] [] h q := by
  refine qe_aload_n c152_89 rfl ?_
  refine qe_virtual (b := r0) (as := []) (r := []) (v := (some (.int z3))) (h2 := h1) c152_90 qo152 qK12_299 rfl rfl rfl (by rw [qo124]; exact e2) (Nat.le_of_ble_eq_true rfl) e4 ?_
  refine qe_if_eq_F (t := 100) c152_93 rfl e5 ?_
  exact kk
theorem b152_89T {d : Nat} {q : Option Value × qH} {h : qH} {r0 : Nat} {x1 : Int32} {fs1 : List Value} {h1 : qH} {z3 : Int32}  (e2 : h.2.2 r0 = some (.inr (12, fs1))) (e4 : qCall d 124 [.ref r0] h ((some (.int z3)), h1)) (e5 : (z3 : Int32) = 0) (kk : qE d 152 100 [some (.ref r0), some (.int x1)] [] h1 q): qE d 152 89 [some (.ref r0), some (.int x1)] [] h q := by
  refine qe_aload_n c152_89 rfl ?_
  refine qe_virtual (b := r0) (as := []) (r := []) (v := (some (.int z3))) (h2 := h1) c152_90 qo152 qK12_299 rfl rfl rfl (by rw [qo124]; exact e2) (Nat.le_of_ble_eq_true rfl) e4 ?_
  refine qe_if_eq_T (t := 100) c152_93 rfl e5 ?_
  exact kk
theorem b152_96 {d : Nat} {q : Option Value × qH} {h : qH} {r0 : Nat} {x1 : Int32} {fs1 : List Value} {h1 : qH}  (e2 : h.2.2 r0 = some (.inr (12, fs1))) (e3 : qCall d 104 [.ref r0] h (none, h1)) (kk : qE d 152 100 [some (.ref r0), some (.int x1)] [] h1 q): qE d 152 96 [some (.ref r0), some (.int x1)] [] h q := by
  refine qe_aload_n c152_96 rfl ?_
  refine qe_virtual (b := r0) (as := []) (r := []) (v := none) (h2 := h1) c152_97 qo152 qK12_370 rfl rfl rfl (by rw [qo104]; exact e2) (Nat.le_of_ble_eq_true rfl) e3 ?_
  exact kk
theorem b152_100 {d : Nat} {h : qH} {r0 : Nat} {x1 : Int32}   : qE d 152 100 [some (.ref r0), some (.int x1)] [] h (none, h) := by
  exact qe_vret c152_100 qr152
theorem b153_0F {d : Nat} {q : Option Value × qH} {h : qH} {r0 : Nat} {x1 : Int32} {x2 : Int32} {fs1 : List Value} {y3 : Int32}  (e2 : h.2.2 r0 = some (.inr (12, fs1))) (e4 : fs1[2]? = some (.int y3)) (e5 : (x1 : Int32) = y3) (kk : qE d 153 9 [some (.ref r0), some (.int x1), some (.int x2), none] [.ref r0] h q): qE d 153 0 [some (.ref r0), some (.int x1), some (.int x2), none] [] h q := by
  refine qe_aload_n c153_0 rfl ?_
  refine qe_iload_n c153_1 rfl ?_
  refine qe_aload_n c153_2 rfl ?_
  refine qe_getfield c153_3 qo153 qF12_202 e2 e4 ?_
  refine qe_icmp_ne_F (t := 14) c153_6 rfl e5 ?_
  exact kk
theorem b153_0T {d : Nat} {q : Option Value × qH} {h : qH} {r0 : Nat} {x1 : Int32} {x2 : Int32} {fs1 : List Value} {y3 : Int32}  (e2 : h.2.2 r0 = some (.inr (12, fs1))) (e4 : fs1[2]? = some (.int y3)) (e5 : ¬ ((x1 : Int32) = y3)) (kk : qE d 153 14 [some (.ref r0), some (.int x1), some (.int x2), none] [.ref r0] h q): qE d 153 0 [some (.ref r0), some (.int x1), some (.int x2), none] [] h q := by
  refine qe_aload_n c153_0 rfl ?_
  refine qe_iload_n c153_1 rfl ?_
  refine qe_aload_n c153_2 rfl ?_
  refine qe_getfield c153_3 qo153 qF12_202 e2 e4 ?_
  refine qe_icmp_ne_T (t := 14) c153_6 rfl e5 ?_
  exact kk
theorem b153_9 {d : Nat} {q : Option Value × qH} {h : qH} {r0 : Nat} {x1 : Int32} {x2 : Int32} {rs0 : Nat}   (kk : qE d 153 18 [some (.ref r0), some (.int x1), some (.int x2), none] [.int 36000, .ref rs0] h q): qE d 153 9 [some (.ref r0), some (.int x1), some (.int x2), none] [.ref rs0] h q := by
  refine qe_ldc (x := 36000) c153_9 qo153 qI12_230 ?_
  refine qe_goto (t := 18) c153_11 rfl ?_
  exact kk
theorem b153_14 {d : Nat} {q : Option Value × qH} {h : qH} {r0 : Nat} {x1 : Int32} {x2 : Int32} {rs0 : Nat}   (kk : qE d 153 18 [some (.ref r0), some (.int x1), some (.int x2), none] [.int (72 * x1), .ref rs0] h q): qE d 153 14 [some (.ref r0), some (.int x1), some (.int x2), none] [.ref rs0] h q := by
  refine qe_bipush (x := 72) c153_14 (by decide) ?_
  refine qe_iload_n c153_16 rfl ?_
  refine qe_imul c153_17 ?_
  exact kk
theorem b153_18 {d : Nat} {q : Option Value × qH} {h : qH} {r0 : Nat} {x1 : Int32} {x2 : Int32} {rs0 : Nat} {xs1 : Int32} {fs1 : List Value} {h1 : qH} {fs4 : List Value} {y6 : Nat} {n9 : Nat} {f10 : Nat → Int32} {h2 : qH}  (e2 : h.2.2 rs0 = some (.inr (12, fs1))) (e3 : qCall d 96 [.ref rs0, .int xs1, .int 36288] h (none, h1)) (e5 : h1.2.2 r0 = some (.inr (12, fs4))) (e7 : fs4[10]? = some (.ref y6)) (e11 : h1.2.2 y6 = some (.inl (0, n9, .inl f10))) (e12 : 0 ≤ (36069 : Int32).toInt ∧ (36069 : Int32).toInt < (n9 : Nat)) (e13 : 0 ≤ (36357 : Int32).toInt ∧ (36357 : Int32).toInt < (n9 : Nat)) (e14 : qset h1 y6 (.inl (0, n9, .inl (upd f10 ((36357 : Int32).toNatClampNeg) ((f10 (36069 : Int32).toNatClampNeg))))) = h2) (kk : qE d 153 41 [some (.ref r0), some (.int x1), some (.int x2), some (.int 0)] [] h2 q): qE d 153 18 [some (.ref r0), some (.int x1), some (.int x2), none] [.int xs1, .ref rs0] h q := by
  refine qe_ldc_w (x := 36288) c153_18 qo153 qI12_471 ?_
  refine qe_virtual (b := rs0) (as := [.int xs1, .int 36288]) (r := []) (v := none) (h2 := h1) c153_21 qo153 qK12_444 rfl rfl rfl (by rw [qo96]; exact e2) (Nat.le_of_ble_eq_true rfl) e3 ?_
  refine qe_aload_n c153_24 rfl ?_
  refine qe_getfield c153_25 qo153 qF12_14 e5 e7 ?_
  refine qe_ldc_w (x := 36357) c153_28 qo153 qI12_472 ?_
  refine qe_aload_n c153_31 rfl ?_
  refine qe_getfield c153_32 qo153 qF12_14 e5 e7 ?_
  refine qe_ldc (x := 36069) c153_35 qo153 qI12_185 ?_
  refine qe_iaload c153_37 e11 e12 ?_
  refine qe_iastore c153_38 e11 e13 ?_
  rw [e14]
  refine qe_iconst (x := 0) c153_39 (by decide) ?_
  refine qe_istore_n (ls2 := [some (.ref r0), some (.int x1), some (.int x2), some (.int 0)]) c153_40 (Nat.le_of_ble_eq_true rfl) rfl ?_
  exact kk
theorem b153_41F {d : Nat} {q : Option Value × qH} {h : qH} {r0 : Nat} {x1 : Int32} {x2 : Int32} {x3 : Int32} {fs1 : List Value} {y3 : Int32}  (e2 : h.2.2 r0 = some (.inr (12, fs1))) (e4 : fs1[3]? = some (.int y3)) (e5 : ¬ ((y3 : Int32) ≤ x3)) (kk : qE d 153 49 [some (.ref r0), some (.int x1), some (.int x2), some (.int x3)] [] h q): qE d 153 41 [some (.ref r0), some (.int x1), some (.int x2), some (.int x3)] [] h q := by
  refine qe_iload_n c153_41 rfl ?_
  refine qe_aload_n c153_42 rfl ?_
  refine qe_getfield c153_43 qo153 qF12_186 e2 e4 ?_
  refine qe_icmp_ge_F (t := 87) c153_46 rfl e5 ?_
  exact kk
theorem b153_41T {d : Nat} {q : Option Value × qH} {h : qH} {r0 : Nat} {x1 : Int32} {x2 : Int32} {x3 : Int32} {fs1 : List Value} {y3 : Int32}  (e2 : h.2.2 r0 = some (.inr (12, fs1))) (e4 : fs1[3]? = some (.int y3)) (e5 : (y3 : Int32) ≤ x3) (kk : qE d 153 87 [some (.ref r0), some (.int x1), some (.int x2), some (.int x3)] [] h q): qE d 153 41 [some (.ref r0), some (.int x1), some (.int x2), some (.int x3)] [] h q := by
  refine qe_iload_n c153_41 rfl ?_
  refine qe_aload_n c153_42 rfl ?_
  refine qe_getfield c153_43 qo153 qF12_186 e2 e4 ?_
  refine qe_icmp_ge_T (t := 87) c153_46 rfl e5 ?_
  exact kk
theorem b153_49F {d : Nat} {q : Option Value × qH} {h : qH} {r0 : Nat} {x1 : Int32} {x2 : Int32} {x3 : Int32} {fs1 : List Value} {y3 : Nat} {h1 : qH} {z5 : Int32}  (e2 : h.2.2 r0 = some (.inr (12, fs1))) (e4 : fs1[10]? = some (.ref y3)) (e6 : qCall d 118 [.int x2, .int x3] h ((some (.int z5)), h1)) (e7 : ¬ ((z5 : Int32) = 0)) (kk : qE d 153 66 [some (.ref r0), some (.int x1), some (.int x2), some (.int x3)] [.int (36339 + x3), .ref y3] h1 q): qE d 153 49 [some (.ref r0), some (.int x1), some (.int x2), some (.int x3)] [] h q := by
  refine qe_aload_n c153_49 rfl ?_
  refine qe_getfield c153_50 qo153 qF12_14 e2 e4 ?_
  refine qe_ldc_w (x := 36339) c153_53 qo153 qI12_484 ?_
  refine qe_iload_n c153_56 rfl ?_
  refine qe_iadd c153_57 ?_
  refine qe_iload_n c153_58 rfl ?_
  refine qe_iload_n c153_59 rfl ?_
  refine qe_static (as := [.int x2, .int x3]) (r := [.int (36339 + x3), .ref y3]) (v := (some (.int z5))) (h2 := h1) c153_60 qo153 (by decide) qK12_248 rfl rfl rfl (Nat.le_of_ble_eq_true rfl) e6 ?_
  refine qe_if_eq_F (t := 70) c153_63 rfl e7 ?_
  exact kk
theorem b153_49T {d : Nat} {q : Option Value × qH} {h : qH} {r0 : Nat} {x1 : Int32} {x2 : Int32} {x3 : Int32} {fs1 : List Value} {y3 : Nat} {h1 : qH} {z5 : Int32}  (e2 : h.2.2 r0 = some (.inr (12, fs1))) (e4 : fs1[10]? = some (.ref y3)) (e6 : qCall d 118 [.int x2, .int x3] h ((some (.int z5)), h1)) (e7 : (z5 : Int32) = 0) (kk : qE d 153 70 [some (.ref r0), some (.int x1), some (.int x2), some (.int x3)] [.int (36339 + x3), .ref y3] h1 q): qE d 153 49 [some (.ref r0), some (.int x1), some (.int x2), some (.int x3)] [] h q := by
  refine qe_aload_n c153_49 rfl ?_
  refine qe_getfield c153_50 qo153 qF12_14 e2 e4 ?_
  refine qe_ldc_w (x := 36339) c153_53 qo153 qI12_484 ?_
  refine qe_iload_n c153_56 rfl ?_
  refine qe_iadd c153_57 ?_
  refine qe_iload_n c153_58 rfl ?_
  refine qe_iload_n c153_59 rfl ?_
  refine qe_static (as := [.int x2, .int x3]) (r := [.int (36339 + x3), .ref y3]) (v := (some (.int z5))) (h2 := h1) c153_60 qo153 (by decide) qK12_248 rfl rfl rfl (Nat.le_of_ble_eq_true rfl) e6 ?_
  refine qe_if_eq_T (t := 70) c153_63 rfl e7 ?_
  exact kk
theorem b153_66 {d : Nat} {q : Option Value × qH} {h : qH} {r0 : Nat} {x1 : Int32} {x2 : Int32} {x3 : Int32} {rs0 : Nat} {xs1 : Int32}   (kk : qE d 153 80 [some (.ref r0), some (.int x1), some (.int x2), some (.int x3)] [.int 1, .int xs1, .ref rs0] h q): qE d 153 66 [some (.ref r0), some (.int x1), some (.int x2), some (.int x3)] [.int xs1, .ref rs0] h q := by
  refine qe_iconst (x := 1) c153_66 (by decide) ?_
  refine qe_goto (t := 80) c153_67 rfl ?_
  exact kk
theorem b153_70 {d : Nat} {q : Option Value × qH} {h : qH} {r0 : Nat} {x1 : Int32} {x2 : Int32} {x3 : Int32} {rs0 : Nat} {xs1 : Int32} {fs1 : List Value} {y3 : Nat} {n5 : Nat} {f6 : Nat → Int32}  (e2 : h.2.2 r0 = some (.inr (12, fs1))) (e4 : fs1[10]? = some (.ref y3)) (e7 : h.2.2 y3 = some (.inl (0, n5, .inl f6))) (e8 : 0 ≤ ((36339 + x3) : Int32).toInt ∧ ((36339 + x3) : Int32).toInt < (n5 : Nat)) (kk : qE d 153 80 [some (.ref r0), some (.int x1), some (.int x2), some (.int x3)] [.int (f6 ((36339 + x3) : Int32).toNatClampNeg), .int xs1, .ref rs0] h q): qE d 153 70 [some (.ref r0), some (.int x1), some (.int x2), some (.int x3)] [.int xs1, .ref rs0] h q := by
  refine qe_aload_n c153_70 rfl ?_
  refine qe_getfield c153_71 qo153 qF12_14 e2 e4 ?_
  refine qe_ldc_w (x := 36339) c153_74 qo153 qI12_484 ?_
  refine qe_iload_n c153_77 rfl ?_
  refine qe_iadd c153_78 ?_
  refine qe_iaload c153_79 e7 e8 ?_
  exact kk
theorem b153_80 {d : Nat} {q : Option Value × qH} {h : qH} {r0 : Nat} {x1 : Int32} {x2 : Int32} {x3 : Int32} {rs0 : Nat} {xs1 : Int32} {xs2 : Int32} {n1 : Nat} {f2 : Nat → Int32} {h1 : qH}  (e3 : h.2.2 rs0 = some (.inl (0, n1, .inl f2))) (e4 : 0 ≤ (xs1 : Int32).toInt ∧ (xs1 : Int32).toInt < (n1 : Nat)) (e5 : qset h rs0 (.inl (0, n1, .inl (upd f2 ((xs1 : Int32).toNatClampNeg) xs2))) = h1) (kk : qE d 153 41 [some (.ref r0), some (.int x1), some (.int x2), some (.int (x3 + 1))] [] h1 q): qE d 153 80 [some (.ref r0), some (.int x1), some (.int x2), some (.int x3)] [.int xs2, .int xs1, .ref rs0] h q := by
  refine qe_iastore c153_80 e3 e4 ?_
  rw [e5]
  refine qe_iinc (y := (x3 + 1)) (ls2 := [some (.ref r0), some (.int x1), some (.int x2), some (.int (x3 + 1))]) c153_81 rfl (Nat.le_of_ble_eq_true rfl) rfl rfl ?_
  refine qe_goto (t := 41) c153_84 rfl ?_
  exact kk
theorem b153_87 {d : Nat} {h : qH} {r0 : Nat} {x1 : Int32} {x2 : Int32} {x3 : Int32}   : qE d 153 87 [some (.ref r0), some (.int x1), some (.int x2), some (.int x3)] [] h (none, h) := by
  exact qe_vret c153_87 qr153
theorem b154_0 {d : Nat} {q : Option Value × qH} {h : qH} {r0 : Nat} {x1 : Int32}   (kk : qE d 154 3 [some (.ref r0), some (.int x1), some (.int 24)] [] h q): qE d 154 0 [some (.ref r0), some (.int x1), none] [] h q := by
  refine qe_bipush (x := 24) c154_0 (by decide) ?_
  refine qe_istore_n (ls2 := [some (.ref r0), some (.int x1), some (.int 24)]) c154_2 (Nat.le_of_ble_eq_true rfl) rfl ?_
  exact kk
theorem b154_3F {d : Nat} {q : Option Value × qH} {h : qH} {r0 : Nat} {x1 : Int32} {x2 : Int32}  (e1 : ¬ ((x2 : Int32) < 0)) (kk : qE d 154 7 [some (.ref r0), some (.int x1), some (.int x2)] [] h q): qE d 154 3 [some (.ref r0), some (.int x1), some (.int x2)] [] h q := by
  refine qe_iload_n c154_3 rfl ?_
  refine qe_if_lt_F (t := 36) c154_4 rfl e1 ?_
  exact kk
theorem b154_3T {d : Nat} {q : Option Value × qH} {h : qH} {r0 : Nat} {x1 : Int32} {x2 : Int32}  (e1 : (x2 : Int32) < 0) (kk : qE d 154 36 [some (.ref r0), some (.int x1), some (.int x2)] [] h q): qE d 154 3 [some (.ref r0), some (.int x1), some (.int x2)] [] h q := by
  refine qe_iload_n c154_3 rfl ?_
  refine qe_if_lt_T (t := 36) c154_4 rfl e1 ?_
  exact kk
theorem b154_7 {d : Nat} {q : Option Value × qH} {h : qH} {r0 : Nat} {x1 : Int32} {x2 : Int32} {fs1 : List Value} {y3 : Nat} {y5 : Int32} {n7 : Nat} {f8 : Nat → Int32} {h1 : qH} {fs12 : List Value} {y14 : Int32} {h2 : qH}  (e2 : h.2.2 r0 = some (.inr (12, fs1))) (e4 : fs1[0]? = some (.ref y3)) (e6 : fs1[1]? = some (.int y5)) (e9 : h.2.2 y3 = some (.inl (3, n7, .inl f8))) (e10 : 0 ≤ (y5 : Int32).toInt ∧ (y5 : Int32).toInt < (n7 : Nat)) (e11 : qset h y3 (.inl (3, n7, .inl (upd f8 ((y5 : Int32).toNatClampNeg) (((x1 >>> (x2 &&& 31)) : Int32).toInt8.toInt32 : Int32).toInt8.toInt32))) = h1) (e13 : h1.2.2 r0 = some (.inr (12, fs12))) (e15 : fs12[1]? = some (.int y14)) (e16 : 1 < fs12.length) (e17 : qset h1 r0 (.inr (12, fs12.set 1 (.int (y14 + 1)))) = h2) (kk : qE d 154 3 [some (.ref r0), some (.int x1), some (.int (x2 + (-8)))] [] h2 q): qE d 154 7 [some (.ref r0), some (.int x1), some (.int x2)] [] h q := by
  refine qe_aload_n c154_7 rfl ?_
  refine qe_getfield c154_8 qo154 qF12_7 e2 e4 ?_
  refine qe_aload_n c154_11 rfl ?_
  refine qe_getfield c154_12 qo154 qF12_283 e2 e6 ?_
  refine qe_iload_n c154_15 rfl ?_
  refine qe_iload_n c154_16 rfl ?_
  refine qe_ishr c154_17 ?_
  refine qe_i2b c154_18 ?_
  refine qe_bastore c154_19 e9 e10 ?_
  rw [e11]
  refine qe_aload_n c154_20 rfl ?_
  refine qe_dup c154_21 rfl ?_
  refine qe_getfield c154_22 qo154 qF12_283 e13 e15 ?_
  refine qe_iconst (x := 1) c154_25 (by decide) ?_
  refine qe_iadd c154_26 ?_
  refine qe_putfield c154_27 qo154 qF12_283 qz12_1 e13 e16 (by rw [qy12_1]; rfl) ?_
  rw [e17]
  refine qe_iinc (y := (x2 + (-8))) (ls2 := [some (.ref r0), some (.int x1), some (.int (x2 + (-8)))]) c154_30 rfl (Nat.le_of_ble_eq_true rfl) rfl rfl ?_
  refine qe_goto (t := 3) c154_33 rfl ?_
  exact kk
theorem b154_36 {d : Nat} {h : qH} {r0 : Nat} {x1 : Int32} {x2 : Int32}   : qE d 154 36 [some (.ref r0), some (.int x1), some (.int x2)] [] h (none, h) := by
  exact qe_vret c154_36 qr154
theorem b155_0 {d : Nat} {h : qH} {r0 : Nat} {x1 : Int32} {fs1 : List Value} {y3 : Nat} {y5 : Int32} {n7 : Nat} {f8 : Nat → Int32} {h1 : qH} {fs12 : List Value} {y14 : Int32} {h2 : qH} {fs18 : List Value} {y20 : Int32} {h3 : qH}  (e2 : h.2.2 r0 = some (.inr (12, fs1))) (e4 : fs1[53]? = some (.ref y3)) (e6 : fs1[50]? = some (.int y5)) (e9 : h.2.2 y3 = some (.inl (0, n7, .inl f8))) (e10 : 0 ≤ (y5 : Int32).toInt ∧ (y5 : Int32).toInt < (n7 : Nat)) (e11 : qset h y3 (.inl (0, n7, .inl (upd f8 ((y5 : Int32).toNatClampNeg) x1))) = h1) (e13 : h1.2.2 r0 = some (.inr (12, fs12))) (e15 : fs12[50]? = some (.int y14)) (e16 : 50 < fs12.length) (e17 : qset h1 r0 (.inr (12, fs12.set 50 (.int (y14 + 1)))) = h2) (e19 : h2.2.2 r0 = some (.inr (12, fs18))) (e21 : fs18[44]? = some (.int y20)) (e22 : 44 < fs18.length) (e23 : qset h2 r0 (.inr (12, fs18.set 44 (.int (y20 + 1)))) = h3) : qE d 155 0 [some (.ref r0), some (.int x1)] [] h (none, h3) := by
  refine qe_aload_n c155_0 rfl ?_
  refine qe_getfield c155_1 qo155 qF12_116 e2 e4 ?_
  refine qe_aload_n c155_4 rfl ?_
  refine qe_getfield c155_5 qo155 qF12_306 e2 e6 ?_
  refine qe_iload_n c155_8 rfl ?_
  refine qe_iastore c155_9 e9 e10 ?_
  rw [e11]
  refine qe_aload_n c155_10 rfl ?_
  refine qe_dup c155_11 rfl ?_
  refine qe_getfield c155_12 qo155 qF12_306 e13 e15 ?_
  refine qe_iconst (x := 1) c155_15 (by decide) ?_
  refine qe_iadd c155_16 ?_
  refine qe_putfield c155_17 qo155 qF12_306 qz12_50 e13 e16 (by rw [qy12_50]; rfl) ?_
  rw [e17]
  refine qe_aload_n c155_20 rfl ?_
  refine qe_dup c155_21 rfl ?_
  refine qe_getfield c155_22 qo155 qF12_290 e19 e21 ?_
  refine qe_iconst (x := 1) c155_25 (by decide) ?_
  refine qe_iadd c155_26 ?_
  refine qe_putfield c155_27 qo155 qF12_290 qz12_44 e19 e22 (by rw [qy12_44]; rfl) ?_
  rw [e23]
  exact qe_vret c155_30 qr155
theorem b156_0 {d : Nat} {q : Option Value × qH} {h : qH} {r0 : Nat} {fs1 : List Value} {y3 : Int32}  (e2 : h.2.2 r0 = some (.inr (12, fs1))) (e4 : fs1[44]? = some (.int y3)) (kk : qE d 156 7 [some (.ref r0), some (.int y3), some (.int 0)] [] h q): qE d 156 0 [some (.ref r0), none, none] [] h q := by
  refine qe_aload_n c156_0 rfl ?_
  refine qe_getfield c156_1 qo156 qF12_290 e2 e4 ?_
  refine qe_istore_n (ls2 := [some (.ref r0), some (.int y3), none]) c156_4 (Nat.le_of_ble_eq_true rfl) rfl ?_
  refine qe_iconst (x := 0) c156_5 (by decide) ?_
  refine qe_istore_n (ls2 := [some (.ref r0), some (.int y3), some (.int 0)]) c156_6 (Nat.le_of_ble_eq_true rfl) rfl ?_
  exact kk
theorem b156_7F {d : Nat} {q : Option Value × qH} {h : qH} {r0 : Nat} {x1 : Int32} {x2 : Int32} {fs1 : List Value} {h1 : qH} {z3 : Int32}  (e2 : h.2.2 r0 = some (.inr (12, fs1))) (e4 : qCall d 124 [.ref r0] h ((some (.int z3)), h1)) (e5 : ¬ ((z3 : Int32) = 0)) (kk : qE d 156 14 [some (.ref r0), some (.int x1), some (.int x2)] [] h1 q): qE d 156 7 [some (.ref r0), some (.int x1), some (.int x2)] [] h q := by
  refine qe_aload_n c156_7 rfl ?_
  refine qe_virtual (b := r0) (as := []) (r := []) (v := (some (.int z3))) (h2 := h1) c156_8 qo156 qK12_299 rfl rfl rfl (by rw [qo124]; exact e2) (Nat.le_of_ble_eq_true rfl) e4 ?_
  refine qe_if_eq_F (t := 67) c156_11 rfl e5 ?_
  exact kk
theorem b156_7T {d : Nat} {q : Option Value × qH} {h : qH} {r0 : Nat} {x1 : Int32} {x2 : Int32} {fs1 : List Value} {h1 : qH} {z3 : Int32}  (e2 : h.2.2 r0 = some (.inr (12, fs1))) (e4 : qCall d 124 [.ref r0] h ((some (.int z3)), h1)) (e5 : (z3 : Int32) = 0) (kk : qE d 156 67 [some (.ref r0), some (.int x1), some (.int x2)] [] h1 q): qE d 156 7 [some (.ref r0), some (.int x1), some (.int x2)] [] h q := by
  refine qe_aload_n c156_7 rfl ?_
  refine qe_virtual (b := r0) (as := []) (r := []) (v := (some (.int z3))) (h2 := h1) c156_8 qo156 qK12_299 rfl rfl rfl (by rw [qo124]; exact e2) (Nat.le_of_ble_eq_true rfl) e4 ?_
  refine qe_if_eq_T (t := 67) c156_11 rfl e5 ?_
  exact kk
theorem b156_14F {d : Nat} {q : Option Value × qH} {h : qH} {r0 : Nat} {x1 : Int32} {x2 : Int32} {fs1 : List Value} {h1 : qH} {z3 : Int32}  (e2 : h.2.2 r0 = some (.inr (12, fs1))) (e4 : qCall d 160 [.ref r0] h ((some (.int z3)), h1)) (e5 : ¬ ((z3 : Int32) = 0)) (kk : qE d 156 21 [some (.ref r0), some (.int x1), some (.int x2)] [] h1 q): qE d 156 14 [some (.ref r0), some (.int x1), some (.int x2)] [] h q := by
  refine qe_aload_n c156_14 rfl ?_
  refine qe_virtual (b := r0) (as := []) (r := []) (v := (some (.int z3))) (h2 := h1) c156_15 qo156 qK12_326 rfl rfl rfl (by rw [qo160]; exact e2) (Nat.le_of_ble_eq_true rfl) e4 ?_
  refine qe_if_eq_F (t := 67) c156_18 rfl e5 ?_
  exact kk
theorem b156_14T {d : Nat} {q : Option Value × qH} {h : qH} {r0 : Nat} {x1 : Int32} {x2 : Int32} {fs1 : List Value} {h1 : qH} {z3 : Int32}  (e2 : h.2.2 r0 = some (.inr (12, fs1))) (e4 : qCall d 160 [.ref r0] h ((some (.int z3)), h1)) (e5 : (z3 : Int32) = 0) (kk : qE d 156 67 [some (.ref r0), some (.int x1), some (.int x2)] [] h1 q): qE d 156 14 [some (.ref r0), some (.int x1), some (.int x2)] [] h q := by
  refine qe_aload_n c156_14 rfl ?_
  refine qe_virtual (b := r0) (as := []) (r := []) (v := (some (.int z3))) (h2 := h1) c156_15 qo156 qK12_326 rfl rfl rfl (by rw [qo160]; exact e2) (Nat.le_of_ble_eq_true rfl) e4 ?_
  refine qe_if_eq_T (t := 67) c156_18 rfl e5 ?_
  exact kk
theorem b156_21F {d : Nat} {q : Option Value × qH} {h : qH} {r0 : Nat} {x1 : Int32} {x2 : Int32} {fs1 : List Value} {y3 : Int32}  (e2 : h.2.2 r0 = some (.inr (12, fs1))) (e4 : fs1[44]? = some (.int y3)) (e5 : (y3 : Int32) = (x1 + 6)) (kk : qE d 156 32 [some (.ref r0), some (.int x1), some (.int x2)] [] h q): qE d 156 21 [some (.ref r0), some (.int x1), some (.int x2)] [] h q := by
  refine qe_aload_n c156_21 rfl ?_
  refine qe_getfield c156_22 qo156 qF12_290 e2 e4 ?_
  refine qe_iload_n c156_25 rfl ?_
  refine qe_bipush (x := 6) c156_26 (by decide) ?_
  refine qe_iadd c156_28 ?_
  refine qe_icmp_ne_F (t := 41) c156_29 rfl e5 ?_
  exact kk
theorem b156_21T {d : Nat} {q : Option Value × qH} {h : qH} {r0 : Nat} {x1 : Int32} {x2 : Int32} {fs1 : List Value} {y3 : Int32}  (e2 : h.2.2 r0 = some (.inr (12, fs1))) (e4 : fs1[44]? = some (.int y3)) (e5 : ¬ ((y3 : Int32) = (x1 + 6))) (kk : qE d 156 41 [some (.ref r0), some (.int x1), some (.int x2)] [] h q): qE d 156 21 [some (.ref r0), some (.int x1), some (.int x2)] [] h q := by
  refine qe_aload_n c156_21 rfl ?_
  refine qe_getfield c156_22 qo156 qF12_290 e2 e4 ?_
  refine qe_iload_n c156_25 rfl ?_
  refine qe_bipush (x := 6) c156_26 (by decide) ?_
  refine qe_iadd c156_28 ?_
  refine qe_icmp_ne_T (t := 41) c156_29 rfl e5 ?_
  exact kk
theorem b156_32 {d : Nat} {q : Option Value × qH} {h : qH} {r0 : Nat} {x1 : Int32} {x2 : Int32} {fs1 : List Value} {y3 : Int32} {h1 : qH}  (e2 : h.2.2 r0 = some (.inr (12, fs1))) (e4 : fs1[44]? = some (.int y3)) (e5 : qCall d 190 [.ref r0, .int 2, .int y3] h (none, h1)) (kk : qE d 156 41 [some (.ref r0), some (.int x1), some (.int x2)] [] h1 q): qE d 156 32 [some (.ref r0), some (.int x1), some (.int x2)] [] h q := by
  refine qe_aload_n c156_32 rfl ?_
  refine qe_iconst (x := 2) c156_33 (by decide) ?_
  refine qe_aload_n c156_34 rfl ?_
  refine qe_getfield c156_35 qo156 qF12_290 e2 e4 ?_
  refine qe_virtual (b := r0) (as := [.int 2, .int y3]) (r := []) (v := none) (h2 := h1) c156_38 qo156 qK12_312 rfl rfl rfl (by rw [qo190]; exact e2) (Nat.le_of_ble_eq_true rfl) e5 ?_
  exact kk
theorem b156_41 {d : Nat} {q : Option Value × qH} {h : qH} {r0 : Nat} {x1 : Int32} {x2 : Int32} {fs1 : List Value} {h1 : qH} {z3 : Int32} {fs5 : List Value} {y7 : Int32} {h2 : qH}  (e2 : h.2.2 r0 = some (.inr (12, fs1))) (e4 : qCall d 120 [.ref r0] h ((some (.int z3)), h1)) (e6 : h1.2.2 r0 = some (.inr (12, fs5))) (e8 : fs5[44]? = some (.int y7)) (e9 : 44 < fs5.length) (e10 : qset h1 r0 (.inr (12, fs5.set 44 (.int (y7 + 1)))) = h2) (kk : qE d 156 7 [some (.ref r0), some (.int x1), some (.int (((10 * x2) + z3) - 48))] [] h2 q): qE d 156 41 [some (.ref r0), some (.int x1), some (.int x2)] [] h q := by
  refine qe_bipush (x := 10) c156_41 (by decide) ?_
  refine qe_iload_n c156_43 rfl ?_
  refine qe_imul c156_44 ?_
  refine qe_aload_n c156_45 rfl ?_
  refine qe_virtual (b := r0) (as := []) (r := [.int (10 * x2)]) (v := (some (.int z3))) (h2 := h1) c156_46 qo156 qK12_315 rfl rfl rfl (by rw [qo120]; exact e2) (Nat.le_of_ble_eq_true rfl) e4 ?_
  refine qe_iadd c156_49 ?_
  refine qe_bipush (x := 48) c156_50 (by decide) ?_
  refine qe_isub c156_52 ?_
  refine qe_istore_n (ls2 := [some (.ref r0), some (.int x1), some (.int (((10 * x2) + z3) - 48))]) c156_53 (Nat.le_of_ble_eq_true rfl) rfl ?_
  refine qe_aload_n c156_54 rfl ?_
  refine qe_dup c156_55 rfl ?_
  refine qe_getfield c156_56 qo156 qF12_290 e6 e8 ?_
  refine qe_iconst (x := 1) c156_59 (by decide) ?_
  refine qe_iadd c156_60 ?_
  refine qe_putfield c156_61 qo156 qF12_290 qz12_44 e6 e9 (by rw [qy12_44]; rfl) ?_
  rw [e10]
  refine qe_goto (t := 7) c156_64 rfl ?_
  exact kk
theorem b156_67 {d : Nat} {h : qH} {r0 : Nat} {x1 : Int32} {x2 : Int32}   : qE d 156 67 [some (.ref r0), some (.int x1), some (.int x2)] [] h (some (.int x2), h) := by
  refine qe_iload_n c156_67 rfl ?_
  exact qe_iret c156_68 qr156
theorem b157_0F {d : Nat} {q : Option Value × qH} {h : qH} {r0 : Nat} {x1 : Int32} {x2 : Int32} {fs1 : List Value} {y3 : Int32}  (e2 : h.2.2 r0 = some (.inr (12, fs1))) (e4 : fs1[8]? = some (.int y3)) (e5 : ¬ ((y3 : Int32) = 40)) (kk : qE d 157 9 [some (.ref r0), some (.int x1), some (.int x2)] [] h q): qE d 157 0 [some (.ref r0), some (.int x1), some (.int x2)] [] h q := by
  refine qe_aload_n c157_0 rfl ?_
  refine qe_getfield c157_1 qo157 qF12_505 e2 e4 ?_
  refine qe_bipush (x := 40) c157_4 (by decide) ?_
  refine qe_icmp_eq_F (t := 28) c157_6 rfl e5 ?_
  exact kk
theorem b157_0T {d : Nat} {q : Option Value × qH} {h : qH} {r0 : Nat} {x1 : Int32} {x2 : Int32} {fs1 : List Value} {y3 : Int32}  (e2 : h.2.2 r0 = some (.inr (12, fs1))) (e4 : fs1[8]? = some (.int y3)) (e5 : (y3 : Int32) = 40) (kk : qE d 157 28 [some (.ref r0), some (.int x1), some (.int x2)] [] h q): qE d 157 0 [some (.ref r0), some (.int x1), some (.int x2)] [] h q := by
  refine qe_aload_n c157_0 rfl ?_
  refine qe_getfield c157_1 qo157 qF12_505 e2 e4 ?_
  refine qe_bipush (x := 40) c157_4 (by decide) ?_
  refine qe_icmp_eq_T (t := 28) c157_6 rfl e5 ?_
  exact kk
theorem b157_9F {d : Nat} {q : Option Value × qH} {h : qH} {r0 : Nat} {x1 : Int32} {x2 : Int32} {h1 : qH} {z1 : Int32}  (e2 : qCall d 126 [.int x1] h ((some (.int z1)), h1)) (e3 : ¬ ((z1 : Int32) = 0)) (kk : qE d 157 16 [some (.ref r0), some (.int x1), some (.int x2)] [] h1 q): qE d 157 9 [some (.ref r0), some (.int x1), some (.int x2)] [] h q := by
  refine qe_iload_n c157_9 rfl ?_
  refine qe_static (as := [.int x1]) (r := []) (v := (some (.int z1))) (h2 := h1) c157_10 qo157 (by decide) qK12_205 rfl rfl rfl (Nat.le_of_ble_eq_true rfl) e2 ?_
  refine qe_if_eq_F (t := 28) c157_13 rfl e3 ?_
  exact kk
theorem b157_9T {d : Nat} {q : Option Value × qH} {h : qH} {r0 : Nat} {x1 : Int32} {x2 : Int32} {h1 : qH} {z1 : Int32}  (e2 : qCall d 126 [.int x1] h ((some (.int z1)), h1)) (e3 : (z1 : Int32) = 0) (kk : qE d 157 28 [some (.ref r0), some (.int x1), some (.int x2)] [] h1 q): qE d 157 9 [some (.ref r0), some (.int x1), some (.int x2)] [] h q := by
  refine qe_iload_n c157_9 rfl ?_
  refine qe_static (as := [.int x1]) (r := []) (v := (some (.int z1))) (h2 := h1) c157_10 qo157 (by decide) qK12_205 rfl rfl rfl (Nat.le_of_ble_eq_true rfl) e2 ?_
  refine qe_if_eq_T (t := 28) c157_13 rfl e3 ?_
  exact kk
theorem b157_16F {d : Nat} {q : Option Value × qH} {h : qH} {r0 : Nat} {x1 : Int32} {x2 : Int32} {h1 : qH} {z1 : Int32}  (e2 : qCall d 143 [.long (x2 : Int32).toInt64, .long 0, .long 9999] h ((some (.int z1)), h1)) (e3 : (z1 : Int32) = 0) (kk : qE d 157 28 [some (.ref r0), some (.int x1), some (.int x2)] [] h1 q): qE d 157 16 [some (.ref r0), some (.int x1), some (.int x2)] [] h q := by
  refine qe_iload_n c157_16 rfl ?_
  refine qe_i2l c157_17 ?_
  refine qe_lconst (x := 0) c157_18 (by decide) ?_
  refine qe_ldc2_w (x := 9999) c157_19 qo157 qJ12_508 ?_
  refine qe_static (as := [.long (x2 : Int32).toInt64, .long 0, .long 9999]) (r := []) (v := (some (.int z1))) (h2 := h1) c157_22 qo157 (by decide) qK12_190 rfl rfl rfl (Nat.le_of_ble_eq_true rfl) e2 ?_
  refine qe_if_ne_F (t := 30) c157_25 rfl e3 ?_
  exact kk
theorem b157_16T {d : Nat} {q : Option Value × qH} {h : qH} {r0 : Nat} {x1 : Int32} {x2 : Int32} {h1 : qH} {z1 : Int32}  (e2 : qCall d 143 [.long (x2 : Int32).toInt64, .long 0, .long 9999] h ((some (.int z1)), h1)) (e3 : ¬ ((z1 : Int32) = 0)) (kk : qE d 157 30 [some (.ref r0), some (.int x1), some (.int x2)] [] h1 q): qE d 157 16 [some (.ref r0), some (.int x1), some (.int x2)] [] h q := by
  refine qe_iload_n c157_16 rfl ?_
  refine qe_i2l c157_17 ?_
  refine qe_lconst (x := 0) c157_18 (by decide) ?_
  refine qe_ldc2_w (x := 9999) c157_19 qo157 qJ12_508 ?_
  refine qe_static (as := [.long (x2 : Int32).toInt64, .long 0, .long 9999]) (r := []) (v := (some (.int z1))) (h2 := h1) c157_22 qo157 (by decide) qK12_190 rfl rfl rfl (Nat.le_of_ble_eq_true rfl) e2 ?_
  refine qe_if_ne_T (t := 30) c157_25 rfl e3 ?_
  exact kk
theorem b157_28 {d : Nat} {h : qH} {r0 : Nat} {x1 : Int32} {x2 : Int32}   : qE d 157 28 [some (.ref r0), some (.int x1), some (.int x2)] [] h (some (.int (-1)), h) := by
  refine qe_iconst (x := (-1)) c157_28 (by decide) ?_
  exact qe_iret c157_29 qr157
theorem b157_30 {d : Nat} {h : qH} {r0 : Nat} {x1 : Int32} {x2 : Int32} {fs1 : List Value} {y3 : Nat} {y5 : Int32} {n7 : Nat} {f8 : Nat → Int32} {h1 : qH} {fs12 : List Value} {y14 : Nat} {y16 : Int32} {n18 : Nat} {f19 : Nat → Int32} {h2 : qH} {fs23 : List Value} {y25 : Int32} {h3 : qH} {fs29 : List Value} {y31 : Int32}  (e2 : h.2.2 r0 = some (.inr (12, fs1))) (e4 : fs1[73]? = some (.ref y3)) (e6 : fs1[8]? = some (.int y5)) (e9 : h.2.2 y3 = some (.inl (0, n7, .inl f8))) (e10 : 0 ≤ (y5 : Int32).toInt ∧ (y5 : Int32).toInt < (n7 : Nat)) (e11 : qset h y3 (.inl (0, n7, .inl (upd f8 ((y5 : Int32).toNatClampNeg) x1))) = h1) (e13 : h1.2.2 r0 = some (.inr (12, fs12))) (e15 : fs12[74]? = some (.ref y14)) (e17 : fs12[8]? = some (.int y16)) (e20 : h1.2.2 y14 = some (.inl (0, n18, .inl f19))) (e21 : 0 ≤ (y16 : Int32).toInt ∧ (y16 : Int32).toInt < (n18 : Nat)) (e22 : qset h1 y14 (.inl (0, n18, .inl (upd f19 ((y16 : Int32).toNatClampNeg) x2))) = h2) (e24 : h2.2.2 r0 = some (.inr (12, fs23))) (e26 : fs23[8]? = some (.int y25)) (e27 : 8 < fs23.length) (e28 : qset h2 r0 (.inr (12, fs23.set 8 (.int (y25 + 1)))) = h3) (e30 : h3.2.2 r0 = some (.inr (12, fs29))) (e32 : fs29[8]? = some (.int y31)) : qE d 157 30 [some (.ref r0), some (.int x1), some (.int x2)] [] h (some (.int (y31 - 1)), h3) := by
  refine qe_aload_n c157_30 rfl ?_
  refine qe_getfield c157_31 qo157 qF12_164 e2 e4 ?_
  refine qe_aload_n c157_34 rfl ?_
  refine qe_getfield c157_35 qo157 qF12_505 e2 e6 ?_
  refine qe_iload_n c157_38 rfl ?_
  refine qe_iastore c157_39 e9 e10 ?_
  rw [e11]
  refine qe_aload_n c157_40 rfl ?_
  refine qe_getfield c157_41 qo157 qF12_167 e13 e15 ?_
  refine qe_aload_n c157_44 rfl ?_
  refine qe_getfield c157_45 qo157 qF12_505 e13 e17 ?_
  refine qe_iload_n c157_48 rfl ?_
  refine qe_iastore c157_49 e20 e21 ?_
  rw [e22]
  refine qe_aload_n c157_50 rfl ?_
  refine qe_dup c157_51 rfl ?_
  refine qe_getfield c157_52 qo157 qF12_505 e24 e26 ?_
  refine qe_iconst (x := 1) c157_55 (by decide) ?_
  refine qe_iadd c157_56 ?_
  refine qe_putfield c157_57 qo157 qF12_505 qz12_8 e24 e27 (by rw [qy12_8]; rfl) ?_
  rw [e28]
  refine qe_aload_n c157_60 rfl ?_
  refine qe_getfield c157_61 qo157 qF12_505 e30 e32 ?_
  refine qe_iconst (x := 1) c157_64 (by decide) ?_
  refine qe_isub c157_65 ?_
  exact qe_iret c157_66 qr157
theorem b158_0F {d : Nat} {q : Option Value × qH} {h : qH} {r0 : Nat} {x1 : Int32} {h1 : qH} {z1 : Int32}  (e2 : qCall d 143 [.long (x1 : Int32).toInt64, .long 1, .long 160] h ((some (.int z1)), h1)) (e3 : ¬ ((z1 : Int32) = 0)) (kk : qE d 158 12 [some (.ref r0), some (.int x1), none, none] [] h1 q): qE d 158 0 [some (.ref r0), some (.int x1), none, none] [] h q := by
  refine qe_iload_n c158_0 rfl ?_
  refine qe_i2l c158_1 ?_
  refine qe_lconst (x := 1) c158_2 (by decide) ?_
  refine qe_ldc2_w (x := 160) c158_3 qo158 qJ12_388 ?_
  refine qe_static (as := [.long (x1 : Int32).toInt64, .long 1, .long 160]) (r := []) (v := (some (.int z1))) (h2 := h1) c158_6 qo158 (by decide) qK12_190 rfl rfl rfl (Nat.le_of_ble_eq_true rfl) e2 ?_
  refine qe_if_eq_F (t := 20) c158_9 rfl e3 ?_
  exact kk
theorem b158_0T {d : Nat} {q : Option Value × qH} {h : qH} {r0 : Nat} {x1 : Int32} {h1 : qH} {z1 : Int32}  (e2 : qCall d 143 [.long (x1 : Int32).toInt64, .long 1, .long 160] h ((some (.int z1)), h1)) (e3 : (z1 : Int32) = 0) (kk : qE d 158 20 [some (.ref r0), some (.int x1), none, none] [] h1 q): qE d 158 0 [some (.ref r0), some (.int x1), none, none] [] h q := by
  refine qe_iload_n c158_0 rfl ?_
  refine qe_i2l c158_1 ?_
  refine qe_lconst (x := 1) c158_2 (by decide) ?_
  refine qe_ldc2_w (x := 160) c158_3 qo158 qJ12_388 ?_
  refine qe_static (as := [.long (x1 : Int32).toInt64, .long 1, .long 160]) (r := []) (v := (some (.int z1))) (h2 := h1) c158_6 qo158 (by decide) qK12_190 rfl rfl rfl (Nat.le_of_ble_eq_true rfl) e2 ?_
  refine qe_if_eq_T (t := 20) c158_9 rfl e3 ?_
  exact kk
theorem b158_12F {d : Nat} {q : Option Value × qH} {h : qH} {r0 : Nat} {x1 : Int32} {fs1 : List Value} {y3 : Int32}  (e2 : h.2.2 r0 = some (.inr (12, fs1))) (e4 : fs1[1]? = some (.int y3)) (e5 : ¬ ((x1 : Int32) ≤ y3)) (kk : qE d 158 20 [some (.ref r0), some (.int x1), none, none] [] h q): qE d 158 12 [some (.ref r0), some (.int x1), none, none] [] h q := by
  refine qe_iload_n c158_12 rfl ?_
  refine qe_aload_n c158_13 rfl ?_
  refine qe_getfield c158_14 qo158 qF12_283 e2 e4 ?_
  refine qe_icmp_le_F (t := 22) c158_17 rfl e5 ?_
  exact kk
theorem b158_12T {d : Nat} {q : Option Value × qH} {h : qH} {r0 : Nat} {x1 : Int32} {fs1 : List Value} {y3 : Int32}  (e2 : h.2.2 r0 = some (.inr (12, fs1))) (e4 : fs1[1]? = some (.int y3)) (e5 : (x1 : Int32) ≤ y3) (kk : qE d 158 22 [some (.ref r0), some (.int x1), none, none] [] h q): qE d 158 12 [some (.ref r0), some (.int x1), none, none] [] h q := by
  refine qe_iload_n c158_12 rfl ?_
  refine qe_aload_n c158_13 rfl ?_
  refine qe_getfield c158_14 qo158 qF12_283 e2 e4 ?_
  refine qe_icmp_le_T (t := 22) c158_17 rfl e5 ?_
  exact kk
theorem b158_20 {d : Nat} {h : qH} {r0 : Nat} {x1 : Int32}   : qE d 158 20 [some (.ref r0), some (.int x1), none, none] [] h (some (.int (-1)), h) := by
  refine qe_iconst (x := (-1)) c158_20 (by decide) ?_
  exact qe_iret c158_21 qr158
theorem b158_22 {d : Nat} {q : Option Value × qH} {h : qH} {r0 : Nat} {x1 : Int32} {fs1 : List Value} {h1 : qH} {fs5 : List Value} {h2 : qH} {fs9 : List Value} {h3 : qH} {fs13 : List Value} {h4 : qH} {fs17 : List Value} {h5 : qH} {fs21 : List Value} {h6 : qH}  (e2 : h.2.2 r0 = some (.inr (12, fs1))) (e3 : 1 < fs1.length) (e4 : qset h r0 (.inr (12, fs1.set 1 (.int 0))) = h1) (e6 : h1.2.2 r0 = some (.inr (12, fs5))) (e7 : 44 < fs5.length) (e8 : qset h1 r0 (.inr (12, fs5.set 44 (.int 0))) = h2) (e10 : h2.2.2 r0 = some (.inr (12, fs9))) (e11 : 45 < fs9.length) (e12 : qset h2 r0 (.inr (12, fs9.set 45 (.int x1))) = h3) (e14 : h3.2.2 r0 = some (.inr (12, fs13))) (e15 : 46 < fs13.length) (e16 : qset h3 r0 (.inr (12, fs13.set 46 (.int 0))) = h4) (e18 : h4.2.2 r0 = some (.inr (12, fs17))) (e19 : 47 < fs17.length) (e20 : qset h4 r0 (.inr (12, fs17.set 47 (.int 0))) = h5) (e22 : h5.2.2 r0 = some (.inr (12, fs21))) (e23 : 48 < fs21.length) (e24 : qset h5 r0 (.inr (12, fs21.set 48 (.int 0))) = h6) (kk : qE d 158 54 [some (.ref r0), some (.int x1), some (.int 1), none] [] h6 q): qE d 158 22 [some (.ref r0), some (.int x1), none, none] [] h q := by
  refine qe_aload_n c158_22 rfl ?_
  refine qe_iconst (x := 0) c158_23 (by decide) ?_
  refine qe_putfield c158_24 qo158 qF12_283 qz12_1 e2 e3 (by rw [qy12_1]; rfl) ?_
  rw [e4]
  refine qe_aload_n c158_27 rfl ?_
  refine qe_iconst (x := 0) c158_28 (by decide) ?_
  refine qe_putfield c158_29 qo158 qF12_290 qz12_44 e6 e7 (by rw [qy12_44]; rfl) ?_
  rw [e8]
  refine qe_aload_n c158_32 rfl ?_
  refine qe_iload_n c158_33 rfl ?_
  refine qe_putfield c158_34 qo158 qF12_293 qz12_45 e10 e11 (by rw [qy12_45]; rfl) ?_
  rw [e12]
  refine qe_aload_n c158_37 rfl ?_
  refine qe_iconst (x := 0) c158_38 (by decide) ?_
  refine qe_putfield c158_39 qo158 qF12_296 qz12_46 e14 e15 (by rw [qy12_46]; rfl) ?_
  rw [e16]
  refine qe_aload_n c158_42 rfl ?_
  refine qe_iconst (x := 0) c158_43 (by decide) ?_
  refine qe_putfield c158_44 qo158 qF12_329 qz12_47 e18 e19 (by rw [qy12_47]; rfl) ?_
  rw [e20]
  refine qe_aload_n c158_47 rfl ?_
  refine qe_iconst (x := 0) c158_48 (by decide) ?_
  refine qe_putfield c158_49 qo158 qF12_303 qz12_48 e22 e23 (by rw [qy12_48]; rfl) ?_
  rw [e24]
  refine qe_iconst (x := 1) c158_52 (by decide) ?_
  refine qe_istore_n (ls2 := [some (.ref r0), some (.int x1), some (.int 1), none]) c158_53 (Nat.le_of_ble_eq_true rfl) rfl ?_
  exact kk
theorem b158_54F {d : Nat} {q : Option Value × qH} {h : qH} {r0 : Nat} {x1 : Int32} {x2 : Int32}  (e1 : ¬ ((x2 : Int32) = 0)) (kk : qE d 158 58 [some (.ref r0), some (.int x1), some (.int x2), none] [] h q): qE d 158 54 [some (.ref r0), some (.int x1), some (.int x2), none] [] h q := by
  refine qe_iload_n c158_54 rfl ?_
  refine qe_if_eq_F (t := 128) c158_55 rfl e1 ?_
  exact kk
theorem b158_54T {d : Nat} {q : Option Value × qH} {h : qH} {r0 : Nat} {x1 : Int32} {x2 : Int32}  (e1 : (x2 : Int32) = 0) (kk : qE d 158 128 [some (.ref r0), some (.int x1), some (.int x2), none] [] h q): qE d 158 54 [some (.ref r0), some (.int x1), some (.int x2), none] [] h q := by
  refine qe_iload_n c158_54 rfl ?_
  refine qe_if_eq_T (t := 128) c158_55 rfl e1 ?_
  exact kk
theorem b158_58F {d : Nat} {q : Option Value × qH} {h : qH} {r0 : Nat} {x1 : Int32} {x2 : Int32} {fs1 : List Value} {h1 : qH} {z3 : Int32}  (e2 : h.2.2 r0 = some (.inr (12, fs1))) (e4 : qCall d 124 [.ref r0] h ((some (.int z3)), h1)) (e5 : ¬ ((z3 : Int32) = 0)) (kk : qE d 158 65 [some (.ref r0), some (.int x1), some (.int x2), none] [] h1 q): qE d 158 58 [some (.ref r0), some (.int x1), some (.int x2), none] [] h q := by
  refine qe_aload_n c158_58 rfl ?_
  refine qe_virtual (b := r0) (as := []) (r := []) (v := (some (.int z3))) (h2 := h1) c158_59 qo158 qK12_299 rfl rfl rfl (by rw [qo124]; exact e2) (Nat.le_of_ble_eq_true rfl) e4 ?_
  refine qe_if_eq_F (t := 128) c158_62 rfl e5 ?_
  exact kk
theorem b158_58T {d : Nat} {q : Option Value × qH} {h : qH} {r0 : Nat} {x1 : Int32} {x2 : Int32} {fs1 : List Value} {h1 : qH} {z3 : Int32}  (e2 : h.2.2 r0 = some (.inr (12, fs1))) (e4 : qCall d 124 [.ref r0] h ((some (.int z3)), h1)) (e5 : (z3 : Int32) = 0) (kk : qE d 158 128 [some (.ref r0), some (.int x1), some (.int x2), none] [] h1 q): qE d 158 58 [some (.ref r0), some (.int x1), some (.int x2), none] [] h q := by
  refine qe_aload_n c158_58 rfl ?_
  refine qe_virtual (b := r0) (as := []) (r := []) (v := (some (.int z3))) (h2 := h1) c158_59 qo158 qK12_299 rfl rfl rfl (by rw [qo124]; exact e2) (Nat.le_of_ble_eq_true rfl) e4 ?_
  refine qe_if_eq_T (t := 128) c158_62 rfl e5 ?_
  exact kk
theorem b158_65F {d : Nat} {q : Option Value × qH} {h : qH} {r0 : Nat} {x1 : Int32} {x2 : Int32} {fs1 : List Value} {h1 : qH} {fs4 : List Value} {h2 : qH} {z6 : Int32}  (e2 : h.2.2 r0 = some (.inr (12, fs1))) (e3 : qCall d 91 [.ref r0] h (none, h1)) (e5 : h1.2.2 r0 = some (.inr (12, fs4))) (e7 : qCall d 124 [.ref r0] h1 ((some (.int z6)), h2)) (e8 : ¬ ((z6 : Int32) = 0)) (kk : qE d 158 76 [some (.ref r0), some (.int x1), some (.int x2), none] [] h2 q): qE d 158 65 [some (.ref r0), some (.int x1), some (.int x2), none] [] h q := by
  refine qe_aload_n c158_65 rfl ?_
  refine qe_virtual (b := r0) (as := []) (r := []) (v := none) (h2 := h1) c158_66 qo158 qK12_390 rfl rfl rfl (by rw [qo91]; exact e2) (Nat.le_of_ble_eq_true rfl) e3 ?_
  refine qe_aload_n c158_69 rfl ?_
  refine qe_virtual (b := r0) (as := []) (r := []) (v := (some (.int z6))) (h2 := h2) c158_70 qo158 qK12_299 rfl rfl rfl (by rw [qo124]; exact e5) (Nat.le_of_ble_eq_true rfl) e7 ?_
  refine qe_if_eq_F (t := 91) c158_73 rfl e8 ?_
  exact kk
theorem b158_65T {d : Nat} {q : Option Value × qH} {h : qH} {r0 : Nat} {x1 : Int32} {x2 : Int32} {fs1 : List Value} {h1 : qH} {fs4 : List Value} {h2 : qH} {z6 : Int32}  (e2 : h.2.2 r0 = some (.inr (12, fs1))) (e3 : qCall d 91 [.ref r0] h (none, h1)) (e5 : h1.2.2 r0 = some (.inr (12, fs4))) (e7 : qCall d 124 [.ref r0] h1 ((some (.int z6)), h2)) (e8 : (z6 : Int32) = 0) (kk : qE d 158 91 [some (.ref r0), some (.int x1), some (.int x2), none] [] h2 q): qE d 158 65 [some (.ref r0), some (.int x1), some (.int x2), none] [] h q := by
  refine qe_aload_n c158_65 rfl ?_
  refine qe_virtual (b := r0) (as := []) (r := []) (v := none) (h2 := h1) c158_66 qo158 qK12_390 rfl rfl rfl (by rw [qo91]; exact e2) (Nat.le_of_ble_eq_true rfl) e3 ?_
  refine qe_aload_n c158_69 rfl ?_
  refine qe_virtual (b := r0) (as := []) (r := []) (v := (some (.int z6))) (h2 := h2) c158_70 qo158 qK12_299 rfl rfl rfl (by rw [qo124]; exact e5) (Nat.le_of_ble_eq_true rfl) e7 ?_
  refine qe_if_eq_T (t := 91) c158_73 rfl e8 ?_
  exact kk
theorem b158_76F {d : Nat} {q : Option Value × qH} {h : qH} {r0 : Nat} {x1 : Int32} {x2 : Int32} {fs1 : List Value} {y3 : Int32} {y5 : Int32}  (e2 : h.2.2 r0 = some (.inr (12, fs1))) (e4 : fs1[44]? = some (.int y3)) (e6 : fs1[45]? = some (.int y5)) (e7 : ¬ ((y5 : Int32) ≤ y3)) (kk : qE d 158 87 [some (.ref r0), some (.int x1), some (.int x2), none] [] h q): qE d 158 76 [some (.ref r0), some (.int x1), some (.int x2), none] [] h q := by
  refine qe_aload_n c158_76 rfl ?_
  refine qe_getfield c158_77 qo158 qF12_290 e2 e4 ?_
  refine qe_aload_n c158_80 rfl ?_
  refine qe_getfield c158_81 qo158 qF12_293 e2 e6 ?_
  refine qe_icmp_ge_F (t := 91) c158_84 rfl e7 ?_
  exact kk
theorem b158_76T {d : Nat} {q : Option Value × qH} {h : qH} {r0 : Nat} {x1 : Int32} {x2 : Int32} {fs1 : List Value} {y3 : Int32} {y5 : Int32}  (e2 : h.2.2 r0 = some (.inr (12, fs1))) (e4 : fs1[44]? = some (.int y3)) (e6 : fs1[45]? = some (.int y5)) (e7 : (y5 : Int32) ≤ y3) (kk : qE d 158 91 [some (.ref r0), some (.int x1), some (.int x2), none] [] h q): qE d 158 76 [some (.ref r0), some (.int x1), some (.int x2), none] [] h q := by
  refine qe_aload_n c158_76 rfl ?_
  refine qe_getfield c158_77 qo158 qF12_290 e2 e4 ?_
  refine qe_aload_n c158_80 rfl ?_
  refine qe_getfield c158_81 qo158 qF12_293 e2 e6 ?_
  refine qe_icmp_ge_T (t := 91) c158_84 rfl e7 ?_
  exact kk
theorem b158_87 {d : Nat} {q : Option Value × qH} {h : qH} {r0 : Nat} {x1 : Int32} {x2 : Int32}   (kk : qE d 158 92 [some (.ref r0), some (.int x1), some (.int x2), none] [.int 1] h q): qE d 158 87 [some (.ref r0), some (.int x1), some (.int x2), none] [] h q := by
  refine qe_iconst (x := 1) c158_87 (by decide) ?_
  refine qe_goto (t := 92) c158_88 rfl ?_
  exact kk
theorem b158_91 {d : Nat} {q : Option Value × qH} {h : qH} {r0 : Nat} {x1 : Int32} {x2 : Int32}   (kk : qE d 158 92 [some (.ref r0), some (.int x1), some (.int x2), none] [.int 0] h q): qE d 158 91 [some (.ref r0), some (.int x1), some (.int x2), none] [] h q := by
  refine qe_iconst (x := 0) c158_91 (by decide) ?_
  exact kk
theorem b158_92F {d : Nat} {q : Option Value × qH} {h : qH} {r0 : Nat} {x1 : Int32} {x2 : Int32} {xs0 : Int32}  (e1 : ¬ ((xs0 : Int32) = 0)) (kk : qE d 158 97 [some (.ref r0), some (.int x1), some (.int xs0), none] [] h q): qE d 158 92 [some (.ref r0), some (.int x1), some (.int x2), none] [.int xs0] h q := by
  refine qe_istore_n (ls2 := [some (.ref r0), some (.int x1), some (.int xs0), none]) c158_92 (Nat.le_of_ble_eq_true rfl) rfl ?_
  refine qe_iload_n c158_93 rfl ?_
  refine qe_if_eq_F (t := 54) c158_94 rfl e1 ?_
  exact kk
theorem b158_92T {d : Nat} {q : Option Value × qH} {h : qH} {r0 : Nat} {x1 : Int32} {x2 : Int32} {xs0 : Int32}  (e1 : (xs0 : Int32) = 0) (kk : qE d 158 54 [some (.ref r0), some (.int x1), some (.int xs0), none] [] h q): qE d 158 92 [some (.ref r0), some (.int x1), some (.int x2), none] [.int xs0] h q := by
  refine qe_istore_n (ls2 := [some (.ref r0), some (.int x1), some (.int xs0), none]) c158_92 (Nat.le_of_ble_eq_true rfl) rfl ?_
  refine qe_iload_n c158_93 rfl ?_
  refine qe_if_eq_T (t := 54) c158_94 rfl e1 ?_
  exact kk
theorem b158_97F {d : Nat} {q : Option Value × qH} {h : qH} {r0 : Nat} {x1 : Int32} {x2 : Int32} {fs1 : List Value} {h1 : qH} {z3 : Int32}  (e2 : h.2.2 r0 = some (.inr (12, fs1))) (e4 : qCall d 120 [.ref r0] h ((some (.int z3)), h1)) (e5 : ¬ ((z3 : Int32) = 59)) (kk : qE d 158 106 [some (.ref r0), some (.int x1), some (.int x2), none] [] h1 q): qE d 158 97 [some (.ref r0), some (.int x1), some (.int x2), none] [] h q := by
  refine qe_aload_n c158_97 rfl ?_
  refine qe_virtual (b := r0) (as := []) (r := []) (v := (some (.int z3))) (h2 := h1) c158_98 qo158 qK12_315 rfl rfl rfl (by rw [qo120]; exact e2) (Nat.le_of_ble_eq_true rfl) e4 ?_
  refine qe_bipush (x := 59) c158_101 (by decide) ?_
  refine qe_icmp_eq_F (t := 115) c158_103 rfl e5 ?_
  exact kk
theorem b158_97T {d : Nat} {q : Option Value × qH} {h : qH} {r0 : Nat} {x1 : Int32} {x2 : Int32} {fs1 : List Value} {h1 : qH} {z3 : Int32}  (e2 : h.2.2 r0 = some (.inr (12, fs1))) (e4 : qCall d 120 [.ref r0] h ((some (.int z3)), h1)) (e5 : (z3 : Int32) = 59) (kk : qE d 158 115 [some (.ref r0), some (.int x1), some (.int x2), none] [] h1 q): qE d 158 97 [some (.ref r0), some (.int x1), some (.int x2), none] [] h q := by
  refine qe_aload_n c158_97 rfl ?_
  refine qe_virtual (b := r0) (as := []) (r := []) (v := (some (.int z3))) (h2 := h1) c158_98 qo158 qK12_315 rfl rfl rfl (by rw [qo120]; exact e2) (Nat.le_of_ble_eq_true rfl) e4 ?_
  refine qe_bipush (x := 59) c158_101 (by decide) ?_
  refine qe_icmp_eq_T (t := 115) c158_103 rfl e5 ?_
  exact kk
theorem b158_106 {d : Nat} {q : Option Value × qH} {h : qH} {r0 : Nat} {x1 : Int32} {x2 : Int32} {fs1 : List Value} {y3 : Int32} {h1 : qH}  (e2 : h.2.2 r0 = some (.inr (12, fs1))) (e4 : fs1[44]? = some (.int y3)) (e5 : qCall d 190 [.ref r0, .int 1, .int y3] h (none, h1)) (kk : qE d 158 115 [some (.ref r0), some (.int x1), some (.int x2), none] [] h1 q): qE d 158 106 [some (.ref r0), some (.int x1), some (.int x2), none] [] h q := by
  refine qe_aload_n c158_106 rfl ?_
  refine qe_iconst (x := 1) c158_107 (by decide) ?_
  refine qe_aload_n c158_108 rfl ?_
  refine qe_getfield c158_109 qo158 qF12_290 e2 e4 ?_
  refine qe_virtual (b := r0) (as := [.int 1, .int y3]) (r := []) (v := none) (h2 := h1) c158_112 qo158 qK12_312 rfl rfl rfl (by rw [qo190]; exact e2) (Nat.le_of_ble_eq_true rfl) e5 ?_
  exact kk
theorem b158_115 {d : Nat} {q : Option Value × qH} {h : qH} {r0 : Nat} {x1 : Int32} {x2 : Int32} {fs1 : List Value} {y3 : Int32} {h1 : qH}  (e2 : h.2.2 r0 = some (.inr (12, fs1))) (e4 : fs1[44]? = some (.int y3)) (e5 : 44 < fs1.length) (e6 : qset h r0 (.inr (12, fs1.set 44 (.int (y3 + 1)))) = h1) (kk : qE d 158 54 [some (.ref r0), some (.int x1), some (.int x2), none] [] h1 q): qE d 158 115 [some (.ref r0), some (.int x1), some (.int x2), none] [] h q := by
  refine qe_aload_n c158_115 rfl ?_
  refine qe_dup c158_116 rfl ?_
  refine qe_getfield c158_117 qo158 qF12_290 e2 e4 ?_
  refine qe_iconst (x := 1) c158_120 (by decide) ?_
  refine qe_iadd c158_121 ?_
  refine qe_putfield c158_122 qo158 qF12_290 qz12_44 e2 e5 (by rw [qy12_44]; rfl) ?_
  rw [e6]
  refine qe_goto (t := 54) c158_125 rfl ?_
  exact kk
theorem b158_128F {d : Nat} {q : Option Value × qH} {h : qH} {r0 : Nat} {x1 : Int32} {x2 : Int32} {fs1 : List Value} {y3 : Int32}  (e2 : h.2.2 r0 = some (.inr (12, fs1))) (e4 : fs1[46]? = some (.int y3)) (e5 : ¬ ((0 : Int32) ≤ y3)) (kk : qE d 158 135 [some (.ref r0), some (.int x1), some (.int x2), none] [] h q): qE d 158 128 [some (.ref r0), some (.int x1), some (.int x2), none] [] h q := by
  refine qe_aload_n c158_128 rfl ?_
  refine qe_getfield c158_129 qo158 qF12_296 e2 e4 ?_
  refine qe_if_ge_F (t := 140) c158_132 rfl e5 ?_
  exact kk
theorem b158_128T {d : Nat} {q : Option Value × qH} {h : qH} {r0 : Nat} {x1 : Int32} {x2 : Int32} {fs1 : List Value} {y3 : Int32}  (e2 : h.2.2 r0 = some (.inr (12, fs1))) (e4 : fs1[46]? = some (.int y3)) (e5 : (0 : Int32) ≤ y3) (kk : qE d 158 140 [some (.ref r0), some (.int x1), some (.int x2), none] [] h q): qE d 158 128 [some (.ref r0), some (.int x1), some (.int x2), none] [] h q := by
  refine qe_aload_n c158_128 rfl ?_
  refine qe_getfield c158_129 qo158 qF12_296 e2 e4 ?_
  refine qe_if_ge_T (t := 140) c158_132 rfl e5 ?_
  exact kk
theorem b158_135 {d : Nat} {h : qH} {r0 : Nat} {x1 : Int32} {x2 : Int32} {fs1 : List Value} {y3 : Int32}  (e2 : h.2.2 r0 = some (.inr (12, fs1))) (e4 : fs1[46]? = some (.int y3)) : qE d 158 135 [some (.ref r0), some (.int x1), some (.int x2), none] [] h (some (.int y3), h) := by
  refine qe_aload_n c158_135 rfl ?_
  refine qe_getfield c158_136 qo158 qF12_296 e2 e4 ?_
  exact qe_iret c158_139 qr158
theorem b158_140 {d : Nat} {q : Option Value × qH} {h : qH} {r0 : Nat} {x1 : Int32} {x2 : Int32}   (kk : qE d 158 142 [some (.ref r0), some (.int x1), some (.int x2), some (.int 0)] [] h q): qE d 158 140 [some (.ref r0), some (.int x1), some (.int x2), none] [] h q := by
  refine qe_iconst (x := 0) c158_140 (by decide) ?_
  refine qe_istore_n (ls2 := [some (.ref r0), some (.int x1), some (.int x2), some (.int 0)]) c158_141 (Nat.le_of_ble_eq_true rfl) rfl ?_
  exact kk
theorem b158_142F {d : Nat} {q : Option Value × qH} {h : qH} {r0 : Nat} {x1 : Int32} {x2 : Int32} {x3 : Int32} {fs1 : List Value} {y3 : Int32}  (e2 : h.2.2 r0 = some (.inr (12, fs1))) (e4 : fs1[47]? = some (.int y3)) (e5 : ¬ ((y3 : Int32) ≤ x3)) (kk : qE d 158 150 [some (.ref r0), some (.int x1), some (.int x2), some (.int x3)] [] h q): qE d 158 142 [some (.ref r0), some (.int x1), some (.int x2), some (.int x3)] [] h q := by
  refine qe_iload_n c158_142 rfl ?_
  refine qe_aload_n c158_143 rfl ?_
  refine qe_getfield c158_144 qo158 qF12_329 e2 e4 ?_
  refine qe_icmp_ge_F (t := 192) c158_147 rfl e5 ?_
  exact kk
theorem b158_142T {d : Nat} {q : Option Value × qH} {h : qH} {r0 : Nat} {x1 : Int32} {x2 : Int32} {x3 : Int32} {fs1 : List Value} {y3 : Int32}  (e2 : h.2.2 r0 = some (.inr (12, fs1))) (e4 : fs1[47]? = some (.int y3)) (e5 : (y3 : Int32) ≤ x3) (kk : qE d 158 192 [some (.ref r0), some (.int x1), some (.int x2), some (.int x3)] [] h q): qE d 158 142 [some (.ref r0), some (.int x1), some (.int x2), some (.int x3)] [] h q := by
  refine qe_iload_n c158_142 rfl ?_
  refine qe_aload_n c158_143 rfl ?_
  refine qe_getfield c158_144 qo158 qF12_329 e2 e4 ?_
  refine qe_icmp_ge_T (t := 192) c158_147 rfl e5 ?_
  exact kk
theorem b158_150 {d : Nat} {q : Option Value × qH} {h : qH} {r0 : Nat} {x1 : Int32} {x2 : Int32} {x3 : Int32} {fs1 : List Value} {y3 : Nat} {y5 : Nat} {n7 : Nat} {f8 : Nat → Int32} {n11 : Nat} {f12 : Nat → Int32} {h1 : qH} {fs16 : List Value} {y18 : Nat} {y20 : Nat} {n22 : Nat} {f23 : Nat → Int32} {n26 : Nat} {f27 : Nat → Int32} {h2 : qH} {fs31 : List Value} {y33 : Nat} {y35 : Nat} {n37 : Nat} {f38 : Nat → Int32} {n41 : Nat} {f42 : Nat → Int32} {h3 : qH}  (e2 : h.2.2 r0 = some (.inr (12, fs1))) (e4 : fs1[34]? = some (.ref y3)) (e6 : fs1[39]? = some (.ref y5)) (e9 : h.2.2 y5 = some (.inl (0, n7, .inl f8))) (e10 : 0 ≤ (x3 : Int32).toInt ∧ (x3 : Int32).toInt < (n7 : Nat)) (e13 : h.2.2 y3 = some (.inl (0, n11, .inl f12))) (e14 : 0 ≤ (x3 : Int32).toInt ∧ (x3 : Int32).toInt < (n11 : Nat)) (e15 : qset h y3 (.inl (0, n11, .inl (upd f12 ((x3 : Int32).toNatClampNeg) ((f8 (x3 : Int32).toNatClampNeg))))) = h1) (e17 : h1.2.2 r0 = some (.inr (12, fs16))) (e19 : fs16[35]? = some (.ref y18)) (e21 : fs16[40]? = some (.ref y20)) (e24 : h1.2.2 y20 = some (.inl (0, n22, .inl f23))) (e25 : 0 ≤ (x3 : Int32).toInt ∧ (x3 : Int32).toInt < (n22 : Nat)) (e28 : h1.2.2 y18 = some (.inl (0, n26, .inl f27))) (e29 : 0 ≤ (x3 : Int32).toInt ∧ (x3 : Int32).toInt < (n26 : Nat)) (e30 : qset h1 y18 (.inl (0, n26, .inl (upd f27 ((x3 : Int32).toNatClampNeg) ((f23 (x3 : Int32).toNatClampNeg))))) = h2) (e32 : h2.2.2 r0 = some (.inr (12, fs31))) (e34 : fs31[36]? = some (.ref y33)) (e36 : fs31[41]? = some (.ref y35)) (e39 : h2.2.2 y35 = some (.inl (0, n37, .inl f38))) (e40 : 0 ≤ (x3 : Int32).toInt ∧ (x3 : Int32).toInt < (n37 : Nat)) (e43 : h2.2.2 y33 = some (.inl (0, n41, .inl f42))) (e44 : 0 ≤ (x3 : Int32).toInt ∧ (x3 : Int32).toInt < (n41 : Nat)) (e45 : qset h2 y33 (.inl (0, n41, .inl (upd f42 ((x3 : Int32).toNatClampNeg) ((f38 (x3 : Int32).toNatClampNeg))))) = h3) (kk : qE d 158 142 [some (.ref r0), some (.int x1), some (.int x2), some (.int (x3 + 1))] [] h3 q): qE d 158 150 [some (.ref r0), some (.int x1), some (.int x2), some (.int x3)] [] h q := by
  refine qe_aload_n c158_150 rfl ?_
  refine qe_getfield c158_151 qo158 qF12_86 e2 e4 ?_
  refine qe_iload_n c158_154 rfl ?_
  refine qe_aload_n c158_155 rfl ?_
  refine qe_getfield c158_156 qo158 qF12_101 e2 e6 ?_
  refine qe_iload_n c158_159 rfl ?_
  refine qe_iaload c158_160 e9 e10 ?_
  refine qe_iastore c158_161 e13 e14 ?_
  rw [e15]
  refine qe_aload_n c158_162 rfl ?_
  refine qe_getfield c158_163 qo158 qF12_89 e17 e19 ?_
  refine qe_iload_n c158_166 rfl ?_
  refine qe_aload_n c158_167 rfl ?_
  refine qe_getfield c158_168 qo158 qF12_104 e17 e21 ?_
  refine qe_iload_n c158_171 rfl ?_
  refine qe_iaload c158_172 e24 e25 ?_
  refine qe_iastore c158_173 e28 e29 ?_
  rw [e30]
  refine qe_aload_n c158_174 rfl ?_
  refine qe_getfield c158_175 qo158 qF12_92 e32 e34 ?_
  refine qe_iload_n c158_178 rfl ?_
  refine qe_aload_n c158_179 rfl ?_
  refine qe_getfield c158_180 qo158 qF12_107 e32 e36 ?_
  refine qe_iload_n c158_183 rfl ?_
  refine qe_iaload c158_184 e39 e40 ?_
  refine qe_iastore c158_185 e43 e44 ?_
  rw [e45]
  refine qe_iinc (y := (x3 + 1)) (ls2 := [some (.ref r0), some (.int x1), some (.int x2), some (.int (x3 + 1))]) c158_186 rfl (Nat.le_of_ble_eq_true rfl) rfl rfl ?_
  refine qe_goto (t := 142) c158_189 rfl ?_
  exact kk
theorem b158_192 {d : Nat} {q : Option Value × qH} {h : qH} {r0 : Nat} {x1 : Int32} {x2 : Int32} {x3 : Int32}   (kk : qE d 158 194 [some (.ref r0), some (.int x1), some (.int x2), some (.int 0)] [] h q): qE d 158 192 [some (.ref r0), some (.int x1), some (.int x2), some (.int x3)] [] h q := by
  refine qe_iconst (x := 0) c158_192 (by decide) ?_
  refine qe_istore_n (ls2 := [some (.ref r0), some (.int x1), some (.int x2), some (.int 0)]) c158_193 (Nat.le_of_ble_eq_true rfl) rfl ?_
  exact kk
theorem b158_194F {d : Nat} {q : Option Value × qH} {h : qH} {r0 : Nat} {x1 : Int32} {x2 : Int32} {x3 : Int32} {fs1 : List Value} {y3 : Int32}  (e2 : h.2.2 r0 = some (.inr (12, fs1))) (e4 : fs1[48]? = some (.int y3)) (e5 : ¬ ((y3 : Int32) ≤ x3)) (kk : qE d 158 202 [some (.ref r0), some (.int x1), some (.int x2), some (.int x3)] [] h q): qE d 158 194 [some (.ref r0), some (.int x1), some (.int x2), some (.int x3)] [] h q := by
  refine qe_iload_n c158_194 rfl ?_
  refine qe_aload_n c158_195 rfl ?_
  refine qe_getfield c158_196 qo158 qF12_303 e2 e4 ?_
  refine qe_icmp_ge_F (t := 232) c158_199 rfl e5 ?_
  exact kk
theorem b158_194T {d : Nat} {q : Option Value × qH} {h : qH} {r0 : Nat} {x1 : Int32} {x2 : Int32} {x3 : Int32} {fs1 : List Value} {y3 : Int32}  (e2 : h.2.2 r0 = some (.inr (12, fs1))) (e4 : fs1[48]? = some (.int y3)) (e5 : (y3 : Int32) ≤ x3) (kk : qE d 158 232 [some (.ref r0), some (.int x1), some (.int x2), some (.int x3)] [] h q): qE d 158 194 [some (.ref r0), some (.int x1), some (.int x2), some (.int x3)] [] h q := by
  refine qe_iload_n c158_194 rfl ?_
  refine qe_aload_n c158_195 rfl ?_
  refine qe_getfield c158_196 qo158 qF12_303 e2 e4 ?_
  refine qe_icmp_ge_T (t := 232) c158_199 rfl e5 ?_
  exact kk
theorem b158_202 {d : Nat} {q : Option Value × qH} {h : qH} {r0 : Nat} {x1 : Int32} {x2 : Int32} {x3 : Int32} {fs1 : List Value} {y3 : Nat} {y5 : Nat} {n7 : Nat} {f8 : Nat → Int32} {n11 : Nat} {f12 : Nat → Int32} {h1 : qH} {fs16 : List Value} {y18 : Nat} {y20 : Nat} {n22 : Nat} {f23 : Nat → Int32} {n26 : Nat} {f27 : Nat → Int32} {h2 : qH}  (e2 : h.2.2 r0 = some (.inr (12, fs1))) (e4 : fs1[37]? = some (.ref y3)) (e6 : fs1[42]? = some (.ref y5)) (e9 : h.2.2 y5 = some (.inl (0, n7, .inl f8))) (e10 : 0 ≤ (x3 : Int32).toInt ∧ (x3 : Int32).toInt < (n7 : Nat)) (e13 : h.2.2 y3 = some (.inl (0, n11, .inl f12))) (e14 : 0 ≤ (x3 : Int32).toInt ∧ (x3 : Int32).toInt < (n11 : Nat)) (e15 : qset h y3 (.inl (0, n11, .inl (upd f12 ((x3 : Int32).toNatClampNeg) ((f8 (x3 : Int32).toNatClampNeg))))) = h1) (e17 : h1.2.2 r0 = some (.inr (12, fs16))) (e19 : fs16[38]? = some (.ref y18)) (e21 : fs16[43]? = some (.ref y20)) (e24 : h1.2.2 y20 = some (.inl (0, n22, .inl f23))) (e25 : 0 ≤ (x3 : Int32).toInt ∧ (x3 : Int32).toInt < (n22 : Nat)) (e28 : h1.2.2 y18 = some (.inl (0, n26, .inl f27))) (e29 : 0 ≤ (x3 : Int32).toInt ∧ (x3 : Int32).toInt < (n26 : Nat)) (e30 : qset h1 y18 (.inl (0, n26, .inl (upd f27 ((x3 : Int32).toNatClampNeg) ((f23 (x3 : Int32).toNatClampNeg))))) = h2) (kk : qE d 158 194 [some (.ref r0), some (.int x1), some (.int x2), some (.int (x3 + 1))] [] h2 q): qE d 158 202 [some (.ref r0), some (.int x1), some (.int x2), some (.int x3)] [] h q := by
  refine qe_aload_n c158_202 rfl ?_
  refine qe_getfield c158_203 qo158 qF12_95 e2 e4 ?_
  refine qe_iload_n c158_206 rfl ?_
  refine qe_aload_n c158_207 rfl ?_
  refine qe_getfield c158_208 qo158 qF12_110 e2 e6 ?_
  refine qe_iload_n c158_211 rfl ?_
  refine qe_iaload c158_212 e9 e10 ?_
  refine qe_iastore c158_213 e13 e14 ?_
  rw [e15]
  refine qe_aload_n c158_214 rfl ?_
  refine qe_getfield c158_215 qo158 qF12_98 e17 e19 ?_
  refine qe_iload_n c158_218 rfl ?_
  refine qe_aload_n c158_219 rfl ?_
  refine qe_getfield c158_220 qo158 qF12_113 e17 e21 ?_
  refine qe_iload_n c158_223 rfl ?_
  refine qe_iaload c158_224 e24 e25 ?_
  refine qe_iastore c158_225 e28 e29 ?_
  rw [e30]
  refine qe_iinc (y := (x3 + 1)) (ls2 := [some (.ref r0), some (.int x1), some (.int x2), some (.int (x3 + 1))]) c158_226 rfl (Nat.le_of_ble_eq_true rfl) rfl rfl ?_
  refine qe_goto (t := 194) c158_229 rfl ?_
  exact kk
theorem b158_232 {d : Nat} {h : qH} {r0 : Nat} {x1 : Int32} {x2 : Int32} {x3 : Int32} {fs1 : List Value} {y3 : Int32} {h1 : qH} {fs7 : List Value} {y9 : Int32}  (e2 : h.2.2 r0 = some (.inr (12, fs1))) (e4 : fs1[47]? = some (.int y3)) (e5 : 6 < fs1.length) (e6 : qset h r0 (.inr (12, fs1.set 6 (.int y3))) = h1) (e8 : h1.2.2 r0 = some (.inr (12, fs7))) (e10 : fs7[47]? = some (.int y9)) : qE d 158 232 [some (.ref r0), some (.int x1), some (.int x2), some (.int x3)] [] h (some (.int y9), h1) := by
  refine qe_aload_n c158_232 rfl ?_
  refine qe_aload_n c158_233 rfl ?_
  refine qe_getfield c158_234 qo158 qF12_329 e2 e4 ?_
  refine qe_putfield c158_237 qo158 qF12_393 qz12_6 e2 e5 (by rw [qy12_6]; rfl) ?_
  rw [e6]
  refine qe_aload_n c158_240 rfl ?_
  refine qe_getfield c158_241 qo158 qF12_329 e8 e10 ?_
  exact qe_iret c158_244 qr158
theorem b159_0F {d : Nat} {q : Option Value × qH} {h : qH} {r0 : Nat} {x1 : Int32} {x2 : Int32}  (e1 : ¬ ((x2 : Int32) = 0)) (kk : qE d 159 4 [some (.ref r0), some (.int x1), some (.int x2), none] [] h q): qE d 159 0 [some (.ref r0), some (.int x1), some (.int x2), none] [] h q := by
  refine qe_iload_n c159_0 rfl ?_
  refine qe_if_eq_F (t := 8) c159_1 rfl e1 ?_
  exact kk
theorem b159_0T {d : Nat} {q : Option Value × qH} {h : qH} {r0 : Nat} {x1 : Int32} {x2 : Int32}  (e1 : (x2 : Int32) = 0) (kk : qE d 159 8 [some (.ref r0), some (.int x1), some (.int x2), none] [] h q): qE d 159 0 [some (.ref r0), some (.int x1), some (.int x2), none] [] h q := by
  refine qe_iload_n c159_0 rfl ?_
  refine qe_if_eq_T (t := 8) c159_1 rfl e1 ?_
  exact kk
theorem b159_4 {d : Nat} {q : Option Value × qH} {h : qH} {r0 : Nat} {x1 : Int32} {x2 : Int32}   (kk : qE d 159 9 [some (.ref r0), some (.int x1), some (.int x2), none] [.int 1] h q): qE d 159 4 [some (.ref r0), some (.int x1), some (.int x2), none] [] h q := by
  refine qe_iconst (x := 1) c159_4 (by decide) ?_
  refine qe_goto (t := 9) c159_5 rfl ?_
  exact kk
theorem b159_8 {d : Nat} {q : Option Value × qH} {h : qH} {r0 : Nat} {x1 : Int32} {x2 : Int32}   (kk : qE d 159 9 [some (.ref r0), some (.int x1), some (.int x2), none] [.int 0] h q): qE d 159 8 [some (.ref r0), some (.int x1), some (.int x2), none] [] h q := by
  refine qe_iconst (x := 0) c159_8 (by decide) ?_
  exact kk
theorem b159_9F {d : Nat} {q : Option Value × qH} {h : qH} {r0 : Nat} {x1 : Int32} {x2 : Int32} {xs0 : Int32} {fs1 : List Value} {h1 : qH} {z3 : Int32}  (e2 : h.2.2 r0 = some (.inr (12, fs1))) (e4 : qCall d 137 [.ref r0, .int x1] h ((some (.int z3)), h1)) (e5 : ¬ ((z3 : Int32) = 0)) (kk : qE d 159 18 [some (.ref r0), some (.int x1), some (.int x2), some (.int xs0)] [] h1 q): qE d 159 9 [some (.ref r0), some (.int x1), some (.int x2), none] [.int xs0] h q := by
  refine qe_istore_n (ls2 := [some (.ref r0), some (.int x1), some (.int x2), some (.int xs0)]) c159_9 (Nat.le_of_ble_eq_true rfl) rfl ?_
  refine qe_aload_n c159_10 rfl ?_
  refine qe_iload_n c159_11 rfl ?_
  refine qe_virtual (b := r0) (as := [.int x1]) (r := []) (v := (some (.int z3))) (h2 := h1) c159_12 qo159 qK12_231 rfl rfl rfl (by rw [qo137]; exact e2) (Nat.le_of_ble_eq_true rfl) e4 ?_
  refine qe_if_eq_F (t := 31) c159_15 rfl e5 ?_
  exact kk
theorem b159_9T {d : Nat} {q : Option Value × qH} {h : qH} {r0 : Nat} {x1 : Int32} {x2 : Int32} {xs0 : Int32} {fs1 : List Value} {h1 : qH} {z3 : Int32}  (e2 : h.2.2 r0 = some (.inr (12, fs1))) (e4 : qCall d 137 [.ref r0, .int x1] h ((some (.int z3)), h1)) (e5 : (z3 : Int32) = 0) (kk : qE d 159 31 [some (.ref r0), some (.int x1), some (.int x2), some (.int xs0)] [] h1 q): qE d 159 9 [some (.ref r0), some (.int x1), some (.int x2), none] [.int xs0] h q := by
  refine qe_istore_n (ls2 := [some (.ref r0), some (.int x1), some (.int x2), some (.int xs0)]) c159_9 (Nat.le_of_ble_eq_true rfl) rfl ?_
  refine qe_aload_n c159_10 rfl ?_
  refine qe_iload_n c159_11 rfl ?_
  refine qe_virtual (b := r0) (as := [.int x1]) (r := []) (v := (some (.int z3))) (h2 := h1) c159_12 qo159 qK12_231 rfl rfl rfl (by rw [qo137]; exact e2) (Nat.le_of_ble_eq_true rfl) e4 ?_
  refine qe_if_eq_T (t := 31) c159_15 rfl e5 ?_
  exact kk
theorem b159_18F {d : Nat} {q : Option Value × qH} {h : qH} {r0 : Nat} {x1 : Int32} {x2 : Int32} {x3 : Int32} {fs1 : List Value} {y3 : Nat} {n5 : Nat} {f6 : Nat → Int32}  (e2 : h.2.2 r0 = some (.inr (12, fs1))) (e4 : fs1[10]? = some (.ref y3)) (e7 : h.2.2 y3 = some (.inl (0, n5, .inl f6))) (e8 : 0 ≤ ((36042 + x1) : Int32).toInt ∧ ((36042 + x1) : Int32).toInt < (n5 : Nat)) (e9 : ((f6 ((36042 + x1) : Int32).toNatClampNeg) : Int32) = x3) (kk : qE d 159 31 [some (.ref r0), some (.int x1), some (.int x2), some (.int x3)] [] h q): qE d 159 18 [some (.ref r0), some (.int x1), some (.int x2), some (.int x3)] [] h q := by
  refine qe_aload_n c159_18 rfl ?_
  refine qe_getfield c159_19 qo159 qF12_14 e2 e4 ?_
  refine qe_ldc (x := 36042) c159_22 qo159 qI12_223 ?_
  refine qe_iload_n c159_24 rfl ?_
  refine qe_iadd c159_25 ?_
  refine qe_iaload c159_26 e7 e8 ?_
  refine qe_iload_n c159_27 rfl ?_
  refine qe_icmp_ne_F (t := 33) c159_28 rfl e9 ?_
  exact kk
theorem b159_18T {d : Nat} {q : Option Value × qH} {h : qH} {r0 : Nat} {x1 : Int32} {x2 : Int32} {x3 : Int32} {fs1 : List Value} {y3 : Nat} {n5 : Nat} {f6 : Nat → Int32}  (e2 : h.2.2 r0 = some (.inr (12, fs1))) (e4 : fs1[10]? = some (.ref y3)) (e7 : h.2.2 y3 = some (.inl (0, n5, .inl f6))) (e8 : 0 ≤ ((36042 + x1) : Int32).toInt ∧ ((36042 + x1) : Int32).toInt < (n5 : Nat)) (e9 : ¬ (((f6 ((36042 + x1) : Int32).toNatClampNeg) : Int32) = x3)) (kk : qE d 159 33 [some (.ref r0), some (.int x1), some (.int x2), some (.int x3)] [] h q): qE d 159 18 [some (.ref r0), some (.int x1), some (.int x2), some (.int x3)] [] h q := by
  refine qe_aload_n c159_18 rfl ?_
  refine qe_getfield c159_19 qo159 qF12_14 e2 e4 ?_
  refine qe_ldc (x := 36042) c159_22 qo159 qI12_223 ?_
  refine qe_iload_n c159_24 rfl ?_
  refine qe_iadd c159_25 ?_
  refine qe_iaload c159_26 e7 e8 ?_
  refine qe_iload_n c159_27 rfl ?_
  refine qe_icmp_ne_T (t := 33) c159_28 rfl e9 ?_
  exact kk
theorem b159_31 {d : Nat} {h : qH} {r0 : Nat} {x1 : Int32} {x2 : Int32} {x3 : Int32}   : qE d 159 31 [some (.ref r0), some (.int x1), some (.int x2), some (.int x3)] [] h (some (.int 0), h) := by
  refine qe_iconst (x := 0) c159_31 (by decide) ?_
  exact qe_zret c159_32 qr159 (by decide)
theorem b159_33 {d : Nat} {h : qH} {r0 : Nat} {x1 : Int32} {x2 : Int32} {x3 : Int32} {fs1 : List Value} {y3 : Nat} {n5 : Nat} {f6 : Nat → Int32} {h1 : qH}  (e2 : h.2.2 r0 = some (.inr (12, fs1))) (e4 : fs1[10]? = some (.ref y3)) (e7 : h.2.2 y3 = some (.inl (0, n5, .inl f6))) (e8 : 0 ≤ ((36042 + x1) : Int32).toInt ∧ ((36042 + x1) : Int32).toInt < (n5 : Nat)) (e9 : qset h y3 (.inl (0, n5, .inl (upd f6 (((36042 + x1) : Int32).toNatClampNeg) x3))) = h1) : qE d 159 33 [some (.ref r0), some (.int x1), some (.int x2), some (.int x3)] [] h (some (.int 1), h1) := by
  refine qe_aload_n c159_33 rfl ?_
  refine qe_getfield c159_34 qo159 qF12_14 e2 e4 ?_
  refine qe_ldc (x := 36042) c159_37 qo159 qI12_223 ?_
  refine qe_iload_n c159_39 rfl ?_
  refine qe_iadd c159_40 ?_
  refine qe_iload_n c159_41 rfl ?_
  refine qe_iastore c159_42 e7 e8 ?_
  rw [e9]
  refine qe_iconst (x := 1) c159_43 (by decide) ?_
  exact qe_zret c159_44 qr159 (by decide)
theorem b160_0 {d : Nat} {h : qH} {r0 : Nat} {fs1 : List Value} {h1 : qH} {z3 : Int32} {h2 : qH} {z5 : Int32}  (e2 : h.2.2 r0 = some (.inr (12, fs1))) (e4 : qCall d 120 [.ref r0] h ((some (.int z3)), h1)) (e6 : qCall d 143 [.long (z3 : Int32).toInt64, .long 48, .long 57] h1 ((some (.int z5)), h2)) (e7 : (z5 : Int32) = 0 ∨ (z5 : Int32) = 1) : qE d 160 0 [some (.ref r0)] [] h (some (.int z5), h2) := by
  refine qe_aload_n c160_0 rfl ?_
  refine qe_virtual (b := r0) (as := []) (r := []) (v := (some (.int z3))) (h2 := h1) c160_1 qo160 qK12_315 rfl rfl rfl (by rw [qo120]; exact e2) (Nat.le_of_ble_eq_true rfl) e4 ?_
  refine qe_i2l c160_4 ?_
  refine qe_ldc2_w (x := 48) c160_5 qo160 qJ12_322 ?_
  refine qe_ldc2_w (x := 57) c160_8 qo160 qJ12_324 ?_
  refine qe_static (as := [.long (z3 : Int32).toInt64, .long 48, .long 57]) (r := []) (v := (some (.int z5))) (h2 := h2) c160_11 qo160 (by decide) qK12_190 rfl rfl rfl (Nat.le_of_ble_eq_true rfl) e6 ?_
  exact qe_zret c160_14 qr160 e7
theorem b161_0F {d : Nat} {q : Option Value × qH} {h : qH} {r0 : Nat} {x1 : Int32} {x2 : Int32}  (e1 : ¬ ((x2 : Int32) = 0)) (kk : qE d 161 4 [some (.ref r0), some (.int x1), some (.int x2), none] [] h q): qE d 161 0 [some (.ref r0), some (.int x1), some (.int x2), none] [] h q := by
  refine qe_iload_n c161_0 rfl ?_
  refine qe_if_eq_F (t := 8) c161_1 rfl e1 ?_
  exact kk
theorem b161_0T {d : Nat} {q : Option Value × qH} {h : qH} {r0 : Nat} {x1 : Int32} {x2 : Int32}  (e1 : (x2 : Int32) = 0) (kk : qE d 161 8 [some (.ref r0), some (.int x1), some (.int x2), none] [] h q): qE d 161 0 [some (.ref r0), some (.int x1), some (.int x2), none] [] h q := by
  refine qe_iload_n c161_0 rfl ?_
  refine qe_if_eq_T (t := 8) c161_1 rfl e1 ?_
  exact kk
theorem b161_4 {d : Nat} {q : Option Value × qH} {h : qH} {r0 : Nat} {x1 : Int32} {x2 : Int32}   (kk : qE d 161 9 [some (.ref r0), some (.int x1), some (.int x2), none] [.int 1] h q): qE d 161 4 [some (.ref r0), some (.int x1), some (.int x2), none] [] h q := by
  refine qe_iconst (x := 1) c161_4 (by decide) ?_
  refine qe_goto (t := 9) c161_5 rfl ?_
  exact kk
theorem b161_8 {d : Nat} {q : Option Value × qH} {h : qH} {r0 : Nat} {x1 : Int32} {x2 : Int32}   (kk : qE d 161 9 [some (.ref r0), some (.int x1), some (.int x2), none] [.int 0] h q): qE d 161 8 [some (.ref r0), some (.int x1), some (.int x2), none] [] h q := by
  refine qe_iconst (x := 0) c161_8 (by decide) ?_
  exact kk
theorem b161_9F {d : Nat} {q : Option Value × qH} {h : qH} {r0 : Nat} {x1 : Int32} {x2 : Int32} {xs0 : Int32} {fs1 : List Value} {h1 : qH} {z3 : Int32}  (e2 : h.2.2 r0 = some (.inr (12, fs1))) (e4 : qCall d 132 [.ref r0, .int x1] h ((some (.int z3)), h1)) (e5 : ¬ ((z3 : Int32) = 0)) (kk : qE d 161 18 [some (.ref r0), some (.int x1), some (.int x2), some (.int xs0)] [] h1 q): qE d 161 9 [some (.ref r0), some (.int x1), some (.int x2), none] [.int xs0] h q := by
  refine qe_istore_n (ls2 := [some (.ref r0), some (.int x1), some (.int x2), some (.int xs0)]) c161_9 (Nat.le_of_ble_eq_true rfl) rfl ?_
  refine qe_aload_n c161_10 rfl ?_
  refine qe_iload_n c161_11 rfl ?_
  refine qe_virtual (b := r0) (as := [.int x1]) (r := []) (v := (some (.int z3))) (h2 := h1) c161_12 qo161 qK12_214 rfl rfl rfl (by rw [qo132]; exact e2) (Nat.le_of_ble_eq_true rfl) e4 ?_
  refine qe_if_eq_F (t := 31) c161_15 rfl e5 ?_
  exact kk
theorem b161_9T {d : Nat} {q : Option Value × qH} {h : qH} {r0 : Nat} {x1 : Int32} {x2 : Int32} {xs0 : Int32} {fs1 : List Value} {h1 : qH} {z3 : Int32}  (e2 : h.2.2 r0 = some (.inr (12, fs1))) (e4 : qCall d 132 [.ref r0, .int x1] h ((some (.int z3)), h1)) (e5 : (z3 : Int32) = 0) (kk : qE d 161 31 [some (.ref r0), some (.int x1), some (.int x2), some (.int xs0)] [] h1 q): qE d 161 9 [some (.ref r0), some (.int x1), some (.int x2), none] [.int xs0] h q := by
  refine qe_istore_n (ls2 := [some (.ref r0), some (.int x1), some (.int x2), some (.int xs0)]) c161_9 (Nat.le_of_ble_eq_true rfl) rfl ?_
  refine qe_aload_n c161_10 rfl ?_
  refine qe_iload_n c161_11 rfl ?_
  refine qe_virtual (b := r0) (as := [.int x1]) (r := []) (v := (some (.int z3))) (h2 := h1) c161_12 qo161 qK12_214 rfl rfl rfl (by rw [qo132]; exact e2) (Nat.le_of_ble_eq_true rfl) e4 ?_
  refine qe_if_eq_T (t := 31) c161_15 rfl e5 ?_
  exact kk
theorem b161_18F {d : Nat} {q : Option Value × qH} {h : qH} {r0 : Nat} {x1 : Int32} {x2 : Int32} {x3 : Int32} {fs1 : List Value} {y3 : Nat} {n5 : Nat} {f6 : Nat → Int32}  (e2 : h.2.2 r0 = some (.inr (12, fs1))) (e4 : fs1[10]? = some (.ref y3)) (e7 : h.2.2 y3 = some (.inl (0, n5, .inl f6))) (e8 : 0 ≤ ((36051 + x1) : Int32).toInt ∧ ((36051 + x1) : Int32).toInt < (n5 : Nat)) (e9 : ((f6 ((36051 + x1) : Int32).toNatClampNeg) : Int32) = x3) (kk : qE d 161 31 [some (.ref r0), some (.int x1), some (.int x2), some (.int x3)] [] h q): qE d 161 18 [some (.ref r0), some (.int x1), some (.int x2), some (.int x3)] [] h q := by
  refine qe_aload_n c161_18 rfl ?_
  refine qe_getfield c161_19 qo161 qF12_14 e2 e4 ?_
  refine qe_ldc (x := 36051) c161_22 qo161 qI12_234 ?_
  refine qe_iload_n c161_24 rfl ?_
  refine qe_iadd c161_25 ?_
  refine qe_iaload c161_26 e7 e8 ?_
  refine qe_iload_n c161_27 rfl ?_
  refine qe_icmp_ne_F (t := 33) c161_28 rfl e9 ?_
  exact kk
theorem b161_18T {d : Nat} {q : Option Value × qH} {h : qH} {r0 : Nat} {x1 : Int32} {x2 : Int32} {x3 : Int32} {fs1 : List Value} {y3 : Nat} {n5 : Nat} {f6 : Nat → Int32}  (e2 : h.2.2 r0 = some (.inr (12, fs1))) (e4 : fs1[10]? = some (.ref y3)) (e7 : h.2.2 y3 = some (.inl (0, n5, .inl f6))) (e8 : 0 ≤ ((36051 + x1) : Int32).toInt ∧ ((36051 + x1) : Int32).toInt < (n5 : Nat)) (e9 : ¬ (((f6 ((36051 + x1) : Int32).toNatClampNeg) : Int32) = x3)) (kk : qE d 161 33 [some (.ref r0), some (.int x1), some (.int x2), some (.int x3)] [] h q): qE d 161 18 [some (.ref r0), some (.int x1), some (.int x2), some (.int x3)] [] h q := by
  refine qe_aload_n c161_18 rfl ?_
  refine qe_getfield c161_19 qo161 qF12_14 e2 e4 ?_
  refine qe_ldc (x := 36051) c161_22 qo161 qI12_234 ?_
  refine qe_iload_n c161_24 rfl ?_
  refine qe_iadd c161_25 ?_
  refine qe_iaload c161_26 e7 e8 ?_
  refine qe_iload_n c161_27 rfl ?_
  refine qe_icmp_ne_T (t := 33) c161_28 rfl e9 ?_
  exact kk
theorem b161_31 {d : Nat} {h : qH} {r0 : Nat} {x1 : Int32} {x2 : Int32} {x3 : Int32}   : qE d 161 31 [some (.ref r0), some (.int x1), some (.int x2), some (.int x3)] [] h (some (.int 0), h) := by
  refine qe_iconst (x := 0) c161_31 (by decide) ?_
  exact qe_zret c161_32 qr161 (by decide)
theorem b161_33 {d : Nat} {h : qH} {r0 : Nat} {x1 : Int32} {x2 : Int32} {x3 : Int32} {fs1 : List Value} {y3 : Nat} {n5 : Nat} {f6 : Nat → Int32} {h1 : qH}  (e2 : h.2.2 r0 = some (.inr (12, fs1))) (e4 : fs1[10]? = some (.ref y3)) (e7 : h.2.2 y3 = some (.inl (0, n5, .inl f6))) (e8 : 0 ≤ ((36051 + x1) : Int32).toInt ∧ ((36051 + x1) : Int32).toInt < (n5 : Nat)) (e9 : qset h y3 (.inl (0, n5, .inl (upd f6 (((36051 + x1) : Int32).toNatClampNeg) x3))) = h1) : qE d 161 33 [some (.ref r0), some (.int x1), some (.int x2), some (.int x3)] [] h (some (.int 1), h1) := by
  refine qe_aload_n c161_33 rfl ?_
  refine qe_getfield c161_34 qo161 qF12_14 e2 e4 ?_
  refine qe_ldc (x := 36051) c161_37 qo161 qI12_234 ?_
  refine qe_iload_n c161_39 rfl ?_
  refine qe_iadd c161_40 ?_
  refine qe_iload_n c161_41 rfl ?_
  refine qe_iastore c161_42 e7 e8 ?_
  rw [e9]
  refine qe_iconst (x := 1) c161_43 (by decide) ?_
  exact qe_zret c161_44 qr161 (by decide)
theorem b162_0 {d : Nat} {q : Option Value × qH} {h : qH} {r0 : Nat} {x1 : Int32} {x2 : Int32} {fs1 : List Value} {y3 : Int32} {h1 : qH}  (e2 : h.2.2 r0 = some (.inr (12, fs1))) (e4 : fs1[2]? = some (.int y3)) (e5 : qCall d 153 [.ref r0, .int y3, .int 0] h (none, h1)) (kk : qE d 162 11 [some (.ref r0), some (.int x1), some (.int x2), some (.int 0)] [] h1 q): qE d 162 0 [some (.ref r0), some (.int x1), some (.int x2), none] [] h q := by
  refine qe_aload_n c162_0 rfl ?_
  refine qe_aload_n c162_1 rfl ?_
  refine qe_getfield c162_2 qo162 qF12_202 e2 e4 ?_
  refine qe_iconst (x := 0) c162_5 (by decide) ?_
  refine qe_virtual (b := r0) (as := [.int y3, .int 0]) (r := []) (v := none) (h2 := h1) c162_6 qo162 qK12_485 rfl rfl rfl (by rw [qo153]; exact e2) (Nat.le_of_ble_eq_true rfl) e5 ?_
  refine qe_iconst (x := 0) c162_9 (by decide) ?_
  refine qe_istore_n (ls2 := [some (.ref r0), some (.int x1), some (.int x2), some (.int 0)]) c162_10 (Nat.le_of_ble_eq_true rfl) rfl ?_
  exact kk
theorem b162_11F {d : Nat} {q : Option Value × qH} {h : qH} {r0 : Nat} {x1 : Int32} {x2 : Int32} {x3 : Int32} {fs1 : List Value} {y3 : Int32}  (e2 : h.2.2 r0 = some (.inr (12, fs1))) (e4 : fs1[4]? = some (.int y3)) (e5 : ¬ ((y3 : Int32) ≤ x3)) (kk : qE d 162 19 [some (.ref r0), some (.int x1), some (.int x2), some (.int x3)] [] h q): qE d 162 11 [some (.ref r0), some (.int x1), some (.int x2), some (.int x3)] [] h q := by
  refine qe_iload_n c162_11 rfl ?_
  refine qe_aload_n c162_12 rfl ?_
  refine qe_getfield c162_13 qo162 qF12_194 e2 e4 ?_
  refine qe_icmp_ge_F (t := 44) c162_16 rfl e5 ?_
  exact kk
theorem b162_11T {d : Nat} {q : Option Value × qH} {h : qH} {r0 : Nat} {x1 : Int32} {x2 : Int32} {x3 : Int32} {fs1 : List Value} {y3 : Int32}  (e2 : h.2.2 r0 = some (.inr (12, fs1))) (e4 : fs1[4]? = some (.int y3)) (e5 : (y3 : Int32) ≤ x3) (kk : qE d 162 44 [some (.ref r0), some (.int x1), some (.int x2), some (.int x3)] [] h q): qE d 162 11 [some (.ref r0), some (.int x1), some (.int x2), some (.int x3)] [] h q := by
  refine qe_iload_n c162_11 rfl ?_
  refine qe_aload_n c162_12 rfl ?_
  refine qe_getfield c162_13 qo162 qF12_194 e2 e4 ?_
  refine qe_icmp_ge_T (t := 44) c162_16 rfl e5 ?_
  exact kk
theorem b162_19F {d : Nat} {q : Option Value × qH} {h : qH} {r0 : Nat} {x1 : Int32} {x2 : Int32} {x3 : Int32} {h1 : qH} {z1 : Int32}  (e2 : qCall d 118 [.int x1, .int x3] h ((some (.int z1)), h1)) (e3 : ¬ ((z1 : Int32) = 0)) (kk : qE d 162 27 [some (.ref r0), some (.int x1), some (.int x2), some (.int x3)] [] h1 q): qE d 162 19 [some (.ref r0), some (.int x1), some (.int x2), some (.int x3)] [] h q := by
  refine qe_iload_n c162_19 rfl ?_
  refine qe_iload_n c162_20 rfl ?_
  refine qe_static (as := [.int x1, .int x3]) (r := []) (v := (some (.int z1))) (h2 := h1) c162_21 qo162 (by decide) qK12_248 rfl rfl rfl (Nat.le_of_ble_eq_true rfl) e2 ?_
  refine qe_if_eq_F (t := 38) c162_24 rfl e3 ?_
  exact kk
theorem b162_19T {d : Nat} {q : Option Value × qH} {h : qH} {r0 : Nat} {x1 : Int32} {x2 : Int32} {x3 : Int32} {h1 : qH} {z1 : Int32}  (e2 : qCall d 118 [.int x1, .int x3] h ((some (.int z1)), h1)) (e3 : (z1 : Int32) = 0) (kk : qE d 162 38 [some (.ref r0), some (.int x1), some (.int x2), some (.int x3)] [] h1 q): qE d 162 19 [some (.ref r0), some (.int x1), some (.int x2), some (.int x3)] [] h q := by
  refine qe_iload_n c162_19 rfl ?_
  refine qe_iload_n c162_20 rfl ?_
  refine qe_static (as := [.int x1, .int x3]) (r := []) (v := (some (.int z1))) (h2 := h1) c162_21 qo162 (by decide) qK12_248 rfl rfl rfl (Nat.le_of_ble_eq_true rfl) e2 ?_
  refine qe_if_eq_T (t := 38) c162_24 rfl e3 ?_
  exact kk
theorem b162_27 {d : Nat} {q : Option Value × qH} {h : qH} {r0 : Nat} {x1 : Int32} {x2 : Int32} {x3 : Int32} {fs1 : List Value} {y3 : Nat} {n5 : Nat} {f6 : Nat → Int32} {h1 : qH}  (e2 : h.2.2 r0 = some (.inr (12, fs1))) (e4 : fs1[10]? = some (.ref y3)) (e7 : h.2.2 y3 = some (.inl (0, n5, .inl f6))) (e8 : 0 ≤ ((36316 + x3) : Int32).toInt ∧ ((36316 + x3) : Int32).toInt < (n5 : Nat)) (e9 : qset h y3 (.inl (0, n5, .inl (upd f6 (((36316 + x3) : Int32).toNatClampNeg) 0))) = h1) (kk : qE d 162 38 [some (.ref r0), some (.int x1), some (.int x2), some (.int x3)] [] h1 q): qE d 162 27 [some (.ref r0), some (.int x1), some (.int x2), some (.int x3)] [] h q := by
  refine qe_aload_n c162_27 rfl ?_
  refine qe_getfield c162_28 qo162 qF12_14 e2 e4 ?_
  refine qe_ldc_w (x := 36316) c162_31 qo162 qI12_535 ?_
  refine qe_iload_n c162_34 rfl ?_
  refine qe_iadd c162_35 ?_
  refine qe_iconst (x := 0) c162_36 (by decide) ?_
  refine qe_iastore c162_37 e7 e8 ?_
  rw [e9]
  exact kk
theorem b162_38 {d : Nat} {q : Option Value × qH} {h : qH} {r0 : Nat} {x1 : Int32} {x2 : Int32} {x3 : Int32}   (kk : qE d 162 11 [some (.ref r0), some (.int x1), some (.int x2), some (.int (x3 + 1))] [] h q): qE d 162 38 [some (.ref r0), some (.int x1), some (.int x2), some (.int x3)] [] h q := by
  refine qe_iinc (y := (x3 + 1)) (ls2 := [some (.ref r0), some (.int x1), some (.int x2), some (.int (x3 + 1))]) c162_38 rfl (Nat.le_of_ble_eq_true rfl) rfl rfl ?_
  refine qe_goto (t := 11) c162_41 rfl ?_
  exact kk
theorem b162_44 {d : Nat} {q : Option Value × qH} {h : qH} {r0 : Nat} {x1 : Int32} {x2 : Int32} {x3 : Int32}   (kk : qE d 162 46 [some (.ref r0), some (.int x1), some (.int x2), some (.int 0)] [] h q): qE d 162 44 [some (.ref r0), some (.int x1), some (.int x2), some (.int x3)] [] h q := by
  refine qe_iconst (x := 0) c162_44 (by decide) ?_
  refine qe_istore_n (ls2 := [some (.ref r0), some (.int x1), some (.int x2), some (.int 0)]) c162_45 (Nat.le_of_ble_eq_true rfl) rfl ?_
  exact kk
theorem b162_46F {d : Nat} {q : Option Value × qH} {h : qH} {r0 : Nat} {x1 : Int32} {x2 : Int32} {x3 : Int32}  (e1 : ¬ ((x2 : Int32) ≤ x3)) (kk : qE d 162 51 [some (.ref r0), some (.int x1), some (.int x2), some (.int x3)] [] h q): qE d 162 46 [some (.ref r0), some (.int x1), some (.int x2), some (.int x3)] [] h q := by
  refine qe_iload_n c162_46 rfl ?_
  refine qe_iload_n c162_47 rfl ?_
  refine qe_icmp_ge_F (t := 64) c162_48 rfl e1 ?_
  exact kk
theorem b162_46T {d : Nat} {q : Option Value × qH} {h : qH} {r0 : Nat} {x1 : Int32} {x2 : Int32} {x3 : Int32}  (e1 : (x2 : Int32) ≤ x3) (kk : qE d 162 64 [some (.ref r0), some (.int x1), some (.int x2), some (.int x3)] [] h q): qE d 162 46 [some (.ref r0), some (.int x1), some (.int x2), some (.int x3)] [] h q := by
  refine qe_iload_n c162_46 rfl ?_
  refine qe_iload_n c162_47 rfl ?_
  refine qe_icmp_ge_T (t := 64) c162_48 rfl e1 ?_
  exact kk
theorem b162_51 {d : Nat} {q : Option Value × qH} {h : qH} {r0 : Nat} {x1 : Int32} {x2 : Int32} {x3 : Int32} {fs1 : List Value} {h1 : qH}  (e2 : h.2.2 r0 = some (.inr (12, fs1))) (e3 : qCall d 175 [.ref r0, .int 36288] h (none, h1)) (kk : qE d 162 46 [some (.ref r0), some (.int x1), some (.int x2), some (.int (x3 + 1))] [] h1 q): qE d 162 51 [some (.ref r0), some (.int x1), some (.int x2), some (.int x3)] [] h q := by
  refine qe_aload_n c162_51 rfl ?_
  refine qe_ldc_w (x := 36288) c162_52 qo162 qI12_471 ?_
  refine qe_virtual (b := r0) (as := [.int 36288]) (r := []) (v := none) (h2 := h1) c162_55 qo162 qK12_458 rfl rfl rfl (by rw [qo175]; exact e2) (Nat.le_of_ble_eq_true rfl) e3 ?_
  refine qe_iinc (y := (x3 + 1)) (ls2 := [some (.ref r0), some (.int x1), some (.int x2), some (.int (x3 + 1))]) c162_58 rfl (Nat.le_of_ble_eq_true rfl) rfl rfl ?_
  refine qe_goto (t := 46) c162_61 rfl ?_
  exact kk
theorem b162_64 {d : Nat} {h : qH} {r0 : Nat} {x1 : Int32} {x2 : Int32} {x3 : Int32} {fs1 : List Value} {h1 : qH} {z3 : Int64}  (e2 : h.2.2 r0 = some (.inr (12, fs1))) (e4 : qCall d 163 [.ref r0, .int 36288] h ((some (.long z3)), h1)) : qE d 162 64 [some (.ref r0), some (.int x1), some (.int x2), some (.int x3)] [] h (some (.long z3), h1) := by
  refine qe_aload_n c162_64 rfl ?_
  refine qe_ldc_w (x := 36288) c162_65 qo162 qI12_471 ?_
  refine qe_virtual (b := r0) (as := [.int 36288]) (r := []) (v := (some (.long z3))) (h2 := h1) c162_68 qo162 qK12_405 rfl rfl rfl (by rw [qo163]; exact e2) (Nat.le_of_ble_eq_true rfl) e4 ?_
  exact qe_lret c162_71 qr162
theorem b163_0 {d : Nat} {q : Option Value × qH} {h : qH} {r0 : Nat} {x1 : Int32}   (kk : qE d 163 5 [some (.ref r0), some (.int x1), some (.long 0), none, some (.int 0)] [] h q): qE d 163 0 [some (.ref r0), some (.int x1), none, none, none] [] h q := by
  refine qe_lconst (x := 0) c163_0 (by decide) ?_
  refine qe_lstore_n (ls2 := [some (.ref r0), some (.int x1), some (.long 0), none, none]) c163_1 (Nat.le_of_ble_eq_true rfl) rfl ?_
  refine qe_iconst (x := 0) c163_2 (by decide) ?_
  refine qe_istore (ls2 := [some (.ref r0), some (.int x1), some (.long 0), none, some (.int 0)]) c163_3 (Nat.le_of_ble_eq_true rfl) rfl ?_
  exact kk
theorem b163_5F {d : Nat} {q : Option Value × qH} {h : qH} {r0 : Nat} {x1 : Int32} {l2 : Int64} {x4 : Int32} {fs1 : List Value} {y3 : Int32}  (e2 : h.2.2 r0 = some (.inr (12, fs1))) (e4 : fs1[3]? = some (.int y3)) (e5 : ¬ ((y3 : Int32) ≤ x4)) (kk : qE d 163 14 [some (.ref r0), some (.int x1), some (.long l2), none, some (.int x4)] [] h q): qE d 163 5 [some (.ref r0), some (.int x1), some (.long l2), none, some (.int x4)] [] h q := by
  refine qe_iload c163_5 rfl ?_
  refine qe_aload_n c163_7 rfl ?_
  refine qe_getfield c163_8 qo163 qF12_186 e2 e4 ?_
  refine qe_icmp_ge_F (t := 56) c163_11 rfl e5 ?_
  exact kk
theorem b163_5T {d : Nat} {q : Option Value × qH} {h : qH} {r0 : Nat} {x1 : Int32} {l2 : Int64} {x4 : Int32} {fs1 : List Value} {y3 : Int32}  (e2 : h.2.2 r0 = some (.inr (12, fs1))) (e4 : fs1[3]? = some (.int y3)) (e5 : (y3 : Int32) ≤ x4) (kk : qE d 163 56 [some (.ref r0), some (.int x1), some (.long l2), none, some (.int x4)] [] h q): qE d 163 5 [some (.ref r0), some (.int x1), some (.long l2), none, some (.int x4)] [] h q := by
  refine qe_iload c163_5 rfl ?_
  refine qe_aload_n c163_7 rfl ?_
  refine qe_getfield c163_8 qo163 qF12_186 e2 e4 ?_
  refine qe_icmp_ge_T (t := 56) c163_11 rfl e5 ?_
  exact kk
theorem b163_14F {d : Nat} {q : Option Value × qH} {h : qH} {r0 : Nat} {x1 : Int32} {l2 : Int64} {x4 : Int32} {fs1 : List Value} {y3 : Nat} {n5 : Nat} {f6 : Nat → Int32}  (e2 : h.2.2 r0 = some (.inr (12, fs1))) (e4 : fs1[10]? = some (.ref y3)) (e7 : h.2.2 y3 = some (.inl (0, n5, .inl f6))) (e8 : 0 ≤ (((x1 + 51) + x4) : Int32).toInt ∧ (((x1 + 51) + x4) : Int32).toInt < (n5 : Nat)) (e9 : ((f6 (((x1 + 51) + x4) : Int32).toNatClampNeg) : Int32) = 1) (kk : qE d 163 31 [some (.ref r0), some (.int x1), some (.long l2), none, some (.int x4)] [.long l2] h q): qE d 163 14 [some (.ref r0), some (.int x1), some (.long l2), none, some (.int x4)] [] h q := by
  refine qe_lload_n c163_14 rfl ?_
  refine qe_aload_n c163_15 rfl ?_
  refine qe_getfield c163_16 qo163 qF12_14 e2 e4 ?_
  refine qe_iload_n c163_19 rfl ?_
  refine qe_bipush (x := 51) c163_20 (by decide) ?_
  refine qe_iadd c163_22 ?_
  refine qe_iload c163_23 rfl ?_
  refine qe_iadd c163_25 ?_
  refine qe_iaload c163_26 e7 e8 ?_
  refine qe_iconst (x := 1) c163_27 (by decide) ?_
  refine qe_icmp_ne_F (t := 47) c163_28 rfl e9 ?_
  exact kk
theorem b163_14T {d : Nat} {q : Option Value × qH} {h : qH} {r0 : Nat} {x1 : Int32} {l2 : Int64} {x4 : Int32} {fs1 : List Value} {y3 : Nat} {n5 : Nat} {f6 : Nat → Int32}  (e2 : h.2.2 r0 = some (.inr (12, fs1))) (e4 : fs1[10]? = some (.ref y3)) (e7 : h.2.2 y3 = some (.inl (0, n5, .inl f6))) (e8 : 0 ≤ (((x1 + 51) + x4) : Int32).toInt ∧ (((x1 + 51) + x4) : Int32).toInt < (n5 : Nat)) (e9 : ¬ (((f6 (((x1 + 51) + x4) : Int32).toNatClampNeg) : Int32) = 1)) (kk : qE d 163 47 [some (.ref r0), some (.int x1), some (.long l2), none, some (.int x4)] [.long l2] h q): qE d 163 14 [some (.ref r0), some (.int x1), some (.long l2), none, some (.int x4)] [] h q := by
  refine qe_lload_n c163_14 rfl ?_
  refine qe_aload_n c163_15 rfl ?_
  refine qe_getfield c163_16 qo163 qF12_14 e2 e4 ?_
  refine qe_iload_n c163_19 rfl ?_
  refine qe_bipush (x := 51) c163_20 (by decide) ?_
  refine qe_iadd c163_22 ?_
  refine qe_iload c163_23 rfl ?_
  refine qe_iadd c163_25 ?_
  refine qe_iaload c163_26 e7 e8 ?_
  refine qe_iconst (x := 1) c163_27 (by decide) ?_
  refine qe_icmp_ne_T (t := 47) c163_28 rfl e9 ?_
  exact kk
theorem b163_31 {d : Nat} {q : Option Value × qH} {h : qH} {r0 : Nat} {x1 : Int32} {l2 : Int64} {x4 : Int32} {ls0 : Int64} {fs1 : List Value} {y3 : Nat} {n5 : Nat} {f6 : Nat → Int32}  (e2 : h.2.2 r0 = some (.inr (12, fs1))) (e4 : fs1[10]? = some (.ref y3)) (e7 : h.2.2 y3 = some (.inl (0, n5, .inl f6))) (e8 : 0 ≤ (((x1 + 59) + x4) : Int32).toInt ∧ (((x1 + 59) + x4) : Int32).toInt < (n5 : Nat)) (kk : qE d 163 48 [some (.ref r0), some (.int x1), some (.long l2), none, some (.int x4)] [.long ((f6 (((x1 + 59) + x4) : Int32).toNatClampNeg) : Int32).toInt64, .long ls0] h q): qE d 163 31 [some (.ref r0), some (.int x1), some (.long l2), none, some (.int x4)] [.long ls0] h q := by
  refine qe_aload_n c163_31 rfl ?_
  refine qe_getfield c163_32 qo163 qF12_14 e2 e4 ?_
  refine qe_iload_n c163_35 rfl ?_
  refine qe_bipush (x := 59) c163_36 (by decide) ?_
  refine qe_iadd c163_38 ?_
  refine qe_iload c163_39 rfl ?_
  refine qe_iadd c163_41 ?_
  refine qe_iaload c163_42 e7 e8 ?_
  refine qe_i2l c163_43 ?_
  refine qe_goto (t := 48) c163_44 rfl ?_
  exact kk
theorem b163_47 {d : Nat} {q : Option Value × qH} {h : qH} {r0 : Nat} {x1 : Int32} {l2 : Int64} {x4 : Int32} {ls0 : Int64}   (kk : qE d 163 48 [some (.ref r0), some (.int x1), some (.long l2), none, some (.int x4)] [.long 0, .long ls0] h q): qE d 163 47 [some (.ref r0), some (.int x1), some (.long l2), none, some (.int x4)] [.long ls0] h q := by
  refine qe_lconst (x := 0) c163_47 (by decide) ?_
  exact kk
theorem b163_48 {d : Nat} {q : Option Value × qH} {h : qH} {r0 : Nat} {x1 : Int32} {l2 : Int64} {x4 : Int32} {ls0 : Int64} {ls1 : Int64}   (kk : qE d 163 5 [some (.ref r0), some (.int x1), some (.long (ls0 + ls1)), none, some (.int (x4 + 1))] [] h q): qE d 163 48 [some (.ref r0), some (.int x1), some (.long l2), none, some (.int x4)] [.long ls1, .long ls0] h q := by
  refine qe_ladd c163_48 ?_
  refine qe_lstore_n (ls2 := [some (.ref r0), some (.int x1), some (.long (ls0 + ls1)), none, some (.int x4)]) c163_49 (Nat.le_of_ble_eq_true rfl) rfl ?_
  refine qe_iinc (y := (x4 + 1)) (ls2 := [some (.ref r0), some (.int x1), some (.long (ls0 + ls1)), none, some (.int (x4 + 1))]) c163_50 rfl (Nat.le_of_ble_eq_true rfl) rfl rfl ?_
  refine qe_goto (t := 5) c163_53 rfl ?_
  exact kk
theorem b163_56 {d : Nat} {h : qH} {r0 : Nat} {x1 : Int32} {l2 : Int64} {x4 : Int32}   : qE d 163 56 [some (.ref r0), some (.int x1), some (.long l2), none, some (.int x4)] [] h (some (.long l2), h) := by
  refine qe_lload_n c163_56 rfl ?_
  exact qe_lret c163_57 qr163
theorem b164_0 {d : Nat} {q : Option Value × qH} {h : qH} {r0 : Nat} {x1 : Int32}   (kk : qE d 164 4 [some (.ref r0), some (.int x1), some (.int 0), some (.int 0)] [] h q): qE d 164 0 [some (.ref r0), some (.int x1), none, none] [] h q := by
  refine qe_iconst (x := 0) c164_0 (by decide) ?_
  refine qe_istore_n (ls2 := [some (.ref r0), some (.int x1), some (.int 0), none]) c164_1 (Nat.le_of_ble_eq_true rfl) rfl ?_
  refine qe_iconst (x := 0) c164_2 (by decide) ?_
  refine qe_istore_n (ls2 := [some (.ref r0), some (.int x1), some (.int 0), some (.int 0)]) c164_3 (Nat.le_of_ble_eq_true rfl) rfl ?_
  exact kk
theorem b164_4F {d : Nat} {q : Option Value × qH} {h : qH} {r0 : Nat} {x1 : Int32} {x2 : Int32} {x3 : Int32} {fs1 : List Value} {y3 : Int32}  (e2 : h.2.2 r0 = some (.inr (12, fs1))) (e4 : fs1[3]? = some (.int y3)) (e5 : ¬ ((y3 : Int32) ≤ x3)) (kk : qE d 164 12 [some (.ref r0), some (.int x1), some (.int x2), some (.int x3)] [] h q): qE d 164 4 [some (.ref r0), some (.int x1), some (.int x2), some (.int x3)] [] h q := by
  refine qe_iload_n c164_4 rfl ?_
  refine qe_aload_n c164_5 rfl ?_
  refine qe_getfield c164_6 qo164 qF12_186 e2 e4 ?_
  refine qe_icmp_ge_F (t := 34) c164_9 rfl e5 ?_
  exact kk
theorem b164_4T {d : Nat} {q : Option Value × qH} {h : qH} {r0 : Nat} {x1 : Int32} {x2 : Int32} {x3 : Int32} {fs1 : List Value} {y3 : Int32}  (e2 : h.2.2 r0 = some (.inr (12, fs1))) (e4 : fs1[3]? = some (.int y3)) (e5 : (y3 : Int32) ≤ x3) (kk : qE d 164 34 [some (.ref r0), some (.int x1), some (.int x2), some (.int x3)] [] h q): qE d 164 4 [some (.ref r0), some (.int x1), some (.int x2), some (.int x3)] [] h q := by
  refine qe_iload_n c164_4 rfl ?_
  refine qe_aload_n c164_5 rfl ?_
  refine qe_getfield c164_6 qo164 qF12_186 e2 e4 ?_
  refine qe_icmp_ge_T (t := 34) c164_9 rfl e5 ?_
  exact kk
theorem b164_12 {d : Nat} {q : Option Value × qH} {h : qH} {r0 : Nat} {x1 : Int32} {x2 : Int32} {x3 : Int32} {fs1 : List Value} {y3 : Nat} {n5 : Nat} {f6 : Nat → Int32}  (e2 : h.2.2 r0 = some (.inr (12, fs1))) (e4 : fs1[10]? = some (.ref y3)) (e7 : h.2.2 y3 = some (.inl (0, n5, .inl f6))) (e8 : 0 ≤ (((x1 + 51) + x3) : Int32).toInt ∧ (((x1 + 51) + x3) : Int32).toInt < (n5 : Nat)) (kk : qE d 164 4 [some (.ref r0), some (.int x1), some (.int (x2 ||| ((f6 (((x1 + 51) + x3) : Int32).toNatClampNeg) <<< (x3 &&& 31)))), some (.int (x3 + 1))] [] h q): qE d 164 12 [some (.ref r0), some (.int x1), some (.int x2), some (.int x3)] [] h q := by
  refine qe_iload_n c164_12 rfl ?_
  refine qe_aload_n c164_13 rfl ?_
  refine qe_getfield c164_14 qo164 qF12_14 e2 e4 ?_
  refine qe_iload_n c164_17 rfl ?_
  refine qe_bipush (x := 51) c164_18 (by decide) ?_
  refine qe_iadd c164_20 ?_
  refine qe_iload_n c164_21 rfl ?_
  refine qe_iadd c164_22 ?_
  refine qe_iaload c164_23 e7 e8 ?_
  refine qe_iload_n c164_24 rfl ?_
  refine qe_ishl c164_25 ?_
  refine qe_ior c164_26 ?_
  refine qe_istore_n (ls2 := [some (.ref r0), some (.int x1), some (.int (x2 ||| ((f6 (((x1 + 51) + x3) : Int32).toNatClampNeg) <<< (x3 &&& 31)))), some (.int x3)]) c164_27 (Nat.le_of_ble_eq_true rfl) rfl ?_
  refine qe_iinc (y := (x3 + 1)) (ls2 := [some (.ref r0), some (.int x1), some (.int (x2 ||| ((f6 (((x1 + 51) + x3) : Int32).toNatClampNeg) <<< (x3 &&& 31)))), some (.int (x3 + 1))]) c164_28 rfl (Nat.le_of_ble_eq_true rfl) rfl rfl ?_
  refine qe_goto (t := 4) c164_31 rfl ?_
  exact kk
theorem b164_34 {d : Nat} {h : qH} {r0 : Nat} {x1 : Int32} {x2 : Int32} {x3 : Int32}   : qE d 164 34 [some (.ref r0), some (.int x1), some (.int x2), some (.int x3)] [] h (some (.int x2), h) := by
  refine qe_iload_n c164_34 rfl ?_
  exact qe_iret c164_35 qr164
theorem b165_0F {d : Nat} {q : Option Value × qH} {h : qH} {r0 : Nat} {x1 : Int32} {x2 : Int32} {o3 : Option Value} {o4 : Option Value} {fs1 : List Value} {h1 : qH} {z3 : Int32} {fs5 : List Value} {h2 : qH} {z7 : Int32}  (e2 : h.2.2 r0 = some (.inr (12, fs1))) (e4 : qCall d 148 [.ref r0, .int x1, .int x2] h ((some (.int z3)), h1)) (e6 : h1.2.2 r0 = some (.inr (12, fs5))) (e8 : qCall d 146 [.ref r0, .int x1, .int x2] h1 ((some (.int z7)), h2)) (e9 : ¬ ((z7 : Int32) ≤ z3)) (kk : qE d 165 15 [some (.ref r0), some (.int x1), some (.int x2), o3, o4] [] h2 q): qE d 165 0 [some (.ref r0), some (.int x1), some (.int x2), o3, o4] [] h q := by
  refine qe_aload_n c165_0 rfl ?_
  refine qe_iload_n c165_1 rfl ?_
  refine qe_iload_n c165_2 rfl ?_
  refine qe_virtual (b := r0) (as := [.int x1, .int x2]) (r := []) (v := (some (.int z3))) (h2 := h1) c165_3 qo165 qK12_239 rfl rfl rfl (by rw [qo148]; exact e2) (Nat.le_of_ble_eq_true rfl) e4 ?_
  refine qe_aload_n c165_6 rfl ?_
  refine qe_iload_n c165_7 rfl ?_
  refine qe_iload_n c165_8 rfl ?_
  refine qe_virtual (b := r0) (as := [.int x1, .int x2]) (r := [.int z3]) (v := (some (.int z7))) (h2 := h2) c165_9 qo165 qK12_242 rfl rfl rfl (by rw [qo146]; exact e6) (Nat.le_of_ble_eq_true rfl) e8 ?_
  refine qe_icmp_ge_F (t := 115) c165_12 rfl e9 ?_
  exact kk
theorem b165_0T {d : Nat} {q : Option Value × qH} {h : qH} {r0 : Nat} {x1 : Int32} {x2 : Int32} {o3 : Option Value} {o4 : Option Value} {fs1 : List Value} {h1 : qH} {z3 : Int32} {fs5 : List Value} {h2 : qH} {z7 : Int32}  (e2 : h.2.2 r0 = some (.inr (12, fs1))) (e4 : qCall d 148 [.ref r0, .int x1, .int x2] h ((some (.int z3)), h1)) (e6 : h1.2.2 r0 = some (.inr (12, fs5))) (e8 : qCall d 146 [.ref r0, .int x1, .int x2] h1 ((some (.int z7)), h2)) (e9 : (z7 : Int32) ≤ z3) (kk : qE d 165 115 [some (.ref r0), some (.int x1), some (.int x2), o3, o4] [] h2 q): qE d 165 0 [some (.ref r0), some (.int x1), some (.int x2), o3, o4] [] h q := by
  refine qe_aload_n c165_0 rfl ?_
  refine qe_iload_n c165_1 rfl ?_
  refine qe_iload_n c165_2 rfl ?_
  refine qe_virtual (b := r0) (as := [.int x1, .int x2]) (r := []) (v := (some (.int z3))) (h2 := h1) c165_3 qo165 qK12_239 rfl rfl rfl (by rw [qo148]; exact e2) (Nat.le_of_ble_eq_true rfl) e4 ?_
  refine qe_aload_n c165_6 rfl ?_
  refine qe_iload_n c165_7 rfl ?_
  refine qe_iload_n c165_8 rfl ?_
  refine qe_virtual (b := r0) (as := [.int x1, .int x2]) (r := [.int z3]) (v := (some (.int z7))) (h2 := h2) c165_9 qo165 qK12_242 rfl rfl rfl (by rw [qo146]; exact e6) (Nat.le_of_ble_eq_true rfl) e8 ?_
  refine qe_icmp_ge_T (t := 115) c165_12 rfl e9 ?_
  exact kk
theorem b165_15 {d : Nat} {q : Option Value × qH} {h : qH} {r0 : Nat} {x1 : Int32} {x2 : Int32} {o3 : Option Value} {o4 : Option Value}   (kk : qE d 165 20 [some (.ref r0), some (.int x1), some (.int x2), some (.int (-1)), some (.int 0)] [] h q): qE d 165 15 [some (.ref r0), some (.int x1), some (.int x2), o3, o4] [] h q := by
  refine qe_iconst (x := (-1)) c165_15 (by decide) ?_
  refine qe_istore_n (ls2 := [some (.ref r0), some (.int x1), some (.int x2), some (.int (-1)), o4]) c165_16 (Nat.le_of_ble_eq_true rfl) rfl ?_
  refine qe_iconst (x := 0) c165_17 (by decide) ?_
  refine qe_istore (ls2 := [some (.ref r0), some (.int x1), some (.int x2), some (.int (-1)), some (.int 0)]) c165_18 (Nat.le_of_ble_eq_true rfl) rfl ?_
  exact kk
theorem b165_20F {d : Nat} {q : Option Value × qH} {h : qH} {r0 : Nat} {x1 : Int32} {x2 : Int32} {x3 : Int32} {x4 : Int32} {fs1 : List Value} {y3 : Int32}  (e2 : h.2.2 r0 = some (.inr (12, fs1))) (e4 : fs1[3]? = some (.int y3)) (e5 : ¬ ((y3 : Int32) ≤ x4)) (kk : qE d 165 29 [some (.ref r0), some (.int x1), some (.int x2), some (.int x3), some (.int x4)] [] h q): qE d 165 20 [some (.ref r0), some (.int x1), some (.int x2), some (.int x3), some (.int x4)] [] h q := by
  refine qe_iload c165_20 rfl ?_
  refine qe_aload_n c165_22 rfl ?_
  refine qe_getfield c165_23 qo165 qF12_186 e2 e4 ?_
  refine qe_icmp_ge_F (t := 80) c165_26 rfl e5 ?_
  exact kk
theorem b165_20T {d : Nat} {q : Option Value × qH} {h : qH} {r0 : Nat} {x1 : Int32} {x2 : Int32} {x3 : Int32} {x4 : Int32} {fs1 : List Value} {y3 : Int32}  (e2 : h.2.2 r0 = some (.inr (12, fs1))) (e4 : fs1[3]? = some (.int y3)) (e5 : (y3 : Int32) ≤ x4) (kk : qE d 165 80 [some (.ref r0), some (.int x1), some (.int x2), some (.int x3), some (.int x4)] [] h q): qE d 165 20 [some (.ref r0), some (.int x1), some (.int x2), some (.int x3), some (.int x4)] [] h q := by
  refine qe_iload c165_20 rfl ?_
  refine qe_aload_n c165_22 rfl ?_
  refine qe_getfield c165_23 qo165 qF12_186 e2 e4 ?_
  refine qe_icmp_ge_T (t := 80) c165_26 rfl e5 ?_
  exact kk
theorem b165_29F {d : Nat} {q : Option Value × qH} {h : qH} {r0 : Nat} {x1 : Int32} {x2 : Int32} {x3 : Int32} {x4 : Int32} {fs1 : List Value} {y3 : Nat} {n5 : Nat} {f6 : Nat → Int32}  (e2 : h.2.2 r0 = some (.inr (12, fs1))) (e4 : fs1[24]? = some (.ref y3)) (e7 : h.2.2 y3 = some (.inl (0, n5, .inl f6))) (e8 : 0 ≤ (x4 : Int32).toInt ∧ (x4 : Int32).toInt < (n5 : Nat)) (e9 : ((f6 (x4 : Int32).toNatClampNeg) : Int32) = x2) (kk : qE d 165 40 [some (.ref r0), some (.int x1), some (.int x2), some (.int x3), some (.int x4)] [] h q): qE d 165 29 [some (.ref r0), some (.int x1), some (.int x2), some (.int x3), some (.int x4)] [] h q := by
  refine qe_aload_n c165_29 rfl ?_
  refine qe_getfield c165_30 qo165 qF12_58 e2 e4 ?_
  refine qe_iload c165_33 rfl ?_
  refine qe_iaload c165_35 e7 e8 ?_
  refine qe_iload_n c165_36 rfl ?_
  refine qe_icmp_ne_F (t := 74) c165_37 rfl e9 ?_
  exact kk
theorem b165_29T {d : Nat} {q : Option Value × qH} {h : qH} {r0 : Nat} {x1 : Int32} {x2 : Int32} {x3 : Int32} {x4 : Int32} {fs1 : List Value} {y3 : Nat} {n5 : Nat} {f6 : Nat → Int32}  (e2 : h.2.2 r0 = some (.inr (12, fs1))) (e4 : fs1[24]? = some (.ref y3)) (e7 : h.2.2 y3 = some (.inl (0, n5, .inl f6))) (e8 : 0 ≤ (x4 : Int32).toInt ∧ (x4 : Int32).toInt < (n5 : Nat)) (e9 : ¬ (((f6 (x4 : Int32).toNatClampNeg) : Int32) = x2)) (kk : qE d 165 74 [some (.ref r0), some (.int x1), some (.int x2), some (.int x3), some (.int x4)] [] h q): qE d 165 29 [some (.ref r0), some (.int x1), some (.int x2), some (.int x3), some (.int x4)] [] h q := by
  refine qe_aload_n c165_29 rfl ?_
  refine qe_getfield c165_30 qo165 qF12_58 e2 e4 ?_
  refine qe_iload c165_33 rfl ?_
  refine qe_iaload c165_35 e7 e8 ?_
  refine qe_iload_n c165_36 rfl ?_
  refine qe_icmp_ne_T (t := 74) c165_37 rfl e9 ?_
  exact kk
theorem b165_40F {d : Nat} {q : Option Value × qH} {h : qH} {r0 : Nat} {x1 : Int32} {x2 : Int32} {x3 : Int32} {x4 : Int32} {fs1 : List Value} {h1 : qH} {z3 : Int32}  (e2 : h.2.2 r0 = some (.inr (12, fs1))) (e4 : qCall d 145 [.ref r0, .int x1, .int x4] h ((some (.int z3)), h1)) (e5 : ¬ ((z3 : Int32) ≤ 0)) (kk : qE d 165 50 [some (.ref r0), some (.int x1), some (.int x2), some (.int x3), some (.int x4)] [] h1 q): qE d 165 40 [some (.ref r0), some (.int x1), some (.int x2), some (.int x3), some (.int x4)] [] h q := by
  refine qe_aload_n c165_40 rfl ?_
  refine qe_iload_n c165_41 rfl ?_
  refine qe_iload c165_42 rfl ?_
  refine qe_virtual (b := r0) (as := [.int x1, .int x4]) (r := []) (v := (some (.int z3))) (h2 := h1) c165_44 qo165 qK12_235 rfl rfl rfl (by rw [qo145]; exact e2) (Nat.le_of_ble_eq_true rfl) e4 ?_
  refine qe_if_le_F (t := 74) c165_47 rfl e5 ?_
  exact kk
theorem b165_40T {d : Nat} {q : Option Value × qH} {h : qH} {r0 : Nat} {x1 : Int32} {x2 : Int32} {x3 : Int32} {x4 : Int32} {fs1 : List Value} {h1 : qH} {z3 : Int32}  (e2 : h.2.2 r0 = some (.inr (12, fs1))) (e4 : qCall d 145 [.ref r0, .int x1, .int x4] h ((some (.int z3)), h1)) (e5 : (z3 : Int32) ≤ 0) (kk : qE d 165 74 [some (.ref r0), some (.int x1), some (.int x2), some (.int x3), some (.int x4)] [] h1 q): qE d 165 40 [some (.ref r0), some (.int x1), some (.int x2), some (.int x3), some (.int x4)] [] h q := by
  refine qe_aload_n c165_40 rfl ?_
  refine qe_iload_n c165_41 rfl ?_
  refine qe_iload c165_42 rfl ?_
  refine qe_virtual (b := r0) (as := [.int x1, .int x4]) (r := []) (v := (some (.int z3))) (h2 := h1) c165_44 qo165 qK12_235 rfl rfl rfl (by rw [qo145]; exact e2) (Nat.le_of_ble_eq_true rfl) e4 ?_
  refine qe_if_le_T (t := 74) c165_47 rfl e5 ?_
  exact kk
theorem b165_50F {d : Nat} {q : Option Value × qH} {h : qH} {r0 : Nat} {x1 : Int32} {x2 : Int32} {x3 : Int32} {x4 : Int32}  (e1 : ¬ ((x3 : Int32) = (-1))) (kk : qE d 165 55 [some (.ref r0), some (.int x1), some (.int x2), some (.int x3), some (.int x4)] [] h q): qE d 165 50 [some (.ref r0), some (.int x1), some (.int x2), some (.int x3), some (.int x4)] [] h q := by
  refine qe_iload_n c165_50 rfl ?_
  refine qe_iconst (x := (-1)) c165_51 (by decide) ?_
  refine qe_icmp_eq_F (t := 71) c165_52 rfl e1 ?_
  exact kk
theorem b165_50T {d : Nat} {q : Option Value × qH} {h : qH} {r0 : Nat} {x1 : Int32} {x2 : Int32} {x3 : Int32} {x4 : Int32}  (e1 : (x3 : Int32) = (-1)) (kk : qE d 165 71 [some (.ref r0), some (.int x1), some (.int x2), some (.int x3), some (.int x4)] [] h q): qE d 165 50 [some (.ref r0), some (.int x1), some (.int x2), some (.int x3), some (.int x4)] [] h q := by
  refine qe_iload_n c165_50 rfl ?_
  refine qe_iconst (x := (-1)) c165_51 (by decide) ?_
  refine qe_icmp_eq_T (t := 71) c165_52 rfl e1 ?_
  exact kk
theorem b165_55F {d : Nat} {q : Option Value × qH} {h : qH} {r0 : Nat} {x1 : Int32} {x2 : Int32} {x3 : Int32} {x4 : Int32} {fs1 : List Value} {y3 : Nat} {n5 : Nat} {f6 : Nat → Int32}  (e2 : h.2.2 r0 = some (.inr (12, fs1))) (e4 : fs1[12]? = some (.ref y3)) (e7 : h.2.2 y3 = some (.inl (0, n5, .inl f6))) (e8 : 0 ≤ (x4 : Int32).toInt ∧ (x4 : Int32).toInt < (n5 : Nat)) (e10 : 0 ≤ (x3 : Int32).toInt ∧ (x3 : Int32).toInt < (n5 : Nat)) (e11 : ¬ (((f6 (x3 : Int32).toNatClampNeg) : Int32) < (f6 (x4 : Int32).toNatClampNeg))) (kk : qE d 165 71 [some (.ref r0), some (.int x1), some (.int x2), some (.int x3), some (.int x4)] [] h q): qE d 165 55 [some (.ref r0), some (.int x1), some (.int x2), some (.int x3), some (.int x4)] [] h q := by
  refine qe_aload_n c165_55 rfl ?_
  refine qe_getfield c165_56 qo165 qF12_21 e2 e4 ?_
  refine qe_iload c165_59 rfl ?_
  refine qe_iaload c165_61 e7 e8 ?_
  refine qe_aload_n c165_62 rfl ?_
  refine qe_getfield c165_63 qo165 qF12_21 e2 e4 ?_
  refine qe_iload_n c165_66 rfl ?_
  refine qe_iaload c165_67 e7 e10 ?_
  refine qe_icmp_gt_F (t := 74) c165_68 rfl e11 ?_
  exact kk
theorem b165_55T {d : Nat} {q : Option Value × qH} {h : qH} {r0 : Nat} {x1 : Int32} {x2 : Int32} {x3 : Int32} {x4 : Int32} {fs1 : List Value} {y3 : Nat} {n5 : Nat} {f6 : Nat → Int32}  (e2 : h.2.2 r0 = some (.inr (12, fs1))) (e4 : fs1[12]? = some (.ref y3)) (e7 : h.2.2 y3 = some (.inl (0, n5, .inl f6))) (e8 : 0 ≤ (x4 : Int32).toInt ∧ (x4 : Int32).toInt < (n5 : Nat)) (e10 : 0 ≤ (x3 : Int32).toInt ∧ (x3 : Int32).toInt < (n5 : Nat)) (e11 : ((f6 (x3 : Int32).toNatClampNeg) : Int32) < (f6 (x4 : Int32).toNatClampNeg)) (kk : qE d 165 74 [some (.ref r0), some (.int x1), some (.int x2), some (.int x3), some (.int x4)] [] h q): qE d 165 55 [some (.ref r0), some (.int x1), some (.int x2), some (.int x3), some (.int x4)] [] h q := by
  refine qe_aload_n c165_55 rfl ?_
  refine qe_getfield c165_56 qo165 qF12_21 e2 e4 ?_
  refine qe_iload c165_59 rfl ?_
  refine qe_iaload c165_61 e7 e8 ?_
  refine qe_aload_n c165_62 rfl ?_
  refine qe_getfield c165_63 qo165 qF12_21 e2 e4 ?_
  refine qe_iload_n c165_66 rfl ?_
  refine qe_iaload c165_67 e7 e10 ?_
  refine qe_icmp_gt_T (t := 74) c165_68 rfl e11 ?_
  exact kk
theorem b165_71 {d : Nat} {q : Option Value × qH} {h : qH} {r0 : Nat} {x1 : Int32} {x2 : Int32} {x3 : Int32} {x4 : Int32}   (kk : qE d 165 74 [some (.ref r0), some (.int x1), some (.int x2), some (.int x4), some (.int x4)] [] h q): qE d 165 71 [some (.ref r0), some (.int x1), some (.int x2), some (.int x3), some (.int x4)] [] h q := by
  refine qe_iload c165_71 rfl ?_
  refine qe_istore_n (ls2 := [some (.ref r0), some (.int x1), some (.int x2), some (.int x4), some (.int x4)]) c165_73 (Nat.le_of_ble_eq_true rfl) rfl ?_
  exact kk
theorem b165_74 {d : Nat} {q : Option Value × qH} {h : qH} {r0 : Nat} {x1 : Int32} {x2 : Int32} {x3 : Int32} {x4 : Int32}   (kk : qE d 165 20 [some (.ref r0), some (.int x1), some (.int x2), some (.int x3), some (.int (x4 + 1))] [] h q): qE d 165 74 [some (.ref r0), some (.int x1), some (.int x2), some (.int x3), some (.int x4)] [] h q := by
  refine qe_iinc (y := (x4 + 1)) (ls2 := [some (.ref r0), some (.int x1), some (.int x2), some (.int x3), some (.int (x4 + 1))]) c165_74 rfl (Nat.le_of_ble_eq_true rfl) rfl rfl ?_
  refine qe_goto (t := 20) c165_77 rfl ?_
  exact kk
theorem b165_80 {d : Nat} {q : Option Value × qH} {h : qH} {r0 : Nat} {x1 : Int32} {x2 : Int32} {x3 : Int32} {x4 : Int32} {fs1 : List Value} {y3 : Nat} {n5 : Nat} {f6 : Nat → Int32} {h1 : qH} {fs10 : List Value} {y12 : Nat} {y14 : Int32} {n16 : Nat} {f17 : Nat → Int32} {h2 : qH} {fs21 : List Value} {y23 : Int32} {h3 : qH}  (e2 : h.2.2 r0 = some (.inr (12, fs1))) (e4 : fs1[10]? = some (.ref y3)) (e7 : h.2.2 y3 = some (.inl (0, n5, .inl f6))) (e8 : 0 ≤ (((x1 + 51) + x3) : Int32).toInt ∧ (((x1 + 51) + x3) : Int32).toInt < (n5 : Nat)) (e9 : qset h y3 (.inl (0, n5, .inl (upd f6 ((((x1 + 51) + x3) : Int32).toNatClampNeg) 1))) = h1) (e11 : h1.2.2 r0 = some (.inr (12, fs10))) (e13 : fs10[30]? = some (.ref y12)) (e15 : fs10[29]? = some (.int y14)) (e18 : h1.2.2 y12 = some (.inl (0, n16, .inl f17))) (e19 : 0 ≤ (y14 : Int32).toInt ∧ (y14 : Int32).toInt < (n16 : Nat)) (e20 : qset h1 y12 (.inl (0, n16, .inl (upd f17 ((y14 : Int32).toNatClampNeg) x3))) = h2) (e22 : h2.2.2 r0 = some (.inr (12, fs21))) (e24 : fs21[29]? = some (.int y23)) (e25 : 29 < fs21.length) (e26 : qset h2 r0 (.inr (12, fs21.set 29 (.int (y23 + 1)))) = h3) (kk : qE d 165 0 [some (.ref r0), some (.int x1), some (.int x2), some (.int x3), some (.int x4)] [] h3 q): qE d 165 80 [some (.ref r0), some (.int x1), some (.int x2), some (.int x3), some (.int x4)] [] h q := by
  refine qe_aload_n c165_80 rfl ?_
  refine qe_getfield c165_81 qo165 qF12_14 e2 e4 ?_
  refine qe_iload_n c165_84 rfl ?_
  refine qe_bipush (x := 51) c165_85 (by decide) ?_
  refine qe_iadd c165_87 ?_
  refine qe_iload_n c165_88 rfl ?_
  refine qe_iadd c165_89 ?_
  refine qe_iconst (x := 1) c165_90 (by decide) ?_
  refine qe_iastore c165_91 e7 e8 ?_
  rw [e9]
  refine qe_aload_n c165_92 rfl ?_
  refine qe_getfield c165_93 qo165 qF12_74 e11 e13 ?_
  refine qe_aload_n c165_96 rfl ?_
  refine qe_getfield c165_97 qo165 qF12_245 e11 e15 ?_
  refine qe_iload_n c165_100 rfl ?_
  refine qe_iastore c165_101 e18 e19 ?_
  rw [e20]
  refine qe_aload_n c165_102 rfl ?_
  refine qe_dup c165_103 rfl ?_
  refine qe_getfield c165_104 qo165 qF12_245 e22 e24 ?_
  refine qe_iconst (x := 1) c165_107 (by decide) ?_
  refine qe_iadd c165_108 ?_
  refine qe_putfield c165_109 qo165 qF12_245 qz12_29 e22 e25 (by rw [qy12_29]; rfl) ?_
  rw [e26]
  refine qe_goto (t := 0) c165_112 rfl ?_
  exact kk
theorem b165_115 {d : Nat} {h : qH} {r0 : Nat} {x1 : Int32} {x2 : Int32} {o3 : Option Value} {o4 : Option Value}   : qE d 165 115 [some (.ref r0), some (.int x1), some (.int x2), o3, o4] [] h (none, h) := by
  exact qe_vret c165_115 qr165
theorem b166_0F {d : Nat} {q : Option Value × qH} {h : qH} {r0 : Nat} {x1 : Int32} {x2 : Int32} {x3 : Int32} {h1 : qH} {z1 : Int32}  (e2 : qCall d 126 [.int x1] h ((some (.int z1)), h1)) (e3 : ¬ ((z1 : Int32) = 0)) (kk : qE d 166 7 [some (.ref r0), some (.int x1), some (.int x2), some (.int x3)] [] h1 q): qE d 166 0 [some (.ref r0), some (.int x1), some (.int x2), some (.int x3)] [] h q := by
  refine qe_iload_n c166_0 rfl ?_
  refine qe_static (as := [.int x1]) (r := []) (v := (some (.int z1))) (h2 := h1) c166_1 qo166 (by decide) qK12_205 rfl rfl rfl (Nat.le_of_ble_eq_true rfl) e2 ?_
  refine qe_if_eq_F (t := 46) c166_4 rfl e3 ?_
  exact kk
theorem b166_0T {d : Nat} {q : Option Value × qH} {h : qH} {r0 : Nat} {x1 : Int32} {x2 : Int32} {x3 : Int32} {h1 : qH} {z1 : Int32}  (e2 : qCall d 126 [.int x1] h ((some (.int z1)), h1)) (e3 : (z1 : Int32) = 0) (kk : qE d 166 46 [some (.ref r0), some (.int x1), some (.int x2), some (.int x3)] [] h1 q): qE d 166 0 [some (.ref r0), some (.int x1), some (.int x2), some (.int x3)] [] h q := by
  refine qe_iload_n c166_0 rfl ?_
  refine qe_static (as := [.int x1]) (r := []) (v := (some (.int z1))) (h2 := h1) c166_1 qo166 (by decide) qK12_205 rfl rfl rfl (Nat.le_of_ble_eq_true rfl) e2 ?_
  refine qe_if_eq_T (t := 46) c166_4 rfl e3 ?_
  exact kk
theorem b166_7F {d : Nat} {q : Option Value × qH} {h : qH} {r0 : Nat} {x1 : Int32} {x2 : Int32} {x3 : Int32} {fs1 : List Value} {h1 : qH} {z3 : Int32}  (e2 : h.2.2 r0 = some (.inr (12, fs1))) (e4 : qCall d 136 [.ref r0, .int x2] h ((some (.int z3)), h1)) (e5 : ¬ ((z3 : Int32) = 0)) (kk : qE d 166 15 [some (.ref r0), some (.int x1), some (.int x2), some (.int x3)] [] h1 q): qE d 166 7 [some (.ref r0), some (.int x1), some (.int x2), some (.int x3)] [] h q := by
  refine qe_aload_n c166_7 rfl ?_
  refine qe_iload_n c166_8 rfl ?_
  refine qe_virtual (b := r0) (as := [.int x2]) (r := []) (v := (some (.int z3))) (h2 := h1) c166_9 qo166 qK12_224 rfl rfl rfl (by rw [qo136]; exact e2) (Nat.le_of_ble_eq_true rfl) e4 ?_
  refine qe_if_eq_F (t := 46) c166_12 rfl e5 ?_
  exact kk
theorem b166_7T {d : Nat} {q : Option Value × qH} {h : qH} {r0 : Nat} {x1 : Int32} {x2 : Int32} {x3 : Int32} {fs1 : List Value} {h1 : qH} {z3 : Int32}  (e2 : h.2.2 r0 = some (.inr (12, fs1))) (e4 : qCall d 136 [.ref r0, .int x2] h ((some (.int z3)), h1)) (e5 : (z3 : Int32) = 0) (kk : qE d 166 46 [some (.ref r0), some (.int x1), some (.int x2), some (.int x3)] [] h1 q): qE d 166 7 [some (.ref r0), some (.int x1), some (.int x2), some (.int x3)] [] h q := by
  refine qe_aload_n c166_7 rfl ?_
  refine qe_iload_n c166_8 rfl ?_
  refine qe_virtual (b := r0) (as := [.int x2]) (r := []) (v := (some (.int z3))) (h2 := h1) c166_9 qo166 qK12_224 rfl rfl rfl (by rw [qo136]; exact e2) (Nat.le_of_ble_eq_true rfl) e4 ?_
  refine qe_if_eq_T (t := 46) c166_12 rfl e5 ?_
  exact kk
theorem b166_15F {d : Nat} {q : Option Value × qH} {h : qH} {r0 : Nat} {x1 : Int32} {x2 : Int32} {x3 : Int32} {h1 : qH} {z1 : Int32}  (e2 : qCall d 143 [.long (x3 : Int32).toInt64, .long 0, .long 2] h ((some (.int z1)), h1)) (e3 : ¬ ((z1 : Int32) = 0)) (kk : qE d 166 27 [some (.ref r0), some (.int x1), some (.int x2), some (.int x3)] [] h1 q): qE d 166 15 [some (.ref r0), some (.int x1), some (.int x2), some (.int x3)] [] h q := by
  refine qe_iload_n c166_15 rfl ?_
  refine qe_i2l c166_16 ?_
  refine qe_lconst (x := 0) c166_17 (by decide) ?_
  refine qe_ldc2_w (x := 2) c166_18 qo166 qJ12_477 ?_
  refine qe_static (as := [.long (x3 : Int32).toInt64, .long 0, .long 2]) (r := []) (v := (some (.int z1))) (h2 := h1) c166_21 qo166 (by decide) qK12_190 rfl rfl rfl (Nat.le_of_ble_eq_true rfl) e2 ?_
  refine qe_if_eq_F (t := 46) c166_24 rfl e3 ?_
  exact kk
theorem b166_15T {d : Nat} {q : Option Value × qH} {h : qH} {r0 : Nat} {x1 : Int32} {x2 : Int32} {x3 : Int32} {h1 : qH} {z1 : Int32}  (e2 : qCall d 143 [.long (x3 : Int32).toInt64, .long 0, .long 2] h ((some (.int z1)), h1)) (e3 : (z1 : Int32) = 0) (kk : qE d 166 46 [some (.ref r0), some (.int x1), some (.int x2), some (.int x3)] [] h1 q): qE d 166 15 [some (.ref r0), some (.int x1), some (.int x2), some (.int x3)] [] h q := by
  refine qe_iload_n c166_15 rfl ?_
  refine qe_i2l c166_16 ?_
  refine qe_lconst (x := 0) c166_17 (by decide) ?_
  refine qe_ldc2_w (x := 2) c166_18 qo166 qJ12_477 ?_
  refine qe_static (as := [.long (x3 : Int32).toInt64, .long 0, .long 2]) (r := []) (v := (some (.int z1))) (h2 := h1) c166_21 qo166 (by decide) qK12_190 rfl rfl rfl (Nat.le_of_ble_eq_true rfl) e2 ?_
  refine qe_if_eq_T (t := 46) c166_24 rfl e3 ?_
  exact kk
theorem b166_27F {d : Nat} {q : Option Value × qH} {h : qH} {r0 : Nat} {x1 : Int32} {x2 : Int32} {x3 : Int32} {fs1 : List Value} {y3 : Nat} {n5 : Nat} {f6 : Nat → Int32}  (e2 : h.2.2 r0 = some (.inr (12, fs1))) (e4 : fs1[70]? = some (.ref y3)) (e7 : h.2.2 y3 = some (.inl (0, n5, .inl f6))) (e8 : 0 ≤ (x1 : Int32).toInt ∧ (x1 : Int32).toInt < (n5 : Nat)) (e9 : ¬ (((f6 (x1 : Int32).toNatClampNeg) : Int32) = (-1))) (kk : qE d 166 37 [some (.ref r0), some (.int x1), some (.int x2), some (.int x3)] [] h q): qE d 166 27 [some (.ref r0), some (.int x1), some (.int x2), some (.int x3)] [] h q := by
  refine qe_aload_n c166_27 rfl ?_
  refine qe_getfield c166_28 qo166 qF12_155 e2 e4 ?_
  refine qe_iload_n c166_31 rfl ?_
  refine qe_iaload c166_32 e7 e8 ?_
  refine qe_iconst (x := (-1)) c166_33 (by decide) ?_
  refine qe_icmp_eq_F (t := 46) c166_34 rfl e9 ?_
  exact kk
theorem b166_27T {d : Nat} {q : Option Value × qH} {h : qH} {r0 : Nat} {x1 : Int32} {x2 : Int32} {x3 : Int32} {fs1 : List Value} {y3 : Nat} {n5 : Nat} {f6 : Nat → Int32}  (e2 : h.2.2 r0 = some (.inr (12, fs1))) (e4 : fs1[70]? = some (.ref y3)) (e7 : h.2.2 y3 = some (.inl (0, n5, .inl f6))) (e8 : 0 ≤ (x1 : Int32).toInt ∧ (x1 : Int32).toInt < (n5 : Nat)) (e9 : ((f6 (x1 : Int32).toNatClampNeg) : Int32) = (-1)) (kk : qE d 166 46 [some (.ref r0), some (.int x1), some (.int x2), some (.int x3)] [] h q): qE d 166 27 [some (.ref r0), some (.int x1), some (.int x2), some (.int x3)] [] h q := by
  refine qe_aload_n c166_27 rfl ?_
  refine qe_getfield c166_28 qo166 qF12_155 e2 e4 ?_
  refine qe_iload_n c166_31 rfl ?_
  refine qe_iaload c166_32 e7 e8 ?_
  refine qe_iconst (x := (-1)) c166_33 (by decide) ?_
  refine qe_icmp_eq_T (t := 46) c166_34 rfl e9 ?_
  exact kk
theorem b166_37F {d : Nat} {q : Option Value × qH} {h : qH} {r0 : Nat} {x1 : Int32} {x2 : Int32} {x3 : Int32} {fs1 : List Value} {h1 : qH} {z3 : Int32}  (e2 : h.2.2 r0 = some (.inr (12, fs1))) (e4 : qCall d 167 [.ref r0, .int x1, .int x2] h ((some (.int z3)), h1)) (e5 : (z3 : Int32) = 0) (kk : qE d 166 46 [some (.ref r0), some (.int x1), some (.int x2), some (.int x3)] [] h1 q): qE d 166 37 [some (.ref r0), some (.int x1), some (.int x2), some (.int x3)] [] h q := by
  refine qe_aload_n c166_37 rfl ?_
  refine qe_iload_n c166_38 rfl ?_
  refine qe_iload_n c166_39 rfl ?_
  refine qe_virtual (b := r0) (as := [.int x1, .int x2]) (r := []) (v := (some (.int z3))) (h2 := h1) c166_40 qo166 qK12_479 rfl rfl rfl (by rw [qo167]; exact e2) (Nat.le_of_ble_eq_true rfl) e4 ?_
  refine qe_if_ne_F (t := 50) c166_43 rfl e5 ?_
  exact kk
theorem b166_37T {d : Nat} {q : Option Value × qH} {h : qH} {r0 : Nat} {x1 : Int32} {x2 : Int32} {x3 : Int32} {fs1 : List Value} {h1 : qH} {z3 : Int32}  (e2 : h.2.2 r0 = some (.inr (12, fs1))) (e4 : qCall d 167 [.ref r0, .int x1, .int x2] h ((some (.int z3)), h1)) (e5 : ¬ ((z3 : Int32) = 0)) (kk : qE d 166 50 [some (.ref r0), some (.int x1), some (.int x2), some (.int x3)] [] h1 q): qE d 166 37 [some (.ref r0), some (.int x1), some (.int x2), some (.int x3)] [] h q := by
  refine qe_aload_n c166_37 rfl ?_
  refine qe_iload_n c166_38 rfl ?_
  refine qe_iload_n c166_39 rfl ?_
  refine qe_virtual (b := r0) (as := [.int x1, .int x2]) (r := []) (v := (some (.int z3))) (h2 := h1) c166_40 qo166 qK12_479 rfl rfl rfl (by rw [qo167]; exact e2) (Nat.le_of_ble_eq_true rfl) e4 ?_
  refine qe_if_ne_T (t := 50) c166_43 rfl e5 ?_
  exact kk
theorem b166_46 {d : Nat} {h : qH} {r0 : Nat} {x1 : Int32} {x2 : Int32} {x3 : Int32}   : qE d 166 46 [some (.ref r0), some (.int x1), some (.int x2), some (.int x3)] [] h (some (.long (-1)), h) := by
  refine qe_ldc2_w (x := (-1)) c166_46 qo166 qJ12_482 ?_
  exact qe_lret c166_49 qr166
theorem b166_50F {d : Nat} {q : Option Value × qH} {h : qH} {r0 : Nat} {x1 : Int32} {x2 : Int32} {x3 : Int32}  (e1 : (x3 : Int32) = 0) (kk : qE d 166 54 [some (.ref r0), some (.int x1), some (.int x2), some (.int x3)] [] h q): qE d 166 50 [some (.ref r0), some (.int x1), some (.int x2), some (.int x3)] [] h q := by
  refine qe_iload_n c166_50 rfl ?_
  refine qe_if_ne_F (t := 81) c166_51 rfl e1 ?_
  exact kk
theorem b166_50T {d : Nat} {q : Option Value × qH} {h : qH} {r0 : Nat} {x1 : Int32} {x2 : Int32} {x3 : Int32}  (e1 : ¬ ((x3 : Int32) = 0)) (kk : qE d 166 81 [some (.ref r0), some (.int x1), some (.int x2), some (.int x3)] [] h q): qE d 166 50 [some (.ref r0), some (.int x1), some (.int x2), some (.int x3)] [] h q := by
  refine qe_iload_n c166_50 rfl ?_
  refine qe_if_ne_T (t := 81) c166_51 rfl e1 ?_
  exact kk
theorem b166_54F {d : Nat} {q : Option Value × qH} {h : qH} {r0 : Nat} {x1 : Int32} {x2 : Int32} {x3 : Int32} {fs1 : List Value} {y3 : Nat} {y5 : Nat} {n7 : Nat} {f8 : Nat → Int32} {n11 : Nat} {f12 : Nat → Int32}  (e2 : h.2.2 r0 = some (.inr (12, fs1))) (e4 : fs1[64]? = some (.ref y3)) (e6 : fs1[70]? = some (.ref y5)) (e9 : h.2.2 y5 = some (.inl (0, n7, .inl f8))) (e10 : 0 ≤ (x1 : Int32).toInt ∧ (x1 : Int32).toInt < (n7 : Nat)) (e13 : h.2.2 y3 = some (.inl (1, n11, .inl f12))) (e14 : 0 ≤ (((14 * (f8 (x1 : Int32).toNatClampNeg)) + x2) : Int32).toInt ∧ (((14 * (f8 (x1 : Int32).toNatClampNeg)) + x2) : Int32).toInt < (n11 : Nat)) (e15 : ¬ (((f12 (((14 * (f8 (x1 : Int32).toNatClampNeg)) + x2) : Int32).toNatClampNeg) : Int32) = 0)) (kk : qE d 166 73 [some (.ref r0), some (.int x1), some (.int x2), some (.int x3)] [] h q): qE d 166 54 [some (.ref r0), some (.int x1), some (.int x2), some (.int x3)] [] h q := by
  refine qe_aload_n c166_54 rfl ?_
  refine qe_getfield c166_55 qo166 qF12_137 e2 e4 ?_
  refine qe_bipush (x := 14) c166_58 (by decide) ?_
  refine qe_aload_n c166_60 rfl ?_
  refine qe_getfield c166_61 qo166 qF12_155 e2 e6 ?_
  refine qe_iload_n c166_64 rfl ?_
  refine qe_iaload c166_65 e9 e10 ?_
  refine qe_imul c166_66 ?_
  refine qe_iload_n c166_67 rfl ?_
  refine qe_iadd c166_68 ?_
  refine qe_zaload c166_69 e13 e14 ?_
  refine qe_if_eq_F (t := 77) c166_70 rfl e15 ?_
  exact kk
theorem b166_54T {d : Nat} {q : Option Value × qH} {h : qH} {r0 : Nat} {x1 : Int32} {x2 : Int32} {x3 : Int32} {fs1 : List Value} {y3 : Nat} {y5 : Nat} {n7 : Nat} {f8 : Nat → Int32} {n11 : Nat} {f12 : Nat → Int32}  (e2 : h.2.2 r0 = some (.inr (12, fs1))) (e4 : fs1[64]? = some (.ref y3)) (e6 : fs1[70]? = some (.ref y5)) (e9 : h.2.2 y5 = some (.inl (0, n7, .inl f8))) (e10 : 0 ≤ (x1 : Int32).toInt ∧ (x1 : Int32).toInt < (n7 : Nat)) (e13 : h.2.2 y3 = some (.inl (1, n11, .inl f12))) (e14 : 0 ≤ (((14 * (f8 (x1 : Int32).toNatClampNeg)) + x2) : Int32).toInt ∧ (((14 * (f8 (x1 : Int32).toNatClampNeg)) + x2) : Int32).toInt < (n11 : Nat)) (e15 : ((f12 (((14 * (f8 (x1 : Int32).toNatClampNeg)) + x2) : Int32).toNatClampNeg) : Int32) = 0) (kk : qE d 166 77 [some (.ref r0), some (.int x1), some (.int x2), some (.int x3)] [] h q): qE d 166 54 [some (.ref r0), some (.int x1), some (.int x2), some (.int x3)] [] h q := by
  refine qe_aload_n c166_54 rfl ?_
  refine qe_getfield c166_55 qo166 qF12_137 e2 e4 ?_
  refine qe_bipush (x := 14) c166_58 (by decide) ?_
  refine qe_aload_n c166_60 rfl ?_
  refine qe_getfield c166_61 qo166 qF12_155 e2 e6 ?_
  refine qe_iload_n c166_64 rfl ?_
  refine qe_iaload c166_65 e9 e10 ?_
  refine qe_imul c166_66 ?_
  refine qe_iload_n c166_67 rfl ?_
  refine qe_iadd c166_68 ?_
  refine qe_zaload c166_69 e13 e14 ?_
  refine qe_if_eq_T (t := 77) c166_70 rfl e15 ?_
  exact kk
theorem b166_73 {d : Nat} {q : Option Value × qH} {h : qH} {r0 : Nat} {x1 : Int32} {x2 : Int32} {x3 : Int32}   (kk : qE d 166 113 [some (.ref r0), some (.int x1), some (.int x2), some (.int x3)] [.long 1] h q): qE d 166 73 [some (.ref r0), some (.int x1), some (.int x2), some (.int x3)] [] h q := by
  refine qe_lconst (x := 1) c166_73 (by decide) ?_
  refine qe_goto (t := 113) c166_74 rfl ?_
  exact kk
theorem b166_77 {d : Nat} {q : Option Value × qH} {h : qH} {r0 : Nat} {x1 : Int32} {x2 : Int32} {x3 : Int32}   (kk : qE d 166 113 [some (.ref r0), some (.int x1), some (.int x2), some (.int x3)] [.long 0] h q): qE d 166 77 [some (.ref r0), some (.int x1), some (.int x2), some (.int x3)] [] h q := by
  refine qe_lconst (x := 0) c166_77 (by decide) ?_
  refine qe_goto (t := 113) c166_78 rfl ?_
  exact kk
theorem b166_81F {d : Nat} {q : Option Value × qH} {h : qH} {r0 : Nat} {x1 : Int32} {x2 : Int32} {x3 : Int32}  (e1 : (x3 : Int32) = 1) (kk : qE d 166 86 [some (.ref r0), some (.int x1), some (.int x2), some (.int x3)] [] h q): qE d 166 81 [some (.ref r0), some (.int x1), some (.int x2), some (.int x3)] [] h q := by
  refine qe_iload_n c166_81 rfl ?_
  refine qe_iconst (x := 1) c166_82 (by decide) ?_
  refine qe_icmp_ne_F (t := 106) c166_83 rfl e1 ?_
  exact kk
theorem b166_81T {d : Nat} {q : Option Value × qH} {h : qH} {r0 : Nat} {x1 : Int32} {x2 : Int32} {x3 : Int32}  (e1 : ¬ ((x3 : Int32) = 1)) (kk : qE d 166 106 [some (.ref r0), some (.int x1), some (.int x2), some (.int x3)] [] h q): qE d 166 81 [some (.ref r0), some (.int x1), some (.int x2), some (.int x3)] [] h q := by
  refine qe_iload_n c166_81 rfl ?_
  refine qe_iconst (x := 1) c166_82 (by decide) ?_
  refine qe_icmp_ne_T (t := 106) c166_83 rfl e1 ?_
  exact kk
theorem b166_86 {d : Nat} {q : Option Value × qH} {h : qH} {r0 : Nat} {x1 : Int32} {x2 : Int32} {x3 : Int32} {fs1 : List Value} {y3 : Nat} {y5 : Nat} {n7 : Nat} {f8 : Nat → Int32} {n11 : Nat} {f12 : Nat → Int32}  (e2 : h.2.2 r0 = some (.inr (12, fs1))) (e4 : fs1[63]? = some (.ref y3)) (e6 : fs1[70]? = some (.ref y5)) (e9 : h.2.2 y5 = some (.inl (0, n7, .inl f8))) (e10 : 0 ≤ (x1 : Int32).toInt ∧ (x1 : Int32).toInt < (n7 : Nat)) (e13 : h.2.2 y3 = some (.inl (0, n11, .inl f12))) (e14 : 0 ≤ (((14 * (f8 (x1 : Int32).toNatClampNeg)) + x2) : Int32).toInt ∧ (((14 * (f8 (x1 : Int32).toNatClampNeg)) + x2) : Int32).toInt < (n11 : Nat)) (kk : qE d 166 113 [some (.ref r0), some (.int x1), some (.int x2), some (.int x3)] [.long ((f12 (((14 * (f8 (x1 : Int32).toNatClampNeg)) + x2) : Int32).toNatClampNeg) : Int32).toInt64] h q): qE d 166 86 [some (.ref r0), some (.int x1), some (.int x2), some (.int x3)] [] h q := by
  refine qe_aload_n c166_86 rfl ?_
  refine qe_getfield c166_87 qo166 qF12_134 e2 e4 ?_
  refine qe_bipush (x := 14) c166_90 (by decide) ?_
  refine qe_aload_n c166_92 rfl ?_
  refine qe_getfield c166_93 qo166 qF12_155 e2 e6 ?_
  refine qe_iload_n c166_96 rfl ?_
  refine qe_iaload c166_97 e9 e10 ?_
  refine qe_imul c166_98 ?_
  refine qe_iload_n c166_99 rfl ?_
  refine qe_iadd c166_100 ?_
  refine qe_iaload c166_101 e13 e14 ?_
  refine qe_i2l c166_102 ?_
  refine qe_goto (t := 113) c166_103 rfl ?_
  exact kk
theorem b166_106 {d : Nat} {q : Option Value × qH} {h : qH} {r0 : Nat} {x1 : Int32} {x2 : Int32} {x3 : Int32} {fs1 : List Value} {y3 : Nat} {n5 : Nat} {f6 : Nat → Int32}  (e2 : h.2.2 r0 = some (.inr (12, fs1))) (e4 : fs1[70]? = some (.ref y3)) (e7 : h.2.2 y3 = some (.inl (0, n5, .inl f6))) (e8 : 0 ≤ (x1 : Int32).toInt ∧ (x1 : Int32).toInt < (n5 : Nat)) (kk : qE d 166 113 [some (.ref r0), some (.int x1), some (.int x2), some (.int x3)] [.long ((f6 (x1 : Int32).toNatClampNeg) : Int32).toInt64] h q): qE d 166 106 [some (.ref r0), some (.int x1), some (.int x2), some (.int x3)] [] h q := by
  refine qe_aload_n c166_106 rfl ?_
  refine qe_getfield c166_107 qo166 qF12_155 e2 e4 ?_
  refine qe_iload_n c166_110 rfl ?_
  refine qe_iaload c166_111 e7 e8 ?_
  refine qe_i2l c166_112 ?_
  exact kk
theorem b166_113 {d : Nat} {h : qH} {r0 : Nat} {x1 : Int32} {x2 : Int32} {x3 : Int32} {ls0 : Int64}   : qE d 166 113 [some (.ref r0), some (.int x1), some (.int x2), some (.int x3)] [.long ls0] h (some (.long ls0), h) := by
  exact qe_lret c166_113 qr166
theorem b167_0F {d : Nat} {q : Option Value × qH} {h : qH} {r0 : Nat} {x1 : Int32} {x2 : Int32} {fs1 : List Value} {y3 : Nat} {y5 : Nat} {n7 : Nat} {f8 : Nat → Int32} {n11 : Nat} {f12 : Nat → Int32}  (e2 : h.2.2 r0 = some (.inr (12, fs1))) (e4 : fs1[11]? = some (.ref y3)) (e6 : fs1[13]? = some (.ref y5)) (e9 : h.2.2 y5 = some (.inl (0, n7, .inl f8))) (e10 : 0 ≤ (x2 : Int32).toInt ∧ (x2 : Int32).toInt < (n7 : Nat)) (e13 : h.2.2 y3 = some (.inl (0, n11, .inl f12))) (e14 : 0 ≤ ((f8 (x2 : Int32).toNatClampNeg) : Int32).toInt ∧ ((f8 (x2 : Int32).toNatClampNeg) : Int32).toInt < (n11 : Nat)) (e15 : ¬ (((f12 ((f8 (x2 : Int32).toNatClampNeg) : Int32).toNatClampNeg) : Int32) = x1)) (kk : qE d 167 15 [some (.ref r0), some (.int x1), some (.int x2)] [] h q): qE d 167 0 [some (.ref r0), some (.int x1), some (.int x2)] [] h q := by
  refine qe_aload_n c167_0 rfl ?_
  refine qe_getfield c167_1 qo167 qF12_18 e2 e4 ?_
  refine qe_aload_n c167_4 rfl ?_
  refine qe_getfield c167_5 qo167 qF12_24 e2 e6 ?_
  refine qe_iload_n c167_8 rfl ?_
  refine qe_iaload c167_9 e9 e10 ?_
  refine qe_iaload c167_10 e13 e14 ?_
  refine qe_iload_n c167_11 rfl ?_
  refine qe_icmp_eq_F (t := 30) c167_12 rfl e15 ?_
  exact kk
theorem b167_0T {d : Nat} {q : Option Value × qH} {h : qH} {r0 : Nat} {x1 : Int32} {x2 : Int32} {fs1 : List Value} {y3 : Nat} {y5 : Nat} {n7 : Nat} {f8 : Nat → Int32} {n11 : Nat} {f12 : Nat → Int32}  (e2 : h.2.2 r0 = some (.inr (12, fs1))) (e4 : fs1[11]? = some (.ref y3)) (e6 : fs1[13]? = some (.ref y5)) (e9 : h.2.2 y5 = some (.inl (0, n7, .inl f8))) (e10 : 0 ≤ (x2 : Int32).toInt ∧ (x2 : Int32).toInt < (n7 : Nat)) (e13 : h.2.2 y3 = some (.inl (0, n11, .inl f12))) (e14 : 0 ≤ ((f8 (x2 : Int32).toNatClampNeg) : Int32).toInt ∧ ((f8 (x2 : Int32).toNatClampNeg) : Int32).toInt < (n11 : Nat)) (e15 : ((f12 ((f8 (x2 : Int32).toNatClampNeg) : Int32).toNatClampNeg) : Int32) = x1) (kk : qE d 167 30 [some (.ref r0), some (.int x1), some (.int x2)] [] h q): qE d 167 0 [some (.ref r0), some (.int x1), some (.int x2)] [] h q := by
  refine qe_aload_n c167_0 rfl ?_
  refine qe_getfield c167_1 qo167 qF12_18 e2 e4 ?_
  refine qe_aload_n c167_4 rfl ?_
  refine qe_getfield c167_5 qo167 qF12_24 e2 e6 ?_
  refine qe_iload_n c167_8 rfl ?_
  refine qe_iaload c167_9 e9 e10 ?_
  refine qe_iaload c167_10 e13 e14 ?_
  refine qe_iload_n c167_11 rfl ?_
  refine qe_icmp_eq_T (t := 30) c167_12 rfl e15 ?_
  exact kk
theorem b167_15F {d : Nat} {q : Option Value × qH} {h : qH} {r0 : Nat} {x1 : Int32} {x2 : Int32} {fs1 : List Value} {y3 : Nat} {y5 : Nat} {n7 : Nat} {f8 : Nat → Int32} {n11 : Nat} {f12 : Nat → Int32}  (e2 : h.2.2 r0 = some (.inr (12, fs1))) (e4 : fs1[11]? = some (.ref y3)) (e6 : fs1[14]? = some (.ref y5)) (e9 : h.2.2 y5 = some (.inl (0, n7, .inl f8))) (e10 : 0 ≤ (x2 : Int32).toInt ∧ (x2 : Int32).toInt < (n7 : Nat)) (e13 : h.2.2 y3 = some (.inl (0, n11, .inl f12))) (e14 : 0 ≤ ((f8 (x2 : Int32).toNatClampNeg) : Int32).toInt ∧ ((f8 (x2 : Int32).toNatClampNeg) : Int32).toInt < (n11 : Nat)) (e15 : ((f12 ((f8 (x2 : Int32).toNatClampNeg) : Int32).toNatClampNeg) : Int32) = x1) (kk : qE d 167 30 [some (.ref r0), some (.int x1), some (.int x2)] [] h q): qE d 167 15 [some (.ref r0), some (.int x1), some (.int x2)] [] h q := by
  refine qe_aload_n c167_15 rfl ?_
  refine qe_getfield c167_16 qo167 qF12_18 e2 e4 ?_
  refine qe_aload_n c167_19 rfl ?_
  refine qe_getfield c167_20 qo167 qF12_27 e2 e6 ?_
  refine qe_iload_n c167_23 rfl ?_
  refine qe_iaload c167_24 e9 e10 ?_
  refine qe_iaload c167_25 e13 e14 ?_
  refine qe_iload_n c167_26 rfl ?_
  refine qe_icmp_ne_F (t := 34) c167_27 rfl e15 ?_
  exact kk
theorem b167_15T {d : Nat} {q : Option Value × qH} {h : qH} {r0 : Nat} {x1 : Int32} {x2 : Int32} {fs1 : List Value} {y3 : Nat} {y5 : Nat} {n7 : Nat} {f8 : Nat → Int32} {n11 : Nat} {f12 : Nat → Int32}  (e2 : h.2.2 r0 = some (.inr (12, fs1))) (e4 : fs1[11]? = some (.ref y3)) (e6 : fs1[14]? = some (.ref y5)) (e9 : h.2.2 y5 = some (.inl (0, n7, .inl f8))) (e10 : 0 ≤ (x2 : Int32).toInt ∧ (x2 : Int32).toInt < (n7 : Nat)) (e13 : h.2.2 y3 = some (.inl (0, n11, .inl f12))) (e14 : 0 ≤ ((f8 (x2 : Int32).toNatClampNeg) : Int32).toInt ∧ ((f8 (x2 : Int32).toNatClampNeg) : Int32).toInt < (n11 : Nat)) (e15 : ¬ (((f12 ((f8 (x2 : Int32).toNatClampNeg) : Int32).toNatClampNeg) : Int32) = x1)) (kk : qE d 167 34 [some (.ref r0), some (.int x1), some (.int x2)] [] h q): qE d 167 15 [some (.ref r0), some (.int x1), some (.int x2)] [] h q := by
  refine qe_aload_n c167_15 rfl ?_
  refine qe_getfield c167_16 qo167 qF12_18 e2 e4 ?_
  refine qe_aload_n c167_19 rfl ?_
  refine qe_getfield c167_20 qo167 qF12_27 e2 e6 ?_
  refine qe_iload_n c167_23 rfl ?_
  refine qe_iaload c167_24 e9 e10 ?_
  refine qe_iaload c167_25 e13 e14 ?_
  refine qe_iload_n c167_26 rfl ?_
  refine qe_icmp_ne_T (t := 34) c167_27 rfl e15 ?_
  exact kk
theorem b167_30 {d : Nat} {q : Option Value × qH} {h : qH} {r0 : Nat} {x1 : Int32} {x2 : Int32}   (kk : qE d 167 35 [some (.ref r0), some (.int x1), some (.int x2)] [.int 1] h q): qE d 167 30 [some (.ref r0), some (.int x1), some (.int x2)] [] h q := by
  refine qe_iconst (x := 1) c167_30 (by decide) ?_
  refine qe_goto (t := 35) c167_31 rfl ?_
  exact kk
theorem b167_34 {d : Nat} {q : Option Value × qH} {h : qH} {r0 : Nat} {x1 : Int32} {x2 : Int32}   (kk : qE d 167 35 [some (.ref r0), some (.int x1), some (.int x2)] [.int 0] h q): qE d 167 34 [some (.ref r0), some (.int x1), some (.int x2)] [] h q := by
  refine qe_iconst (x := 0) c167_34 (by decide) ?_
  exact kk
theorem b167_35 {d : Nat} {h : qH} {r0 : Nat} {x1 : Int32} {x2 : Int32} {xs0 : Int32}  (e1 : (xs0 : Int32) = 0 ∨ (xs0 : Int32) = 1) : qE d 167 35 [some (.ref r0), some (.int x1), some (.int x2)] [.int xs0] h (some (.int xs0), h) := by
  exact qe_zret c167_35 qr167 e1
theorem b168_0F {d : Nat} {q : Option Value × qH} {h : qH} {r0 : Nat} {x1 : Int32} {h1 : qH} {z1 : Int32}  (e2 : qCall d 126 [.int x1] h ((some (.int z1)), h1)) (e3 : ¬ ((z1 : Int32) = 0)) (kk : qE d 168 7 [some (.ref r0), some (.int x1), none, none, none, none] [] h1 q): qE d 168 0 [some (.ref r0), some (.int x1), none, none, none, none] [] h q := by
  refine qe_iload_n c168_0 rfl ?_
  refine qe_static (as := [.int x1]) (r := []) (v := (some (.int z1))) (h2 := h1) c168_1 qo168 (by decide) qK12_205 rfl rfl rfl (Nat.le_of_ble_eq_true rfl) e2 ?_
  refine qe_if_eq_F (t := 26) c168_4 rfl e3 ?_
  exact kk
theorem b168_0T {d : Nat} {q : Option Value × qH} {h : qH} {r0 : Nat} {x1 : Int32} {h1 : qH} {z1 : Int32}  (e2 : qCall d 126 [.int x1] h ((some (.int z1)), h1)) (e3 : (z1 : Int32) = 0) (kk : qE d 168 26 [some (.ref r0), some (.int x1), none, none, none, none] [] h1 q): qE d 168 0 [some (.ref r0), some (.int x1), none, none, none, none] [] h q := by
  refine qe_iload_n c168_0 rfl ?_
  refine qe_static (as := [.int x1]) (r := []) (v := (some (.int z1))) (h2 := h1) c168_1 qo168 (by decide) qK12_205 rfl rfl rfl (Nat.le_of_ble_eq_true rfl) e2 ?_
  refine qe_if_eq_T (t := 26) c168_4 rfl e3 ?_
  exact kk
theorem b168_7F {d : Nat} {q : Option Value × qH} {h : qH} {r0 : Nat} {x1 : Int32} {fs1 : List Value} {y3 : Nat} {n5 : Nat} {f6 : Nat → Int32}  (e2 : h.2.2 r0 = some (.inr (12, fs1))) (e4 : fs1[68]? = some (.ref y3)) (e7 : h.2.2 y3 = some (.inl (1, n5, .inl f6))) (e8 : 0 ≤ (x1 : Int32).toInt ∧ (x1 : Int32).toInt < (n5 : Nat)) (e9 : ¬ (((f6 (x1 : Int32).toNatClampNeg) : Int32) = 0)) (kk : qE d 168 16 [some (.ref r0), some (.int x1), none, none, none, none] [] h q): qE d 168 7 [some (.ref r0), some (.int x1), none, none, none, none] [] h q := by
  refine qe_aload_n c168_7 rfl ?_
  refine qe_getfield c168_8 qo168 qF12_149 e2 e4 ?_
  refine qe_iload_n c168_11 rfl ?_
  refine qe_zaload c168_12 e7 e8 ?_
  refine qe_if_eq_F (t := 26) c168_13 rfl e9 ?_
  exact kk
theorem b168_7T {d : Nat} {q : Option Value × qH} {h : qH} {r0 : Nat} {x1 : Int32} {fs1 : List Value} {y3 : Nat} {n5 : Nat} {f6 : Nat → Int32}  (e2 : h.2.2 r0 = some (.inr (12, fs1))) (e4 : fs1[68]? = some (.ref y3)) (e7 : h.2.2 y3 = some (.inl (1, n5, .inl f6))) (e8 : 0 ≤ (x1 : Int32).toInt ∧ (x1 : Int32).toInt < (n5 : Nat)) (e9 : ((f6 (x1 : Int32).toNatClampNeg) : Int32) = 0) (kk : qE d 168 26 [some (.ref r0), some (.int x1), none, none, none, none] [] h q): qE d 168 7 [some (.ref r0), some (.int x1), none, none, none, none] [] h q := by
  refine qe_aload_n c168_7 rfl ?_
  refine qe_getfield c168_8 qo168 qF12_149 e2 e4 ?_
  refine qe_iload_n c168_11 rfl ?_
  refine qe_zaload c168_12 e7 e8 ?_
  refine qe_if_eq_T (t := 26) c168_13 rfl e9 ?_
  exact kk
theorem b168_16F {d : Nat} {q : Option Value × qH} {h : qH} {r0 : Nat} {x1 : Int32} {fs1 : List Value} {y3 : Nat} {n5 : Nat} {f6 : Nat → Int32}  (e2 : h.2.2 r0 = some (.inr (12, fs1))) (e4 : fs1[70]? = some (.ref y3)) (e7 : h.2.2 y3 = some (.inl (0, n5, .inl f6))) (e8 : 0 ≤ (x1 : Int32).toInt ∧ (x1 : Int32).toInt < (n5 : Nat)) (e9 : ((f6 (x1 : Int32).toNatClampNeg) : Int32) = (-1)) (kk : qE d 168 26 [some (.ref r0), some (.int x1), none, none, none, none] [] h q): qE d 168 16 [some (.ref r0), some (.int x1), none, none, none, none] [] h q := by
  refine qe_aload_n c168_16 rfl ?_
  refine qe_getfield c168_17 qo168 qF12_155 e2 e4 ?_
  refine qe_iload_n c168_20 rfl ?_
  refine qe_iaload c168_21 e7 e8 ?_
  refine qe_iconst (x := (-1)) c168_22 (by decide) ?_
  refine qe_icmp_ne_F (t := 28) c168_23 rfl e9 ?_
  exact kk
theorem b168_16T {d : Nat} {q : Option Value × qH} {h : qH} {r0 : Nat} {x1 : Int32} {fs1 : List Value} {y3 : Nat} {n5 : Nat} {f6 : Nat → Int32}  (e2 : h.2.2 r0 = some (.inr (12, fs1))) (e4 : fs1[70]? = some (.ref y3)) (e7 : h.2.2 y3 = some (.inl (0, n5, .inl f6))) (e8 : 0 ≤ (x1 : Int32).toInt ∧ (x1 : Int32).toInt < (n5 : Nat)) (e9 : ¬ (((f6 (x1 : Int32).toNatClampNeg) : Int32) = (-1))) (kk : qE d 168 28 [some (.ref r0), some (.int x1), none, none, none, none] [] h q): qE d 168 16 [some (.ref r0), some (.int x1), none, none, none, none] [] h q := by
  refine qe_aload_n c168_16 rfl ?_
  refine qe_getfield c168_17 qo168 qF12_155 e2 e4 ?_
  refine qe_iload_n c168_20 rfl ?_
  refine qe_iaload c168_21 e7 e8 ?_
  refine qe_iconst (x := (-1)) c168_22 (by decide) ?_
  refine qe_icmp_ne_T (t := 28) c168_23 rfl e9 ?_
  exact kk
theorem b168_26 {d : Nat} {h : qH} {r0 : Nat} {x1 : Int32}   : qE d 168 26 [some (.ref r0), some (.int x1), none, none, none, none] [] h (some (.int (-1)), h) := by
  refine qe_iconst (x := (-1)) c168_26 (by decide) ?_
  exact qe_iret c168_27 qr168
theorem b168_28 {d : Nat} {q : Option Value × qH} {h : qH} {r0 : Nat} {x1 : Int32} {fs1 : List Value} {y3 : Nat} {n5 : Nat} {f6 : Nat → Int32}  (e2 : h.2.2 r0 = some (.inr (12, fs1))) (e4 : fs1[69]? = some (.ref y3)) (e7 : h.2.2 y3 = some (.inl (0, n5, .inl f6))) (e8 : 0 ≤ (x1 : Int32).toInt ∧ (x1 : Int32).toInt < (n5 : Nat)) (kk : qE d 168 35 [some (.ref r0), some (.int x1), some (.int (f6 (x1 : Int32).toNatClampNeg)), none, none, none] [] h q): qE d 168 28 [some (.ref r0), some (.int x1), none, none, none, none] [] h q := by
  refine qe_aload_n c168_28 rfl ?_
  refine qe_getfield c168_29 qo168 qF12_152 e2 e4 ?_
  refine qe_iload_n c168_32 rfl ?_
  refine qe_iaload c168_33 e7 e8 ?_
  refine qe_istore_n (ls2 := [some (.ref r0), some (.int x1), some (.int (f6 (x1 : Int32).toNatClampNeg)), none, none, none]) c168_34 (Nat.le_of_ble_eq_true rfl) rfl ?_
  exact kk
theorem b168_35F {d : Nat} {q : Option Value × qH} {h : qH} {r0 : Nat} {x1 : Int32} {x2 : Int32} {o3 : Option Value} {o4 : Option Value} {o5 : Option Value} {fs1 : List Value} {y3 : Int32}  (e2 : h.2.2 r0 = some (.inr (12, fs1))) (e4 : fs1[2]? = some (.int y3)) (e5 : ¬ ((y3 : Int32) ≤ x2)) (kk : qE d 168 43 [some (.ref r0), some (.int x1), some (.int x2), o3, o4, o5] [] h q): qE d 168 35 [some (.ref r0), some (.int x1), some (.int x2), o3, o4, o5] [] h q := by
  refine qe_iload_n c168_35 rfl ?_
  refine qe_aload_n c168_36 rfl ?_
  refine qe_getfield c168_37 qo168 qF12_202 e2 e4 ?_
  refine qe_icmp_ge_F (t := 131) c168_40 rfl e5 ?_
  exact kk
theorem b168_35T {d : Nat} {q : Option Value × qH} {h : qH} {r0 : Nat} {x1 : Int32} {x2 : Int32} {o3 : Option Value} {o4 : Option Value} {o5 : Option Value} {fs1 : List Value} {y3 : Int32}  (e2 : h.2.2 r0 = some (.inr (12, fs1))) (e4 : fs1[2]? = some (.int y3)) (e5 : (y3 : Int32) ≤ x2) (kk : qE d 168 131 [some (.ref r0), some (.int x1), some (.int x2), o3, o4, o5] [] h q): qE d 168 35 [some (.ref r0), some (.int x1), some (.int x2), o3, o4, o5] [] h q := by
  refine qe_iload_n c168_35 rfl ?_
  refine qe_aload_n c168_36 rfl ?_
  refine qe_getfield c168_37 qo168 qF12_202 e2 e4 ?_
  refine qe_icmp_ge_T (t := 131) c168_40 rfl e5 ?_
  exact kk
theorem b168_43 {d : Nat} {q : Option Value × qH} {h : qH} {r0 : Nat} {x1 : Int32} {x2 : Int32} {o3 : Option Value} {o4 : Option Value} {o5 : Option Value}   (kk : qE d 168 45 [some (.ref r0), some (.int x1), some (.int x2), some (.int 0), o4, o5] [] h q): qE d 168 43 [some (.ref r0), some (.int x1), some (.int x2), o3, o4, o5] [] h q := by
  refine qe_iconst (x := 0) c168_43 (by decide) ?_
  refine qe_istore_n (ls2 := [some (.ref r0), some (.int x1), some (.int x2), some (.int 0), o4, o5]) c168_44 (Nat.le_of_ble_eq_true rfl) rfl ?_
  exact kk
theorem b168_45F {d : Nat} {q : Option Value × qH} {h : qH} {r0 : Nat} {x1 : Int32} {x2 : Int32} {x3 : Int32} {o4 : Option Value} {o5 : Option Value} {fs1 : List Value} {y3 : Int32}  (e2 : h.2.2 r0 = some (.inr (12, fs1))) (e4 : fs1[4]? = some (.int y3)) (e5 : ¬ ((y3 : Int32) ≤ x3)) (kk : qE d 168 53 [some (.ref r0), some (.int x1), some (.int x2), some (.int x3), o4, o5] [] h q): qE d 168 45 [some (.ref r0), some (.int x1), some (.int x2), some (.int x3), o4, o5] [] h q := by
  refine qe_iload_n c168_45 rfl ?_
  refine qe_aload_n c168_46 rfl ?_
  refine qe_getfield c168_47 qo168 qF12_194 e2 e4 ?_
  refine qe_icmp_ge_F (t := 125) c168_50 rfl e5 ?_
  exact kk
theorem b168_45T {d : Nat} {q : Option Value × qH} {h : qH} {r0 : Nat} {x1 : Int32} {x2 : Int32} {x3 : Int32} {o4 : Option Value} {o5 : Option Value} {fs1 : List Value} {y3 : Int32}  (e2 : h.2.2 r0 = some (.inr (12, fs1))) (e4 : fs1[4]? = some (.int y3)) (e5 : (y3 : Int32) ≤ x3) (kk : qE d 168 125 [some (.ref r0), some (.int x1), some (.int x2), some (.int x3), o4, o5] [] h q): qE d 168 45 [some (.ref r0), some (.int x1), some (.int x2), some (.int x3), o4, o5] [] h q := by
  refine qe_iload_n c168_45 rfl ?_
  refine qe_aload_n c168_46 rfl ?_
  refine qe_getfield c168_47 qo168 qF12_194 e2 e4 ?_
  refine qe_icmp_ge_T (t := 125) c168_50 rfl e5 ?_
  exact kk
theorem b168_53F {d : Nat} {q : Option Value × qH} {h : qH} {r0 : Nat} {x1 : Int32} {x2 : Int32} {x3 : Int32} {o4 : Option Value} {o5 : Option Value} {fs1 : List Value} {y3 : Nat} {n5 : Nat} {f6 : Nat → Int32} {h1 : qH} {z9 : Int32}  (e2 : h.2.2 r0 = some (.inr (12, fs1))) (e4 : fs1[70]? = some (.ref y3)) (e7 : h.2.2 y3 = some (.inl (0, n5, .inl f6))) (e8 : 0 ≤ (x1 : Int32).toInt ∧ (x1 : Int32).toInt < (n5 : Nat)) (e10 : qCall d 167 [.ref r0, .int x1, .int x3] h ((some (.int z9)), h1)) (e11 : ¬ ((z9 : Int32) = 0)) (kk : qE d 168 83 [some (.ref r0), some (.int x1), some (.int x2), some (.int x3), some (.int ((14 * x2) + x3)), some (.int ((14 * (f6 (x1 : Int32).toNatClampNeg)) + x3))] [] h1 q): qE d 168 53 [some (.ref r0), some (.int x1), some (.int x2), some (.int x3), o4, o5] [] h q := by
  refine qe_bipush (x := 14) c168_53 (by decide) ?_
  refine qe_iload_n c168_55 rfl ?_
  refine qe_imul c168_56 ?_
  refine qe_iload_n c168_57 rfl ?_
  refine qe_iadd c168_58 ?_
  refine qe_istore (ls2 := [some (.ref r0), some (.int x1), some (.int x2), some (.int x3), some (.int ((14 * x2) + x3)), o5]) c168_59 (Nat.le_of_ble_eq_true rfl) rfl ?_
  refine qe_bipush (x := 14) c168_61 (by decide) ?_
  refine qe_aload_n c168_63 rfl ?_
  refine qe_getfield c168_64 qo168 qF12_155 e2 e4 ?_
  refine qe_iload_n c168_67 rfl ?_
  refine qe_iaload c168_68 e7 e8 ?_
  refine qe_imul c168_69 ?_
  refine qe_iload_n c168_70 rfl ?_
  refine qe_iadd c168_71 ?_
  refine qe_istore (ls2 := [some (.ref r0), some (.int x1), some (.int x2), some (.int x3), some (.int ((14 * x2) + x3)), some (.int ((14 * (f6 (x1 : Int32).toNatClampNeg)) + x3))]) c168_72 (Nat.le_of_ble_eq_true rfl) rfl ?_
  refine qe_aload_n c168_74 rfl ?_
  refine qe_iload_n c168_75 rfl ?_
  refine qe_iload_n c168_76 rfl ?_
  refine qe_virtual (b := r0) (as := [.int x1, .int x3]) (r := []) (v := (some (.int z9))) (h2 := h1) c168_77 qo168 qK12_479 rfl rfl rfl (by rw [qo167]; exact e2) (Nat.le_of_ble_eq_true rfl) e10 ?_
  refine qe_if_eq_F (t := 119) c168_80 rfl e11 ?_
  exact kk
theorem b168_53T {d : Nat} {q : Option Value × qH} {h : qH} {r0 : Nat} {x1 : Int32} {x2 : Int32} {x3 : Int32} {o4 : Option Value} {o5 : Option Value} {fs1 : List Value} {y3 : Nat} {n5 : Nat} {f6 : Nat → Int32} {h1 : qH} {z9 : Int32}  (e2 : h.2.2 r0 = some (.inr (12, fs1))) (e4 : fs1[70]? = some (.ref y3)) (e7 : h.2.2 y3 = some (.inl (0, n5, .inl f6))) (e8 : 0 ≤ (x1 : Int32).toInt ∧ (x1 : Int32).toInt < (n5 : Nat)) (e10 : qCall d 167 [.ref r0, .int x1, .int x3] h ((some (.int z9)), h1)) (e11 : (z9 : Int32) = 0) (kk : qE d 168 119 [some (.ref r0), some (.int x1), some (.int x2), some (.int x3), some (.int ((14 * x2) + x3)), some (.int ((14 * (f6 (x1 : Int32).toNatClampNeg)) + x3))] [] h1 q): qE d 168 53 [some (.ref r0), some (.int x1), some (.int x2), some (.int x3), o4, o5] [] h q := by
  refine qe_bipush (x := 14) c168_53 (by decide) ?_
  refine qe_iload_n c168_55 rfl ?_
  refine qe_imul c168_56 ?_
  refine qe_iload_n c168_57 rfl ?_
  refine qe_iadd c168_58 ?_
  refine qe_istore (ls2 := [some (.ref r0), some (.int x1), some (.int x2), some (.int x3), some (.int ((14 * x2) + x3)), o5]) c168_59 (Nat.le_of_ble_eq_true rfl) rfl ?_
  refine qe_bipush (x := 14) c168_61 (by decide) ?_
  refine qe_aload_n c168_63 rfl ?_
  refine qe_getfield c168_64 qo168 qF12_155 e2 e4 ?_
  refine qe_iload_n c168_67 rfl ?_
  refine qe_iaload c168_68 e7 e8 ?_
  refine qe_imul c168_69 ?_
  refine qe_iload_n c168_70 rfl ?_
  refine qe_iadd c168_71 ?_
  refine qe_istore (ls2 := [some (.ref r0), some (.int x1), some (.int x2), some (.int x3), some (.int ((14 * x2) + x3)), some (.int ((14 * (f6 (x1 : Int32).toNatClampNeg)) + x3))]) c168_72 (Nat.le_of_ble_eq_true rfl) rfl ?_
  refine qe_aload_n c168_74 rfl ?_
  refine qe_iload_n c168_75 rfl ?_
  refine qe_iload_n c168_76 rfl ?_
  refine qe_virtual (b := r0) (as := [.int x1, .int x3]) (r := []) (v := (some (.int z9))) (h2 := h1) c168_77 qo168 qK12_479 rfl rfl rfl (by rw [qo167]; exact e2) (Nat.le_of_ble_eq_true rfl) e10 ?_
  refine qe_if_eq_T (t := 119) c168_80 rfl e11 ?_
  exact kk
theorem b168_83F {d : Nat} {q : Option Value × qH} {h : qH} {r0 : Nat} {x1 : Int32} {x2 : Int32} {x3 : Int32} {x4 : Int32} {x5 : Int32} {fs1 : List Value} {y3 : Nat} {n5 : Nat} {f6 : Nat → Int32}  (e2 : h.2.2 r0 = some (.inr (12, fs1))) (e4 : fs1[64]? = some (.ref y3)) (e7 : h.2.2 y3 = some (.inl (1, n5, .inl f6))) (e8 : 0 ≤ (x4 : Int32).toInt ∧ (x4 : Int32).toInt < (n5 : Nat)) (e10 : 0 ≤ (x5 : Int32).toInt ∧ (x5 : Int32).toInt < (n5 : Nat)) (e11 : ((f6 (x4 : Int32).toNatClampNeg) : Int32) = (f6 (x5 : Int32).toNatClampNeg)) (kk : qE d 168 100 [some (.ref r0), some (.int x1), some (.int x2), some (.int x3), some (.int x4), some (.int x5)] [] h q): qE d 168 83 [some (.ref r0), some (.int x1), some (.int x2), some (.int x3), some (.int x4), some (.int x5)] [] h q := by
  refine qe_aload_n c168_83 rfl ?_
  refine qe_getfield c168_84 qo168 qF12_137 e2 e4 ?_
  refine qe_iload c168_87 rfl ?_
  refine qe_zaload c168_89 e7 e8 ?_
  refine qe_aload_n c168_90 rfl ?_
  refine qe_getfield c168_91 qo168 qF12_137 e2 e4 ?_
  refine qe_iload c168_94 rfl ?_
  refine qe_zaload c168_96 e7 e10 ?_
  refine qe_icmp_ne_F (t := 117) c168_97 rfl e11 ?_
  exact kk
theorem b168_83T {d : Nat} {q : Option Value × qH} {h : qH} {r0 : Nat} {x1 : Int32} {x2 : Int32} {x3 : Int32} {x4 : Int32} {x5 : Int32} {fs1 : List Value} {y3 : Nat} {n5 : Nat} {f6 : Nat → Int32}  (e2 : h.2.2 r0 = some (.inr (12, fs1))) (e4 : fs1[64]? = some (.ref y3)) (e7 : h.2.2 y3 = some (.inl (1, n5, .inl f6))) (e8 : 0 ≤ (x4 : Int32).toInt ∧ (x4 : Int32).toInt < (n5 : Nat)) (e10 : 0 ≤ (x5 : Int32).toInt ∧ (x5 : Int32).toInt < (n5 : Nat)) (e11 : ¬ (((f6 (x4 : Int32).toNatClampNeg) : Int32) = (f6 (x5 : Int32).toNatClampNeg))) (kk : qE d 168 117 [some (.ref r0), some (.int x1), some (.int x2), some (.int x3), some (.int x4), some (.int x5)] [] h q): qE d 168 83 [some (.ref r0), some (.int x1), some (.int x2), some (.int x3), some (.int x4), some (.int x5)] [] h q := by
  refine qe_aload_n c168_83 rfl ?_
  refine qe_getfield c168_84 qo168 qF12_137 e2 e4 ?_
  refine qe_iload c168_87 rfl ?_
  refine qe_zaload c168_89 e7 e8 ?_
  refine qe_aload_n c168_90 rfl ?_
  refine qe_getfield c168_91 qo168 qF12_137 e2 e4 ?_
  refine qe_iload c168_94 rfl ?_
  refine qe_zaload c168_96 e7 e10 ?_
  refine qe_icmp_ne_T (t := 117) c168_97 rfl e11 ?_
  exact kk
theorem b168_100F {d : Nat} {q : Option Value × qH} {h : qH} {r0 : Nat} {x1 : Int32} {x2 : Int32} {x3 : Int32} {x4 : Int32} {x5 : Int32} {fs1 : List Value} {y3 : Nat} {n5 : Nat} {f6 : Nat → Int32}  (e2 : h.2.2 r0 = some (.inr (12, fs1))) (e4 : fs1[63]? = some (.ref y3)) (e7 : h.2.2 y3 = some (.inl (0, n5, .inl f6))) (e8 : 0 ≤ (x4 : Int32).toInt ∧ (x4 : Int32).toInt < (n5 : Nat)) (e10 : 0 ≤ (x5 : Int32).toInt ∧ (x5 : Int32).toInt < (n5 : Nat)) (e11 : ¬ (((f6 (x4 : Int32).toNatClampNeg) : Int32) = (f6 (x5 : Int32).toNatClampNeg))) (kk : qE d 168 117 [some (.ref r0), some (.int x1), some (.int x2), some (.int x3), some (.int x4), some (.int x5)] [] h q): qE d 168 100 [some (.ref r0), some (.int x1), some (.int x2), some (.int x3), some (.int x4), some (.int x5)] [] h q := by
  refine qe_aload_n c168_100 rfl ?_
  refine qe_getfield c168_101 qo168 qF12_134 e2 e4 ?_
  refine qe_iload c168_104 rfl ?_
  refine qe_iaload c168_106 e7 e8 ?_
  refine qe_aload_n c168_107 rfl ?_
  refine qe_getfield c168_108 qo168 qF12_134 e2 e4 ?_
  refine qe_iload c168_111 rfl ?_
  refine qe_iaload c168_113 e7 e10 ?_
  refine qe_icmp_eq_F (t := 119) c168_114 rfl e11 ?_
  exact kk
theorem b168_100T {d : Nat} {q : Option Value × qH} {h : qH} {r0 : Nat} {x1 : Int32} {x2 : Int32} {x3 : Int32} {x4 : Int32} {x5 : Int32} {fs1 : List Value} {y3 : Nat} {n5 : Nat} {f6 : Nat → Int32}  (e2 : h.2.2 r0 = some (.inr (12, fs1))) (e4 : fs1[63]? = some (.ref y3)) (e7 : h.2.2 y3 = some (.inl (0, n5, .inl f6))) (e8 : 0 ≤ (x4 : Int32).toInt ∧ (x4 : Int32).toInt < (n5 : Nat)) (e10 : 0 ≤ (x5 : Int32).toInt ∧ (x5 : Int32).toInt < (n5 : Nat)) (e11 : ((f6 (x4 : Int32).toNatClampNeg) : Int32) = (f6 (x5 : Int32).toNatClampNeg)) (kk : qE d 168 119 [some (.ref r0), some (.int x1), some (.int x2), some (.int x3), some (.int x4), some (.int x5)] [] h q): qE d 168 100 [some (.ref r0), some (.int x1), some (.int x2), some (.int x3), some (.int x4), some (.int x5)] [] h q := by
  refine qe_aload_n c168_100 rfl ?_
  refine qe_getfield c168_101 qo168 qF12_134 e2 e4 ?_
  refine qe_iload c168_104 rfl ?_
  refine qe_iaload c168_106 e7 e8 ?_
  refine qe_aload_n c168_107 rfl ?_
  refine qe_getfield c168_108 qo168 qF12_134 e2 e4 ?_
  refine qe_iload c168_111 rfl ?_
  refine qe_iaload c168_113 e7 e10 ?_
  refine qe_icmp_eq_T (t := 119) c168_114 rfl e11 ?_
  exact kk
theorem b168_117 {d : Nat} {h : qH} {r0 : Nat} {x1 : Int32} {x2 : Int32} {x3 : Int32} {x4 : Int32} {x5 : Int32}   : qE d 168 117 [some (.ref r0), some (.int x1), some (.int x2), some (.int x3), some (.int x4), some (.int x5)] [] h (some (.int x2), h) := by
  refine qe_iload_n c168_117 rfl ?_
  exact qe_iret c168_118 qr168
theorem b168_119 {d : Nat} {q : Option Value × qH} {h : qH} {r0 : Nat} {x1 : Int32} {x2 : Int32} {x3 : Int32} {x4 : Int32} {x5 : Int32}   (kk : qE d 168 45 [some (.ref r0), some (.int x1), some (.int x2), some (.int (x3 + 1)), some (.int x4), some (.int x5)] [] h q): qE d 168 119 [some (.ref r0), some (.int x1), some (.int x2), some (.int x3), some (.int x4), some (.int x5)] [] h q := by
  refine qe_iinc (y := (x3 + 1)) (ls2 := [some (.ref r0), some (.int x1), some (.int x2), some (.int (x3 + 1)), some (.int x4), some (.int x5)]) c168_119 rfl (Nat.le_of_ble_eq_true rfl) rfl rfl ?_
  refine qe_goto (t := 45) c168_122 rfl ?_
  exact kk
theorem b168_125 {d : Nat} {q : Option Value × qH} {h : qH} {r0 : Nat} {x1 : Int32} {x2 : Int32} {x3 : Int32} {o4 : Option Value} {o5 : Option Value}   (kk : qE d 168 35 [some (.ref r0), some (.int x1), some (.int (x2 + 1)), some (.int x3), o4, o5] [] h q): qE d 168 125 [some (.ref r0), some (.int x1), some (.int x2), some (.int x3), o4, o5] [] h q := by
  refine qe_iinc (y := (x2 + 1)) (ls2 := [some (.ref r0), some (.int x1), some (.int (x2 + 1)), some (.int x3), o4, o5]) c168_125 rfl (Nat.le_of_ble_eq_true rfl) rfl rfl ?_
  refine qe_goto (t := 35) c168_128 rfl ?_
  exact kk
theorem b168_131 {d : Nat} {h : qH} {r0 : Nat} {x1 : Int32} {x2 : Int32} {o3 : Option Value} {o4 : Option Value} {o5 : Option Value}   : qE d 168 131 [some (.ref r0), some (.int x1), some (.int x2), o3, o4, o5] [] h (some (.int (-1)), h) := by
  refine qe_iconst (x := (-1)) c168_131 (by decide) ?_
  exact qe_iret c168_132 qr168
theorem b169_0 {d : Nat} {q : Option Value × qH} {h : qH} {x0 : Int32}   (kk : qE d 169 4 [some (.int x0), some (.int 0), some (.int x0)] [] h q): qE d 169 0 [some (.int x0), none, none] [] h q := by
  refine qe_iconst (x := 0) c169_0 (by decide) ?_
  refine qe_istore_n (ls2 := [some (.int x0), some (.int 0), none]) c169_1 (Nat.le_of_ble_eq_true rfl) rfl ?_
  refine qe_iload_n c169_2 rfl ?_
  refine qe_istore_n (ls2 := [some (.int x0), some (.int 0), some (.int x0)]) c169_3 (Nat.le_of_ble_eq_true rfl) rfl ?_
  exact kk
theorem b169_4F {d : Nat} {q : Option Value × qH} {h : qH} {x0 : Int32} {x1 : Int32} {x2 : Int32}  (e1 : ¬ ((x2 : Int32) = 0)) (kk : qE d 169 8 [some (.int x0), some (.int x1), some (.int x2)] [] h q): qE d 169 4 [some (.int x0), some (.int x1), some (.int x2)] [] h q := by
  refine qe_iload_n c169_4 rfl ?_
  refine qe_if_eq_F (t := 20) c169_5 rfl e1 ?_
  exact kk
theorem b169_4T {d : Nat} {q : Option Value × qH} {h : qH} {x0 : Int32} {x1 : Int32} {x2 : Int32}  (e1 : (x2 : Int32) = 0) (kk : qE d 169 20 [some (.int x0), some (.int x1), some (.int x2)] [] h q): qE d 169 4 [some (.int x0), some (.int x1), some (.int x2)] [] h q := by
  refine qe_iload_n c169_4 rfl ?_
  refine qe_if_eq_T (t := 20) c169_5 rfl e1 ?_
  exact kk
theorem b169_8 {d : Nat} {q : Option Value × qH} {h : qH} {x0 : Int32} {x1 : Int32} {x2 : Int32}   (kk : qE d 169 4 [some (.int x0), some (.int (x1 + 1)), some (.int (x2 &&& (x2 - 1)))] [] h q): qE d 169 8 [some (.int x0), some (.int x1), some (.int x2)] [] h q := by
  refine qe_iinc (y := (x1 + 1)) (ls2 := [some (.int x0), some (.int (x1 + 1)), some (.int x2)]) c169_8 rfl (Nat.le_of_ble_eq_true rfl) rfl rfl ?_
  refine qe_iload_n c169_11 rfl ?_
  refine qe_iload_n c169_12 rfl ?_
  refine qe_iconst (x := 1) c169_13 (by decide) ?_
  refine qe_isub c169_14 ?_
  refine qe_iand c169_15 ?_
  refine qe_istore_n (ls2 := [some (.int x0), some (.int (x1 + 1)), some (.int (x2 &&& (x2 - 1)))]) c169_16 (Nat.le_of_ble_eq_true rfl) rfl ?_
  refine qe_goto (t := 4) c169_17 rfl ?_
  exact kk
theorem b169_20 {d : Nat} {h : qH} {x0 : Int32} {x1 : Int32} {x2 : Int32}   : qE d 169 20 [some (.int x0), some (.int x1), some (.int x2)] [] h (some (.int x1), h) := by
  refine qe_iload_n c169_20 rfl ?_
  exact qe_iret c169_21 qr169
theorem b170_0F {d : Nat} {q : Option Value × qH} {h : qH} {l0 : Int64}  (e1 : ¬ ((0 : Int32) ≤ (lg_cmp l0 0))) (kk : qE d 170 6 [some (.long l0), none] [] h q): qE d 170 0 [some (.long l0), none] [] h q := by
  refine qe_lload_n c170_0 rfl ?_
  refine qe_lconst (x := 0) c170_1 (by decide) ?_
  refine qe_lcmp c170_2 ?_
  refine qe_if_ge_F (t := 11) c170_3 rfl e1 ?_
  exact kk
theorem b170_0T {d : Nat} {q : Option Value × qH} {h : qH} {l0 : Int64}  (e1 : (0 : Int32) ≤ (lg_cmp l0 0)) (kk : qE d 170 11 [some (.long l0), none] [] h q): qE d 170 0 [some (.long l0), none] [] h q := by
  refine qe_lload_n c170_0 rfl ?_
  refine qe_lconst (x := 0) c170_1 (by decide) ?_
  refine qe_lcmp c170_2 ?_
  refine qe_if_ge_T (t := 11) c170_3 rfl e1 ?_
  exact kk
theorem b170_6 {d : Nat} {q : Option Value × qH} {h : qH} {l0 : Int64}   (kk : qE d 170 12 [some (.long l0), none] [.long (-l0)] h q): qE d 170 6 [some (.long l0), none] [] h q := by
  refine qe_lload_n c170_6 rfl ?_
  refine qe_lneg c170_7 ?_
  refine qe_goto (t := 12) c170_8 rfl ?_
  exact kk
theorem b170_11 {d : Nat} {q : Option Value × qH} {h : qH} {l0 : Int64}   (kk : qE d 170 12 [some (.long l0), none] [.long l0] h q): qE d 170 11 [some (.long l0), none] [] h q := by
  refine qe_lload_n c170_11 rfl ?_
  exact kk
theorem b170_12 {d : Nat} {h : qH} {l0 : Int64} {ls0 : Int64}   : qE d 170 12 [some (.long l0), none] [.long ls0] h (some (.long ls0), h) := by
  exact qe_lret c170_12 qr170
theorem b171_0F {d : Nat} {q : Option Value × qH} {h : qH} {r0 : Nat} {x1 : Int32} {x2 : Int32} {x3 : Int32} {fs1 : List Value} {y3 : Int32}  (e2 : h.2.2 r0 = some (.inr (12, fs1))) (e4 : fs1[2]? = some (.int y3)) (e5 : ¬ ((0 : Int32) < y3)) (kk : qE d 171 7 [some (.ref r0), some (.int x1), some (.int x2), some (.int x3)] [] h q): qE d 171 0 [some (.ref r0), some (.int x1), some (.int x2), some (.int x3)] [] h q := by
  refine qe_aload_n c171_0 rfl ?_
  refine qe_getfield c171_1 qo171 qF12_202 e2 e4 ?_
  refine qe_if_gt_F (t := 47) c171_4 rfl e5 ?_
  exact kk
theorem b171_0T {d : Nat} {q : Option Value × qH} {h : qH} {r0 : Nat} {x1 : Int32} {x2 : Int32} {x3 : Int32} {fs1 : List Value} {y3 : Int32}  (e2 : h.2.2 r0 = some (.inr (12, fs1))) (e4 : fs1[2]? = some (.int y3)) (e5 : (0 : Int32) < y3) (kk : qE d 171 47 [some (.ref r0), some (.int x1), some (.int x2), some (.int x3)] [] h q): qE d 171 0 [some (.ref r0), some (.int x1), some (.int x2), some (.int x3)] [] h q := by
  refine qe_aload_n c171_0 rfl ?_
  refine qe_getfield c171_1 qo171 qF12_202 e2 e4 ?_
  refine qe_if_gt_T (t := 47) c171_4 rfl e5 ?_
  exact kk
theorem b171_7F {d : Nat} {q : Option Value × qH} {h : qH} {r0 : Nat} {x1 : Int32} {x2 : Int32} {x3 : Int32} {fs1 : List Value} {y3 : Int32}  (e2 : h.2.2 r0 = some (.inr (12, fs1))) (e4 : fs1[3]? = some (.int y3)) (e5 : ¬ ((y3 : Int32) = 8)) (kk : qE d 171 16 [some (.ref r0), some (.int x1), some (.int x2), some (.int x3)] [] h q): qE d 171 7 [some (.ref r0), some (.int x1), some (.int x2), some (.int x3)] [] h q := by
  refine qe_aload_n c171_7 rfl ?_
  refine qe_getfield c171_8 qo171 qF12_186 e2 e4 ?_
  refine qe_bipush (x := 8) c171_11 (by decide) ?_
  refine qe_icmp_eq_F (t := 47) c171_13 rfl e5 ?_
  exact kk
theorem b171_7T {d : Nat} {q : Option Value × qH} {h : qH} {r0 : Nat} {x1 : Int32} {x2 : Int32} {x3 : Int32} {fs1 : List Value} {y3 : Int32}  (e2 : h.2.2 r0 = some (.inr (12, fs1))) (e4 : fs1[3]? = some (.int y3)) (e5 : (y3 : Int32) = 8) (kk : qE d 171 47 [some (.ref r0), some (.int x1), some (.int x2), some (.int x3)] [] h q): qE d 171 7 [some (.ref r0), some (.int x1), some (.int x2), some (.int x3)] [] h q := by
  refine qe_aload_n c171_7 rfl ?_
  refine qe_getfield c171_8 qo171 qF12_186 e2 e4 ?_
  refine qe_bipush (x := 8) c171_11 (by decide) ?_
  refine qe_icmp_eq_T (t := 47) c171_13 rfl e5 ?_
  exact kk
theorem b171_16F {d : Nat} {q : Option Value × qH} {h : qH} {r0 : Nat} {x1 : Int32} {x2 : Int32} {x3 : Int32} {h1 : qH} {z1 : Int32}  (e2 : qCall d 126 [.int x1] h ((some (.int z1)), h1)) (e3 : ¬ ((z1 : Int32) = 0)) (kk : qE d 171 23 [some (.ref r0), some (.int x1), some (.int x2), some (.int x3)] [] h1 q): qE d 171 16 [some (.ref r0), some (.int x1), some (.int x2), some (.int x3)] [] h q := by
  refine qe_iload_n c171_16 rfl ?_
  refine qe_static (as := [.int x1]) (r := []) (v := (some (.int z1))) (h2 := h1) c171_17 qo171 (by decide) qK12_205 rfl rfl rfl (Nat.le_of_ble_eq_true rfl) e2 ?_
  refine qe_if_eq_F (t := 47) c171_20 rfl e3 ?_
  exact kk
theorem b171_16T {d : Nat} {q : Option Value × qH} {h : qH} {r0 : Nat} {x1 : Int32} {x2 : Int32} {x3 : Int32} {h1 : qH} {z1 : Int32}  (e2 : qCall d 126 [.int x1] h ((some (.int z1)), h1)) (e3 : (z1 : Int32) = 0) (kk : qE d 171 47 [some (.ref r0), some (.int x1), some (.int x2), some (.int x3)] [] h1 q): qE d 171 16 [some (.ref r0), some (.int x1), some (.int x2), some (.int x3)] [] h q := by
  refine qe_iload_n c171_16 rfl ?_
  refine qe_static (as := [.int x1]) (r := []) (v := (some (.int z1))) (h2 := h1) c171_17 qo171 (by decide) qK12_205 rfl rfl rfl (Nat.le_of_ble_eq_true rfl) e2 ?_
  refine qe_if_eq_T (t := 47) c171_20 rfl e3 ?_
  exact kk
theorem b171_23F {d : Nat} {q : Option Value × qH} {h : qH} {r0 : Nat} {x1 : Int32} {x2 : Int32} {x3 : Int32} {h1 : qH} {z1 : Int32}  (e2 : qCall d 143 [.long (x2 : Int32).toInt64, .long 0, .long 2000] h ((some (.int z1)), h1)) (e3 : ¬ ((z1 : Int32) = 0)) (kk : qE d 171 35 [some (.ref r0), some (.int x1), some (.int x2), some (.int x3)] [] h1 q): qE d 171 23 [some (.ref r0), some (.int x1), some (.int x2), some (.int x3)] [] h q := by
  refine qe_iload_n c171_23 rfl ?_
  refine qe_i2l c171_24 ?_
  refine qe_lconst (x := 0) c171_25 (by decide) ?_
  refine qe_ldc2_w (x := 2000) c171_26 qo171 qJ12_209 ?_
  refine qe_static (as := [.long (x2 : Int32).toInt64, .long 0, .long 2000]) (r := []) (v := (some (.int z1))) (h2 := h1) c171_29 qo171 (by decide) qK12_190 rfl rfl rfl (Nat.le_of_ble_eq_true rfl) e2 ?_
  refine qe_if_eq_F (t := 47) c171_32 rfl e3 ?_
  exact kk
theorem b171_23T {d : Nat} {q : Option Value × qH} {h : qH} {r0 : Nat} {x1 : Int32} {x2 : Int32} {x3 : Int32} {h1 : qH} {z1 : Int32}  (e2 : qCall d 143 [.long (x2 : Int32).toInt64, .long 0, .long 2000] h ((some (.int z1)), h1)) (e3 : (z1 : Int32) = 0) (kk : qE d 171 47 [some (.ref r0), some (.int x1), some (.int x2), some (.int x3)] [] h1 q): qE d 171 23 [some (.ref r0), some (.int x1), some (.int x2), some (.int x3)] [] h q := by
  refine qe_iload_n c171_23 rfl ?_
  refine qe_i2l c171_24 ?_
  refine qe_lconst (x := 0) c171_25 (by decide) ?_
  refine qe_ldc2_w (x := 2000) c171_26 qo171 qJ12_209 ?_
  refine qe_static (as := [.long (x2 : Int32).toInt64, .long 0, .long 2000]) (r := []) (v := (some (.int z1))) (h2 := h1) c171_29 qo171 (by decide) qK12_190 rfl rfl rfl (Nat.le_of_ble_eq_true rfl) e2 ?_
  refine qe_if_eq_T (t := 47) c171_32 rfl e3 ?_
  exact kk
theorem b171_35F {d : Nat} {q : Option Value × qH} {h : qH} {r0 : Nat} {x1 : Int32} {x2 : Int32} {x3 : Int32} {h1 : qH} {z1 : Int32}  (e2 : qCall d 143 [.long (x3 : Int32).toInt64, .long 0, .long 9] h ((some (.int z1)), h1)) (e3 : (z1 : Int32) = 0) (kk : qE d 171 47 [some (.ref r0), some (.int x1), some (.int x2), some (.int x3)] [] h1 q): qE d 171 35 [some (.ref r0), some (.int x1), some (.int x2), some (.int x3)] [] h q := by
  refine qe_iload_n c171_35 rfl ?_
  refine qe_i2l c171_36 ?_
  refine qe_lconst (x := 0) c171_37 (by decide) ?_
  refine qe_ldc2_w (x := 9) c171_38 qo171 qJ12_211 ?_
  refine qe_static (as := [.long (x3 : Int32).toInt64, .long 0, .long 9]) (r := []) (v := (some (.int z1))) (h2 := h1) c171_41 qo171 (by decide) qK12_190 rfl rfl rfl (Nat.le_of_ble_eq_true rfl) e2 ?_
  refine qe_if_ne_F (t := 49) c171_44 rfl e3 ?_
  exact kk
theorem b171_35T {d : Nat} {q : Option Value × qH} {h : qH} {r0 : Nat} {x1 : Int32} {x2 : Int32} {x3 : Int32} {h1 : qH} {z1 : Int32}  (e2 : qCall d 143 [.long (x3 : Int32).toInt64, .long 0, .long 9] h ((some (.int z1)), h1)) (e3 : ¬ ((z1 : Int32) = 0)) (kk : qE d 171 49 [some (.ref r0), some (.int x1), some (.int x2), some (.int x3)] [] h1 q): qE d 171 35 [some (.ref r0), some (.int x1), some (.int x2), some (.int x3)] [] h q := by
  refine qe_iload_n c171_35 rfl ?_
  refine qe_i2l c171_36 ?_
  refine qe_lconst (x := 0) c171_37 (by decide) ?_
  refine qe_ldc2_w (x := 9) c171_38 qo171 qJ12_211 ?_
  refine qe_static (as := [.long (x3 : Int32).toInt64, .long 0, .long 9]) (r := []) (v := (some (.int z1))) (h2 := h1) c171_41 qo171 (by decide) qK12_190 rfl rfl rfl (Nat.le_of_ble_eq_true rfl) e2 ?_
  refine qe_if_ne_T (t := 49) c171_44 rfl e3 ?_
  exact kk
theorem b171_47 {d : Nat} {h : qH} {r0 : Nat} {x1 : Int32} {x2 : Int32} {x3 : Int32}   : qE d 171 47 [some (.ref r0), some (.int x1), some (.int x2), some (.int x3)] [] h (some (.int (-1)), h) := by
  refine qe_iconst (x := (-1)) c171_47 (by decide) ?_
  exact qe_iret c171_48 qr171
theorem b171_49 {d : Nat} {h : qH} {r0 : Nat} {x1 : Int32} {x2 : Int32} {x3 : Int32} {fs1 : List Value} {y3 : Nat} {y5 : Int32} {n7 : Nat} {f8 : Nat → Int32} {h1 : qH} {fs12 : List Value} {y14 : Nat} {y16 : Int32} {n18 : Nat} {f19 : Nat → Int32} {h2 : qH} {fs23 : List Value} {y25 : Nat} {y27 : Int32} {n29 : Nat} {f30 : Nat → Int32} {h3 : qH} {fs34 : List Value} {y36 : Int32} {h4 : qH} {fs40 : List Value} {y42 : Int32}  (e2 : h.2.2 r0 = some (.inr (12, fs1))) (e4 : fs1[11]? = some (.ref y3)) (e6 : fs1[3]? = some (.int y5)) (e9 : h.2.2 y3 = some (.inl (0, n7, .inl f8))) (e10 : 0 ≤ (y5 : Int32).toInt ∧ (y5 : Int32).toInt < (n7 : Nat)) (e11 : qset h y3 (.inl (0, n7, .inl (upd f8 ((y5 : Int32).toNatClampNeg) x1))) = h1) (e13 : h1.2.2 r0 = some (.inr (12, fs12))) (e15 : fs12[12]? = some (.ref y14)) (e17 : fs12[3]? = some (.int y16)) (e20 : h1.2.2 y14 = some (.inl (0, n18, .inl f19))) (e21 : 0 ≤ (y16 : Int32).toInt ∧ (y16 : Int32).toInt < (n18 : Nat)) (e22 : qset h1 y14 (.inl (0, n18, .inl (upd f19 ((y16 : Int32).toNatClampNeg) x3))) = h2) (e24 : h2.2.2 r0 = some (.inr (12, fs23))) (e26 : fs23[10]? = some (.ref y25)) (e28 : fs23[3]? = some (.int y27)) (e31 : h2.2.2 y25 = some (.inl (0, n29, .inl f30))) (e32 : 0 ≤ ((36059 + y27) : Int32).toInt ∧ ((36059 + y27) : Int32).toInt < (n29 : Nat)) (e33 : qset h2 y25 (.inl (0, n29, .inl (upd f30 (((36059 + y27) : Int32).toNatClampNeg) x2))) = h3) (e35 : h3.2.2 r0 = some (.inr (12, fs34))) (e37 : fs34[3]? = some (.int y36)) (e38 : 3 < fs34.length) (e39 : qset h3 r0 (.inr (12, fs34.set 3 (.int (y36 + 1)))) = h4) (e41 : h4.2.2 r0 = some (.inr (12, fs40))) (e43 : fs40[3]? = some (.int y42)) : qE d 171 49 [some (.ref r0), some (.int x1), some (.int x2), some (.int x3)] [] h (some (.int (y42 - 1)), h4) := by
  refine qe_aload_n c171_49 rfl ?_
  refine qe_getfield c171_50 qo171 qF12_18 e2 e4 ?_
  refine qe_aload_n c171_53 rfl ?_
  refine qe_getfield c171_54 qo171 qF12_186 e2 e6 ?_
  refine qe_iload_n c171_57 rfl ?_
  refine qe_iastore c171_58 e9 e10 ?_
  rw [e11]
  refine qe_aload_n c171_59 rfl ?_
  refine qe_getfield c171_60 qo171 qF12_21 e13 e15 ?_
  refine qe_aload_n c171_63 rfl ?_
  refine qe_getfield c171_64 qo171 qF12_186 e13 e17 ?_
  refine qe_iload_n c171_67 rfl ?_
  refine qe_iastore c171_68 e20 e21 ?_
  rw [e22]
  refine qe_aload_n c171_69 rfl ?_
  refine qe_getfield c171_70 qo171 qF12_14 e24 e26 ?_
  refine qe_ldc (x := 36059) c171_73 qo171 qI12_213 ?_
  refine qe_aload_n c171_75 rfl ?_
  refine qe_getfield c171_76 qo171 qF12_186 e24 e28 ?_
  refine qe_iadd c171_79 ?_
  refine qe_iload_n c171_80 rfl ?_
  refine qe_iastore c171_81 e31 e32 ?_
  rw [e33]
  refine qe_aload_n c171_82 rfl ?_
  refine qe_dup c171_83 rfl ?_
  refine qe_getfield c171_84 qo171 qF12_186 e35 e37 ?_
  refine qe_iconst (x := 1) c171_87 (by decide) ?_
  refine qe_iadd c171_88 ?_
  refine qe_putfield c171_89 qo171 qF12_186 qz12_3 e35 e38 (by rw [qy12_3]; rfl) ?_
  rw [e39]
  refine qe_aload_n c171_92 rfl ?_
  refine qe_getfield c171_93 qo171 qF12_186 e41 e43 ?_
  refine qe_iconst (x := 1) c171_96 (by decide) ?_
  refine qe_isub c171_97 ?_
  exact qe_iret c171_98 qr171
theorem b172_0F {d : Nat} {q : Option Value × qH} {h : qH} {r0 : Nat} {x1 : Int32} {x2 : Int32} {fs1 : List Value} {h1 : qH} {z3 : Int32}  (e2 : h.2.2 r0 = some (.inr (12, fs1))) (e4 : qCall d 132 [.ref r0, .int x1] h ((some (.int z3)), h1)) (e5 : (z3 : Int32) = 0) (kk : qE d 172 8 [some (.ref r0), some (.int x1), some (.int x2)] [] h1 q): qE d 172 0 [some (.ref r0), some (.int x1), some (.int x2)] [] h q := by
  refine qe_aload_n c172_0 rfl ?_
  refine qe_iload_n c172_1 rfl ?_
  refine qe_virtual (b := r0) (as := [.int x1]) (r := []) (v := (some (.int z3))) (h2 := h1) c172_2 qo172 qK12_214 rfl rfl rfl (by rw [qo132]; exact e2) (Nat.le_of_ble_eq_true rfl) e4 ?_
  refine qe_if_ne_F (t := 10) c172_5 rfl e5 ?_
  exact kk
theorem b172_0T {d : Nat} {q : Option Value × qH} {h : qH} {r0 : Nat} {x1 : Int32} {x2 : Int32} {fs1 : List Value} {h1 : qH} {z3 : Int32}  (e2 : h.2.2 r0 = some (.inr (12, fs1))) (e4 : qCall d 132 [.ref r0, .int x1] h ((some (.int z3)), h1)) (e5 : ¬ ((z3 : Int32) = 0)) (kk : qE d 172 10 [some (.ref r0), some (.int x1), some (.int x2)] [] h1 q): qE d 172 0 [some (.ref r0), some (.int x1), some (.int x2)] [] h q := by
  refine qe_aload_n c172_0 rfl ?_
  refine qe_iload_n c172_1 rfl ?_
  refine qe_virtual (b := r0) (as := [.int x1]) (r := []) (v := (some (.int z3))) (h2 := h1) c172_2 qo172 qK12_214 rfl rfl rfl (by rw [qo132]; exact e2) (Nat.le_of_ble_eq_true rfl) e4 ?_
  refine qe_if_ne_T (t := 10) c172_5 rfl e5 ?_
  exact kk
theorem b172_8 {d : Nat} {h : qH} {r0 : Nat} {x1 : Int32} {x2 : Int32}   : qE d 172 8 [some (.ref r0), some (.int x1), some (.int x2)] [] h (some (.int (-1)), h) := by
  refine qe_iconst (x := (-1)) c172_8 (by decide) ?_
  exact qe_iret c172_9 qr172
theorem b172_10D {d : Nat} {q : Option Value × qH} {h : qH} {r0 : Nat} {x1 : Int32} {x2 : Int32} {fs1 : List Value} {h1 : qH}  (e2 : h.2.2 r0 = some (.inr (12, fs1))) (e3 : qCall d 174 [.ref r0] h (none, h1)) (e4 : (x2 : Int32).toInt < 0 ∨ 4 < (x2 : Int32).toInt) (kk : qE d 172 98 [some (.ref r0), some (.int x1), some (.int x2)] [] h1 q): qE d 172 10 [some (.ref r0), some (.int x1), some (.int x2)] [] h q := by
  refine qe_aload_n c172_10 rfl ?_
  refine qe_virtual (b := r0) (as := []) (r := []) (v := none) (h2 := h1) c172_11 qo172 qK12_466 rfl rfl rfl (by rw [qo174]; exact e2) (Nat.le_of_ble_eq_true rfl) e3 ?_
  refine qe_iload_n c172_14 rfl ?_
  refine qe_tableD (t := 98) c172_15 e4 rfl ?_
  exact kk
theorem b172_10s4 {d : Nat} {q : Option Value × qH} {h : qH} {r0 : Nat} {x1 : Int32} {x2 : Int32} {fs1 : List Value} {h1 : qH}  (e2 : h.2.2 r0 = some (.inr (12, fs1))) (e3 : qCall d 174 [.ref r0] h (none, h1)) (e4 : (x2 : Int32).toInt = 4) (kk : qE d 172 86 [some (.ref r0), some (.int x1), some (.int x2)] [] h1 q): qE d 172 10 [some (.ref r0), some (.int x1), some (.int x2)] [] h q := by
  refine qe_aload_n c172_10 rfl ?_
  refine qe_virtual (b := r0) (as := []) (r := []) (v := none) (h2 := h1) c172_11 qo172 qK12_466 rfl rfl rfl (by rw [qo174]; exact e2) (Nat.le_of_ble_eq_true rfl) e3 ?_
  refine qe_iload_n c172_14 rfl ?_
  refine qe_table (off := 71) (t := 86) c172_15 (by rw [e4]; decide) (by rw [e4]; decide) rfl ?_
  exact kk
theorem b172_10s3 {d : Nat} {q : Option Value × qH} {h : qH} {r0 : Nat} {x1 : Int32} {x2 : Int32} {fs1 : List Value} {h1 : qH}  (e2 : h.2.2 r0 = some (.inr (12, fs1))) (e3 : qCall d 174 [.ref r0] h (none, h1)) (e4 : (x2 : Int32).toInt = 3) (kk : qE d 172 79 [some (.ref r0), some (.int x1), some (.int x2)] [] h1 q): qE d 172 10 [some (.ref r0), some (.int x1), some (.int x2)] [] h q := by
  refine qe_aload_n c172_10 rfl ?_
  refine qe_virtual (b := r0) (as := []) (r := []) (v := none) (h2 := h1) c172_11 qo172 qK12_466 rfl rfl rfl (by rw [qo174]; exact e2) (Nat.le_of_ble_eq_true rfl) e3 ?_
  refine qe_iload_n c172_14 rfl ?_
  refine qe_table (off := 64) (t := 79) c172_15 (by rw [e4]; decide) (by rw [e4]; decide) rfl ?_
  exact kk
theorem b172_10s2 {d : Nat} {q : Option Value × qH} {h : qH} {r0 : Nat} {x1 : Int32} {x2 : Int32} {fs1 : List Value} {h1 : qH}  (e2 : h.2.2 r0 = some (.inr (12, fs1))) (e3 : qCall d 174 [.ref r0] h (none, h1)) (e4 : (x2 : Int32).toInt = 2) (kk : qE d 172 68 [some (.ref r0), some (.int x1), some (.int x2)] [] h1 q): qE d 172 10 [some (.ref r0), some (.int x1), some (.int x2)] [] h q := by
  refine qe_aload_n c172_10 rfl ?_
  refine qe_virtual (b := r0) (as := []) (r := []) (v := none) (h2 := h1) c172_11 qo172 qK12_466 rfl rfl rfl (by rw [qo174]; exact e2) (Nat.le_of_ble_eq_true rfl) e3 ?_
  refine qe_iload_n c172_14 rfl ?_
  refine qe_table (off := 53) (t := 68) c172_15 (by rw [e4]; decide) (by rw [e4]; decide) rfl ?_
  exact kk
theorem b172_10s1 {d : Nat} {q : Option Value × qH} {h : qH} {r0 : Nat} {x1 : Int32} {x2 : Int32} {fs1 : List Value} {h1 : qH}  (e2 : h.2.2 r0 = some (.inr (12, fs1))) (e3 : qCall d 174 [.ref r0] h (none, h1)) (e4 : (x2 : Int32).toInt = 1) (kk : qE d 172 58 [some (.ref r0), some (.int x1), some (.int x2)] [] h1 q): qE d 172 10 [some (.ref r0), some (.int x1), some (.int x2)] [] h q := by
  refine qe_aload_n c172_10 rfl ?_
  refine qe_virtual (b := r0) (as := []) (r := []) (v := none) (h2 := h1) c172_11 qo172 qK12_466 rfl rfl rfl (by rw [qo174]; exact e2) (Nat.le_of_ble_eq_true rfl) e3 ?_
  refine qe_iload_n c172_14 rfl ?_
  refine qe_table (off := 43) (t := 58) c172_15 (by rw [e4]; decide) (by rw [e4]; decide) rfl ?_
  exact kk
theorem b172_10s0 {d : Nat} {q : Option Value × qH} {h : qH} {r0 : Nat} {x1 : Int32} {x2 : Int32} {fs1 : List Value} {h1 : qH}  (e2 : h.2.2 r0 = some (.inr (12, fs1))) (e3 : qCall d 174 [.ref r0] h (none, h1)) (e4 : (x2 : Int32).toInt = 0) (kk : qE d 172 48 [some (.ref r0), some (.int x1), some (.int x2)] [] h1 q): qE d 172 10 [some (.ref r0), some (.int x1), some (.int x2)] [] h q := by
  refine qe_aload_n c172_10 rfl ?_
  refine qe_virtual (b := r0) (as := []) (r := []) (v := none) (h2 := h1) c172_11 qo172 qK12_466 rfl rfl rfl (by rw [qo174]; exact e2) (Nat.le_of_ble_eq_true rfl) e3 ?_
  refine qe_iload_n c172_14 rfl ?_
  refine qe_table (off := 33) (t := 48) c172_15 (by rw [e4]; decide) (by rw [e4]; decide) rfl ?_
  exact kk
theorem b172_48 {d : Nat} {h : qH} {r0 : Nat} {x1 : Int32} {x2 : Int32} {fs1 : List Value} {y3 : Nat} {n5 : Nat} {f6 : Nat → Int32}  (e2 : h.2.2 r0 = some (.inr (12, fs1))) (e4 : fs1[10]? = some (.ref y3)) (e7 : h.2.2 y3 = some (.inl (0, n5, .inl f6))) (e8 : 0 ≤ ((36059 + x1) : Int32).toInt ∧ ((36059 + x1) : Int32).toInt < (n5 : Nat)) : qE d 172 48 [some (.ref r0), some (.int x1), some (.int x2)] [] h (some (.int (f6 ((36059 + x1) : Int32).toNatClampNeg)), h) := by
  refine qe_aload_n c172_48 rfl ?_
  refine qe_getfield c172_49 qo172 qF12_14 e2 e4 ?_
  refine qe_ldc (x := 36059) c172_52 qo172 qI12_213 ?_
  refine qe_iload_n c172_54 rfl ?_
  refine qe_iadd c172_55 ?_
  refine qe_iaload c172_56 e7 e8 ?_
  exact qe_iret c172_57 qr172
theorem b172_58 {d : Nat} {h : qH} {r0 : Nat} {x1 : Int32} {x2 : Int32} {fs1 : List Value} {y3 : Nat} {n5 : Nat} {f6 : Nat → Int32}  (e2 : h.2.2 r0 = some (.inr (12, fs1))) (e4 : fs1[10]? = some (.ref y3)) (e7 : h.2.2 y3 = some (.inl (0, n5, .inl f6))) (e8 : 0 ≤ ((36051 + x1) : Int32).toInt ∧ ((36051 + x1) : Int32).toInt < (n5 : Nat)) : qE d 172 58 [some (.ref r0), some (.int x1), some (.int x2)] [] h (some (.int (f6 ((36051 + x1) : Int32).toNatClampNeg)), h) := by
  refine qe_aload_n c172_58 rfl ?_
  refine qe_getfield c172_59 qo172 qF12_14 e2 e4 ?_
  refine qe_ldc (x := 36051) c172_62 qo172 qI12_234 ?_
  refine qe_iload_n c172_64 rfl ?_
  refine qe_iadd c172_65 ?_
  refine qe_iaload c172_66 e7 e8 ?_
  exact qe_iret c172_67 qr172
theorem b172_68 {d : Nat} {h : qH} {r0 : Nat} {x1 : Int32} {x2 : Int32} {fs1 : List Value} {y3 : Nat} {n5 : Nat} {f6 : Nat → Int32}  (e2 : h.2.2 r0 = some (.inr (12, fs1))) (e4 : fs1[10]? = some (.ref y3)) (e7 : h.2.2 y3 = some (.inl (0, n5, .inl f6))) (e8 : 0 ≤ ((36195 + x1) : Int32).toInt ∧ ((36195 + x1) : Int32).toInt < (n5 : Nat)) : qE d 172 68 [some (.ref r0), some (.int x1), some (.int x2)] [] h (some (.int (f6 ((36195 + x1) : Int32).toNatClampNeg)), h) := by
  refine qe_aload_n c172_68 rfl ?_
  refine qe_getfield c172_69 qo172 qF12_14 e2 e4 ?_
  refine qe_ldc_w (x := 36195) c172_72 qo172 qI12_470 ?_
  refine qe_iload_n c172_75 rfl ?_
  refine qe_iadd c172_76 ?_
  refine qe_iaload c172_77 e7 e8 ?_
  exact qe_iret c172_78 qr172
theorem b172_79 {d : Nat} {h : qH} {r0 : Nat} {x1 : Int32} {x2 : Int32} {fs1 : List Value} {y3 : Nat} {n5 : Nat} {f6 : Nat → Int32}  (e2 : h.2.2 r0 = some (.inr (12, fs1))) (e4 : fs1[24]? = some (.ref y3)) (e7 : h.2.2 y3 = some (.inl (0, n5, .inl f6))) (e8 : 0 ≤ (x1 : Int32).toInt ∧ (x1 : Int32).toInt < (n5 : Nat)) : qE d 172 79 [some (.ref r0), some (.int x1), some (.int x2)] [] h (some (.int (f6 (x1 : Int32).toNatClampNeg)), h) := by
  refine qe_aload_n c172_79 rfl ?_
  refine qe_getfield c172_80 qo172 qF12_58 e2 e4 ?_
  refine qe_iload_n c172_83 rfl ?_
  refine qe_iaload c172_84 e7 e8 ?_
  exact qe_iret c172_85 qr172
theorem b172_86 {d : Nat} {h : qH} {r0 : Nat} {x1 : Int32} {x2 : Int32} {fs1 : List Value} {y3 : Nat} {y5 : Nat} {n7 : Nat} {f8 : Nat → Int32} {n11 : Nat} {f12 : Nat → Int32}  (e2 : h.2.2 r0 = some (.inr (12, fs1))) (e4 : fs1[26]? = some (.ref y3)) (e6 : fs1[24]? = some (.ref y5)) (e9 : h.2.2 y5 = some (.inl (0, n7, .inl f8))) (e10 : 0 ≤ (x1 : Int32).toInt ∧ (x1 : Int32).toInt < (n7 : Nat)) (e13 : h.2.2 y3 = some (.inl (0, n11, .inl f12))) (e14 : 0 ≤ ((f8 (x1 : Int32).toNatClampNeg) : Int32).toInt ∧ ((f8 (x1 : Int32).toNatClampNeg) : Int32).toInt < (n11 : Nat)) : qE d 172 86 [some (.ref r0), some (.int x1), some (.int x2)] [] h (some (.int (f12 ((f8 (x1 : Int32).toNatClampNeg) : Int32).toNatClampNeg)), h) := by
  refine qe_aload_n c172_86 rfl ?_
  refine qe_getfield c172_87 qo172 qF12_64 e2 e4 ?_
  refine qe_aload_n c172_90 rfl ?_
  refine qe_getfield c172_91 qo172 qF12_58 e2 e6 ?_
  refine qe_iload_n c172_94 rfl ?_
  refine qe_iaload c172_95 e9 e10 ?_
  refine qe_iaload c172_96 e13 e14 ?_
  exact qe_iret c172_97 qr172
theorem b172_98 {d : Nat} {h : qH} {r0 : Nat} {x1 : Int32} {x2 : Int32}   : qE d 172 98 [some (.ref r0), some (.int x1), some (.int x2)] [] h (some (.int (-1)), h) := by
  refine qe_iconst (x := (-1)) c172_98 (by decide) ?_
  exact qe_iret c172_99 qr172
theorem b173_0 {d : Nat} {q : Option Value × qH} {h : qH} {r0 : Nat} {x1 : Int32} {fs1 : List Value} {h1 : qH} {fs4 : List Value} {h2 : qH}  (e2 : h.2.2 r0 = some (.inr (12, fs1))) (e3 : qCall d 117 [.ref r0, .int x1, .int 0] h (none, h1)) (e5 : h1.2.2 r0 = some (.inr (12, fs4))) (e6 : 29 < fs4.length) (e7 : qset h1 r0 (.inr (12, fs4.set 29 (.int 0))) = h2) (kk : qE d 173 13 [some (.ref r0), some (.int x1), some (.int 0)] [] h2 q): qE d 173 0 [some (.ref r0), some (.int x1), none] [] h q := by
  refine qe_aload_n c173_0 rfl ?_
  refine qe_iload_n c173_1 rfl ?_
  refine qe_iconst (x := 0) c173_2 (by decide) ?_
  refine qe_virtual (b := r0) (as := [.int x1, .int 0]) (r := []) (v := none) (h2 := h1) c173_3 qo173 qK12_263 rfl rfl rfl (by rw [qo117]; exact e2) (Nat.le_of_ble_eq_true rfl) e3 ?_
  refine qe_aload_n c173_6 rfl ?_
  refine qe_iconst (x := 0) c173_7 (by decide) ?_
  refine qe_putfield c173_8 qo173 qF12_245 qz12_29 e5 e6 (by rw [qy12_29]; rfl) ?_
  rw [e7]
  refine qe_iconst (x := 0) c173_11 (by decide) ?_
  refine qe_istore_n (ls2 := [some (.ref r0), some (.int x1), some (.int 0)]) c173_12 (Nat.le_of_ble_eq_true rfl) rfl ?_
  exact kk
theorem b173_13F {d : Nat} {q : Option Value × qH} {h : qH} {r0 : Nat} {x1 : Int32} {x2 : Int32}  (e1 : ¬ ((9 : Int32) ≤ x2)) (kk : qE d 173 19 [some (.ref r0), some (.int x1), some (.int x2)] [] h q): qE d 173 13 [some (.ref r0), some (.int x1), some (.int x2)] [] h q := by
  refine qe_iload_n c173_13 rfl ?_
  refine qe_bipush (x := 9) c173_14 (by decide) ?_
  refine qe_icmp_ge_F (t := 32) c173_16 rfl e1 ?_
  exact kk
theorem b173_13T {d : Nat} {q : Option Value × qH} {h : qH} {r0 : Nat} {x1 : Int32} {x2 : Int32}  (e1 : (9 : Int32) ≤ x2) (kk : qE d 173 32 [some (.ref r0), some (.int x1), some (.int x2)] [] h q): qE d 173 13 [some (.ref r0), some (.int x1), some (.int x2)] [] h q := by
  refine qe_iload_n c173_13 rfl ?_
  refine qe_bipush (x := 9) c173_14 (by decide) ?_
  refine qe_icmp_ge_T (t := 32) c173_16 rfl e1 ?_
  exact kk
theorem b173_19 {d : Nat} {q : Option Value × qH} {h : qH} {r0 : Nat} {x1 : Int32} {x2 : Int32} {fs1 : List Value} {y3 : Nat} {n5 : Nat} {f6 : Nat → Int32} {h1 : qH}  (e2 : h.2.2 r0 = some (.inr (12, fs1))) (e4 : fs1[25]? = some (.ref y3)) (e7 : h.2.2 y3 = some (.inl (0, n5, .inl f6))) (e8 : 0 ≤ (x2 : Int32).toInt ∧ (x2 : Int32).toInt < (n5 : Nat)) (e9 : qset h y3 (.inl (0, n5, .inl (upd f6 ((x2 : Int32).toNatClampNeg) 0))) = h1) (kk : qE d 173 13 [some (.ref r0), some (.int x1), some (.int (x2 + 1))] [] h1 q): qE d 173 19 [some (.ref r0), some (.int x1), some (.int x2)] [] h q := by
  refine qe_aload_n c173_19 rfl ?_
  refine qe_getfield c173_20 qo173 qF12_61 e2 e4 ?_
  refine qe_iload_n c173_23 rfl ?_
  refine qe_iconst (x := 0) c173_24 (by decide) ?_
  refine qe_iastore c173_25 e7 e8 ?_
  rw [e9]
  refine qe_iinc (y := (x2 + 1)) (ls2 := [some (.ref r0), some (.int x1), some (.int (x2 + 1))]) c173_26 rfl (Nat.le_of_ble_eq_true rfl) rfl rfl ?_
  refine qe_goto (t := 13) c173_29 rfl ?_
  exact kk
theorem b173_32 {d : Nat} {q : Option Value × qH} {h : qH} {r0 : Nat} {x1 : Int32} {x2 : Int32}   (kk : qE d 173 34 [some (.ref r0), some (.int x1), some (.int 0)] [] h q): qE d 173 32 [some (.ref r0), some (.int x1), some (.int x2)] [] h q := by
  refine qe_iconst (x := 0) c173_32 (by decide) ?_
  refine qe_istore_n (ls2 := [some (.ref r0), some (.int x1), some (.int 0)]) c173_33 (Nat.le_of_ble_eq_true rfl) rfl ?_
  exact kk
theorem b173_34F {d : Nat} {q : Option Value × qH} {h : qH} {r0 : Nat} {x1 : Int32} {x2 : Int32}  (e1 : ¬ ((14 : Int32) ≤ x2)) (kk : qE d 173 40 [some (.ref r0), some (.int x1), some (.int x2)] [] h q): qE d 173 34 [some (.ref r0), some (.int x1), some (.int x2)] [] h q := by
  refine qe_iload_n c173_34 rfl ?_
  refine qe_bipush (x := 14) c173_35 (by decide) ?_
  refine qe_icmp_ge_F (t := 60) c173_37 rfl e1 ?_
  exact kk
theorem b173_34T {d : Nat} {q : Option Value × qH} {h : qH} {r0 : Nat} {x1 : Int32} {x2 : Int32}  (e1 : (14 : Int32) ≤ x2) (kk : qE d 173 60 [some (.ref r0), some (.int x1), some (.int x2)] [] h q): qE d 173 34 [some (.ref r0), some (.int x1), some (.int x2)] [] h q := by
  refine qe_iload_n c173_34 rfl ?_
  refine qe_bipush (x := 14) c173_35 (by decide) ?_
  refine qe_icmp_ge_T (t := 60) c173_37 rfl e1 ?_
  exact kk
theorem b173_40 {d : Nat} {q : Option Value × qH} {h : qH} {r0 : Nat} {x1 : Int32} {x2 : Int32} {fs1 : List Value} {y3 : Nat} {n5 : Nat} {f6 : Nat → Int64} {h1 : qH} {fs10 : List Value} {y12 : Nat} {n14 : Nat} {f15 : Nat → Int64} {h2 : qH}  (e2 : h.2.2 r0 = some (.inr (12, fs1))) (e4 : fs1[27]? = some (.ref y3)) (e7 : h.2.2 y3 = some (.inl (2, n5, .inr (.inl f6)))) (e8 : 0 ≤ (x2 : Int32).toInt ∧ (x2 : Int32).toInt < (n5 : Nat)) (e9 : qset h y3 (.inl (2, n5, .inr (.inl (vp_updL f6 ((x2 : Int32).toNatClampNeg) 0)))) = h1) (e11 : h1.2.2 r0 = some (.inr (12, fs10))) (e13 : fs10[28]? = some (.ref y12)) (e16 : h1.2.2 y12 = some (.inl (2, n14, .inr (.inl f15)))) (e17 : 0 ≤ (x2 : Int32).toInt ∧ (x2 : Int32).toInt < (n14 : Nat)) (e18 : qset h1 y12 (.inl (2, n14, .inr (.inl (vp_updL f15 ((x2 : Int32).toNatClampNeg) 1)))) = h2) (kk : qE d 173 34 [some (.ref r0), some (.int x1), some (.int (x2 + 1))] [] h2 q): qE d 173 40 [some (.ref r0), some (.int x1), some (.int x2)] [] h q := by
  refine qe_aload_n c173_40 rfl ?_
  refine qe_getfield c173_41 qo173 qF12_67 e2 e4 ?_
  refine qe_iload_n c173_44 rfl ?_
  refine qe_lconst (x := 0) c173_45 (by decide) ?_
  refine qe_lastore c173_46 e7 e8 ?_
  rw [e9]
  refine qe_aload_n c173_47 rfl ?_
  refine qe_getfield c173_48 qo173 qF12_71 e11 e13 ?_
  refine qe_iload_n c173_51 rfl ?_
  refine qe_lconst (x := 1) c173_52 (by decide) ?_
  refine qe_lastore c173_53 e16 e17 ?_
  rw [e18]
  refine qe_iinc (y := (x2 + 1)) (ls2 := [some (.ref r0), some (.int x1), some (.int (x2 + 1))]) c173_54 rfl (Nat.le_of_ble_eq_true rfl) rfl rfl ?_
  refine qe_goto (t := 34) c173_57 rfl ?_
  exact kk
theorem b173_60 {d : Nat} {q : Option Value × qH} {h : qH} {r0 : Nat} {x1 : Int32} {x2 : Int32}   (kk : qE d 173 62 [some (.ref r0), some (.int x1), some (.int 0)] [] h q): qE d 173 60 [some (.ref r0), some (.int x1), some (.int x2)] [] h q := by
  refine qe_iconst (x := 0) c173_60 (by decide) ?_
  refine qe_istore_n (ls2 := [some (.ref r0), some (.int x1), some (.int 0)]) c173_61 (Nat.le_of_ble_eq_true rfl) rfl ?_
  exact kk
theorem b173_62F {d : Nat} {q : Option Value × qH} {h : qH} {r0 : Nat} {x1 : Int32} {x2 : Int32} {fs1 : List Value} {y3 : Int32}  (e2 : h.2.2 r0 = some (.inr (12, fs1))) (e4 : fs1[3]? = some (.int y3)) (e5 : ¬ ((y3 : Int32) ≤ x2)) (kk : qE d 173 70 [some (.ref r0), some (.int x1), some (.int x2)] [] h q): qE d 173 62 [some (.ref r0), some (.int x1), some (.int x2)] [] h q := by
  refine qe_iload_n c173_62 rfl ?_
  refine qe_aload_n c173_63 rfl ?_
  refine qe_getfield c173_64 qo173 qF12_186 e2 e4 ?_
  refine qe_icmp_ge_F (t := 107) c173_67 rfl e5 ?_
  exact kk
theorem b173_62T {d : Nat} {q : Option Value × qH} {h : qH} {r0 : Nat} {x1 : Int32} {x2 : Int32} {fs1 : List Value} {y3 : Int32}  (e2 : h.2.2 r0 = some (.inr (12, fs1))) (e4 : fs1[3]? = some (.int y3)) (e5 : (y3 : Int32) ≤ x2) (kk : qE d 173 107 [some (.ref r0), some (.int x1), some (.int x2)] [] h q): qE d 173 62 [some (.ref r0), some (.int x1), some (.int x2)] [] h q := by
  refine qe_iload_n c173_62 rfl ?_
  refine qe_aload_n c173_63 rfl ?_
  refine qe_getfield c173_64 qo173 qF12_186 e2 e4 ?_
  refine qe_icmp_ge_T (t := 107) c173_67 rfl e5 ?_
  exact kk
theorem b173_70F {d : Nat} {q : Option Value × qH} {h : qH} {r0 : Nat} {x1 : Int32} {x2 : Int32} {fs1 : List Value} {y3 : Nat} {n5 : Nat} {f6 : Nat → Int32}  (e2 : h.2.2 r0 = some (.inr (12, fs1))) (e4 : fs1[24]? = some (.ref y3)) (e7 : h.2.2 y3 = some (.inl (0, n5, .inl f6))) (e8 : 0 ≤ (x2 : Int32).toInt ∧ (x2 : Int32).toInt < (n5 : Nat)) (e9 : ¬ (((f6 (x2 : Int32).toNatClampNeg) : Int32) = x2)) (kk : qE d 173 80 [some (.ref r0), some (.int x1), some (.int x2)] [] h q): qE d 173 70 [some (.ref r0), some (.int x1), some (.int x2)] [] h q := by
  refine qe_aload_n c173_70 rfl ?_
  refine qe_getfield c173_71 qo173 qF12_58 e2 e4 ?_
  refine qe_iload_n c173_74 rfl ?_
  refine qe_iaload c173_75 e7 e8 ?_
  refine qe_iload_n c173_76 rfl ?_
  refine qe_icmp_eq_F (t := 83) c173_77 rfl e9 ?_
  exact kk
theorem b173_70T {d : Nat} {q : Option Value × qH} {h : qH} {r0 : Nat} {x1 : Int32} {x2 : Int32} {fs1 : List Value} {y3 : Nat} {n5 : Nat} {f6 : Nat → Int32}  (e2 : h.2.2 r0 = some (.inr (12, fs1))) (e4 : fs1[24]? = some (.ref y3)) (e7 : h.2.2 y3 = some (.inl (0, n5, .inl f6))) (e8 : 0 ≤ (x2 : Int32).toInt ∧ (x2 : Int32).toInt < (n5 : Nat)) (e9 : ((f6 (x2 : Int32).toNatClampNeg) : Int32) = x2) (kk : qE d 173 83 [some (.ref r0), some (.int x1), some (.int x2)] [] h q): qE d 173 70 [some (.ref r0), some (.int x1), some (.int x2)] [] h q := by
  refine qe_aload_n c173_70 rfl ?_
  refine qe_getfield c173_71 qo173 qF12_58 e2 e4 ?_
  refine qe_iload_n c173_74 rfl ?_
  refine qe_iaload c173_75 e7 e8 ?_
  refine qe_iload_n c173_76 rfl ?_
  refine qe_icmp_eq_T (t := 83) c173_77 rfl e9 ?_
  exact kk
theorem b173_80 {d : Nat} {q : Option Value × qH} {h : qH} {r0 : Nat} {x1 : Int32} {x2 : Int32}   (kk : qE d 173 101 [some (.ref r0), some (.int x1), some (.int x2)] [] h q): qE d 173 80 [some (.ref r0), some (.int x1), some (.int x2)] [] h q := by
  refine qe_goto (t := 101) c173_80 rfl ?_
  exact kk
theorem b173_83 {d : Nat} {q : Option Value × qH} {h : qH} {r0 : Nat} {x1 : Int32} {x2 : Int32} {fs1 : List Value} {h1 : qH} {fs4 : List Value} {h2 : qH} {fs7 : List Value} {h3 : qH}  (e2 : h.2.2 r0 = some (.inr (12, fs1))) (e3 : qCall d 165 [.ref r0, .int x1, .int x2] h (none, h1)) (e5 : h1.2.2 r0 = some (.inr (12, fs4))) (e6 : qCall d 112 [.ref r0, .int x1, .int x2] h1 (none, h2)) (e8 : h2.2.2 r0 = some (.inr (12, fs7))) (e9 : qCall d 111 [.ref r0, .int x1, .int x2] h2 (none, h3)) (kk : qE d 173 101 [some (.ref r0), some (.int x1), some (.int x2)] [] h3 q): qE d 173 83 [some (.ref r0), some (.int x1), some (.int x2)] [] h q := by
  refine qe_aload_n c173_83 rfl ?_
  refine qe_iload_n c173_84 rfl ?_
  refine qe_iload_n c173_85 rfl ?_
  refine qe_virtual (b := r0) (as := [.int x1, .int x2]) (r := []) (v := none) (h2 := h1) c173_86 qo173 qK12_267 rfl rfl rfl (by rw [qo165]; exact e2) (Nat.le_of_ble_eq_true rfl) e3 ?_
  refine qe_aload_n c173_89 rfl ?_
  refine qe_iload_n c173_90 rfl ?_
  refine qe_iload_n c173_91 rfl ?_
  refine qe_virtual (b := r0) (as := [.int x1, .int x2]) (r := []) (v := none) (h2 := h2) c173_92 qo173 qK12_271 rfl rfl rfl (by rw [qo112]; exact e5) (Nat.le_of_ble_eq_true rfl) e6 ?_
  refine qe_aload_n c173_95 rfl ?_
  refine qe_iload_n c173_96 rfl ?_
  refine qe_iload_n c173_97 rfl ?_
  refine qe_virtual (b := r0) (as := [.int x1, .int x2]) (r := []) (v := none) (h2 := h3) c173_98 qo173 qK12_274 rfl rfl rfl (by rw [qo111]; exact e8) (Nat.le_of_ble_eq_true rfl) e9 ?_
  exact kk
theorem b173_101 {d : Nat} {q : Option Value × qH} {h : qH} {r0 : Nat} {x1 : Int32} {x2 : Int32}   (kk : qE d 173 62 [some (.ref r0), some (.int x1), some (.int (x2 + 1))] [] h q): qE d 173 101 [some (.ref r0), some (.int x1), some (.int x2)] [] h q := by
  refine qe_iinc (y := (x2 + 1)) (ls2 := [some (.ref r0), some (.int x1), some (.int (x2 + 1))]) c173_101 rfl (Nat.le_of_ble_eq_true rfl) rfl rfl ?_
  refine qe_goto (t := 62) c173_104 rfl ?_
  exact kk
theorem b173_107 {d : Nat} {h : qH} {r0 : Nat} {x1 : Int32} {x2 : Int32}   : qE d 173 107 [some (.ref r0), some (.int x1), some (.int x2)] [] h (none, h) := by
  exact qe_vret c173_107 qr173
theorem b174_0 {d : Nat} {h : qH} {r0 : Nat} {fs1 : List Value} {h1 : qH} {fs4 : List Value} {h2 : qH}  (e2 : h.2.2 r0 = some (.inr (12, fs1))) (e3 : qCall d 96 [.ref r0, .int 36000, .int 36144] h (none, h1)) (e5 : h1.2.2 r0 = some (.inr (12, fs4))) (e6 : qCall d 173 [.ref r0, .int 36144] h1 (none, h2)) : qE d 174 0 [some (.ref r0)] [] h (none, h2) := by
  refine qe_aload_n c174_0 rfl ?_
  refine qe_ldc (x := 36000) c174_1 qo174 qI12_230 ?_
  refine qe_ldc_w (x := 36144) c174_3 qo174 qI12_451 ?_
  refine qe_virtual (b := r0) (as := [.int 36000, .int 36144]) (r := []) (v := none) (h2 := h1) c174_6 qo174 qK12_444 rfl rfl rfl (by rw [qo96]; exact e2) (Nat.le_of_ble_eq_true rfl) e3 ?_
  refine qe_aload_n c174_9 rfl ?_
  refine qe_ldc_w (x := 36144) c174_10 qo174 qI12_451 ?_
  refine qe_virtual (b := r0) (as := [.int 36144]) (r := []) (v := none) (h2 := h2) c174_13 qo174 qK12_429 rfl rfl rfl (by rw [qo173]; exact e5) (Nat.le_of_ble_eq_true rfl) e6 ?_
  exact qe_vret c174_16 qr174
theorem b175_0 {d : Nat} {q : Option Value × qH} {h : qH} {r0 : Nat} {x1 : Int32} {fs1 : List Value} {h1 : qH} {fs5 : List Value} {h2 : qH}  (e2 : h.2.2 r0 = some (.inr (12, fs1))) (e3 : 59 < fs1.length) (e4 : qset h r0 (.inr (12, fs1.set 59 (.int 0))) = h1) (e6 : h1.2.2 r0 = some (.inr (12, fs5))) (e7 : qCall d 173 [.ref r0, .int x1] h1 (none, h2)) (kk : qE d 175 12 [some (.ref r0), some (.int x1), some (.int 0), none, none] [] h2 q): qE d 175 0 [some (.ref r0), some (.int x1), none, none, none] [] h q := by
  refine qe_aload_n c175_0 rfl ?_
  refine qe_iconst (x := 0) c175_1 (by decide) ?_
  refine qe_putfield c175_2 qo175 qF12_424 qz12_59 e2 e3 (by rw [qy12_59]; rfl) ?_
  rw [e4]
  refine qe_aload_n c175_5 rfl ?_
  refine qe_iload_n c175_6 rfl ?_
  refine qe_virtual (b := r0) (as := [.int x1]) (r := []) (v := none) (h2 := h2) c175_7 qo175 qK12_429 rfl rfl rfl (by rw [qo173]; exact e6) (Nat.le_of_ble_eq_true rfl) e7 ?_
  refine qe_iconst (x := 0) c175_10 (by decide) ?_
  refine qe_istore_n (ls2 := [some (.ref r0), some (.int x1), some (.int 0), none, none]) c175_11 (Nat.le_of_ble_eq_true rfl) rfl ?_
  exact kk
theorem b175_12F {d : Nat} {q : Option Value × qH} {h : qH} {r0 : Nat} {x1 : Int32} {x2 : Int32} {fs1 : List Value} {y3 : Int32}  (e2 : h.2.2 r0 = some (.inr (12, fs1))) (e4 : fs1[29]? = some (.int y3)) (e5 : ¬ ((y3 : Int32) ≤ x2)) (kk : qE d 175 20 [some (.ref r0), some (.int x1), some (.int x2), none, none] [] h q): qE d 175 12 [some (.ref r0), some (.int x1), some (.int x2), none, none] [] h q := by
  refine qe_iload_n c175_12 rfl ?_
  refine qe_aload_n c175_13 rfl ?_
  refine qe_getfield c175_14 qo175 qF12_245 e2 e4 ?_
  refine qe_icmp_ge_F (t := 37) c175_17 rfl e5 ?_
  exact kk
theorem b175_12T {d : Nat} {q : Option Value × qH} {h : qH} {r0 : Nat} {x1 : Int32} {x2 : Int32} {fs1 : List Value} {y3 : Int32}  (e2 : h.2.2 r0 = some (.inr (12, fs1))) (e4 : fs1[29]? = some (.int y3)) (e5 : (y3 : Int32) ≤ x2) (kk : qE d 175 37 [some (.ref r0), some (.int x1), some (.int x2), none, none] [] h q): qE d 175 12 [some (.ref r0), some (.int x1), some (.int x2), none, none] [] h q := by
  refine qe_iload_n c175_12 rfl ?_
  refine qe_aload_n c175_13 rfl ?_
  refine qe_getfield c175_14 qo175 qF12_245 e2 e4 ?_
  refine qe_icmp_ge_T (t := 37) c175_17 rfl e5 ?_
  exact kk
theorem b175_20 {d : Nat} {q : Option Value × qH} {h : qH} {r0 : Nat} {x1 : Int32} {x2 : Int32} {fs1 : List Value} {y3 : Nat} {n5 : Nat} {f6 : Nat → Int32} {h1 : qH}  (e2 : h.2.2 r0 = some (.inr (12, fs1))) (e4 : fs1[30]? = some (.ref y3)) (e7 : h.2.2 y3 = some (.inl (0, n5, .inl f6))) (e8 : 0 ≤ (x2 : Int32).toInt ∧ (x2 : Int32).toInt < (n5 : Nat)) (e9 : qCall d 93 [.ref r0, .int 0, .int (f6 (x2 : Int32).toNatClampNeg)] h (none, h1)) (kk : qE d 175 12 [some (.ref r0), some (.int x1), some (.int (x2 + 1)), none, none] [] h1 q): qE d 175 20 [some (.ref r0), some (.int x1), some (.int x2), none, none] [] h q := by
  refine qe_aload_n c175_20 rfl ?_
  refine qe_iconst (x := 0) c175_21 (by decide) ?_
  refine qe_aload_n c175_22 rfl ?_
  refine qe_getfield c175_23 qo175 qF12_74 e2 e4 ?_
  refine qe_iload_n c175_26 rfl ?_
  refine qe_iaload c175_27 e7 e8 ?_
  refine qe_virtual (b := r0) (as := [.int 0, .int (f6 (x2 : Int32).toNatClampNeg)]) (r := []) (v := none) (h2 := h1) c175_28 qo175 qK12_432 rfl rfl rfl (by rw [qo93]; exact e2) (Nat.le_of_ble_eq_true rfl) e9 ?_
  refine qe_iinc (y := (x2 + 1)) (ls2 := [some (.ref r0), some (.int x1), some (.int (x2 + 1)), none, none]) c175_31 rfl (Nat.le_of_ble_eq_true rfl) rfl rfl ?_
  refine qe_goto (t := 12) c175_34 rfl ?_
  exact kk
theorem b175_37 {d : Nat} {q : Option Value × qH} {h : qH} {r0 : Nat} {x1 : Int32} {x2 : Int32} {fs1 : List Value} {h1 : qH}  (e2 : h.2.2 r0 = some (.inr (12, fs1))) (e3 : qCall d 184 [.ref r0, .int x1] h (none, h1)) (kk : qE d 175 46 [some (.ref r0), some (.int x1), some (.int 0), some (.int 0), none] [] h1 q): qE d 175 37 [some (.ref r0), some (.int x1), some (.int x2), none, none] [] h q := by
  refine qe_aload_n c175_37 rfl ?_
  refine qe_iload_n c175_38 rfl ?_
  refine qe_virtual (b := r0) (as := [.int x1]) (r := []) (v := none) (h2 := h1) c175_39 qo175 qK12_435 rfl rfl rfl (by rw [qo184]; exact e2) (Nat.le_of_ble_eq_true rfl) e3 ?_
  refine qe_iconst (x := 0) c175_42 (by decide) ?_
  refine qe_istore_n (ls2 := [some (.ref r0), some (.int x1), some (.int 0), none, none]) c175_43 (Nat.le_of_ble_eq_true rfl) rfl ?_
  refine qe_iconst (x := 0) c175_44 (by decide) ?_
  refine qe_istore_n (ls2 := [some (.ref r0), some (.int x1), some (.int 0), some (.int 0), none]) c175_45 (Nat.le_of_ble_eq_true rfl) rfl ?_
  exact kk
theorem b175_46F {d : Nat} {q : Option Value × qH} {h : qH} {r0 : Nat} {x1 : Int32} {x2 : Int32} {x3 : Int32} {o4 : Option Value} {fs1 : List Value} {y3 : Int32}  (e2 : h.2.2 r0 = some (.inr (12, fs1))) (e4 : fs1[4]? = some (.int y3)) (e5 : ¬ ((y3 : Int32) ≤ x3)) (kk : qE d 175 54 [some (.ref r0), some (.int x1), some (.int x2), some (.int x3), o4] [] h q): qE d 175 46 [some (.ref r0), some (.int x1), some (.int x2), some (.int x3), o4] [] h q := by
  refine qe_iload_n c175_46 rfl ?_
  refine qe_aload_n c175_47 rfl ?_
  refine qe_getfield c175_48 qo175 qF12_194 e2 e4 ?_
  refine qe_icmp_ge_F (t := 133) c175_51 rfl e5 ?_
  exact kk
theorem b175_46T {d : Nat} {q : Option Value × qH} {h : qH} {r0 : Nat} {x1 : Int32} {x2 : Int32} {x3 : Int32} {o4 : Option Value} {fs1 : List Value} {y3 : Int32}  (e2 : h.2.2 r0 = some (.inr (12, fs1))) (e4 : fs1[4]? = some (.int y3)) (e5 : (y3 : Int32) ≤ x3) (kk : qE d 175 133 [some (.ref r0), some (.int x1), some (.int x2), some (.int x3), o4] [] h q): qE d 175 46 [some (.ref r0), some (.int x1), some (.int x2), some (.int x3), o4] [] h q := by
  refine qe_iload_n c175_46 rfl ?_
  refine qe_aload_n c175_47 rfl ?_
  refine qe_getfield c175_48 qo175 qF12_194 e2 e4 ?_
  refine qe_icmp_ge_T (t := 133) c175_51 rfl e5 ?_
  exact kk
theorem b175_54F {d : Nat} {q : Option Value × qH} {h : qH} {r0 : Nat} {x1 : Int32} {x2 : Int32} {x3 : Int32} {o4 : Option Value} {fs1 : List Value} {y3 : Nat} {n5 : Nat} {f6 : Nat → Int32}  (e2 : h.2.2 r0 = some (.inr (12, fs1))) (e4 : fs1[10]? = some (.ref y3)) (e7 : h.2.2 y3 = some (.inl (0, n5, .inl f6))) (e8 : 0 ≤ (((x1 + 28) + x3) : Int32).toInt ∧ (((x1 + 28) + x3) : Int32).toInt < (n5 : Nat)) (e10 : 0 ≤ ((x1 + x3) : Int32).toInt ∧ ((x1 + x3) : Int32).toInt < (n5 : Nat)) (e11 : ((f6 ((x1 + x3) : Int32).toNatClampNeg) : Int32) = 0) (kk : qE d 175 78 [some (.ref r0), some (.int x1), some (.int x2), some (.int x3), some (.int (f6 (((x1 + 28) + x3) : Int32).toNatClampNeg))] [] h q): qE d 175 54 [some (.ref r0), some (.int x1), some (.int x2), some (.int x3), o4] [] h q := by
  refine qe_aload_n c175_54 rfl ?_
  refine qe_getfield c175_55 qo175 qF12_14 e2 e4 ?_
  refine qe_iload_n c175_58 rfl ?_
  refine qe_bipush (x := 28) c175_59 (by decide) ?_
  refine qe_iadd c175_61 ?_
  refine qe_iload_n c175_62 rfl ?_
  refine qe_iadd c175_63 ?_
  refine qe_iaload c175_64 e7 e8 ?_
  refine qe_istore (ls2 := [some (.ref r0), some (.int x1), some (.int x2), some (.int x3), some (.int (f6 (((x1 + 28) + x3) : Int32).toNatClampNeg))]) c175_65 (Nat.le_of_ble_eq_true rfl) rfl ?_
  refine qe_aload_n c175_67 rfl ?_
  refine qe_getfield c175_68 qo175 qF12_14 e2 e4 ?_
  refine qe_iload_n c175_71 rfl ?_
  refine qe_iload_n c175_72 rfl ?_
  refine qe_iadd c175_73 ?_
  refine qe_iaload c175_74 e7 e10 ?_
  refine qe_if_ne_F (t := 127) c175_75 rfl e11 ?_
  exact kk
theorem b175_54T {d : Nat} {q : Option Value × qH} {h : qH} {r0 : Nat} {x1 : Int32} {x2 : Int32} {x3 : Int32} {o4 : Option Value} {fs1 : List Value} {y3 : Nat} {n5 : Nat} {f6 : Nat → Int32}  (e2 : h.2.2 r0 = some (.inr (12, fs1))) (e4 : fs1[10]? = some (.ref y3)) (e7 : h.2.2 y3 = some (.inl (0, n5, .inl f6))) (e8 : 0 ≤ (((x1 + 28) + x3) : Int32).toInt ∧ (((x1 + 28) + x3) : Int32).toInt < (n5 : Nat)) (e10 : 0 ≤ ((x1 + x3) : Int32).toInt ∧ ((x1 + x3) : Int32).toInt < (n5 : Nat)) (e11 : ¬ (((f6 ((x1 + x3) : Int32).toNatClampNeg) : Int32) = 0)) (kk : qE d 175 127 [some (.ref r0), some (.int x1), some (.int x2), some (.int x3), some (.int (f6 (((x1 + 28) + x3) : Int32).toNatClampNeg))] [] h q): qE d 175 54 [some (.ref r0), some (.int x1), some (.int x2), some (.int x3), o4] [] h q := by
  refine qe_aload_n c175_54 rfl ?_
  refine qe_getfield c175_55 qo175 qF12_14 e2 e4 ?_
  refine qe_iload_n c175_58 rfl ?_
  refine qe_bipush (x := 28) c175_59 (by decide) ?_
  refine qe_iadd c175_61 ?_
  refine qe_iload_n c175_62 rfl ?_
  refine qe_iadd c175_63 ?_
  refine qe_iaload c175_64 e7 e8 ?_
  refine qe_istore (ls2 := [some (.ref r0), some (.int x1), some (.int x2), some (.int x3), some (.int (f6 (((x1 + 28) + x3) : Int32).toNatClampNeg))]) c175_65 (Nat.le_of_ble_eq_true rfl) rfl ?_
  refine qe_aload_n c175_67 rfl ?_
  refine qe_getfield c175_68 qo175 qF12_14 e2 e4 ?_
  refine qe_iload_n c175_71 rfl ?_
  refine qe_iload_n c175_72 rfl ?_
  refine qe_iadd c175_73 ?_
  refine qe_iaload c175_74 e7 e10 ?_
  refine qe_if_ne_T (t := 127) c175_75 rfl e11 ?_
  exact kk
theorem b175_78F {d : Nat} {q : Option Value × qH} {h : qH} {r0 : Nat} {x1 : Int32} {x2 : Int32} {x3 : Int32} {x4 : Int32}  (e1 : ¬ ((x4 : Int32) = 0)) (kk : qE d 175 83 [some (.ref r0), some (.int x1), some (.int x2), some (.int x3), some (.int x4)] [] h q): qE d 175 78 [some (.ref r0), some (.int x1), some (.int x2), some (.int x3), some (.int x4)] [] h q := by
  refine qe_iload c175_78 rfl ?_
  refine qe_if_eq_F (t := 127) c175_80 rfl e1 ?_
  exact kk
theorem b175_78T {d : Nat} {q : Option Value × qH} {h : qH} {r0 : Nat} {x1 : Int32} {x2 : Int32} {x3 : Int32} {x4 : Int32}  (e1 : (x4 : Int32) = 0) (kk : qE d 175 127 [some (.ref r0), some (.int x1), some (.int x2), some (.int x3), some (.int x4)] [] h q): qE d 175 78 [some (.ref r0), some (.int x1), some (.int x2), some (.int x3), some (.int x4)] [] h q := by
  refine qe_iload c175_78 rfl ?_
  refine qe_if_eq_T (t := 127) c175_80 rfl e1 ?_
  exact kk
theorem b175_83F {d : Nat} {q : Option Value × qH} {h : qH} {r0 : Nat} {x1 : Int32} {x2 : Int32} {x3 : Int32} {x4 : Int32} {fs1 : List Value} {y3 : Nat} {n5 : Nat} {f6 : Nat → Int32} {y9 : Nat} {n11 : Nat} {f12 : Nat → Int32}  (e2 : h.2.2 r0 = some (.inr (12, fs1))) (e4 : fs1[10]? = some (.ref y3)) (e7 : h.2.2 y3 = some (.inl (0, n5, .inl f6))) (e8 : 0 ≤ (((x1 + 14) + x3) : Int32).toInt ∧ (((x1 + 14) + x3) : Int32).toInt < (n5 : Nat)) (e10 : fs1[17]? = some (.ref y9)) (e13 : h.2.2 y9 = some (.inl (0, n11, .inl f12))) (e14 : 0 ≤ (x3 : Int32).toInt ∧ (x3 : Int32).toInt < (n11 : Nat)) (e15 : ¬ (((f12 (x3 : Int32).toNatClampNeg) : Int32) ≤ ((f6 (((x1 + 14) + x3) : Int32).toNatClampNeg) + x4))) (kk : qE d 175 106 [some (.ref r0), some (.int x1), some (.int x2), some (.int x3), some (.int x4)] [] h q): qE d 175 83 [some (.ref r0), some (.int x1), some (.int x2), some (.int x3), some (.int x4)] [] h q := by
  refine qe_aload_n c175_83 rfl ?_
  refine qe_getfield c175_84 qo175 qF12_14 e2 e4 ?_
  refine qe_iload_n c175_87 rfl ?_
  refine qe_bipush (x := 14) c175_88 (by decide) ?_
  refine qe_iadd c175_90 ?_
  refine qe_iload_n c175_91 rfl ?_
  refine qe_iadd c175_92 ?_
  refine qe_iaload c175_93 e7 e8 ?_
  refine qe_iload c175_94 rfl ?_
  refine qe_iadd c175_96 ?_
  refine qe_aload_n c175_97 rfl ?_
  refine qe_getfield c175_98 qo175 qF12_36 e2 e10 ?_
  refine qe_iload_n c175_101 rfl ?_
  refine qe_iaload c175_102 e13 e14 ?_
  refine qe_icmp_ge_F (t := 109) c175_103 rfl e15 ?_
  exact kk
theorem b175_83T {d : Nat} {q : Option Value × qH} {h : qH} {r0 : Nat} {x1 : Int32} {x2 : Int32} {x3 : Int32} {x4 : Int32} {fs1 : List Value} {y3 : Nat} {n5 : Nat} {f6 : Nat → Int32} {y9 : Nat} {n11 : Nat} {f12 : Nat → Int32}  (e2 : h.2.2 r0 = some (.inr (12, fs1))) (e4 : fs1[10]? = some (.ref y3)) (e7 : h.2.2 y3 = some (.inl (0, n5, .inl f6))) (e8 : 0 ≤ (((x1 + 14) + x3) : Int32).toInt ∧ (((x1 + 14) + x3) : Int32).toInt < (n5 : Nat)) (e10 : fs1[17]? = some (.ref y9)) (e13 : h.2.2 y9 = some (.inl (0, n11, .inl f12))) (e14 : 0 ≤ (x3 : Int32).toInt ∧ (x3 : Int32).toInt < (n11 : Nat)) (e15 : ((f12 (x3 : Int32).toNatClampNeg) : Int32) ≤ ((f6 (((x1 + 14) + x3) : Int32).toNatClampNeg) + x4)) (kk : qE d 175 109 [some (.ref r0), some (.int x1), some (.int x2), some (.int x3), some (.int x4)] [] h q): qE d 175 83 [some (.ref r0), some (.int x1), some (.int x2), some (.int x3), some (.int x4)] [] h q := by
  refine qe_aload_n c175_83 rfl ?_
  refine qe_getfield c175_84 qo175 qF12_14 e2 e4 ?_
  refine qe_iload_n c175_87 rfl ?_
  refine qe_bipush (x := 14) c175_88 (by decide) ?_
  refine qe_iadd c175_90 ?_
  refine qe_iload_n c175_91 rfl ?_
  refine qe_iadd c175_92 ?_
  refine qe_iaload c175_93 e7 e8 ?_
  refine qe_iload c175_94 rfl ?_
  refine qe_iadd c175_96 ?_
  refine qe_aload_n c175_97 rfl ?_
  refine qe_getfield c175_98 qo175 qF12_36 e2 e10 ?_
  refine qe_iload_n c175_101 rfl ?_
  refine qe_iaload c175_102 e13 e14 ?_
  refine qe_icmp_ge_T (t := 109) c175_103 rfl e15 ?_
  exact kk
theorem b175_106 {d : Nat} {q : Option Value × qH} {h : qH} {r0 : Nat} {x1 : Int32} {x2 : Int32} {x3 : Int32} {x4 : Int32}   (kk : qE d 175 127 [some (.ref r0), some (.int x1), some (.int x2), some (.int x3), some (.int x4)] [] h q): qE d 175 106 [some (.ref r0), some (.int x1), some (.int x2), some (.int x3), some (.int x4)] [] h q := by
  refine qe_goto (t := 127) c175_106 rfl ?_
  exact kk
theorem b175_109 {d : Nat} {q : Option Value × qH} {h : qH} {r0 : Nat} {x1 : Int32} {x2 : Int32} {x3 : Int32} {x4 : Int32} {fs1 : List Value} {y3 : Nat} {n5 : Nat} {f6 : Nat → Int32} {h1 : qH} {fs10 : List Value} {h2 : qH}  (e2 : h.2.2 r0 = some (.inr (12, fs1))) (e4 : fs1[10]? = some (.ref y3)) (e7 : h.2.2 y3 = some (.inl (0, n5, .inl f6))) (e8 : 0 ≤ ((x1 + x3) : Int32).toInt ∧ ((x1 + x3) : Int32).toInt < (n5 : Nat)) (e9 : qset h y3 (.inl (0, n5, .inl (upd f6 (((x1 + x3) : Int32).toNatClampNeg) 3))) = h1) (e11 : h1.2.2 r0 = some (.inr (12, fs10))) (e12 : qCall d 93 [.ref r0, .int 1, .int x3] h1 (none, h2)) (kk : qE d 175 127 [some (.ref r0), some (.int x1), some (.int (x2 + 1)), some (.int x3), some (.int x4)] [] h2 q): qE d 175 109 [some (.ref r0), some (.int x1), some (.int x2), some (.int x3), some (.int x4)] [] h q := by
  refine qe_aload_n c175_109 rfl ?_
  refine qe_getfield c175_110 qo175 qF12_14 e2 e4 ?_
  refine qe_iload_n c175_113 rfl ?_
  refine qe_iload_n c175_114 rfl ?_
  refine qe_iadd c175_115 ?_
  refine qe_iconst (x := 3) c175_116 (by decide) ?_
  refine qe_iastore c175_117 e7 e8 ?_
  rw [e9]
  refine qe_aload_n c175_118 rfl ?_
  refine qe_iconst (x := 1) c175_119 (by decide) ?_
  refine qe_iload_n c175_120 rfl ?_
  refine qe_virtual (b := r0) (as := [.int 1, .int x3]) (r := []) (v := none) (h2 := h2) c175_121 qo175 qK12_432 rfl rfl rfl (by rw [qo93]; exact e11) (Nat.le_of_ble_eq_true rfl) e12 ?_
  refine qe_iinc (y := (x2 + 1)) (ls2 := [some (.ref r0), some (.int x1), some (.int (x2 + 1)), some (.int x3), some (.int x4)]) c175_124 rfl (Nat.le_of_ble_eq_true rfl) rfl rfl ?_
  exact kk
theorem b175_127 {d : Nat} {q : Option Value × qH} {h : qH} {r0 : Nat} {x1 : Int32} {x2 : Int32} {x3 : Int32} {x4 : Int32}   (kk : qE d 175 46 [some (.ref r0), some (.int x1), some (.int x2), some (.int (x3 + 1)), some (.int x4)] [] h q): qE d 175 127 [some (.ref r0), some (.int x1), some (.int x2), some (.int x3), some (.int x4)] [] h q := by
  refine qe_iinc (y := (x3 + 1)) (ls2 := [some (.ref r0), some (.int x1), some (.int x2), some (.int (x3 + 1)), some (.int x4)]) c175_127 rfl (Nat.le_of_ble_eq_true rfl) rfl rfl ?_
  refine qe_goto (t := 46) c175_130 rfl ?_
  exact kk
theorem b175_133 {d : Nat} {q : Option Value × qH} {h : qH} {r0 : Nat} {x1 : Int32} {x2 : Int32} {x3 : Int32} {o4 : Option Value}   (kk : qE d 175 135 [some (.ref r0), some (.int x1), some (.int x2), some (.int 0), o4] [] h q): qE d 175 133 [some (.ref r0), some (.int x1), some (.int x2), some (.int x3), o4] [] h q := by
  refine qe_iconst (x := 0) c175_133 (by decide) ?_
  refine qe_istore_n (ls2 := [some (.ref r0), some (.int x1), some (.int x2), some (.int 0), o4]) c175_134 (Nat.le_of_ble_eq_true rfl) rfl ?_
  exact kk
theorem b175_135F {d : Nat} {q : Option Value × qH} {h : qH} {r0 : Nat} {x1 : Int32} {x2 : Int32} {x3 : Int32} {o4 : Option Value} {fs1 : List Value} {y3 : Int32}  (e2 : h.2.2 r0 = some (.inr (12, fs1))) (e4 : fs1[4]? = some (.int y3)) (e5 : ¬ ((y3 : Int32) ≤ x3)) (kk : qE d 175 143 [some (.ref r0), some (.int x1), some (.int x2), some (.int x3), o4] [] h q): qE d 175 135 [some (.ref r0), some (.int x1), some (.int x2), some (.int x3), o4] [] h q := by
  refine qe_iload_n c175_135 rfl ?_
  refine qe_aload_n c175_136 rfl ?_
  refine qe_getfield c175_137 qo175 qF12_194 e2 e4 ?_
  refine qe_icmp_ge_F (t := 191) c175_140 rfl e5 ?_
  exact kk
theorem b175_135T {d : Nat} {q : Option Value × qH} {h : qH} {r0 : Nat} {x1 : Int32} {x2 : Int32} {x3 : Int32} {o4 : Option Value} {fs1 : List Value} {y3 : Int32}  (e2 : h.2.2 r0 = some (.inr (12, fs1))) (e4 : fs1[4]? = some (.int y3)) (e5 : (y3 : Int32) ≤ x3) (kk : qE d 175 191 [some (.ref r0), some (.int x1), some (.int x2), some (.int x3), o4] [] h q): qE d 175 135 [some (.ref r0), some (.int x1), some (.int x2), some (.int x3), o4] [] h q := by
  refine qe_iload_n c175_135 rfl ?_
  refine qe_aload_n c175_136 rfl ?_
  refine qe_getfield c175_137 qo175 qF12_194 e2 e4 ?_
  refine qe_icmp_ge_T (t := 191) c175_140 rfl e5 ?_
  exact kk
theorem b175_143F {d : Nat} {q : Option Value × qH} {h : qH} {r0 : Nat} {x1 : Int32} {x2 : Int32} {x3 : Int32} {o4 : Option Value} {fs1 : List Value} {y3 : Nat} {n5 : Nat} {f6 : Nat → Int32}  (e2 : h.2.2 r0 = some (.inr (12, fs1))) (e4 : fs1[10]? = some (.ref y3)) (e7 : h.2.2 y3 = some (.inl (0, n5, .inl f6))) (e8 : 0 ≤ ((x1 + x3) : Int32).toInt ∧ ((x1 + x3) : Int32).toInt < (n5 : Nat)) (e9 : ((f6 ((x1 + x3) : Int32).toNatClampNeg) : Int32) = 0) (kk : qE d 175 154 [some (.ref r0), some (.int x1), some (.int x2), some (.int x3), o4] [] h q): qE d 175 143 [some (.ref r0), some (.int x1), some (.int x2), some (.int x3), o4] [] h q := by
  refine qe_aload_n c175_143 rfl ?_
  refine qe_getfield c175_144 qo175 qF12_14 e2 e4 ?_
  refine qe_iload_n c175_147 rfl ?_
  refine qe_iload_n c175_148 rfl ?_
  refine qe_iadd c175_149 ?_
  refine qe_iaload c175_150 e7 e8 ?_
  refine qe_if_ne_F (t := 185) c175_151 rfl e9 ?_
  exact kk
theorem b175_143T {d : Nat} {q : Option Value × qH} {h : qH} {r0 : Nat} {x1 : Int32} {x2 : Int32} {x3 : Int32} {o4 : Option Value} {fs1 : List Value} {y3 : Nat} {n5 : Nat} {f6 : Nat → Int32}  (e2 : h.2.2 r0 = some (.inr (12, fs1))) (e4 : fs1[10]? = some (.ref y3)) (e7 : h.2.2 y3 = some (.inl (0, n5, .inl f6))) (e8 : 0 ≤ ((x1 + x3) : Int32).toInt ∧ ((x1 + x3) : Int32).toInt < (n5 : Nat)) (e9 : ¬ (((f6 ((x1 + x3) : Int32).toNatClampNeg) : Int32) = 0)) (kk : qE d 175 185 [some (.ref r0), some (.int x1), some (.int x2), some (.int x3), o4] [] h q): qE d 175 143 [some (.ref r0), some (.int x1), some (.int x2), some (.int x3), o4] [] h q := by
  refine qe_aload_n c175_143 rfl ?_
  refine qe_getfield c175_144 qo175 qF12_14 e2 e4 ?_
  refine qe_iload_n c175_147 rfl ?_
  refine qe_iload_n c175_148 rfl ?_
  refine qe_iadd c175_149 ?_
  refine qe_iaload c175_150 e7 e8 ?_
  refine qe_if_ne_T (t := 185) c175_151 rfl e9 ?_
  exact kk
theorem b175_154F {d : Nat} {q : Option Value × qH} {h : qH} {r0 : Nat} {x1 : Int32} {x2 : Int32} {x3 : Int32} {o4 : Option Value} {fs1 : List Value} {h1 : qH} {z3 : Int32}  (e2 : h.2.2 r0 = some (.inr (12, fs1))) (e4 : qCall d 122 [.ref r0, .int x1, .int 1, .int x3] h ((some (.int z3)), h1)) (e5 : (z3 : Int32) = 0) (kk : qE d 175 164 [some (.ref r0), some (.int x1), some (.int x2), some (.int x3), o4] [] h1 q): qE d 175 154 [some (.ref r0), some (.int x1), some (.int x2), some (.int x3), o4] [] h q := by
  refine qe_aload_n c175_154 rfl ?_
  refine qe_iload_n c175_155 rfl ?_
  refine qe_iconst (x := 1) c175_156 (by decide) ?_
  refine qe_iload_n c175_157 rfl ?_
  refine qe_virtual (b := r0) (as := [.int x1, .int 1, .int x3]) (r := []) (v := (some (.int z3))) (h2 := h1) c175_158 qo175 qK12_438 rfl rfl rfl (by rw [qo122]; exact e2) (Nat.le_of_ble_eq_true rfl) e4 ?_
  refine qe_if_ne_F (t := 167) c175_161 rfl e5 ?_
  exact kk
theorem b175_154T {d : Nat} {q : Option Value × qH} {h : qH} {r0 : Nat} {x1 : Int32} {x2 : Int32} {x3 : Int32} {o4 : Option Value} {fs1 : List Value} {h1 : qH} {z3 : Int32}  (e2 : h.2.2 r0 = some (.inr (12, fs1))) (e4 : qCall d 122 [.ref r0, .int x1, .int 1, .int x3] h ((some (.int z3)), h1)) (e5 : ¬ ((z3 : Int32) = 0)) (kk : qE d 175 167 [some (.ref r0), some (.int x1), some (.int x2), some (.int x3), o4] [] h1 q): qE d 175 154 [some (.ref r0), some (.int x1), some (.int x2), some (.int x3), o4] [] h q := by
  refine qe_aload_n c175_154 rfl ?_
  refine qe_iload_n c175_155 rfl ?_
  refine qe_iconst (x := 1) c175_156 (by decide) ?_
  refine qe_iload_n c175_157 rfl ?_
  refine qe_virtual (b := r0) (as := [.int x1, .int 1, .int x3]) (r := []) (v := (some (.int z3))) (h2 := h1) c175_158 qo175 qK12_438 rfl rfl rfl (by rw [qo122]; exact e2) (Nat.le_of_ble_eq_true rfl) e4 ?_
  refine qe_if_ne_T (t := 167) c175_161 rfl e5 ?_
  exact kk
theorem b175_164 {d : Nat} {q : Option Value × qH} {h : qH} {r0 : Nat} {x1 : Int32} {x2 : Int32} {x3 : Int32} {o4 : Option Value}   (kk : qE d 175 185 [some (.ref r0), some (.int x1), some (.int x2), some (.int x3), o4] [] h q): qE d 175 164 [some (.ref r0), some (.int x1), some (.int x2), some (.int x3), o4] [] h q := by
  refine qe_goto (t := 185) c175_164 rfl ?_
  exact kk
theorem b175_167 {d : Nat} {q : Option Value × qH} {h : qH} {r0 : Nat} {x1 : Int32} {x2 : Int32} {x3 : Int32} {o4 : Option Value} {fs1 : List Value} {y3 : Nat} {n5 : Nat} {f6 : Nat → Int32} {h1 : qH} {fs10 : List Value} {h2 : qH}  (e2 : h.2.2 r0 = some (.inr (12, fs1))) (e4 : fs1[10]? = some (.ref y3)) (e7 : h.2.2 y3 = some (.inl (0, n5, .inl f6))) (e8 : 0 ≤ ((x1 + x3) : Int32).toInt ∧ ((x1 + x3) : Int32).toInt < (n5 : Nat)) (e9 : qset h y3 (.inl (0, n5, .inl (upd f6 (((x1 + x3) : Int32).toNatClampNeg) 2))) = h1) (e11 : h1.2.2 r0 = some (.inr (12, fs10))) (e12 : qCall d 93 [.ref r0, .int 2, .int x3] h1 (none, h2)) (kk : qE d 175 185 [some (.ref r0), some (.int x1), some (.int (x2 + 1)), some (.int x3), o4] [] h2 q): qE d 175 167 [some (.ref r0), some (.int x1), some (.int x2), some (.int x3), o4] [] h q := by
  refine qe_aload_n c175_167 rfl ?_
  refine qe_getfield c175_168 qo175 qF12_14 e2 e4 ?_
  refine qe_iload_n c175_171 rfl ?_
  refine qe_iload_n c175_172 rfl ?_
  refine qe_iadd c175_173 ?_
  refine qe_iconst (x := 2) c175_174 (by decide) ?_
  refine qe_iastore c175_175 e7 e8 ?_
  rw [e9]
  refine qe_aload_n c175_176 rfl ?_
  refine qe_iconst (x := 2) c175_177 (by decide) ?_
  refine qe_iload_n c175_178 rfl ?_
  refine qe_virtual (b := r0) (as := [.int 2, .int x3]) (r := []) (v := none) (h2 := h2) c175_179 qo175 qK12_432 rfl rfl rfl (by rw [qo93]; exact e11) (Nat.le_of_ble_eq_true rfl) e12 ?_
  refine qe_iinc (y := (x2 + 1)) (ls2 := [some (.ref r0), some (.int x1), some (.int (x2 + 1)), some (.int x3), o4]) c175_182 rfl (Nat.le_of_ble_eq_true rfl) rfl rfl ?_
  exact kk
theorem b175_185 {d : Nat} {q : Option Value × qH} {h : qH} {r0 : Nat} {x1 : Int32} {x2 : Int32} {x3 : Int32} {o4 : Option Value}   (kk : qE d 175 135 [some (.ref r0), some (.int x1), some (.int x2), some (.int (x3 + 1)), o4] [] h q): qE d 175 185 [some (.ref r0), some (.int x1), some (.int x2), some (.int x3), o4] [] h q := by
  refine qe_iinc (y := (x3 + 1)) (ls2 := [some (.ref r0), some (.int x1), some (.int x2), some (.int (x3 + 1)), o4]) c175_185 rfl (Nat.le_of_ble_eq_true rfl) rfl rfl ?_
  refine qe_goto (t := 135) c175_188 rfl ?_
  exact kk
theorem b175_191 {d : Nat} {q : Option Value × qH} {h : qH} {r0 : Nat} {x1 : Int32} {x2 : Int32} {x3 : Int32} {o4 : Option Value}   (kk : qE d 175 193 [some (.ref r0), some (.int x1), some (.int x2), some (.int 0), o4] [] h q): qE d 175 191 [some (.ref r0), some (.int x1), some (.int x2), some (.int x3), o4] [] h q := by
  refine qe_iconst (x := 0) c175_191 (by decide) ?_
  refine qe_istore_n (ls2 := [some (.ref r0), some (.int x1), some (.int x2), some (.int 0), o4]) c175_192 (Nat.le_of_ble_eq_true rfl) rfl ?_
  exact kk
theorem b175_193F {d : Nat} {q : Option Value × qH} {h : qH} {r0 : Nat} {x1 : Int32} {x2 : Int32} {x3 : Int32} {o4 : Option Value} {fs1 : List Value} {y3 : Int32}  (e2 : h.2.2 r0 = some (.inr (12, fs1))) (e4 : fs1[5]? = some (.int y3)) (e5 : ¬ ((y3 : Int32) ≤ x3)) (kk : qE d 175 201 [some (.ref r0), some (.int x1), some (.int x2), some (.int x3), o4] [] h q): qE d 175 193 [some (.ref r0), some (.int x1), some (.int x2), some (.int x3), o4] [] h q := by
  refine qe_iload_n c175_193 rfl ?_
  refine qe_aload_n c175_194 rfl ?_
  refine qe_getfield c175_195 qo175 qF12_197 e2 e4 ?_
  refine qe_icmp_ge_F (t := 252) c175_198 rfl e5 ?_
  exact kk
theorem b175_193T {d : Nat} {q : Option Value × qH} {h : qH} {r0 : Nat} {x1 : Int32} {x2 : Int32} {x3 : Int32} {o4 : Option Value} {fs1 : List Value} {y3 : Int32}  (e2 : h.2.2 r0 = some (.inr (12, fs1))) (e4 : fs1[5]? = some (.int y3)) (e5 : (y3 : Int32) ≤ x3) (kk : qE d 175 252 [some (.ref r0), some (.int x1), some (.int x2), some (.int x3), o4] [] h q): qE d 175 193 [some (.ref r0), some (.int x1), some (.int x2), some (.int x3), o4] [] h q := by
  refine qe_iload_n c175_193 rfl ?_
  refine qe_aload_n c175_194 rfl ?_
  refine qe_getfield c175_195 qo175 qF12_197 e2 e4 ?_
  refine qe_icmp_ge_T (t := 252) c175_198 rfl e5 ?_
  exact kk
theorem b175_201F {d : Nat} {q : Option Value × qH} {h : qH} {r0 : Nat} {x1 : Int32} {x2 : Int32} {x3 : Int32} {o4 : Option Value} {fs1 : List Value} {y3 : Nat} {n5 : Nat} {f6 : Nat → Int32}  (e2 : h.2.2 r0 = some (.inr (12, fs1))) (e4 : fs1[10]? = some (.ref y3)) (e7 : h.2.2 y3 = some (.inl (0, n5, .inl f6))) (e8 : 0 ≤ (((x1 + 42) + x3) : Int32).toInt ∧ (((x1 + 42) + x3) : Int32).toInt < (n5 : Nat)) (e9 : ¬ (((f6 (((x1 + 42) + x3) : Int32).toNatClampNeg) : Int32) = 0)) (kk : qE d 175 215 [some (.ref r0), some (.int x1), some (.int x2), some (.int x3), o4] [] h q): qE d 175 201 [some (.ref r0), some (.int x1), some (.int x2), some (.int x3), o4] [] h q := by
  refine qe_aload_n c175_201 rfl ?_
  refine qe_getfield c175_202 qo175 qF12_14 e2 e4 ?_
  refine qe_iload_n c175_205 rfl ?_
  refine qe_bipush (x := 42) c175_206 (by decide) ?_
  refine qe_iadd c175_208 ?_
  refine qe_iload_n c175_209 rfl ?_
  refine qe_iadd c175_210 ?_
  refine qe_iaload c175_211 e7 e8 ?_
  refine qe_if_eq_F (t := 246) c175_212 rfl e9 ?_
  exact kk
theorem b175_201T {d : Nat} {q : Option Value × qH} {h : qH} {r0 : Nat} {x1 : Int32} {x2 : Int32} {x3 : Int32} {o4 : Option Value} {fs1 : List Value} {y3 : Nat} {n5 : Nat} {f6 : Nat → Int32}  (e2 : h.2.2 r0 = some (.inr (12, fs1))) (e4 : fs1[10]? = some (.ref y3)) (e7 : h.2.2 y3 = some (.inl (0, n5, .inl f6))) (e8 : 0 ≤ (((x1 + 42) + x3) : Int32).toInt ∧ (((x1 + 42) + x3) : Int32).toInt < (n5 : Nat)) (e9 : ((f6 (((x1 + 42) + x3) : Int32).toNatClampNeg) : Int32) = 0) (kk : qE d 175 246 [some (.ref r0), some (.int x1), some (.int x2), some (.int x3), o4] [] h q): qE d 175 201 [some (.ref r0), some (.int x1), some (.int x2), some (.int x3), o4] [] h q := by
  refine qe_aload_n c175_201 rfl ?_
  refine qe_getfield c175_202 qo175 qF12_14 e2 e4 ?_
  refine qe_iload_n c175_205 rfl ?_
  refine qe_bipush (x := 42) c175_206 (by decide) ?_
  refine qe_iadd c175_208 ?_
  refine qe_iload_n c175_209 rfl ?_
  refine qe_iadd c175_210 ?_
  refine qe_iaload c175_211 e7 e8 ?_
  refine qe_if_eq_T (t := 246) c175_212 rfl e9 ?_
  exact kk
theorem b175_215F {d : Nat} {q : Option Value × qH} {h : qH} {r0 : Nat} {x1 : Int32} {x2 : Int32} {x3 : Int32} {o4 : Option Value} {fs1 : List Value} {h1 : qH} {z3 : Int32}  (e2 : h.2.2 r0 = some (.inr (12, fs1))) (e4 : qCall d 122 [.ref r0, .int x1, .int 0, .int x3] h ((some (.int z3)), h1)) (e5 : (z3 : Int32) = 0) (kk : qE d 175 225 [some (.ref r0), some (.int x1), some (.int x2), some (.int x3), o4] [] h1 q): qE d 175 215 [some (.ref r0), some (.int x1), some (.int x2), some (.int x3), o4] [] h q := by
  refine qe_aload_n c175_215 rfl ?_
  refine qe_iload_n c175_216 rfl ?_
  refine qe_iconst (x := 0) c175_217 (by decide) ?_
  refine qe_iload_n c175_218 rfl ?_
  refine qe_virtual (b := r0) (as := [.int x1, .int 0, .int x3]) (r := []) (v := (some (.int z3))) (h2 := h1) c175_219 qo175 qK12_438 rfl rfl rfl (by rw [qo122]; exact e2) (Nat.le_of_ble_eq_true rfl) e4 ?_
  refine qe_if_ne_F (t := 228) c175_222 rfl e5 ?_
  exact kk
theorem b175_215T {d : Nat} {q : Option Value × qH} {h : qH} {r0 : Nat} {x1 : Int32} {x2 : Int32} {x3 : Int32} {o4 : Option Value} {fs1 : List Value} {h1 : qH} {z3 : Int32}  (e2 : h.2.2 r0 = some (.inr (12, fs1))) (e4 : qCall d 122 [.ref r0, .int x1, .int 0, .int x3] h ((some (.int z3)), h1)) (e5 : ¬ ((z3 : Int32) = 0)) (kk : qE d 175 228 [some (.ref r0), some (.int x1), some (.int x2), some (.int x3), o4] [] h1 q): qE d 175 215 [some (.ref r0), some (.int x1), some (.int x2), some (.int x3), o4] [] h q := by
  refine qe_aload_n c175_215 rfl ?_
  refine qe_iload_n c175_216 rfl ?_
  refine qe_iconst (x := 0) c175_217 (by decide) ?_
  refine qe_iload_n c175_218 rfl ?_
  refine qe_virtual (b := r0) (as := [.int x1, .int 0, .int x3]) (r := []) (v := (some (.int z3))) (h2 := h1) c175_219 qo175 qK12_438 rfl rfl rfl (by rw [qo122]; exact e2) (Nat.le_of_ble_eq_true rfl) e4 ?_
  refine qe_if_ne_T (t := 228) c175_222 rfl e5 ?_
  exact kk
theorem b175_225 {d : Nat} {q : Option Value × qH} {h : qH} {r0 : Nat} {x1 : Int32} {x2 : Int32} {x3 : Int32} {o4 : Option Value}   (kk : qE d 175 246 [some (.ref r0), some (.int x1), some (.int x2), some (.int x3), o4] [] h q): qE d 175 225 [some (.ref r0), some (.int x1), some (.int x2), some (.int x3), o4] [] h q := by
  refine qe_goto (t := 246) c175_225 rfl ?_
  exact kk
theorem b175_228 {d : Nat} {q : Option Value × qH} {h : qH} {r0 : Nat} {x1 : Int32} {x2 : Int32} {x3 : Int32} {o4 : Option Value} {fs1 : List Value} {y3 : Nat} {n5 : Nat} {f6 : Nat → Int32} {h1 : qH} {fs10 : List Value} {h2 : qH}  (e2 : h.2.2 r0 = some (.inr (12, fs1))) (e4 : fs1[10]? = some (.ref y3)) (e7 : h.2.2 y3 = some (.inl (0, n5, .inl f6))) (e8 : 0 ≤ (((x1 + 42) + x3) : Int32).toInt ∧ (((x1 + 42) + x3) : Int32).toInt < (n5 : Nat)) (e9 : qset h y3 (.inl (0, n5, .inl (upd f6 ((((x1 + 42) + x3) : Int32).toNatClampNeg) 0))) = h1) (e11 : h1.2.2 r0 = some (.inr (12, fs10))) (e12 : qCall d 93 [.ref r0, .int 3, .int x3] h1 (none, h2)) (kk : qE d 175 246 [some (.ref r0), some (.int x1), some (.int x2), some (.int x3), o4] [] h2 q): qE d 175 228 [some (.ref r0), some (.int x1), some (.int x2), some (.int x3), o4] [] h q := by
  refine qe_aload_n c175_228 rfl ?_
  refine qe_getfield c175_229 qo175 qF12_14 e2 e4 ?_
  refine qe_iload_n c175_232 rfl ?_
  refine qe_bipush (x := 42) c175_233 (by decide) ?_
  refine qe_iadd c175_235 ?_
  refine qe_iload_n c175_236 rfl ?_
  refine qe_iadd c175_237 ?_
  refine qe_iconst (x := 0) c175_238 (by decide) ?_
  refine qe_iastore c175_239 e7 e8 ?_
  rw [e9]
  refine qe_aload_n c175_240 rfl ?_
  refine qe_iconst (x := 3) c175_241 (by decide) ?_
  refine qe_iload_n c175_242 rfl ?_
  refine qe_virtual (b := r0) (as := [.int 3, .int x3]) (r := []) (v := none) (h2 := h2) c175_243 qo175 qK12_432 rfl rfl rfl (by rw [qo93]; exact e11) (Nat.le_of_ble_eq_true rfl) e12 ?_
  exact kk
theorem b175_246 {d : Nat} {q : Option Value × qH} {h : qH} {r0 : Nat} {x1 : Int32} {x2 : Int32} {x3 : Int32} {o4 : Option Value}   (kk : qE d 175 193 [some (.ref r0), some (.int x1), some (.int x2), some (.int (x3 + 1)), o4] [] h q): qE d 175 246 [some (.ref r0), some (.int x1), some (.int x2), some (.int x3), o4] [] h q := by
  refine qe_iinc (y := (x3 + 1)) (ls2 := [some (.ref r0), some (.int x1), some (.int x2), some (.int (x3 + 1)), o4]) c175_246 rfl (Nat.le_of_ble_eq_true rfl) rfl rfl ?_
  refine qe_goto (t := 193) c175_249 rfl ?_
  exact kk
theorem b175_252 {d : Nat} {h : qH} {r0 : Nat} {x1 : Int32} {x2 : Int32} {x3 : Int32} {o4 : Option Value} {fs1 : List Value} {y3 : Nat} {n5 : Nat} {f6 : Nat → Int32} {h1 : qH} {fs10 : List Value} {y12 : Nat} {n14 : Nat} {f15 : Nat → Int32} {h2 : qH}  (e2 : h.2.2 r0 = some (.inr (12, fs1))) (e4 : fs1[10]? = some (.ref y3)) (e7 : h.2.2 y3 = some (.inl (0, n5, .inl f6))) (e8 : 0 ≤ ((x1 + 67) : Int32).toInt ∧ ((x1 + 67) : Int32).toInt < (n5 : Nat)) (e9 : qset h y3 (.inl (0, n5, .inl (upd f6 (((x1 + 67) : Int32).toNatClampNeg) x2))) = h1) (e11 : h1.2.2 r0 = some (.inr (12, fs10))) (e13 : fs10[10]? = some (.ref y12)) (e16 : h1.2.2 y12 = some (.inl (0, n14, .inl f15))) (e17 : 0 ≤ ((x1 + 68) : Int32).toInt ∧ ((x1 + 68) : Int32).toInt < (n14 : Nat)) (e18 : 0 ≤ ((x1 + 68) : Int32).toInt ∧ ((x1 + 68) : Int32).toInt < (n14 : Nat)) (e19 : qset h1 y12 (.inl (0, n14, .inl (upd f15 (((x1 + 68) : Int32).toNatClampNeg) (((f15 ((x1 + 68) : Int32).toNatClampNeg) + 1))))) = h2) : qE d 175 252 [some (.ref r0), some (.int x1), some (.int x2), some (.int x3), o4] [] h (none, h2) := by
  refine qe_aload_n c175_252 rfl ?_
  refine qe_getfield c175_253 qo175 qF12_14 e2 e4 ?_
  refine qe_iload_n c175_256 rfl ?_
  refine qe_bipush (x := 67) c175_257 (by decide) ?_
  refine qe_iadd c175_259 ?_
  refine qe_iload_n c175_260 rfl ?_
  refine qe_iastore c175_261 e7 e8 ?_
  rw [e9]
  refine qe_aload_n c175_262 rfl ?_
  refine qe_getfield c175_263 qo175 qF12_14 e11 e13 ?_
  refine qe_iload_n c175_266 rfl ?_
  refine qe_bipush (x := 68) c175_267 (by decide) ?_
  refine qe_iadd c175_269 ?_
  refine qe_dup2 c175_270 (Nat.ne_of_beq_eq_false rfl) rfl ?_
  refine qe_iaload c175_271 e16 e17 ?_
  refine qe_iconst (x := 1) c175_272 (by decide) ?_
  refine qe_iadd c175_273 ?_
  refine qe_iastore c175_274 e16 e18 ?_
  rw [e19]
  exact qe_vret c175_275 qr175
theorem b176_0F {d : Nat} {q : Option Value × qH} {h : qH} {r0 : Nat} {x1 : Int32} {x2 : Int32} {h1 : qH} {z1 : Int32}  (e2 : qCall d 126 [.int x1] h ((some (.int z1)), h1)) (e3 : ¬ ((z1 : Int32) = 0)) (kk : qE d 176 7 [some (.ref r0), some (.int x1), some (.int x2)] [] h1 q): qE d 176 0 [some (.ref r0), some (.int x1), some (.int x2)] [] h q := by
  refine qe_iload_n c176_0 rfl ?_
  refine qe_static (as := [.int x1]) (r := []) (v := (some (.int z1))) (h2 := h1) c176_1 qo176 (by decide) qK12_205 rfl rfl rfl (Nat.le_of_ble_eq_true rfl) e2 ?_
  refine qe_if_eq_F (t := 17) c176_4 rfl e3 ?_
  exact kk
theorem b176_0T {d : Nat} {q : Option Value × qH} {h : qH} {r0 : Nat} {x1 : Int32} {x2 : Int32} {h1 : qH} {z1 : Int32}  (e2 : qCall d 126 [.int x1] h ((some (.int z1)), h1)) (e3 : (z1 : Int32) = 0) (kk : qE d 176 17 [some (.ref r0), some (.int x1), some (.int x2)] [] h1 q): qE d 176 0 [some (.ref r0), some (.int x1), some (.int x2)] [] h q := by
  refine qe_iload_n c176_0 rfl ?_
  refine qe_static (as := [.int x1]) (r := []) (v := (some (.int z1))) (h2 := h1) c176_1 qo176 (by decide) qK12_205 rfl rfl rfl (Nat.le_of_ble_eq_true rfl) e2 ?_
  refine qe_if_eq_T (t := 17) c176_4 rfl e3 ?_
  exact kk
theorem b176_7F {d : Nat} {q : Option Value × qH} {h : qH} {r0 : Nat} {x1 : Int32} {x2 : Int32} {fs1 : List Value} {y3 : Nat} {n5 : Nat} {f6 : Nat → Int32}  (e2 : h.2.2 r0 = some (.inr (12, fs1))) (e4 : fs1[68]? = some (.ref y3)) (e7 : h.2.2 y3 = some (.inl (1, n5, .inl f6))) (e8 : 0 ≤ (x1 : Int32).toInt ∧ (x1 : Int32).toInt < (n5 : Nat)) (e9 : ((f6 (x1 : Int32).toNatClampNeg) : Int32) = x2) (kk : qE d 176 17 [some (.ref r0), some (.int x1), some (.int x2)] [] h q): qE d 176 7 [some (.ref r0), some (.int x1), some (.int x2)] [] h q := by
  refine qe_aload_n c176_7 rfl ?_
  refine qe_getfield c176_8 qo176 qF12_149 e2 e4 ?_
  refine qe_iload_n c176_11 rfl ?_
  refine qe_zaload c176_12 e7 e8 ?_
  refine qe_iload_n c176_13 rfl ?_
  refine qe_icmp_ne_F (t := 19) c176_14 rfl e9 ?_
  exact kk
theorem b176_7T {d : Nat} {q : Option Value × qH} {h : qH} {r0 : Nat} {x1 : Int32} {x2 : Int32} {fs1 : List Value} {y3 : Nat} {n5 : Nat} {f6 : Nat → Int32}  (e2 : h.2.2 r0 = some (.inr (12, fs1))) (e4 : fs1[68]? = some (.ref y3)) (e7 : h.2.2 y3 = some (.inl (1, n5, .inl f6))) (e8 : 0 ≤ (x1 : Int32).toInt ∧ (x1 : Int32).toInt < (n5 : Nat)) (e9 : ¬ (((f6 (x1 : Int32).toNatClampNeg) : Int32) = x2)) (kk : qE d 176 19 [some (.ref r0), some (.int x1), some (.int x2)] [] h q): qE d 176 7 [some (.ref r0), some (.int x1), some (.int x2)] [] h q := by
  refine qe_aload_n c176_7 rfl ?_
  refine qe_getfield c176_8 qo176 qF12_149 e2 e4 ?_
  refine qe_iload_n c176_11 rfl ?_
  refine qe_zaload c176_12 e7 e8 ?_
  refine qe_iload_n c176_13 rfl ?_
  refine qe_icmp_ne_T (t := 19) c176_14 rfl e9 ?_
  exact kk
theorem b176_17 {d : Nat} {h : qH} {r0 : Nat} {x1 : Int32} {x2 : Int32}   : qE d 176 17 [some (.ref r0), some (.int x1), some (.int x2)] [] h (some (.int 0), h) := by
  refine qe_iconst (x := 0) c176_17 (by decide) ?_
  exact qe_zret c176_18 qr176 (by decide)
theorem b176_19 {d : Nat} {h : qH} {r0 : Nat} {x1 : Int32} {x2 : Int32} {fs1 : List Value} {y3 : Nat} {n5 : Nat} {f6 : Nat → Int32} {h1 : qH} {fs11 : List Value} {y13 : Nat} {y15 : Int32} {n17 : Nat} {f18 : Nat → Int32} {h2 : qH}  (e2 : h.2.2 r0 = some (.inr (12, fs1))) (e4 : fs1[68]? = some (.ref y3)) (e7 : h.2.2 y3 = some (.inl (1, n5, .inl f6))) (e8 : 0 ≤ (x1 : Int32).toInt ∧ (x1 : Int32).toInt < (n5 : Nat)) (e9 : (x2 : Int32) = 0 ∨ (x2 : Int32) = 1) (e10 : qset h y3 (.inl (1, n5, .inl (upd f6 ((x1 : Int32).toNatClampNeg) x2))) = h1) (e12 : h1.2.2 r0 = some (.inr (12, fs11))) (e14 : fs11[69]? = some (.ref y13)) (e16 : fs11[2]? = some (.int y15)) (e19 : h1.2.2 y13 = some (.inl (0, n17, .inl f18))) (e20 : 0 ≤ (x1 : Int32).toInt ∧ (x1 : Int32).toInt < (n17 : Nat)) (e21 : qset h1 y13 (.inl (0, n17, .inl (upd f18 ((x1 : Int32).toNatClampNeg) y15))) = h2) : qE d 176 19 [some (.ref r0), some (.int x1), some (.int x2)] [] h (some (.int 1), h2) := by
  refine qe_aload_n c176_19 rfl ?_
  refine qe_getfield c176_20 qo176 qF12_149 e2 e4 ?_
  refine qe_iload_n c176_23 rfl ?_
  refine qe_iload_n c176_24 rfl ?_
  refine qe_zastore c176_25 e7 e8 e9 ?_
  rw [e10]
  refine qe_aload_n c176_26 rfl ?_
  refine qe_getfield c176_27 qo176 qF12_152 e12 e14 ?_
  refine qe_iload_n c176_30 rfl ?_
  refine qe_aload_n c176_31 rfl ?_
  refine qe_getfield c176_32 qo176 qF12_202 e12 e16 ?_
  refine qe_iastore c176_35 e19 e20 ?_
  rw [e21]
  refine qe_iconst (x := 1) c176_36 (by decide) ?_
  exact qe_zret c176_37 qr176 (by decide)
theorem b177_0F {d : Nat} {q : Option Value × qH} {h : qH} {r0 : Nat} {x1 : Int32} {fs1 : List Value} {h1 : qH} {z3 : Int32} {h2 : qH} {z5 : Int32}  (e2 : h.2.2 r0 = some (.inr (12, fs1))) (e4 : qCall d 179 [.ref r0] h ((some (.int z3)), h1)) (e6 : qCall d 133 [.int z3] h1 ((some (.int z5)), h2)) (e7 : (z5 : Int32) = 0) (kk : qE d 177 10 [some (.ref r0), some (.int x1)] [] h2 q): qE d 177 0 [some (.ref r0), some (.int x1)] [] h q := by
  refine qe_aload_n c177_0 rfl ?_
  refine qe_virtual (b := r0) (as := []) (r := []) (v := (some (.int z3))) (h2 := h1) c177_1 qo177 qK12_332 rfl rfl rfl (by rw [qo179]; exact e2) (Nat.le_of_ble_eq_true rfl) e4 ?_
  refine qe_static (as := [.int z3]) (r := []) (v := (some (.int z5))) (h2 := h2) c177_4 qo177 (by decide) qK12_335 rfl rfl rfl (Nat.le_of_ble_eq_true rfl) e6 ?_
  refine qe_if_ne_F (t := 24) c177_7 rfl e7 ?_
  exact kk
theorem b177_0T {d : Nat} {q : Option Value × qH} {h : qH} {r0 : Nat} {x1 : Int32} {fs1 : List Value} {h1 : qH} {z3 : Int32} {h2 : qH} {z5 : Int32}  (e2 : h.2.2 r0 = some (.inr (12, fs1))) (e4 : qCall d 179 [.ref r0] h ((some (.int z3)), h1)) (e6 : qCall d 133 [.int z3] h1 ((some (.int z5)), h2)) (e7 : ¬ ((z5 : Int32) = 0)) (kk : qE d 177 24 [some (.ref r0), some (.int x1)] [] h2 q): qE d 177 0 [some (.ref r0), some (.int x1)] [] h q := by
  refine qe_aload_n c177_0 rfl ?_
  refine qe_virtual (b := r0) (as := []) (r := []) (v := (some (.int z3))) (h2 := h1) c177_1 qo177 qK12_332 rfl rfl rfl (by rw [qo179]; exact e2) (Nat.le_of_ble_eq_true rfl) e4 ?_
  refine qe_static (as := [.int z3]) (r := []) (v := (some (.int z5))) (h2 := h2) c177_4 qo177 (by decide) qK12_335 rfl rfl rfl (Nat.le_of_ble_eq_true rfl) e6 ?_
  refine qe_if_ne_T (t := 24) c177_7 rfl e7 ?_
  exact kk
theorem b177_10F {d : Nat} {q : Option Value × qH} {h : qH} {r0 : Nat} {x1 : Int32}  (e1 : ¬ ((x1 : Int32) = 0)) (kk : qE d 177 14 [some (.ref r0), some (.int x1)] [] h q): qE d 177 10 [some (.ref r0), some (.int x1)] [] h q := by
  refine qe_iload_n c177_10 rfl ?_
  refine qe_if_eq_F (t := 46) c177_11 rfl e1 ?_
  exact kk
theorem b177_10T {d : Nat} {q : Option Value × qH} {h : qH} {r0 : Nat} {x1 : Int32}  (e1 : (x1 : Int32) = 0) (kk : qE d 177 46 [some (.ref r0), some (.int x1)] [] h q): qE d 177 10 [some (.ref r0), some (.int x1)] [] h q := by
  refine qe_iload_n c177_10 rfl ?_
  refine qe_if_eq_T (t := 46) c177_11 rfl e1 ?_
  exact kk
theorem b177_14F {d : Nat} {q : Option Value × qH} {h : qH} {r0 : Nat} {x1 : Int32} {fs1 : List Value} {h1 : qH} {z3 : Int32} {h2 : qH} {z5 : Int32}  (e2 : h.2.2 r0 = some (.inr (12, fs1))) (e4 : qCall d 179 [.ref r0] h ((some (.int z3)), h1)) (e6 : qCall d 128 [.int z3] h1 ((some (.int z5)), h2)) (e7 : ¬ ((z5 : Int32) = 0)) (kk : qE d 177 24 [some (.ref r0), some (.int x1)] [] h2 q): qE d 177 14 [some (.ref r0), some (.int x1)] [] h q := by
  refine qe_aload_n c177_14 rfl ?_
  refine qe_virtual (b := r0) (as := []) (r := []) (v := (some (.int z3))) (h2 := h1) c177_15 qo177 qK12_332 rfl rfl rfl (by rw [qo179]; exact e2) (Nat.le_of_ble_eq_true rfl) e4 ?_
  refine qe_static (as := [.int z3]) (r := []) (v := (some (.int z5))) (h2 := h2) c177_18 qo177 (by decide) qK12_338 rfl rfl rfl (Nat.le_of_ble_eq_true rfl) e6 ?_
  refine qe_if_eq_F (t := 46) c177_21 rfl e7 ?_
  exact kk
theorem b177_14T {d : Nat} {q : Option Value × qH} {h : qH} {r0 : Nat} {x1 : Int32} {fs1 : List Value} {h1 : qH} {z3 : Int32} {h2 : qH} {z5 : Int32}  (e2 : h.2.2 r0 = some (.inr (12, fs1))) (e4 : qCall d 179 [.ref r0] h ((some (.int z3)), h1)) (e6 : qCall d 128 [.int z3] h1 ((some (.int z5)), h2)) (e7 : (z5 : Int32) = 0) (kk : qE d 177 46 [some (.ref r0), some (.int x1)] [] h2 q): qE d 177 14 [some (.ref r0), some (.int x1)] [] h q := by
  refine qe_aload_n c177_14 rfl ?_
  refine qe_virtual (b := r0) (as := []) (r := []) (v := (some (.int z3))) (h2 := h1) c177_15 qo177 qK12_332 rfl rfl rfl (by rw [qo179]; exact e2) (Nat.le_of_ble_eq_true rfl) e4 ?_
  refine qe_static (as := [.int z3]) (r := []) (v := (some (.int z5))) (h2 := h2) c177_18 qo177 (by decide) qK12_338 rfl rfl rfl (Nat.le_of_ble_eq_true rfl) e6 ?_
  refine qe_if_eq_T (t := 46) c177_21 rfl e7 ?_
  exact kk
theorem b177_24 {d : Nat} {q : Option Value × qH} {h : qH} {r0 : Nat} {x1 : Int32} {fs1 : List Value} {h1 : qH} {z3 : Int32} {fs5 : List Value} {h2 : qH} {fs8 : List Value} {y10 : Int32} {h3 : qH}  (e2 : h.2.2 r0 = some (.inr (12, fs1))) (e4 : qCall d 179 [.ref r0] h ((some (.int z3)), h1)) (e6 : h1.2.2 r0 = some (.inr (12, fs5))) (e7 : qCall d 103 [.ref r0, .int z3, .int 0] h1 (none, h2)) (e9 : h2.2.2 r0 = some (.inr (12, fs8))) (e11 : fs8[50]? = some (.int y10)) (e12 : 50 < fs8.length) (e13 : qset h2 r0 (.inr (12, fs8.set 50 (.int (y10 - 1)))) = h3) (kk : qE d 177 0 [some (.ref r0), some (.int x1)] [] h3 q): qE d 177 24 [some (.ref r0), some (.int x1)] [] h q := by
  refine qe_aload_n c177_24 rfl ?_
  refine qe_aload_n c177_25 rfl ?_
  refine qe_virtual (b := r0) (as := []) (r := [.ref r0]) (v := (some (.int z3))) (h2 := h1) c177_26 qo177 qK12_332 rfl rfl rfl (by rw [qo179]; exact e2) (Nat.le_of_ble_eq_true rfl) e4 ?_
  refine qe_iconst (x := 0) c177_29 (by decide) ?_
  refine qe_virtual (b := r0) (as := [.int z3, .int 0]) (r := []) (v := none) (h2 := h2) c177_30 qo177 qK12_341 rfl rfl rfl (by rw [qo103]; exact e6) (Nat.le_of_ble_eq_true rfl) e7 ?_
  refine qe_aload_n c177_33 rfl ?_
  refine qe_dup c177_34 rfl ?_
  refine qe_getfield c177_35 qo177 qF12_306 e9 e11 ?_
  refine qe_iconst (x := 1) c177_38 (by decide) ?_
  refine qe_isub c177_39 ?_
  refine qe_putfield c177_40 qo177 qF12_306 qz12_50 e9 e12 (by rw [qy12_50]; rfl) ?_
  rw [e13]
  refine qe_goto (t := 0) c177_43 rfl ?_
  exact kk
theorem b177_46 {d : Nat} {h : qH} {r0 : Nat} {x1 : Int32}   : qE d 177 46 [some (.ref r0), some (.int x1)] [] h (none, h) := by
  exact qe_vret c177_46 qr177
theorem b178_0F {d : Nat} {q : Option Value × qH} {h : qH} {r0 : Nat} {x1 : Int32} {fs1 : List Value} {y3 : Nat} {n5 : Nat} {f6 : Nat → Int64} {h1 : qH} {z9 : Int64} {fs11 : List Value} {y13 : Nat} {n15 : Nat} {f16 : Nat → Int64} {y20 : Nat} {n22 : Nat} {f23 : Nat → Int64}  (e2 : h.2.2 r0 = some (.inr (12, fs1))) (e4 : fs1[27]? = some (.ref y3)) (e7 : h.2.2 y3 = some (.inl (2, n5, .inr (.inl f6)))) (e8 : 0 ≤ (x1 : Int32).toInt ∧ (x1 : Int32).toInt < (n5 : Nat)) (e10 : qCall d 170 [.long (f6 (x1 : Int32).toNatClampNeg)] h ((some (.long z9)), h1)) (e12 : h1.2.2 r0 = some (.inr (12, fs11))) (e14 : fs11[28]? = some (.ref y13)) (e17 : h1.2.2 y13 = some (.inl (2, n15, .inr (.inl f16)))) (e18 : 0 ≤ (x1 : Int32).toInt ∧ (x1 : Int32).toInt < (n15 : Nat)) (e19 : ¬ ((f16 (x1 : Int32).toNatClampNeg) : Int64) = 0) (e21 : fs11[27]? = some (.ref y20)) (e24 : h1.2.2 y20 = some (.inl (2, n22, .inr (.inl f23)))) (e25 : 0 ≤ (x1 : Int32).toInt ∧ (x1 : Int32).toInt < (n22 : Nat)) (e26 : ¬ ((0 : Int32) ≤ (lg_cmp ((f23 (x1 : Int32).toNatClampNeg)) 0))) (kk : qE d 178 32 [some (.ref r0), some (.int x1), some (.long ((100 * z9) / (f16 (x1 : Int32).toNatClampNeg))), none] [] h1 q): qE d 178 0 [some (.ref r0), some (.int x1), none, none] [] h q := by
  refine qe_ldc2_w (x := 100) c178_0 qo178 qJ12_277 ?_
  refine qe_aload_n c178_3 rfl ?_
  refine qe_getfield c178_4 qo178 qF12_67 e2 e4 ?_
  refine qe_iload_n c178_7 rfl ?_
  refine qe_laload c178_8 e7 e8 ?_
  refine qe_static (as := [.long (f6 (x1 : Int32).toNatClampNeg)]) (r := [.long 100]) (v := (some (.long z9))) (h2 := h1) c178_9 qo178 (by decide) qK12_279 rfl rfl rfl (Nat.le_of_ble_eq_true rfl) e10 ?_
  refine qe_lmul c178_12 ?_
  refine qe_aload_n c178_13 rfl ?_
  refine qe_getfield c178_14 qo178 qF12_71 e12 e14 ?_
  refine qe_iload_n c178_17 rfl ?_
  refine qe_laload c178_18 e17 e18 ?_
  refine qe_ldiv c178_19 e19 ?_
  refine qe_lstore_n (ls2 := [some (.ref r0), some (.int x1), some (.long ((100 * z9) / (f16 (x1 : Int32).toNatClampNeg))), none]) c178_20 (Nat.le_of_ble_eq_true rfl) rfl ?_
  refine qe_aload_n c178_21 rfl ?_
  refine qe_getfield c178_22 qo178 qF12_67 e12 e21 ?_
  refine qe_iload_n c178_25 rfl ?_
  refine qe_laload c178_26 e24 e25 ?_
  refine qe_lconst (x := 0) c178_27 (by decide) ?_
  refine qe_lcmp c178_28 ?_
  refine qe_if_ge_F (t := 37) c178_29 rfl e26 ?_
  exact kk
theorem b178_0T {d : Nat} {q : Option Value × qH} {h : qH} {r0 : Nat} {x1 : Int32} {fs1 : List Value} {y3 : Nat} {n5 : Nat} {f6 : Nat → Int64} {h1 : qH} {z9 : Int64} {fs11 : List Value} {y13 : Nat} {n15 : Nat} {f16 : Nat → Int64} {y20 : Nat} {n22 : Nat} {f23 : Nat → Int64}  (e2 : h.2.2 r0 = some (.inr (12, fs1))) (e4 : fs1[27]? = some (.ref y3)) (e7 : h.2.2 y3 = some (.inl (2, n5, .inr (.inl f6)))) (e8 : 0 ≤ (x1 : Int32).toInt ∧ (x1 : Int32).toInt < (n5 : Nat)) (e10 : qCall d 170 [.long (f6 (x1 : Int32).toNatClampNeg)] h ((some (.long z9)), h1)) (e12 : h1.2.2 r0 = some (.inr (12, fs11))) (e14 : fs11[28]? = some (.ref y13)) (e17 : h1.2.2 y13 = some (.inl (2, n15, .inr (.inl f16)))) (e18 : 0 ≤ (x1 : Int32).toInt ∧ (x1 : Int32).toInt < (n15 : Nat)) (e19 : ¬ ((f16 (x1 : Int32).toNatClampNeg) : Int64) = 0) (e21 : fs11[27]? = some (.ref y20)) (e24 : h1.2.2 y20 = some (.inl (2, n22, .inr (.inl f23)))) (e25 : 0 ≤ (x1 : Int32).toInt ∧ (x1 : Int32).toInt < (n22 : Nat)) (e26 : (0 : Int32) ≤ (lg_cmp ((f23 (x1 : Int32).toNatClampNeg)) 0)) (kk : qE d 178 37 [some (.ref r0), some (.int x1), some (.long ((100 * z9) / (f16 (x1 : Int32).toNatClampNeg))), none] [] h1 q): qE d 178 0 [some (.ref r0), some (.int x1), none, none] [] h q := by
  refine qe_ldc2_w (x := 100) c178_0 qo178 qJ12_277 ?_
  refine qe_aload_n c178_3 rfl ?_
  refine qe_getfield c178_4 qo178 qF12_67 e2 e4 ?_
  refine qe_iload_n c178_7 rfl ?_
  refine qe_laload c178_8 e7 e8 ?_
  refine qe_static (as := [.long (f6 (x1 : Int32).toNatClampNeg)]) (r := [.long 100]) (v := (some (.long z9))) (h2 := h1) c178_9 qo178 (by decide) qK12_279 rfl rfl rfl (Nat.le_of_ble_eq_true rfl) e10 ?_
  refine qe_lmul c178_12 ?_
  refine qe_aload_n c178_13 rfl ?_
  refine qe_getfield c178_14 qo178 qF12_71 e12 e14 ?_
  refine qe_iload_n c178_17 rfl ?_
  refine qe_laload c178_18 e17 e18 ?_
  refine qe_ldiv c178_19 e19 ?_
  refine qe_lstore_n (ls2 := [some (.ref r0), some (.int x1), some (.long ((100 * z9) / (f16 (x1 : Int32).toNatClampNeg))), none]) c178_20 (Nat.le_of_ble_eq_true rfl) rfl ?_
  refine qe_aload_n c178_21 rfl ?_
  refine qe_getfield c178_22 qo178 qF12_67 e12 e21 ?_
  refine qe_iload_n c178_25 rfl ?_
  refine qe_laload c178_26 e24 e25 ?_
  refine qe_lconst (x := 0) c178_27 (by decide) ?_
  refine qe_lcmp c178_28 ?_
  refine qe_if_ge_T (t := 37) c178_29 rfl e26 ?_
  exact kk
theorem b178_32 {d : Nat} {q : Option Value × qH} {h : qH} {r0 : Nat} {x1 : Int32} {l2 : Int64}   (kk : qE d 178 38 [some (.ref r0), some (.int x1), some (.long l2), none] [.long (-l2)] h q): qE d 178 32 [some (.ref r0), some (.int x1), some (.long l2), none] [] h q := by
  refine qe_lload_n c178_32 rfl ?_
  refine qe_lneg c178_33 ?_
  refine qe_goto (t := 38) c178_34 rfl ?_
  exact kk
theorem b178_37 {d : Nat} {q : Option Value × qH} {h : qH} {r0 : Nat} {x1 : Int32} {l2 : Int64}   (kk : qE d 178 38 [some (.ref r0), some (.int x1), some (.long l2), none] [.long l2] h q): qE d 178 37 [some (.ref r0), some (.int x1), some (.long l2), none] [] h q := by
  refine qe_lload_n c178_37 rfl ?_
  exact kk
theorem b178_38 {d : Nat} {h : qH} {r0 : Nat} {x1 : Int32} {l2 : Int64} {ls0 : Int64}   : qE d 178 38 [some (.ref r0), some (.int x1), some (.long l2), none] [.long ls0] h (some (.long ls0), h) := by
  exact qe_lret c178_38 qr178
theorem b179_0F {d : Nat} {q : Option Value × qH} {h : qH} {r0 : Nat} {fs1 : List Value} {y3 : Int32}  (e2 : h.2.2 r0 = some (.inr (12, fs1))) (e4 : fs1[50]? = some (.int y3)) (e5 : ¬ ((y3 : Int32) ≤ 0)) (kk : qE d 179 7 [some (.ref r0)] [] h q): qE d 179 0 [some (.ref r0)] [] h q := by
  refine qe_aload_n c179_0 rfl ?_
  refine qe_getfield c179_1 qo179 qF12_306 e2 e4 ?_
  refine qe_if_le_F (t := 21) c179_4 rfl e5 ?_
  exact kk
theorem b179_0T {d : Nat} {q : Option Value × qH} {h : qH} {r0 : Nat} {fs1 : List Value} {y3 : Int32}  (e2 : h.2.2 r0 = some (.inr (12, fs1))) (e4 : fs1[50]? = some (.int y3)) (e5 : (y3 : Int32) ≤ 0) (kk : qE d 179 21 [some (.ref r0)] [] h q): qE d 179 0 [some (.ref r0)] [] h q := by
  refine qe_aload_n c179_0 rfl ?_
  refine qe_getfield c179_1 qo179 qF12_306 e2 e4 ?_
  refine qe_if_le_T (t := 21) c179_4 rfl e5 ?_
  exact kk
theorem b179_7 {d : Nat} {q : Option Value × qH} {h : qH} {r0 : Nat} {fs1 : List Value} {y3 : Nat} {y5 : Int32} {n7 : Nat} {f8 : Nat → Int32}  (e2 : h.2.2 r0 = some (.inr (12, fs1))) (e4 : fs1[53]? = some (.ref y3)) (e6 : fs1[50]? = some (.int y5)) (e9 : h.2.2 y3 = some (.inl (0, n7, .inl f8))) (e10 : 0 ≤ ((y5 - 1) : Int32).toInt ∧ ((y5 - 1) : Int32).toInt < (n7 : Nat)) (kk : qE d 179 22 [some (.ref r0)] [.int (f8 ((y5 - 1) : Int32).toNatClampNeg)] h q): qE d 179 7 [some (.ref r0)] [] h q := by
  refine qe_aload_n c179_7 rfl ?_
  refine qe_getfield c179_8 qo179 qF12_116 e2 e4 ?_
  refine qe_aload_n c179_11 rfl ?_
  refine qe_getfield c179_12 qo179 qF12_306 e2 e6 ?_
  refine qe_iconst (x := 1) c179_15 (by decide) ?_
  refine qe_isub c179_16 ?_
  refine qe_iaload c179_17 e9 e10 ?_
  refine qe_goto (t := 22) c179_18 rfl ?_
  exact kk
theorem b179_21 {d : Nat} {q : Option Value × qH} {h : qH} {r0 : Nat}   (kk : qE d 179 22 [some (.ref r0)] [.int 0] h q): qE d 179 21 [some (.ref r0)] [] h q := by
  refine qe_iconst (x := 0) c179_21 (by decide) ?_
  exact kk
theorem b179_22 {d : Nat} {h : qH} {r0 : Nat} {xs0 : Int32}   : qE d 179 22 [some (.ref r0)] [.int xs0] h (some (.int xs0), h) := by
  exact qe_iret c179_22 qr179
theorem b180_0F {d : Nat} {q : Option Value × qH} {h : qH} {r0 : Nat} {x1 : Int32} {x2 : Int32} {fs1 : List Value} {h1 : qH} {z3 : Int32}  (e2 : h.2.2 r0 = some (.inr (12, fs1))) (e4 : qCall d 136 [.ref r0, .int x1] h ((some (.int z3)), h1)) (e5 : ¬ ((z3 : Int32) = 0)) (kk : qE d 180 8 [some (.ref r0), some (.int x1), some (.int x2)] [] h1 q): qE d 180 0 [some (.ref r0), some (.int x1), some (.int x2)] [] h q := by
  refine qe_aload_n c180_0 rfl ?_
  refine qe_iload_n c180_1 rfl ?_
  refine qe_virtual (b := r0) (as := [.int x1]) (r := []) (v := (some (.int z3))) (h2 := h1) c180_2 qo180 qK12_224 rfl rfl rfl (by rw [qo136]; exact e2) (Nat.le_of_ble_eq_true rfl) e4 ?_
  refine qe_if_eq_F (t := 20) c180_5 rfl e5 ?_
  exact kk
theorem b180_0T {d : Nat} {q : Option Value × qH} {h : qH} {r0 : Nat} {x1 : Int32} {x2 : Int32} {fs1 : List Value} {h1 : qH} {z3 : Int32}  (e2 : h.2.2 r0 = some (.inr (12, fs1))) (e4 : qCall d 136 [.ref r0, .int x1] h ((some (.int z3)), h1)) (e5 : (z3 : Int32) = 0) (kk : qE d 180 20 [some (.ref r0), some (.int x1), some (.int x2)] [] h1 q): qE d 180 0 [some (.ref r0), some (.int x1), some (.int x2)] [] h q := by
  refine qe_aload_n c180_0 rfl ?_
  refine qe_iload_n c180_1 rfl ?_
  refine qe_virtual (b := r0) (as := [.int x1]) (r := []) (v := (some (.int z3))) (h2 := h1) c180_2 qo180 qK12_224 rfl rfl rfl (by rw [qo136]; exact e2) (Nat.le_of_ble_eq_true rfl) e4 ?_
  refine qe_if_eq_T (t := 20) c180_5 rfl e5 ?_
  exact kk
theorem b180_8F {d : Nat} {q : Option Value × qH} {h : qH} {r0 : Nat} {x1 : Int32} {x2 : Int32} {h1 : qH} {z1 : Int32}  (e2 : qCall d 143 [.long (x2 : Int32).toInt64, .long 0, .long 100000] h ((some (.int z1)), h1)) (e3 : (z1 : Int32) = 0) (kk : qE d 180 20 [some (.ref r0), some (.int x1), some (.int x2)] [] h1 q): qE d 180 8 [some (.ref r0), some (.int x1), some (.int x2)] [] h q := by
  refine qe_iload_n c180_8 rfl ?_
  refine qe_i2l c180_9 ?_
  refine qe_lconst (x := 0) c180_10 (by decide) ?_
  refine qe_ldc2_w (x := 100000) c180_11 qo180 qJ12_219 ?_
  refine qe_static (as := [.long (x2 : Int32).toInt64, .long 0, .long 100000]) (r := []) (v := (some (.int z1))) (h2 := h1) c180_14 qo180 (by decide) qK12_190 rfl rfl rfl (Nat.le_of_ble_eq_true rfl) e2 ?_
  refine qe_if_ne_F (t := 22) c180_17 rfl e3 ?_
  exact kk
theorem b180_8T {d : Nat} {q : Option Value × qH} {h : qH} {r0 : Nat} {x1 : Int32} {x2 : Int32} {h1 : qH} {z1 : Int32}  (e2 : qCall d 143 [.long (x2 : Int32).toInt64, .long 0, .long 100000] h ((some (.int z1)), h1)) (e3 : ¬ ((z1 : Int32) = 0)) (kk : qE d 180 22 [some (.ref r0), some (.int x1), some (.int x2)] [] h1 q): qE d 180 8 [some (.ref r0), some (.int x1), some (.int x2)] [] h q := by
  refine qe_iload_n c180_8 rfl ?_
  refine qe_i2l c180_9 ?_
  refine qe_lconst (x := 0) c180_10 (by decide) ?_
  refine qe_ldc2_w (x := 100000) c180_11 qo180 qJ12_219 ?_
  refine qe_static (as := [.long (x2 : Int32).toInt64, .long 0, .long 100000]) (r := []) (v := (some (.int z1))) (h2 := h1) c180_14 qo180 (by decide) qK12_190 rfl rfl rfl (Nat.le_of_ble_eq_true rfl) e2 ?_
  refine qe_if_ne_T (t := 22) c180_17 rfl e3 ?_
  exact kk
theorem b180_20 {d : Nat} {h : qH} {r0 : Nat} {x1 : Int32} {x2 : Int32}   : qE d 180 20 [some (.ref r0), some (.int x1), some (.int x2)] [] h (some (.int 0), h) := by
  refine qe_iconst (x := 0) c180_20 (by decide) ?_
  exact qe_zret c180_21 qr180 (by decide)
theorem b180_22 {d : Nat} {h : qH} {r0 : Nat} {x1 : Int32} {x2 : Int32} {fs1 : List Value} {y3 : Nat} {n5 : Nat} {f6 : Nat → Int32} {h1 : qH}  (e2 : h.2.2 r0 = some (.inr (12, fs1))) (e4 : fs1[10]? = some (.ref y3)) (e7 : h.2.2 y3 = some (.inl (0, n5, .inl f6))) (e8 : 0 ≤ ((36028 + x1) : Int32).toInt ∧ ((36028 + x1) : Int32).toInt < (n5 : Nat)) (e9 : qset h y3 (.inl (0, n5, .inl (upd f6 (((36028 + x1) : Int32).toNatClampNeg) x2))) = h1) : qE d 180 22 [some (.ref r0), some (.int x1), some (.int x2)] [] h (some (.int 1), h1) := by
  refine qe_aload_n c180_22 rfl ?_
  refine qe_getfield c180_23 qo180 qF12_14 e2 e4 ?_
  refine qe_ldc (x := 36028) c180_26 qo180 qI12_227 ?_
  refine qe_iload_n c180_28 rfl ?_
  refine qe_iadd c180_29 ?_
  refine qe_iload_n c180_30 rfl ?_
  refine qe_iastore c180_31 e7 e8 ?_
  rw [e9]
  refine qe_iconst (x := 1) c180_32 (by decide) ?_
  exact qe_zret c180_33 qr180 (by decide)
theorem b181_0F {d : Nat} {q : Option Value × qH} {h : qH} {r0 : Nat} {x1 : Int32} {x2 : Int32} {fs1 : List Value} {h1 : qH} {z3 : Int32}  (e2 : h.2.2 r0 = some (.inr (12, fs1))) (e4 : qCall d 136 [.ref r0, .int x1] h ((some (.int z3)), h1)) (e5 : ¬ ((z3 : Int32) = 0)) (kk : qE d 181 8 [some (.ref r0), some (.int x1), some (.int x2)] [] h1 q): qE d 181 0 [some (.ref r0), some (.int x1), some (.int x2)] [] h q := by
  refine qe_aload_n c181_0 rfl ?_
  refine qe_iload_n c181_1 rfl ?_
  refine qe_virtual (b := r0) (as := [.int x1]) (r := []) (v := (some (.int z3))) (h2 := h1) c181_2 qo181 qK12_224 rfl rfl rfl (by rw [qo136]; exact e2) (Nat.le_of_ble_eq_true rfl) e4 ?_
  refine qe_if_eq_F (t := 42) c181_5 rfl e5 ?_
  exact kk
theorem b181_0T {d : Nat} {q : Option Value × qH} {h : qH} {r0 : Nat} {x1 : Int32} {x2 : Int32} {fs1 : List Value} {h1 : qH} {z3 : Int32}  (e2 : h.2.2 r0 = some (.inr (12, fs1))) (e4 : qCall d 136 [.ref r0, .int x1] h ((some (.int z3)), h1)) (e5 : (z3 : Int32) = 0) (kk : qE d 181 42 [some (.ref r0), some (.int x1), some (.int x2)] [] h1 q): qE d 181 0 [some (.ref r0), some (.int x1), some (.int x2)] [] h q := by
  refine qe_aload_n c181_0 rfl ?_
  refine qe_iload_n c181_1 rfl ?_
  refine qe_virtual (b := r0) (as := [.int x1]) (r := []) (v := (some (.int z3))) (h2 := h1) c181_2 qo181 qK12_224 rfl rfl rfl (by rw [qo136]; exact e2) (Nat.le_of_ble_eq_true rfl) e4 ?_
  refine qe_if_eq_T (t := 42) c181_5 rfl e5 ?_
  exact kk
theorem b181_8F {d : Nat} {q : Option Value × qH} {h : qH} {r0 : Nat} {x1 : Int32} {x2 : Int32} {fs1 : List Value} {y3 : Nat} {n5 : Nat} {f6 : Nat → Int32}  (e2 : h.2.2 r0 = some (.inr (12, fs1))) (e4 : fs1[10]? = some (.ref y3)) (e7 : h.2.2 y3 = some (.inl (0, n5, .inl f6))) (e8 : 0 ≤ ((36000 + x1) : Int32).toInt ∧ ((36000 + x1) : Int32).toInt < (n5 : Nat)) (e9 : ¬ (((f6 ((36000 + x1) : Int32).toNatClampNeg) : Int32) = 3)) (kk : qE d 181 21 [some (.ref r0), some (.int x1), some (.int x2)] [] h q): qE d 181 8 [some (.ref r0), some (.int x1), some (.int x2)] [] h q := by
  refine qe_aload_n c181_8 rfl ?_
  refine qe_getfield c181_9 qo181 qF12_14 e2 e4 ?_
  refine qe_ldc (x := 36000) c181_12 qo181 qI12_230 ?_
  refine qe_iload_n c181_14 rfl ?_
  refine qe_iadd c181_15 ?_
  refine qe_iaload c181_16 e7 e8 ?_
  refine qe_iconst (x := 3) c181_17 (by decide) ?_
  refine qe_icmp_eq_F (t := 42) c181_18 rfl e9 ?_
  exact kk
theorem b181_8T {d : Nat} {q : Option Value × qH} {h : qH} {r0 : Nat} {x1 : Int32} {x2 : Int32} {fs1 : List Value} {y3 : Nat} {n5 : Nat} {f6 : Nat → Int32}  (e2 : h.2.2 r0 = some (.inr (12, fs1))) (e4 : fs1[10]? = some (.ref y3)) (e7 : h.2.2 y3 = some (.inl (0, n5, .inl f6))) (e8 : 0 ≤ ((36000 + x1) : Int32).toInt ∧ ((36000 + x1) : Int32).toInt < (n5 : Nat)) (e9 : ((f6 ((36000 + x1) : Int32).toNatClampNeg) : Int32) = 3) (kk : qE d 181 42 [some (.ref r0), some (.int x1), some (.int x2)] [] h q): qE d 181 8 [some (.ref r0), some (.int x1), some (.int x2)] [] h q := by
  refine qe_aload_n c181_8 rfl ?_
  refine qe_getfield c181_9 qo181 qF12_14 e2 e4 ?_
  refine qe_ldc (x := 36000) c181_12 qo181 qI12_230 ?_
  refine qe_iload_n c181_14 rfl ?_
  refine qe_iadd c181_15 ?_
  refine qe_iaload c181_16 e7 e8 ?_
  refine qe_iconst (x := 3) c181_17 (by decide) ?_
  refine qe_icmp_eq_T (t := 42) c181_18 rfl e9 ?_
  exact kk
theorem b181_21F {d : Nat} {q : Option Value × qH} {h : qH} {r0 : Nat} {x1 : Int32} {x2 : Int32} {fs1 : List Value} {y3 : Nat} {n5 : Nat} {f6 : Nat → Int32}  (e2 : h.2.2 r0 = some (.inr (12, fs1))) (e4 : fs1[10]? = some (.ref y3)) (e7 : h.2.2 y3 = some (.inl (0, n5, .inl f6))) (e8 : 0 ≤ ((36000 + x1) : Int32).toInt ∧ ((36000 + x1) : Int32).toInt < (n5 : Nat)) (e9 : ((f6 ((36000 + x1) : Int32).toNatClampNeg) : Int32) = 0) (kk : qE d 181 33 [some (.ref r0), some (.int x1), some (.int x2)] [] h q): qE d 181 21 [some (.ref r0), some (.int x1), some (.int x2)] [] h q := by
  refine qe_aload_n c181_21 rfl ?_
  refine qe_getfield c181_22 qo181 qF12_14 e2 e4 ?_
  refine qe_ldc (x := 36000) c181_25 qo181 qI12_230 ?_
  refine qe_iload_n c181_27 rfl ?_
  refine qe_iadd c181_28 ?_
  refine qe_iaload c181_29 e7 e8 ?_
  refine qe_if_ne_F (t := 37) c181_30 rfl e9 ?_
  exact kk
theorem b181_21T {d : Nat} {q : Option Value × qH} {h : qH} {r0 : Nat} {x1 : Int32} {x2 : Int32} {fs1 : List Value} {y3 : Nat} {n5 : Nat} {f6 : Nat → Int32}  (e2 : h.2.2 r0 = some (.inr (12, fs1))) (e4 : fs1[10]? = some (.ref y3)) (e7 : h.2.2 y3 = some (.inl (0, n5, .inl f6))) (e8 : 0 ≤ ((36000 + x1) : Int32).toInt ∧ ((36000 + x1) : Int32).toInt < (n5 : Nat)) (e9 : ¬ (((f6 ((36000 + x1) : Int32).toNatClampNeg) : Int32) = 0)) (kk : qE d 181 37 [some (.ref r0), some (.int x1), some (.int x2)] [] h q): qE d 181 21 [some (.ref r0), some (.int x1), some (.int x2)] [] h q := by
  refine qe_aload_n c181_21 rfl ?_
  refine qe_getfield c181_22 qo181 qF12_14 e2 e4 ?_
  refine qe_ldc (x := 36000) c181_25 qo181 qI12_230 ?_
  refine qe_iload_n c181_27 rfl ?_
  refine qe_iadd c181_28 ?_
  refine qe_iaload c181_29 e7 e8 ?_
  refine qe_if_ne_T (t := 37) c181_30 rfl e9 ?_
  exact kk
theorem b181_33 {d : Nat} {q : Option Value × qH} {h : qH} {r0 : Nat} {x1 : Int32} {x2 : Int32}   (kk : qE d 181 38 [some (.ref r0), some (.int x1), some (.int x2)] [.int 1] h q): qE d 181 33 [some (.ref r0), some (.int x1), some (.int x2)] [] h q := by
  refine qe_iconst (x := 1) c181_33 (by decide) ?_
  refine qe_goto (t := 38) c181_34 rfl ?_
  exact kk
theorem b181_37 {d : Nat} {q : Option Value × qH} {h : qH} {r0 : Nat} {x1 : Int32} {x2 : Int32}   (kk : qE d 181 38 [some (.ref r0), some (.int x1), some (.int x2)] [.int 0] h q): qE d 181 37 [some (.ref r0), some (.int x1), some (.int x2)] [] h q := by
  refine qe_iconst (x := 0) c181_37 (by decide) ?_
  exact kk
theorem b181_38F {d : Nat} {q : Option Value × qH} {h : qH} {r0 : Nat} {x1 : Int32} {x2 : Int32} {xs0 : Int32}  (e1 : (xs0 : Int32) = x2) (kk : qE d 181 42 [some (.ref r0), some (.int x1), some (.int x2)] [] h q): qE d 181 38 [some (.ref r0), some (.int x1), some (.int x2)] [.int xs0] h q := by
  refine qe_iload_n c181_38 rfl ?_
  refine qe_icmp_ne_F (t := 44) c181_39 rfl e1 ?_
  exact kk
theorem b181_38T {d : Nat} {q : Option Value × qH} {h : qH} {r0 : Nat} {x1 : Int32} {x2 : Int32} {xs0 : Int32}  (e1 : ¬ ((xs0 : Int32) = x2)) (kk : qE d 181 44 [some (.ref r0), some (.int x1), some (.int x2)] [] h q): qE d 181 38 [some (.ref r0), some (.int x1), some (.int x2)] [.int xs0] h q := by
  refine qe_iload_n c181_38 rfl ?_
  refine qe_icmp_ne_T (t := 44) c181_39 rfl e1 ?_
  exact kk
theorem b181_42 {d : Nat} {h : qH} {r0 : Nat} {x1 : Int32} {x2 : Int32}   : qE d 181 42 [some (.ref r0), some (.int x1), some (.int x2)] [] h (some (.int 0), h) := by
  refine qe_iconst (x := 0) c181_42 (by decide) ?_
  exact qe_zret c181_43 qr181 (by decide)
theorem b181_44F {d : Nat} {q : Option Value × qH} {h : qH} {r0 : Nat} {x1 : Int32} {x2 : Int32} {fs1 : List Value} {y3 : Nat}  (e2 : h.2.2 r0 = some (.inr (12, fs1))) (e4 : fs1[10]? = some (.ref y3)) (e5 : ¬ ((x2 : Int32) = 0)) (kk : qE d 181 56 [some (.ref r0), some (.int x1), some (.int x2)] [.int (36000 + x1), .ref y3] h q): qE d 181 44 [some (.ref r0), some (.int x1), some (.int x2)] [] h q := by
  refine qe_aload_n c181_44 rfl ?_
  refine qe_getfield c181_45 qo181 qF12_14 e2 e4 ?_
  refine qe_ldc (x := 36000) c181_48 qo181 qI12_230 ?_
  refine qe_iload_n c181_50 rfl ?_
  refine qe_iadd c181_51 ?_
  refine qe_iload_n c181_52 rfl ?_
  refine qe_if_eq_F (t := 60) c181_53 rfl e5 ?_
  exact kk
theorem b181_44T {d : Nat} {q : Option Value × qH} {h : qH} {r0 : Nat} {x1 : Int32} {x2 : Int32} {fs1 : List Value} {y3 : Nat}  (e2 : h.2.2 r0 = some (.inr (12, fs1))) (e4 : fs1[10]? = some (.ref y3)) (e5 : (x2 : Int32) = 0) (kk : qE d 181 60 [some (.ref r0), some (.int x1), some (.int x2)] [.int (36000 + x1), .ref y3] h q): qE d 181 44 [some (.ref r0), some (.int x1), some (.int x2)] [] h q := by
  refine qe_aload_n c181_44 rfl ?_
  refine qe_getfield c181_45 qo181 qF12_14 e2 e4 ?_
  refine qe_ldc (x := 36000) c181_48 qo181 qI12_230 ?_
  refine qe_iload_n c181_50 rfl ?_
  refine qe_iadd c181_51 ?_
  refine qe_iload_n c181_52 rfl ?_
  refine qe_if_eq_T (t := 60) c181_53 rfl e5 ?_
  exact kk
theorem b181_56 {d : Nat} {q : Option Value × qH} {h : qH} {r0 : Nat} {x1 : Int32} {x2 : Int32} {rs0 : Nat} {xs1 : Int32}   (kk : qE d 181 61 [some (.ref r0), some (.int x1), some (.int x2)] [.int 0, .int xs1, .ref rs0] h q): qE d 181 56 [some (.ref r0), some (.int x1), some (.int x2)] [.int xs1, .ref rs0] h q := by
  refine qe_iconst (x := 0) c181_56 (by decide) ?_
  refine qe_goto (t := 61) c181_57 rfl ?_
  exact kk
theorem b181_60 {d : Nat} {q : Option Value × qH} {h : qH} {r0 : Nat} {x1 : Int32} {x2 : Int32} {rs0 : Nat} {xs1 : Int32}   (kk : qE d 181 61 [some (.ref r0), some (.int x1), some (.int x2)] [.int 1, .int xs1, .ref rs0] h q): qE d 181 60 [some (.ref r0), some (.int x1), some (.int x2)] [.int xs1, .ref rs0] h q := by
  refine qe_iconst (x := 1) c181_60 (by decide) ?_
  exact kk
theorem b181_61 {d : Nat} {h : qH} {r0 : Nat} {x1 : Int32} {x2 : Int32} {rs0 : Nat} {xs1 : Int32} {xs2 : Int32} {n1 : Nat} {f2 : Nat → Int32} {h1 : qH}  (e3 : h.2.2 rs0 = some (.inl (0, n1, .inl f2))) (e4 : 0 ≤ (xs1 : Int32).toInt ∧ (xs1 : Int32).toInt < (n1 : Nat)) (e5 : qset h rs0 (.inl (0, n1, .inl (upd f2 ((xs1 : Int32).toNatClampNeg) xs2))) = h1) : qE d 181 61 [some (.ref r0), some (.int x1), some (.int x2)] [.int xs2, .int xs1, .ref rs0] h (some (.int 1), h1) := by
  refine qe_iastore c181_61 e3 e4 ?_
  rw [e5]
  refine qe_iconst (x := 1) c181_62 (by decide) ?_
  exact qe_zret c181_63 qr181 (by decide)
theorem b182_0 {d : Nat} {q : Option Value × qH} {h : qH} {r0 : Nat} {x1 : Int32}   (kk : qE d 182 5 [some (.ref r0), some (.int x1), some (.long 1), none, some (.int 0), none, none, none, none, none, none] [] h q): qE d 182 0 [some (.ref r0), some (.int x1), none, none, none, none, none, none, none, none, none] [] h q := by
  refine qe_lconst (x := 1) c182_0 (by decide) ?_
  refine qe_lstore_n (ls2 := [some (.ref r0), some (.int x1), some (.long 1), none, none, none, none, none, none, none, none]) c182_1 (Nat.le_of_ble_eq_true rfl) rfl ?_
  refine qe_iconst (x := 0) c182_2 (by decide) ?_
  refine qe_istore (ls2 := [some (.ref r0), some (.int x1), some (.long 1), none, some (.int 0), none, none, none, none, none, none]) c182_3 (Nat.le_of_ble_eq_true rfl) rfl ?_
  exact kk
theorem b182_5F {d : Nat} {q : Option Value × qH} {h : qH} {r0 : Nat} {x1 : Int32} {l2 : Int64} {x4 : Int32} {o5 : Option Value} {o7 : Option Value} {o8 : Option Value} {o10 : Option Value}  (e1 : ¬ ((x1 : Int32) ≤ x4)) (kk : qE d 182 11 [some (.ref r0), some (.int x1), some (.long l2), none, some (.int x4), o5, none, o7, o8, none, o10] [] h q): qE d 182 5 [some (.ref r0), some (.int x1), some (.long l2), none, some (.int x4), o5, none, o7, o8, none, o10] [] h q := by
  refine qe_iload c182_5 rfl ?_
  refine qe_iload_n c182_7 rfl ?_
  refine qe_icmp_ge_F (t := 136) c182_8 rfl e1 ?_
  exact kk
theorem b182_5T {d : Nat} {q : Option Value × qH} {h : qH} {r0 : Nat} {x1 : Int32} {l2 : Int64} {x4 : Int32} {o5 : Option Value} {o7 : Option Value} {o8 : Option Value} {o10 : Option Value}  (e1 : (x1 : Int32) ≤ x4) (kk : qE d 182 136 [some (.ref r0), some (.int x1), some (.long l2), none, some (.int x4), o5, none, o7, o8, none, o10] [] h q): qE d 182 5 [some (.ref r0), some (.int x1), some (.long l2), none, some (.int x4), o5, none, o7, o8, none, o10] [] h q := by
  refine qe_iload c182_5 rfl ?_
  refine qe_iload_n c182_7 rfl ?_
  refine qe_icmp_ge_T (t := 136) c182_8 rfl e1 ?_
  exact kk
theorem b182_11 {d : Nat} {q : Option Value × qH} {h : qH} {r0 : Nat} {x1 : Int32} {l2 : Int64} {x4 : Int32} {o5 : Option Value} {o7 : Option Value} {o8 : Option Value} {o10 : Option Value} {fs1 : List Value} {y3 : Nat} {n5 : Nat} {f6 : Nat → Int64}  (e2 : h.2.2 r0 = some (.inr (12, fs1))) (e4 : fs1[31]? = some (.ref y3)) (e7 : h.2.2 y3 = some (.inl (2, n5, .inr (.inl f6)))) (e8 : 0 ≤ ((15 * x4) : Int32).toInt ∧ ((15 * x4) : Int32).toInt < (n5 : Nat)) (kk : qE d 182 26 [some (.ref r0), some (.int x1), some (.long l2), none, some (.int x4), some (.long (f6 ((15 * x4) : Int32).toNatClampNeg)), none, some (.int 0), o8, none, o10] [] h q): qE d 182 11 [some (.ref r0), some (.int x1), some (.long l2), none, some (.int x4), o5, none, o7, o8, none, o10] [] h q := by
  refine qe_aload_n c182_11 rfl ?_
  refine qe_getfield c182_12 qo182 qF12_77 e2 e4 ?_
  refine qe_bipush (x := 15) c182_15 (by decide) ?_
  refine qe_iload c182_17 rfl ?_
  refine qe_imul c182_19 ?_
  refine qe_laload c182_20 e7 e8 ?_
  refine qe_lstore (ls2 := [some (.ref r0), some (.int x1), some (.long l2), none, some (.int x4), some (.long (f6 ((15 * x4) : Int32).toNatClampNeg)), none, o7, o8, none, o10]) c182_21 (Nat.le_of_ble_eq_true rfl) rfl ?_
  refine qe_iconst (x := 0) c182_23 (by decide) ?_
  refine qe_istore (ls2 := [some (.ref r0), some (.int x1), some (.long l2), none, some (.int x4), some (.long (f6 ((15 * x4) : Int32).toNatClampNeg)), none, some (.int 0), o8, none, o10]) c182_24 (Nat.le_of_ble_eq_true rfl) rfl ?_
  exact kk
theorem b182_26F {d : Nat} {q : Option Value × qH} {h : qH} {r0 : Nat} {x1 : Int32} {l2 : Int64} {x4 : Int32} {l5 : Int64} {x7 : Int32} {o8 : Option Value} {o10 : Option Value}  (e1 : ¬ ((x1 : Int32) ≤ x7)) (kk : qE d 182 32 [some (.ref r0), some (.int x1), some (.long l2), none, some (.int x4), some (.long l5), none, some (.int x7), o8, none, o10] [] h q): qE d 182 26 [some (.ref r0), some (.int x1), some (.long l2), none, some (.int x4), some (.long l5), none, some (.int x7), o8, none, o10] [] h q := by
  refine qe_iload c182_26 rfl ?_
  refine qe_iload_n c182_28 rfl ?_
  refine qe_icmp_ge_F (t := 127) c182_29 rfl e1 ?_
  exact kk
theorem b182_26T {d : Nat} {q : Option Value × qH} {h : qH} {r0 : Nat} {x1 : Int32} {l2 : Int64} {x4 : Int32} {l5 : Int64} {x7 : Int32} {o8 : Option Value} {o10 : Option Value}  (e1 : (x1 : Int32) ≤ x7) (kk : qE d 182 127 [some (.ref r0), some (.int x1), some (.long l2), none, some (.int x4), some (.long l5), none, some (.int x7), o8, none, o10] [] h q): qE d 182 26 [some (.ref r0), some (.int x1), some (.long l2), none, some (.int x4), some (.long l5), none, some (.int x7), o8, none, o10] [] h q := by
  refine qe_iload c182_26 rfl ?_
  refine qe_iload_n c182_28 rfl ?_
  refine qe_icmp_ge_T (t := 127) c182_29 rfl e1 ?_
  exact kk
theorem b182_32F {d : Nat} {q : Option Value × qH} {h : qH} {r0 : Nat} {x1 : Int32} {l2 : Int64} {x4 : Int32} {l5 : Int64} {x7 : Int32} {o8 : Option Value} {o10 : Option Value}  (e1 : (x7 : Int32) = x4) (kk : qE d 182 39 [some (.ref r0), some (.int x1), some (.long l2), none, some (.int x4), some (.long l5), none, some (.int x7), o8, none, o10] [] h q): qE d 182 32 [some (.ref r0), some (.int x1), some (.long l2), none, some (.int x4), some (.long l5), none, some (.int x7), o8, none, o10] [] h q := by
  refine qe_iload c182_32 rfl ?_
  refine qe_iload c182_34 rfl ?_
  refine qe_icmp_ne_F (t := 42) c182_36 rfl e1 ?_
  exact kk
theorem b182_32T {d : Nat} {q : Option Value × qH} {h : qH} {r0 : Nat} {x1 : Int32} {l2 : Int64} {x4 : Int32} {l5 : Int64} {x7 : Int32} {o8 : Option Value} {o10 : Option Value}  (e1 : ¬ ((x7 : Int32) = x4)) (kk : qE d 182 42 [some (.ref r0), some (.int x1), some (.long l2), none, some (.int x4), some (.long l5), none, some (.int x7), o8, none, o10] [] h q): qE d 182 32 [some (.ref r0), some (.int x1), some (.long l2), none, some (.int x4), some (.long l5), none, some (.int x7), o8, none, o10] [] h q := by
  refine qe_iload c182_32 rfl ?_
  refine qe_iload c182_34 rfl ?_
  refine qe_icmp_ne_T (t := 42) c182_36 rfl e1 ?_
  exact kk
theorem b182_39 {d : Nat} {q : Option Value × qH} {h : qH} {r0 : Nat} {x1 : Int32} {l2 : Int64} {x4 : Int32} {l5 : Int64} {x7 : Int32} {o8 : Option Value} {o10 : Option Value}   (kk : qE d 182 121 [some (.ref r0), some (.int x1), some (.long l2), none, some (.int x4), some (.long l5), none, some (.int x7), o8, none, o10] [] h q): qE d 182 39 [some (.ref r0), some (.int x1), some (.long l2), none, some (.int x4), some (.long l5), none, some (.int x7), o8, none, o10] [] h q := by
  refine qe_goto (t := 121) c182_39 rfl ?_
  exact kk
theorem b182_42 {d : Nat} {q : Option Value × qH} {h : qH} {r0 : Nat} {x1 : Int32} {l2 : Int64} {x4 : Int32} {l5 : Int64} {x7 : Int32} {o8 : Option Value} {o10 : Option Value} {fs1 : List Value} {y3 : Nat} {n5 : Nat} {f6 : Nat → Int64}  (e2 : h.2.2 r0 = some (.inr (12, fs1))) (e4 : fs1[31]? = some (.ref y3)) (e7 : h.2.2 y3 = some (.inl (2, n5, .inr (.inl f6)))) (e8 : 0 ≤ (((14 * x7) + x4) : Int32).toInt ∧ (((14 * x7) + x4) : Int32).toInt < (n5 : Nat)) (kk : qE d 182 60 [some (.ref r0), some (.int x1), some (.long l2), none, some (.int x4), some (.long l5), none, some (.int x7), some (.long (f6 (((14 * x7) + x4) : Int32).toNatClampNeg)), none, some (.int 0)] [] h q): qE d 182 42 [some (.ref r0), some (.int x1), some (.long l2), none, some (.int x4), some (.long l5), none, some (.int x7), o8, none, o10] [] h q := by
  refine qe_aload_n c182_42 rfl ?_
  refine qe_getfield c182_43 qo182 qF12_77 e2 e4 ?_
  refine qe_bipush (x := 14) c182_46 (by decide) ?_
  refine qe_iload c182_48 rfl ?_
  refine qe_imul c182_50 ?_
  refine qe_iload c182_51 rfl ?_
  refine qe_iadd c182_53 ?_
  refine qe_laload c182_54 e7 e8 ?_
  refine qe_lstore (ls2 := [some (.ref r0), some (.int x1), some (.long l2), none, some (.int x4), some (.long l5), none, some (.int x7), some (.long (f6 (((14 * x7) + x4) : Int32).toNatClampNeg)), none, o10]) c182_55 (Nat.le_of_ble_eq_true rfl) rfl ?_
  refine qe_iconst (x := 0) c182_57 (by decide) ?_
  refine qe_istore (ls2 := [some (.ref r0), some (.int x1), some (.long l2), none, some (.int x4), some (.long l5), none, some (.int x7), some (.long (f6 (((14 * x7) + x4) : Int32).toNatClampNeg)), none, some (.int 0)]) c182_58 (Nat.le_of_ble_eq_true rfl) rfl ?_
  exact kk
theorem b182_60F {d : Nat} {q : Option Value × qH} {h : qH} {r0 : Nat} {x1 : Int32} {l2 : Int64} {x4 : Int32} {l5 : Int64} {x7 : Int32} {l8 : Int64} {x10 : Int32}  (e1 : ¬ ((14 : Int32) ≤ x10)) (kk : qE d 182 67 [some (.ref r0), some (.int x1), some (.long l2), none, some (.int x4), some (.long l5), none, some (.int x7), some (.long l8), none, some (.int x10)] [] h q): qE d 182 60 [some (.ref r0), some (.int x1), some (.long l2), none, some (.int x4), some (.long l5), none, some (.int x7), some (.long l8), none, some (.int x10)] [] h q := by
  refine qe_iload c182_60 rfl ?_
  refine qe_bipush (x := 14) c182_62 (by decide) ?_
  refine qe_icmp_ge_F (t := 121) c182_64 rfl e1 ?_
  exact kk
theorem b182_60T {d : Nat} {q : Option Value × qH} {h : qH} {r0 : Nat} {x1 : Int32} {l2 : Int64} {x4 : Int32} {l5 : Int64} {x7 : Int32} {l8 : Int64} {x10 : Int32}  (e1 : (14 : Int32) ≤ x10) (kk : qE d 182 121 [some (.ref r0), some (.int x1), some (.long l2), none, some (.int x4), some (.long l5), none, some (.int x7), some (.long l8), none, some (.int x10)] [] h q): qE d 182 60 [some (.ref r0), some (.int x1), some (.long l2), none, some (.int x4), some (.long l5), none, some (.int x7), some (.long l8), none, some (.int x10)] [] h q := by
  refine qe_iload c182_60 rfl ?_
  refine qe_bipush (x := 14) c182_62 (by decide) ?_
  refine qe_icmp_ge_T (t := 121) c182_64 rfl e1 ?_
  exact kk
theorem b182_67 {d : Nat} {q : Option Value × qH} {h : qH} {r0 : Nat} {x1 : Int32} {l2 : Int64} {x4 : Int32} {l5 : Int64} {x7 : Int32} {l8 : Int64} {x10 : Int32} {fs1 : List Value} {y3 : Nat} {n6 : Nat} {f7 : Nat → Int64} {h1 : qH}  (e2 : h.2.2 r0 = some (.inr (12, fs1))) (e4 : fs1[31]? = some (.ref y3)) (e8 : h.2.2 y3 = some (.inl (2, n6, .inr (.inl f7)))) (e9 : 0 ≤ (((14 * x7) + x10) : Int32).toInt ∧ (((14 * x7) + x10) : Int32).toInt < (n6 : Nat)) (e11 : 0 ≤ (((14 * x4) + x10) : Int32).toInt ∧ (((14 * x4) + x10) : Int32).toInt < (n6 : Nat)) (e12 : ¬ (l2 : Int64) = 0) (e13 : 0 ≤ (((14 * x7) + x10) : Int32).toInt ∧ (((14 * x7) + x10) : Int32).toInt < (n6 : Nat)) (e14 : qset h y3 (.inl (2, n6, .inr (.inl (vp_updL f7 ((((14 * x7) + x10) : Int32).toNatClampNeg) ((((l5 * (f7 (((14 * x7) + x10) : Int32).toNatClampNeg)) - (l8 * (f7 (((14 * x4) + x10) : Int32).toNatClampNeg))) / l2)))))) = h1) (kk : qE d 182 60 [some (.ref r0), some (.int x1), some (.long l2), none, some (.int x4), some (.long l5), none, some (.int x7), some (.long l8), none, some (.int (x10 + 1))] [] h1 q): qE d 182 67 [some (.ref r0), some (.int x1), some (.long l2), none, some (.int x4), some (.long l5), none, some (.int x7), some (.long l8), none, some (.int x10)] [] h q := by
  refine qe_aload_n c182_67 rfl ?_
  refine qe_getfield c182_68 qo182 qF12_77 e2 e4 ?_
  refine qe_bipush (x := 14) c182_71 (by decide) ?_
  refine qe_iload c182_73 rfl ?_
  refine qe_imul c182_75 ?_
  refine qe_iload c182_76 rfl ?_
  refine qe_iadd c182_78 ?_
  refine qe_lload c182_79 rfl ?_
  refine qe_aload_n c182_81 rfl ?_
  refine qe_getfield c182_82 qo182 qF12_77 e2 e4 ?_
  refine qe_bipush (x := 14) c182_85 (by decide) ?_
  refine qe_iload c182_87 rfl ?_
  refine qe_imul c182_89 ?_
  refine qe_iload c182_90 rfl ?_
  refine qe_iadd c182_92 ?_
  refine qe_laload c182_93 e8 e9 ?_
  refine qe_lmul c182_94 ?_
  refine qe_lload c182_95 rfl ?_
  refine qe_aload_n c182_97 rfl ?_
  refine qe_getfield c182_98 qo182 qF12_77 e2 e4 ?_
  refine qe_bipush (x := 14) c182_101 (by decide) ?_
  refine qe_iload c182_103 rfl ?_
  refine qe_imul c182_105 ?_
  refine qe_iload c182_106 rfl ?_
  refine qe_iadd c182_108 ?_
  refine qe_laload c182_109 e8 e11 ?_
  refine qe_lmul c182_110 ?_
  refine qe_lsub c182_111 ?_
  refine qe_lload_n c182_112 rfl ?_
  refine qe_ldiv c182_113 e12 ?_
  refine qe_lastore c182_114 e8 e13 ?_
  rw [e14]
  refine qe_iinc (y := (x10 + 1)) (ls2 := [some (.ref r0), some (.int x1), some (.long l2), none, some (.int x4), some (.long l5), none, some (.int x7), some (.long l8), none, some (.int (x10 + 1))]) c182_115 rfl (Nat.le_of_ble_eq_true rfl) rfl rfl ?_
  refine qe_goto (t := 60) c182_118 rfl ?_
  exact kk
theorem b182_121 {d : Nat} {q : Option Value × qH} {h : qH} {r0 : Nat} {x1 : Int32} {l2 : Int64} {x4 : Int32} {l5 : Int64} {x7 : Int32} {o8 : Option Value} {o10 : Option Value}   (kk : qE d 182 26 [some (.ref r0), some (.int x1), some (.long l2), none, some (.int x4), some (.long l5), none, some (.int (x7 + 1)), o8, none, o10] [] h q): qE d 182 121 [some (.ref r0), some (.int x1), some (.long l2), none, some (.int x4), some (.long l5), none, some (.int x7), o8, none, o10] [] h q := by
  refine qe_iinc (y := (x7 + 1)) (ls2 := [some (.ref r0), some (.int x1), some (.long l2), none, some (.int x4), some (.long l5), none, some (.int (x7 + 1)), o8, none, o10]) c182_121 rfl (Nat.le_of_ble_eq_true rfl) rfl rfl ?_
  refine qe_goto (t := 26) c182_124 rfl ?_
  exact kk
theorem b182_127 {d : Nat} {q : Option Value × qH} {h : qH} {r0 : Nat} {x1 : Int32} {l2 : Int64} {x4 : Int32} {l5 : Int64} {x7 : Int32} {o8 : Option Value} {o10 : Option Value}   (kk : qE d 182 5 [some (.ref r0), some (.int x1), some (.long l5), none, some (.int (x4 + 1)), some (.long l5), none, some (.int x7), o8, none, o10] [] h q): qE d 182 127 [some (.ref r0), some (.int x1), some (.long l2), none, some (.int x4), some (.long l5), none, some (.int x7), o8, none, o10] [] h q := by
  refine qe_lload c182_127 rfl ?_
  refine qe_lstore_n (ls2 := [some (.ref r0), some (.int x1), some (.long l5), none, some (.int x4), some (.long l5), none, some (.int x7), o8, none, o10]) c182_129 (Nat.le_of_ble_eq_true rfl) rfl ?_
  refine qe_iinc (y := (x4 + 1)) (ls2 := [some (.ref r0), some (.int x1), some (.long l5), none, some (.int (x4 + 1)), some (.long l5), none, some (.int x7), o8, none, o10]) c182_130 rfl (Nat.le_of_ble_eq_true rfl) rfl rfl ?_
  refine qe_goto (t := 5) c182_133 rfl ?_
  exact kk
theorem b182_136 {d : Nat} {h : qH} {r0 : Nat} {x1 : Int32} {l2 : Int64} {x4 : Int32} {o5 : Option Value} {o7 : Option Value} {o8 : Option Value} {o10 : Option Value}   : qE d 182 136 [some (.ref r0), some (.int x1), some (.long l2), none, some (.int x4), o5, none, o7, o8, none, o10] [] h (some (.long l2), h) := by
  refine qe_lload_n c182_136 rfl ?_
  exact qe_lret c182_137 qr182
theorem b183_0F {d : Nat} {q : Option Value × qH} {h : qH} {r0 : Nat} {x1 : Int32} {fs1 : List Value} {y3 : Int32} {y5 : Int32}  (e2 : h.2.2 r0 = some (.inr (12, fs1))) (e4 : fs1[55]? = some (.int y3)) (e6 : fs1[56]? = some (.int y5)) (e7 : ¬ ((y5 : Int32) = 0)) (kk : qE d 183 12 [some (.ref r0), some (.int x1), some (.int y3), none] [] h q): qE d 183 0 [some (.ref r0), some (.int x1), none, none] [] h q := by
  refine qe_aload_n c183_0 rfl ?_
  refine qe_getfield c183_1 qo183 qF12_396 e2 e4 ?_
  refine qe_istore_n (ls2 := [some (.ref r0), some (.int x1), some (.int y3), none]) c183_4 (Nat.le_of_ble_eq_true rfl) rfl ?_
  refine qe_aload_n c183_5 rfl ?_
  refine qe_getfield c183_6 qo183 qF12_399 e2 e6 ?_
  refine qe_if_eq_F (t := 21) c183_9 rfl e7 ?_
  exact kk
theorem b183_0T {d : Nat} {q : Option Value × qH} {h : qH} {r0 : Nat} {x1 : Int32} {fs1 : List Value} {y3 : Int32} {y5 : Int32}  (e2 : h.2.2 r0 = some (.inr (12, fs1))) (e4 : fs1[55]? = some (.int y3)) (e6 : fs1[56]? = some (.int y5)) (e7 : (y5 : Int32) = 0) (kk : qE d 183 21 [some (.ref r0), some (.int x1), some (.int y3), none] [] h q): qE d 183 0 [some (.ref r0), some (.int x1), none, none] [] h q := by
  refine qe_aload_n c183_0 rfl ?_
  refine qe_getfield c183_1 qo183 qF12_396 e2 e4 ?_
  refine qe_istore_n (ls2 := [some (.ref r0), some (.int x1), some (.int y3), none]) c183_4 (Nat.le_of_ble_eq_true rfl) rfl ?_
  refine qe_aload_n c183_5 rfl ?_
  refine qe_getfield c183_6 qo183 qF12_399 e2 e6 ?_
  refine qe_if_eq_T (t := 21) c183_9 rfl e7 ?_
  exact kk
theorem b183_12 {d : Nat} {q : Option Value × qH} {h : qH} {r0 : Nat} {x1 : Int32} {x2 : Int32} {fs1 : List Value} {y3 : Nat} {n5 : Nat} {f6 : Nat → Int32}  (e2 : h.2.2 r0 = some (.inr (12, fs1))) (e4 : fs1[13]? = some (.ref y3)) (e7 : h.2.2 y3 = some (.inl (0, n5, .inl f6))) (e8 : 0 ≤ (x2 : Int32).toInt ∧ (x2 : Int32).toInt < (n5 : Nat)) (kk : qE d 183 27 [some (.ref r0), some (.int x1), some (.int x2), none] [.int (f6 (x2 : Int32).toNatClampNeg)] h q): qE d 183 12 [some (.ref r0), some (.int x1), some (.int x2), none] [] h q := by
  refine qe_aload_n c183_12 rfl ?_
  refine qe_getfield c183_13 qo183 qF12_24 e2 e4 ?_
  refine qe_iload_n c183_16 rfl ?_
  refine qe_iaload c183_17 e7 e8 ?_
  refine qe_goto (t := 27) c183_18 rfl ?_
  exact kk
theorem b183_21 {d : Nat} {q : Option Value × qH} {h : qH} {r0 : Nat} {x1 : Int32} {x2 : Int32} {fs1 : List Value} {y3 : Nat} {n5 : Nat} {f6 : Nat → Int32}  (e2 : h.2.2 r0 = some (.inr (12, fs1))) (e4 : fs1[19]? = some (.ref y3)) (e7 : h.2.2 y3 = some (.inl (0, n5, .inl f6))) (e8 : 0 ≤ (x2 : Int32).toInt ∧ (x2 : Int32).toInt < (n5 : Nat)) (kk : qE d 183 27 [some (.ref r0), some (.int x1), some (.int x2), none] [.int (f6 (x2 : Int32).toNatClampNeg)] h q): qE d 183 21 [some (.ref r0), some (.int x1), some (.int x2), none] [] h q := by
  refine qe_aload_n c183_21 rfl ?_
  refine qe_getfield c183_22 qo183 qF12_42 e2 e4 ?_
  refine qe_iload_n c183_25 rfl ?_
  refine qe_iaload c183_26 e7 e8 ?_
  exact kk
theorem b183_27D {d : Nat} {q : Option Value × qH} {h : qH} {r0 : Nat} {x1 : Int32} {x2 : Int32} {xs0 : Int32}  (e1 : (x1 : Int32).toInt < 100 ∨ 119 < (x1 : Int32).toInt) (kk : qE d 183 226 [some (.ref r0), some (.int x1), some (.int x2), some (.int xs0)] [] h q): qE d 183 27 [some (.ref r0), some (.int x1), some (.int x2), none] [.int xs0] h q := by
  refine qe_istore_n (ls2 := [some (.ref r0), some (.int x1), some (.int x2), some (.int xs0)]) c183_27 (Nat.le_of_ble_eq_true rfl) rfl ?_
  refine qe_iload_n c183_28 rfl ?_
  refine qe_tableD (t := 226) c183_29 e1 rfl ?_
  exact kk
theorem b183_27s119 {d : Nat} {q : Option Value × qH} {h : qH} {r0 : Nat} {x1 : Int32} {x2 : Int32} {xs0 : Int32}  (e1 : (x1 : Int32).toInt = 119) (kk : qE d 183 202 [some (.ref r0), some (.int x1), some (.int x2), some (.int xs0)] [] h q): qE d 183 27 [some (.ref r0), some (.int x1), some (.int x2), none] [.int xs0] h q := by
  refine qe_istore_n (ls2 := [some (.ref r0), some (.int x1), some (.int x2), some (.int xs0)]) c183_27 (Nat.le_of_ble_eq_true rfl) rfl ?_
  refine qe_iload_n c183_28 rfl ?_
  refine qe_table (off := 173) (t := 202) c183_29 (by rw [e1]; decide) (by rw [e1]; decide) rfl ?_
  exact kk
theorem b183_27s118 {d : Nat} {q : Option Value × qH} {h : qH} {r0 : Nat} {x1 : Int32} {x2 : Int32} {xs0 : Int32}  (e1 : (x1 : Int32).toInt = 118) (kk : qE d 183 226 [some (.ref r0), some (.int x1), some (.int x2), some (.int xs0)] [] h q): qE d 183 27 [some (.ref r0), some (.int x1), some (.int x2), none] [.int xs0] h q := by
  refine qe_istore_n (ls2 := [some (.ref r0), some (.int x1), some (.int x2), some (.int xs0)]) c183_27 (Nat.le_of_ble_eq_true rfl) rfl ?_
  refine qe_iload_n c183_28 rfl ?_
  refine qe_table (off := 197) (t := 226) c183_29 (by rw [e1]; decide) (by rw [e1]; decide) rfl ?_
  exact kk
theorem b183_27s117 {d : Nat} {q : Option Value × qH} {h : qH} {r0 : Nat} {x1 : Int32} {x2 : Int32} {xs0 : Int32}  (e1 : (x1 : Int32).toInt = 117) (kk : qE d 183 226 [some (.ref r0), some (.int x1), some (.int x2), some (.int xs0)] [] h q): qE d 183 27 [some (.ref r0), some (.int x1), some (.int x2), none] [.int xs0] h q := by
  refine qe_istore_n (ls2 := [some (.ref r0), some (.int x1), some (.int x2), some (.int xs0)]) c183_27 (Nat.le_of_ble_eq_true rfl) rfl ?_
  refine qe_iload_n c183_28 rfl ?_
  refine qe_table (off := 197) (t := 226) c183_29 (by rw [e1]; decide) (by rw [e1]; decide) rfl ?_
  exact kk
theorem b183_27s116 {d : Nat} {q : Option Value × qH} {h : qH} {r0 : Nat} {x1 : Int32} {x2 : Int32} {xs0 : Int32}  (e1 : (x1 : Int32).toInt = 116) (kk : qE d 183 226 [some (.ref r0), some (.int x1), some (.int x2), some (.int xs0)] [] h q): qE d 183 27 [some (.ref r0), some (.int x1), some (.int x2), none] [.int xs0] h q := by
  refine qe_istore_n (ls2 := [some (.ref r0), some (.int x1), some (.int x2), some (.int xs0)]) c183_27 (Nat.le_of_ble_eq_true rfl) rfl ?_
  refine qe_iload_n c183_28 rfl ?_
  refine qe_table (off := 197) (t := 226) c183_29 (by rw [e1]; decide) (by rw [e1]; decide) rfl ?_
  exact kk
theorem b183_27s115 {d : Nat} {q : Option Value × qH} {h : qH} {r0 : Nat} {x1 : Int32} {x2 : Int32} {xs0 : Int32}  (e1 : (x1 : Int32).toInt = 115) (kk : qE d 183 226 [some (.ref r0), some (.int x1), some (.int x2), some (.int xs0)] [] h q): qE d 183 27 [some (.ref r0), some (.int x1), some (.int x2), none] [.int xs0] h q := by
  refine qe_istore_n (ls2 := [some (.ref r0), some (.int x1), some (.int x2), some (.int xs0)]) c183_27 (Nat.le_of_ble_eq_true rfl) rfl ?_
  refine qe_iload_n c183_28 rfl ?_
  refine qe_table (off := 197) (t := 226) c183_29 (by rw [e1]; decide) (by rw [e1]; decide) rfl ?_
  exact kk
theorem b183_27s114 {d : Nat} {q : Option Value × qH} {h : qH} {r0 : Nat} {x1 : Int32} {x2 : Int32} {xs0 : Int32}  (e1 : (x1 : Int32).toInt = 114) (kk : qE d 183 149 [some (.ref r0), some (.int x1), some (.int x2), some (.int xs0)] [] h q): qE d 183 27 [some (.ref r0), some (.int x1), some (.int x2), none] [.int xs0] h q := by
  refine qe_istore_n (ls2 := [some (.ref r0), some (.int x1), some (.int x2), some (.int xs0)]) c183_27 (Nat.le_of_ble_eq_true rfl) rfl ?_
  refine qe_iload_n c183_28 rfl ?_
  refine qe_table (off := 120) (t := 149) c183_29 (by rw [e1]; decide) (by rw [e1]; decide) rfl ?_
  exact kk
theorem b183_27s113 {d : Nat} {q : Option Value × qH} {h : qH} {r0 : Nat} {x1 : Int32} {x2 : Int32} {xs0 : Int32}  (e1 : (x1 : Int32).toInt = 113) (kk : qE d 183 226 [some (.ref r0), some (.int x1), some (.int x2), some (.int xs0)] [] h q): qE d 183 27 [some (.ref r0), some (.int x1), some (.int x2), none] [.int xs0] h q := by
  refine qe_istore_n (ls2 := [some (.ref r0), some (.int x1), some (.int x2), some (.int xs0)]) c183_27 (Nat.le_of_ble_eq_true rfl) rfl ?_
  refine qe_iload_n c183_28 rfl ?_
  refine qe_table (off := 197) (t := 226) c183_29 (by rw [e1]; decide) (by rw [e1]; decide) rfl ?_
  exact kk
theorem b183_27s112 {d : Nat} {q : Option Value × qH} {h : qH} {r0 : Nat} {x1 : Int32} {x2 : Int32} {xs0 : Int32}  (e1 : (x1 : Int32).toInt = 112) (kk : qE d 183 226 [some (.ref r0), some (.int x1), some (.int x2), some (.int xs0)] [] h q): qE d 183 27 [some (.ref r0), some (.int x1), some (.int x2), none] [.int xs0] h q := by
  refine qe_istore_n (ls2 := [some (.ref r0), some (.int x1), some (.int x2), some (.int xs0)]) c183_27 (Nat.le_of_ble_eq_true rfl) rfl ?_
  refine qe_iload_n c183_28 rfl ?_
  refine qe_table (off := 197) (t := 226) c183_29 (by rw [e1]; decide) (by rw [e1]; decide) rfl ?_
  exact kk
theorem b183_27s111 {d : Nat} {q : Option Value × qH} {h : qH} {r0 : Nat} {x1 : Int32} {x2 : Int32} {xs0 : Int32}  (e1 : (x1 : Int32).toInt = 111) (kk : qE d 183 226 [some (.ref r0), some (.int x1), some (.int x2), some (.int xs0)] [] h q): qE d 183 27 [some (.ref r0), some (.int x1), some (.int x2), none] [.int xs0] h q := by
  refine qe_istore_n (ls2 := [some (.ref r0), some (.int x1), some (.int x2), some (.int xs0)]) c183_27 (Nat.le_of_ble_eq_true rfl) rfl ?_
  refine qe_iload_n c183_28 rfl ?_
  refine qe_table (off := 197) (t := 226) c183_29 (by rw [e1]; decide) (by rw [e1]; decide) rfl ?_
  exact kk
theorem b183_27s110 {d : Nat} {q : Option Value × qH} {h : qH} {r0 : Nat} {x1 : Int32} {x2 : Int32} {xs0 : Int32}  (e1 : (x1 : Int32).toInt = 110) (kk : qE d 183 171 [some (.ref r0), some (.int x1), some (.int x2), some (.int xs0)] [] h q): qE d 183 27 [some (.ref r0), some (.int x1), some (.int x2), none] [.int xs0] h q := by
  refine qe_istore_n (ls2 := [some (.ref r0), some (.int x1), some (.int x2), some (.int xs0)]) c183_27 (Nat.le_of_ble_eq_true rfl) rfl ?_
  refine qe_iload_n c183_28 rfl ?_
  refine qe_table (off := 142) (t := 171) c183_29 (by rw [e1]; decide) (by rw [e1]; decide) rfl ?_
  exact kk
theorem b183_27s109 {d : Nat} {q : Option Value × qH} {h : qH} {r0 : Nat} {x1 : Int32} {x2 : Int32} {xs0 : Int32}  (e1 : (x1 : Int32).toInt = 109) (kk : qE d 183 124 [some (.ref r0), some (.int x1), some (.int x2), some (.int xs0)] [] h q): qE d 183 27 [some (.ref r0), some (.int x1), some (.int x2), none] [.int xs0] h q := by
  refine qe_istore_n (ls2 := [some (.ref r0), some (.int x1), some (.int x2), some (.int xs0)]) c183_27 (Nat.le_of_ble_eq_true rfl) rfl ?_
  refine qe_iload_n c183_28 rfl ?_
  refine qe_table (off := 95) (t := 124) c183_29 (by rw [e1]; decide) (by rw [e1]; decide) rfl ?_
  exact kk
theorem b183_27s108 {d : Nat} {q : Option Value × qH} {h : qH} {r0 : Nat} {x1 : Int32} {x2 : Int32} {xs0 : Int32}  (e1 : (x1 : Int32).toInt = 108) (kk : qE d 183 194 [some (.ref r0), some (.int x1), some (.int x2), some (.int xs0)] [] h q): qE d 183 27 [some (.ref r0), some (.int x1), some (.int x2), none] [.int xs0] h q := by
  refine qe_istore_n (ls2 := [some (.ref r0), some (.int x1), some (.int x2), some (.int xs0)]) c183_27 (Nat.le_of_ble_eq_true rfl) rfl ?_
  refine qe_iload_n c183_28 rfl ?_
  refine qe_table (off := 165) (t := 194) c183_29 (by rw [e1]; decide) (by rw [e1]; decide) rfl ?_
  exact kk
theorem b183_27s107 {d : Nat} {q : Option Value × qH} {h : qH} {r0 : Nat} {x1 : Int32} {x2 : Int32} {xs0 : Int32}  (e1 : (x1 : Int32).toInt = 107) (kk : qE d 183 141 [some (.ref r0), some (.int x1), some (.int x2), some (.int xs0)] [] h q): qE d 183 27 [some (.ref r0), some (.int x1), some (.int x2), none] [.int xs0] h q := by
  refine qe_istore_n (ls2 := [some (.ref r0), some (.int x1), some (.int x2), some (.int xs0)]) c183_27 (Nat.le_of_ble_eq_true rfl) rfl ?_
  refine qe_iload_n c183_28 rfl ?_
  refine qe_table (off := 112) (t := 141) c183_29 (by rw [e1]; decide) (by rw [e1]; decide) rfl ?_
  exact kk
theorem b183_27s106 {d : Nat} {q : Option Value × qH} {h : qH} {r0 : Nat} {x1 : Int32} {x2 : Int32} {xs0 : Int32}  (e1 : (x1 : Int32).toInt = 106) (kk : qE d 183 226 [some (.ref r0), some (.int x1), some (.int x2), some (.int xs0)] [] h q): qE d 183 27 [some (.ref r0), some (.int x1), some (.int x2), none] [.int xs0] h q := by
  refine qe_istore_n (ls2 := [some (.ref r0), some (.int x1), some (.int x2), some (.int xs0)]) c183_27 (Nat.le_of_ble_eq_true rfl) rfl ?_
  refine qe_iload_n c183_28 rfl ?_
  refine qe_table (off := 197) (t := 226) c183_29 (by rw [e1]; decide) (by rw [e1]; decide) rfl ?_
  exact kk
theorem b183_27s105 {d : Nat} {q : Option Value × qH} {h : qH} {r0 : Nat} {x1 : Int32} {x2 : Int32} {xs0 : Int32}  (e1 : (x1 : Int32).toInt = 105) (kk : qE d 183 138 [some (.ref r0), some (.int x1), some (.int x2), some (.int xs0)] [] h q): qE d 183 27 [some (.ref r0), some (.int x1), some (.int x2), none] [.int xs0] h q := by
  refine qe_istore_n (ls2 := [some (.ref r0), some (.int x1), some (.int x2), some (.int xs0)]) c183_27 (Nat.le_of_ble_eq_true rfl) rfl ?_
  refine qe_iload_n c183_28 rfl ?_
  refine qe_table (off := 109) (t := 138) c183_29 (by rw [e1]; decide) (by rw [e1]; decide) rfl ?_
  exact kk
theorem b183_27s104 {d : Nat} {q : Option Value × qH} {h : qH} {r0 : Nat} {x1 : Int32} {x2 : Int32} {xs0 : Int32}  (e1 : (x1 : Int32).toInt = 104) (kk : qE d 183 226 [some (.ref r0), some (.int x1), some (.int x2), some (.int xs0)] [] h q): qE d 183 27 [some (.ref r0), some (.int x1), some (.int x2), none] [.int xs0] h q := by
  refine qe_istore_n (ls2 := [some (.ref r0), some (.int x1), some (.int x2), some (.int xs0)]) c183_27 (Nat.le_of_ble_eq_true rfl) rfl ?_
  refine qe_iload_n c183_28 rfl ?_
  refine qe_table (off := 197) (t := 226) c183_29 (by rw [e1]; decide) (by rw [e1]; decide) rfl ?_
  exact kk
theorem b183_27s103 {d : Nat} {q : Option Value × qH} {h : qH} {r0 : Nat} {x1 : Int32} {x2 : Int32} {xs0 : Int32}  (e1 : (x1 : Int32).toInt = 103) (kk : qE d 183 218 [some (.ref r0), some (.int x1), some (.int x2), some (.int xs0)] [] h q): qE d 183 27 [some (.ref r0), some (.int x1), some (.int x2), none] [.int xs0] h q := by
  refine qe_istore_n (ls2 := [some (.ref r0), some (.int x1), some (.int x2), some (.int xs0)]) c183_27 (Nat.le_of_ble_eq_true rfl) rfl ?_
  refine qe_iload_n c183_28 rfl ?_
  refine qe_table (off := 189) (t := 218) c183_29 (by rw [e1]; decide) (by rw [e1]; decide) rfl ?_
  exact kk
theorem b183_27s102 {d : Nat} {q : Option Value × qH} {h : qH} {r0 : Nat} {x1 : Int32} {x2 : Int32} {xs0 : Int32}  (e1 : (x1 : Int32).toInt = 102) (kk : qE d 183 185 [some (.ref r0), some (.int x1), some (.int x2), some (.int xs0)] [] h q): qE d 183 27 [some (.ref r0), some (.int x1), some (.int x2), none] [.int xs0] h q := by
  refine qe_istore_n (ls2 := [some (.ref r0), some (.int x1), some (.int x2), some (.int xs0)]) c183_27 (Nat.le_of_ble_eq_true rfl) rfl ?_
  refine qe_iload_n c183_28 rfl ?_
  refine qe_table (off := 156) (t := 185) c183_29 (by rw [e1]; decide) (by rw [e1]; decide) rfl ?_
  exact kk
theorem b183_27s101 {d : Nat} {q : Option Value × qH} {h : qH} {r0 : Nat} {x1 : Int32} {x2 : Int32} {xs0 : Int32}  (e1 : (x1 : Int32).toInt = 101) (kk : qE d 183 226 [some (.ref r0), some (.int x1), some (.int x2), some (.int xs0)] [] h q): qE d 183 27 [some (.ref r0), some (.int x1), some (.int x2), none] [.int xs0] h q := by
  refine qe_istore_n (ls2 := [some (.ref r0), some (.int x1), some (.int x2), some (.int xs0)]) c183_27 (Nat.le_of_ble_eq_true rfl) rfl ?_
  refine qe_iload_n c183_28 rfl ?_
  refine qe_table (off := 197) (t := 226) c183_29 (by rw [e1]; decide) (by rw [e1]; decide) rfl ?_
  exact kk
theorem b183_27s100 {d : Nat} {q : Option Value × qH} {h : qH} {r0 : Nat} {x1 : Int32} {x2 : Int32} {xs0 : Int32}  (e1 : (x1 : Int32).toInt = 100) (kk : qE d 183 162 [some (.ref r0), some (.int x1), some (.int x2), some (.int xs0)] [] h q): qE d 183 27 [some (.ref r0), some (.int x1), some (.int x2), none] [.int xs0] h q := by
  refine qe_istore_n (ls2 := [some (.ref r0), some (.int x1), some (.int x2), some (.int xs0)]) c183_27 (Nat.le_of_ble_eq_true rfl) rfl ?_
  refine qe_iload_n c183_28 rfl ?_
  refine qe_table (off := 133) (t := 162) c183_29 (by rw [e1]; decide) (by rw [e1]; decide) rfl ?_
  exact kk
theorem b183_124 {d : Nat} {h : qH} {r0 : Nat} {x1 : Int32} {x2 : Int32} {x3 : Int32} {fs1 : List Value} {y3 : Nat} {y5 : Int32} {n7 : Nat} {f8 : Nat → Int32}  (e2 : h.2.2 r0 = some (.inr (12, fs1))) (e4 : fs1[10]? = some (.ref y3)) (e6 : fs1[54]? = some (.int y5)) (e9 : h.2.2 y3 = some (.inl (0, n7, .inl f8))) (e10 : 0 ≤ ((y5 + 68) : Int32).toInt ∧ ((y5 + 68) : Int32).toInt < (n7 : Nat)) : qE d 183 124 [some (.ref r0), some (.int x1), some (.int x2), some (.int x3)] [] h (some (.long ((f8 ((y5 + 68) : Int32).toNatClampNeg) : Int32).toInt64), h) := by
  refine qe_aload_n c183_124 rfl ?_
  refine qe_getfield c183_125 qo183 qF12_14 e2 e4 ?_
  refine qe_aload_n c183_128 rfl ?_
  refine qe_getfield c183_129 qo183 qF12_402 e2 e6 ?_
  refine qe_bipush (x := 68) c183_132 (by decide) ?_
  refine qe_iadd c183_134 ?_
  refine qe_iaload c183_135 e9 e10 ?_
  refine qe_i2l c183_136 ?_
  exact qe_lret c183_137 qr183
theorem b183_138 {d : Nat} {h : qH} {r0 : Nat} {x1 : Int32} {x2 : Int32} {x3 : Int32}   : qE d 183 138 [some (.ref r0), some (.int x1), some (.int x2), some (.int x3)] [] h (some (.long (x2 : Int32).toInt64), h) := by
  refine qe_iload_n c183_138 rfl ?_
  refine qe_i2l c183_139 ?_
  exact qe_lret c183_140 qr183
theorem b183_141 {d : Nat} {h : qH} {r0 : Nat} {x1 : Int32} {x2 : Int32} {x3 : Int32} {fs1 : List Value} {y3 : Nat} {n5 : Nat} {f6 : Nat → Int32}  (e2 : h.2.2 r0 = some (.inr (12, fs1))) (e4 : fs1[11]? = some (.ref y3)) (e7 : h.2.2 y3 = some (.inl (0, n5, .inl f6))) (e8 : 0 ≤ (x3 : Int32).toInt ∧ (x3 : Int32).toInt < (n5 : Nat)) : qE d 183 141 [some (.ref r0), some (.int x1), some (.int x2), some (.int x3)] [] h (some (.long ((f6 (x3 : Int32).toNatClampNeg) : Int32).toInt64), h) := by
  refine qe_aload_n c183_141 rfl ?_
  refine qe_getfield c183_142 qo183 qF12_18 e2 e4 ?_
  refine qe_iload_n c183_145 rfl ?_
  refine qe_iaload c183_146 e7 e8 ?_
  refine qe_i2l c183_147 ?_
  exact qe_lret c183_148 qr183
theorem b183_149 {d : Nat} {h : qH} {r0 : Nat} {x1 : Int32} {x2 : Int32} {x3 : Int32} {fs1 : List Value} {y3 : Nat} {y5 : Nat} {n7 : Nat} {f8 : Nat → Int32} {n11 : Nat} {f12 : Nat → Int32}  (e2 : h.2.2 r0 = some (.inr (12, fs1))) (e4 : fs1[26]? = some (.ref y3)) (e6 : fs1[24]? = some (.ref y5)) (e9 : h.2.2 y5 = some (.inl (0, n7, .inl f8))) (e10 : 0 ≤ (x3 : Int32).toInt ∧ (x3 : Int32).toInt < (n7 : Nat)) (e13 : h.2.2 y3 = some (.inl (0, n11, .inl f12))) (e14 : 0 ≤ ((f8 (x3 : Int32).toNatClampNeg) : Int32).toInt ∧ ((f8 (x3 : Int32).toNatClampNeg) : Int32).toInt < (n11 : Nat)) : qE d 183 149 [some (.ref r0), some (.int x1), some (.int x2), some (.int x3)] [] h (some (.long ((f12 ((f8 (x3 : Int32).toNatClampNeg) : Int32).toNatClampNeg) : Int32).toInt64), h) := by
  refine qe_aload_n c183_149 rfl ?_
  refine qe_getfield c183_150 qo183 qF12_64 e2 e4 ?_
  refine qe_aload_n c183_153 rfl ?_
  refine qe_getfield c183_154 qo183 qF12_58 e2 e6 ?_
  refine qe_iload_n c183_157 rfl ?_
  refine qe_iaload c183_158 e9 e10 ?_
  refine qe_iaload c183_159 e13 e14 ?_
  refine qe_i2l c183_160 ?_
  exact qe_lret c183_161 qr183
theorem b183_162 {d : Nat} {h : qH} {r0 : Nat} {x1 : Int32} {x2 : Int32} {x3 : Int32} {fs1 : List Value} {y3 : Int32} {h1 : qH} {z5 : Int64}  (e2 : h.2.2 r0 = some (.inr (12, fs1))) (e4 : fs1[54]? = some (.int y3)) (e6 : qCall d 163 [.ref r0, .int y3] h ((some (.long z5)), h1)) : qE d 183 162 [some (.ref r0), some (.int x1), some (.int x2), some (.int x3)] [] h (some (.long z5), h1) := by
  refine qe_aload_n c183_162 rfl ?_
  refine qe_aload_n c183_163 rfl ?_
  refine qe_getfield c183_164 qo183 qF12_402 e2 e4 ?_
  refine qe_virtual (b := r0) (as := [.int y3]) (r := []) (v := (some (.long z5))) (h2 := h1) c183_167 qo183 qK12_405 rfl rfl rfl (by rw [qo163]; exact e2) (Nat.le_of_ble_eq_true rfl) e6 ?_
  exact qe_lret c183_170 qr183
theorem b183_171 {d : Nat} {h : qH} {r0 : Nat} {x1 : Int32} {x2 : Int32} {x3 : Int32} {fs1 : List Value} {y3 : Nat} {y5 : Int32} {n7 : Nat} {f8 : Nat → Int32}  (e2 : h.2.2 r0 = some (.inr (12, fs1))) (e4 : fs1[10]? = some (.ref y3)) (e6 : fs1[54]? = some (.int y5)) (e9 : h.2.2 y3 = some (.inl (0, n7, .inl f8))) (e10 : 0 ≤ ((y5 + 67) : Int32).toInt ∧ ((y5 + 67) : Int32).toInt < (n7 : Nat)) : qE d 183 171 [some (.ref r0), some (.int x1), some (.int x2), some (.int x3)] [] h (some (.long ((f8 ((y5 + 67) : Int32).toNatClampNeg) : Int32).toInt64), h) := by
  refine qe_aload_n c183_171 rfl ?_
  refine qe_getfield c183_172 qo183 qF12_14 e2 e4 ?_
  refine qe_aload_n c183_175 rfl ?_
  refine qe_getfield c183_176 qo183 qF12_402 e2 e6 ?_
  refine qe_bipush (x := 67) c183_179 (by decide) ?_
  refine qe_iadd c183_181 ?_
  refine qe_iaload c183_182 e9 e10 ?_
  refine qe_i2l c183_183 ?_
  exact qe_lret c183_184 qr183
theorem b183_185 {d : Nat} {h : qH} {r0 : Nat} {x1 : Int32} {x2 : Int32} {x3 : Int32} {fs1 : List Value} {h1 : qH} {z3 : Int64} {h2 : qH} {z5 : Int64}  (e2 : h.2.2 r0 = some (.inr (12, fs1))) (e4 : qCall d 178 [.ref r0, .int x2] h ((some (.long z3)), h1)) (e6 : qCall d 170 [.long z3] h1 ((some (.long z5)), h2)) : qE d 183 185 [some (.ref r0), some (.int x1), some (.int x2), some (.int x3)] [] h (some (.long z5), h2) := by
  refine qe_aload_n c183_185 rfl ?_
  refine qe_iload_n c183_186 rfl ?_
  refine qe_virtual (b := r0) (as := [.int x2]) (r := []) (v := (some (.long z3))) (h2 := h1) c183_187 qo183 qK12_408 rfl rfl rfl (by rw [qo178]; exact e2) (Nat.le_of_ble_eq_true rfl) e4 ?_
  refine qe_static (as := [.long z3]) (r := []) (v := (some (.long z5))) (h2 := h2) c183_190 qo183 (by decide) qK12_279 rfl rfl rfl (Nat.le_of_ble_eq_true rfl) e6 ?_
  exact qe_lret c183_193 qr183
theorem b183_194 {d : Nat} {h : qH} {r0 : Nat} {x1 : Int32} {x2 : Int32} {x3 : Int32} {fs1 : List Value} {y3 : Nat} {n5 : Nat} {f6 : Nat → Int32}  (e2 : h.2.2 r0 = some (.inr (12, fs1))) (e4 : fs1[16]? = some (.ref y3)) (e7 : h.2.2 y3 = some (.inl (0, n5, .inl f6))) (e8 : 0 ≤ (x2 : Int32).toInt ∧ (x2 : Int32).toInt < (n5 : Nat)) : qE d 183 194 [some (.ref r0), some (.int x1), some (.int x2), some (.int x3)] [] h (some (.long ((f6 (x2 : Int32).toNatClampNeg) : Int32).toInt64), h) := by
  refine qe_aload_n c183_194 rfl ?_
  refine qe_getfield c183_195 qo183 qF12_33 e2 e4 ?_
  refine qe_iload_n c183_198 rfl ?_
  refine qe_iaload c183_199 e7 e8 ?_
  refine qe_i2l c183_200 ?_
  exact qe_lret c183_201 qr183
theorem b183_202 {d : Nat} {h : qH} {r0 : Nat} {x1 : Int32} {x2 : Int32} {x3 : Int32} {fs1 : List Value} {y3 : Nat} {y5 : Int32} {n7 : Nat} {f8 : Nat → Int32}  (e2 : h.2.2 r0 = some (.inr (12, fs1))) (e4 : fs1[10]? = some (.ref y3)) (e6 : fs1[54]? = some (.int y5)) (e9 : h.2.2 y3 = some (.inl (0, n7, .inl f8))) (e10 : 0 ≤ (((y5 + 14) + x2) : Int32).toInt ∧ (((y5 + 14) + x2) : Int32).toInt < (n7 : Nat)) : qE d 183 202 [some (.ref r0), some (.int x1), some (.int x2), some (.int x3)] [] h (some (.long ((f8 (((y5 + 14) + x2) : Int32).toNatClampNeg) : Int32).toInt64), h) := by
  refine qe_aload_n c183_202 rfl ?_
  refine qe_getfield c183_203 qo183 qF12_14 e2 e4 ?_
  refine qe_aload_n c183_206 rfl ?_
  refine qe_getfield c183_207 qo183 qF12_402 e2 e6 ?_
  refine qe_bipush (x := 14) c183_210 (by decide) ?_
  refine qe_iadd c183_212 ?_
  refine qe_iload_n c183_213 rfl ?_
  refine qe_iadd c183_214 ?_
  refine qe_iaload c183_215 e9 e10 ?_
  refine qe_i2l c183_216 ?_
  exact qe_lret c183_217 qr183
theorem b183_218 {d : Nat} {h : qH} {r0 : Nat} {x1 : Int32} {x2 : Int32} {x3 : Int32} {fs1 : List Value} {y3 : Nat} {n5 : Nat} {f6 : Nat → Int32}  (e2 : h.2.2 r0 = some (.inr (12, fs1))) (e4 : fs1[25]? = some (.ref y3)) (e7 : h.2.2 y3 = some (.inl (0, n5, .inl f6))) (e8 : 0 ≤ (x2 : Int32).toInt ∧ (x2 : Int32).toInt < (n5 : Nat)) : qE d 183 218 [some (.ref r0), some (.int x1), some (.int x2), some (.int x3)] [] h (some (.long ((f6 (x2 : Int32).toNatClampNeg) : Int32).toInt64), h) := by
  refine qe_aload_n c183_218 rfl ?_
  refine qe_getfield c183_219 qo183 qF12_61 e2 e4 ?_
  refine qe_iload_n c183_222 rfl ?_
  refine qe_iaload c183_223 e7 e8 ?_
  refine qe_i2l c183_224 ?_
  exact qe_lret c183_225 qr183
theorem b183_226 {d : Nat} {h : qH} {r0 : Nat} {x1 : Int32} {x2 : Int32} {x3 : Int32} {fs1 : List Value} {y3 : Nat} {n5 : Nat} {f6 : Nat → Int32}  (e2 : h.2.2 r0 = some (.inr (12, fs1))) (e4 : fs1[20]? = some (.ref y3)) (e7 : h.2.2 y3 = some (.inl (0, n5, .inl f6))) (e8 : 0 ≤ (x2 : Int32).toInt ∧ (x2 : Int32).toInt < (n5 : Nat)) : qE d 183 226 [some (.ref r0), some (.int x1), some (.int x2), some (.int x3)] [] h (some (.long ((f6 (x2 : Int32).toNatClampNeg) : Int32).toInt64), h) := by
  refine qe_aload_n c183_226 rfl ?_
  refine qe_getfield c183_227 qo183 qF12_45 e2 e4 ?_
  refine qe_iload_n c183_230 rfl ?_
  refine qe_iaload c183_231 e7 e8 ?_
  refine qe_i2l c183_232 ?_
  exact qe_lret c183_233 qr183
theorem b184_0 {d : Nat} {q : Option Value × qH} {h : qH} {r0 : Nat} {x1 : Int32}   (kk : qE d 184 2 [some (.ref r0), some (.int x1), some (.int 0), none, none, none, none] [] h q): qE d 184 0 [some (.ref r0), some (.int x1), none, none, none, none, none] [] h q := by
  refine qe_iconst (x := 0) c184_0 (by decide) ?_
  refine qe_istore_n (ls2 := [some (.ref r0), some (.int x1), some (.int 0), none, none, none, none]) c184_1 (Nat.le_of_ble_eq_true rfl) rfl ?_
  exact kk
theorem b184_2F {d : Nat} {q : Option Value × qH} {h : qH} {r0 : Nat} {x1 : Int32} {x2 : Int32} {o3 : Option Value} {o5 : Option Value} {fs1 : List Value} {y3 : Int32}  (e2 : h.2.2 r0 = some (.inr (12, fs1))) (e4 : fs1[4]? = some (.int y3)) (e5 : ¬ ((y3 : Int32) ≤ x2)) (kk : qE d 184 10 [some (.ref r0), some (.int x1), some (.int x2), o3, none, o5, none] [] h q): qE d 184 2 [some (.ref r0), some (.int x1), some (.int x2), o3, none, o5, none] [] h q := by
  refine qe_iload_n c184_2 rfl ?_
  refine qe_aload_n c184_3 rfl ?_
  refine qe_getfield c184_4 qo184 qF12_194 e2 e4 ?_
  refine qe_icmp_ge_F (t := 127) c184_7 rfl e5 ?_
  exact kk
theorem b184_2T {d : Nat} {q : Option Value × qH} {h : qH} {r0 : Nat} {x1 : Int32} {x2 : Int32} {o3 : Option Value} {o5 : Option Value} {fs1 : List Value} {y3 : Int32}  (e2 : h.2.2 r0 = some (.inr (12, fs1))) (e4 : fs1[4]? = some (.int y3)) (e5 : (y3 : Int32) ≤ x2) (kk : qE d 184 127 [some (.ref r0), some (.int x1), some (.int x2), o3, none, o5, none] [] h q): qE d 184 2 [some (.ref r0), some (.int x1), some (.int x2), o3, none, o5, none] [] h q := by
  refine qe_iload_n c184_2 rfl ?_
  refine qe_aload_n c184_3 rfl ?_
  refine qe_getfield c184_4 qo184 qF12_194 e2 e4 ?_
  refine qe_icmp_ge_T (t := 127) c184_7 rfl e5 ?_
  exact kk
theorem b184_10F {d : Nat} {q : Option Value × qH} {h : qH} {r0 : Nat} {x1 : Int32} {x2 : Int32} {o3 : Option Value} {o5 : Option Value} {fs1 : List Value} {y3 : Nat} {n5 : Nat} {f6 : Nat → Int32}  (e2 : h.2.2 r0 = some (.inr (12, fs1))) (e4 : fs1[10]? = some (.ref y3)) (e7 : h.2.2 y3 = some (.inl (0, n5, .inl f6))) (e8 : 0 ≤ ((x1 + x2) : Int32).toInt ∧ ((x1 + x2) : Int32).toInt < (n5 : Nat)) (e9 : ((f6 ((x1 + x2) : Int32).toNatClampNeg) : Int32) = 0) (kk : qE d 184 21 [some (.ref r0), some (.int x1), some (.int x2), o3, none, o5, none] [] h q): qE d 184 10 [some (.ref r0), some (.int x1), some (.int x2), o3, none, o5, none] [] h q := by
  refine qe_aload_n c184_10 rfl ?_
  refine qe_getfield c184_11 qo184 qF12_14 e2 e4 ?_
  refine qe_iload_n c184_14 rfl ?_
  refine qe_iload_n c184_15 rfl ?_
  refine qe_iadd c184_16 ?_
  refine qe_iaload c184_17 e7 e8 ?_
  refine qe_if_ne_F (t := 52) c184_18 rfl e9 ?_
  exact kk
theorem b184_10T {d : Nat} {q : Option Value × qH} {h : qH} {r0 : Nat} {x1 : Int32} {x2 : Int32} {o3 : Option Value} {o5 : Option Value} {fs1 : List Value} {y3 : Nat} {n5 : Nat} {f6 : Nat → Int32}  (e2 : h.2.2 r0 = some (.inr (12, fs1))) (e4 : fs1[10]? = some (.ref y3)) (e7 : h.2.2 y3 = some (.inl (0, n5, .inl f6))) (e8 : 0 ≤ ((x1 + x2) : Int32).toInt ∧ ((x1 + x2) : Int32).toInt < (n5 : Nat)) (e9 : ¬ (((f6 ((x1 + x2) : Int32).toNatClampNeg) : Int32) = 0)) (kk : qE d 184 52 [some (.ref r0), some (.int x1), some (.int x2), o3, none, o5, none] [] h q): qE d 184 10 [some (.ref r0), some (.int x1), some (.int x2), o3, none, o5, none] [] h q := by
  refine qe_aload_n c184_10 rfl ?_
  refine qe_getfield c184_11 qo184 qF12_14 e2 e4 ?_
  refine qe_iload_n c184_14 rfl ?_
  refine qe_iload_n c184_15 rfl ?_
  refine qe_iadd c184_16 ?_
  refine qe_iaload c184_17 e7 e8 ?_
  refine qe_if_ne_T (t := 52) c184_18 rfl e9 ?_
  exact kk
theorem b184_21 {d : Nat} {q : Option Value × qH} {h : qH} {r0 : Nat} {x1 : Int32} {x2 : Int32} {o3 : Option Value} {o5 : Option Value} {fs1 : List Value} {y3 : Nat} {n5 : Nat} {f6 : Nat → Int64} {h1 : qH} {z9 : Int64} {fs11 : List Value} {y13 : Nat} {n15 : Nat} {f16 : Nat → Int64} {y19 : Nat} {n21 : Nat} {f22 : Nat → Int32}  (e2 : h.2.2 r0 = some (.inr (12, fs1))) (e4 : fs1[27]? = some (.ref y3)) (e7 : h.2.2 y3 = some (.inl (2, n5, .inr (.inl f6)))) (e8 : 0 ≤ (x2 : Int32).toInt ∧ (x2 : Int32).toInt < (n5 : Nat)) (e10 : qCall d 170 [.long (f6 (x2 : Int32).toNatClampNeg)] h ((some (.long z9)), h1)) (e12 : h1.2.2 r0 = some (.inr (12, fs11))) (e14 : fs11[28]? = some (.ref y13)) (e17 : h1.2.2 y13 = some (.inl (2, n15, .inr (.inl f16)))) (e18 : 0 ≤ (x2 : Int32).toInt ∧ (x2 : Int32).toInt < (n15 : Nat)) (e20 : fs11[16]? = some (.ref y19)) (e23 : h1.2.2 y19 = some (.inl (0, n21, .inl f22))) (e24 : 0 ≤ (x2 : Int32).toInt ∧ (x2 : Int32).toInt < (n21 : Nat)) (e25 : ¬ (((f16 (x2 : Int32).toNatClampNeg) * ((f22 (x2 : Int32).toNatClampNeg) : Int32).toInt64) : Int64) = 0) (kk : qE d 184 53 [some (.ref r0), some (.int x1), some (.int x2), o3, none, o5, none] [.long ((100 * z9) / ((f16 (x2 : Int32).toNatClampNeg) * ((f22 (x2 : Int32).toNatClampNeg) : Int32).toInt64))] h1 q): qE d 184 21 [some (.ref r0), some (.int x1), some (.int x2), o3, none, o5, none] [] h q := by
  refine qe_ldc2_w (x := 100) c184_21 qo184 qJ12_277 ?_
  refine qe_aload_n c184_24 rfl ?_
  refine qe_getfield c184_25 qo184 qF12_67 e2 e4 ?_
  refine qe_iload_n c184_28 rfl ?_
  refine qe_laload c184_29 e7 e8 ?_
  refine qe_static (as := [.long (f6 (x2 : Int32).toNatClampNeg)]) (r := [.long 100]) (v := (some (.long z9))) (h2 := h1) c184_30 qo184 (by decide) qK12_279 rfl rfl rfl (Nat.le_of_ble_eq_true rfl) e10 ?_
  refine qe_lmul c184_33 ?_
  refine qe_aload_n c184_34 rfl ?_
  refine qe_getfield c184_35 qo184 qF12_71 e12 e14 ?_
  refine qe_iload_n c184_38 rfl ?_
  refine qe_laload c184_39 e17 e18 ?_
  refine qe_aload_n c184_40 rfl ?_
  refine qe_getfield c184_41 qo184 qF12_33 e12 e20 ?_
  refine qe_iload_n c184_44 rfl ?_
  refine qe_iaload c184_45 e23 e24 ?_
  refine qe_i2l c184_46 ?_
  refine qe_lmul c184_47 ?_
  refine qe_ldiv c184_48 e25 ?_
  refine qe_goto (t := 53) c184_49 rfl ?_
  exact kk
theorem b184_52 {d : Nat} {q : Option Value × qH} {h : qH} {r0 : Nat} {x1 : Int32} {x2 : Int32} {o3 : Option Value} {o5 : Option Value}   (kk : qE d 184 53 [some (.ref r0), some (.int x1), some (.int x2), o3, none, o5, none] [.long 0] h q): qE d 184 52 [some (.ref r0), some (.int x1), some (.int x2), o3, none, o5, none] [] h q := by
  refine qe_lconst (x := 0) c184_52 (by decide) ?_
  exact kk
theorem b184_53F {d : Nat} {q : Option Value × qH} {h : qH} {r0 : Nat} {x1 : Int32} {x2 : Int32} {o3 : Option Value} {o5 : Option Value} {ls0 : Int64} {fs1 : List Value} {y3 : Nat} {n5 : Nat} {f6 : Nat → Int32}  (e2 : h.2.2 r0 = some (.inr (12, fs1))) (e4 : fs1[10]? = some (.ref y3)) (e7 : h.2.2 y3 = some (.inl (0, n5, .inl f6))) (e8 : 0 ≤ (((x1 + 14) + x2) : Int32).toInt ∧ (((x1 + 14) + x2) : Int32).toInt < (n5 : Nat)) (e10 : 0 ≤ ((x1 + 69) : Int32).toInt ∧ ((x1 + 69) : Int32).toInt < (n5 : Nat)) (e12 : ¬ ((0 : Int32) ≤ (lg_cmp (((((f6 (((x1 + 14) + x2) : Int32).toNatClampNeg) : Int32).toInt64 + ls0) - ((f6 ((x1 + 69) : Int32).toNatClampNeg) : Int32).toInt64)) 0))) (kk : qE d 184 98 [some (.ref r0), some (.int x1), some (.int x2), some (.long ls0), none, some (.long ((((f6 (((x1 + 14) + x2) : Int32).toNatClampNeg) : Int32).toInt64 + ls0) - ((f6 ((x1 + 69) : Int32).toNatClampNeg) : Int32).toInt64)), none] [.int ((x1 + 14) + x2), .ref y3] h q): qE d 184 53 [some (.ref r0), some (.int x1), some (.int x2), o3, none, o5, none] [.long ls0] h q := by
  refine qe_lstore_n (ls2 := [some (.ref r0), some (.int x1), some (.int x2), some (.long ls0), none, o5, none]) c184_53 (Nat.le_of_ble_eq_true rfl) rfl ?_
  refine qe_aload_n c184_54 rfl ?_
  refine qe_getfield c184_55 qo184 qF12_14 e2 e4 ?_
  refine qe_iload_n c184_58 rfl ?_
  refine qe_bipush (x := 14) c184_59 (by decide) ?_
  refine qe_iadd c184_61 ?_
  refine qe_iload_n c184_62 rfl ?_
  refine qe_iadd c184_63 ?_
  refine qe_iaload c184_64 e7 e8 ?_
  refine qe_i2l c184_65 ?_
  refine qe_lload_n c184_66 rfl ?_
  refine qe_ladd c184_67 ?_
  refine qe_aload_n c184_68 rfl ?_
  refine qe_getfield c184_69 qo184 qF12_14 e2 e4 ?_
  refine qe_iload_n c184_72 rfl ?_
  refine qe_bipush (x := 69) c184_73 (by decide) ?_
  refine qe_iadd c184_75 ?_
  refine qe_iaload c184_76 e7 e10 ?_
  refine qe_i2l c184_77 ?_
  refine qe_lsub c184_78 ?_
  refine qe_lstore (ls2 := [some (.ref r0), some (.int x1), some (.int x2), some (.long ls0), none, some (.long ((((f6 (((x1 + 14) + x2) : Int32).toNatClampNeg) : Int32).toInt64 + ls0) - ((f6 ((x1 + 69) : Int32).toNatClampNeg) : Int32).toInt64)), none]) c184_79 (Nat.le_of_ble_eq_true rfl) rfl ?_
  refine qe_aload_n c184_81 rfl ?_
  refine qe_getfield c184_82 qo184 qF12_14 e2 e4 ?_
  refine qe_iload_n c184_85 rfl ?_
  refine qe_bipush (x := 14) c184_86 (by decide) ?_
  refine qe_iadd c184_88 ?_
  refine qe_iload_n c184_89 rfl ?_
  refine qe_iadd c184_90 ?_
  refine qe_lload c184_91 rfl ?_
  refine qe_lconst (x := 0) c184_93 (by decide) ?_
  refine qe_lcmp c184_94 ?_
  refine qe_if_ge_F (t := 102) c184_95 rfl e12 ?_
  exact kk
theorem b184_53T {d : Nat} {q : Option Value × qH} {h : qH} {r0 : Nat} {x1 : Int32} {x2 : Int32} {o3 : Option Value} {o5 : Option Value} {ls0 : Int64} {fs1 : List Value} {y3 : Nat} {n5 : Nat} {f6 : Nat → Int32}  (e2 : h.2.2 r0 = some (.inr (12, fs1))) (e4 : fs1[10]? = some (.ref y3)) (e7 : h.2.2 y3 = some (.inl (0, n5, .inl f6))) (e8 : 0 ≤ (((x1 + 14) + x2) : Int32).toInt ∧ (((x1 + 14) + x2) : Int32).toInt < (n5 : Nat)) (e10 : 0 ≤ ((x1 + 69) : Int32).toInt ∧ ((x1 + 69) : Int32).toInt < (n5 : Nat)) (e12 : (0 : Int32) ≤ (lg_cmp (((((f6 (((x1 + 14) + x2) : Int32).toNatClampNeg) : Int32).toInt64 + ls0) - ((f6 ((x1 + 69) : Int32).toNatClampNeg) : Int32).toInt64)) 0)) (kk : qE d 184 102 [some (.ref r0), some (.int x1), some (.int x2), some (.long ls0), none, some (.long ((((f6 (((x1 + 14) + x2) : Int32).toNatClampNeg) : Int32).toInt64 + ls0) - ((f6 ((x1 + 69) : Int32).toNatClampNeg) : Int32).toInt64)), none] [.int ((x1 + 14) + x2), .ref y3] h q): qE d 184 53 [some (.ref r0), some (.int x1), some (.int x2), o3, none, o5, none] [.long ls0] h q := by
  refine qe_lstore_n (ls2 := [some (.ref r0), some (.int x1), some (.int x2), some (.long ls0), none, o5, none]) c184_53 (Nat.le_of_ble_eq_true rfl) rfl ?_
  refine qe_aload_n c184_54 rfl ?_
  refine qe_getfield c184_55 qo184 qF12_14 e2 e4 ?_
  refine qe_iload_n c184_58 rfl ?_
  refine qe_bipush (x := 14) c184_59 (by decide) ?_
  refine qe_iadd c184_61 ?_
  refine qe_iload_n c184_62 rfl ?_
  refine qe_iadd c184_63 ?_
  refine qe_iaload c184_64 e7 e8 ?_
  refine qe_i2l c184_65 ?_
  refine qe_lload_n c184_66 rfl ?_
  refine qe_ladd c184_67 ?_
  refine qe_aload_n c184_68 rfl ?_
  refine qe_getfield c184_69 qo184 qF12_14 e2 e4 ?_
  refine qe_iload_n c184_72 rfl ?_
  refine qe_bipush (x := 69) c184_73 (by decide) ?_
  refine qe_iadd c184_75 ?_
  refine qe_iaload c184_76 e7 e10 ?_
  refine qe_i2l c184_77 ?_
  refine qe_lsub c184_78 ?_
  refine qe_lstore (ls2 := [some (.ref r0), some (.int x1), some (.int x2), some (.long ls0), none, some (.long ((((f6 (((x1 + 14) + x2) : Int32).toNatClampNeg) : Int32).toInt64 + ls0) - ((f6 ((x1 + 69) : Int32).toNatClampNeg) : Int32).toInt64)), none]) c184_79 (Nat.le_of_ble_eq_true rfl) rfl ?_
  refine qe_aload_n c184_81 rfl ?_
  refine qe_getfield c184_82 qo184 qF12_14 e2 e4 ?_
  refine qe_iload_n c184_85 rfl ?_
  refine qe_bipush (x := 14) c184_86 (by decide) ?_
  refine qe_iadd c184_88 ?_
  refine qe_iload_n c184_89 rfl ?_
  refine qe_iadd c184_90 ?_
  refine qe_lload c184_91 rfl ?_
  refine qe_lconst (x := 0) c184_93 (by decide) ?_
  refine qe_lcmp c184_94 ?_
  refine qe_if_ge_T (t := 102) c184_95 rfl e12 ?_
  exact kk
theorem b184_98 {d : Nat} {q : Option Value × qH} {h : qH} {r0 : Nat} {x1 : Int32} {x2 : Int32} {l3 : Int64} {l5 : Int64} {rs0 : Nat} {xs1 : Int32}   (kk : qE d 184 119 [some (.ref r0), some (.int x1), some (.int x2), some (.long l3), none, some (.long l5), none] [.long 0, .int xs1, .ref rs0] h q): qE d 184 98 [some (.ref r0), some (.int x1), some (.int x2), some (.long l3), none, some (.long l5), none] [.int xs1, .ref rs0] h q := by
  refine qe_lconst (x := 0) c184_98 (by decide) ?_
  refine qe_goto (t := 119) c184_99 rfl ?_
  exact kk
theorem b184_102F {d : Nat} {q : Option Value × qH} {h : qH} {r0 : Nat} {x1 : Int32} {x2 : Int32} {l3 : Int64} {l5 : Int64} {rs0 : Nat} {xs1 : Int32}  (e1 : ¬ (((lg_cmp l5 1000000) : Int32) ≤ 0)) (kk : qE d 184 111 [some (.ref r0), some (.int x1), some (.int x2), some (.long l3), none, some (.long l5), none] [.int xs1, .ref rs0] h q): qE d 184 102 [some (.ref r0), some (.int x1), some (.int x2), some (.long l3), none, some (.long l5), none] [.int xs1, .ref rs0] h q := by
  refine qe_lload c184_102 rfl ?_
  refine qe_ldc2_w (x := 1000000) c184_104 qo184 qJ12_427 ?_
  refine qe_lcmp c184_107 ?_
  refine qe_if_le_F (t := 117) c184_108 rfl e1 ?_
  exact kk
theorem b184_102T {d : Nat} {q : Option Value × qH} {h : qH} {r0 : Nat} {x1 : Int32} {x2 : Int32} {l3 : Int64} {l5 : Int64} {rs0 : Nat} {xs1 : Int32}  (e1 : ((lg_cmp l5 1000000) : Int32) ≤ 0) (kk : qE d 184 117 [some (.ref r0), some (.int x1), some (.int x2), some (.long l3), none, some (.long l5), none] [.int xs1, .ref rs0] h q): qE d 184 102 [some (.ref r0), some (.int x1), some (.int x2), some (.long l3), none, some (.long l5), none] [.int xs1, .ref rs0] h q := by
  refine qe_lload c184_102 rfl ?_
  refine qe_ldc2_w (x := 1000000) c184_104 qo184 qJ12_427 ?_
  refine qe_lcmp c184_107 ?_
  refine qe_if_le_T (t := 117) c184_108 rfl e1 ?_
  exact kk
theorem b184_111 {d : Nat} {q : Option Value × qH} {h : qH} {r0 : Nat} {x1 : Int32} {x2 : Int32} {l3 : Int64} {l5 : Int64} {rs0 : Nat} {xs1 : Int32}   (kk : qE d 184 119 [some (.ref r0), some (.int x1), some (.int x2), some (.long l3), none, some (.long l5), none] [.long 1000000, .int xs1, .ref rs0] h q): qE d 184 111 [some (.ref r0), some (.int x1), some (.int x2), some (.long l3), none, some (.long l5), none] [.int xs1, .ref rs0] h q := by
  refine qe_ldc2_w (x := 1000000) c184_111 qo184 qJ12_427 ?_
  refine qe_goto (t := 119) c184_114 rfl ?_
  exact kk
theorem b184_117 {d : Nat} {q : Option Value × qH} {h : qH} {r0 : Nat} {x1 : Int32} {x2 : Int32} {l3 : Int64} {l5 : Int64} {rs0 : Nat} {xs1 : Int32}   (kk : qE d 184 119 [some (.ref r0), some (.int x1), some (.int x2), some (.long l3), none, some (.long l5), none] [.long l5, .int xs1, .ref rs0] h q): qE d 184 117 [some (.ref r0), some (.int x1), some (.int x2), some (.long l3), none, some (.long l5), none] [.int xs1, .ref rs0] h q := by
  refine qe_lload c184_117 rfl ?_
  exact kk
theorem b184_119 {d : Nat} {q : Option Value × qH} {h : qH} {r0 : Nat} {x1 : Int32} {x2 : Int32} {l3 : Int64} {l5 : Int64} {rs0 : Nat} {xs1 : Int32} {ls2 : Int64} {n1 : Nat} {f2 : Nat → Int32} {h1 : qH}  (e3 : h.2.2 rs0 = some (.inl (0, n1, .inl f2))) (e4 : 0 ≤ (xs1 : Int32).toInt ∧ (xs1 : Int32).toInt < (n1 : Nat)) (e5 : qset h rs0 (.inl (0, n1, .inl (upd f2 ((xs1 : Int32).toNatClampNeg) ((ls2 : Int64).toInt32)))) = h1) (kk : qE d 184 2 [some (.ref r0), some (.int x1), some (.int (x2 + 1)), some (.long l3), none, some (.long l5), none] [] h1 q): qE d 184 119 [some (.ref r0), some (.int x1), some (.int x2), some (.long l3), none, some (.long l5), none] [.long ls2, .int xs1, .ref rs0] h q := by
  refine qe_l2i c184_119 ?_
  refine qe_iastore c184_120 e3 e4 ?_
  rw [e5]
  refine qe_iinc (y := (x2 + 1)) (ls2 := [some (.ref r0), some (.int x1), some (.int (x2 + 1)), some (.long l3), none, some (.long l5), none]) c184_121 rfl (Nat.le_of_ble_eq_true rfl) rfl rfl ?_
  refine qe_goto (t := 2) c184_124 rfl ?_
  exact kk
theorem b184_127 {d : Nat} {h : qH} {r0 : Nat} {x1 : Int32} {x2 : Int32} {o3 : Option Value} {o5 : Option Value}   : qE d 184 127 [some (.ref r0), some (.int x1), some (.int x2), o3, none, o5, none] [] h (none, h) := by
  exact qe_vret c184_127 qr184
theorem b185_0F {d : Nat} {q : Option Value × qH} {h : qH} {r0 : Nat} {x1 : Int32} {x2 : Int32} {x3 : Int32} {x4 : Int32} {x5 : Int32} {fs1 : List Value} {y3 : Int32}  (e2 : h.2.2 r0 = some (.inr (12, fs1))) (e4 : fs1[2]? = some (.int y3)) (e5 : ¬ ((0 : Int32) < y3)) (kk : qE d 185 7 [some (.ref r0), some (.int x1), some (.int x2), some (.int x3), some (.int x4), some (.int x5)] [] h q): qE d 185 0 [some (.ref r0), some (.int x1), some (.int x2), some (.int x3), some (.int x4), some (.int x5)] [] h q := by
  refine qe_aload_n c185_0 rfl ?_
  refine qe_getfield c185_1 qo185 qF12_202 e2 e4 ?_
  refine qe_if_gt_F (t := 75) c185_4 rfl e5 ?_
  exact kk
theorem b185_0T {d : Nat} {q : Option Value × qH} {h : qH} {r0 : Nat} {x1 : Int32} {x2 : Int32} {x3 : Int32} {x4 : Int32} {x5 : Int32} {fs1 : List Value} {y3 : Int32}  (e2 : h.2.2 r0 = some (.inr (12, fs1))) (e4 : fs1[2]? = some (.int y3)) (e5 : (0 : Int32) < y3) (kk : qE d 185 75 [some (.ref r0), some (.int x1), some (.int x2), some (.int x3), some (.int x4), some (.int x5)] [] h q): qE d 185 0 [some (.ref r0), some (.int x1), some (.int x2), some (.int x3), some (.int x4), some (.int x5)] [] h q := by
  refine qe_aload_n c185_0 rfl ?_
  refine qe_getfield c185_1 qo185 qF12_202 e2 e4 ?_
  refine qe_if_gt_T (t := 75) c185_4 rfl e5 ?_
  exact kk
theorem b185_7F {d : Nat} {q : Option Value × qH} {h : qH} {r0 : Nat} {x1 : Int32} {x2 : Int32} {x3 : Int32} {x4 : Int32} {x5 : Int32} {fs1 : List Value} {y3 : Int32}  (e2 : h.2.2 r0 = some (.inr (12, fs1))) (e4 : fs1[4]? = some (.int y3)) (e5 : ¬ ((y3 : Int32) = 14)) (kk : qE d 185 16 [some (.ref r0), some (.int x1), some (.int x2), some (.int x3), some (.int x4), some (.int x5)] [] h q): qE d 185 7 [some (.ref r0), some (.int x1), some (.int x2), some (.int x3), some (.int x4), some (.int x5)] [] h q := by
  refine qe_aload_n c185_7 rfl ?_
  refine qe_getfield c185_8 qo185 qF12_194 e2 e4 ?_
  refine qe_bipush (x := 14) c185_11 (by decide) ?_
  refine qe_icmp_eq_F (t := 75) c185_13 rfl e5 ?_
  exact kk
theorem b185_7T {d : Nat} {q : Option Value × qH} {h : qH} {r0 : Nat} {x1 : Int32} {x2 : Int32} {x3 : Int32} {x4 : Int32} {x5 : Int32} {fs1 : List Value} {y3 : Int32}  (e2 : h.2.2 r0 = some (.inr (12, fs1))) (e4 : fs1[4]? = some (.int y3)) (e5 : (y3 : Int32) = 14) (kk : qE d 185 75 [some (.ref r0), some (.int x1), some (.int x2), some (.int x3), some (.int x4), some (.int x5)] [] h q): qE d 185 7 [some (.ref r0), some (.int x1), some (.int x2), some (.int x3), some (.int x4), some (.int x5)] [] h q := by
  refine qe_aload_n c185_7 rfl ?_
  refine qe_getfield c185_8 qo185 qF12_194 e2 e4 ?_
  refine qe_bipush (x := 14) c185_11 (by decide) ?_
  refine qe_icmp_eq_T (t := 75) c185_13 rfl e5 ?_
  exact kk
theorem b185_16F {d : Nat} {q : Option Value × qH} {h : qH} {r0 : Nat} {x1 : Int32} {x2 : Int32} {x3 : Int32} {x4 : Int32} {x5 : Int32} {fs1 : List Value} {h1 : qH} {z3 : Int32}  (e2 : h.2.2 r0 = some (.inr (12, fs1))) (e4 : qCall d 132 [.ref r0, .int x1] h ((some (.int z3)), h1)) (e5 : ¬ ((z3 : Int32) = 0)) (kk : qE d 185 24 [some (.ref r0), some (.int x1), some (.int x2), some (.int x3), some (.int x4), some (.int x5)] [] h1 q): qE d 185 16 [some (.ref r0), some (.int x1), some (.int x2), some (.int x3), some (.int x4), some (.int x5)] [] h q := by
  refine qe_aload_n c185_16 rfl ?_
  refine qe_iload_n c185_17 rfl ?_
  refine qe_virtual (b := r0) (as := [.int x1]) (r := []) (v := (some (.int z3))) (h2 := h1) c185_18 qo185 qK12_214 rfl rfl rfl (by rw [qo132]; exact e2) (Nat.le_of_ble_eq_true rfl) e4 ?_
  refine qe_if_eq_F (t := 75) c185_21 rfl e5 ?_
  exact kk
theorem b185_16T {d : Nat} {q : Option Value × qH} {h : qH} {r0 : Nat} {x1 : Int32} {x2 : Int32} {x3 : Int32} {x4 : Int32} {x5 : Int32} {fs1 : List Value} {h1 : qH} {z3 : Int32}  (e2 : h.2.2 r0 = some (.inr (12, fs1))) (e4 : qCall d 132 [.ref r0, .int x1] h ((some (.int z3)), h1)) (e5 : (z3 : Int32) = 0) (kk : qE d 185 75 [some (.ref r0), some (.int x1), some (.int x2), some (.int x3), some (.int x4), some (.int x5)] [] h1 q): qE d 185 16 [some (.ref r0), some (.int x1), some (.int x2), some (.int x3), some (.int x4), some (.int x5)] [] h q := by
  refine qe_aload_n c185_16 rfl ?_
  refine qe_iload_n c185_17 rfl ?_
  refine qe_virtual (b := r0) (as := [.int x1]) (r := []) (v := (some (.int z3))) (h2 := h1) c185_18 qo185 qK12_214 rfl rfl rfl (by rw [qo132]; exact e2) (Nat.le_of_ble_eq_true rfl) e4 ?_
  refine qe_if_eq_T (t := 75) c185_21 rfl e5 ?_
  exact kk
theorem b185_24F {d : Nat} {q : Option Value × qH} {h : qH} {r0 : Nat} {x1 : Int32} {x2 : Int32} {x3 : Int32} {x4 : Int32} {x5 : Int32} {fs1 : List Value} {h1 : qH} {z3 : Int32}  (e2 : h.2.2 r0 = some (.inr (12, fs1))) (e4 : qCall d 132 [.ref r0, .int x2] h ((some (.int z3)), h1)) (e5 : ¬ ((z3 : Int32) = 0)) (kk : qE d 185 32 [some (.ref r0), some (.int x1), some (.int x2), some (.int x3), some (.int x4), some (.int x5)] [] h1 q): qE d 185 24 [some (.ref r0), some (.int x1), some (.int x2), some (.int x3), some (.int x4), some (.int x5)] [] h q := by
  refine qe_aload_n c185_24 rfl ?_
  refine qe_iload_n c185_25 rfl ?_
  refine qe_virtual (b := r0) (as := [.int x2]) (r := []) (v := (some (.int z3))) (h2 := h1) c185_26 qo185 qK12_214 rfl rfl rfl (by rw [qo132]; exact e2) (Nat.le_of_ble_eq_true rfl) e4 ?_
  refine qe_if_eq_F (t := 75) c185_29 rfl e5 ?_
  exact kk
theorem b185_24T {d : Nat} {q : Option Value × qH} {h : qH} {r0 : Nat} {x1 : Int32} {x2 : Int32} {x3 : Int32} {x4 : Int32} {x5 : Int32} {fs1 : List Value} {h1 : qH} {z3 : Int32}  (e2 : h.2.2 r0 = some (.inr (12, fs1))) (e4 : qCall d 132 [.ref r0, .int x2] h ((some (.int z3)), h1)) (e5 : (z3 : Int32) = 0) (kk : qE d 185 75 [some (.ref r0), some (.int x1), some (.int x2), some (.int x3), some (.int x4), some (.int x5)] [] h1 q): qE d 185 24 [some (.ref r0), some (.int x1), some (.int x2), some (.int x3), some (.int x4), some (.int x5)] [] h q := by
  refine qe_aload_n c185_24 rfl ?_
  refine qe_iload_n c185_25 rfl ?_
  refine qe_virtual (b := r0) (as := [.int x2]) (r := []) (v := (some (.int z3))) (h2 := h1) c185_26 qo185 qK12_214 rfl rfl rfl (by rw [qo132]; exact e2) (Nat.le_of_ble_eq_true rfl) e4 ?_
  refine qe_if_eq_T (t := 75) c185_29 rfl e5 ?_
  exact kk
theorem b185_32F {d : Nat} {q : Option Value × qH} {h : qH} {r0 : Nat} {x1 : Int32} {x2 : Int32} {x3 : Int32} {x4 : Int32} {x5 : Int32}  (e1 : ¬ ((x1 : Int32) = x2)) (kk : qE d 185 37 [some (.ref r0), some (.int x1), some (.int x2), some (.int x3), some (.int x4), some (.int x5)] [] h q): qE d 185 32 [some (.ref r0), some (.int x1), some (.int x2), some (.int x3), some (.int x4), some (.int x5)] [] h q := by
  refine qe_iload_n c185_32 rfl ?_
  refine qe_iload_n c185_33 rfl ?_
  refine qe_icmp_eq_F (t := 75) c185_34 rfl e1 ?_
  exact kk
theorem b185_32T {d : Nat} {q : Option Value × qH} {h : qH} {r0 : Nat} {x1 : Int32} {x2 : Int32} {x3 : Int32} {x4 : Int32} {x5 : Int32}  (e1 : (x1 : Int32) = x2) (kk : qE d 185 75 [some (.ref r0), some (.int x1), some (.int x2), some (.int x3), some (.int x4), some (.int x5)] [] h q): qE d 185 32 [some (.ref r0), some (.int x1), some (.int x2), some (.int x3), some (.int x4), some (.int x5)] [] h q := by
  refine qe_iload_n c185_32 rfl ?_
  refine qe_iload_n c185_33 rfl ?_
  refine qe_icmp_eq_T (t := 75) c185_34 rfl e1 ?_
  exact kk
theorem b185_37F {d : Nat} {q : Option Value × qH} {h : qH} {r0 : Nat} {x1 : Int32} {x2 : Int32} {x3 : Int32} {x4 : Int32} {x5 : Int32} {h1 : qH} {z1 : Int32}  (e2 : qCall d 143 [.long (x3 : Int32).toInt64, .long 1, .long 3] h ((some (.int z1)), h1)) (e3 : ¬ ((z1 : Int32) = 0)) (kk : qE d 185 49 [some (.ref r0), some (.int x1), some (.int x2), some (.int x3), some (.int x4), some (.int x5)] [] h1 q): qE d 185 37 [some (.ref r0), some (.int x1), some (.int x2), some (.int x3), some (.int x4), some (.int x5)] [] h q := by
  refine qe_iload_n c185_37 rfl ?_
  refine qe_i2l c185_38 ?_
  refine qe_lconst (x := 1) c185_39 (by decide) ?_
  refine qe_ldc2_w (x := 3) c185_40 qo185 qJ12_200 ?_
  refine qe_static (as := [.long (x3 : Int32).toInt64, .long 1, .long 3]) (r := []) (v := (some (.int z1))) (h2 := h1) c185_43 qo185 (by decide) qK12_190 rfl rfl rfl (Nat.le_of_ble_eq_true rfl) e2 ?_
  refine qe_if_eq_F (t := 75) c185_46 rfl e3 ?_
  exact kk
theorem b185_37T {d : Nat} {q : Option Value × qH} {h : qH} {r0 : Nat} {x1 : Int32} {x2 : Int32} {x3 : Int32} {x4 : Int32} {x5 : Int32} {h1 : qH} {z1 : Int32}  (e2 : qCall d 143 [.long (x3 : Int32).toInt64, .long 1, .long 3] h ((some (.int z1)), h1)) (e3 : (z1 : Int32) = 0) (kk : qE d 185 75 [some (.ref r0), some (.int x1), some (.int x2), some (.int x3), some (.int x4), some (.int x5)] [] h1 q): qE d 185 37 [some (.ref r0), some (.int x1), some (.int x2), some (.int x3), some (.int x4), some (.int x5)] [] h q := by
  refine qe_iload_n c185_37 rfl ?_
  refine qe_i2l c185_38 ?_
  refine qe_lconst (x := 1) c185_39 (by decide) ?_
  refine qe_ldc2_w (x := 3) c185_40 qo185 qJ12_200 ?_
  refine qe_static (as := [.long (x3 : Int32).toInt64, .long 1, .long 3]) (r := []) (v := (some (.int z1))) (h2 := h1) c185_43 qo185 (by decide) qK12_190 rfl rfl rfl (Nat.le_of_ble_eq_true rfl) e2 ?_
  refine qe_if_eq_T (t := 75) c185_46 rfl e3 ?_
  exact kk
theorem b185_49F {d : Nat} {q : Option Value × qH} {h : qH} {r0 : Nat} {x1 : Int32} {x2 : Int32} {x3 : Int32} {x4 : Int32} {x5 : Int32} {h1 : qH} {z1 : Int32}  (e2 : qCall d 143 [.long (x4 : Int32).toInt64, .long 1, .long 5000] h ((some (.int z1)), h1)) (e3 : ¬ ((z1 : Int32) = 0)) (kk : qE d 185 62 [some (.ref r0), some (.int x1), some (.int x2), some (.int x3), some (.int x4), some (.int x5)] [] h1 q): qE d 185 49 [some (.ref r0), some (.int x1), some (.int x2), some (.int x3), some (.int x4), some (.int x5)] [] h q := by
  refine qe_iload c185_49 rfl ?_
  refine qe_i2l c185_51 ?_
  refine qe_lconst (x := 1) c185_52 (by decide) ?_
  refine qe_ldc2_w (x := 5000) c185_53 qo185 qJ12_217 ?_
  refine qe_static (as := [.long (x4 : Int32).toInt64, .long 1, .long 5000]) (r := []) (v := (some (.int z1))) (h2 := h1) c185_56 qo185 (by decide) qK12_190 rfl rfl rfl (Nat.le_of_ble_eq_true rfl) e2 ?_
  refine qe_if_eq_F (t := 75) c185_59 rfl e3 ?_
  exact kk
theorem b185_49T {d : Nat} {q : Option Value × qH} {h : qH} {r0 : Nat} {x1 : Int32} {x2 : Int32} {x3 : Int32} {x4 : Int32} {x5 : Int32} {h1 : qH} {z1 : Int32}  (e2 : qCall d 143 [.long (x4 : Int32).toInt64, .long 1, .long 5000] h ((some (.int z1)), h1)) (e3 : (z1 : Int32) = 0) (kk : qE d 185 75 [some (.ref r0), some (.int x1), some (.int x2), some (.int x3), some (.int x4), some (.int x5)] [] h1 q): qE d 185 49 [some (.ref r0), some (.int x1), some (.int x2), some (.int x3), some (.int x4), some (.int x5)] [] h q := by
  refine qe_iload c185_49 rfl ?_
  refine qe_i2l c185_51 ?_
  refine qe_lconst (x := 1) c185_52 (by decide) ?_
  refine qe_ldc2_w (x := 5000) c185_53 qo185 qJ12_217 ?_
  refine qe_static (as := [.long (x4 : Int32).toInt64, .long 1, .long 5000]) (r := []) (v := (some (.int z1))) (h2 := h1) c185_56 qo185 (by decide) qK12_190 rfl rfl rfl (Nat.le_of_ble_eq_true rfl) e2 ?_
  refine qe_if_eq_T (t := 75) c185_59 rfl e3 ?_
  exact kk
theorem b185_62F {d : Nat} {q : Option Value × qH} {h : qH} {r0 : Nat} {x1 : Int32} {x2 : Int32} {x3 : Int32} {x4 : Int32} {x5 : Int32} {h1 : qH} {z1 : Int32}  (e2 : qCall d 143 [.long (x5 : Int32).toInt64, .long 1, .long 100000] h ((some (.int z1)), h1)) (e3 : (z1 : Int32) = 0) (kk : qE d 185 75 [some (.ref r0), some (.int x1), some (.int x2), some (.int x3), some (.int x4), some (.int x5)] [] h1 q): qE d 185 62 [some (.ref r0), some (.int x1), some (.int x2), some (.int x3), some (.int x4), some (.int x5)] [] h q := by
  refine qe_iload c185_62 rfl ?_
  refine qe_i2l c185_64 ?_
  refine qe_lconst (x := 1) c185_65 (by decide) ?_
  refine qe_ldc2_w (x := 100000) c185_66 qo185 qJ12_219 ?_
  refine qe_static (as := [.long (x5 : Int32).toInt64, .long 1, .long 100000]) (r := []) (v := (some (.int z1))) (h2 := h1) c185_69 qo185 (by decide) qK12_190 rfl rfl rfl (Nat.le_of_ble_eq_true rfl) e2 ?_
  refine qe_if_ne_F (t := 77) c185_72 rfl e3 ?_
  exact kk
theorem b185_62T {d : Nat} {q : Option Value × qH} {h : qH} {r0 : Nat} {x1 : Int32} {x2 : Int32} {x3 : Int32} {x4 : Int32} {x5 : Int32} {h1 : qH} {z1 : Int32}  (e2 : qCall d 143 [.long (x5 : Int32).toInt64, .long 1, .long 100000] h ((some (.int z1)), h1)) (e3 : ¬ ((z1 : Int32) = 0)) (kk : qE d 185 77 [some (.ref r0), some (.int x1), some (.int x2), some (.int x3), some (.int x4), some (.int x5)] [] h1 q): qE d 185 62 [some (.ref r0), some (.int x1), some (.int x2), some (.int x3), some (.int x4), some (.int x5)] [] h q := by
  refine qe_iload c185_62 rfl ?_
  refine qe_i2l c185_64 ?_
  refine qe_lconst (x := 1) c185_65 (by decide) ?_
  refine qe_ldc2_w (x := 100000) c185_66 qo185 qJ12_219 ?_
  refine qe_static (as := [.long (x5 : Int32).toInt64, .long 1, .long 100000]) (r := []) (v := (some (.int z1))) (h2 := h1) c185_69 qo185 (by decide) qK12_190 rfl rfl rfl (Nat.le_of_ble_eq_true rfl) e2 ?_
  refine qe_if_ne_T (t := 77) c185_72 rfl e3 ?_
  exact kk
theorem b185_75 {d : Nat} {h : qH} {r0 : Nat} {x1 : Int32} {x2 : Int32} {x3 : Int32} {x4 : Int32} {x5 : Int32}   : qE d 185 75 [some (.ref r0), some (.int x1), some (.int x2), some (.int x3), some (.int x4), some (.int x5)] [] h (some (.int (-1)), h) := by
  refine qe_iconst (x := (-1)) c185_75 (by decide) ?_
  exact qe_iret c185_76 qr185
theorem b185_77 {d : Nat} {h : qH} {r0 : Nat} {x1 : Int32} {x2 : Int32} {x3 : Int32} {x4 : Int32} {x5 : Int32} {fs1 : List Value} {y3 : Nat} {y5 : Int32} {n7 : Nat} {f8 : Nat → Int32} {h1 : qH} {fs12 : List Value} {y14 : Nat} {y16 : Int32} {n18 : Nat} {f19 : Nat → Int32} {h2 : qH} {fs23 : List Value} {y25 : Nat} {y27 : Int32} {n29 : Nat} {f30 : Nat → Int32} {h3 : qH} {fs34 : List Value} {y36 : Nat} {y38 : Int32} {n40 : Nat} {f41 : Nat → Int32} {h4 : qH} {fs45 : List Value} {y47 : Nat} {y49 : Int32} {n51 : Nat} {f52 : Nat → Int32} {h5 : qH} {fs56 : List Value} {y58 : Int32} {h6 : qH} {fs62 : List Value} {y64 : Int32}  (e2 : h.2.2 r0 = some (.inr (12, fs1))) (e4 : fs1[13]? = some (.ref y3)) (e6 : fs1[4]? = some (.int y5)) (e9 : h.2.2 y3 = some (.inl (0, n7, .inl f8))) (e10 : 0 ≤ (y5 : Int32).toInt ∧ (y5 : Int32).toInt < (n7 : Nat)) (e11 : qset h y3 (.inl (0, n7, .inl (upd f8 ((y5 : Int32).toNatClampNeg) x1))) = h1) (e13 : h1.2.2 r0 = some (.inr (12, fs12))) (e15 : fs12[14]? = some (.ref y14)) (e17 : fs12[4]? = some (.int y16)) (e20 : h1.2.2 y14 = some (.inl (0, n18, .inl f19))) (e21 : 0 ≤ (y16 : Int32).toInt ∧ (y16 : Int32).toInt < (n18 : Nat)) (e22 : qset h1 y14 (.inl (0, n18, .inl (upd f19 ((y16 : Int32).toNatClampNeg) x2))) = h2) (e24 : h2.2.2 r0 = some (.inr (12, fs23))) (e26 : fs23[15]? = some (.ref y25)) (e28 : fs23[4]? = some (.int y27)) (e31 : h2.2.2 y25 = some (.inl (0, n29, .inl f30))) (e32 : 0 ≤ (y27 : Int32).toInt ∧ (y27 : Int32).toInt < (n29 : Nat)) (e33 : qset h2 y25 (.inl (0, n29, .inl (upd f30 ((y27 : Int32).toNatClampNeg) x3))) = h3) (e35 : h3.2.2 r0 = some (.inr (12, fs34))) (e37 : fs34[16]? = some (.ref y36)) (e39 : fs34[4]? = some (.int y38)) (e42 : h3.2.2 y36 = some (.inl (0, n40, .inl f41))) (e43 : 0 ≤ (y38 : Int32).toInt ∧ (y38 : Int32).toInt < (n40 : Nat)) (e44 : qset h3 y36 (.inl (0, n40, .inl (upd f41 ((y38 : Int32).toNatClampNeg) x4))) = h4) (e46 : h4.2.2 r0 = some (.inr (12, fs45))) (e48 : fs45[17]? = some (.ref y47)) (e50 : fs45[4]? = some (.int y49)) (e53 : h4.2.2 y47 = some (.inl (0, n51, .inl f52))) (e54 : 0 ≤ (y49 : Int32).toInt ∧ (y49 : Int32).toInt < (n51 : Nat)) (e55 : qset h4 y47 (.inl (0, n51, .inl (upd f52 ((y49 : Int32).toNatClampNeg) x5))) = h5) (e57 : h5.2.2 r0 = some (.inr (12, fs56))) (e59 : fs56[4]? = some (.int y58)) (e60 : 4 < fs56.length) (e61 : qset h5 r0 (.inr (12, fs56.set 4 (.int (y58 + 1)))) = h6) (e63 : h6.2.2 r0 = some (.inr (12, fs62))) (e65 : fs62[4]? = some (.int y64)) : qE d 185 77 [some (.ref r0), some (.int x1), some (.int x2), some (.int x3), some (.int x4), some (.int x5)] [] h (some (.int (y64 - 1)), h6) := by
  refine qe_aload_n c185_77 rfl ?_
  refine qe_getfield c185_78 qo185 qF12_24 e2 e4 ?_
  refine qe_aload_n c185_81 rfl ?_
  refine qe_getfield c185_82 qo185 qF12_194 e2 e6 ?_
  refine qe_iload_n c185_85 rfl ?_
  refine qe_iastore c185_86 e9 e10 ?_
  rw [e11]
  refine qe_aload_n c185_87 rfl ?_
  refine qe_getfield c185_88 qo185 qF12_27 e13 e15 ?_
  refine qe_aload_n c185_91 rfl ?_
  refine qe_getfield c185_92 qo185 qF12_194 e13 e17 ?_
  refine qe_iload_n c185_95 rfl ?_
  refine qe_iastore c185_96 e20 e21 ?_
  rw [e22]
  refine qe_aload_n c185_97 rfl ?_
  refine qe_getfield c185_98 qo185 qF12_30 e24 e26 ?_
  refine qe_aload_n c185_101 rfl ?_
  refine qe_getfield c185_102 qo185 qF12_194 e24 e28 ?_
  refine qe_iload_n c185_105 rfl ?_
  refine qe_iastore c185_106 e31 e32 ?_
  rw [e33]
  refine qe_aload_n c185_107 rfl ?_
  refine qe_getfield c185_108 qo185 qF12_33 e35 e37 ?_
  refine qe_aload_n c185_111 rfl ?_
  refine qe_getfield c185_112 qo185 qF12_194 e35 e39 ?_
  refine qe_iload c185_115 rfl ?_
  refine qe_iastore c185_117 e42 e43 ?_
  rw [e44]
  refine qe_aload_n c185_118 rfl ?_
  refine qe_getfield c185_119 qo185 qF12_36 e46 e48 ?_
  refine qe_aload_n c185_122 rfl ?_
  refine qe_getfield c185_123 qo185 qF12_194 e46 e50 ?_
  refine qe_iload c185_126 rfl ?_
  refine qe_iastore c185_128 e53 e54 ?_
  rw [e55]
  refine qe_aload_n c185_129 rfl ?_
  refine qe_dup c185_130 rfl ?_
  refine qe_getfield c185_131 qo185 qF12_194 e57 e59 ?_
  refine qe_iconst (x := 1) c185_134 (by decide) ?_
  refine qe_iadd c185_135 ?_
  refine qe_putfield c185_136 qo185 qF12_194 qz12_4 e57 e60 (by rw [qy12_4]; rfl) ?_
  rw [e61]
  refine qe_aload_n c185_139 rfl ?_
  refine qe_getfield c185_140 qo185 qF12_194 e63 e65 ?_
  refine qe_iconst (x := 1) c185_143 (by decide) ?_
  refine qe_isub c185_144 ?_
  exact qe_iret c185_145 qr185
theorem b186_0F {d : Nat} {q : Option Value × qH} {h : qH} {r0 : Nat} {x1 : Int32} {x2 : Int32} {fs1 : List Value} {h1 : qH} {z3 : Int32}  (e2 : h.2.2 r0 = some (.inr (12, fs1))) (e4 : qCall d 136 [.ref r0, .int x1] h ((some (.int z3)), h1)) (e5 : (z3 : Int32) = 0) (kk : qE d 186 8 [some (.ref r0), some (.int x1), some (.int x2)] [] h1 q): qE d 186 0 [some (.ref r0), some (.int x1), some (.int x2)] [] h q := by
  refine qe_aload_n c186_0 rfl ?_
  refine qe_iload_n c186_1 rfl ?_
  refine qe_virtual (b := r0) (as := [.int x1]) (r := []) (v := (some (.int z3))) (h2 := h1) c186_2 qo186 qK12_224 rfl rfl rfl (by rw [qo136]; exact e2) (Nat.le_of_ble_eq_true rfl) e4 ?_
  refine qe_if_ne_F (t := 10) c186_5 rfl e5 ?_
  exact kk
theorem b186_0T {d : Nat} {q : Option Value × qH} {h : qH} {r0 : Nat} {x1 : Int32} {x2 : Int32} {fs1 : List Value} {h1 : qH} {z3 : Int32}  (e2 : h.2.2 r0 = some (.inr (12, fs1))) (e4 : qCall d 136 [.ref r0, .int x1] h ((some (.int z3)), h1)) (e5 : ¬ ((z3 : Int32) = 0)) (kk : qE d 186 10 [some (.ref r0), some (.int x1), some (.int x2)] [] h1 q): qE d 186 0 [some (.ref r0), some (.int x1), some (.int x2)] [] h q := by
  refine qe_aload_n c186_0 rfl ?_
  refine qe_iload_n c186_1 rfl ?_
  refine qe_virtual (b := r0) (as := [.int x1]) (r := []) (v := (some (.int z3))) (h2 := h1) c186_2 qo186 qK12_224 rfl rfl rfl (by rw [qo136]; exact e2) (Nat.le_of_ble_eq_true rfl) e4 ?_
  refine qe_if_ne_T (t := 10) c186_5 rfl e5 ?_
  exact kk
theorem b186_8 {d : Nat} {h : qH} {r0 : Nat} {x1 : Int32} {x2 : Int32}   : qE d 186 8 [some (.ref r0), some (.int x1), some (.int x2)] [] h (some (.int (-1)), h) := by
  refine qe_iconst (x := (-1)) c186_8 (by decide) ?_
  exact qe_iret c186_9 qr186
theorem b186_10D {d : Nat} {q : Option Value × qH} {h : qH} {r0 : Nat} {x1 : Int32} {x2 : Int32}  (e1 : (x2 : Int32).toInt < 0 ∨ 3 < (x2 : Int32).toInt) (kk : qE d 186 88 [some (.ref r0), some (.int x1), some (.int x2)] [] h q): qE d 186 10 [some (.ref r0), some (.int x1), some (.int x2)] [] h q := by
  refine qe_iload_n c186_10 rfl ?_
  refine qe_tableD (t := 88) c186_11 e1 rfl ?_
  exact kk
theorem b186_10s3 {d : Nat} {q : Option Value × qH} {h : qH} {r0 : Nat} {x1 : Int32} {x2 : Int32}  (e1 : (x2 : Int32).toInt = 3) (kk : qE d 186 71 [some (.ref r0), some (.int x1), some (.int x2)] [] h q): qE d 186 10 [some (.ref r0), some (.int x1), some (.int x2)] [] h q := by
  refine qe_iload_n c186_10 rfl ?_
  refine qe_table (off := 60) (t := 71) c186_11 (by rw [e1]; decide) (by rw [e1]; decide) rfl ?_
  exact kk
theorem b186_10s2 {d : Nat} {q : Option Value × qH} {h : qH} {r0 : Nat} {x1 : Int32} {x2 : Int32}  (e1 : (x2 : Int32).toInt = 2) (kk : qE d 186 61 [some (.ref r0), some (.int x1), some (.int x2)] [] h q): qE d 186 10 [some (.ref r0), some (.int x1), some (.int x2)] [] h q := by
  refine qe_iload_n c186_10 rfl ?_
  refine qe_table (off := 50) (t := 61) c186_11 (by rw [e1]; decide) (by rw [e1]; decide) rfl ?_
  exact kk
theorem b186_10s1 {d : Nat} {q : Option Value × qH} {h : qH} {r0 : Nat} {x1 : Int32} {x2 : Int32}  (e1 : (x2 : Int32).toInt = 1) (kk : qE d 186 50 [some (.ref r0), some (.int x1), some (.int x2)] [] h q): qE d 186 10 [some (.ref r0), some (.int x1), some (.int x2)] [] h q := by
  refine qe_iload_n c186_10 rfl ?_
  refine qe_table (off := 39) (t := 50) c186_11 (by rw [e1]; decide) (by rw [e1]; decide) rfl ?_
  exact kk
theorem b186_10s0 {d : Nat} {q : Option Value × qH} {h : qH} {r0 : Nat} {x1 : Int32} {x2 : Int32}  (e1 : (x2 : Int32).toInt = 0) (kk : qE d 186 40 [some (.ref r0), some (.int x1), some (.int x2)] [] h q): qE d 186 10 [some (.ref r0), some (.int x1), some (.int x2)] [] h q := by
  refine qe_iload_n c186_10 rfl ?_
  refine qe_table (off := 29) (t := 40) c186_11 (by rw [e1]; decide) (by rw [e1]; decide) rfl ?_
  exact kk
theorem b186_40 {d : Nat} {h : qH} {r0 : Nat} {x1 : Int32} {x2 : Int32} {fs1 : List Value} {y3 : Nat} {n5 : Nat} {f6 : Nat → Int32}  (e2 : h.2.2 r0 = some (.inr (12, fs1))) (e4 : fs1[10]? = some (.ref y3)) (e7 : h.2.2 y3 = some (.inl (0, n5, .inl f6))) (e8 : 0 ≤ ((36000 + x1) : Int32).toInt ∧ ((36000 + x1) : Int32).toInt < (n5 : Nat)) : qE d 186 40 [some (.ref r0), some (.int x1), some (.int x2)] [] h (some (.int (f6 ((36000 + x1) : Int32).toNatClampNeg)), h) := by
  refine qe_aload_n c186_40 rfl ?_
  refine qe_getfield c186_41 qo186 qF12_14 e2 e4 ?_
  refine qe_ldc (x := 36000) c186_44 qo186 qI12_230 ?_
  refine qe_iload_n c186_46 rfl ?_
  refine qe_iadd c186_47 ?_
  refine qe_iaload c186_48 e7 e8 ?_
  exact qe_iret c186_49 qr186
theorem b186_50 {d : Nat} {h : qH} {r0 : Nat} {x1 : Int32} {x2 : Int32} {fs1 : List Value} {y3 : Nat} {n5 : Nat} {f6 : Nat → Int32}  (e2 : h.2.2 r0 = some (.inr (12, fs1))) (e4 : fs1[10]? = some (.ref y3)) (e7 : h.2.2 y3 = some (.inl (0, n5, .inl f6))) (e8 : 0 ≤ ((36014 + x1) : Int32).toInt ∧ ((36014 + x1) : Int32).toInt < (n5 : Nat)) : qE d 186 50 [some (.ref r0), some (.int x1), some (.int x2)] [] h (some (.int (f6 ((36014 + x1) : Int32).toNatClampNeg)), h) := by
  refine qe_aload_n c186_50 rfl ?_
  refine qe_getfield c186_51 qo186 qF12_14 e2 e4 ?_
  refine qe_ldc_w (x := 36014) c186_54 qo186 qI12_469 ?_
  refine qe_iload_n c186_57 rfl ?_
  refine qe_iadd c186_58 ?_
  refine qe_iaload c186_59 e7 e8 ?_
  exact qe_iret c186_60 qr186
theorem b186_61 {d : Nat} {h : qH} {r0 : Nat} {x1 : Int32} {x2 : Int32} {fs1 : List Value} {y3 : Nat} {n5 : Nat} {f6 : Nat → Int32}  (e2 : h.2.2 r0 = some (.inr (12, fs1))) (e4 : fs1[10]? = some (.ref y3)) (e7 : h.2.2 y3 = some (.inl (0, n5, .inl f6))) (e8 : 0 ≤ ((36028 + x1) : Int32).toInt ∧ ((36028 + x1) : Int32).toInt < (n5 : Nat)) : qE d 186 61 [some (.ref r0), some (.int x1), some (.int x2)] [] h (some (.int (f6 ((36028 + x1) : Int32).toNatClampNeg)), h) := by
  refine qe_aload_n c186_61 rfl ?_
  refine qe_getfield c186_62 qo186 qF12_14 e2 e4 ?_
  refine qe_ldc (x := 36028) c186_65 qo186 qI12_227 ?_
  refine qe_iload_n c186_67 rfl ?_
  refine qe_iadd c186_68 ?_
  refine qe_iaload c186_69 e7 e8 ?_
  exact qe_iret c186_70 qr186
theorem b186_71F {d : Nat} {q : Option Value × qH} {h : qH} {r0 : Nat} {x1 : Int32} {x2 : Int32} {fs1 : List Value} {h1 : qH} {z3 : Int32} {h2 : qH} {z5 : Int32}  (e2 : h.2.2 r0 = some (.inr (12, fs1))) (e4 : qCall d 89 [.ref r0] h ((some (.int z3)), h1)) (e6 : qCall d 118 [.int z3, .int x1] h1 ((some (.int z5)), h2)) (e7 : ¬ ((z5 : Int32) = 0)) (kk : qE d 186 82 [some (.ref r0), some (.int x1), some (.int x2)] [] h2 q): qE d 186 71 [some (.ref r0), some (.int x1), some (.int x2)] [] h q := by
  refine qe_aload_n c186_71 rfl ?_
  refine qe_virtual (b := r0) (as := []) (r := []) (v := (some (.int z3))) (h2 := h1) c186_72 qo186 qK12_455 rfl rfl rfl (by rw [qo89]; exact e2) (Nat.le_of_ble_eq_true rfl) e4 ?_
  refine qe_iload_n c186_75 rfl ?_
  refine qe_static (as := [.int z3, .int x1]) (r := []) (v := (some (.int z5))) (h2 := h2) c186_76 qo186 (by decide) qK12_248 rfl rfl rfl (Nat.le_of_ble_eq_true rfl) e6 ?_
  refine qe_if_eq_F (t := 86) c186_79 rfl e7 ?_
  exact kk
theorem b186_71T {d : Nat} {q : Option Value × qH} {h : qH} {r0 : Nat} {x1 : Int32} {x2 : Int32} {fs1 : List Value} {h1 : qH} {z3 : Int32} {h2 : qH} {z5 : Int32}  (e2 : h.2.2 r0 = some (.inr (12, fs1))) (e4 : qCall d 89 [.ref r0] h ((some (.int z3)), h1)) (e6 : qCall d 118 [.int z3, .int x1] h1 ((some (.int z5)), h2)) (e7 : (z5 : Int32) = 0) (kk : qE d 186 86 [some (.ref r0), some (.int x1), some (.int x2)] [] h2 q): qE d 186 71 [some (.ref r0), some (.int x1), some (.int x2)] [] h q := by
  refine qe_aload_n c186_71 rfl ?_
  refine qe_virtual (b := r0) (as := []) (r := []) (v := (some (.int z3))) (h2 := h1) c186_72 qo186 qK12_455 rfl rfl rfl (by rw [qo89]; exact e2) (Nat.le_of_ble_eq_true rfl) e4 ?_
  refine qe_iload_n c186_75 rfl ?_
  refine qe_static (as := [.int z3, .int x1]) (r := []) (v := (some (.int z5))) (h2 := h2) c186_76 qo186 (by decide) qK12_248 rfl rfl rfl (Nat.le_of_ble_eq_true rfl) e6 ?_
  refine qe_if_eq_T (t := 86) c186_79 rfl e7 ?_
  exact kk
theorem b186_82 {d : Nat} {q : Option Value × qH} {h : qH} {r0 : Nat} {x1 : Int32} {x2 : Int32}   (kk : qE d 186 87 [some (.ref r0), some (.int x1), some (.int x2)] [.int 1] h q): qE d 186 82 [some (.ref r0), some (.int x1), some (.int x2)] [] h q := by
  refine qe_iconst (x := 1) c186_82 (by decide) ?_
  refine qe_goto (t := 87) c186_83 rfl ?_
  exact kk
theorem b186_86 {d : Nat} {q : Option Value × qH} {h : qH} {r0 : Nat} {x1 : Int32} {x2 : Int32}   (kk : qE d 186 87 [some (.ref r0), some (.int x1), some (.int x2)] [.int 0] h q): qE d 186 86 [some (.ref r0), some (.int x1), some (.int x2)] [] h q := by
  refine qe_iconst (x := 0) c186_86 (by decide) ?_
  exact kk
theorem b186_87 {d : Nat} {h : qH} {r0 : Nat} {x1 : Int32} {x2 : Int32} {xs0 : Int32}   : qE d 186 87 [some (.ref r0), some (.int x1), some (.int x2)] [.int xs0] h (some (.int xs0), h) := by
  exact qe_iret c186_87 qr186
theorem b186_88 {d : Nat} {h : qH} {r0 : Nat} {x1 : Int32} {x2 : Int32}   : qE d 186 88 [some (.ref r0), some (.int x1), some (.int x2)] [] h (some (.int (-1)), h) := by
  refine qe_iconst (x := (-1)) c186_88 (by decide) ?_
  exact qe_iret c186_89 qr186
theorem b187_0D {d : Nat} {q : Option Value × qH} {h : qH} {x0 : Int32} {l1 : Int64} {l3 : Int64}  (e1 : Op.lookupswitch.offset [(37, 93), (42, 75), (43, 67), (45, 71), (47, 79), (60, 107), (62, 119)] 131 (x0 : Int32).toInt = 131) (kk : qE d 187 132 [some (.int x0), some (.long l1), none, some (.long l3), none] [] h q): qE d 187 0 [some (.int x0), some (.long l1), none, some (.long l3), none] [] h q := by
  refine qe_iload_n c187_0 rfl ?_
  refine qe_lookup (off := 131) (t := 132) c187_1 (by decide) e1 rfl ?_
  exact kk
theorem b187_0s62 {d : Nat} {q : Option Value × qH} {h : qH} {x0 : Int32} {l1 : Int64} {l3 : Int64}  (e1 : (x0 : Int32).toInt = 62) (kk : qE d 187 120 [some (.int x0), some (.long l1), none, some (.long l3), none] [] h q): qE d 187 0 [some (.int x0), some (.long l1), none, some (.long l3), none] [] h q := by
  refine qe_iload_n c187_0 rfl ?_
  refine qe_lookup (off := 119) (t := 120) c187_1 (by decide) (by rw [e1]; decide) rfl ?_
  exact kk
theorem b187_0s60 {d : Nat} {q : Option Value × qH} {h : qH} {x0 : Int32} {l1 : Int64} {l3 : Int64}  (e1 : (x0 : Int32).toInt = 60) (kk : qE d 187 108 [some (.int x0), some (.long l1), none, some (.long l3), none] [] h q): qE d 187 0 [some (.int x0), some (.long l1), none, some (.long l3), none] [] h q := by
  refine qe_iload_n c187_0 rfl ?_
  refine qe_lookup (off := 107) (t := 108) c187_1 (by decide) (by rw [e1]; decide) rfl ?_
  exact kk
theorem b187_0s47 {d : Nat} {q : Option Value × qH} {h : qH} {x0 : Int32} {l1 : Int64} {l3 : Int64}  (e1 : (x0 : Int32).toInt = 47) (kk : qE d 187 80 [some (.int x0), some (.long l1), none, some (.long l3), none] [] h q): qE d 187 0 [some (.int x0), some (.long l1), none, some (.long l3), none] [] h q := by
  refine qe_iload_n c187_0 rfl ?_
  refine qe_lookup (off := 79) (t := 80) c187_1 (by decide) (by rw [e1]; decide) rfl ?_
  exact kk
theorem b187_0s45 {d : Nat} {q : Option Value × qH} {h : qH} {x0 : Int32} {l1 : Int64} {l3 : Int64}  (e1 : (x0 : Int32).toInt = 45) (kk : qE d 187 72 [some (.int x0), some (.long l1), none, some (.long l3), none] [] h q): qE d 187 0 [some (.int x0), some (.long l1), none, some (.long l3), none] [] h q := by
  refine qe_iload_n c187_0 rfl ?_
  refine qe_lookup (off := 71) (t := 72) c187_1 (by decide) (by rw [e1]; decide) rfl ?_
  exact kk
theorem b187_0s43 {d : Nat} {q : Option Value × qH} {h : qH} {x0 : Int32} {l1 : Int64} {l3 : Int64}  (e1 : (x0 : Int32).toInt = 43) (kk : qE d 187 68 [some (.int x0), some (.long l1), none, some (.long l3), none] [] h q): qE d 187 0 [some (.int x0), some (.long l1), none, some (.long l3), none] [] h q := by
  refine qe_iload_n c187_0 rfl ?_
  refine qe_lookup (off := 67) (t := 68) c187_1 (by decide) (by rw [e1]; decide) rfl ?_
  exact kk
theorem b187_0s42 {d : Nat} {q : Option Value × qH} {h : qH} {x0 : Int32} {l1 : Int64} {l3 : Int64}  (e1 : (x0 : Int32).toInt = 42) (kk : qE d 187 76 [some (.int x0), some (.long l1), none, some (.long l3), none] [] h q): qE d 187 0 [some (.int x0), some (.long l1), none, some (.long l3), none] [] h q := by
  refine qe_iload_n c187_0 rfl ?_
  refine qe_lookup (off := 75) (t := 76) c187_1 (by decide) (by rw [e1]; decide) rfl ?_
  exact kk
theorem b187_0s37 {d : Nat} {q : Option Value × qH} {h : qH} {x0 : Int32} {l1 : Int64} {l3 : Int64}  (e1 : (x0 : Int32).toInt = 37) (kk : qE d 187 94 [some (.int x0), some (.long l1), none, some (.long l3), none] [] h q): qE d 187 0 [some (.int x0), some (.long l1), none, some (.long l3), none] [] h q := by
  refine qe_iload_n c187_0 rfl ?_
  refine qe_lookup (off := 93) (t := 94) c187_1 (by decide) (by rw [e1]; decide) rfl ?_
  exact kk
theorem b187_68 {d : Nat} {h : qH} {x0 : Int32} {l1 : Int64} {l3 : Int64}   : qE d 187 68 [some (.int x0), some (.long l1), none, some (.long l3), none] [] h (some (.long (l1 + l3)), h) := by
  refine qe_lload_n c187_68 rfl ?_
  refine qe_lload_n c187_69 rfl ?_
  refine qe_ladd c187_70 ?_
  exact qe_lret c187_71 qr187
theorem b187_72 {d : Nat} {h : qH} {x0 : Int32} {l1 : Int64} {l3 : Int64}   : qE d 187 72 [some (.int x0), some (.long l1), none, some (.long l3), none] [] h (some (.long (l1 - l3)), h) := by
  refine qe_lload_n c187_72 rfl ?_
  refine qe_lload_n c187_73 rfl ?_
  refine qe_lsub c187_74 ?_
  exact qe_lret c187_75 qr187
theorem b187_76 {d : Nat} {h : qH} {x0 : Int32} {l1 : Int64} {l3 : Int64}   : qE d 187 76 [some (.int x0), some (.long l1), none, some (.long l3), none] [] h (some (.long (l1 * l3)), h) := by
  refine qe_lload_n c187_76 rfl ?_
  refine qe_lload_n c187_77 rfl ?_
  refine qe_lmul c187_78 ?_
  exact qe_lret c187_79 qr187
theorem b187_80F {d : Nat} {q : Option Value × qH} {h : qH} {x0 : Int32} {l1 : Int64} {l3 : Int64}  (e1 : ((lg_cmp l3 0) : Int32) = 0) (kk : qE d 187 86 [some (.int x0), some (.long l1), none, some (.long l3), none] [] h q): qE d 187 80 [some (.int x0), some (.long l1), none, some (.long l3), none] [] h q := by
  refine qe_lload_n c187_80 rfl ?_
  refine qe_lconst (x := 0) c187_81 (by decide) ?_
  refine qe_lcmp c187_82 ?_
  refine qe_if_ne_F (t := 90) c187_83 rfl e1 ?_
  exact kk
theorem b187_80T {d : Nat} {q : Option Value × qH} {h : qH} {x0 : Int32} {l1 : Int64} {l3 : Int64}  (e1 : ¬ (((lg_cmp l3 0) : Int32) = 0)) (kk : qE d 187 90 [some (.int x0), some (.long l1), none, some (.long l3), none] [] h q): qE d 187 80 [some (.int x0), some (.long l1), none, some (.long l3), none] [] h q := by
  refine qe_lload_n c187_80 rfl ?_
  refine qe_lconst (x := 0) c187_81 (by decide) ?_
  refine qe_lcmp c187_82 ?_
  refine qe_if_ne_T (t := 90) c187_83 rfl e1 ?_
  exact kk
theorem b187_86 {d : Nat} {q : Option Value × qH} {h : qH} {x0 : Int32} {l1 : Int64} {l3 : Int64}   (kk : qE d 187 93 [some (.int x0), some (.long l1), none, some (.long l3), none] [.long 0] h q): qE d 187 86 [some (.int x0), some (.long l1), none, some (.long l3), none] [] h q := by
  refine qe_lconst (x := 0) c187_86 (by decide) ?_
  refine qe_goto (t := 93) c187_87 rfl ?_
  exact kk
theorem b187_90 {d : Nat} {q : Option Value × qH} {h : qH} {x0 : Int32} {l1 : Int64} {l3 : Int64}  (e1 : ¬ (l3 : Int64) = 0) (kk : qE d 187 93 [some (.int x0), some (.long l1), none, some (.long l3), none] [.long (l1 / l3)] h q): qE d 187 90 [some (.int x0), some (.long l1), none, some (.long l3), none] [] h q := by
  refine qe_lload_n c187_90 rfl ?_
  refine qe_lload_n c187_91 rfl ?_
  refine qe_ldiv c187_92 e1 ?_
  exact kk
theorem b187_93 {d : Nat} {h : qH} {x0 : Int32} {l1 : Int64} {l3 : Int64} {ls0 : Int64}   : qE d 187 93 [some (.int x0), some (.long l1), none, some (.long l3), none] [.long ls0] h (some (.long ls0), h) := by
  exact qe_lret c187_93 qr187
theorem b187_94F {d : Nat} {q : Option Value × qH} {h : qH} {x0 : Int32} {l1 : Int64} {l3 : Int64}  (e1 : ((lg_cmp l3 0) : Int32) = 0) (kk : qE d 187 100 [some (.int x0), some (.long l1), none, some (.long l3), none] [] h q): qE d 187 94 [some (.int x0), some (.long l1), none, some (.long l3), none] [] h q := by
  refine qe_lload_n c187_94 rfl ?_
  refine qe_lconst (x := 0) c187_95 (by decide) ?_
  refine qe_lcmp c187_96 ?_
  refine qe_if_ne_F (t := 104) c187_97 rfl e1 ?_
  exact kk
theorem b187_94T {d : Nat} {q : Option Value × qH} {h : qH} {x0 : Int32} {l1 : Int64} {l3 : Int64}  (e1 : ¬ (((lg_cmp l3 0) : Int32) = 0)) (kk : qE d 187 104 [some (.int x0), some (.long l1), none, some (.long l3), none] [] h q): qE d 187 94 [some (.int x0), some (.long l1), none, some (.long l3), none] [] h q := by
  refine qe_lload_n c187_94 rfl ?_
  refine qe_lconst (x := 0) c187_95 (by decide) ?_
  refine qe_lcmp c187_96 ?_
  refine qe_if_ne_T (t := 104) c187_97 rfl e1 ?_
  exact kk
theorem b187_100 {d : Nat} {q : Option Value × qH} {h : qH} {x0 : Int32} {l1 : Int64} {l3 : Int64}   (kk : qE d 187 107 [some (.int x0), some (.long l1), none, some (.long l3), none] [.long 0] h q): qE d 187 100 [some (.int x0), some (.long l1), none, some (.long l3), none] [] h q := by
  refine qe_lconst (x := 0) c187_100 (by decide) ?_
  refine qe_goto (t := 107) c187_101 rfl ?_
  exact kk
theorem b187_104 {d : Nat} {q : Option Value × qH} {h : qH} {x0 : Int32} {l1 : Int64} {l3 : Int64}  (e1 : ¬ (l3 : Int64) = 0) (kk : qE d 187 107 [some (.int x0), some (.long l1), none, some (.long l3), none] [.long (l1 - l1 / l3 * l3)] h q): qE d 187 104 [some (.int x0), some (.long l1), none, some (.long l3), none] [] h q := by
  refine qe_lload_n c187_104 rfl ?_
  refine qe_lload_n c187_105 rfl ?_
  refine qe_lrem c187_106 e1 ?_
  exact kk
theorem b187_107 {d : Nat} {h : qH} {x0 : Int32} {l1 : Int64} {l3 : Int64} {ls0 : Int64}   : qE d 187 107 [some (.int x0), some (.long l1), none, some (.long l3), none] [.long ls0] h (some (.long ls0), h) := by
  exact qe_lret c187_107 qr187
theorem b187_108F {d : Nat} {q : Option Value × qH} {h : qH} {x0 : Int32} {l1 : Int64} {l3 : Int64}  (e1 : ¬ ((0 : Int32) ≤ (lg_cmp l1 l3))) (kk : qE d 187 114 [some (.int x0), some (.long l1), none, some (.long l3), none] [] h q): qE d 187 108 [some (.int x0), some (.long l1), none, some (.long l3), none] [] h q := by
  refine qe_lload_n c187_108 rfl ?_
  refine qe_lload_n c187_109 rfl ?_
  refine qe_lcmp c187_110 ?_
  refine qe_if_ge_F (t := 118) c187_111 rfl e1 ?_
  exact kk
theorem b187_108T {d : Nat} {q : Option Value × qH} {h : qH} {x0 : Int32} {l1 : Int64} {l3 : Int64}  (e1 : (0 : Int32) ≤ (lg_cmp l1 l3)) (kk : qE d 187 118 [some (.int x0), some (.long l1), none, some (.long l3), none] [] h q): qE d 187 108 [some (.int x0), some (.long l1), none, some (.long l3), none] [] h q := by
  refine qe_lload_n c187_108 rfl ?_
  refine qe_lload_n c187_109 rfl ?_
  refine qe_lcmp c187_110 ?_
  refine qe_if_ge_T (t := 118) c187_111 rfl e1 ?_
  exact kk
theorem b187_114 {d : Nat} {q : Option Value × qH} {h : qH} {x0 : Int32} {l1 : Int64} {l3 : Int64}   (kk : qE d 187 119 [some (.int x0), some (.long l1), none, some (.long l3), none] [.long 1] h q): qE d 187 114 [some (.int x0), some (.long l1), none, some (.long l3), none] [] h q := by
  refine qe_lconst (x := 1) c187_114 (by decide) ?_
  refine qe_goto (t := 119) c187_115 rfl ?_
  exact kk
theorem b187_118 {d : Nat} {q : Option Value × qH} {h : qH} {x0 : Int32} {l1 : Int64} {l3 : Int64}   (kk : qE d 187 119 [some (.int x0), some (.long l1), none, some (.long l3), none] [.long 0] h q): qE d 187 118 [some (.int x0), some (.long l1), none, some (.long l3), none] [] h q := by
  refine qe_lconst (x := 0) c187_118 (by decide) ?_
  exact kk
theorem b187_119 {d : Nat} {h : qH} {x0 : Int32} {l1 : Int64} {l3 : Int64} {ls0 : Int64}   : qE d 187 119 [some (.int x0), some (.long l1), none, some (.long l3), none] [.long ls0] h (some (.long ls0), h) := by
  exact qe_lret c187_119 qr187
theorem b187_120F {d : Nat} {q : Option Value × qH} {h : qH} {x0 : Int32} {l1 : Int64} {l3 : Int64}  (e1 : ¬ (((lg_cmp l1 l3) : Int32) ≤ 0)) (kk : qE d 187 126 [some (.int x0), some (.long l1), none, some (.long l3), none] [] h q): qE d 187 120 [some (.int x0), some (.long l1), none, some (.long l3), none] [] h q := by
  refine qe_lload_n c187_120 rfl ?_
  refine qe_lload_n c187_121 rfl ?_
  refine qe_lcmp c187_122 ?_
  refine qe_if_le_F (t := 130) c187_123 rfl e1 ?_
  exact kk
theorem b187_120T {d : Nat} {q : Option Value × qH} {h : qH} {x0 : Int32} {l1 : Int64} {l3 : Int64}  (e1 : ((lg_cmp l1 l3) : Int32) ≤ 0) (kk : qE d 187 130 [some (.int x0), some (.long l1), none, some (.long l3), none] [] h q): qE d 187 120 [some (.int x0), some (.long l1), none, some (.long l3), none] [] h q := by
  refine qe_lload_n c187_120 rfl ?_
  refine qe_lload_n c187_121 rfl ?_
  refine qe_lcmp c187_122 ?_
  refine qe_if_le_T (t := 130) c187_123 rfl e1 ?_
  exact kk
theorem b187_126 {d : Nat} {q : Option Value × qH} {h : qH} {x0 : Int32} {l1 : Int64} {l3 : Int64}   (kk : qE d 187 131 [some (.int x0), some (.long l1), none, some (.long l3), none] [.long 1] h q): qE d 187 126 [some (.int x0), some (.long l1), none, some (.long l3), none] [] h q := by
  refine qe_lconst (x := 1) c187_126 (by decide) ?_
  refine qe_goto (t := 131) c187_127 rfl ?_
  exact kk
theorem b187_130 {d : Nat} {q : Option Value × qH} {h : qH} {x0 : Int32} {l1 : Int64} {l3 : Int64}   (kk : qE d 187 131 [some (.int x0), some (.long l1), none, some (.long l3), none] [.long 0] h q): qE d 187 130 [some (.int x0), some (.long l1), none, some (.long l3), none] [] h q := by
  refine qe_lconst (x := 0) c187_130 (by decide) ?_
  exact kk
theorem b187_131 {d : Nat} {h : qH} {x0 : Int32} {l1 : Int64} {l3 : Int64} {ls0 : Int64}   : qE d 187 131 [some (.int x0), some (.long l1), none, some (.long l3), none] [.long ls0] h (some (.long ls0), h) := by
  exact qe_lret c187_131 qr187
theorem b187_132F {d : Nat} {q : Option Value × qH} {h : qH} {x0 : Int32} {l1 : Int64} {l3 : Int64}  (e1 : ((lg_cmp l1 l3) : Int32) = 0) (kk : qE d 187 138 [some (.int x0), some (.long l1), none, some (.long l3), none] [] h q): qE d 187 132 [some (.int x0), some (.long l1), none, some (.long l3), none] [] h q := by
  refine qe_lload_n c187_132 rfl ?_
  refine qe_lload_n c187_133 rfl ?_
  refine qe_lcmp c187_134 ?_
  refine qe_if_ne_F (t := 142) c187_135 rfl e1 ?_
  exact kk
theorem b187_132T {d : Nat} {q : Option Value × qH} {h : qH} {x0 : Int32} {l1 : Int64} {l3 : Int64}  (e1 : ¬ (((lg_cmp l1 l3) : Int32) = 0)) (kk : qE d 187 142 [some (.int x0), some (.long l1), none, some (.long l3), none] [] h q): qE d 187 132 [some (.int x0), some (.long l1), none, some (.long l3), none] [] h q := by
  refine qe_lload_n c187_132 rfl ?_
  refine qe_lload_n c187_133 rfl ?_
  refine qe_lcmp c187_134 ?_
  refine qe_if_ne_T (t := 142) c187_135 rfl e1 ?_
  exact kk
theorem b187_138 {d : Nat} {q : Option Value × qH} {h : qH} {x0 : Int32} {l1 : Int64} {l3 : Int64}   (kk : qE d 187 143 [some (.int x0), some (.long l1), none, some (.long l3), none] [.long 1] h q): qE d 187 138 [some (.int x0), some (.long l1), none, some (.long l3), none] [] h q := by
  refine qe_lconst (x := 1) c187_138 (by decide) ?_
  refine qe_goto (t := 143) c187_139 rfl ?_
  exact kk
theorem b187_142 {d : Nat} {q : Option Value × qH} {h : qH} {x0 : Int32} {l1 : Int64} {l3 : Int64}   (kk : qE d 187 143 [some (.int x0), some (.long l1), none, some (.long l3), none] [.long 0] h q): qE d 187 142 [some (.int x0), some (.long l1), none, some (.long l3), none] [] h q := by
  refine qe_lconst (x := 0) c187_142 (by decide) ?_
  exact kk
theorem b187_143 {d : Nat} {h : qH} {x0 : Int32} {l1 : Int64} {l3 : Int64} {ls0 : Int64}   : qE d 187 143 [some (.int x0), some (.long l1), none, some (.long l3), none] [.long ls0] h (some (.long ls0), h) := by
  exact qe_lret c187_143 qr187
theorem b188_0F {d : Nat} {q : Option Value × qH} {h : qH} {r0 : Nat} {x1 : Int32} {x2 : Int32} {x3 : Int32} {fs1 : List Value} {y3 : Int32}  (e2 : h.2.2 r0 = some (.inr (12, fs1))) (e4 : fs1[2]? = some (.int y3)) (e5 : ¬ ((0 : Int32) < y3)) (kk : qE d 188 7 [some (.ref r0), some (.int x1), some (.int x2), some (.int x3)] [] h q): qE d 188 0 [some (.ref r0), some (.int x1), some (.int x2), some (.int x3)] [] h q := by
  refine qe_aload_n c188_0 rfl ?_
  refine qe_getfield c188_1 qo188 qF12_202 e2 e4 ?_
  refine qe_if_gt_F (t := 48) c188_4 rfl e5 ?_
  exact kk
theorem b188_0T {d : Nat} {q : Option Value × qH} {h : qH} {r0 : Nat} {x1 : Int32} {x2 : Int32} {x3 : Int32} {fs1 : List Value} {y3 : Int32}  (e2 : h.2.2 r0 = some (.inr (12, fs1))) (e4 : fs1[2]? = some (.int y3)) (e5 : (0 : Int32) < y3) (kk : qE d 188 48 [some (.ref r0), some (.int x1), some (.int x2), some (.int x3)] [] h q): qE d 188 0 [some (.ref r0), some (.int x1), some (.int x2), some (.int x3)] [] h q := by
  refine qe_aload_n c188_0 rfl ?_
  refine qe_getfield c188_1 qo188 qF12_202 e2 e4 ?_
  refine qe_if_gt_T (t := 48) c188_4 rfl e5 ?_
  exact kk
theorem b188_7F {d : Nat} {q : Option Value × qH} {h : qH} {r0 : Nat} {x1 : Int32} {x2 : Int32} {x3 : Int32} {fs1 : List Value} {y3 : Int32}  (e2 : h.2.2 r0 = some (.inr (12, fs1))) (e4 : fs1[5]? = some (.int y3)) (e5 : ¬ ((y3 : Int32) = 9)) (kk : qE d 188 16 [some (.ref r0), some (.int x1), some (.int x2), some (.int x3)] [] h q): qE d 188 7 [some (.ref r0), some (.int x1), some (.int x2), some (.int x3)] [] h q := by
  refine qe_aload_n c188_7 rfl ?_
  refine qe_getfield c188_8 qo188 qF12_197 e2 e4 ?_
  refine qe_bipush (x := 9) c188_11 (by decide) ?_
  refine qe_icmp_eq_F (t := 48) c188_13 rfl e5 ?_
  exact kk
theorem b188_7T {d : Nat} {q : Option Value × qH} {h : qH} {r0 : Nat} {x1 : Int32} {x2 : Int32} {x3 : Int32} {fs1 : List Value} {y3 : Int32}  (e2 : h.2.2 r0 = some (.inr (12, fs1))) (e4 : fs1[5]? = some (.int y3)) (e5 : (y3 : Int32) = 9) (kk : qE d 188 48 [some (.ref r0), some (.int x1), some (.int x2), some (.int x3)] [] h q): qE d 188 7 [some (.ref r0), some (.int x1), some (.int x2), some (.int x3)] [] h q := by
  refine qe_aload_n c188_7 rfl ?_
  refine qe_getfield c188_8 qo188 qF12_197 e2 e4 ?_
  refine qe_bipush (x := 9) c188_11 (by decide) ?_
  refine qe_icmp_eq_T (t := 48) c188_13 rfl e5 ?_
  exact kk
theorem b188_16F {d : Nat} {q : Option Value × qH} {h : qH} {r0 : Nat} {x1 : Int32} {x2 : Int32} {x3 : Int32} {fs1 : List Value} {h1 : qH} {z3 : Int32}  (e2 : h.2.2 r0 = some (.inr (12, fs1))) (e4 : qCall d 132 [.ref r0, .int x1] h ((some (.int z3)), h1)) (e5 : ¬ ((z3 : Int32) = 0)) (kk : qE d 188 24 [some (.ref r0), some (.int x1), some (.int x2), some (.int x3)] [] h1 q): qE d 188 16 [some (.ref r0), some (.int x1), some (.int x2), some (.int x3)] [] h q := by
  refine qe_aload_n c188_16 rfl ?_
  refine qe_iload_n c188_17 rfl ?_
  refine qe_virtual (b := r0) (as := [.int x1]) (r := []) (v := (some (.int z3))) (h2 := h1) c188_18 qo188 qK12_214 rfl rfl rfl (by rw [qo132]; exact e2) (Nat.le_of_ble_eq_true rfl) e4 ?_
  refine qe_if_eq_F (t := 48) c188_21 rfl e5 ?_
  exact kk
theorem b188_16T {d : Nat} {q : Option Value × qH} {h : qH} {r0 : Nat} {x1 : Int32} {x2 : Int32} {x3 : Int32} {fs1 : List Value} {h1 : qH} {z3 : Int32}  (e2 : h.2.2 r0 = some (.inr (12, fs1))) (e4 : qCall d 132 [.ref r0, .int x1] h ((some (.int z3)), h1)) (e5 : (z3 : Int32) = 0) (kk : qE d 188 48 [some (.ref r0), some (.int x1), some (.int x2), some (.int x3)] [] h1 q): qE d 188 16 [some (.ref r0), some (.int x1), some (.int x2), some (.int x3)] [] h q := by
  refine qe_aload_n c188_16 rfl ?_
  refine qe_iload_n c188_17 rfl ?_
  refine qe_virtual (b := r0) (as := [.int x1]) (r := []) (v := (some (.int z3))) (h2 := h1) c188_18 qo188 qK12_214 rfl rfl rfl (by rw [qo132]; exact e2) (Nat.le_of_ble_eq_true rfl) e4 ?_
  refine qe_if_eq_T (t := 48) c188_21 rfl e5 ?_
  exact kk
theorem b188_24F {d : Nat} {q : Option Value × qH} {h : qH} {r0 : Nat} {x1 : Int32} {x2 : Int32} {x3 : Int32} {h1 : qH} {z1 : Int32}  (e2 : qCall d 143 [.long (x2 : Int32).toInt64, .long 1, .long 5000] h ((some (.int z1)), h1)) (e3 : ¬ ((z1 : Int32) = 0)) (kk : qE d 188 36 [some (.ref r0), some (.int x1), some (.int x2), some (.int x3)] [] h1 q): qE d 188 24 [some (.ref r0), some (.int x1), some (.int x2), some (.int x3)] [] h q := by
  refine qe_iload_n c188_24 rfl ?_
  refine qe_i2l c188_25 ?_
  refine qe_lconst (x := 1) c188_26 (by decide) ?_
  refine qe_ldc2_w (x := 5000) c188_27 qo188 qJ12_217 ?_
  refine qe_static (as := [.long (x2 : Int32).toInt64, .long 1, .long 5000]) (r := []) (v := (some (.int z1))) (h2 := h1) c188_30 qo188 (by decide) qK12_190 rfl rfl rfl (Nat.le_of_ble_eq_true rfl) e2 ?_
  refine qe_if_eq_F (t := 48) c188_33 rfl e3 ?_
  exact kk
theorem b188_24T {d : Nat} {q : Option Value × qH} {h : qH} {r0 : Nat} {x1 : Int32} {x2 : Int32} {x3 : Int32} {h1 : qH} {z1 : Int32}  (e2 : qCall d 143 [.long (x2 : Int32).toInt64, .long 1, .long 5000] h ((some (.int z1)), h1)) (e3 : (z1 : Int32) = 0) (kk : qE d 188 48 [some (.ref r0), some (.int x1), some (.int x2), some (.int x3)] [] h1 q): qE d 188 24 [some (.ref r0), some (.int x1), some (.int x2), some (.int x3)] [] h q := by
  refine qe_iload_n c188_24 rfl ?_
  refine qe_i2l c188_25 ?_
  refine qe_lconst (x := 1) c188_26 (by decide) ?_
  refine qe_ldc2_w (x := 5000) c188_27 qo188 qJ12_217 ?_
  refine qe_static (as := [.long (x2 : Int32).toInt64, .long 1, .long 5000]) (r := []) (v := (some (.int z1))) (h2 := h1) c188_30 qo188 (by decide) qK12_190 rfl rfl rfl (Nat.le_of_ble_eq_true rfl) e2 ?_
  refine qe_if_eq_T (t := 48) c188_33 rfl e3 ?_
  exact kk
theorem b188_36F {d : Nat} {q : Option Value × qH} {h : qH} {r0 : Nat} {x1 : Int32} {x2 : Int32} {x3 : Int32} {h1 : qH} {z1 : Int32}  (e2 : qCall d 143 [.long (x3 : Int32).toInt64, .long 0, .long 99] h ((some (.int z1)), h1)) (e3 : (z1 : Int32) = 0) (kk : qE d 188 48 [some (.ref r0), some (.int x1), some (.int x2), some (.int x3)] [] h1 q): qE d 188 36 [some (.ref r0), some (.int x1), some (.int x2), some (.int x3)] [] h q := by
  refine qe_iload_n c188_36 rfl ?_
  refine qe_i2l c188_37 ?_
  refine qe_lconst (x := 0) c188_38 (by decide) ?_
  refine qe_ldc2_w (x := 99) c188_39 qo188 qJ12_221 ?_
  refine qe_static (as := [.long (x3 : Int32).toInt64, .long 0, .long 99]) (r := []) (v := (some (.int z1))) (h2 := h1) c188_42 qo188 (by decide) qK12_190 rfl rfl rfl (Nat.le_of_ble_eq_true rfl) e2 ?_
  refine qe_if_ne_F (t := 50) c188_45 rfl e3 ?_
  exact kk
theorem b188_36T {d : Nat} {q : Option Value × qH} {h : qH} {r0 : Nat} {x1 : Int32} {x2 : Int32} {x3 : Int32} {h1 : qH} {z1 : Int32}  (e2 : qCall d 143 [.long (x3 : Int32).toInt64, .long 0, .long 99] h ((some (.int z1)), h1)) (e3 : ¬ ((z1 : Int32) = 0)) (kk : qE d 188 50 [some (.ref r0), some (.int x1), some (.int x2), some (.int x3)] [] h1 q): qE d 188 36 [some (.ref r0), some (.int x1), some (.int x2), some (.int x3)] [] h q := by
  refine qe_iload_n c188_36 rfl ?_
  refine qe_i2l c188_37 ?_
  refine qe_lconst (x := 0) c188_38 (by decide) ?_
  refine qe_ldc2_w (x := 99) c188_39 qo188 qJ12_221 ?_
  refine qe_static (as := [.long (x3 : Int32).toInt64, .long 0, .long 99]) (r := []) (v := (some (.int z1))) (h2 := h1) c188_42 qo188 (by decide) qK12_190 rfl rfl rfl (Nat.le_of_ble_eq_true rfl) e2 ?_
  refine qe_if_ne_T (t := 50) c188_45 rfl e3 ?_
  exact kk
theorem b188_48 {d : Nat} {h : qH} {r0 : Nat} {x1 : Int32} {x2 : Int32} {x3 : Int32}   : qE d 188 48 [some (.ref r0), some (.int x1), some (.int x2), some (.int x3)] [] h (some (.int (-1)), h) := by
  refine qe_iconst (x := (-1)) c188_48 (by decide) ?_
  exact qe_iret c188_49 qr188
theorem b188_50 {d : Nat} {h : qH} {r0 : Nat} {x1 : Int32} {x2 : Int32} {x3 : Int32} {fs1 : List Value} {y3 : Nat} {y5 : Int32} {n7 : Nat} {f8 : Nat → Int32} {h1 : qH} {fs12 : List Value} {y14 : Nat} {y16 : Int32} {n18 : Nat} {f19 : Nat → Int32} {h2 : qH} {fs23 : List Value} {y25 : Nat} {y27 : Int32} {n29 : Nat} {f30 : Nat → Int32} {h3 : qH} {fs34 : List Value} {y36 : Nat} {y38 : Int32} {n40 : Nat} {f41 : Nat → Int32} {h4 : qH} {fs45 : List Value} {y47 : Int32} {h5 : qH} {fs51 : List Value} {y53 : Int32}  (e2 : h.2.2 r0 = some (.inr (12, fs1))) (e4 : fs1[19]? = some (.ref y3)) (e6 : fs1[5]? = some (.int y5)) (e9 : h.2.2 y3 = some (.inl (0, n7, .inl f8))) (e10 : 0 ≤ (y5 : Int32).toInt ∧ (y5 : Int32).toInt < (n7 : Nat)) (e11 : qset h y3 (.inl (0, n7, .inl (upd f8 ((y5 : Int32).toNatClampNeg) x1))) = h1) (e13 : h1.2.2 r0 = some (.inr (12, fs12))) (e15 : fs12[20]? = some (.ref y14)) (e17 : fs12[5]? = some (.int y16)) (e20 : h1.2.2 y14 = some (.inl (0, n18, .inl f19))) (e21 : 0 ≤ (y16 : Int32).toInt ∧ (y16 : Int32).toInt < (n18 : Nat)) (e22 : qset h1 y14 (.inl (0, n18, .inl (upd f19 ((y16 : Int32).toNatClampNeg) x2))) = h2) (e24 : h2.2.2 r0 = some (.inr (12, fs23))) (e26 : fs23[21]? = some (.ref y25)) (e28 : fs23[5]? = some (.int y27)) (e31 : h2.2.2 y25 = some (.inl (0, n29, .inl f30))) (e32 : 0 ≤ (y27 : Int32).toInt ∧ (y27 : Int32).toInt < (n29 : Nat)) (e33 : qset h2 y25 (.inl (0, n29, .inl (upd f30 ((y27 : Int32).toNatClampNeg) x3))) = h3) (e35 : h3.2.2 r0 = some (.inr (12, fs34))) (e37 : fs34[10]? = some (.ref y36)) (e39 : fs34[5]? = some (.int y38)) (e42 : h3.2.2 y36 = some (.inl (0, n40, .inl f41))) (e43 : 0 ≤ ((36042 + y38) : Int32).toInt ∧ ((36042 + y38) : Int32).toInt < (n40 : Nat)) (e44 : qset h3 y36 (.inl (0, n40, .inl (upd f41 (((36042 + y38) : Int32).toNatClampNeg) 1))) = h4) (e46 : h4.2.2 r0 = some (.inr (12, fs45))) (e48 : fs45[5]? = some (.int y47)) (e49 : 5 < fs45.length) (e50 : qset h4 r0 (.inr (12, fs45.set 5 (.int (y47 + 1)))) = h5) (e52 : h5.2.2 r0 = some (.inr (12, fs51))) (e54 : fs51[5]? = some (.int y53)) : qE d 188 50 [some (.ref r0), some (.int x1), some (.int x2), some (.int x3)] [] h (some (.int (y53 - 1)), h5) := by
  refine qe_aload_n c188_50 rfl ?_
  refine qe_getfield c188_51 qo188 qF12_42 e2 e4 ?_
  refine qe_aload_n c188_54 rfl ?_
  refine qe_getfield c188_55 qo188 qF12_197 e2 e6 ?_
  refine qe_iload_n c188_58 rfl ?_
  refine qe_iastore c188_59 e9 e10 ?_
  rw [e11]
  refine qe_aload_n c188_60 rfl ?_
  refine qe_getfield c188_61 qo188 qF12_45 e13 e15 ?_
  refine qe_aload_n c188_64 rfl ?_
  refine qe_getfield c188_65 qo188 qF12_197 e13 e17 ?_
  refine qe_iload_n c188_68 rfl ?_
  refine qe_iastore c188_69 e20 e21 ?_
  rw [e22]
  refine qe_aload_n c188_70 rfl ?_
  refine qe_getfield c188_71 qo188 qF12_48 e24 e26 ?_
  refine qe_aload_n c188_74 rfl ?_
  refine qe_getfield c188_75 qo188 qF12_197 e24 e28 ?_
  refine qe_iload_n c188_78 rfl ?_
  refine qe_iastore c188_79 e31 e32 ?_
  rw [e33]
  refine qe_aload_n c188_80 rfl ?_
  refine qe_getfield c188_81 qo188 qF12_14 e35 e37 ?_
  refine qe_ldc (x := 36042) c188_84 qo188 qI12_223 ?_
  refine qe_aload_n c188_86 rfl ?_
  refine qe_getfield c188_87 qo188 qF12_197 e35 e39 ?_
  refine qe_iadd c188_90 ?_
  refine qe_iconst (x := 1) c188_91 (by decide) ?_
  refine qe_iastore c188_92 e42 e43 ?_
  rw [e44]
  refine qe_aload_n c188_93 rfl ?_
  refine qe_dup c188_94 rfl ?_
  refine qe_getfield c188_95 qo188 qF12_197 e46 e48 ?_
  refine qe_iconst (x := 1) c188_98 (by decide) ?_
  refine qe_iadd c188_99 ?_
  refine qe_putfield c188_100 qo188 qF12_197 qz12_5 e46 e49 (by rw [qy12_5]; rfl) ?_
  rw [e50]
  refine qe_aload_n c188_103 rfl ?_
  refine qe_getfield c188_104 qo188 qF12_197 e52 e54 ?_
  refine qe_iconst (x := 1) c188_107 (by decide) ?_
  refine qe_isub c188_108 ?_
  exact qe_iret c188_109 qr188
theorem b189_0F {d : Nat} {q : Option Value × qH} {h : qH} {r0 : Nat} {x1 : Int32} {x2 : Int32} {fs1 : List Value} {h1 : qH} {z3 : Int32}  (e2 : h.2.2 r0 = some (.inr (12, fs1))) (e4 : qCall d 137 [.ref r0, .int x1] h ((some (.int z3)), h1)) (e5 : ¬ ((z3 : Int32) = 0)) (kk : qE d 189 8 [some (.ref r0), some (.int x1), some (.int x2)] [] h1 q): qE d 189 0 [some (.ref r0), some (.int x1), some (.int x2)] [] h q := by
  refine qe_aload_n c189_0 rfl ?_
  refine qe_iload_n c189_1 rfl ?_
  refine qe_virtual (b := r0) (as := [.int x1]) (r := []) (v := (some (.int z3))) (h2 := h1) c189_2 qo189 qK12_231 rfl rfl rfl (by rw [qo137]; exact e2) (Nat.le_of_ble_eq_true rfl) e4 ?_
  refine qe_if_eq_F (t := 18) c189_5 rfl e5 ?_
  exact kk
theorem b189_0T {d : Nat} {q : Option Value × qH} {h : qH} {r0 : Nat} {x1 : Int32} {x2 : Int32} {fs1 : List Value} {h1 : qH} {z3 : Int32}  (e2 : h.2.2 r0 = some (.inr (12, fs1))) (e4 : qCall d 137 [.ref r0, .int x1] h ((some (.int z3)), h1)) (e5 : (z3 : Int32) = 0) (kk : qE d 189 18 [some (.ref r0), some (.int x1), some (.int x2)] [] h1 q): qE d 189 0 [some (.ref r0), some (.int x1), some (.int x2)] [] h q := by
  refine qe_aload_n c189_0 rfl ?_
  refine qe_iload_n c189_1 rfl ?_
  refine qe_virtual (b := r0) (as := [.int x1]) (r := []) (v := (some (.int z3))) (h2 := h1) c189_2 qo189 qK12_231 rfl rfl rfl (by rw [qo137]; exact e2) (Nat.le_of_ble_eq_true rfl) e4 ?_
  refine qe_if_eq_T (t := 18) c189_5 rfl e5 ?_
  exact kk
theorem b189_8F {d : Nat} {q : Option Value × qH} {h : qH} {r0 : Nat} {x1 : Int32} {x2 : Int32} {h1 : qH} {z1 : Int32}  (e2 : qCall d 143 [.long (x2 : Int32).toInt64, .long 0, .long 1] h ((some (.int z1)), h1)) (e3 : (z1 : Int32) = 0) (kk : qE d 189 18 [some (.ref r0), some (.int x1), some (.int x2)] [] h1 q): qE d 189 8 [some (.ref r0), some (.int x1), some (.int x2)] [] h q := by
  refine qe_iload_n c189_8 rfl ?_
  refine qe_i2l c189_9 ?_
  refine qe_lconst (x := 0) c189_10 (by decide) ?_
  refine qe_lconst (x := 1) c189_11 (by decide) ?_
  refine qe_static (as := [.long (x2 : Int32).toInt64, .long 0, .long 1]) (r := []) (v := (some (.int z1))) (h2 := h1) c189_12 qo189 (by decide) qK12_190 rfl rfl rfl (Nat.le_of_ble_eq_true rfl) e2 ?_
  refine qe_if_ne_F (t := 20) c189_15 rfl e3 ?_
  exact kk
theorem b189_8T {d : Nat} {q : Option Value × qH} {h : qH} {r0 : Nat} {x1 : Int32} {x2 : Int32} {h1 : qH} {z1 : Int32}  (e2 : qCall d 143 [.long (x2 : Int32).toInt64, .long 0, .long 1] h ((some (.int z1)), h1)) (e3 : ¬ ((z1 : Int32) = 0)) (kk : qE d 189 20 [some (.ref r0), some (.int x1), some (.int x2)] [] h1 q): qE d 189 8 [some (.ref r0), some (.int x1), some (.int x2)] [] h q := by
  refine qe_iload_n c189_8 rfl ?_
  refine qe_i2l c189_9 ?_
  refine qe_lconst (x := 0) c189_10 (by decide) ?_
  refine qe_lconst (x := 1) c189_11 (by decide) ?_
  refine qe_static (as := [.long (x2 : Int32).toInt64, .long 0, .long 1]) (r := []) (v := (some (.int z1))) (h2 := h1) c189_12 qo189 (by decide) qK12_190 rfl rfl rfl (Nat.le_of_ble_eq_true rfl) e2 ?_
  refine qe_if_ne_T (t := 20) c189_15 rfl e3 ?_
  exact kk
theorem b189_18 {d : Nat} {h : qH} {r0 : Nat} {x1 : Int32} {x2 : Int32}   : qE d 189 18 [some (.ref r0), some (.int x1), some (.int x2)] [] h (some (.int (-1)), h) := by
  refine qe_iconst (x := (-1)) c189_18 (by decide) ?_
  exact qe_iret c189_19 qr189
theorem b189_20F {d : Nat} {q : Option Value × qH} {h : qH} {r0 : Nat} {x1 : Int32} {x2 : Int32}  (e1 : (x2 : Int32) = 0) (kk : qE d 189 24 [some (.ref r0), some (.int x1), some (.int x2)] [] h q): qE d 189 20 [some (.ref r0), some (.int x1), some (.int x2)] [] h q := by
  refine qe_iload_n c189_20 rfl ?_
  refine qe_if_ne_F (t := 34) c189_21 rfl e1 ?_
  exact kk
theorem b189_20T {d : Nat} {q : Option Value × qH} {h : qH} {r0 : Nat} {x1 : Int32} {x2 : Int32}  (e1 : ¬ ((x2 : Int32) = 0)) (kk : qE d 189 34 [some (.ref r0), some (.int x1), some (.int x2)] [] h q): qE d 189 20 [some (.ref r0), some (.int x1), some (.int x2)] [] h q := by
  refine qe_iload_n c189_20 rfl ?_
  refine qe_if_ne_T (t := 34) c189_21 rfl e1 ?_
  exact kk
theorem b189_24 {d : Nat} {h : qH} {r0 : Nat} {x1 : Int32} {x2 : Int32} {fs1 : List Value} {y3 : Nat} {n5 : Nat} {f6 : Nat → Int32}  (e2 : h.2.2 r0 = some (.inr (12, fs1))) (e4 : fs1[10]? = some (.ref y3)) (e7 : h.2.2 y3 = some (.inl (0, n5, .inl f6))) (e8 : 0 ≤ ((36042 + x1) : Int32).toInt ∧ ((36042 + x1) : Int32).toInt < (n5 : Nat)) : qE d 189 24 [some (.ref r0), some (.int x1), some (.int x2)] [] h (some (.int (f6 ((36042 + x1) : Int32).toNatClampNeg)), h) := by
  refine qe_aload_n c189_24 rfl ?_
  refine qe_getfield c189_25 qo189 qF12_14 e2 e4 ?_
  refine qe_ldc (x := 36042) c189_28 qo189 qI12_223 ?_
  refine qe_iload_n c189_30 rfl ?_
  refine qe_iadd c189_31 ?_
  refine qe_iaload c189_32 e7 e8 ?_
  exact qe_iret c189_33 qr189
theorem b189_34 {d : Nat} {h : qH} {r0 : Nat} {x1 : Int32} {x2 : Int32} {fs1 : List Value} {h1 : qH} {fs4 : List Value} {y6 : Nat} {n8 : Nat} {f9 : Nat → Int32}  (e2 : h.2.2 r0 = some (.inr (12, fs1))) (e3 : qCall d 174 [.ref r0] h (none, h1)) (e5 : h1.2.2 r0 = some (.inr (12, fs4))) (e7 : fs4[25]? = some (.ref y6)) (e10 : h1.2.2 y6 = some (.inl (0, n8, .inl f9))) (e11 : 0 ≤ (x1 : Int32).toInt ∧ (x1 : Int32).toInt < (n8 : Nat)) : qE d 189 34 [some (.ref r0), some (.int x1), some (.int x2)] [] h (some (.int (f9 (x1 : Int32).toNatClampNeg)), h1) := by
  refine qe_aload_n c189_34 rfl ?_
  refine qe_virtual (b := r0) (as := []) (r := []) (v := none) (h2 := h1) c189_35 qo189 qK12_466 rfl rfl rfl (by rw [qo174]; exact e2) (Nat.le_of_ble_eq_true rfl) e3 ?_
  refine qe_aload_n c189_38 rfl ?_
  refine qe_getfield c189_39 qo189 qF12_61 e5 e7 ?_
  refine qe_iload_n c189_42 rfl ?_
  refine qe_iaload c189_43 e10 e11 ?_
  exact qe_iret c189_44 qr189
theorem b190_0F {d : Nat} {q : Option Value × qH} {h : qH} {r0 : Nat} {x1 : Int32} {x2 : Int32} {fs1 : List Value} {y3 : Int32}  (e2 : h.2.2 r0 = some (.inr (12, fs1))) (e4 : fs1[46]? = some (.int y3)) (e5 : ¬ ((0 : Int32) ≤ y3)) (kk : qE d 190 8 [some (.ref r0), some (.int x1), some (.int x2)] [.ref r0] h q): qE d 190 0 [some (.ref r0), some (.int x1), some (.int x2)] [] h q := by
  refine qe_aload_n c190_0 rfl ?_
  refine qe_aload_n c190_1 rfl ?_
  refine qe_getfield c190_2 qo190 qF12_296 e2 e4 ?_
  refine qe_if_ge_F (t := 15) c190_5 rfl e5 ?_
  exact kk
theorem b190_0T {d : Nat} {q : Option Value × qH} {h : qH} {r0 : Nat} {x1 : Int32} {x2 : Int32} {fs1 : List Value} {y3 : Int32}  (e2 : h.2.2 r0 = some (.inr (12, fs1))) (e4 : fs1[46]? = some (.int y3)) (e5 : (0 : Int32) ≤ y3) (kk : qE d 190 15 [some (.ref r0), some (.int x1), some (.int x2)] [.ref r0] h q): qE d 190 0 [some (.ref r0), some (.int x1), some (.int x2)] [] h q := by
  refine qe_aload_n c190_0 rfl ?_
  refine qe_aload_n c190_1 rfl ?_
  refine qe_getfield c190_2 qo190 qF12_296 e2 e4 ?_
  refine qe_if_ge_T (t := 15) c190_5 rfl e5 ?_
  exact kk
theorem b190_8 {d : Nat} {q : Option Value × qH} {h : qH} {r0 : Nat} {x1 : Int32} {x2 : Int32} {rs0 : Nat} {fs1 : List Value} {y3 : Int32}  (e2 : h.2.2 r0 = some (.inr (12, fs1))) (e4 : fs1[46]? = some (.int y3)) (kk : qE d 190 22 [some (.ref r0), some (.int x1), some (.int x2)] [.int y3, .ref rs0] h q): qE d 190 8 [some (.ref r0), some (.int x1), some (.int x2)] [.ref rs0] h q := by
  refine qe_aload_n c190_8 rfl ?_
  refine qe_getfield c190_9 qo190 qF12_296 e2 e4 ?_
  refine qe_goto (t := 22) c190_12 rfl ?_
  exact kk
theorem b190_15 {d : Nat} {q : Option Value × qH} {h : qH} {r0 : Nat} {x1 : Int32} {x2 : Int32} {rs0 : Nat}   (kk : qE d 190 22 [some (.ref r0), some (.int x1), some (.int x2)] [.int (((-1000) * x1) - x2), .ref rs0] h q): qE d 190 15 [some (.ref r0), some (.int x1), some (.int x2)] [.ref rs0] h q := by
  refine qe_sipush (x := (-1000)) c190_15 (by decide) ?_
  refine qe_iload_n c190_18 rfl ?_
  refine qe_imul c190_19 ?_
  refine qe_iload_n c190_20 rfl ?_
  refine qe_isub c190_21 ?_
  exact kk
theorem b190_22 {d : Nat} {h : qH} {r0 : Nat} {x1 : Int32} {x2 : Int32} {rs0 : Nat} {xs1 : Int32} {fs1 : List Value} {h1 : qH}  (e2 : h.2.2 rs0 = some (.inr (12, fs1))) (e3 : 46 < fs1.length) (e4 : qset h rs0 (.inr (12, fs1.set 46 (.int xs1))) = h1) : qE d 190 22 [some (.ref r0), some (.int x1), some (.int x2)] [.int xs1, .ref rs0] h (none, h1) := by
  refine qe_putfield c190_22 qo190 qF12_296 qz12_46 e2 e3 (by rw [qy12_46]; rfl) ?_
  rw [e4]
  exact qe_vret c190_25 qr190
