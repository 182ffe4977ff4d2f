/-! What each piece of the code does, from a place to the next. -/
theorem b83_0F {d : Nat} {q : Option Value × qH} {h : qH} {r0 : Nat} {x1 : Int32} {fs1 : List Value} {y3 : Int32}  (e2 : h.2.2 r0 = some (.inr (12, fs1))) (e4 : fs1[5]? = some (.int y3)) (e5 : (y3 : Int32) = 0) (kk : qE d 83 7 [some (.ref r0), some (.int x1), none, none, none, none, none] [] h q): qE d 83 0 [some (.ref r0), some (.int x1), none, none, none, none, none] [] h q := by
  refine qe_aload_n c83_0 rfl ?_
  refine qe_getfield c83_1 qo83 qF12_197 e2 e4 ?_
  refine qe_if_ne_F (t := 11) c83_4 rfl e5 ?_
  exact kk
theorem b83_0T {d : Nat} {q : Option Value × qH} {h : qH} {r0 : Nat} {x1 : Int32} {fs1 : List Value} {y3 : Int32}  (e2 : h.2.2 r0 = some (.inr (12, fs1))) (e4 : fs1[5]? = some (.int y3)) (e5 : ¬ ((y3 : Int32) = 0)) (kk : qE d 83 11 [some (.ref r0), some (.int x1), none, none, none, none, none] [] h q): qE d 83 0 [some (.ref r0), some (.int x1), none, none, none, none, none] [] h q := by
  refine qe_aload_n c83_0 rfl ?_
  refine qe_getfield c83_1 qo83 qF12_197 e2 e4 ?_
  refine qe_if_ne_T (t := 11) c83_4 rfl e5 ?_
  exact kk
theorem b83_7 {d : Nat} {h : qH} {r0 : Nat} {x1 : Int32}   : qE d 83 7 [some (.ref r0), some (.int x1), none, none, none, none, none] [] h (some (.long (-2)), h) := by
  refine qe_ldc2_w (x := (-2)) c83_7 qo83 qJ12_530 ?_
  exact qe_lret c83_10 qr83
theorem b83_11F {d : Nat} {q : Option Value × qH} {h : qH} {r0 : Nat} {x1 : Int32} {fs1 : List Value} {y3 : Int32} {h1 : qH} {z5 : Int32}  (e2 : h.2.2 r0 = some (.inr (12, fs1))) (e4 : fs1[5]? = some (.int y3)) (e6 : qCall d 143 [.long (x1 : Int32).toInt64, .long (-1), .long ((y3 - 1) : Int32).toInt64] h ((some (.int z5)), h1)) (e7 : (z5 : Int32) = 0) (kk : qE d 83 29 [some (.ref r0), some (.int x1), none, none, none, none, none] [] h1 q): qE d 83 11 [some (.ref r0), some (.int x1), none, none, none, none, none] [] h q := by
  refine qe_iload_n c83_11 rfl ?_
  refine qe_i2l c83_12 ?_
  refine qe_ldc2_w (x := (-1)) c83_13 qo83 qJ12_482 ?_
  refine qe_aload_n c83_16 rfl ?_
  refine qe_getfield c83_17 qo83 qF12_197 e2 e4 ?_
  refine qe_iconst (x := 1) c83_20 (by decide) ?_
  refine qe_isub c83_21 ?_
  refine qe_i2l c83_22 ?_
  refine qe_static (as := [.long (x1 : Int32).toInt64, .long (-1), .long ((y3 - 1) : Int32).toInt64]) (r := []) (v := (some (.int z5))) (h2 := h1) c83_23 qo83 (by decide) qK12_190 rfl rfl rfl (Nat.le_of_ble_eq_true rfl) e6 ?_
  refine qe_if_ne_F (t := 33) c83_26 rfl e7 ?_
  exact kk
theorem b83_11T {d : Nat} {q : Option Value × qH} {h : qH} {r0 : Nat} {x1 : Int32} {fs1 : List Value} {y3 : Int32} {h1 : qH} {z5 : Int32}  (e2 : h.2.2 r0 = some (.inr (12, fs1))) (e4 : fs1[5]? = some (.int y3)) (e6 : qCall d 143 [.long (x1 : Int32).toInt64, .long (-1), .long ((y3 - 1) : Int32).toInt64] h ((some (.int z5)), h1)) (e7 : ¬ ((z5 : Int32) = 0)) (kk : qE d 83 33 [some (.ref r0), some (.int x1), none, none, none, none, none] [] h1 q): qE d 83 11 [some (.ref r0), some (.int x1), none, none, none, none, none] [] h q := by
  refine qe_iload_n c83_11 rfl ?_
  refine qe_i2l c83_12 ?_
  refine qe_ldc2_w (x := (-1)) c83_13 qo83 qJ12_482 ?_
  refine qe_aload_n c83_16 rfl ?_
  refine qe_getfield c83_17 qo83 qF12_197 e2 e4 ?_
  refine qe_iconst (x := 1) c83_20 (by decide) ?_
  refine qe_isub c83_21 ?_
  refine qe_i2l c83_22 ?_
  refine qe_static (as := [.long (x1 : Int32).toInt64, .long (-1), .long ((y3 - 1) : Int32).toInt64]) (r := []) (v := (some (.int z5))) (h2 := h1) c83_23 qo83 (by decide) qK12_190 rfl rfl rfl (Nat.le_of_ble_eq_true rfl) e6 ?_
  refine qe_if_ne_T (t := 33) c83_26 rfl e7 ?_
  exact kk
theorem b83_29 {d : Nat} {h : qH} {r0 : Nat} {x1 : Int32}   : qE d 83 29 [some (.ref r0), some (.int x1), none, none, none, none, none] [] h (some (.long (-1)), h) := by
  refine qe_ldc2_w (x := (-1)) c83_29 qo83 qJ12_482 ?_
  exact qe_lret c83_32 qr83
theorem b83_33 {d : Nat} {q : Option Value × qH} {h : qH} {r0 : Nat} {x1 : Int32} {fs1 : List Value} {h1 : qH} {fs4 : List Value} {y6 : Int32} {y8 : Nat} {n10 : Nat} {f11 : Nat → Int64} {h2 : qH}  (e2 : h.2.2 r0 = some (.inr (12, fs1))) (e3 : qCall d 117 [.ref r0, .int 36000, .int 1] h (none, h1)) (e5 : h1.2.2 r0 = some (.inr (12, fs4))) (e7 : fs4[5]? = some (.int y6)) (e9 : fs4[78]? = some (.ref y8)) (e12 : h1.2.2 y8 = some (.inl (2, n10, .inr (.inl f11)))) (e13 : 0 ≤ (((1 <<< (y6 &&& 31)) - 1) : Int32).toInt ∧ (((1 <<< (y6 &&& 31)) - 1) : Int32).toInt < (n10 : Nat)) (e14 : qset h1 y8 (.inl (2, n10, .inr (.inl (vp_updL f11 ((((1 <<< (y6 &&& 31)) - 1) : Int32).toNatClampNeg) 0)))) = h2) (kk : qE d 83 60 [some (.ref r0), some (.int x1), some (.int ((1 <<< (y6 &&& 31)) - 1)), some (.int (((1 <<< (y6 &&& 31)) - 1) - 1)), none, none, none] [] h2 q): qE d 83 33 [some (.ref r0), some (.int x1), none, none, none, none, none] [] h q := by
  refine qe_aload_n c83_33 rfl ?_
  refine qe_ldc (x := 36000) c83_34 qo83 qI12_230 ?_
  refine qe_iconst (x := 1) c83_36 (by decide) ?_
  refine qe_virtual (b := r0) (as := [.int 36000, .int 1]) (r := []) (v := none) (h2 := h1) c83_37 qo83 qK12_263 rfl rfl rfl (by rw [qo117]; exact e2) (Nat.le_of_ble_eq_true rfl) e3 ?_
  refine qe_iconst (x := 1) c83_40 (by decide) ?_
  refine qe_aload_n c83_41 rfl ?_
  refine qe_getfield c83_42 qo83 qF12_197 e5 e7 ?_
  refine qe_ishl c83_45 ?_
  refine qe_iconst (x := 1) c83_46 (by decide) ?_
  refine qe_isub c83_47 ?_
  refine qe_istore_n (ls2 := [some (.ref r0), some (.int x1), some (.int ((1 <<< (y6 &&& 31)) - 1)), none, none, none, none]) c83_48 (Nat.le_of_ble_eq_true rfl) rfl ?_
  refine qe_aload_n c83_49 rfl ?_
  refine qe_getfield c83_50 qo83 qF12_179 e5 e9 ?_
  refine qe_iload_n c83_53 rfl ?_
  refine qe_lconst (x := 0) c83_54 (by decide) ?_
  refine qe_lastore c83_55 e12 e13 ?_
  rw [e14]
  refine qe_iload_n c83_56 rfl ?_
  refine qe_iconst (x := 1) c83_57 (by decide) ?_
  refine qe_isub c83_58 ?_
  refine qe_istore_n (ls2 := [some (.ref r0), some (.int x1), some (.int ((1 <<< (y6 &&& 31)) - 1)), some (.int (((1 <<< (y6 &&& 31)) - 1) - 1)), none, none, none]) c83_59 (Nat.le_of_ble_eq_true rfl) rfl ?_
  exact kk
theorem b83_60F {d : Nat} {q : Option Value × qH} {h : qH} {r0 : Nat} {x1 : Int32} {x2 : Int32} {x3 : Int32} {o4 : Option Value} {o5 : Option Value}  (e1 : ¬ ((x3 : Int32) < 0)) (kk : qE d 83 64 [some (.ref r0), some (.int x1), some (.int x2), some (.int x3), o4, o5, none] [] h q): qE d 83 60 [some (.ref r0), some (.int x1), some (.int x2), some (.int x3), o4, o5, none] [] h q := by
  refine qe_iload_n c83_60 rfl ?_
  refine qe_if_lt_F (t := 156) c83_61 rfl e1 ?_
  exact kk
theorem b83_60T {d : Nat} {q : Option Value × qH} {h : qH} {r0 : Nat} {x1 : Int32} {x2 : Int32} {x3 : Int32} {o4 : Option Value} {o5 : Option Value}  (e1 : (x3 : Int32) < 0) (kk : qE d 83 156 [some (.ref r0), some (.int x1), some (.int x2), some (.int x3), o4, o5, none] [] h q): qE d 83 60 [some (.ref r0), some (.int x1), some (.int x2), some (.int x3), o4, o5, none] [] h q := by
  refine qe_iload_n c83_60 rfl ?_
  refine qe_if_lt_T (t := 156) c83_61 rfl e1 ?_
  exact kk
theorem b83_64 {d : Nat} {q : Option Value × qH} {h : qH} {r0 : Nat} {x1 : Int32} {x2 : Int32} {x3 : Int32} {o4 : Option Value} {o5 : Option Value} {fs1 : List Value} {y3 : Nat} {n5 : Nat} {f6 : Nat → Int64} {h1 : qH}  (e2 : h.2.2 r0 = some (.inr (12, fs1))) (e4 : fs1[78]? = some (.ref y3)) (e7 : h.2.2 y3 = some (.inl (2, n5, .inr (.inl f6)))) (e8 : 0 ≤ (x3 : Int32).toInt ∧ (x3 : Int32).toInt < (n5 : Nat)) (e9 : qset h y3 (.inl (2, n5, .inr (.inl (vp_updL f6 ((x3 : Int32).toNatClampNeg) ((-1)))))) = h1) (kk : qE d 83 76 [some (.ref r0), some (.int x1), some (.int x2), some (.int x3), some (.int 0), o5, none] [] h1 q): qE d 83 64 [some (.ref r0), some (.int x1), some (.int x2), some (.int x3), o4, o5, none] [] h q := by
  refine qe_aload_n c83_64 rfl ?_
  refine qe_getfield c83_65 qo83 qF12_179 e2 e4 ?_
  refine qe_iload_n c83_68 rfl ?_
  refine qe_ldc2_w (x := (-1)) c83_69 qo83 qJ12_482 ?_
  refine qe_lastore c83_72 e7 e8 ?_
  rw [e9]
  refine qe_iconst (x := 0) c83_73 (by decide) ?_
  refine qe_istore (ls2 := [some (.ref r0), some (.int x1), some (.int x2), some (.int x3), some (.int 0), o5, none]) c83_74 (Nat.le_of_ble_eq_true rfl) rfl ?_
  exact kk
theorem b83_76F {d : Nat} {q : Option Value × qH} {h : qH} {r0 : Nat} {x1 : Int32} {x2 : Int32} {x3 : Int32} {x4 : Int32} {o5 : Option Value} {fs1 : List Value} {y3 : Int32}  (e2 : h.2.2 r0 = some (.inr (12, fs1))) (e4 : fs1[5]? = some (.int y3)) (e5 : ¬ ((y3 : Int32) ≤ x4)) (kk : qE d 83 85 [some (.ref r0), some (.int x1), some (.int x2), some (.int x3), some (.int x4), o5, none] [] h q): qE d 83 76 [some (.ref r0), some (.int x1), some (.int x2), some (.int x3), some (.int x4), o5, none] [] h q := by
  refine qe_iload c83_76 rfl ?_
  refine qe_aload_n c83_78 rfl ?_
  refine qe_getfield c83_79 qo83 qF12_197 e2 e4 ?_
  refine qe_icmp_ge_F (t := 150) c83_82 rfl e5 ?_
  exact kk
theorem b83_76T {d : Nat} {q : Option Value × qH} {h : qH} {r0 : Nat} {x1 : Int32} {x2 : Int32} {x3 : Int32} {x4 : Int32} {o5 : Option Value} {fs1 : List Value} {y3 : Int32}  (e2 : h.2.2 r0 = some (.inr (12, fs1))) (e4 : fs1[5]? = some (.int y3)) (e5 : (y3 : Int32) ≤ x4) (kk : qE d 83 150 [some (.ref r0), some (.int x1), some (.int x2), some (.int x3), some (.int x4), o5, none] [] h q): qE d 83 76 [some (.ref r0), some (.int x1), some (.int x2), some (.int x3), some (.int x4), o5, none] [] h q := by
  refine qe_iload c83_76 rfl ?_
  refine qe_aload_n c83_78 rfl ?_
  refine qe_getfield c83_79 qo83 qF12_197 e2 e4 ?_
  refine qe_icmp_ge_T (t := 150) c83_82 rfl e5 ?_
  exact kk
theorem b83_85F {d : Nat} {q : Option Value × qH} {h : qH} {r0 : Nat} {x1 : Int32} {x2 : Int32} {x3 : Int32} {x4 : Int32} {o5 : Option Value} {h1 : qH} {z1 : Int32}  (e2 : qCall d 118 [.int x3, .int x4] h ((some (.int z1)), h1)) (e3 : ¬ ((z1 : Int32) = 0)) (kk : qE d 83 94 [some (.ref r0), some (.int x1), some (.int x2), some (.int x3), some (.int x4), o5, none] [] h1 q): qE d 83 85 [some (.ref r0), some (.int x1), some (.int x2), some (.int x3), some (.int x4), o5, none] [] h q := by
  refine qe_iload_n c83_85 rfl ?_
  refine qe_iload c83_86 rfl ?_
  refine qe_static (as := [.int x3, .int x4]) (r := []) (v := (some (.int z1))) (h2 := h1) c83_88 qo83 (by decide) qK12_248 rfl rfl rfl (Nat.le_of_ble_eq_true rfl) e2 ?_
  refine qe_if_eq_F (t := 97) c83_91 rfl e3 ?_
  exact kk
theorem b83_85T {d : Nat} {q : Option Value × qH} {h : qH} {r0 : Nat} {x1 : Int32} {x2 : Int32} {x3 : Int32} {x4 : Int32} {o5 : Option Value} {h1 : qH} {z1 : Int32}  (e2 : qCall d 118 [.int x3, .int x4] h ((some (.int z1)), h1)) (e3 : (z1 : Int32) = 0) (kk : qE d 83 97 [some (.ref r0), some (.int x1), some (.int x2), some (.int x3), some (.int x4), o5, none] [] h1 q): qE d 83 85 [some (.ref r0), some (.int x1), some (.int x2), some (.int x3), some (.int x4), o5, none] [] h q := by
  refine qe_iload_n c83_85 rfl ?_
  refine qe_iload c83_86 rfl ?_
  refine qe_static (as := [.int x3, .int x4]) (r := []) (v := (some (.int z1))) (h2 := h1) c83_88 qo83 (by decide) qK12_248 rfl rfl rfl (Nat.le_of_ble_eq_true rfl) e2 ?_
  refine qe_if_eq_T (t := 97) c83_91 rfl e3 ?_
  exact kk
theorem b83_94 {d : Nat} {q : Option Value × qH} {h : qH} {r0 : Nat} {x1 : Int32} {x2 : Int32} {x3 : Int32} {x4 : Int32} {o5 : Option Value}   (kk : qE d 83 144 [some (.ref r0), some (.int x1), some (.int x2), some (.int x3), some (.int x4), o5, none] [] h q): qE d 83 94 [some (.ref r0), some (.int x1), some (.int x2), some (.int x3), some (.int x4), o5, none] [] h q := by
  refine qe_goto (t := 144) c83_94 rfl ?_
  exact kk
theorem b83_97F {d : Nat} {q : Option Value × qH} {h : qH} {r0 : Nat} {x1 : Int32} {x2 : Int32} {x3 : Int32} {x4 : Int32} {o5 : Option Value} {fs1 : List Value} {h1 : qH} {z3 : Int64}  (e2 : h.2.2 r0 = some (.inr (12, fs1))) (e4 : qCall d 101 [.ref r0, .int x3, .int x4] h ((some (.long z3)), h1)) (e5 : ¬ (((lg_cmp z3 0) : Int32) < 0)) (kk : qE d 83 113 [some (.ref r0), some (.int x1), some (.int x2), some (.int x3), some (.int x4), some (.long z3), none] [] h1 q): qE d 83 97 [some (.ref r0), some (.int x1), some (.int x2), some (.int x3), some (.int x4), o5, none] [] h q := by
  refine qe_aload_n c83_97 rfl ?_
  refine qe_iload_n c83_98 rfl ?_
  refine qe_iload c83_99 rfl ?_
  refine qe_virtual (b := r0) (as := [.int x3, .int x4]) (r := []) (v := (some (.long z3))) (h2 := h1) c83_101 qo83 qK12_532 rfl rfl rfl (by rw [qo101]; exact e2) (Nat.le_of_ble_eq_true rfl) e4 ?_
  refine qe_lstore (ls2 := [some (.ref r0), some (.int x1), some (.int x2), some (.int x3), some (.int x4), some (.long z3), none]) c83_104 (Nat.le_of_ble_eq_true rfl) rfl ?_
  refine qe_lload c83_106 rfl ?_
  refine qe_lconst (x := 0) c83_108 (by decide) ?_
  refine qe_lcmp c83_109 ?_
  refine qe_if_lt_F (t := 144) c83_110 rfl e5 ?_
  exact kk
theorem b83_97T {d : Nat} {q : Option Value × qH} {h : qH} {r0 : Nat} {x1 : Int32} {x2 : Int32} {x3 : Int32} {x4 : Int32} {o5 : Option Value} {fs1 : List Value} {h1 : qH} {z3 : Int64}  (e2 : h.2.2 r0 = some (.inr (12, fs1))) (e4 : qCall d 101 [.ref r0, .int x3, .int x4] h ((some (.long z3)), h1)) (e5 : ((lg_cmp z3 0) : Int32) < 0) (kk : qE d 83 144 [some (.ref r0), some (.int x1), some (.int x2), some (.int x3), some (.int x4), some (.long z3), none] [] h1 q): qE d 83 97 [some (.ref r0), some (.int x1), some (.int x2), some (.int x3), some (.int x4), o5, none] [] h q := by
  refine qe_aload_n c83_97 rfl ?_
  refine qe_iload_n c83_98 rfl ?_
  refine qe_iload c83_99 rfl ?_
  refine qe_virtual (b := r0) (as := [.int x3, .int x4]) (r := []) (v := (some (.long z3))) (h2 := h1) c83_101 qo83 qK12_532 rfl rfl rfl (by rw [qo101]; exact e2) (Nat.le_of_ble_eq_true rfl) e4 ?_
  refine qe_lstore (ls2 := [some (.ref r0), some (.int x1), some (.int x2), some (.int x3), some (.int x4), some (.long z3), none]) c83_104 (Nat.le_of_ble_eq_true rfl) rfl ?_
  refine qe_lload c83_106 rfl ?_
  refine qe_lconst (x := 0) c83_108 (by decide) ?_
  refine qe_lcmp c83_109 ?_
  refine qe_if_lt_T (t := 144) c83_110 rfl e5 ?_
  exact kk
theorem b83_113F {d : Nat} {q : Option Value × qH} {h : qH} {r0 : Nat} {x1 : Int32} {x2 : Int32} {x3 : Int32} {x4 : Int32} {l5 : Int64} {fs1 : List Value} {y3 : Nat} {n5 : Nat} {f6 : Nat → Int64}  (e2 : h.2.2 r0 = some (.inr (12, fs1))) (e4 : fs1[78]? = some (.ref y3)) (e7 : h.2.2 y3 = some (.inl (2, n5, .inr (.inl f6)))) (e8 : 0 ≤ (x3 : Int32).toInt ∧ (x3 : Int32).toInt < (n5 : Nat)) (e9 : ¬ (((lg_cmp ((f6 (x3 : Int32).toNatClampNeg)) 0) : Int32) < 0)) (kk : qE d 83 124 [some (.ref r0), some (.int x1), some (.int x2), some (.int x3), some (.int x4), some (.long l5), none] [] h q): qE d 83 113 [some (.ref r0), some (.int x1), some (.int x2), some (.int x3), some (.int x4), some (.long l5), none] [] h q := by
  refine qe_aload_n c83_113 rfl ?_
  refine qe_getfield c83_114 qo83 qF12_179 e2 e4 ?_
  refine qe_iload_n c83_117 rfl ?_
  refine qe_laload c83_118 e7 e8 ?_
  refine qe_lconst (x := 0) c83_119 (by decide) ?_
  refine qe_lcmp c83_120 ?_
  refine qe_if_lt_F (t := 136) c83_121 rfl e9 ?_
  exact kk
theorem b83_113T {d : Nat} {q : Option Value × qH} {h : qH} {r0 : Nat} {x1 : Int32} {x2 : Int32} {x3 : Int32} {x4 : Int32} {l5 : Int64} {fs1 : List Value} {y3 : Nat} {n5 : Nat} {f6 : Nat → Int64}  (e2 : h.2.2 r0 = some (.inr (12, fs1))) (e4 : fs1[78]? = some (.ref y3)) (e7 : h.2.2 y3 = some (.inl (2, n5, .inr (.inl f6)))) (e8 : 0 ≤ (x3 : Int32).toInt ∧ (x3 : Int32).toInt < (n5 : Nat)) (e9 : ((lg_cmp ((f6 (x3 : Int32).toNatClampNeg)) 0) : Int32) < 0) (kk : qE d 83 136 [some (.ref r0), some (.int x1), some (.int x2), some (.int x3), some (.int x4), some (.long l5), none] [] h q): qE d 83 113 [some (.ref r0), some (.int x1), some (.int x2), some (.int x3), some (.int x4), some (.long l5), none] [] h q := by
  refine qe_aload_n c83_113 rfl ?_
  refine qe_getfield c83_114 qo83 qF12_179 e2 e4 ?_
  refine qe_iload_n c83_117 rfl ?_
  refine qe_laload c83_118 e7 e8 ?_
  refine qe_lconst (x := 0) c83_119 (by decide) ?_
  refine qe_lcmp c83_120 ?_
  refine qe_if_lt_T (t := 136) c83_121 rfl e9 ?_
  exact kk
theorem b83_124F {d : Nat} {q : Option Value × qH} {h : qH} {r0 : Nat} {x1 : Int32} {x2 : Int32} {x3 : Int32} {x4 : Int32} {l5 : Int64} {fs1 : List Value} {y3 : Nat} {n5 : Nat} {f6 : Nat → Int64}  (e2 : h.2.2 r0 = some (.inr (12, fs1))) (e4 : fs1[78]? = some (.ref y3)) (e7 : h.2.2 y3 = some (.inl (2, n5, .inr (.inl f6)))) (e8 : 0 ≤ (x3 : Int32).toInt ∧ (x3 : Int32).toInt < (n5 : Nat)) (e9 : ¬ ((0 : Int32) ≤ (lg_cmp l5 ((f6 (x3 : Int32).toNatClampNeg))))) (kk : qE d 83 136 [some (.ref r0), some (.int x1), some (.int x2), some (.int x3), some (.int x4), some (.long l5), none] [] h q): qE d 83 124 [some (.ref r0), some (.int x1), some (.int x2), some (.int x3), some (.int x4), some (.long l5), none] [] h q := by
  refine qe_lload c83_124 rfl ?_
  refine qe_aload_n c83_126 rfl ?_
  refine qe_getfield c83_127 qo83 qF12_179 e2 e4 ?_
  refine qe_iload_n c83_130 rfl ?_
  refine qe_laload c83_131 e7 e8 ?_
  refine qe_lcmp c83_132 ?_
  refine qe_if_ge_F (t := 144) c83_133 rfl e9 ?_
  exact kk
theorem b83_124T {d : Nat} {q : Option Value × qH} {h : qH} {r0 : Nat} {x1 : Int32} {x2 : Int32} {x3 : Int32} {x4 : Int32} {l5 : Int64} {fs1 : List Value} {y3 : Nat} {n5 : Nat} {f6 : Nat → Int64}  (e2 : h.2.2 r0 = some (.inr (12, fs1))) (e4 : fs1[78]? = some (.ref y3)) (e7 : h.2.2 y3 = some (.inl (2, n5, .inr (.inl f6)))) (e8 : 0 ≤ (x3 : Int32).toInt ∧ (x3 : Int32).toInt < (n5 : Nat)) (e9 : (0 : Int32) ≤ (lg_cmp l5 ((f6 (x3 : Int32).toNatClampNeg)))) (kk : qE d 83 144 [some (.ref r0), some (.int x1), some (.int x2), some (.int x3), some (.int x4), some (.long l5), none] [] h q): qE d 83 124 [some (.ref r0), some (.int x1), some (.int x2), some (.int x3), some (.int x4), some (.long l5), none] [] h q := by
  refine qe_lload c83_124 rfl ?_
  refine qe_aload_n c83_126 rfl ?_
  refine qe_getfield c83_127 qo83 qF12_179 e2 e4 ?_
  refine qe_iload_n c83_130 rfl ?_
  refine qe_laload c83_131 e7 e8 ?_
  refine qe_lcmp c83_132 ?_
  refine qe_if_ge_T (t := 144) c83_133 rfl e9 ?_
  exact kk
theorem b83_136 {d : Nat} {q : Option Value × qH} {h : qH} {r0 : Nat} {x1 : Int32} {x2 : Int32} {x3 : Int32} {x4 : Int32} {l5 : Int64} {fs1 : List Value} {y3 : Nat} {n5 : Nat} {f6 : Nat → Int64} {h1 : qH}  (e2 : h.2.2 r0 = some (.inr (12, fs1))) (e4 : fs1[78]? = some (.ref y3)) (e7 : h.2.2 y3 = some (.inl (2, n5, .inr (.inl f6)))) (e8 : 0 ≤ (x3 : Int32).toInt ∧ (x3 : Int32).toInt < (n5 : Nat)) (e9 : qset h y3 (.inl (2, n5, .inr (.inl (vp_updL f6 ((x3 : Int32).toNatClampNeg) l5)))) = h1) (kk : qE d 83 144 [some (.ref r0), some (.int x1), some (.int x2), some (.int x3), some (.int x4), some (.long l5), none] [] h1 q): qE d 83 136 [some (.ref r0), some (.int x1), some (.int x2), some (.int x3), some (.int x4), some (.long l5), none] [] h q := by
  refine qe_aload_n c83_136 rfl ?_
  refine qe_getfield c83_137 qo83 qF12_179 e2 e4 ?_
  refine qe_iload_n c83_140 rfl ?_
  refine qe_lload c83_141 rfl ?_
  refine qe_lastore c83_143 e7 e8 ?_
  rw [e9]
  exact kk
theorem b83_144 {d : Nat} {q : Option Value × qH} {h : qH} {r0 : Nat} {x1 : Int32} {x2 : Int32} {x3 : Int32} {x4 : Int32} {o5 : Option Value}   (kk : qE d 83 76 [some (.ref r0), some (.int x1), some (.int x2), some (.int x3), some (.int (x4 + 1)), o5, none] [] h q): qE d 83 144 [some (.ref r0), some (.int x1), some (.int x2), some (.int x3), some (.int x4), o5, none] [] h q := by
  refine qe_iinc (y := (x4 + 1)) (ls2 := [some (.ref r0), some (.int x1), some (.int x2), some (.int x3), some (.int (x4 + 1)), o5, none]) c83_144 rfl (Nat.le_of_ble_eq_true rfl) rfl rfl ?_
  refine qe_goto (t := 76) c83_147 rfl ?_
  exact kk
theorem b83_150 {d : Nat} {q : Option Value × qH} {h : qH} {r0 : Nat} {x1 : Int32} {x2 : Int32} {x3 : Int32} {x4 : Int32} {o5 : Option Value}   (kk : qE d 83 60 [some (.ref r0), some (.int x1), some (.int x2), some (.int (x3 + (-1))), some (.int x4), o5, none] [] h q): qE d 83 150 [some (.ref r0), some (.int x1), some (.int x2), some (.int x3), some (.int x4), o5, none] [] h q := by
  refine qe_iinc (y := (x3 + (-1))) (ls2 := [some (.ref r0), some (.int x1), some (.int x2), some (.int (x3 + (-1))), some (.int x4), o5, none]) c83_150 rfl (Nat.le_of_ble_eq_true rfl) rfl rfl ?_
  refine qe_goto (t := 60) c83_153 rfl ?_
  exact kk
theorem b83_156F {d : Nat} {q : Option Value × qH} {h : qH} {r0 : Nat} {x1 : Int32} {x2 : Int32} {x3 : Int32} {o4 : Option Value} {o5 : Option Value} {fs1 : List Value} {y3 : Nat} {n5 : Nat} {f6 : Nat → Int64}  (e2 : h.2.2 r0 = some (.inr (12, fs1))) (e4 : fs1[78]? = some (.ref y3)) (e7 : h.2.2 y3 = some (.inl (2, n5, .inr (.inl f6)))) (e8 : 0 ≤ (0 : Int32).toInt ∧ (0 : Int32).toInt < (n5 : Nat)) (e9 : ¬ ((0 : Int32) ≤ (lg_cmp ((f6 (0 : Int32).toNatClampNeg)) 0))) (kk : qE d 83 167 [some (.ref r0), some (.int x1), some (.int x2), some (.int x3), o4, o5, none] [] h q): qE d 83 156 [some (.ref r0), some (.int x1), some (.int x2), some (.int x3), o4, o5, none] [] h q := by
  refine qe_aload_n c83_156 rfl ?_
  refine qe_getfield c83_157 qo83 qF12_179 e2 e4 ?_
  refine qe_iconst (x := 0) c83_160 (by decide) ?_
  refine qe_laload c83_161 e7 e8 ?_
  refine qe_lconst (x := 0) c83_162 (by decide) ?_
  refine qe_lcmp c83_163 ?_
  refine qe_if_ge_F (t := 171) c83_164 rfl e9 ?_
  exact kk
theorem b83_156T {d : Nat} {q : Option Value × qH} {h : qH} {r0 : Nat} {x1 : Int32} {x2 : Int32} {x3 : Int32} {o4 : Option Value} {o5 : Option Value} {fs1 : List Value} {y3 : Nat} {n5 : Nat} {f6 : Nat → Int64}  (e2 : h.2.2 r0 = some (.inr (12, fs1))) (e4 : fs1[78]? = some (.ref y3)) (e7 : h.2.2 y3 = some (.inl (2, n5, .inr (.inl f6)))) (e8 : 0 ≤ (0 : Int32).toInt ∧ (0 : Int32).toInt < (n5 : Nat)) (e9 : (0 : Int32) ≤ (lg_cmp ((f6 (0 : Int32).toNatClampNeg)) 0)) (kk : qE d 83 171 [some (.ref r0), some (.int x1), some (.int x2), some (.int x3), o4, o5, none] [] h q): qE d 83 156 [some (.ref r0), some (.int x1), some (.int x2), some (.int x3), o4, o5, none] [] h q := by
  refine qe_aload_n c83_156 rfl ?_
  refine qe_getfield c83_157 qo83 qF12_179 e2 e4 ?_
  refine qe_iconst (x := 0) c83_160 (by decide) ?_
  refine qe_laload c83_161 e7 e8 ?_
  refine qe_lconst (x := 0) c83_162 (by decide) ?_
  refine qe_lcmp c83_163 ?_
  refine qe_if_ge_T (t := 171) c83_164 rfl e9 ?_
  exact kk
theorem b83_167 {d : Nat} {h : qH} {r0 : Nat} {x1 : Int32} {x2 : Int32} {x3 : Int32} {o4 : Option Value} {o5 : Option Value}   : qE d 83 167 [some (.ref r0), some (.int x1), some (.int x2), some (.int x3), o4, o5, none] [] h (some (.long (-2)), h) := by
  refine qe_ldc2_w (x := (-2)) c83_167 qo83 qJ12_530 ?_
  exact qe_lret c83_170 qr83
theorem b83_171F {d : Nat} {q : Option Value × qH} {h : qH} {r0 : Nat} {x1 : Int32} {x2 : Int32} {x3 : Int32} {o4 : Option Value} {o5 : Option Value}  (e1 : (x1 : Int32) = (-1)) (kk : qE d 83 176 [some (.ref r0), some (.int x1), some (.int x2), some (.int x3), o4, o5, none] [] h q): qE d 83 171 [some (.ref r0), some (.int x1), some (.int x2), some (.int x3), o4, o5, none] [] h q := by
  refine qe_iload_n c83_171 rfl ?_
  refine qe_iconst (x := (-1)) c83_172 (by decide) ?_
  refine qe_icmp_ne_F (t := 183) c83_173 rfl e1 ?_
  exact kk
theorem b83_171T {d : Nat} {q : Option Value × qH} {h : qH} {r0 : Nat} {x1 : Int32} {x2 : Int32} {x3 : Int32} {o4 : Option Value} {o5 : Option Value}  (e1 : ¬ ((x1 : Int32) = (-1))) (kk : qE d 83 183 [some (.ref r0), some (.int x1), some (.int x2), some (.int x3), o4, o5, none] [] h q): qE d 83 171 [some (.ref r0), some (.int x1), some (.int x2), some (.int x3), o4, o5, none] [] h q := by
  refine qe_iload_n c83_171 rfl ?_
  refine qe_iconst (x := (-1)) c83_172 (by decide) ?_
  refine qe_icmp_ne_T (t := 183) c83_173 rfl e1 ?_
  exact kk
theorem b83_176 {d : Nat} {h : qH} {r0 : Nat} {x1 : Int32} {x2 : Int32} {x3 : Int32} {o4 : Option Value} {o5 : Option Value} {fs1 : List Value} {y3 : Nat} {n5 : Nat} {f6 : Nat → Int64}  (e2 : h.2.2 r0 = some (.inr (12, fs1))) (e4 : fs1[78]? = some (.ref y3)) (e7 : h.2.2 y3 = some (.inl (2, n5, .inr (.inl f6)))) (e8 : 0 ≤ (0 : Int32).toInt ∧ (0 : Int32).toInt < (n5 : Nat)) : qE d 83 176 [some (.ref r0), some (.int x1), some (.int x2), some (.int x3), o4, o5, none] [] h (some (.long (f6 (0 : Int32).toNatClampNeg)), h) := by
  refine qe_aload_n c83_176 rfl ?_
  refine qe_getfield c83_177 qo83 qF12_179 e2 e4 ?_
  refine qe_iconst (x := 0) c83_180 (by decide) ?_
  refine qe_laload c83_181 e7 e8 ?_
  exact qe_lret c83_182 qr83
theorem b83_183 {d : Nat} {q : Option Value × qH} {h : qH} {r0 : Nat} {x1 : Int32} {x2 : Int32} {x3 : Int32} {o4 : Option Value} {o5 : Option Value}   (kk : qE d 83 191 [some (.ref r0), some (.int x1), some (.int x2), some (.int 0), some (.int (-1)), some (.int 0), none] [] h q): qE d 83 183 [some (.ref r0), some (.int x1), some (.int x2), some (.int x3), o4, o5, none] [] h q := by
  refine qe_iconst (x := 0) c83_183 (by decide) ?_
  refine qe_istore_n (ls2 := [some (.ref r0), some (.int x1), some (.int x2), some (.int 0), o4, o5, none]) c83_184 (Nat.le_of_ble_eq_true rfl) rfl ?_
  refine qe_iconst (x := (-1)) c83_185 (by decide) ?_
  refine qe_istore (ls2 := [some (.ref r0), some (.int x1), some (.int x2), some (.int 0), some (.int (-1)), o5, none]) c83_186 (Nat.le_of_ble_eq_true rfl) rfl ?_
  refine qe_iconst (x := 0) c83_188 (by decide) ?_
  refine qe_istore (ls2 := [some (.ref r0), some (.int x1), some (.int x2), some (.int 0), some (.int (-1)), some (.int 0), none]) c83_189 (Nat.le_of_ble_eq_true rfl) rfl ?_
  exact kk
theorem b83_191F {d : Nat} {q : Option Value × qH} {h : qH} {r0 : Nat} {x1 : Int32} {x2 : Int32} {x3 : Int32} {x4 : Int32} {x5 : Int32}  (e1 : ¬ ((x1 : Int32) < x5)) (kk : qE d 83 197 [some (.ref r0), some (.int x1), some (.int x2), some (.int x3), some (.int x4), some (.int x5), none] [] h q): qE d 83 191 [some (.ref r0), some (.int x1), some (.int x2), some (.int x3), some (.int x4), some (.int x5), none] [] h q := by
  refine qe_iload c83_191 rfl ?_
  refine qe_iload_n c83_193 rfl ?_
  refine qe_icmp_gt_F (t := 245) c83_194 rfl e1 ?_
  exact kk
theorem b83_191T {d : Nat} {q : Option Value × qH} {h : qH} {r0 : Nat} {x1 : Int32} {x2 : Int32} {x3 : Int32} {x4 : Int32} {x5 : Int32}  (e1 : (x1 : Int32) < x5) (kk : qE d 83 245 [some (.ref r0), some (.int x1), some (.int x2), some (.int x3), some (.int x4), some (.int x5), none] [] h q): qE d 83 191 [some (.ref r0), some (.int x1), some (.int x2), some (.int x3), some (.int x4), some (.int x5), none] [] h q := by
  refine qe_iload c83_191 rfl ?_
  refine qe_iload_n c83_193 rfl ?_
  refine qe_icmp_gt_T (t := 245) c83_194 rfl e1 ?_
  exact kk
theorem b83_197 {d : Nat} {q : Option Value × qH} {h : qH} {r0 : Nat} {x1 : Int32} {x2 : Int32} {x3 : Int32} {x4 : Int32} {x5 : Int32}   (kk : qE d 83 200 [some (.ref r0), some (.int x1), some (.int x2), some (.int x3), some (.int 0), some (.int x5), none] [] h q): qE d 83 197 [some (.ref r0), some (.int x1), some (.int x2), some (.int x3), some (.int x4), some (.int x5), none] [] h q := by
  refine qe_iconst (x := 0) c83_197 (by decide) ?_
  refine qe_istore (ls2 := [some (.ref r0), some (.int x1), some (.int x2), some (.int x3), some (.int 0), some (.int x5), none]) c83_198 (Nat.le_of_ble_eq_true rfl) rfl ?_
  exact kk
theorem b83_200F {d : Nat} {q : Option Value × qH} {h : qH} {r0 : Nat} {x1 : Int32} {x2 : Int32} {x3 : Int32} {x4 : Int32} {x5 : Int32} {h1 : qH} {z1 : Int32}  (e2 : qCall d 118 [.int x3, .int x4] h ((some (.int z1)), h1)) (e3 : (z1 : Int32) = 0) (kk : qE d 83 209 [some (.ref r0), some (.int x1), some (.int x2), some (.int x3), some (.int x4), some (.int x5), none] [] h1 q): qE d 83 200 [some (.ref r0), some (.int x1), some (.int x2), some (.int x3), some (.int x4), some (.int x5), none] [] h q := by
  refine qe_iload_n c83_200 rfl ?_
  refine qe_iload c83_201 rfl ?_
  refine qe_static (as := [.int x3, .int x4]) (r := []) (v := (some (.int z1))) (h2 := h1) c83_203 qo83 (by decide) qK12_248 rfl rfl rfl (Nat.le_of_ble_eq_true rfl) e2 ?_
  refine qe_if_ne_F (t := 226) c83_206 rfl e3 ?_
  exact kk
theorem b83_200T {d : Nat} {q : Option Value × qH} {h : qH} {r0 : Nat} {x1 : Int32} {x2 : Int32} {x3 : Int32} {x4 : Int32} {x5 : Int32} {h1 : qH} {z1 : Int32}  (e2 : qCall d 118 [.int x3, .int x4] h ((some (.int z1)), h1)) (e3 : ¬ ((z1 : Int32) = 0)) (kk : qE d 83 226 [some (.ref r0), some (.int x1), some (.int x2), some (.int x3), some (.int x4), some (.int x5), none] [] h1 q): qE d 83 200 [some (.ref r0), some (.int x1), some (.int x2), some (.int x3), some (.int x4), some (.int x5), none] [] h q := by
  refine qe_iload_n c83_200 rfl ?_
  refine qe_iload c83_201 rfl ?_
  refine qe_static (as := [.int x3, .int x4]) (r := []) (v := (some (.int z1))) (h2 := h1) c83_203 qo83 (by decide) qK12_248 rfl rfl rfl (Nat.le_of_ble_eq_true rfl) e2 ?_
  refine qe_if_ne_T (t := 226) c83_206 rfl e3 ?_
  exact kk
theorem b83_209F {d : Nat} {q : Option Value × qH} {h : qH} {r0 : Nat} {x1 : Int32} {x2 : Int32} {x3 : Int32} {x4 : Int32} {x5 : Int32} {fs1 : List Value} {h1 : qH} {z3 : Int64} {fs5 : List Value} {y7 : Nat} {n9 : Nat} {f10 : Nat → Int64}  (e2 : h.2.2 r0 = some (.inr (12, fs1))) (e4 : qCall d 101 [.ref r0, .int x3, .int x4] h ((some (.long z3)), h1)) (e6 : h1.2.2 r0 = some (.inr (12, fs5))) (e8 : fs5[78]? = some (.ref y7)) (e11 : h1.2.2 y7 = some (.inl (2, n9, .inr (.inl f10)))) (e12 : 0 ≤ (x3 : Int32).toInt ∧ (x3 : Int32).toInt < (n9 : Nat)) (e13 : ¬ (((lg_cmp z3 ((f10 (x3 : Int32).toNatClampNeg))) : Int32) = 0)) (kk : qE d 83 226 [some (.ref r0), some (.int x1), some (.int x2), some (.int x3), some (.int x4), some (.int x5), none] [] h1 q): qE d 83 209 [some (.ref r0), some (.int x1), some (.int x2), some (.int x3), some (.int x4), some (.int x5), none] [] h q := by
  refine qe_aload_n c83_209 rfl ?_
  refine qe_iload_n c83_210 rfl ?_
  refine qe_iload c83_211 rfl ?_
  refine qe_virtual (b := r0) (as := [.int x3, .int x4]) (r := []) (v := (some (.long z3))) (h2 := h1) c83_213 qo83 qK12_532 rfl rfl rfl (by rw [qo101]; exact e2) (Nat.le_of_ble_eq_true rfl) e4 ?_
  refine qe_aload_n c83_216 rfl ?_
  refine qe_getfield c83_217 qo83 qF12_179 e6 e8 ?_
  refine qe_iload_n c83_220 rfl ?_
  refine qe_laload c83_221 e11 e12 ?_
  refine qe_lcmp c83_222 ?_
  refine qe_if_eq_F (t := 232) c83_223 rfl e13 ?_
  exact kk
theorem b83_209T {d : Nat} {q : Option Value × qH} {h : qH} {r0 : Nat} {x1 : Int32} {x2 : Int32} {x3 : Int32} {x4 : Int32} {x5 : Int32} {fs1 : List Value} {h1 : qH} {z3 : Int64} {fs5 : List Value} {y7 : Nat} {n9 : Nat} {f10 : Nat → Int64}  (e2 : h.2.2 r0 = some (.inr (12, fs1))) (e4 : qCall d 101 [.ref r0, .int x3, .int x4] h ((some (.long z3)), h1)) (e6 : h1.2.2 r0 = some (.inr (12, fs5))) (e8 : fs5[78]? = some (.ref y7)) (e11 : h1.2.2 y7 = some (.inl (2, n9, .inr (.inl f10)))) (e12 : 0 ≤ (x3 : Int32).toInt ∧ (x3 : Int32).toInt < (n9 : Nat)) (e13 : ((lg_cmp z3 ((f10 (x3 : Int32).toNatClampNeg))) : Int32) = 0) (kk : qE d 83 232 [some (.ref r0), some (.int x1), some (.int x2), some (.int x3), some (.int x4), some (.int x5), none] [] h1 q): qE d 83 209 [some (.ref r0), some (.int x1), some (.int x2), some (.int x3), some (.int x4), some (.int x5), none] [] h q := by
  refine qe_aload_n c83_209 rfl ?_
  refine qe_iload_n c83_210 rfl ?_
  refine qe_iload c83_211 rfl ?_
  refine qe_virtual (b := r0) (as := [.int x3, .int x4]) (r := []) (v := (some (.long z3))) (h2 := h1) c83_213 qo83 qK12_532 rfl rfl rfl (by rw [qo101]; exact e2) (Nat.le_of_ble_eq_true rfl) e4 ?_
  refine qe_aload_n c83_216 rfl ?_
  refine qe_getfield c83_217 qo83 qF12_179 e6 e8 ?_
  refine qe_iload_n c83_220 rfl ?_
  refine qe_laload c83_221 e11 e12 ?_
  refine qe_lcmp c83_222 ?_
  refine qe_if_eq_T (t := 232) c83_223 rfl e13 ?_
  exact kk
theorem b83_226 {d : Nat} {q : Option Value × qH} {h : qH} {r0 : Nat} {x1 : Int32} {x2 : Int32} {x3 : Int32} {x4 : Int32} {x5 : Int32}   (kk : qE d 83 200 [some (.ref r0), some (.int x1), some (.int x2), some (.int x3), some (.int (x4 + 1)), some (.int x5), none] [] h q): qE d 83 226 [some (.ref r0), some (.int x1), some (.int x2), some (.int x3), some (.int x4), some (.int x5), none] [] h q := by
  refine qe_iinc (y := (x4 + 1)) (ls2 := [some (.ref r0), some (.int x1), some (.int x2), some (.int x3), some (.int (x4 + 1)), some (.int x5), none]) c83_226 rfl (Nat.le_of_ble_eq_true rfl) rfl rfl ?_
  refine qe_goto (t := 200) c83_229 rfl ?_
  exact kk
theorem b83_232 {d : Nat} {q : Option Value × qH} {h : qH} {r0 : Nat} {x1 : Int32} {x2 : Int32} {x3 : Int32} {x4 : Int32} {x5 : Int32}   (kk : qE d 83 191 [some (.ref r0), some (.int x1), some (.int x2), some (.int (x3 ||| (1 <<< (x4 &&& 31)))), some (.int x4), some (.int (x5 + 1)), none] [] h q): qE d 83 232 [some (.ref r0), some (.int x1), some (.int x2), some (.int x3), some (.int x4), some (.int x5), none] [] h q := by
  refine qe_iload_n c83_232 rfl ?_
  refine qe_iconst (x := 1) c83_233 (by decide) ?_
  refine qe_iload c83_234 rfl ?_
  refine qe_ishl c83_236 ?_
  refine qe_ior c83_237 ?_
  refine qe_istore_n (ls2 := [some (.ref r0), some (.int x1), some (.int x2), some (.int (x3 ||| (1 <<< (x4 &&& 31)))), some (.int x4), some (.int x5), none]) c83_238 (Nat.le_of_ble_eq_true rfl) rfl ?_
  refine qe_iinc (y := (x5 + 1)) (ls2 := [some (.ref r0), some (.int x1), some (.int x2), some (.int (x3 ||| (1 <<< (x4 &&& 31)))), some (.int x4), some (.int (x5 + 1)), none]) c83_239 rfl (Nat.le_of_ble_eq_true rfl) rfl rfl ?_
  refine qe_goto (t := 191) c83_242 rfl ?_
  exact kk
theorem b83_245 {d : Nat} {h : qH} {r0 : Nat} {x1 : Int32} {x2 : Int32} {x3 : Int32} {x4 : Int32} {x5 : Int32}   : qE d 83 245 [some (.ref r0), some (.int x1), some (.int x2), some (.int x3), some (.int x4), some (.int x5), none] [] h (some (.long (x4 : Int32).toInt64), h) := by
  refine qe_iload c83_245 rfl ?_
  refine qe_i2l c83_247 ?_
  exact qe_lret c83_248 qr83
theorem b84_0F {d : Nat} {q : Option Value × qH} {h : qH} {r0 : Nat} {x1 : Int32} {fs1 : List Value} {y3 : Int32} {h1 : qH} {z5 : Int32}  (e2 : h.2.2 r0 = some (.inr (12, fs1))) (e4 : fs1[2]? = some (.int y3)) (e6 : qCall d 143 [.long (x1 : Int32).toInt64, .long 0, .long ((y3 - 1) : Int32).toInt64] h ((some (.int z5)), h1)) (e7 : ¬ ((z5 : Int32) = 0)) (kk : qE d 84 16 [some (.ref r0), some (.int x1)] [] h1 q): qE d 84 0 [some (.ref r0), some (.int x1)] [] h q := by
  refine qe_iload_n c84_0 rfl ?_
  refine qe_i2l c84_1 ?_
  refine qe_lconst (x := 0) c84_2 (by decide) ?_
  refine qe_aload_n c84_3 rfl ?_
  refine qe_getfield c84_4 qo84 qF12_202 e2 e4 ?_
  refine qe_iconst (x := 1) c84_7 (by decide) ?_
  refine qe_isub c84_8 ?_
  refine qe_i2l c84_9 ?_
  refine qe_static (as := [.long (x1 : Int32).toInt64, .long 0, .long ((y3 - 1) : Int32).toInt64]) (r := []) (v := (some (.int z5))) (h2 := h1) c84_10 qo84 (by decide) qK12_190 rfl rfl rfl (Nat.le_of_ble_eq_true rfl) e6 ?_
  refine qe_if_eq_F (t := 25) c84_13 rfl e7 ?_
  exact kk
theorem b84_0T {d : Nat} {q : Option Value × qH} {h : qH} {r0 : Nat} {x1 : Int32} {fs1 : List Value} {y3 : Int32} {h1 : qH} {z5 : Int32}  (e2 : h.2.2 r0 = some (.inr (12, fs1))) (e4 : fs1[2]? = some (.int y3)) (e6 : qCall d 143 [.long (x1 : Int32).toInt64, .long 0, .long ((y3 - 1) : Int32).toInt64] h ((some (.int z5)), h1)) (e7 : (z5 : Int32) = 0) (kk : qE d 84 25 [some (.ref r0), some (.int x1)] [] h1 q): qE d 84 0 [some (.ref r0), some (.int x1)] [] h q := by
  refine qe_iload_n c84_0 rfl ?_
  refine qe_i2l c84_1 ?_
  refine qe_lconst (x := 0) c84_2 (by decide) ?_
  refine qe_aload_n c84_3 rfl ?_
  refine qe_getfield c84_4 qo84 qF12_202 e2 e4 ?_
  refine qe_iconst (x := 1) c84_7 (by decide) ?_
  refine qe_isub c84_8 ?_
  refine qe_i2l c84_9 ?_
  refine qe_static (as := [.long (x1 : Int32).toInt64, .long 0, .long ((y3 - 1) : Int32).toInt64]) (r := []) (v := (some (.int z5))) (h2 := h1) c84_10 qo84 (by decide) qK12_190 rfl rfl rfl (Nat.le_of_ble_eq_true rfl) e6 ?_
  refine qe_if_eq_T (t := 25) c84_13 rfl e7 ?_
  exact kk
theorem b84_16 {d : Nat} {q : Option Value × qH} {h : qH} {r0 : Nat} {x1 : Int32} {fs1 : List Value} {y3 : Nat} {n5 : Nat} {f6 : Nat → Int32}  (e2 : h.2.2 r0 = some (.inr (12, fs1))) (e4 : fs1[62]? = some (.ref y3)) (e7 : h.2.2 y3 = some (.inl (0, n5, .inl f6))) (e8 : 0 ≤ (x1 : Int32).toInt ∧ (x1 : Int32).toInt < (n5 : Nat)) (kk : qE d 84 26 [some (.ref r0), some (.int x1)] [.int (f6 (x1 : Int32).toNatClampNeg)] h q): qE d 84 16 [some (.ref r0), some (.int x1)] [] h q := by
  refine qe_aload_n c84_16 rfl ?_
  refine qe_getfield c84_17 qo84 qF12_131 e2 e4 ?_
  refine qe_iload_n c84_20 rfl ?_
  refine qe_iaload c84_21 e7 e8 ?_
  refine qe_goto (t := 26) c84_22 rfl ?_
  exact kk
theorem b84_25 {d : Nat} {q : Option Value × qH} {h : qH} {r0 : Nat} {x1 : Int32}   (kk : qE d 84 26 [some (.ref r0), some (.int x1)] [.int (-1)] h q): qE d 84 25 [some (.ref r0), some (.int x1)] [] h q := by
  refine qe_iconst (x := (-1)) c84_25 (by decide) ?_
  exact kk
theorem b84_26 {d : Nat} {h : qH} {r0 : Nat} {x1 : Int32} {xs0 : Int32}   : qE d 84 26 [some (.ref r0), some (.int x1)] [.int xs0] h (some (.int xs0), h) := by
  exact qe_iret c84_26 qr84
theorem b85_0F {d : Nat} {q : Option Value × qH} {h : qH} {r0 : Nat} {x1 : Int32} {x2 : Int32} {fs1 : List Value} {y3 : Int32}  (e2 : h.2.2 r0 = some (.inr (12, fs1))) (e4 : fs1[9]? = some (.int y3)) (e5 : ¬ ((y3 : Int32) = 100)) (kk : qE d 85 9 [some (.ref r0), some (.int x1), some (.int x2)] [] h q): qE d 85 0 [some (.ref r0), some (.int x1), some (.int x2)] [] h q := by
  refine qe_aload_n c85_0 rfl ?_
  refine qe_getfield c85_1 qo85 qF12_510 e2 e4 ?_
  refine qe_bipush (x := 100) c85_4 (by decide) ?_
  refine qe_icmp_eq_F (t := 30) c85_6 rfl e5 ?_
  exact kk
theorem b85_0T {d : Nat} {q : Option Value × qH} {h : qH} {r0 : Nat} {x1 : Int32} {x2 : Int32} {fs1 : List Value} {y3 : Int32}  (e2 : h.2.2 r0 = some (.inr (12, fs1))) (e4 : fs1[9]? = some (.int y3)) (e5 : (y3 : Int32) = 100) (kk : qE d 85 30 [some (.ref r0), some (.int x1), some (.int x2)] [] h q): qE d 85 0 [some (.ref r0), some (.int x1), some (.int x2)] [] h q := by
  refine qe_aload_n c85_0 rfl ?_
  refine qe_getfield c85_1 qo85 qF12_510 e2 e4 ?_
  refine qe_bipush (x := 100) c85_4 (by decide) ?_
  refine qe_icmp_eq_T (t := 30) c85_6 rfl e5 ?_
  exact kk
theorem b85_9F {d : Nat} {q : Option Value × qH} {h : qH} {r0 : Nat} {x1 : Int32} {x2 : Int32} {fs1 : List Value} {h1 : qH} {z3 : Int32}  (e2 : h.2.2 r0 = some (.inr (12, fs1))) (e4 : qCall d 129 [.ref r0, .int x1] h ((some (.int z3)), h1)) (e5 : ¬ ((z3 : Int32) = 0)) (kk : qE d 85 17 [some (.ref r0), some (.int x1), some (.int x2)] [] h1 q): qE d 85 9 [some (.ref r0), some (.int x1), some (.int x2)] [] h q := by
  refine qe_aload_n c85_9 rfl ?_
  refine qe_iload_n c85_10 rfl ?_
  refine qe_virtual (b := r0) (as := [.int x1]) (r := []) (v := (some (.int z3))) (h2 := h1) c85_11 qo85 qK12_513 rfl rfl rfl (by rw [qo129]; exact e2) (Nat.le_of_ble_eq_true rfl) e4 ?_
  refine qe_if_eq_F (t := 30) c85_14 rfl e5 ?_
  exact kk
theorem b85_9T {d : Nat} {q : Option Value × qH} {h : qH} {r0 : Nat} {x1 : Int32} {x2 : Int32} {fs1 : List Value} {h1 : qH} {z3 : Int32}  (e2 : h.2.2 r0 = some (.inr (12, fs1))) (e4 : qCall d 129 [.ref r0, .int x1] h ((some (.int z3)), h1)) (e5 : (z3 : Int32) = 0) (kk : qE d 85 30 [some (.ref r0), some (.int x1), some (.int x2)] [] h1 q): qE d 85 9 [some (.ref r0), some (.int x1), some (.int x2)] [] h q := by
  refine qe_aload_n c85_9 rfl ?_
  refine qe_iload_n c85_10 rfl ?_
  refine qe_virtual (b := r0) (as := [.int x1]) (r := []) (v := (some (.int z3))) (h2 := h1) c85_11 qo85 qK12_513 rfl rfl rfl (by rw [qo129]; exact e2) (Nat.le_of_ble_eq_true rfl) e4 ?_
  refine qe_if_eq_T (t := 30) c85_14 rfl e5 ?_
  exact kk
theorem b85_17F {d : Nat} {q : Option Value × qH} {h : qH} {r0 : Nat} {x1 : Int32} {x2 : Int32} {fs1 : List Value} {h1 : qH} {z3 : Int32}  (e2 : h.2.2 r0 = some (.inr (12, fs1))) (e4 : qCall d 129 [.ref r0, .int x2] h ((some (.int z3)), h1)) (e5 : ¬ ((z3 : Int32) = 0)) (kk : qE d 85 25 [some (.ref r0), some (.int x1), some (.int x2)] [] h1 q): qE d 85 17 [some (.ref r0), some (.int x1), some (.int x2)] [] h q := by
  refine qe_aload_n c85_17 rfl ?_
  refine qe_iload_n c85_18 rfl ?_
  refine qe_virtual (b := r0) (as := [.int x2]) (r := []) (v := (some (.int z3))) (h2 := h1) c85_19 qo85 qK12_513 rfl rfl rfl (by rw [qo129]; exact e2) (Nat.le_of_ble_eq_true rfl) e4 ?_
  refine qe_if_eq_F (t := 30) c85_22 rfl e5 ?_
  exact kk
theorem b85_17T {d : Nat} {q : Option Value × qH} {h : qH} {r0 : Nat} {x1 : Int32} {x2 : Int32} {fs1 : List Value} {h1 : qH} {z3 : Int32}  (e2 : h.2.2 r0 = some (.inr (12, fs1))) (e4 : qCall d 129 [.ref r0, .int x2] h ((some (.int z3)), h1)) (e5 : (z3 : Int32) = 0) (kk : qE d 85 30 [some (.ref r0), some (.int x1), some (.int x2)] [] h1 q): qE d 85 17 [some (.ref r0), some (.int x1), some (.int x2)] [] h q := by
  refine qe_aload_n c85_17 rfl ?_
  refine qe_iload_n c85_18 rfl ?_
  refine qe_virtual (b := r0) (as := [.int x2]) (r := []) (v := (some (.int z3))) (h2 := h1) c85_19 qo85 qK12_513 rfl rfl rfl (by rw [qo129]; exact e2) (Nat.le_of_ble_eq_true rfl) e4 ?_
  refine qe_if_eq_T (t := 30) c85_22 rfl e5 ?_
  exact kk
theorem b85_25F {d : Nat} {q : Option Value × qH} {h : qH} {r0 : Nat} {x1 : Int32} {x2 : Int32}  (e1 : (x1 : Int32) = x2) (kk : qE d 85 30 [some (.ref r0), some (.int x1), some (.int x2)] [] h q): qE d 85 25 [some (.ref r0), some (.int x1), some (.int x2)] [] h q := by
  refine qe_iload_n c85_25 rfl ?_
  refine qe_iload_n c85_26 rfl ?_
  refine qe_icmp_ne_F (t := 32) c85_27 rfl e1 ?_
  exact kk
theorem b85_25T {d : Nat} {q : Option Value × qH} {h : qH} {r0 : Nat} {x1 : Int32} {x2 : Int32}  (e1 : ¬ ((x1 : Int32) = x2)) (kk : qE d 85 32 [some (.ref r0), some (.int x1), some (.int x2)] [] h q): qE d 85 25 [some (.ref r0), some (.int x1), some (.int x2)] [] h q := by
  refine qe_iload_n c85_25 rfl ?_
  refine qe_iload_n c85_26 rfl ?_
  refine qe_icmp_ne_T (t := 32) c85_27 rfl e1 ?_
  exact kk
theorem b85_30 {d : Nat} {h : qH} {r0 : Nat} {x1 : Int32} {x2 : Int32}   : qE d 85 30 [some (.ref r0), some (.int x1), some (.int x2)] [] h (some (.int 0), h) := by
  refine qe_iconst (x := 0) c85_30 (by decide) ?_
  exact qe_zret c85_31 qr85 (by decide)
theorem b85_32 {d : Nat} {h : qH} {r0 : Nat} {x1 : Int32} {x2 : Int32} {fs1 : List Value} {y3 : Nat} {y5 : Int32} {n7 : Nat} {f8 : Nat → Int32} {h1 : qH} {fs12 : List Value} {y14 : Nat} {y16 : Int32} {n18 : Nat} {f19 : Nat → Int32} {h2 : qH} {fs23 : List Value} {y25 : Int32} {h3 : qH}  (e2 : h.2.2 r0 = some (.inr (12, fs1))) (e4 : fs1[75]? = some (.ref y3)) (e6 : fs1[9]? = some (.int y5)) (e9 : h.2.2 y3 = some (.inl (0, n7, .inl f8))) (e10 : 0 ≤ (y5 : Int32).toInt ∧ (y5 : Int32).toInt < (n7 : Nat)) (e11 : qset h y3 (.inl (0, n7, .inl (upd f8 ((y5 : Int32).toNatClampNeg) x1))) = h1) (e13 : h1.2.2 r0 = some (.inr (12, fs12))) (e15 : fs12[76]? = some (.ref y14)) (e17 : fs12[9]? = some (.int y16)) (e20 : h1.2.2 y14 = some (.inl (0, n18, .inl f19))) (e21 : 0 ≤ (y16 : Int32).toInt ∧ (y16 : Int32).toInt < (n18 : Nat)) (e22 : qset h1 y14 (.inl (0, n18, .inl (upd f19 ((y16 : Int32).toNatClampNeg) x2))) = h2) (e24 : h2.2.2 r0 = some (.inr (12, fs23))) (e26 : fs23[9]? = some (.int y25)) (e27 : 9 < fs23.length) (e28 : qset h2 r0 (.inr (12, fs23.set 9 (.int (y25 + 1)))) = h3) : qE d 85 32 [some (.ref r0), some (.int x1), some (.int x2)] [] h (some (.int 1), h3) := by
  refine qe_aload_n c85_32 rfl ?_
  refine qe_getfield c85_33 qo85 qF12_170 e2 e4 ?_
  refine qe_aload_n c85_36 rfl ?_
  refine qe_getfield c85_37 qo85 qF12_510 e2 e6 ?_
  refine qe_iload_n c85_40 rfl ?_
  refine qe_iastore c85_41 e9 e10 ?_
  rw [e11]
  refine qe_aload_n c85_42 rfl ?_
  refine qe_getfield c85_43 qo85 qF12_173 e13 e15 ?_
  refine qe_aload_n c85_46 rfl ?_
  refine qe_getfield c85_47 qo85 qF12_510 e13 e17 ?_
  refine qe_iload_n c85_50 rfl ?_
  refine qe_iastore c85_51 e20 e21 ?_
  rw [e22]
  refine qe_aload_n c85_52 rfl ?_
  refine qe_dup c85_53 rfl ?_
  refine qe_getfield c85_54 qo85 qF12_510 e24 e26 ?_
  refine qe_iconst (x := 1) c85_57 (by decide) ?_
  refine qe_iadd c85_58 ?_
  refine qe_putfield c85_59 qo85 qF12_510 qz12_9 e24 e27 (by rw [qy12_9]; rfl) ?_
  rw [e28]
  refine qe_iconst (x := 1) c85_62 (by decide) ?_
  exact qe_zret c85_63 qr85 (by decide)
theorem b86_0F {d : Nat} {q : Option Value × qH} {h : qH} {r0 : Nat} {x1 : Int32} {x2 : Int32} {x3 : Int32} {fs1 : List Value} {h1 : qH} {z3 : Int32}  (e2 : h.2.2 r0 = some (.inr (12, fs1))) (e4 : qCall d 137 [.ref r0, .int x1] h ((some (.int z3)), h1)) (e5 : ¬ ((z3 : Int32) = 0)) (kk : qE d 86 8 [some (.ref r0), some (.int x1), some (.int x2), some (.int x3)] [] h1 q): qE d 86 0 [some (.ref r0), some (.int x1), some (.int x2), some (.int x3)] [] h q := by
  refine qe_aload_n c86_0 rfl ?_
  refine qe_iload_n c86_1 rfl ?_
  refine qe_virtual (b := r0) (as := [.int x1]) (r := []) (v := (some (.int z3))) (h2 := h1) c86_2 qo86 qK12_231 rfl rfl rfl (by rw [qo137]; exact e2) (Nat.le_of_ble_eq_true rfl) e4 ?_
  refine qe_if_eq_F (t := 20) c86_5 rfl e5 ?_
  exact kk
theorem b86_0T {d : Nat} {q : Option Value × qH} {h : qH} {r0 : Nat} {x1 : Int32} {x2 : Int32} {x3 : Int32} {fs1 : List Value} {h1 : qH} {z3 : Int32}  (e2 : h.2.2 r0 = some (.inr (12, fs1))) (e4 : qCall d 137 [.ref r0, .int x1] h ((some (.int z3)), h1)) (e5 : (z3 : Int32) = 0) (kk : qE d 86 20 [some (.ref r0), some (.int x1), some (.int x2), some (.int x3)] [] h1 q): qE d 86 0 [some (.ref r0), some (.int x1), some (.int x2), some (.int x3)] [] h q := by
  refine qe_aload_n c86_0 rfl ?_
  refine qe_iload_n c86_1 rfl ?_
  refine qe_virtual (b := r0) (as := [.int x1]) (r := []) (v := (some (.int z3))) (h2 := h1) c86_2 qo86 qK12_231 rfl rfl rfl (by rw [qo137]; exact e2) (Nat.le_of_ble_eq_true rfl) e4 ?_
  refine qe_if_eq_T (t := 20) c86_5 rfl e5 ?_
  exact kk
theorem b86_8F {d : Nat} {q : Option Value × qH} {h : qH} {r0 : Nat} {x1 : Int32} {x2 : Int32} {x3 : Int32} {h1 : qH} {z1 : Int32}  (e2 : qCall d 143 [.long (x3 : Int32).toInt64, .long 1, .long 100] h ((some (.int z1)), h1)) (e3 : (z1 : Int32) = 0) (kk : qE d 86 20 [some (.ref r0), some (.int x1), some (.int x2), some (.int x3)] [] h1 q): qE d 86 8 [some (.ref r0), some (.int x1), some (.int x2), some (.int x3)] [] h q := by
  refine qe_iload_n c86_8 rfl ?_
  refine qe_i2l c86_9 ?_
  refine qe_lconst (x := 1) c86_10 (by decide) ?_
  refine qe_ldc2_w (x := 100) c86_11 qo86 qJ12_277 ?_
  refine qe_static (as := [.long (x3 : Int32).toInt64, .long 1, .long 100]) (r := []) (v := (some (.int z1))) (h2 := h1) c86_14 qo86 (by decide) qK12_190 rfl rfl rfl (Nat.le_of_ble_eq_true rfl) e2 ?_
  refine qe_if_ne_F (t := 22) c86_17 rfl e3 ?_
  exact kk
theorem b86_8T {d : Nat} {q : Option Value × qH} {h : qH} {r0 : Nat} {x1 : Int32} {x2 : Int32} {x3 : Int32} {h1 : qH} {z1 : Int32}  (e2 : qCall d 143 [.long (x3 : Int32).toInt64, .long 1, .long 100] h ((some (.int z1)), h1)) (e3 : ¬ ((z1 : Int32) = 0)) (kk : qE d 86 22 [some (.ref r0), some (.int x1), some (.int x2), some (.int x3)] [] h1 q): qE d 86 8 [some (.ref r0), some (.int x1), some (.int x2), some (.int x3)] [] h q := by
  refine qe_iload_n c86_8 rfl ?_
  refine qe_i2l c86_9 ?_
  refine qe_lconst (x := 1) c86_10 (by decide) ?_
  refine qe_ldc2_w (x := 100) c86_11 qo86 qJ12_277 ?_
  refine qe_static (as := [.long (x3 : Int32).toInt64, .long 1, .long 100]) (r := []) (v := (some (.int z1))) (h2 := h1) c86_14 qo86 (by decide) qK12_190 rfl rfl rfl (Nat.le_of_ble_eq_true rfl) e2 ?_
  refine qe_if_ne_T (t := 22) c86_17 rfl e3 ?_
  exact kk
theorem b86_20 {d : Nat} {h : qH} {r0 : Nat} {x1 : Int32} {x2 : Int32} {x3 : Int32}   : qE d 86 20 [some (.ref r0), some (.int x1), some (.int x2), some (.int x3)] [] h (some (.int 0), h) := by
  refine qe_iconst (x := 0) c86_20 (by decide) ?_
  exact qe_zret c86_21 qr86 (by decide)
theorem b86_22 {d : Nat} {h : qH} {r0 : Nat} {x1 : Int32} {x2 : Int32} {x3 : Int32} {fs1 : List Value} {y3 : Nat} {n5 : Nat} {f6 : Nat → Int32} {h1 : qH} {fs11 : List Value} {y13 : Nat} {n15 : Nat} {f16 : Nat → Int32} {h2 : qH}  (e2 : h.2.2 r0 = some (.inr (12, fs1))) (e4 : fs1[22]? = some (.ref y3)) (e7 : h.2.2 y3 = some (.inl (1, n5, .inl f6))) (e8 : 0 ≤ (x1 : Int32).toInt ∧ (x1 : Int32).toInt < (n5 : Nat)) (e9 : (x2 : Int32) = 0 ∨ (x2 : Int32) = 1) (e10 : qset h y3 (.inl (1, n5, .inl (upd f6 ((x1 : Int32).toNatClampNeg) x2))) = h1) (e12 : h1.2.2 r0 = some (.inr (12, fs11))) (e14 : fs11[23]? = some (.ref y13)) (e17 : h1.2.2 y13 = some (.inl (0, n15, .inl f16))) (e18 : 0 ≤ (x1 : Int32).toInt ∧ (x1 : Int32).toInt < (n15 : Nat)) (e19 : qset h1 y13 (.inl (0, n15, .inl (upd f16 ((x1 : Int32).toNatClampNeg) x3))) = h2) : qE d 86 22 [some (.ref r0), some (.int x1), some (.int x2), some (.int x3)] [] h (some (.int 1), h2) := by
  refine qe_aload_n c86_22 rfl ?_
  refine qe_getfield c86_23 qo86 qF12_51 e2 e4 ?_
  refine qe_iload_n c86_26 rfl ?_
  refine qe_iload_n c86_27 rfl ?_
  refine qe_zastore c86_28 e7 e8 e9 ?_
  rw [e10]
  refine qe_aload_n c86_29 rfl ?_
  refine qe_getfield c86_30 qo86 qF12_55 e12 e14 ?_
  refine qe_iload_n c86_33 rfl ?_
  refine qe_iload_n c86_34 rfl ?_
  refine qe_iastore c86_35 e17 e18 ?_
  rw [e19]
  refine qe_iconst (x := 1) c86_36 (by decide) ?_
  exact qe_zret c86_37 qr86 (by decide)
theorem b87_0F {d : Nat} {q : Option Value × qH} {h : qH} {r0 : Nat} {x1 : Int32} {x2 : Int32} {x3 : Int32} {fs1 : List Value} {y3 : Nat} {n6 : Nat} {f7 : Nat → Int32}  (e2 : h.2.2 r0 = some (.inr (12, fs1))) (e4 : fs1[77]? = some (.ref y3)) (e8 : h.2.2 y3 = some (.inl (0, n6, .inl f7))) (e9 : 0 ≤ (((5 * x1) + x2) : Int32).toInt ∧ (((5 * x1) + x2) : Int32).toInt < (n6 : Nat)) (e10 : ¬ (((f7 (((5 * x1) + x2) : Int32).toNatClampNeg) : Int32) ≤ x3)) (kk : qE d 87 23 [some (.ref r0), some (.int x1), some (.int x2), some (.int x3)] [.int ((5 * x1) + x2), .ref y3] h q): qE d 87 0 [some (.ref r0), some (.int x1), some (.int x2), some (.int x3)] [] h q := by
  refine qe_aload_n c87_0 rfl ?_
  refine qe_getfield c87_1 qo87 qF12_176 e2 e4 ?_
  refine qe_iconst (x := 5) c87_4 (by decide) ?_
  refine qe_iload_n c87_5 rfl ?_
  refine qe_imul c87_6 ?_
  refine qe_iload_n c87_7 rfl ?_
  refine qe_iadd c87_8 ?_
  refine qe_iload_n c87_9 rfl ?_
  refine qe_aload_n c87_10 rfl ?_
  refine qe_getfield c87_11 qo87 qF12_176 e2 e4 ?_
  refine qe_iconst (x := 5) c87_14 (by decide) ?_
  refine qe_iload_n c87_15 rfl ?_
  refine qe_imul c87_16 ?_
  refine qe_iload_n c87_17 rfl ?_
  refine qe_iadd c87_18 ?_
  refine qe_iaload c87_19 e8 e9 ?_
  refine qe_icmp_ge_F (t := 27) c87_20 rfl e10 ?_
  exact kk
theorem b87_0T {d : Nat} {q : Option Value × qH} {h : qH} {r0 : Nat} {x1 : Int32} {x2 : Int32} {x3 : Int32} {fs1 : List Value} {y3 : Nat} {n6 : Nat} {f7 : Nat → Int32}  (e2 : h.2.2 r0 = some (.inr (12, fs1))) (e4 : fs1[77]? = some (.ref y3)) (e8 : h.2.2 y3 = some (.inl (0, n6, .inl f7))) (e9 : 0 ≤ (((5 * x1) + x2) : Int32).toInt ∧ (((5 * x1) + x2) : Int32).toInt < (n6 : Nat)) (e10 : ((f7 (((5 * x1) + x2) : Int32).toNatClampNeg) : Int32) ≤ x3) (kk : qE d 87 27 [some (.ref r0), some (.int x1), some (.int x2), some (.int x3)] [.int ((5 * x1) + x2), .ref y3] h q): qE d 87 0 [some (.ref r0), some (.int x1), some (.int x2), some (.int x3)] [] h q := by
  refine qe_aload_n c87_0 rfl ?_
  refine qe_getfield c87_1 qo87 qF12_176 e2 e4 ?_
  refine qe_iconst (x := 5) c87_4 (by decide) ?_
  refine qe_iload_n c87_5 rfl ?_
  refine qe_imul c87_6 ?_
  refine qe_iload_n c87_7 rfl ?_
  refine qe_iadd c87_8 ?_
  refine qe_iload_n c87_9 rfl ?_
  refine qe_aload_n c87_10 rfl ?_
  refine qe_getfield c87_11 qo87 qF12_176 e2 e4 ?_
  refine qe_iconst (x := 5) c87_14 (by decide) ?_
  refine qe_iload_n c87_15 rfl ?_
  refine qe_imul c87_16 ?_
  refine qe_iload_n c87_17 rfl ?_
  refine qe_iadd c87_18 ?_
  refine qe_iaload c87_19 e8 e9 ?_
  refine qe_icmp_ge_T (t := 27) c87_20 rfl e10 ?_
  exact kk
theorem b87_23 {d : Nat} {q : Option Value × qH} {h : qH} {r0 : Nat} {x1 : Int32} {x2 : Int32} {x3 : Int32} {rs0 : Nat} {xs1 : Int32}   (kk : qE d 87 37 [some (.ref r0), some (.int x1), some (.int x2), some (.int x3)] [.int x3, .int xs1, .ref rs0] h q): qE d 87 23 [some (.ref r0), some (.int x1), some (.int x2), some (.int x3)] [.int xs1, .ref rs0] h q := by
  refine qe_iload_n c87_23 rfl ?_
  refine qe_goto (t := 37) c87_24 rfl ?_
  exact kk
theorem b87_27 {d : Nat} {q : Option Value × qH} {h : qH} {r0 : Nat} {x1 : Int32} {x2 : Int32} {x3 : Int32} {rs0 : Nat} {xs1 : Int32} {fs1 : List Value} {y3 : Nat} {n5 : Nat} {f6 : Nat → Int32}  (e2 : h.2.2 r0 = some (.inr (12, fs1))) (e4 : fs1[77]? = some (.ref y3)) (e7 : h.2.2 y3 = some (.inl (0, n5, .inl f6))) (e8 : 0 ≤ (((5 * x1) + x2) : Int32).toInt ∧ (((5 * x1) + x2) : Int32).toInt < (n5 : Nat)) (kk : qE d 87 37 [some (.ref r0), some (.int x1), some (.int x2), some (.int x3)] [.int (f6 (((5 * x1) + x2) : Int32).toNatClampNeg), .int xs1, .ref rs0] h q): qE d 87 27 [some (.ref r0), some (.int x1), some (.int x2), some (.int x3)] [.int xs1, .ref rs0] h q := by
  refine qe_aload_n c87_27 rfl ?_
  refine qe_getfield c87_28 qo87 qF12_176 e2 e4 ?_
  refine qe_iconst (x := 5) c87_31 (by decide) ?_
  refine qe_iload_n c87_32 rfl ?_
  refine qe_imul c87_33 ?_
  refine qe_iload_n c87_34 rfl ?_
  refine qe_iadd c87_35 ?_
  refine qe_iaload c87_36 e7 e8 ?_
  exact kk
theorem b87_37 {d : Nat} {h : qH} {r0 : Nat} {x1 : Int32} {x2 : Int32} {x3 : Int32} {rs0 : Nat} {xs1 : Int32} {xs2 : Int32} {n1 : Nat} {f2 : Nat → Int32} {h1 : qH}  (e3 : h.2.2 rs0 = some (.inl (0, n1, .inl f2))) (e4 : 0 ≤ (xs1 : Int32).toInt ∧ (xs1 : Int32).toInt < (n1 : Nat)) (e5 : qset h rs0 (.inl (0, n1, .inl (upd f2 ((xs1 : Int32).toNatClampNeg) xs2))) = h1) : qE d 87 37 [some (.ref r0), some (.int x1), some (.int x2), some (.int x3)] [.int xs2, .int xs1, .ref rs0] h (none, h1) := by
  refine qe_iastore c87_37 e3 e4 ?_
  rw [e5]
  exact qe_vret c87_38 qr87
theorem b88_0F {d : Nat} {q : Option Value × qH} {h : qH} {r0 : Nat} {x1 : Int32} {x2 : Int32} {fs1 : List Value} {y3 : Nat} {n5 : Nat} {f6 : Nat → Int32}  (e2 : h.2.2 r0 = some (.inr (12, fs1))) (e4 : fs1[22]? = some (.ref y3)) (e7 : h.2.2 y3 = some (.inl (1, n5, .inl f6))) (e8 : 0 ≤ (x1 : Int32).toInt ∧ (x1 : Int32).toInt < (n5 : Nat)) (e9 : ¬ (((f6 (x1 : Int32).toNatClampNeg) : Int32) = 0)) (kk : qE d 88 9 [some (.ref r0), some (.int x1), some (.int x2), none] [] h q): qE d 88 0 [some (.ref r0), some (.int x1), some (.int x2), none] [] h q := by
  refine qe_aload_n c88_0 rfl ?_
  refine qe_getfield c88_1 qo88 qF12_51 e2 e4 ?_
  refine qe_iload_n c88_4 rfl ?_
  refine qe_zaload c88_5 e7 e8 ?_
  refine qe_if_eq_F (t := 11) c88_6 rfl e9 ?_
  exact kk
theorem b88_0T {d : Nat} {q : Option Value × qH} {h : qH} {r0 : Nat} {x1 : Int32} {x2 : Int32} {fs1 : List Value} {y3 : Nat} {n5 : Nat} {f6 : Nat → Int32}  (e2 : h.2.2 r0 = some (.inr (12, fs1))) (e4 : fs1[22]? = some (.ref y3)) (e7 : h.2.2 y3 = some (.inl (1, n5, .inl f6))) (e8 : 0 ≤ (x1 : Int32).toInt ∧ (x1 : Int32).toInt < (n5 : Nat)) (e9 : ((f6 (x1 : Int32).toNatClampNeg) : Int32) = 0) (kk : qE d 88 11 [some (.ref r0), some (.int x1), some (.int x2), none] [] h q): qE d 88 0 [some (.ref r0), some (.int x1), some (.int x2), none] [] h q := by
  refine qe_aload_n c88_0 rfl ?_
  refine qe_getfield c88_1 qo88 qF12_51 e2 e4 ?_
  refine qe_iload_n c88_4 rfl ?_
  refine qe_zaload c88_5 e7 e8 ?_
  refine qe_if_eq_T (t := 11) c88_6 rfl e9 ?_
  exact kk
theorem b88_9 {d : Nat} {h : qH} {r0 : Nat} {x1 : Int32} {x2 : Int32}   : qE d 88 9 [some (.ref r0), some (.int x1), some (.int x2), none] [] h (some (.int 1), h) := by
  refine qe_iconst (x := 1) c88_9 (by decide) ?_
  exact qe_zret c88_10 qr88 (by decide)
theorem b88_11 {d : Nat} {q : Option Value × qH} {h : qH} {r0 : Nat} {x1 : Int32} {x2 : Int32}   (kk : qE d 88 13 [some (.ref r0), some (.int x1), some (.int x2), some (.int 0)] [] h q): qE d 88 11 [some (.ref r0), some (.int x1), some (.int x2), none] [] h q := by
  refine qe_iconst (x := 0) c88_11 (by decide) ?_
  refine qe_istore_n (ls2 := [some (.ref r0), some (.int x1), some (.int x2), some (.int 0)]) c88_12 (Nat.le_of_ble_eq_true rfl) rfl ?_
  exact kk
theorem b88_13F {d : Nat} {q : Option Value × qH} {h : qH} {r0 : Nat} {x1 : Int32} {x2 : Int32} {x3 : Int32} {fs1 : List Value} {y3 : Int32}  (e2 : h.2.2 r0 = some (.inr (12, fs1))) (e4 : fs1[5]? = some (.int y3)) (e5 : ¬ ((y3 : Int32) ≤ x3)) (kk : qE d 88 21 [some (.ref r0), some (.int x1), some (.int x2), some (.int x3)] [] h q): qE d 88 13 [some (.ref r0), some (.int x1), some (.int x2), some (.int x3)] [] h q := by
  refine qe_iload_n c88_13 rfl ?_
  refine qe_aload_n c88_14 rfl ?_
  refine qe_getfield c88_15 qo88 qF12_197 e2 e4 ?_
  refine qe_icmp_ge_F (t := 62) c88_18 rfl e5 ?_
  exact kk
theorem b88_13T {d : Nat} {q : Option Value × qH} {h : qH} {r0 : Nat} {x1 : Int32} {x2 : Int32} {x3 : Int32} {fs1 : List Value} {y3 : Int32}  (e2 : h.2.2 r0 = some (.inr (12, fs1))) (e4 : fs1[5]? = some (.int y3)) (e5 : (y3 : Int32) ≤ x3) (kk : qE d 88 62 [some (.ref r0), some (.int x1), some (.int x2), some (.int x3)] [] h q): qE d 88 13 [some (.ref r0), some (.int x1), some (.int x2), some (.int x3)] [] h q := by
  refine qe_iload_n c88_13 rfl ?_
  refine qe_aload_n c88_14 rfl ?_
  refine qe_getfield c88_15 qo88 qF12_197 e2 e4 ?_
  refine qe_icmp_ge_T (t := 62) c88_18 rfl e5 ?_
  exact kk
theorem b88_21F {d : Nat} {q : Option Value × qH} {h : qH} {r0 : Nat} {x1 : Int32} {x2 : Int32} {x3 : Int32} {h1 : qH} {z1 : Int32}  (e2 : qCall d 118 [.int x2, .int x3] h ((some (.int z1)), h1)) (e3 : ¬ ((z1 : Int32) = 0)) (kk : qE d 88 29 [some (.ref r0), some (.int x1), some (.int x2), some (.int x3)] [] h1 q): qE d 88 21 [some (.ref r0), some (.int x1), some (.int x2), some (.int x3)] [] h q := by
  refine qe_iload_n c88_21 rfl ?_
  refine qe_iload_n c88_22 rfl ?_
  refine qe_static (as := [.int x2, .int x3]) (r := []) (v := (some (.int z1))) (h2 := h1) c88_23 qo88 (by decide) qK12_248 rfl rfl rfl (Nat.le_of_ble_eq_true rfl) e2 ?_
  refine qe_if_eq_F (t := 56) c88_26 rfl e3 ?_
  exact kk
theorem b88_21T {d : Nat} {q : Option Value × qH} {h : qH} {r0 : Nat} {x1 : Int32} {x2 : Int32} {x3 : Int32} {h1 : qH} {z1 : Int32}  (e2 : qCall d 118 [.int x2, .int x3] h ((some (.int z1)), h1)) (e3 : (z1 : Int32) = 0) (kk : qE d 88 56 [some (.ref r0), some (.int x1), some (.int x2), some (.int x3)] [] h1 q): qE d 88 21 [some (.ref r0), some (.int x1), some (.int x2), some (.int x3)] [] h q := by
  refine qe_iload_n c88_21 rfl ?_
  refine qe_iload_n c88_22 rfl ?_
  refine qe_static (as := [.int x2, .int x3]) (r := []) (v := (some (.int z1))) (h2 := h1) c88_23 qo88 (by decide) qK12_248 rfl rfl rfl (Nat.le_of_ble_eq_true rfl) e2 ?_
  refine qe_if_eq_T (t := 56) c88_26 rfl e3 ?_
  exact kk
theorem b88_29F {d : Nat} {q : Option Value × qH} {h : qH} {r0 : Nat} {x1 : Int32} {x2 : Int32} {x3 : Int32} {fs1 : List Value} {y3 : Nat} {y5 : Nat} {n7 : Nat} {f8 : Nat → Int32} {n11 : Nat} {f12 : Nat → Int32}  (e2 : h.2.2 r0 = some (.inr (12, fs1))) (e4 : fs1[24]? = some (.ref y3)) (e6 : fs1[19]? = some (.ref y5)) (e9 : h.2.2 y5 = some (.inl (0, n7, .inl f8))) (e10 : 0 ≤ (x3 : Int32).toInt ∧ (x3 : Int32).toInt < (n7 : Nat)) (e13 : h.2.2 y3 = some (.inl (0, n11, .inl f12))) (e14 : 0 ≤ ((f8 (x3 : Int32).toNatClampNeg) : Int32).toInt ∧ ((f8 (x3 : Int32).toNatClampNeg) : Int32).toInt < (n11 : Nat)) (e17 : 0 ≤ (x1 : Int32).toInt ∧ (x1 : Int32).toInt < (n7 : Nat)) (e18 : 0 ≤ ((f8 (x1 : Int32).toNatClampNeg) : Int32).toInt ∧ ((f8 (x1 : Int32).toNatClampNeg) : Int32).toInt < (n11 : Nat)) (e19 : ((f12 ((f8 (x3 : Int32).toNatClampNeg) : Int32).toNatClampNeg) : Int32) = (f12 ((f8 (x1 : Int32).toNatClampNeg) : Int32).toNatClampNeg)) (kk : qE d 88 54 [some (.ref r0), some (.int x1), some (.int x2), some (.int x3)] [] h q): qE d 88 29 [some (.ref r0), some (.int x1), some (.int x2), some (.int x3)] [] h q := by
  refine qe_aload_n c88_29 rfl ?_
  refine qe_getfield c88_30 qo88 qF12_58 e2 e4 ?_
  refine qe_aload_n c88_33 rfl ?_
  refine qe_getfield c88_34 qo88 qF12_42 e2 e6 ?_
  refine qe_iload_n c88_37 rfl ?_
  refine qe_iaload c88_38 e9 e10 ?_
  refine qe_iaload c88_39 e13 e14 ?_
  refine qe_aload_n c88_40 rfl ?_
  refine qe_getfield c88_41 qo88 qF12_58 e2 e4 ?_
  refine qe_aload_n c88_44 rfl ?_
  refine qe_getfield c88_45 qo88 qF12_42 e2 e6 ?_
  refine qe_iload_n c88_48 rfl ?_
  refine qe_iaload c88_49 e9 e17 ?_
  refine qe_iaload c88_50 e13 e18 ?_
  refine qe_icmp_ne_F (t := 56) c88_51 rfl e19 ?_
  exact kk
theorem b88_29T {d : Nat} {q : Option Value × qH} {h : qH} {r0 : Nat} {x1 : Int32} {x2 : Int32} {x3 : Int32} {fs1 : List Value} {y3 : Nat} {y5 : Nat} {n7 : Nat} {f8 : Nat → Int32} {n11 : Nat} {f12 : Nat → Int32}  (e2 : h.2.2 r0 = some (.inr (12, fs1))) (e4 : fs1[24]? = some (.ref y3)) (e6 : fs1[19]? = some (.ref y5)) (e9 : h.2.2 y5 = some (.inl (0, n7, .inl f8))) (e10 : 0 ≤ (x3 : Int32).toInt ∧ (x3 : Int32).toInt < (n7 : Nat)) (e13 : h.2.2 y3 = some (.inl (0, n11, .inl f12))) (e14 : 0 ≤ ((f8 (x3 : Int32).toNatClampNeg) : Int32).toInt ∧ ((f8 (x3 : Int32).toNatClampNeg) : Int32).toInt < (n11 : Nat)) (e17 : 0 ≤ (x1 : Int32).toInt ∧ (x1 : Int32).toInt < (n7 : Nat)) (e18 : 0 ≤ ((f8 (x1 : Int32).toNatClampNeg) : Int32).toInt ∧ ((f8 (x1 : Int32).toNatClampNeg) : Int32).toInt < (n11 : Nat)) (e19 : ¬ (((f12 ((f8 (x3 : Int32).toNatClampNeg) : Int32).toNatClampNeg) : Int32) = (f12 ((f8 (x1 : Int32).toNatClampNeg) : Int32).toNatClampNeg))) (kk : qE d 88 56 [some (.ref r0), some (.int x1), some (.int x2), some (.int x3)] [] h q): qE d 88 29 [some (.ref r0), some (.int x1), some (.int x2), some (.int x3)] [] h q := by
  refine qe_aload_n c88_29 rfl ?_
  refine qe_getfield c88_30 qo88 qF12_58 e2 e4 ?_
  refine qe_aload_n c88_33 rfl ?_
  refine qe_getfield c88_34 qo88 qF12_42 e2 e6 ?_
  refine qe_iload_n c88_37 rfl ?_
  refine qe_iaload c88_38 e9 e10 ?_
  refine qe_iaload c88_39 e13 e14 ?_
  refine qe_aload_n c88_40 rfl ?_
  refine qe_getfield c88_41 qo88 qF12_58 e2 e4 ?_
  refine qe_aload_n c88_44 rfl ?_
  refine qe_getfield c88_45 qo88 qF12_42 e2 e6 ?_
  refine qe_iload_n c88_48 rfl ?_
  refine qe_iaload c88_49 e9 e17 ?_
  refine qe_iaload c88_50 e13 e18 ?_
  refine qe_icmp_ne_T (t := 56) c88_51 rfl e19 ?_
  exact kk
theorem b88_54 {d : Nat} {h : qH} {r0 : Nat} {x1 : Int32} {x2 : Int32} {x3 : Int32}   : qE d 88 54 [some (.ref r0), some (.int x1), some (.int x2), some (.int x3)] [] h (some (.int 1), h) := by
  refine qe_iconst (x := 1) c88_54 (by decide) ?_
  exact qe_zret c88_55 qr88 (by decide)
theorem b88_56 {d : Nat} {q : Option Value × qH} {h : qH} {r0 : Nat} {x1 : Int32} {x2 : Int32} {x3 : Int32}   (kk : qE d 88 13 [some (.ref r0), some (.int x1), some (.int x2), some (.int (x3 + 1))] [] h q): qE d 88 56 [some (.ref r0), some (.int x1), some (.int x2), some (.int x3)] [] h q := by
  refine qe_iinc (y := (x3 + 1)) (ls2 := [some (.ref r0), some (.int x1), some (.int x2), some (.int (x3 + 1))]) c88_56 rfl (Nat.le_of_ble_eq_true rfl) rfl rfl ?_
  refine qe_goto (t := 13) c88_59 rfl ?_
  exact kk
theorem b88_62 {d : Nat} {h : qH} {r0 : Nat} {x1 : Int32} {x2 : Int32} {x3 : Int32}   : qE d 88 62 [some (.ref r0), some (.int x1), some (.int x2), some (.int x3)] [] h (some (.int 0), h) := by
  refine qe_iconst (x := 0) c88_62 (by decide) ?_
  exact qe_zret c88_63 qr88 (by decide)
theorem b89_0 {d : Nat} {q : Option Value × qH} {h : qH} {r0 : Nat} {fs1 : List Value} {h1 : qH} {fs4 : List Value} {h2 : qH} {fs7 : List Value} {h3 : qH} {fs10 : List Value} {h4 : qH} {z12 : Int32}  (e2 : h.2.2 r0 = some (.inr (12, fs1))) (e3 : qCall d 96 [.ref r0, .int 36000, .int 36072] h (none, h1)) (e5 : h1.2.2 r0 = some (.inr (12, fs4))) (e6 : qCall d 96 [.ref r0, .int 36000, .int 36144] h1 (none, h2)) (e8 : h2.2.2 r0 = some (.inr (12, fs7))) (e9 : qCall d 173 [.ref r0, .int 36144] h2 (none, h3)) (e11 : h3.2.2 r0 = some (.inr (12, fs10))) (e13 : qCall d 164 [.ref r0, .int 36144] h3 ((some (.int z12)), h4)) (kk : qE d 89 37 [some (.ref r0), some (.int z12), some (.int 0), some (.int 0)] [] h4 q): qE d 89 0 [some (.ref r0), none, none, none] [] h q := by
  refine qe_aload_n c89_0 rfl ?_
  refine qe_ldc (x := 36000) c89_1 qo89 qI12_230 ?_
  refine qe_ldc_w (x := 36072) c89_3 qo89 qI12_442 ?_
  refine qe_virtual (b := r0) (as := [.int 36000, .int 36072]) (r := []) (v := none) (h2 := h1) c89_6 qo89 qK12_444 rfl rfl rfl (by rw [qo96]; exact e2) (Nat.le_of_ble_eq_true rfl) e3 ?_
  refine qe_aload_n c89_9 rfl ?_
  refine qe_ldc (x := 36000) c89_10 qo89 qI12_230 ?_
  refine qe_ldc_w (x := 36144) c89_12 qo89 qI12_451 ?_
  refine qe_virtual (b := r0) (as := [.int 36000, .int 36144]) (r := []) (v := none) (h2 := h2) c89_15 qo89 qK12_444 rfl rfl rfl (by rw [qo96]; exact e5) (Nat.le_of_ble_eq_true rfl) e6 ?_
  refine qe_aload_n c89_18 rfl ?_
  refine qe_ldc_w (x := 36144) c89_19 qo89 qI12_451 ?_
  refine qe_virtual (b := r0) (as := [.int 36144]) (r := []) (v := none) (h2 := h3) c89_22 qo89 qK12_429 rfl rfl rfl (by rw [qo173]; exact e8) (Nat.le_of_ble_eq_true rfl) e9 ?_
  refine qe_aload_n c89_25 rfl ?_
  refine qe_ldc_w (x := 36144) c89_26 qo89 qI12_451 ?_
  refine qe_virtual (b := r0) (as := [.int 36144]) (r := []) (v := (some (.int z12))) (h2 := h4) c89_29 qo89 qK12_447 rfl rfl rfl (by rw [qo164]; exact e11) (Nat.le_of_ble_eq_true rfl) e13 ?_
  refine qe_istore_n (ls2 := [some (.ref r0), some (.int z12), none, none]) c89_32 (Nat.le_of_ble_eq_true rfl) rfl ?_
  refine qe_iconst (x := 0) c89_33 (by decide) ?_
  refine qe_istore_n (ls2 := [some (.ref r0), some (.int z12), some (.int 0), none]) c89_34 (Nat.le_of_ble_eq_true rfl) rfl ?_
  refine qe_iconst (x := 0) c89_35 (by decide) ?_
  refine qe_istore_n (ls2 := [some (.ref r0), some (.int z12), some (.int 0), some (.int 0)]) c89_36 (Nat.le_of_ble_eq_true rfl) rfl ?_
  exact kk
theorem b89_37F {d : Nat} {q : Option Value × qH} {h : qH} {r0 : Nat} {x1 : Int32} {x2 : Int32} {x3 : Int32} {fs1 : List Value} {y3 : Int32}  (e2 : h.2.2 r0 = some (.inr (12, fs1))) (e4 : fs1[4]? = some (.int y3)) (e5 : ¬ ((y3 : Int32) ≤ x3)) (kk : qE d 89 45 [some (.ref r0), some (.int x1), some (.int x2), some (.int x3)] [] h q): qE d 89 37 [some (.ref r0), some (.int x1), some (.int x2), some (.int x3)] [] h q := by
  refine qe_iload_n c89_37 rfl ?_
  refine qe_aload_n c89_38 rfl ?_
  refine qe_getfield c89_39 qo89 qF12_194 e2 e4 ?_
  refine qe_icmp_ge_F (t := 78) c89_42 rfl e5 ?_
  exact kk
theorem b89_37T {d : Nat} {q : Option Value × qH} {h : qH} {r0 : Nat} {x1 : Int32} {x2 : Int32} {x3 : Int32} {fs1 : List Value} {y3 : Int32}  (e2 : h.2.2 r0 = some (.inr (12, fs1))) (e4 : fs1[4]? = some (.int y3)) (e5 : (y3 : Int32) ≤ x3) (kk : qE d 89 78 [some (.ref r0), some (.int x1), some (.int x2), some (.int x3)] [] h q): qE d 89 37 [some (.ref r0), some (.int x1), some (.int x2), some (.int x3)] [] h q := by
  refine qe_iload_n c89_37 rfl ?_
  refine qe_aload_n c89_38 rfl ?_
  refine qe_getfield c89_39 qo89 qF12_194 e2 e4 ?_
  refine qe_icmp_ge_T (t := 78) c89_42 rfl e5 ?_
  exact kk
theorem b89_45F {d : Nat} {q : Option Value × qH} {h : qH} {r0 : Nat} {x1 : Int32} {x2 : Int32} {x3 : Int32} {fs1 : List Value} {y3 : Nat} {n5 : Nat} {f6 : Nat → Int32}  (e2 : h.2.2 r0 = some (.inr (12, fs1))) (e4 : fs1[10]? = some (.ref y3)) (e7 : h.2.2 y3 = some (.inl (0, n5, .inl f6))) (e8 : 0 ≤ ((36000 + x3) : Int32).toInt ∧ ((36000 + x3) : Int32).toInt < (n5 : Nat)) (e9 : ((f6 ((36000 + x3) : Int32).toNatClampNeg) : Int32) = 0) (kk : qE d 89 57 [some (.ref r0), some (.int x1), some (.int x2), some (.int x3)] [] h q): qE d 89 45 [some (.ref r0), some (.int x1), some (.int x2), some (.int x3)] [] h q := by
  refine qe_aload_n c89_45 rfl ?_
  refine qe_getfield c89_46 qo89 qF12_14 e2 e4 ?_
  refine qe_ldc (x := 36000) c89_49 qo89 qI12_230 ?_
  refine qe_iload_n c89_51 rfl ?_
  refine qe_iadd c89_52 ?_
  refine qe_iaload c89_53 e7 e8 ?_
  refine qe_if_ne_F (t := 72) c89_54 rfl e9 ?_
  exact kk
theorem b89_45T {d : Nat} {q : Option Value × qH} {h : qH} {r0 : Nat} {x1 : Int32} {x2 : Int32} {x3 : Int32} {fs1 : List Value} {y3 : Nat} {n5 : Nat} {f6 : Nat → Int32}  (e2 : h.2.2 r0 = some (.inr (12, fs1))) (e4 : fs1[10]? = some (.ref y3)) (e7 : h.2.2 y3 = some (.inl (0, n5, .inl f6))) (e8 : 0 ≤ ((36000 + x3) : Int32).toInt ∧ ((36000 + x3) : Int32).toInt < (n5 : Nat)) (e9 : ¬ (((f6 ((36000 + x3) : Int32).toNatClampNeg) : Int32) = 0)) (kk : qE d 89 72 [some (.ref r0), some (.int x1), some (.int x2), some (.int x3)] [] h q): qE d 89 45 [some (.ref r0), some (.int x1), some (.int x2), some (.int x3)] [] h q := by
  refine qe_aload_n c89_45 rfl ?_
  refine qe_getfield c89_46 qo89 qF12_14 e2 e4 ?_
  refine qe_ldc (x := 36000) c89_49 qo89 qI12_230 ?_
  refine qe_iload_n c89_51 rfl ?_
  refine qe_iadd c89_52 ?_
  refine qe_iaload c89_53 e7 e8 ?_
  refine qe_if_ne_T (t := 72) c89_54 rfl e9 ?_
  exact kk
theorem b89_57F {d : Nat} {q : Option Value × qH} {h : qH} {r0 : Nat} {x1 : Int32} {x2 : Int32} {x3 : Int32} {fs1 : List Value} {h1 : qH} {z3 : Int32}  (e2 : h.2.2 r0 = some (.inr (12, fs1))) (e4 : qCall d 134 [.ref r0, .int x3, .int x1] h ((some (.int z3)), h1)) (e5 : ¬ ((z3 : Int32) = 0)) (kk : qE d 89 66 [some (.ref r0), some (.int x1), some (.int x2), some (.int x3)] [] h1 q): qE d 89 57 [some (.ref r0), some (.int x1), some (.int x2), some (.int x3)] [] h q := by
  refine qe_aload_n c89_57 rfl ?_
  refine qe_iload_n c89_58 rfl ?_
  refine qe_iload_n c89_59 rfl ?_
  refine qe_virtual (b := r0) (as := [.int x3, .int x1]) (r := []) (v := (some (.int z3))) (h2 := h1) c89_60 qo89 qK12_452 rfl rfl rfl (by rw [qo134]; exact e2) (Nat.le_of_ble_eq_true rfl) e4 ?_
  refine qe_if_eq_F (t := 72) c89_63 rfl e5 ?_
  exact kk
theorem b89_57T {d : Nat} {q : Option Value × qH} {h : qH} {r0 : Nat} {x1 : Int32} {x2 : Int32} {x3 : Int32} {fs1 : List Value} {h1 : qH} {z3 : Int32}  (e2 : h.2.2 r0 = some (.inr (12, fs1))) (e4 : qCall d 134 [.ref r0, .int x3, .int x1] h ((some (.int z3)), h1)) (e5 : (z3 : Int32) = 0) (kk : qE d 89 72 [some (.ref r0), some (.int x1), some (.int x2), some (.int x3)] [] h1 q): qE d 89 57 [some (.ref r0), some (.int x1), some (.int x2), some (.int x3)] [] h q := by
  refine qe_aload_n c89_57 rfl ?_
  refine qe_iload_n c89_58 rfl ?_
  refine qe_iload_n c89_59 rfl ?_
  refine qe_virtual (b := r0) (as := [.int x3, .int x1]) (r := []) (v := (some (.int z3))) (h2 := h1) c89_60 qo89 qK12_452 rfl rfl rfl (by rw [qo134]; exact e2) (Nat.le_of_ble_eq_true rfl) e4 ?_
  refine qe_if_eq_T (t := 72) c89_63 rfl e5 ?_
  exact kk
theorem b89_66 {d : Nat} {q : Option Value × qH} {h : qH} {r0 : Nat} {x1 : Int32} {x2 : Int32} {x3 : Int32}   (kk : qE d 89 72 [some (.ref r0), some (.int x1), some (.int (x2 ||| (1 <<< (x3 &&& 31)))), some (.int x3)] [] h q): qE d 89 66 [some (.ref r0), some (.int x1), some (.int x2), some (.int x3)] [] h q := by
  refine qe_iload_n c89_66 rfl ?_
  refine qe_iconst (x := 1) c89_67 (by decide) ?_
  refine qe_iload_n c89_68 rfl ?_
  refine qe_ishl c89_69 ?_
  refine qe_ior c89_70 ?_
  refine qe_istore_n (ls2 := [some (.ref r0), some (.int x1), some (.int (x2 ||| (1 <<< (x3 &&& 31)))), some (.int x3)]) c89_71 (Nat.le_of_ble_eq_true rfl) rfl ?_
  exact kk
theorem b89_72 {d : Nat} {q : Option Value × qH} {h : qH} {r0 : Nat} {x1 : Int32} {x2 : Int32} {x3 : Int32}   (kk : qE d 89 37 [some (.ref r0), some (.int x1), some (.int x2), some (.int (x3 + 1))] [] h q): qE d 89 72 [some (.ref r0), some (.int x1), some (.int x2), some (.int x3)] [] h q := by
  refine qe_iinc (y := (x3 + 1)) (ls2 := [some (.ref r0), some (.int x1), some (.int x2), some (.int (x3 + 1))]) c89_72 rfl (Nat.le_of_ble_eq_true rfl) rfl rfl ?_
  refine qe_goto (t := 37) c89_75 rfl ?_
  exact kk
theorem b89_78 {d : Nat} {h : qH} {r0 : Nat} {x1 : Int32} {x2 : Int32} {x3 : Int32}   : qE d 89 78 [some (.ref r0), some (.int x1), some (.int x2), some (.int x3)] [] h (some (.int x2), h) := by
  refine qe_iload_n c89_78 rfl ?_
  exact qe_iret c89_79 qr89
theorem b90_0F {d : Nat} {q : Option Value × qH} {h : qH} {r0 : Nat} {x1 : Int32}  (e1 : ¬ ((x1 : Int32) < 0)) (kk : qE d 90 4 [some (.ref r0), some (.int x1), none] [] h q): qE d 90 0 [some (.ref r0), some (.int x1), none] [] h q := by
  refine qe_iload_n c90_0 rfl ?_
  refine qe_if_lt_F (t := 15) c90_1 rfl e1 ?_
  exact kk
theorem b90_0T {d : Nat} {q : Option Value × qH} {h : qH} {r0 : Nat} {x1 : Int32}  (e1 : (x1 : Int32) < 0) (kk : qE d 90 15 [some (.ref r0), some (.int x1), none] [] h q): qE d 90 0 [some (.ref r0), some (.int x1), none] [] h q := by
  refine qe_iload_n c90_0 rfl ?_
  refine qe_if_lt_T (t := 15) c90_1 rfl e1 ?_
  exact kk
theorem b90_4F {d : Nat} {q : Option Value × qH} {h : qH} {r0 : Nat} {x1 : Int32} {fs1 : List Value} {y3 : Int32}  (e2 : h.2.2 r0 = some (.inr (12, fs1))) (e4 : fs1[1]? = some (.int y3)) (e5 : ¬ (12 : Int32) = 0) (e6 : ¬ ((x1 : Int32) ≤ (y3 / 12))) (kk : qE d 90 15 [some (.ref r0), some (.int x1), none] [] h q): qE d 90 4 [some (.ref r0), some (.int x1), none] [] h q := by
  refine qe_iload_n c90_4 rfl ?_
  refine qe_aload_n c90_5 rfl ?_
  refine qe_getfield c90_6 qo90 qF12_283 e2 e4 ?_
  refine qe_bipush (x := 12) c90_9 (by decide) ?_
  refine qe_idiv c90_11 e5 ?_
  refine qe_icmp_le_F (t := 18) c90_12 rfl e6 ?_
  exact kk
theorem b90_4T {d : Nat} {q : Option Value × qH} {h : qH} {r0 : Nat} {x1 : Int32} {fs1 : List Value} {y3 : Int32}  (e2 : h.2.2 r0 = some (.inr (12, fs1))) (e4 : fs1[1]? = some (.int y3)) (e5 : ¬ (12 : Int32) = 0) (e6 : (x1 : Int32) ≤ (y3 / 12)) (kk : qE d 90 18 [some (.ref r0), some (.int x1), none] [] h q): qE d 90 4 [some (.ref r0), some (.int x1), none] [] h q := by
  refine qe_iload_n c90_4 rfl ?_
  refine qe_aload_n c90_5 rfl ?_
  refine qe_getfield c90_6 qo90 qF12_283 e2 e4 ?_
  refine qe_bipush (x := 12) c90_9 (by decide) ?_
  refine qe_idiv c90_11 e5 ?_
  refine qe_icmp_le_T (t := 18) c90_12 rfl e6 ?_
  exact kk
theorem b90_15 {d : Nat} {h : qH} {r0 : Nat} {x1 : Int32}   : qE d 90 15 [some (.ref r0), some (.int x1), none] [] h (some (.int (-2)), h) := by
  refine qe_bipush (x := (-2)) c90_15 (by decide) ?_
  exact qe_iret c90_17 qr90
theorem b90_18 {d : Nat} {q : Option Value × qH} {h : qH} {r0 : Nat} {x1 : Int32} {fs1 : List Value} {h1 : qH}  (e2 : h.2.2 r0 = some (.inr (12, fs1))) (e3 : 1 < fs1.length) (e4 : qset h r0 (.inr (12, fs1.set 1 (.int 0))) = h1) (kk : qE d 90 25 [some (.ref r0), some (.int x1), some (.int 0)] [] h1 q): qE d 90 18 [some (.ref r0), some (.int x1), none] [] h q := by
  refine qe_aload_n c90_18 rfl ?_
  refine qe_iconst (x := 0) c90_19 (by decide) ?_
  refine qe_putfield c90_20 qo90 qF12_283 qz12_1 e2 e3 (by rw [qy12_1]; rfl) ?_
  rw [e4]
  refine qe_iconst (x := 0) c90_23 (by decide) ?_
  refine qe_istore_n (ls2 := [some (.ref r0), some (.int x1), some (.int 0)]) c90_24 (Nat.le_of_ble_eq_true rfl) rfl ?_
  exact kk
theorem b90_25F {d : Nat} {q : Option Value × qH} {h : qH} {r0 : Nat} {x1 : Int32} {x2 : Int32} {fs1 : List Value} {y3 : Int32}  (e2 : h.2.2 r0 = some (.inr (12, fs1))) (e4 : fs1[4]? = some (.int y3)) (e5 : ¬ ((y3 : Int32) ≤ x2)) (kk : qE d 90 33 [some (.ref r0), some (.int x1), some (.int x2)] [] h q): qE d 90 25 [some (.ref r0), some (.int x1), some (.int x2)] [] h q := by
  refine qe_iload_n c90_25 rfl ?_
  refine qe_aload_n c90_26 rfl ?_
  refine qe_getfield c90_27 qo90 qF12_194 e2 e4 ?_
  refine qe_icmp_ge_F (t := 118) c90_30 rfl e5 ?_
  exact kk
theorem b90_25T {d : Nat} {q : Option Value × qH} {h : qH} {r0 : Nat} {x1 : Int32} {x2 : Int32} {fs1 : List Value} {y3 : Int32}  (e2 : h.2.2 r0 = some (.inr (12, fs1))) (e4 : fs1[4]? = some (.int y3)) (e5 : (y3 : Int32) ≤ x2) (kk : qE d 90 118 [some (.ref r0), some (.int x1), some (.int x2)] [] h q): qE d 90 25 [some (.ref r0), some (.int x1), some (.int x2)] [] h q := by
  refine qe_iload_n c90_25 rfl ?_
  refine qe_aload_n c90_26 rfl ?_
  refine qe_getfield c90_27 qo90 qF12_194 e2 e4 ?_
  refine qe_icmp_ge_T (t := 118) c90_30 rfl e5 ?_
  exact kk
theorem b90_33F {d : Nat} {q : Option Value × qH} {h : qH} {r0 : Nat} {x1 : Int32} {x2 : Int32}  (e1 : (x2 : Int32) = x1) (kk : qE d 90 38 [some (.ref r0), some (.int x1), some (.int x2)] [] h q): qE d 90 33 [some (.ref r0), some (.int x1), some (.int x2)] [] h q := by
  refine qe_iload_n c90_33 rfl ?_
  refine qe_iload_n c90_34 rfl ?_
  refine qe_icmp_ne_F (t := 42) c90_35 rfl e1 ?_
  exact kk
theorem b90_33T {d : Nat} {q : Option Value × qH} {h : qH} {r0 : Nat} {x1 : Int32} {x2 : Int32}  (e1 : ¬ ((x2 : Int32) = x1)) (kk : qE d 90 42 [some (.ref r0), some (.int x1), some (.int x2)] [] h q): qE d 90 33 [some (.ref r0), some (.int x1), some (.int x2)] [] h q := by
  refine qe_iload_n c90_33 rfl ?_
  refine qe_iload_n c90_34 rfl ?_
  refine qe_icmp_ne_T (t := 42) c90_35 rfl e1 ?_
  exact kk
theorem b90_38 {d : Nat} {h : qH} {r0 : Nat} {x1 : Int32} {x2 : Int32}   : qE d 90 38 [some (.ref r0), some (.int x1), some (.int x2)] [] h (some (.int (3 * x1)), h) := by
  refine qe_iconst (x := 3) c90_38 (by decide) ?_
  refine qe_iload_n c90_39 rfl ?_
  refine qe_imul c90_40 ?_
  exact qe_iret c90_41 qr90
theorem b90_42F {d : Nat} {q : Option Value × qH} {h : qH} {r0 : Nat} {x1 : Int32} {x2 : Int32} {fs1 : List Value} {h1 : qH} {z3 : Int32}  (e2 : h.2.2 r0 = some (.inr (12, fs1))) (e4 : qCall d 149 [.ref r0, .int (3 * x2)] h ((some (.int z3)), h1)) (e5 : ¬ ((z3 : Int32) = x2)) (kk : qE d 90 53 [some (.ref r0), some (.int x1), some (.int x2)] [] h1 q): qE d 90 42 [some (.ref r0), some (.int x1), some (.int x2)] [] h q := by
  refine qe_aload_n c90_42 rfl ?_
  refine qe_iconst (x := 3) c90_43 (by decide) ?_
  refine qe_iload_n c90_44 rfl ?_
  refine qe_imul c90_45 ?_
  refine qe_virtual (b := r0) (as := [.int (3 * x2)]) (r := []) (v := (some (.int z3))) (h2 := h1) c90_46 qo90 qK12_541 rfl rfl rfl (by rw [qo149]; exact e2) (Nat.le_of_ble_eq_true rfl) e4 ?_
  refine qe_iload_n c90_49 rfl ?_
  refine qe_icmp_eq_F (t := 57) c90_50 rfl e5 ?_
  exact kk
theorem b90_42T {d : Nat} {q : Option Value × qH} {h : qH} {r0 : Nat} {x1 : Int32} {x2 : Int32} {fs1 : List Value} {h1 : qH} {z3 : Int32}  (e2 : h.2.2 r0 = some (.inr (12, fs1))) (e4 : qCall d 149 [.ref r0, .int (3 * x2)] h ((some (.int z3)), h1)) (e5 : (z3 : Int32) = x2) (kk : qE d 90 57 [some (.ref r0), some (.int x1), some (.int x2)] [] h1 q): qE d 90 42 [some (.ref r0), some (.int x1), some (.int x2)] [] h q := by
  refine qe_aload_n c90_42 rfl ?_
  refine qe_iconst (x := 3) c90_43 (by decide) ?_
  refine qe_iload_n c90_44 rfl ?_
  refine qe_imul c90_45 ?_
  refine qe_virtual (b := r0) (as := [.int (3 * x2)]) (r := []) (v := (some (.int z3))) (h2 := h1) c90_46 qo90 qK12_541 rfl rfl rfl (by rw [qo149]; exact e2) (Nat.le_of_ble_eq_true rfl) e4 ?_
  refine qe_iload_n c90_49 rfl ?_
  refine qe_icmp_eq_T (t := 57) c90_50 rfl e5 ?_
  exact kk
theorem b90_53 {d : Nat} {h : qH} {r0 : Nat} {x1 : Int32} {x2 : Int32}   : qE d 90 53 [some (.ref r0), some (.int x1), some (.int x2)] [] h (some (.int (3 * x2)), h) := by
  refine qe_iconst (x := 3) c90_53 (by decide) ?_
  refine qe_iload_n c90_54 rfl ?_
  refine qe_imul c90_55 ?_
  exact qe_iret c90_56 qr90
theorem b90_57F {d : Nat} {q : Option Value × qH} {h : qH} {r0 : Nat} {x1 : Int32} {x2 : Int32} {fs1 : List Value} {h1 : qH} {z3 : Int32} {fs5 : List Value} {y7 : Nat} {n9 : Nat} {f10 : Nat → Int32}  (e2 : h.2.2 r0 = some (.inr (12, fs1))) (e4 : qCall d 149 [.ref r0, .int ((3 * x2) + 1)] h ((some (.int z3)), h1)) (e6 : h1.2.2 r0 = some (.inr (12, fs5))) (e8 : fs5[10]? = some (.ref y7)) (e11 : h1.2.2 y7 = some (.inl (0, n9, .inl f10))) (e12 : 0 ≤ ((36000 + x2) : Int32).toInt ∧ ((36000 + x2) : Int32).toInt < (n9 : Nat)) (e13 : ¬ ((z3 : Int32) = (f10 ((36000 + x2) : Int32).toNatClampNeg))) (kk : qE d 90 78 [some (.ref r0), some (.int x1), some (.int x2)] [] h1 q): qE d 90 57 [some (.ref r0), some (.int x1), some (.int x2)] [] h q := by
  refine qe_aload_n c90_57 rfl ?_
  refine qe_iconst (x := 3) c90_58 (by decide) ?_
  refine qe_iload_n c90_59 rfl ?_
  refine qe_imul c90_60 ?_
  refine qe_iconst (x := 1) c90_61 (by decide) ?_
  refine qe_iadd c90_62 ?_
  refine qe_virtual (b := r0) (as := [.int ((3 * x2) + 1)]) (r := []) (v := (some (.int z3))) (h2 := h1) c90_63 qo90 qK12_541 rfl rfl rfl (by rw [qo149]; exact e2) (Nat.le_of_ble_eq_true rfl) e4 ?_
  refine qe_aload_n c90_66 rfl ?_
  refine qe_getfield c90_67 qo90 qF12_14 e6 e8 ?_
  refine qe_ldc (x := 36000) c90_70 qo90 qI12_230 ?_
  refine qe_iload_n c90_72 rfl ?_
  refine qe_iadd c90_73 ?_
  refine qe_iaload c90_74 e11 e12 ?_
  refine qe_icmp_eq_F (t := 84) c90_75 rfl e13 ?_
  exact kk
theorem b90_57T {d : Nat} {q : Option Value × qH} {h : qH} {r0 : Nat} {x1 : Int32} {x2 : Int32} {fs1 : List Value} {h1 : qH} {z3 : Int32} {fs5 : List Value} {y7 : Nat} {n9 : Nat} {f10 : Nat → Int32}  (e2 : h.2.2 r0 = some (.inr (12, fs1))) (e4 : qCall d 149 [.ref r0, .int ((3 * x2) + 1)] h ((some (.int z3)), h1)) (e6 : h1.2.2 r0 = some (.inr (12, fs5))) (e8 : fs5[10]? = some (.ref y7)) (e11 : h1.2.2 y7 = some (.inl (0, n9, .inl f10))) (e12 : 0 ≤ ((36000 + x2) : Int32).toInt ∧ ((36000 + x2) : Int32).toInt < (n9 : Nat)) (e13 : (z3 : Int32) = (f10 ((36000 + x2) : Int32).toNatClampNeg)) (kk : qE d 90 84 [some (.ref r0), some (.int x1), some (.int x2)] [] h1 q): qE d 90 57 [some (.ref r0), some (.int x1), some (.int x2)] [] h q := by
  refine qe_aload_n c90_57 rfl ?_
  refine qe_iconst (x := 3) c90_58 (by decide) ?_
  refine qe_iload_n c90_59 rfl ?_
  refine qe_imul c90_60 ?_
  refine qe_iconst (x := 1) c90_61 (by decide) ?_
  refine qe_iadd c90_62 ?_
  refine qe_virtual (b := r0) (as := [.int ((3 * x2) + 1)]) (r := []) (v := (some (.int z3))) (h2 := h1) c90_63 qo90 qK12_541 rfl rfl rfl (by rw [qo149]; exact e2) (Nat.le_of_ble_eq_true rfl) e4 ?_
  refine qe_aload_n c90_66 rfl ?_
  refine qe_getfield c90_67 qo90 qF12_14 e6 e8 ?_
  refine qe_ldc (x := 36000) c90_70 qo90 qI12_230 ?_
  refine qe_iload_n c90_72 rfl ?_
  refine qe_iadd c90_73 ?_
  refine qe_iaload c90_74 e11 e12 ?_
  refine qe_icmp_eq_T (t := 84) c90_75 rfl e13 ?_
  exact kk
theorem b90_78 {d : Nat} {h : qH} {r0 : Nat} {x1 : Int32} {x2 : Int32}   : qE d 90 78 [some (.ref r0), some (.int x1), some (.int x2)] [] h (some (.int ((3 * x2) + 1)), h) := by
  refine qe_iconst (x := 3) c90_78 (by decide) ?_
  refine qe_iload_n c90_79 rfl ?_
  refine qe_imul c90_80 ?_
  refine qe_iconst (x := 1) c90_81 (by decide) ?_
  refine qe_iadd c90_82 ?_
  exact qe_iret c90_83 qr90
theorem b90_84F {d : Nat} {q : Option Value × qH} {h : qH} {r0 : Nat} {x1 : Int32} {x2 : Int32} {fs1 : List Value} {h1 : qH} {z3 : Int32} {fs5 : List Value} {y7 : Nat} {n9 : Nat} {f10 : Nat → Int32}  (e2 : h.2.2 r0 = some (.inr (12, fs1))) (e4 : qCall d 149 [.ref r0, .int ((3 * x2) + 2)] h ((some (.int z3)), h1)) (e6 : h1.2.2 r0 = some (.inr (12, fs5))) (e8 : fs5[10]? = some (.ref y7)) (e11 : h1.2.2 y7 = some (.inl (0, n9, .inl f10))) (e12 : 0 ≤ ((36014 + x2) : Int32).toInt ∧ ((36014 + x2) : Int32).toInt < (n9 : Nat)) (e13 : ¬ ((z3 : Int32) = (f10 ((36014 + x2) : Int32).toNatClampNeg))) (kk : qE d 90 106 [some (.ref r0), some (.int x1), some (.int x2)] [] h1 q): qE d 90 84 [some (.ref r0), some (.int x1), some (.int x2)] [] h q := by
  refine qe_aload_n c90_84 rfl ?_
  refine qe_iconst (x := 3) c90_85 (by decide) ?_
  refine qe_iload_n c90_86 rfl ?_
  refine qe_imul c90_87 ?_
  refine qe_iconst (x := 2) c90_88 (by decide) ?_
  refine qe_iadd c90_89 ?_
  refine qe_virtual (b := r0) (as := [.int ((3 * x2) + 2)]) (r := []) (v := (some (.int z3))) (h2 := h1) c90_90 qo90 qK12_541 rfl rfl rfl (by rw [qo149]; exact e2) (Nat.le_of_ble_eq_true rfl) e4 ?_
  refine qe_aload_n c90_93 rfl ?_
  refine qe_getfield c90_94 qo90 qF12_14 e6 e8 ?_
  refine qe_ldc_w (x := 36014) c90_97 qo90 qI12_469 ?_
  refine qe_iload_n c90_100 rfl ?_
  refine qe_iadd c90_101 ?_
  refine qe_iaload c90_102 e11 e12 ?_
  refine qe_icmp_eq_F (t := 112) c90_103 rfl e13 ?_
  exact kk
theorem b90_84T {d : Nat} {q : Option Value × qH} {h : qH} {r0 : Nat} {x1 : Int32} {x2 : Int32} {fs1 : List Value} {h1 : qH} {z3 : Int32} {fs5 : List Value} {y7 : Nat} {n9 : Nat} {f10 : Nat → Int32}  (e2 : h.2.2 r0 = some (.inr (12, fs1))) (e4 : qCall d 149 [.ref r0, .int ((3 * x2) + 2)] h ((some (.int z3)), h1)) (e6 : h1.2.2 r0 = some (.inr (12, fs5))) (e8 : fs5[10]? = some (.ref y7)) (e11 : h1.2.2 y7 = some (.inl (0, n9, .inl f10))) (e12 : 0 ≤ ((36014 + x2) : Int32).toInt ∧ ((36014 + x2) : Int32).toInt < (n9 : Nat)) (e13 : (z3 : Int32) = (f10 ((36014 + x2) : Int32).toNatClampNeg)) (kk : qE d 90 112 [some (.ref r0), some (.int x1), some (.int x2)] [] h1 q): qE d 90 84 [some (.ref r0), some (.int x1), some (.int x2)] [] h q := by
  refine qe_aload_n c90_84 rfl ?_
  refine qe_iconst (x := 3) c90_85 (by decide) ?_
  refine qe_iload_n c90_86 rfl ?_
  refine qe_imul c90_87 ?_
  refine qe_iconst (x := 2) c90_88 (by decide) ?_
  refine qe_iadd c90_89 ?_
  refine qe_virtual (b := r0) (as := [.int ((3 * x2) + 2)]) (r := []) (v := (some (.int z3))) (h2 := h1) c90_90 qo90 qK12_541 rfl rfl rfl (by rw [qo149]; exact e2) (Nat.le_of_ble_eq_true rfl) e4 ?_
  refine qe_aload_n c90_93 rfl ?_
  refine qe_getfield c90_94 qo90 qF12_14 e6 e8 ?_
  refine qe_ldc_w (x := 36014) c90_97 qo90 qI12_469 ?_
  refine qe_iload_n c90_100 rfl ?_
  refine qe_iadd c90_101 ?_
  refine qe_iaload c90_102 e11 e12 ?_
  refine qe_icmp_eq_T (t := 112) c90_103 rfl e13 ?_
  exact kk
theorem b90_106 {d : Nat} {h : qH} {r0 : Nat} {x1 : Int32} {x2 : Int32}   : qE d 90 106 [some (.ref r0), some (.int x1), some (.int x2)] [] h (some (.int ((3 * x2) + 2)), h) := by
  refine qe_iconst (x := 3) c90_106 (by decide) ?_
  refine qe_iload_n c90_107 rfl ?_
  refine qe_imul c90_108 ?_
  refine qe_iconst (x := 2) c90_109 (by decide) ?_
  refine qe_iadd c90_110 ?_
  exact qe_iret c90_111 qr90
theorem b90_112 {d : Nat} {q : Option Value × qH} {h : qH} {r0 : Nat} {x1 : Int32} {x2 : Int32}   (kk : qE d 90 25 [some (.ref r0), some (.int x1), some (.int (x2 + 1))] [] h q): qE d 90 112 [some (.ref r0), some (.int x1), some (.int x2)] [] h q := by
  refine qe_iinc (y := (x2 + 1)) (ls2 := [some (.ref r0), some (.int x1), some (.int (x2 + 1))]) c90_112 rfl (Nat.le_of_ble_eq_true rfl) rfl rfl ?_
  refine qe_goto (t := 25) c90_115 rfl ?_
  exact kk
theorem b90_118F {d : Nat} {q : Option Value × qH} {h : qH} {r0 : Nat} {x1 : Int32} {x2 : Int32} {fs1 : List Value} {y3 : Int32}  (e2 : h.2.2 r0 = some (.inr (12, fs1))) (e4 : fs1[4]? = some (.int y3)) (e5 : (x1 : Int32) = y3) (kk : qE d 90 126 [some (.ref r0), some (.int x1), some (.int x2)] [] h q): qE d 90 118 [some (.ref r0), some (.int x1), some (.int x2)] [] h q := by
  refine qe_iload_n c90_118 rfl ?_
  refine qe_aload_n c90_119 rfl ?_
  refine qe_getfield c90_120 qo90 qF12_194 e2 e4 ?_
  refine qe_icmp_ne_F (t := 130) c90_123 rfl e5 ?_
  exact kk
theorem b90_118T {d : Nat} {q : Option Value × qH} {h : qH} {r0 : Nat} {x1 : Int32} {x2 : Int32} {fs1 : List Value} {y3 : Int32}  (e2 : h.2.2 r0 = some (.inr (12, fs1))) (e4 : fs1[4]? = some (.int y3)) (e5 : ¬ ((x1 : Int32) = y3)) (kk : qE d 90 130 [some (.ref r0), some (.int x1), some (.int x2)] [] h q): qE d 90 118 [some (.ref r0), some (.int x1), some (.int x2)] [] h q := by
  refine qe_iload_n c90_118 rfl ?_
  refine qe_aload_n c90_119 rfl ?_
  refine qe_getfield c90_120 qo90 qF12_194 e2 e4 ?_
  refine qe_icmp_ne_T (t := 130) c90_123 rfl e5 ?_
  exact kk
theorem b90_126 {d : Nat} {q : Option Value × qH} {h : qH} {r0 : Nat} {x1 : Int32} {x2 : Int32}   (kk : qE d 90 136 [some (.ref r0), some (.int x1), some (.int x2)] [.int (-1)] h q): qE d 90 126 [some (.ref r0), some (.int x1), some (.int x2)] [] h q := by
  refine qe_iconst (x := (-1)) c90_126 (by decide) ?_
  refine qe_goto (t := 136) c90_127 rfl ?_
  exact kk
theorem b90_130 {d : Nat} {q : Option Value × qH} {h : qH} {r0 : Nat} {x1 : Int32} {x2 : Int32} {fs1 : List Value} {y3 : Int32}  (e2 : h.2.2 r0 = some (.inr (12, fs1))) (e4 : fs1[4]? = some (.int y3)) (kk : qE d 90 136 [some (.ref r0), some (.int x1), some (.int x2)] [.int (3 * y3)] h q): qE d 90 130 [some (.ref r0), some (.int x1), some (.int x2)] [] h q := by
  refine qe_iconst (x := 3) c90_130 (by decide) ?_
  refine qe_aload_n c90_131 rfl ?_
  refine qe_getfield c90_132 qo90 qF12_194 e2 e4 ?_
  refine qe_imul c90_135 ?_
  exact kk
theorem b90_136 {d : Nat} {h : qH} {r0 : Nat} {x1 : Int32} {x2 : Int32} {xs0 : Int32}   : qE d 90 136 [some (.ref r0), some (.int x1), some (.int x2)] [.int xs0] h (some (.int xs0), h) := by
  exact qe_iret c90_136 qr90
theorem b91_0F {d : Nat} {q : Option Value × qH} {h : qH} {r0 : Nat} {fs1 : List Value} {h1 : qH} {z3 : Int32}  (e2 : h.2.2 r0 = some (.inr (12, fs1))) (e4 : qCall d 120 [.ref r0] h ((some (.int z3)), h1)) (e5 : ¬ ((z3 : Int32) = 116)) (kk : qE d 91 11 [some (.ref r0), some (.int z3)] [] h1 q): qE d 91 0 [some (.ref r0), none] [] h q := by
  refine qe_aload_n c91_0 rfl ?_
  refine qe_virtual (b := r0) (as := []) (r := []) (v := (some (.int z3))) (h2 := h1) c91_1 qo91 qK12_315 rfl rfl rfl (by rw [qo120]; exact e2) (Nat.le_of_ble_eq_true rfl) e4 ?_
  refine qe_istore_n (ls2 := [some (.ref r0), some (.int z3)]) c91_4 (Nat.le_of_ble_eq_true rfl) rfl ?_
  refine qe_iload_n c91_5 rfl ?_
  refine qe_bipush (x := 116) c91_6 (by decide) ?_
  refine qe_icmp_eq_F (t := 29) c91_8 rfl e5 ?_
  exact kk
theorem b91_0T {d : Nat} {q : Option Value × qH} {h : qH} {r0 : Nat} {fs1 : List Value} {h1 : qH} {z3 : Int32}  (e2 : h.2.2 r0 = some (.inr (12, fs1))) (e4 : qCall d 120 [.ref r0] h ((some (.int z3)), h1)) (e5 : (z3 : Int32) = 116) (kk : qE d 91 29 [some (.ref r0), some (.int z3)] [] h1 q): qE d 91 0 [some (.ref r0), none] [] h q := by
  refine qe_aload_n c91_0 rfl ?_
  refine qe_virtual (b := r0) (as := []) (r := []) (v := (some (.int z3))) (h2 := h1) c91_1 qo91 qK12_315 rfl rfl rfl (by rw [qo120]; exact e2) (Nat.le_of_ble_eq_true rfl) e4 ?_
  refine qe_istore_n (ls2 := [some (.ref r0), some (.int z3)]) c91_4 (Nat.le_of_ble_eq_true rfl) rfl ?_
  refine qe_iload_n c91_5 rfl ?_
  refine qe_bipush (x := 116) c91_6 (by decide) ?_
  refine qe_icmp_eq_T (t := 29) c91_8 rfl e5 ?_
  exact kk
theorem b91_11F {d : Nat} {q : Option Value × qH} {h : qH} {r0 : Nat} {x1 : Int32}  (e1 : ¬ ((x1 : Int32) = 111)) (kk : qE d 91 17 [some (.ref r0), some (.int x1)] [] h q): qE d 91 11 [some (.ref r0), some (.int x1)] [] h q := by
  refine qe_iload_n c91_11 rfl ?_
  refine qe_bipush (x := 111) c91_12 (by decide) ?_
  refine qe_icmp_eq_F (t := 29) c91_14 rfl e1 ?_
  exact kk
theorem b91_11T {d : Nat} {q : Option Value × qH} {h : qH} {r0 : Nat} {x1 : Int32}  (e1 : (x1 : Int32) = 111) (kk : qE d 91 29 [some (.ref r0), some (.int x1)] [] h q): qE d 91 11 [some (.ref r0), some (.int x1)] [] h q := by
  refine qe_iload_n c91_11 rfl ?_
  refine qe_bipush (x := 111) c91_12 (by decide) ?_
  refine qe_icmp_eq_T (t := 29) c91_14 rfl e1 ?_
  exact kk
theorem b91_17 {d : Nat} {q : Option Value × qH} {h : qH} {r0 : Nat} {x1 : Int32} {fs1 : List Value} {y3 : Int32} {h1 : qH}  (e2 : h.2.2 r0 = some (.inr (12, fs1))) (e4 : fs1[44]? = some (.int y3)) (e5 : qCall d 190 [.ref r0, .int 1, .int y3] h (none, h1)) (kk : qE d 91 47 [some (.ref r0), some (.int x1)] [] h1 q): qE d 91 17 [some (.ref r0), some (.int x1)] [] h q := by
  refine qe_aload_n c91_17 rfl ?_
  refine qe_iconst (x := 1) c91_18 (by decide) ?_
  refine qe_aload_n c91_19 rfl ?_
  refine qe_getfield c91_20 qo91 qF12_290 e2 e4 ?_
  refine qe_virtual (b := r0) (as := [.int 1, .int y3]) (r := []) (v := none) (h2 := h1) c91_23 qo91 qK12_312 rfl rfl rfl (by rw [qo190]; exact e2) (Nat.le_of_ble_eq_true rfl) e5 ?_
  refine qe_goto (t := 47) c91_26 rfl ?_
  exact kk
theorem b91_29F {d : Nat} {q : Option Value × qH} {h : qH} {r0 : Nat} {x1 : Int32} {fs1 : List Value} {y3 : Int32}  (e2 : h.2.2 r0 = some (.inr (12, fs1))) (e4 : fs1[47]? = some (.int y3)) (e5 : (y3 : Int32) = 12) (kk : qE d 91 38 [some (.ref r0), some (.int x1)] [] h q): qE d 91 29 [some (.ref r0), some (.int x1)] [] h q := by
  refine qe_aload_n c91_29 rfl ?_
  refine qe_getfield c91_30 qo91 qF12_329 e2 e4 ?_
  refine qe_bipush (x := 12) c91_33 (by decide) ?_
  refine qe_icmp_ne_F (t := 47) c91_35 rfl e5 ?_
  exact kk
theorem b91_29T {d : Nat} {q : Option Value × qH} {h : qH} {r0 : Nat} {x1 : Int32} {fs1 : List Value} {y3 : Int32}  (e2 : h.2.2 r0 = some (.inr (12, fs1))) (e4 : fs1[47]? = some (.int y3)) (e5 : ¬ ((y3 : Int32) = 12)) (kk : qE d 91 47 [some (.ref r0), some (.int x1)] [] h q): qE d 91 29 [some (.ref r0), some (.int x1)] [] h q := by
  refine qe_aload_n c91_29 rfl ?_
  refine qe_getfield c91_30 qo91 qF12_329 e2 e4 ?_
  refine qe_bipush (x := 12) c91_33 (by decide) ?_
  refine qe_icmp_ne_T (t := 47) c91_35 rfl e5 ?_
  exact kk
theorem b91_38 {d : Nat} {q : Option Value × qH} {h : qH} {r0 : Nat} {x1 : Int32} {fs1 : List Value} {y3 : Int32} {h1 : qH}  (e2 : h.2.2 r0 = some (.inr (12, fs1))) (e4 : fs1[44]? = some (.int y3)) (e5 : qCall d 190 [.ref r0, .int 4, .int y3] h (none, h1)) (kk : qE d 91 47 [some (.ref r0), some (.int x1)] [] h1 q): qE d 91 38 [some (.ref r0), some (.int x1)] [] h q := by
  refine qe_aload_n c91_38 rfl ?_
  refine qe_iconst (x := 4) c91_39 (by decide) ?_
  refine qe_aload_n c91_40 rfl ?_
  refine qe_getfield c91_41 qo91 qF12_290 e2 e4 ?_
  refine qe_virtual (b := r0) (as := [.int 4, .int y3]) (r := []) (v := none) (h2 := h1) c91_44 qo91 qK12_312 rfl rfl rfl (by rw [qo190]; exact e2) (Nat.le_of_ble_eq_true rfl) e5 ?_
  exact kk
theorem b91_47F {d : Nat} {q : Option Value × qH} {h : qH} {r0 : Nat} {x1 : Int32} {fs1 : List Value} {h1 : qH} {z3 : Int32}  (e2 : h.2.2 r0 = some (.inr (12, fs1))) (e4 : qCall d 124 [.ref r0] h ((some (.int z3)), h1)) (e5 : (z3 : Int32) = 0) (kk : qE d 91 54 [some (.ref r0), some (.int x1)] [] h1 q): qE d 91 47 [some (.ref r0), some (.int x1)] [] h q := by
  refine qe_aload_n c91_47 rfl ?_
  refine qe_virtual (b := r0) (as := []) (r := []) (v := (some (.int z3))) (h2 := h1) c91_48 qo91 qK12_299 rfl rfl rfl (by rw [qo124]; exact e2) (Nat.le_of_ble_eq_true rfl) e4 ?_
  refine qe_if_ne_F (t := 55) c91_51 rfl e5 ?_
  exact kk
theorem b91_47T {d : Nat} {q : Option Value × qH} {h : qH} {r0 : Nat} {x1 : Int32} {fs1 : List Value} {h1 : qH} {z3 : Int32}  (e2 : h.2.2 r0 = some (.inr (12, fs1))) (e4 : qCall d 124 [.ref r0] h ((some (.int z3)), h1)) (e5 : ¬ ((z3 : Int32) = 0)) (kk : qE d 91 55 [some (.ref r0), some (.int x1)] [] h1 q): qE d 91 47 [some (.ref r0), some (.int x1)] [] h q := by
  refine qe_aload_n c91_47 rfl ?_
  refine qe_virtual (b := r0) (as := []) (r := []) (v := (some (.int z3))) (h2 := h1) c91_48 qo91 qK12_299 rfl rfl rfl (by rw [qo124]; exact e2) (Nat.le_of_ble_eq_true rfl) e4 ?_
  refine qe_if_ne_T (t := 55) c91_51 rfl e5 ?_
  exact kk
theorem b91_54 {d : Nat} {h : qH} {r0 : Nat} {x1 : Int32}   : qE d 91 54 [some (.ref r0), some (.int x1)] [] h (none, h) := by
  exact qe_vret c91_54 qr91
theorem b91_55 {d : Nat} {h : qH} {r0 : Nat} {x1 : Int32} {fs1 : List Value} {y3 : Nat} {y5 : Int32} {n7 : Nat} {f8 : Nat → Int32} {h1 : qH} {fs12 : List Value} {y14 : Nat} {y16 : Int32} {y18 : Int32} {n20 : Nat} {f21 : Nat → Int32} {h2 : qH} {fs25 : List Value} {y27 : Int32} {h3 : qH} {fs31 : List Value} {h4 : qH} {fs34 : List Value} {y36 : Nat} {y38 : Int32} {y40 : Int32} {n42 : Nat} {f43 : Nat → Int32} {h5 : qH} {fs47 : List Value} {y49 : Int32} {h6 : qH}  (e2 : h.2.2 r0 = some (.inr (12, fs1))) (e4 : fs1[39]? = some (.ref y3)) (e6 : fs1[47]? = some (.int y5)) (e9 : h.2.2 y3 = some (.inl (0, n7, .inl f8))) (e10 : 0 ≤ (y5 : Int32).toInt ∧ (y5 : Int32).toInt < (n7 : Nat)) (e11 : qset h y3 (.inl (0, n7, .inl (upd f8 ((y5 : Int32).toNatClampNeg) x1))) = h1) (e13 : h1.2.2 r0 = some (.inr (12, fs12))) (e15 : fs12[40]? = some (.ref y14)) (e17 : fs12[47]? = some (.int y16)) (e19 : fs12[48]? = some (.int y18)) (e22 : h1.2.2 y14 = some (.inl (0, n20, .inl f21))) (e23 : 0 ≤ (y16 : Int32).toInt ∧ (y16 : Int32).toInt < (n20 : Nat)) (e24 : qset h1 y14 (.inl (0, n20, .inl (upd f21 ((y16 : Int32).toNatClampNeg) y18))) = h2) (e26 : h2.2.2 r0 = some (.inr (12, fs25))) (e28 : fs25[44]? = some (.int y27)) (e29 : 44 < fs25.length) (e30 : qset h2 r0 (.inr (12, fs25.set 44 (.int (y27 + 1)))) = h3) (e32 : h3.2.2 r0 = some (.inr (12, fs31))) (e33 : qCall d 94 [.ref r0] h3 (none, h4)) (e35 : h4.2.2 r0 = some (.inr (12, fs34))) (e37 : fs34[41]? = some (.ref y36)) (e39 : fs34[47]? = some (.int y38)) (e41 : fs34[48]? = some (.int y40)) (e44 : h4.2.2 y36 = some (.inl (0, n42, .inl f43))) (e45 : 0 ≤ (y38 : Int32).toInt ∧ (y38 : Int32).toInt < (n42 : Nat)) (e46 : qset h4 y36 (.inl (0, n42, .inl (upd f43 ((y38 : Int32).toNatClampNeg) y40))) = h5) (e48 : h5.2.2 r0 = some (.inr (12, fs47))) (e50 : fs47[47]? = some (.int y49)) (e51 : 47 < fs47.length) (e52 : qset h5 r0 (.inr (12, fs47.set 47 (.int (y49 + 1)))) = h6) : qE d 91 55 [some (.ref r0), some (.int x1)] [] h (none, h6) := by
  refine qe_aload_n c91_55 rfl ?_
  refine qe_getfield c91_56 qo91 qF12_101 e2 e4 ?_
  refine qe_aload_n c91_59 rfl ?_
  refine qe_getfield c91_60 qo91 qF12_329 e2 e6 ?_
  refine qe_iload_n c91_63 rfl ?_
  refine qe_iastore c91_64 e9 e10 ?_
  rw [e11]
  refine qe_aload_n c91_65 rfl ?_
  refine qe_getfield c91_66 qo91 qF12_104 e13 e15 ?_
  refine qe_aload_n c91_69 rfl ?_
  refine qe_getfield c91_70 qo91 qF12_329 e13 e17 ?_
  refine qe_aload_n c91_73 rfl ?_
  refine qe_getfield c91_74 qo91 qF12_303 e13 e19 ?_
  refine qe_iastore c91_77 e22 e23 ?_
  rw [e24]
  refine qe_aload_n c91_78 rfl ?_
  refine qe_dup c91_79 rfl ?_
  refine qe_getfield c91_80 qo91 qF12_290 e26 e28 ?_
  refine qe_iconst (x := 1) c91_83 (by decide) ?_
  refine qe_iadd c91_84 ?_
  refine qe_putfield c91_85 qo91 qF12_290 qz12_44 e26 e29 (by rw [qy12_44]; rfl) ?_
  rw [e30]
  refine qe_aload_n c91_88 rfl ?_
  refine qe_virtual (b := r0) (as := []) (r := []) (v := none) (h2 := h4) c91_89 qo91 qK12_385 rfl rfl rfl (by rw [qo94]; exact e32) (Nat.le_of_ble_eq_true rfl) e33 ?_
  refine qe_aload_n c91_92 rfl ?_
  refine qe_getfield c91_93 qo91 qF12_107 e35 e37 ?_
  refine qe_aload_n c91_96 rfl ?_
  refine qe_getfield c91_97 qo91 qF12_329 e35 e39 ?_
  refine qe_aload_n c91_100 rfl ?_
  refine qe_getfield c91_101 qo91 qF12_303 e35 e41 ?_
  refine qe_iastore c91_104 e44 e45 ?_
  rw [e46]
  refine qe_aload_n c91_105 rfl ?_
  refine qe_dup c91_106 rfl ?_
  refine qe_getfield c91_107 qo91 qF12_329 e48 e50 ?_
  refine qe_iconst (x := 1) c91_110 (by decide) ?_
  refine qe_iadd c91_111 ?_
  refine qe_putfield c91_112 qo91 qF12_329 qz12_47 e48 e51 (by rw [qy12_47]; rfl) ?_
  rw [e52]
  exact qe_vret c91_115 qr91
theorem b92_0F {d : Nat} {q : Option Value × qH} {h : qH} {r0 : Nat} {x1 : Int32} {x2 : Int32} {x3 : Int32} {h1 : qH} {z1 : Int32}  (e2 : qCall d 126 [.int x1] h ((some (.int z1)), h1)) (e3 : ¬ ((z1 : Int32) = 0)) (kk : qE d 92 7 [some (.ref r0), some (.int x1), some (.int x2), some (.int x3)] [] h1 q): qE d 92 0 [some (.ref r0), some (.int x1), some (.int x2), some (.int x3)] [] h q := by
  refine qe_iload_n c92_0 rfl ?_
  refine qe_static (as := [.int x1]) (r := []) (v := (some (.int z1))) (h2 := h1) c92_1 qo92 (by decide) qK12_205 rfl rfl rfl (Nat.le_of_ble_eq_true rfl) e2 ?_
  refine qe_if_eq_F (t := 34) c92_4 rfl e3 ?_
  exact kk
theorem b92_0T {d : Nat} {q : Option Value × qH} {h : qH} {r0 : Nat} {x1 : Int32} {x2 : Int32} {x3 : Int32} {h1 : qH} {z1 : Int32}  (e2 : qCall d 126 [.int x1] h ((some (.int z1)), h1)) (e3 : (z1 : Int32) = 0) (kk : qE d 92 34 [some (.ref r0), some (.int x1), some (.int x2), some (.int x3)] [] h1 q): qE d 92 0 [some (.ref r0), some (.int x1), some (.int x2), some (.int x3)] [] h q := by
  refine qe_iload_n c92_0 rfl ?_
  refine qe_static (as := [.int x1]) (r := []) (v := (some (.int z1))) (h2 := h1) c92_1 qo92 (by decide) qK12_205 rfl rfl rfl (Nat.le_of_ble_eq_true rfl) e2 ?_
  refine qe_if_eq_T (t := 34) c92_4 rfl e3 ?_
  exact kk
theorem b92_7F {d : Nat} {q : Option Value × qH} {h : qH} {r0 : Nat} {x1 : Int32} {x2 : Int32} {x3 : Int32} {h1 : qH} {z1 : Int32}  (e2 : qCall d 143 [.long (x2 : Int32).toInt64, .long (-100), .long 100] h ((some (.int z1)), h1)) (e3 : ¬ ((z1 : Int32) = 0)) (kk : qE d 92 21 [some (.ref r0), some (.int x1), some (.int x2), some (.int x3)] [] h1 q): qE d 92 7 [some (.ref r0), some (.int x1), some (.int x2), some (.int x3)] [] h q := by
  refine qe_iload_n c92_7 rfl ?_
  refine qe_i2l c92_8 ?_
  refine qe_ldc2_w (x := (-100)) c92_9 qo92 qJ12_503 ?_
  refine qe_ldc2_w (x := 100) c92_12 qo92 qJ12_277 ?_
  refine qe_static (as := [.long (x2 : Int32).toInt64, .long (-100), .long 100]) (r := []) (v := (some (.int z1))) (h2 := h1) c92_15 qo92 (by decide) qK12_190 rfl rfl rfl (Nat.le_of_ble_eq_true rfl) e2 ?_
  refine qe_if_eq_F (t := 34) c92_18 rfl e3 ?_
  exact kk
theorem b92_7T {d : Nat} {q : Option Value × qH} {h : qH} {r0 : Nat} {x1 : Int32} {x2 : Int32} {x3 : Int32} {h1 : qH} {z1 : Int32}  (e2 : qCall d 143 [.long (x2 : Int32).toInt64, .long (-100), .long 100] h ((some (.int z1)), h1)) (e3 : (z1 : Int32) = 0) (kk : qE d 92 34 [some (.ref r0), some (.int x1), some (.int x2), some (.int x3)] [] h1 q): qE d 92 7 [some (.ref r0), some (.int x1), some (.int x2), some (.int x3)] [] h q := by
  refine qe_iload_n c92_7 rfl ?_
  refine qe_i2l c92_8 ?_
  refine qe_ldc2_w (x := (-100)) c92_9 qo92 qJ12_503 ?_
  refine qe_ldc2_w (x := 100) c92_12 qo92 qJ12_277 ?_
  refine qe_static (as := [.long (x2 : Int32).toInt64, .long (-100), .long 100]) (r := []) (v := (some (.int z1))) (h2 := h1) c92_15 qo92 (by decide) qK12_190 rfl rfl rfl (Nat.le_of_ble_eq_true rfl) e2 ?_
  refine qe_if_eq_T (t := 34) c92_18 rfl e3 ?_
  exact kk
theorem b92_21F {d : Nat} {q : Option Value × qH} {h : qH} {r0 : Nat} {x1 : Int32} {x2 : Int32} {x3 : Int32} {h1 : qH} {z1 : Int32}  (e2 : qCall d 143 [.long (x3 : Int32).toInt64, .long (x2 : Int32).toInt64, .long 100] h ((some (.int z1)), h1)) (e3 : (z1 : Int32) = 0) (kk : qE d 92 34 [some (.ref r0), some (.int x1), some (.int x2), some (.int x3)] [] h1 q): qE d 92 21 [some (.ref r0), some (.int x1), some (.int x2), some (.int x3)] [] h q := by
  refine qe_iload_n c92_21 rfl ?_
  refine qe_i2l c92_22 ?_
  refine qe_iload_n c92_23 rfl ?_
  refine qe_i2l c92_24 ?_
  refine qe_ldc2_w (x := 100) c92_25 qo92 qJ12_277 ?_
  refine qe_static (as := [.long (x3 : Int32).toInt64, .long (x2 : Int32).toInt64, .long 100]) (r := []) (v := (some (.int z1))) (h2 := h1) c92_28 qo92 (by decide) qK12_190 rfl rfl rfl (Nat.le_of_ble_eq_true rfl) e2 ?_
  refine qe_if_ne_F (t := 36) c92_31 rfl e3 ?_
  exact kk
theorem b92_21T {d : Nat} {q : Option Value × qH} {h : qH} {r0 : Nat} {x1 : Int32} {x2 : Int32} {x3 : Int32} {h1 : qH} {z1 : Int32}  (e2 : qCall d 143 [.long (x3 : Int32).toInt64, .long (x2 : Int32).toInt64, .long 100] h ((some (.int z1)), h1)) (e3 : ¬ ((z1 : Int32) = 0)) (kk : qE d 92 36 [some (.ref r0), some (.int x1), some (.int x2), some (.int x3)] [] h1 q): qE d 92 21 [some (.ref r0), some (.int x1), some (.int x2), some (.int x3)] [] h q := by
  refine qe_iload_n c92_21 rfl ?_
  refine qe_i2l c92_22 ?_
  refine qe_iload_n c92_23 rfl ?_
  refine qe_i2l c92_24 ?_
  refine qe_ldc2_w (x := 100) c92_25 qo92 qJ12_277 ?_
  refine qe_static (as := [.long (x3 : Int32).toInt64, .long (x2 : Int32).toInt64, .long 100]) (r := []) (v := (some (.int z1))) (h2 := h1) c92_28 qo92 (by decide) qK12_190 rfl rfl rfl (Nat.le_of_ble_eq_true rfl) e2 ?_
  refine qe_if_ne_T (t := 36) c92_31 rfl e3 ?_
  exact kk
theorem b92_34 {d : Nat} {h : qH} {r0 : Nat} {x1 : Int32} {x2 : Int32} {x3 : Int32}   : qE d 92 34 [some (.ref r0), some (.int x1), some (.int x2), some (.int x3)] [] h (some (.int 0), h) := by
  refine qe_iconst (x := 0) c92_34 (by decide) ?_
  exact qe_zret c92_35 qr92 (by decide)
theorem b92_36 {d : Nat} {h : qH} {r0 : Nat} {x1 : Int32} {x2 : Int32} {x3 : Int32} {fs1 : List Value} {y3 : Nat} {n5 : Nat} {f6 : Nat → Int32} {h1 : qH} {fs10 : List Value} {y12 : Nat} {n14 : Nat} {f15 : Nat → Int32} {h2 : qH}  (e2 : h.2.2 r0 = some (.inr (12, fs1))) (e4 : fs1[71]? = some (.ref y3)) (e7 : h.2.2 y3 = some (.inl (0, n5, .inl f6))) (e8 : 0 ≤ (x1 : Int32).toInt ∧ (x1 : Int32).toInt < (n5 : Nat)) (e9 : qset h y3 (.inl (0, n5, .inl (upd f6 ((x1 : Int32).toNatClampNeg) x2))) = h1) (e11 : h1.2.2 r0 = some (.inr (12, fs10))) (e13 : fs10[72]? = some (.ref y12)) (e16 : h1.2.2 y12 = some (.inl (0, n14, .inl f15))) (e17 : 0 ≤ (x1 : Int32).toInt ∧ (x1 : Int32).toInt < (n14 : Nat)) (e18 : qset h1 y12 (.inl (0, n14, .inl (upd f15 ((x1 : Int32).toNatClampNeg) x3))) = h2) : qE d 92 36 [some (.ref r0), some (.int x1), some (.int x2), some (.int x3)] [] h (some (.int 1), h2) := by
  refine qe_aload_n c92_36 rfl ?_
  refine qe_getfield c92_37 qo92 qF12_158 e2 e4 ?_
  refine qe_iload_n c92_40 rfl ?_
  refine qe_iload_n c92_41 rfl ?_
  refine qe_iastore c92_42 e7 e8 ?_
  rw [e9]
  refine qe_aload_n c92_43 rfl ?_
  refine qe_getfield c92_44 qo92 qF12_161 e11 e13 ?_
  refine qe_iload_n c92_47 rfl ?_
  refine qe_iload_n c92_48 rfl ?_
  refine qe_iastore c92_49 e16 e17 ?_
  rw [e18]
  refine qe_iconst (x := 1) c92_50 (by decide) ?_
  exact qe_zret c92_51 qr92 (by decide)
theorem b93_0 {d : Nat} {h : qH} {r0 : Nat} {x1 : Int32} {x2 : Int32} {fs1 : List Value} {y3 : Nat} {y5 : Int32} {n7 : Nat} {f8 : Nat → Int32} {h1 : qH} {fs12 : List Value} {y14 : Nat} {y16 : Int32} {n18 : Nat} {f19 : Nat → Int32} {h2 : qH} {fs23 : List Value} {y25 : Int32} {h3 : qH}  (e2 : h.2.2 r0 = some (.inr (12, fs1))) (e4 : fs1[60]? = some (.ref y3)) (e6 : fs1[59]? = some (.int y5)) (e9 : h.2.2 y3 = some (.inl (0, n7, .inl f8))) (e10 : 0 ≤ (y5 : Int32).toInt ∧ (y5 : Int32).toInt < (n7 : Nat)) (e11 : qset h y3 (.inl (0, n7, .inl (upd f8 ((y5 : Int32).toNatClampNeg) x1))) = h1) (e13 : h1.2.2 r0 = some (.inr (12, fs12))) (e15 : fs12[61]? = some (.ref y14)) (e17 : fs12[59]? = some (.int y16)) (e20 : h1.2.2 y14 = some (.inl (0, n18, .inl f19))) (e21 : 0 ≤ (y16 : Int32).toInt ∧ (y16 : Int32).toInt < (n18 : Nat)) (e22 : qset h1 y14 (.inl (0, n18, .inl (upd f19 ((y16 : Int32).toNatClampNeg) x2))) = h2) (e24 : h2.2.2 r0 = some (.inr (12, fs23))) (e26 : fs23[59]? = some (.int y25)) (e27 : 59 < fs23.length) (e28 : qset h2 r0 (.inr (12, fs23.set 59 (.int (y25 + 1)))) = h3) : qE d 93 0 [some (.ref r0), some (.int x1), some (.int x2)] [] h (none, h3) := by
  refine qe_aload_n c93_0 rfl ?_
  refine qe_getfield c93_1 qo93 qF12_125 e2 e4 ?_
  refine qe_aload_n c93_4 rfl ?_
  refine qe_getfield c93_5 qo93 qF12_424 e2 e6 ?_
  refine qe_iload_n c93_8 rfl ?_
  refine qe_iastore c93_9 e9 e10 ?_
  rw [e11]
  refine qe_aload_n c93_10 rfl ?_
  refine qe_getfield c93_11 qo93 qF12_128 e13 e15 ?_
  refine qe_aload_n c93_14 rfl ?_
  refine qe_getfield c93_15 qo93 qF12_424 e13 e17 ?_
  refine qe_iload_n c93_18 rfl ?_
  refine qe_iastore c93_19 e20 e21 ?_
  rw [e22]
  refine qe_aload_n c93_20 rfl ?_
  refine qe_dup c93_21 rfl ?_
  refine qe_getfield c93_22 qo93 qF12_424 e24 e26 ?_
  refine qe_iconst (x := 1) c93_25 (by decide) ?_
  refine qe_iadd c93_26 ?_
  refine qe_putfield c93_27 qo93 qF12_424 qz12_59 e24 e27 (by rw [qy12_59]; rfl) ?_
  rw [e28]
  exact qe_vret c93_30 qr93
theorem b94_0F {d : Nat} {q : Option Value × qH} {h : qH} {r0 : Nat} {fs1 : List Value} {h1 : qH} {fs5 : List Value} {h2 : qH} {fs9 : List Value} {h3 : qH} {fs13 : List Value} {h4 : qH} {z15 : Int32}  (e2 : h.2.2 r0 = some (.inr (12, fs1))) (e3 : 50 < fs1.length) (e4 : qset h r0 (.inr (12, fs1.set 50 (.int 0))) = h1) (e6 : h1.2.2 r0 = some (.inr (12, fs5))) (e7 : 49 < fs5.length) (e8 : qset h1 r0 (.inr (12, fs5.set 49 (.int 0))) = h2) (e10 : h2.2.2 r0 = some (.inr (12, fs9))) (e11 : 51 < fs9.length) (e12 : qset h2 r0 (.inr (12, fs9.set 51 (.int 0))) = h3) (e14 : h3.2.2 r0 = some (.inr (12, fs13))) (e16 : qCall d 120 [.ref r0] h3 ((some (.int z15)), h4)) (e17 : ¬ ((z15 : Int32) = 40)) (kk : qE d 94 24 [some (.ref r0), none] [] h4 q): qE d 94 0 [some (.ref r0), none] [] h q := by
  refine qe_aload_n c94_0 rfl ?_
  refine qe_iconst (x := 0) c94_1 (by decide) ?_
  refine qe_putfield c94_2 qo94 qF12_306 qz12_50 e2 e3 (by rw [qy12_50]; rfl) ?_
  rw [e4]
  refine qe_aload_n c94_5 rfl ?_
  refine qe_iconst (x := 0) c94_6 (by decide) ?_
  refine qe_putfield c94_7 qo94 qF12_309 qz12_49 e6 e7 (by rw [qy12_49]; rfl) ?_
  rw [e8]
  refine qe_aload_n c94_10 rfl ?_
  refine qe_iconst (x := 0) c94_11 (by decide) ?_
  refine qe_putfield c94_12 qo94 qF12_376 qz12_51 e10 e11 (by rw [qy12_51]; exact decide_eq_true (p := (0 : Int32) = 0 ∨ (0 : Int32) = 1) (by decide)) ?_
  rw [e12]
  refine qe_aload_n c94_15 rfl ?_
  refine qe_virtual (b := r0) (as := []) (r := []) (v := (some (.int z15))) (h2 := h4) c94_16 qo94 qK12_315 rfl rfl rfl (by rw [qo120]; exact e14) (Nat.le_of_ble_eq_true rfl) e16 ?_
  refine qe_bipush (x := 40) c94_19 (by decide) ?_
  refine qe_icmp_eq_F (t := 33) c94_21 rfl e17 ?_
  exact kk
theorem b94_0T {d : Nat} {q : Option Value × qH} {h : qH} {r0 : Nat} {fs1 : List Value} {h1 : qH} {fs5 : List Value} {h2 : qH} {fs9 : List Value} {h3 : qH} {fs13 : List Value} {h4 : qH} {z15 : Int32}  (e2 : h.2.2 r0 = some (.inr (12, fs1))) (e3 : 50 < fs1.length) (e4 : qset h r0 (.inr (12, fs1.set 50 (.int 0))) = h1) (e6 : h1.2.2 r0 = some (.inr (12, fs5))) (e7 : 49 < fs5.length) (e8 : qset h1 r0 (.inr (12, fs5.set 49 (.int 0))) = h2) (e10 : h2.2.2 r0 = some (.inr (12, fs9))) (e11 : 51 < fs9.length) (e12 : qset h2 r0 (.inr (12, fs9.set 51 (.int 0))) = h3) (e14 : h3.2.2 r0 = some (.inr (12, fs13))) (e16 : qCall d 120 [.ref r0] h3 ((some (.int z15)), h4)) (e17 : (z15 : Int32) = 40) (kk : qE d 94 33 [some (.ref r0), none] [] h4 q): qE d 94 0 [some (.ref r0), none] [] h q := by
  refine qe_aload_n c94_0 rfl ?_
  refine qe_iconst (x := 0) c94_1 (by decide) ?_
  refine qe_putfield c94_2 qo94 qF12_306 qz12_50 e2 e3 (by rw [qy12_50]; rfl) ?_
  rw [e4]
  refine qe_aload_n c94_5 rfl ?_
  refine qe_iconst (x := 0) c94_6 (by decide) ?_
  refine qe_putfield c94_7 qo94 qF12_309 qz12_49 e6 e7 (by rw [qy12_49]; rfl) ?_
  rw [e8]
  refine qe_aload_n c94_10 rfl ?_
  refine qe_iconst (x := 0) c94_11 (by decide) ?_
  refine qe_putfield c94_12 qo94 qF12_376 qz12_51 e10 e11 (by rw [qy12_51]; exact decide_eq_true (p := (0 : Int32) = 0 ∨ (0 : Int32) = 1) (by decide)) ?_
  rw [e12]
  refine qe_aload_n c94_15 rfl ?_
  refine qe_virtual (b := r0) (as := []) (r := []) (v := (some (.int z15))) (h2 := h4) c94_16 qo94 qK12_315 rfl rfl rfl (by rw [qo120]; exact e14) (Nat.le_of_ble_eq_true rfl) e16 ?_
  refine qe_bipush (x := 40) c94_19 (by decide) ?_
  refine qe_icmp_eq_T (t := 33) c94_21 rfl e17 ?_
  exact kk
theorem b94_24 {d : Nat} {q : Option Value × qH} {h : qH} {r0 : Nat} {fs1 : List Value} {y3 : Int32} {h1 : qH}  (e2 : h.2.2 r0 = some (.inr (12, fs1))) (e4 : fs1[44]? = some (.int y3)) (e5 : qCall d 190 [.ref r0, .int 1, .int y3] h (none, h1)) (kk : qE d 94 33 [some (.ref r0), none] [] h1 q): qE d 94 24 [some (.ref r0), none] [] h q := by
  refine qe_aload_n c94_24 rfl ?_
  refine qe_iconst (x := 1) c94_25 (by decide) ?_
  refine qe_aload_n c94_26 rfl ?_
  refine qe_getfield c94_27 qo94 qF12_290 e2 e4 ?_
  refine qe_virtual (b := r0) (as := [.int 1, .int y3]) (r := []) (v := none) (h2 := h1) c94_30 qo94 qK12_312 rfl rfl rfl (by rw [qo190]; exact e2) (Nat.le_of_ble_eq_true rfl) e5 ?_
  exact kk
theorem b94_33F {d : Nat} {q : Option Value × qH} {h : qH} {r0 : Nat} {fs1 : List Value} {h1 : qH} {z3 : Int32}  (e2 : h.2.2 r0 = some (.inr (12, fs1))) (e4 : qCall d 124 [.ref r0] h ((some (.int z3)), h1)) (e5 : (z3 : Int32) = 0) (kk : qE d 94 40 [some (.ref r0), none] [] h1 q): qE d 94 33 [some (.ref r0), none] [] h q := by
  refine qe_aload_n c94_33 rfl ?_
  refine qe_virtual (b := r0) (as := []) (r := []) (v := (some (.int z3))) (h2 := h1) c94_34 qo94 qK12_299 rfl rfl rfl (by rw [qo124]; exact e2) (Nat.le_of_ble_eq_true rfl) e4 ?_
  refine qe_if_ne_F (t := 41) c94_37 rfl e5 ?_
  exact kk
theorem b94_33T {d : Nat} {q : Option Value × qH} {h : qH} {r0 : Nat} {fs1 : List Value} {h1 : qH} {z3 : Int32}  (e2 : h.2.2 r0 = some (.inr (12, fs1))) (e4 : qCall d 124 [.ref r0] h ((some (.int z3)), h1)) (e5 : ¬ ((z3 : Int32) = 0)) (kk : qE d 94 41 [some (.ref r0), none] [] h1 q): qE d 94 33 [some (.ref r0), none] [] h q := by
  refine qe_aload_n c94_33 rfl ?_
  refine qe_virtual (b := r0) (as := []) (r := []) (v := (some (.int z3))) (h2 := h1) c94_34 qo94 qK12_299 rfl rfl rfl (by rw [qo124]; exact e2) (Nat.le_of_ble_eq_true rfl) e4 ?_
  refine qe_if_ne_T (t := 41) c94_37 rfl e5 ?_
  exact kk
theorem b94_40 {d : Nat} {h : qH} {r0 : Nat}   : qE d 94 40 [some (.ref r0), none] [] h (none, h) := by
  exact qe_vret c94_40 qr94
theorem b94_41 {d : Nat} {q : Option Value × qH} {h : qH} {r0 : Nat} {fs1 : List Value} {h1 : qH}  (e2 : h.2.2 r0 = some (.inr (12, fs1))) (e3 : qCall d 150 [.ref r0] h (none, h1)) (kk : qE d 94 47 [some (.ref r0), some (.int 1)] [] h1 q): qE d 94 41 [some (.ref r0), none] [] h q := by
  refine qe_aload_n c94_41 rfl ?_
  refine qe_virtual (b := r0) (as := []) (r := []) (v := none) (h2 := h1) c94_42 qo94 qK12_344 rfl rfl rfl (by rw [qo150]; exact e2) (Nat.le_of_ble_eq_true rfl) e3 ?_
  refine qe_iconst (x := 1) c94_45 (by decide) ?_
  refine qe_istore_n (ls2 := [some (.ref r0), some (.int 1)]) c94_46 (Nat.le_of_ble_eq_true rfl) rfl ?_
  exact kk
theorem b94_47F {d : Nat} {q : Option Value × qH} {h : qH} {r0 : Nat} {x1 : Int32} {fs1 : List Value} {h1 : qH} {z3 : Int32}  (e2 : h.2.2 r0 = some (.inr (12, fs1))) (e4 : qCall d 124 [.ref r0] h ((some (.int z3)), h1)) (e5 : ¬ ((z3 : Int32) = 0)) (kk : qE d 94 54 [some (.ref r0), some (.int x1)] [] h1 q): qE d 94 47 [some (.ref r0), some (.int x1)] [] h q := by
  refine qe_aload_n c94_47 rfl ?_
  refine qe_virtual (b := r0) (as := []) (r := []) (v := (some (.int z3))) (h2 := h1) c94_48 qo94 qK12_299 rfl rfl rfl (by rw [qo124]; exact e2) (Nat.le_of_ble_eq_true rfl) e4 ?_
  refine qe_if_eq_F (t := 84) c94_51 rfl e5 ?_
  exact kk
theorem b94_47T {d : Nat} {q : Option Value × qH} {h : qH} {r0 : Nat} {x1 : Int32} {fs1 : List Value} {h1 : qH} {z3 : Int32}  (e2 : h.2.2 r0 = some (.inr (12, fs1))) (e4 : qCall d 124 [.ref r0] h ((some (.int z3)), h1)) (e5 : (z3 : Int32) = 0) (kk : qE d 94 84 [some (.ref r0), some (.int x1)] [] h1 q): qE d 94 47 [some (.ref r0), some (.int x1)] [] h q := by
  refine qe_aload_n c94_47 rfl ?_
  refine qe_virtual (b := r0) (as := []) (r := []) (v := (some (.int z3))) (h2 := h1) c94_48 qo94 qK12_299 rfl rfl rfl (by rw [qo124]; exact e2) (Nat.le_of_ble_eq_true rfl) e4 ?_
  refine qe_if_eq_T (t := 84) c94_51 rfl e5 ?_
  exact kk
theorem b94_54F {d : Nat} {q : Option Value × qH} {h : qH} {r0 : Nat} {x1 : Int32} {fs1 : List Value} {y3 : Int32}  (e2 : h.2.2 r0 = some (.inr (12, fs1))) (e4 : fs1[51]? = some (.int y3)) (e5 : (y3 : Int32) = 0) (kk : qE d 94 61 [some (.ref r0), some (.int x1)] [] h q): qE d 94 54 [some (.ref r0), some (.int x1)] [] h q := by
  refine qe_aload_n c94_54 rfl ?_
  refine qe_getfield c94_55 qo94 qF12_376 e2 e4 ?_
  refine qe_if_ne_F (t := 84) c94_58 rfl e5 ?_
  exact kk
theorem b94_54T {d : Nat} {q : Option Value × qH} {h : qH} {r0 : Nat} {x1 : Int32} {fs1 : List Value} {y3 : Int32}  (e2 : h.2.2 r0 = some (.inr (12, fs1))) (e4 : fs1[51]? = some (.int y3)) (e5 : ¬ ((y3 : Int32) = 0)) (kk : qE d 94 84 [some (.ref r0), some (.int x1)] [] h q): qE d 94 54 [some (.ref r0), some (.int x1)] [] h q := by
  refine qe_aload_n c94_54 rfl ?_
  refine qe_getfield c94_55 qo94 qF12_376 e2 e4 ?_
  refine qe_if_ne_T (t := 84) c94_58 rfl e5 ?_
  exact kk
theorem b94_61F {d : Nat} {q : Option Value × qH} {h : qH} {r0 : Nat} {x1 : Int32}  (e1 : ¬ ((x1 : Int32) = 0)) (kk : qE d 94 65 [some (.ref r0), some (.int x1)] [] h q): qE d 94 61 [some (.ref r0), some (.int x1)] [] h q := by
  refine qe_iload_n c94_61 rfl ?_
  refine qe_if_eq_F (t := 69) c94_62 rfl e1 ?_
  exact kk
theorem b94_61T {d : Nat} {q : Option Value × qH} {h : qH} {r0 : Nat} {x1 : Int32}  (e1 : (x1 : Int32) = 0) (kk : qE d 94 69 [some (.ref r0), some (.int x1)] [] h q): qE d 94 61 [some (.ref r0), some (.int x1)] [] h q := by
  refine qe_iload_n c94_61 rfl ?_
  refine qe_if_eq_T (t := 69) c94_62 rfl e1 ?_
  exact kk
theorem b94_65 {d : Nat} {q : Option Value × qH} {h : qH} {r0 : Nat} {x1 : Int32} {fs1 : List Value} {h1 : qH}  (e2 : h.2.2 r0 = some (.inr (12, fs1))) (e3 : qCall d 152 [.ref r0] h (none, h1)) (kk : qE d 94 69 [some (.ref r0), some (.int x1)] [] h1 q): qE d 94 65 [some (.ref r0), some (.int x1)] [] h q := by
  refine qe_aload_n c94_65 rfl ?_
  refine qe_virtual (b := r0) (as := []) (r := []) (v := none) (h2 := h1) c94_66 qo94 qK12_379 rfl rfl rfl (by rw [qo152]; exact e2) (Nat.le_of_ble_eq_true rfl) e3 ?_
  exact kk
theorem b94_69F {d : Nat} {q : Option Value × qH} {h : qH} {r0 : Nat} {x1 : Int32} {fs1 : List Value} {h1 : qH} {z3 : Int32}  (e2 : h.2.2 r0 = some (.inr (12, fs1))) (e4 : qCall d 124 [.ref r0] h ((some (.int z3)), h1)) (e5 : ¬ ((z3 : Int32) = 0)) (kk : qE d 94 76 [some (.ref r0), some (.int x1)] [] h1 q): qE d 94 69 [some (.ref r0), some (.int x1)] [] h q := by
  refine qe_aload_n c94_69 rfl ?_
  refine qe_virtual (b := r0) (as := []) (r := []) (v := (some (.int z3))) (h2 := h1) c94_70 qo94 qK12_299 rfl rfl rfl (by rw [qo124]; exact e2) (Nat.le_of_ble_eq_true rfl) e4 ?_
  refine qe_if_eq_F (t := 47) c94_73 rfl e5 ?_
  exact kk
theorem b94_69T {d : Nat} {q : Option Value × qH} {h : qH} {r0 : Nat} {x1 : Int32} {fs1 : List Value} {h1 : qH} {z3 : Int32}  (e2 : h.2.2 r0 = some (.inr (12, fs1))) (e4 : qCall d 124 [.ref r0] h ((some (.int z3)), h1)) (e5 : (z3 : Int32) = 0) (kk : qE d 94 47 [some (.ref r0), some (.int x1)] [] h1 q): qE d 94 69 [some (.ref r0), some (.int x1)] [] h q := by
  refine qe_aload_n c94_69 rfl ?_
  refine qe_virtual (b := r0) (as := []) (r := []) (v := (some (.int z3))) (h2 := h1) c94_70 qo94 qK12_299 rfl rfl rfl (by rw [qo124]; exact e2) (Nat.le_of_ble_eq_true rfl) e4 ?_
  refine qe_if_eq_T (t := 47) c94_73 rfl e5 ?_
  exact kk
theorem b94_76 {d : Nat} {q : Option Value × qH} {h : qH} {r0 : Nat} {x1 : Int32} {fs1 : List Value} {h1 : qH} {z3 : Int32}  (e2 : h.2.2 r0 = some (.inr (12, fs1))) (e4 : qCall d 114 [.ref r0] h ((some (.int z3)), h1)) (kk : qE d 94 47 [some (.ref r0), some (.int z3)] [] h1 q): qE d 94 76 [some (.ref r0), some (.int x1)] [] h q := by
  refine qe_aload_n c94_76 rfl ?_
  refine qe_virtual (b := r0) (as := []) (r := []) (v := (some (.int z3))) (h2 := h1) c94_77 qo94 qK12_382 rfl rfl rfl (by rw [qo114]; exact e2) (Nat.le_of_ble_eq_true rfl) e4 ?_
  refine qe_istore_n (ls2 := [some (.ref r0), some (.int z3)]) c94_80 (Nat.le_of_ble_eq_true rfl) rfl ?_
  refine qe_goto (t := 47) c94_81 rfl ?_
  exact kk
theorem b94_84 {d : Nat} {h : qH} {r0 : Nat} {x1 : Int32}   : qE d 94 84 [some (.ref r0), some (.int x1)] [] h (none, h) := by
  exact qe_vret c94_84 qr94
theorem b95_0F {d : Nat} {q : Option Value × qH} {h : qH} {r0 : Nat} {x1 : Int32} {h1 : qH} {z1 : Int32}  (e2 : qCall d 143 [.long (x1 : Int32).toInt64, .long 0, .long 1000] h ((some (.int z1)), h1)) (e3 : (z1 : Int32) = 0) (kk : qE d 95 12 [some (.ref r0), some (.int x1)] [] h1 q): qE d 95 0 [some (.ref r0), some (.int x1)] [] h q := by
  refine qe_iload_n c95_0 rfl ?_
  refine qe_i2l c95_1 ?_
  refine qe_lconst (x := 0) c95_2 (by decide) ?_
  refine qe_ldc2_w (x := 1000) c95_3 qo95 qJ12_228 ?_
  refine qe_static (as := [.long (x1 : Int32).toInt64, .long 0, .long 1000]) (r := []) (v := (some (.int z1))) (h2 := h1) c95_6 qo95 (by decide) qK12_190 rfl rfl rfl (Nat.le_of_ble_eq_true rfl) e2 ?_
  refine qe_if_ne_F (t := 14) c95_9 rfl e3 ?_
  exact kk
theorem b95_0T {d : Nat} {q : Option Value × qH} {h : qH} {r0 : Nat} {x1 : Int32} {h1 : qH} {z1 : Int32}  (e2 : qCall d 143 [.long (x1 : Int32).toInt64, .long 0, .long 1000] h ((some (.int z1)), h1)) (e3 : ¬ ((z1 : Int32) = 0)) (kk : qE d 95 14 [some (.ref r0), some (.int x1)] [] h1 q): qE d 95 0 [some (.ref r0), some (.int x1)] [] h q := by
  refine qe_iload_n c95_0 rfl ?_
  refine qe_i2l c95_1 ?_
  refine qe_lconst (x := 0) c95_2 (by decide) ?_
  refine qe_ldc2_w (x := 1000) c95_3 qo95 qJ12_228 ?_
  refine qe_static (as := [.long (x1 : Int32).toInt64, .long 0, .long 1000]) (r := []) (v := (some (.int z1))) (h2 := h1) c95_6 qo95 (by decide) qK12_190 rfl rfl rfl (Nat.le_of_ble_eq_true rfl) e2 ?_
  refine qe_if_ne_T (t := 14) c95_9 rfl e3 ?_
  exact kk
theorem b95_12 {d : Nat} {h : qH} {r0 : Nat} {x1 : Int32}   : qE d 95 12 [some (.ref r0), some (.int x1)] [] h (some (.int 0), h) := by
  refine qe_iconst (x := 0) c95_12 (by decide) ?_
  exact qe_zret c95_13 qr95 (by decide)
theorem b95_14 {d : Nat} {h : qH} {r0 : Nat} {x1 : Int32} {fs1 : List Value} {y3 : Nat} {n5 : Nat} {f6 : Nat → Int32} {h1 : qH}  (e2 : h.2.2 r0 = some (.inr (12, fs1))) (e4 : fs1[10]? = some (.ref y3)) (e7 : h.2.2 y3 = some (.inl (0, n5, .inl f6))) (e8 : 0 ≤ (36069 : Int32).toInt ∧ (36069 : Int32).toInt < (n5 : Nat)) (e9 : qset h y3 (.inl (0, n5, .inl (upd f6 ((36069 : Int32).toNatClampNeg) x1))) = h1) : qE d 95 14 [some (.ref r0), some (.int x1)] [] h (some (.int 1), h1) := by
  refine qe_aload_n c95_14 rfl ?_
  refine qe_getfield c95_15 qo95 qF12_14 e2 e4 ?_
  refine qe_ldc (x := 36069) c95_18 qo95 qI12_185 ?_
  refine qe_iload_n c95_20 rfl ?_
  refine qe_iastore c95_21 e7 e8 ?_
  rw [e9]
  refine qe_iconst (x := 1) c95_22 (by decide) ?_
  exact qe_zret c95_23 qr95 (by decide)
theorem b96_0 {d : Nat} {q : Option Value × qH} {h : qH} {r0 : Nat} {x1 : Int32} {x2 : Int32}   (kk : qE d 96 2 [some (.ref r0), some (.int x1), some (.int x2), some (.int 0)] [] h q): qE d 96 0 [some (.ref r0), some (.int x1), some (.int x2), none] [] h q := by
  refine qe_iconst (x := 0) c96_0 (by decide) ?_
  refine qe_istore_n (ls2 := [some (.ref r0), some (.int x1), some (.int x2), some (.int 0)]) c96_1 (Nat.le_of_ble_eq_true rfl) rfl ?_
  exact kk
theorem b96_2F {d : Nat} {q : Option Value × qH} {h : qH} {r0 : Nat} {x1 : Int32} {x2 : Int32} {x3 : Int32}  (e1 : ¬ ((72 : Int32) ≤ x3)) (kk : qE d 96 8 [some (.ref r0), some (.int x1), some (.int x2), some (.int x3)] [] h q): qE d 96 2 [some (.ref r0), some (.int x1), some (.int x2), some (.int x3)] [] h q := by
  refine qe_iload_n c96_2 rfl ?_
  refine qe_bipush (x := 72) c96_3 (by decide) ?_
  refine qe_icmp_ge_F (t := 30) c96_5 rfl e1 ?_
  exact kk
theorem b96_2T {d : Nat} {q : Option Value × qH} {h : qH} {r0 : Nat} {x1 : Int32} {x2 : Int32} {x3 : Int32}  (e1 : (72 : Int32) ≤ x3) (kk : qE d 96 30 [some (.ref r0), some (.int x1), some (.int x2), some (.int x3)] [] h q): qE d 96 2 [some (.ref r0), some (.int x1), some (.int x2), some (.int x3)] [] h q := by
  refine qe_iload_n c96_2 rfl ?_
  refine qe_bipush (x := 72) c96_3 (by decide) ?_
  refine qe_icmp_ge_T (t := 30) c96_5 rfl e1 ?_
  exact kk
theorem b96_8 {d : Nat} {q : Option Value × qH} {h : qH} {r0 : Nat} {x1 : Int32} {x2 : Int32} {x3 : Int32} {fs1 : List Value} {y3 : Nat} {n6 : Nat} {f7 : Nat → Int32} {h1 : qH}  (e2 : h.2.2 r0 = some (.inr (12, fs1))) (e4 : fs1[10]? = some (.ref y3)) (e8 : h.2.2 y3 = some (.inl (0, n6, .inl f7))) (e9 : 0 ≤ ((x1 + x3) : Int32).toInt ∧ ((x1 + x3) : Int32).toInt < (n6 : Nat)) (e10 : 0 ≤ ((x2 + x3) : Int32).toInt ∧ ((x2 + x3) : Int32).toInt < (n6 : Nat)) (e11 : qset h y3 (.inl (0, n6, .inl (upd f7 (((x2 + x3) : Int32).toNatClampNeg) ((f7 ((x1 + x3) : Int32).toNatClampNeg))))) = h1) (kk : qE d 96 2 [some (.ref r0), some (.int x1), some (.int x2), some (.int (x3 + 1))] [] h1 q): qE d 96 8 [some (.ref r0), some (.int x1), some (.int x2), some (.int x3)] [] h q := by
  refine qe_aload_n c96_8 rfl ?_
  refine qe_getfield c96_9 qo96 qF12_14 e2 e4 ?_
  refine qe_iload_n c96_12 rfl ?_
  refine qe_iload_n c96_13 rfl ?_
  refine qe_iadd c96_14 ?_
  refine qe_aload_n c96_15 rfl ?_
  refine qe_getfield c96_16 qo96 qF12_14 e2 e4 ?_
  refine qe_iload_n c96_19 rfl ?_
  refine qe_iload_n c96_20 rfl ?_
  refine qe_iadd c96_21 ?_
  refine qe_iaload c96_22 e8 e9 ?_
  refine qe_iastore c96_23 e8 e10 ?_
  rw [e11]
  refine qe_iinc (y := (x3 + 1)) (ls2 := [some (.ref r0), some (.int x1), some (.int x2), some (.int (x3 + 1))]) c96_24 rfl (Nat.le_of_ble_eq_true rfl) rfl rfl ?_
  refine qe_goto (t := 2) c96_27 rfl ?_
  exact kk
theorem b96_30 {d : Nat} {h : qH} {r0 : Nat} {x1 : Int32} {x2 : Int32} {x3 : Int32}   : qE d 96 30 [some (.ref r0), some (.int x1), some (.int x2), some (.int x3)] [] h (none, h) := by
  exact qe_vret c96_30 qr96
theorem b97_0F {d : Nat} {q : Option Value × qH} {h : qH} {r0 : Nat} {x1 : Int32} {x2 : Int32} {fs1 : List Value} {h1 : qH} {z3 : Int32}  (e2 : h.2.2 r0 = some (.inr (12, fs1))) (e4 : qCall d 136 [.ref r0, .int x1] h ((some (.int z3)), h1)) (e5 : ¬ ((z3 : Int32) = 0)) (kk : qE d 97 8 [some (.ref r0), some (.int x1), some (.int x2)] [] h1 q): qE d 97 0 [some (.ref r0), some (.int x1), some (.int x2)] [] h q := by
  refine qe_aload_n c97_0 rfl ?_
  refine qe_iload_n c97_1 rfl ?_
  refine qe_virtual (b := r0) (as := [.int x1]) (r := []) (v := (some (.int z3))) (h2 := h1) c97_2 qo97 qK12_224 rfl rfl rfl (by rw [qo136]; exact e2) (Nat.le_of_ble_eq_true rfl) e4 ?_
  refine qe_if_eq_F (t := 20) c97_5 rfl e5 ?_
  exact kk
theorem b97_0T {d : Nat} {q : Option Value × qH} {h : qH} {r0 : Nat} {x1 : Int32} {x2 : Int32} {fs1 : List Value} {h1 : qH} {z3 : Int32}  (e2 : h.2.2 r0 = some (.inr (12, fs1))) (e4 : qCall d 136 [.ref r0, .int x1] h ((some (.int z3)), h1)) (e5 : (z3 : Int32) = 0) (kk : qE d 97 20 [some (.ref r0), some (.int x1), some (.int x2)] [] h1 q): qE d 97 0 [some (.ref r0), some (.int x1), some (.int x2)] [] h q := by
  refine qe_aload_n c97_0 rfl ?_
  refine qe_iload_n c97_1 rfl ?_
  refine qe_virtual (b := r0) (as := [.int x1]) (r := []) (v := (some (.int z3))) (h2 := h1) c97_2 qo97 qK12_224 rfl rfl rfl (by rw [qo136]; exact e2) (Nat.le_of_ble_eq_true rfl) e4 ?_
  refine qe_if_eq_T (t := 20) c97_5 rfl e5 ?_
  exact kk
theorem b97_8F {d : Nat} {q : Option Value × qH} {h : qH} {r0 : Nat} {x1 : Int32} {x2 : Int32} {h1 : qH} {z1 : Int32}  (e2 : qCall d 143 [.long (x2 : Int32).toInt64, .long 1, .long 1000] h ((some (.int z1)), h1)) (e3 : (z1 : Int32) = 0) (kk : qE d 97 20 [some (.ref r0), some (.int x1), some (.int x2)] [] h1 q): qE d 97 8 [some (.ref r0), some (.int x1), some (.int x2)] [] h q := by
  refine qe_iload_n c97_8 rfl ?_
  refine qe_i2l c97_9 ?_
  refine qe_lconst (x := 1) c97_10 (by decide) ?_
  refine qe_ldc2_w (x := 1000) c97_11 qo97 qJ12_228 ?_
  refine qe_static (as := [.long (x2 : Int32).toInt64, .long 1, .long 1000]) (r := []) (v := (some (.int z1))) (h2 := h1) c97_14 qo97 (by decide) qK12_190 rfl rfl rfl (Nat.le_of_ble_eq_true rfl) e2 ?_
  refine qe_if_ne_F (t := 22) c97_17 rfl e3 ?_
  exact kk
theorem b97_8T {d : Nat} {q : Option Value × qH} {h : qH} {r0 : Nat} {x1 : Int32} {x2 : Int32} {h1 : qH} {z1 : Int32}  (e2 : qCall d 143 [.long (x2 : Int32).toInt64, .long 1, .long 1000] h ((some (.int z1)), h1)) (e3 : ¬ ((z1 : Int32) = 0)) (kk : qE d 97 22 [some (.ref r0), some (.int x1), some (.int x2)] [] h1 q): qE d 97 8 [some (.ref r0), some (.int x1), some (.int x2)] [] h q := by
  refine qe_iload_n c97_8 rfl ?_
  refine qe_i2l c97_9 ?_
  refine qe_lconst (x := 1) c97_10 (by decide) ?_
  refine qe_ldc2_w (x := 1000) c97_11 qo97 qJ12_228 ?_
  refine qe_static (as := [.long (x2 : Int32).toInt64, .long 1, .long 1000]) (r := []) (v := (some (.int z1))) (h2 := h1) c97_14 qo97 (by decide) qK12_190 rfl rfl rfl (Nat.le_of_ble_eq_true rfl) e2 ?_
  refine qe_if_ne_T (t := 22) c97_17 rfl e3 ?_
  exact kk
theorem b97_20 {d : Nat} {h : qH} {r0 : Nat} {x1 : Int32} {x2 : Int32}   : qE d 97 20 [some (.ref r0), some (.int x1), some (.int x2)] [] h (some (.int 0), h) := by
  refine qe_iconst (x := 0) c97_20 (by decide) ?_
  exact qe_zret c97_21 qr97 (by decide)
theorem b97_22 {d : Nat} {h : qH} {r0 : Nat} {x1 : Int32} {x2 : Int32} {fs1 : List Value} {y3 : Nat} {n5 : Nat} {f6 : Nat → Int32} {h1 : qH}  (e2 : h.2.2 r0 = some (.inr (12, fs1))) (e4 : fs1[18]? = some (.ref y3)) (e7 : h.2.2 y3 = some (.inl (0, n5, .inl f6))) (e8 : 0 ≤ (x1 : Int32).toInt ∧ (x1 : Int32).toInt < (n5 : Nat)) (e9 : qset h y3 (.inl (0, n5, .inl (upd f6 ((x1 : Int32).toNatClampNeg) x2))) = h1) : qE d 97 22 [some (.ref r0), some (.int x1), some (.int x2)] [] h (some (.int 1), h1) := by
  refine qe_aload_n c97_22 rfl ?_
  refine qe_getfield c97_23 qo97 qF12_39 e2 e4 ?_
  refine qe_iload_n c97_26 rfl ?_
  refine qe_iload_n c97_27 rfl ?_
  refine qe_iastore c97_28 e7 e8 ?_
  rw [e9]
  refine qe_iconst (x := 1) c97_29 (by decide) ?_
  exact qe_zret c97_30 qr97 (by decide)
theorem b98_0F {d : Nat} {q : Option Value × qH} {h : qH} {r0 : Nat} {x1 : Int32} {fs1 : List Value} {y3 : Int32} {h1 : qH} {z5 : Int32}  (e2 : h.2.2 r0 = some (.inr (12, fs1))) (e4 : fs1[4]? = some (.int y3)) (e6 : qCall d 143 [.long (x1 : Int32).toInt64, .long 20, .long ((19 + y3) : Int32).toInt64] h ((some (.int z5)), h1)) (e7 : ¬ ((z5 : Int32) = 0)) (kk : qE d 98 19 [some (.ref r0), some (.int x1)] [] h1 q): qE d 98 0 [some (.ref r0), some (.int x1)] [] h q := by
  refine qe_iload_n c98_0 rfl ?_
  refine qe_i2l c98_1 ?_
  refine qe_ldc2_w (x := 20) c98_2 qo98 qJ12_544 ?_
  refine qe_bipush (x := 19) c98_5 (by decide) ?_
  refine qe_aload_n c98_7 rfl ?_
  refine qe_getfield c98_8 qo98 qF12_194 e2 e4 ?_
  refine qe_iadd c98_11 ?_
  refine qe_i2l c98_12 ?_
  refine qe_static (as := [.long (x1 : Int32).toInt64, .long 20, .long ((19 + y3) : Int32).toInt64]) (r := []) (v := (some (.int z5))) (h2 := h1) c98_13 qo98 (by decide) qK12_190 rfl rfl rfl (Nat.le_of_ble_eq_true rfl) e6 ?_
  refine qe_if_eq_F (t := 29) c98_16 rfl e7 ?_
  exact kk
theorem b98_0T {d : Nat} {q : Option Value × qH} {h : qH} {r0 : Nat} {x1 : Int32} {fs1 : List Value} {y3 : Int32} {h1 : qH} {z5 : Int32}  (e2 : h.2.2 r0 = some (.inr (12, fs1))) (e4 : fs1[4]? = some (.int y3)) (e6 : qCall d 143 [.long (x1 : Int32).toInt64, .long 20, .long ((19 + y3) : Int32).toInt64] h ((some (.int z5)), h1)) (e7 : (z5 : Int32) = 0) (kk : qE d 98 29 [some (.ref r0), some (.int x1)] [] h1 q): qE d 98 0 [some (.ref r0), some (.int x1)] [] h q := by
  refine qe_iload_n c98_0 rfl ?_
  refine qe_i2l c98_1 ?_
  refine qe_ldc2_w (x := 20) c98_2 qo98 qJ12_544 ?_
  refine qe_bipush (x := 19) c98_5 (by decide) ?_
  refine qe_aload_n c98_7 rfl ?_
  refine qe_getfield c98_8 qo98 qF12_194 e2 e4 ?_
  refine qe_iadd c98_11 ?_
  refine qe_i2l c98_12 ?_
  refine qe_static (as := [.long (x1 : Int32).toInt64, .long 20, .long ((19 + y3) : Int32).toInt64]) (r := []) (v := (some (.int z5))) (h2 := h1) c98_13 qo98 (by decide) qK12_190 rfl rfl rfl (Nat.le_of_ble_eq_true rfl) e6 ?_
  refine qe_if_eq_T (t := 29) c98_16 rfl e7 ?_
  exact kk
theorem b98_19 {d : Nat} {h : qH} {r0 : Nat} {x1 : Int32} {fs1 : List Value} {y3 : Nat} {n5 : Nat} {f6 : Nat → Int32}  (e2 : h.2.2 r0 = some (.inr (12, fs1))) (e4 : fs1[18]? = some (.ref y3)) (e7 : h.2.2 y3 = some (.inl (0, n5, .inl f6))) (e8 : 0 ≤ ((x1 - 20) : Int32).toInt ∧ ((x1 - 20) : Int32).toInt < (n5 : Nat)) : qE d 98 19 [some (.ref r0), some (.int x1)] [] h (some (.int (f6 ((x1 - 20) : Int32).toNatClampNeg)), h) := by
  refine qe_aload_n c98_19 rfl ?_
  refine qe_getfield c98_20 qo98 qF12_39 e2 e4 ?_
  refine qe_iload_n c98_23 rfl ?_
  refine qe_bipush (x := 20) c98_24 (by decide) ?_
  refine qe_isub c98_26 ?_
  refine qe_iaload c98_27 e7 e8 ?_
  exact qe_iret c98_28 qr98
theorem b98_29D {d : Nat} {q : Option Value × qH} {h : qH} {r0 : Nat} {x1 : Int32}  (e1 : (x1 : Int32).toInt < 0 ∨ 10 < (x1 : Int32).toInt) (kk : qE d 98 149 [some (.ref r0), some (.int x1)] [] h q): qE d 98 29 [some (.ref r0), some (.int x1)] [] h q := by
  refine qe_iload_n c98_29 rfl ?_
  refine qe_tableD (t := 149) c98_30 e1 rfl ?_
  exact kk
theorem b98_29s10 {d : Nat} {q : Option Value × qH} {h : qH} {r0 : Nat} {x1 : Int32}  (e1 : (x1 : Int32).toInt = 10) (kk : qE d 98 141 [some (.ref r0), some (.int x1)] [] h q): qE d 98 29 [some (.ref r0), some (.int x1)] [] h q := by
  refine qe_iload_n c98_29 rfl ?_
  refine qe_table (off := 111) (t := 141) c98_30 (by rw [e1]; decide) (by rw [e1]; decide) rfl ?_
  exact kk
theorem b98_29s9 {d : Nat} {q : Option Value × qH} {h : qH} {r0 : Nat} {x1 : Int32}  (e1 : (x1 : Int32).toInt = 9) (kk : qE d 98 133 [some (.ref r0), some (.int x1)] [] h q): qE d 98 29 [some (.ref r0), some (.int x1)] [] h q := by
  refine qe_iload_n c98_29 rfl ?_
  refine qe_table (off := 103) (t := 133) c98_30 (by rw [e1]; decide) (by rw [e1]; decide) rfl ?_
  exact kk
theorem b98_29s8 {d : Nat} {q : Option Value × qH} {h : qH} {r0 : Nat} {x1 : Int32}  (e1 : (x1 : Int32).toInt = 8) (kk : qE d 98 128 [some (.ref r0), some (.int x1)] [] h q): qE d 98 29 [some (.ref r0), some (.int x1)] [] h q := by
  refine qe_iload_n c98_29 rfl ?_
  refine qe_table (off := 98) (t := 128) c98_30 (by rw [e1]; decide) (by rw [e1]; decide) rfl ?_
  exact kk
theorem b98_29s7 {d : Nat} {q : Option Value × qH} {h : qH} {r0 : Nat} {x1 : Int32}  (e1 : (x1 : Int32).toInt = 7) (kk : qE d 98 123 [some (.ref r0), some (.int x1)] [] h q): qE d 98 29 [some (.ref r0), some (.int x1)] [] h q := by
  refine qe_iload_n c98_29 rfl ?_
  refine qe_table (off := 93) (t := 123) c98_30 (by rw [e1]; decide) (by rw [e1]; decide) rfl ?_
  exact kk
theorem b98_29s6 {d : Nat} {q : Option Value × qH} {h : qH} {r0 : Nat} {x1 : Int32}  (e1 : (x1 : Int32).toInt = 6) (kk : qE d 98 118 [some (.ref r0), some (.int x1)] [] h q): qE d 98 29 [some (.ref r0), some (.int x1)] [] h q := by
  refine qe_iload_n c98_29 rfl ?_
  refine qe_table (off := 88) (t := 118) c98_30 (by rw [e1]; decide) (by rw [e1]; decide) rfl ?_
  exact kk
theorem b98_29s5 {d : Nat} {q : Option Value × qH} {h : qH} {r0 : Nat} {x1 : Int32}  (e1 : (x1 : Int32).toInt = 5) (kk : qE d 98 113 [some (.ref r0), some (.int x1)] [] h q): qE d 98 29 [some (.ref r0), some (.int x1)] [] h q := by
  refine qe_iload_n c98_29 rfl ?_
  refine qe_table (off := 83) (t := 113) c98_30 (by rw [e1]; decide) (by rw [e1]; decide) rfl ?_
  exact kk
theorem b98_29s4 {d : Nat} {q : Option Value × qH} {h : qH} {r0 : Nat} {x1 : Int32}  (e1 : (x1 : Int32).toInt = 4) (kk : qE d 98 108 [some (.ref r0), some (.int x1)] [] h q): qE d 98 29 [some (.ref r0), some (.int x1)] [] h q := by
  refine qe_iload_n c98_29 rfl ?_
  refine qe_table (off := 78) (t := 108) c98_30 (by rw [e1]; decide) (by rw [e1]; decide) rfl ?_
  exact kk
theorem b98_29s3 {d : Nat} {q : Option Value × qH} {h : qH} {r0 : Nat} {x1 : Int32}  (e1 : (x1 : Int32).toInt = 3) (kk : qE d 98 103 [some (.ref r0), some (.int x1)] [] h q): qE d 98 29 [some (.ref r0), some (.int x1)] [] h q := by
  refine qe_iload_n c98_29 rfl ?_
  refine qe_table (off := 73) (t := 103) c98_30 (by rw [e1]; decide) (by rw [e1]; decide) rfl ?_
  exact kk
theorem b98_29s2 {d : Nat} {q : Option Value × qH} {h : qH} {r0 : Nat} {x1 : Int32}  (e1 : (x1 : Int32).toInt = 2) (kk : qE d 98 98 [some (.ref r0), some (.int x1)] [] h q): qE d 98 29 [some (.ref r0), some (.int x1)] [] h q := by
  refine qe_iload_n c98_29 rfl ?_
  refine qe_table (off := 68) (t := 98) c98_30 (by rw [e1]; decide) (by rw [e1]; decide) rfl ?_
  exact kk
theorem b98_29s1 {d : Nat} {q : Option Value × qH} {h : qH} {r0 : Nat} {x1 : Int32}  (e1 : (x1 : Int32).toInt = 1) (kk : qE d 98 93 [some (.ref r0), some (.int x1)] [] h q): qE d 98 29 [some (.ref r0), some (.int x1)] [] h q := by
  refine qe_iload_n c98_29 rfl ?_
  refine qe_table (off := 63) (t := 93) c98_30 (by rw [e1]; decide) (by rw [e1]; decide) rfl ?_
  exact kk
theorem b98_29s0 {d : Nat} {q : Option Value × qH} {h : qH} {r0 : Nat} {x1 : Int32}  (e1 : (x1 : Int32).toInt = 0) (kk : qE d 98 88 [some (.ref r0), some (.int x1)] [] h q): qE d 98 29 [some (.ref r0), some (.int x1)] [] h q := by
  refine qe_iload_n c98_29 rfl ?_
  refine qe_table (off := 58) (t := 88) c98_30 (by rw [e1]; decide) (by rw [e1]; decide) rfl ?_
  exact kk
theorem b98_88 {d : Nat} {h : qH} {r0 : Nat} {x1 : Int32} {fs1 : List Value} {y3 : Int32}  (e2 : h.2.2 r0 = some (.inr (12, fs1))) (e4 : fs1[2]? = some (.int y3)) : qE d 98 88 [some (.ref r0), some (.int x1)] [] h (some (.int y3), h) := by
  refine qe_aload_n c98_88 rfl ?_
  refine qe_getfield c98_89 qo98 qF12_202 e2 e4 ?_
  exact qe_iret c98_92 qr98
theorem b98_93 {d : Nat} {h : qH} {r0 : Nat} {x1 : Int32} {fs1 : List Value} {y3 : Int32}  (e2 : h.2.2 r0 = some (.inr (12, fs1))) (e4 : fs1[3]? = some (.int y3)) : qE d 98 93 [some (.ref r0), some (.int x1)] [] h (some (.int y3), h) := by
  refine qe_aload_n c98_93 rfl ?_
  refine qe_getfield c98_94 qo98 qF12_186 e2 e4 ?_
  exact qe_iret c98_97 qr98
theorem b98_98 {d : Nat} {h : qH} {r0 : Nat} {x1 : Int32} {fs1 : List Value} {y3 : Int32}  (e2 : h.2.2 r0 = some (.inr (12, fs1))) (e4 : fs1[4]? = some (.int y3)) : qE d 98 98 [some (.ref r0), some (.int x1)] [] h (some (.int y3), h) := by
  refine qe_aload_n c98_98 rfl ?_
  refine qe_getfield c98_99 qo98 qF12_194 e2 e4 ?_
  exact qe_iret c98_102 qr98
theorem b98_103 {d : Nat} {h : qH} {r0 : Nat} {x1 : Int32} {fs1 : List Value} {y3 : Int32}  (e2 : h.2.2 r0 = some (.inr (12, fs1))) (e4 : fs1[5]? = some (.int y3)) : qE d 98 103 [some (.ref r0), some (.int x1)] [] h (some (.int y3), h) := by
  refine qe_aload_n c98_103 rfl ?_
  refine qe_getfield c98_104 qo98 qF12_197 e2 e4 ?_
  exact qe_iret c98_107 qr98
theorem b98_108 {d : Nat} {h : qH} {r0 : Nat} {x1 : Int32} {fs1 : List Value} {y3 : Int32}  (e2 : h.2.2 r0 = some (.inr (12, fs1))) (e4 : fs1[7]? = some (.int y3)) : qE d 98 108 [some (.ref r0), some (.int x1)] [] h (some (.int y3), h) := by
  refine qe_aload_n c98_108 rfl ?_
  refine qe_getfield c98_109 qo98 qF12_461 e2 e4 ?_
  exact qe_iret c98_112 qr98
theorem b98_113 {d : Nat} {h : qH} {r0 : Nat} {x1 : Int32} {fs1 : List Value} {y3 : Int32}  (e2 : h.2.2 r0 = some (.inr (12, fs1))) (e4 : fs1[6]? = some (.int y3)) : qE d 98 113 [some (.ref r0), some (.int x1)] [] h (some (.int y3), h) := by
  refine qe_aload_n c98_113 rfl ?_
  refine qe_getfield c98_114 qo98 qF12_393 e2 e4 ?_
  exact qe_iret c98_117 qr98
theorem b98_118 {d : Nat} {h : qH} {r0 : Nat} {x1 : Int32} {fs1 : List Value} {y3 : Int32}  (e2 : h.2.2 r0 = some (.inr (12, fs1))) (e4 : fs1[8]? = some (.int y3)) : qE d 98 118 [some (.ref r0), some (.int x1)] [] h (some (.int y3), h) := by
  refine qe_aload_n c98_118 rfl ?_
  refine qe_getfield c98_119 qo98 qF12_505 e2 e4 ?_
  exact qe_iret c98_122 qr98
theorem b98_123 {d : Nat} {h : qH} {r0 : Nat} {x1 : Int32} {fs1 : List Value} {y3 : Int32}  (e2 : h.2.2 r0 = some (.inr (12, fs1))) (e4 : fs1[9]? = some (.int y3)) : qE d 98 123 [some (.ref r0), some (.int x1)] [] h (some (.int y3), h) := by
  refine qe_aload_n c98_123 rfl ?_
  refine qe_getfield c98_124 qo98 qF12_510 e2 e4 ?_
  exact qe_iret c98_127 qr98
theorem b98_128 {d : Nat} {h : qH} {r0 : Nat} {x1 : Int32} {fs1 : List Value} {y3 : Int32}  (e2 : h.2.2 r0 = some (.inr (12, fs1))) (e4 : fs1[1]? = some (.int y3)) : qE d 98 128 [some (.ref r0), some (.int x1)] [] h (some (.int y3), h) := by
  refine qe_aload_n c98_128 rfl ?_
  refine qe_getfield c98_129 qo98 qF12_283 e2 e4 ?_
  exact qe_iret c98_132 qr98
theorem b98_133 {d : Nat} {h : qH} {r0 : Nat} {x1 : Int32} {fs1 : List Value} {y3 : Nat} {n5 : Nat} {f6 : Nat → Int32}  (e2 : h.2.2 r0 = some (.inr (12, fs1))) (e4 : fs1[10]? = some (.ref y3)) (e7 : h.2.2 y3 = some (.inl (0, n5, .inl f6))) (e8 : 0 ≤ (36069 : Int32).toInt ∧ (36069 : Int32).toInt < (n5 : Nat)) : qE d 98 133 [some (.ref r0), some (.int x1)] [] h (some (.int (f6 (36069 : Int32).toNatClampNeg)), h) := by
  refine qe_aload_n c98_133 rfl ?_
  refine qe_getfield c98_134 qo98 qF12_14 e2 e4 ?_
  refine qe_ldc (x := 36069) c98_137 qo98 qI12_185 ?_
  refine qe_iaload c98_139 e7 e8 ?_
  exact qe_iret c98_140 qr98
theorem b98_141 {d : Nat} {h : qH} {r0 : Nat} {x1 : Int32} {fs1 : List Value} {h1 : qH} {z3 : Int64}  (e2 : h.2.2 r0 = some (.inr (12, fs1))) (e4 : qCall d 163 [.ref r0, .int 36000] h ((some (.long z3)), h1)) : qE d 98 141 [some (.ref r0), some (.int x1)] [] h (some (.int (z3 : Int64).toInt32), h1) := by
  refine qe_aload_n c98_141 rfl ?_
  refine qe_ldc (x := 36000) c98_142 qo98 qI12_230 ?_
  refine qe_virtual (b := r0) (as := [.int 36000]) (r := []) (v := (some (.long z3))) (h2 := h1) c98_144 qo98 qK12_405 rfl rfl rfl (by rw [qo163]; exact e2) (Nat.le_of_ble_eq_true rfl) e4 ?_
  refine qe_l2i c98_147 ?_
  exact qe_iret c98_148 qr98
theorem b98_149 {d : Nat} {h : qH} {r0 : Nat} {x1 : Int32}   : qE d 98 149 [some (.ref r0), some (.int x1)] [] h (some (.int (-1)), h) := by
  refine qe_iconst (x := (-1)) c98_149 (by decide) ?_
  exact qe_iret c98_150 qr98
theorem b99_0F {d : Nat} {q : Option Value × qH} {h : qH} {r0 : Nat} {x1 : Int32} {x2 : Int32} {x3 : Int32} {h1 : qH} {z1 : Int32}  (e2 : qCall d 143 [.long (x1 : Int32).toInt64, .long 0, .long 10000] h ((some (.int z1)), h1)) (e3 : ¬ ((z1 : Int32) = 0)) (kk : qE d 99 12 [some (.ref r0), some (.int x1), some (.int x2), some (.int x3), none, none, none, none, none, none, none, none, none, none] [] h1 q): qE d 99 0 [some (.ref r0), some (.int x1), some (.int x2), some (.int x3), none, none, none, none, none, none, none, none, none, none] [] h q := by
  refine qe_iload_n c99_0 rfl ?_
  refine qe_i2l c99_1 ?_
  refine qe_lconst (x := 0) c99_2 (by decide) ?_
  refine qe_ldc2_w (x := 10000) c99_3 qo99 qJ12_536 ?_
  refine qe_static (as := [.long (x1 : Int32).toInt64, .long 0, .long 10000]) (r := []) (v := (some (.int z1))) (h2 := h1) c99_6 qo99 (by decide) qK12_190 rfl rfl rfl (Nat.le_of_ble_eq_true rfl) e2 ?_
  refine qe_if_eq_F (t := 29) c99_9 rfl e3 ?_
  exact kk
theorem b99_0T {d : Nat} {q : Option Value × qH} {h : qH} {r0 : Nat} {x1 : Int32} {x2 : Int32} {x3 : Int32} {h1 : qH} {z1 : Int32}  (e2 : qCall d 143 [.long (x1 : Int32).toInt64, .long 0, .long 10000] h ((some (.int z1)), h1)) (e3 : (z1 : Int32) = 0) (kk : qE d 99 29 [some (.ref r0), some (.int x1), some (.int x2), some (.int x3), none, none, none, none, none, none, none, none, none, none] [] h1 q): qE d 99 0 [some (.ref r0), some (.int x1), some (.int x2), some (.int x3), none, none, none, none, none, none, none, none, none, none] [] h q := by
  refine qe_iload_n c99_0 rfl ?_
  refine qe_i2l c99_1 ?_
  refine qe_lconst (x := 0) c99_2 (by decide) ?_
  refine qe_ldc2_w (x := 10000) c99_3 qo99 qJ12_536 ?_
  refine qe_static (as := [.long (x1 : Int32).toInt64, .long 0, .long 10000]) (r := []) (v := (some (.int z1))) (h2 := h1) c99_6 qo99 (by decide) qK12_190 rfl rfl rfl (Nat.le_of_ble_eq_true rfl) e2 ?_
  refine qe_if_eq_T (t := 29) c99_9 rfl e3 ?_
  exact kk
theorem b99_12F {d : Nat} {q : Option Value × qH} {h : qH} {r0 : Nat} {x1 : Int32} {x2 : Int32} {x3 : Int32} {h1 : qH} {z1 : Int32}  (e2 : qCall d 127 [.int x2] h ((some (.int z1)), h1)) (e3 : ¬ ((z1 : Int32) = 0)) (kk : qE d 99 19 [some (.ref r0), some (.int x1), some (.int x2), some (.int x3), none, none, none, none, none, none, none, none, none, none] [] h1 q): qE d 99 12 [some (.ref r0), some (.int x1), some (.int x2), some (.int x3), none, none, none, none, none, none, none, none, none, none] [] h q := by
  refine qe_iload_n c99_12 rfl ?_
  refine qe_static (as := [.int x2]) (r := []) (v := (some (.int z1))) (h2 := h1) c99_13 qo99 (by decide) qK12_493 rfl rfl rfl (Nat.le_of_ble_eq_true rfl) e2 ?_
  refine qe_if_eq_F (t := 29) c99_16 rfl e3 ?_
  exact kk
theorem b99_12T {d : Nat} {q : Option Value × qH} {h : qH} {r0 : Nat} {x1 : Int32} {x2 : Int32} {x3 : Int32} {h1 : qH} {z1 : Int32}  (e2 : qCall d 127 [.int x2] h ((some (.int z1)), h1)) (e3 : (z1 : Int32) = 0) (kk : qE d 99 29 [some (.ref r0), some (.int x1), some (.int x2), some (.int x3), none, none, none, none, none, none, none, none, none, none] [] h1 q): qE d 99 12 [some (.ref r0), some (.int x1), some (.int x2), some (.int x3), none, none, none, none, none, none, none, none, none, none] [] h q := by
  refine qe_iload_n c99_12 rfl ?_
  refine qe_static (as := [.int x2]) (r := []) (v := (some (.int z1))) (h2 := h1) c99_13 qo99 (by decide) qK12_493 rfl rfl rfl (Nat.le_of_ble_eq_true rfl) e2 ?_
  refine qe_if_eq_T (t := 29) c99_16 rfl e3 ?_
  exact kk
theorem b99_19F {d : Nat} {q : Option Value × qH} {h : qH} {r0 : Nat} {x1 : Int32} {x2 : Int32} {x3 : Int32} {h1 : qH} {z1 : Int32}  (e2 : qCall d 143 [.long (x3 : Int32).toInt64, .long 0, .long 1] h ((some (.int z1)), h1)) (e3 : (z1 : Int32) = 0) (kk : qE d 99 29 [some (.ref r0), some (.int x1), some (.int x2), some (.int x3), none, none, none, none, none, none, none, none, none, none] [] h1 q): qE d 99 19 [some (.ref r0), some (.int x1), some (.int x2), some (.int x3), none, none, none, none, none, none, none, none, none, none] [] h q := by
  refine qe_iload_n c99_19 rfl ?_
  refine qe_i2l c99_20 ?_
  refine qe_lconst (x := 0) c99_21 (by decide) ?_
  refine qe_lconst (x := 1) c99_22 (by decide) ?_
  refine qe_static (as := [.long (x3 : Int32).toInt64, .long 0, .long 1]) (r := []) (v := (some (.int z1))) (h2 := h1) c99_23 qo99 (by decide) qK12_190 rfl rfl rfl (Nat.le_of_ble_eq_true rfl) e2 ?_
  refine qe_if_ne_F (t := 31) c99_26 rfl e3 ?_
  exact kk
theorem b99_19T {d : Nat} {q : Option Value × qH} {h : qH} {r0 : Nat} {x1 : Int32} {x2 : Int32} {x3 : Int32} {h1 : qH} {z1 : Int32}  (e2 : qCall d 143 [.long (x3 : Int32).toInt64, .long 0, .long 1] h ((some (.int z1)), h1)) (e3 : ¬ ((z1 : Int32) = 0)) (kk : qE d 99 31 [some (.ref r0), some (.int x1), some (.int x2), some (.int x3), none, none, none, none, none, none, none, none, none, none] [] h1 q): qE d 99 19 [some (.ref r0), some (.int x1), some (.int x2), some (.int x3), none, none, none, none, none, none, none, none, none, none] [] h q := by
  refine qe_iload_n c99_19 rfl ?_
  refine qe_i2l c99_20 ?_
  refine qe_lconst (x := 0) c99_21 (by decide) ?_
  refine qe_lconst (x := 1) c99_22 (by decide) ?_
  refine qe_static (as := [.long (x3 : Int32).toInt64, .long 0, .long 1]) (r := []) (v := (some (.int z1))) (h2 := h1) c99_23 qo99 (by decide) qK12_190 rfl rfl rfl (Nat.le_of_ble_eq_true rfl) e2 ?_
  refine qe_if_ne_T (t := 31) c99_26 rfl e3 ?_
  exact kk
theorem b99_29 {d : Nat} {h : qH} {r0 : Nat} {x1 : Int32} {x2 : Int32} {x3 : Int32}   : qE d 99 29 [some (.ref r0), some (.int x1), some (.int x2), some (.int x3), none, none, none, none, none, none, none, none, none, none] [] h (some (.int (-1)), h) := by
  refine qe_iconst (x := (-1)) c99_29 (by decide) ?_
  exact qe_iret c99_30 qr99
theorem b99_31 {d : Nat} {q : Option Value × qH} {h : qH} {r0 : Nat} {x1 : Int32} {x2 : Int32} {x3 : Int32}   (kk : qE d 99 37 [some (.ref r0), some (.int x1), some (.int x2), some (.int x3), some (.int 0), some (.int 0), none, none, none, none, none, none, none, none] [] h q): qE d 99 31 [some (.ref r0), some (.int x1), some (.int x2), some (.int x3), none, none, none, none, none, none, none, none, none, none] [] h q := by
  refine qe_iconst (x := 0) c99_31 (by decide) ?_
  refine qe_istore (ls2 := [some (.ref r0), some (.int x1), some (.int x2), some (.int x3), some (.int 0), none, none, none, none, none, none, none, none, none]) c99_32 (Nat.le_of_ble_eq_true rfl) rfl ?_
  refine qe_iconst (x := 0) c99_34 (by decide) ?_
  refine qe_istore (ls2 := [some (.ref r0), some (.int x1), some (.int x2), some (.int x3), some (.int 0), some (.int 0), none, none, none, none, none, none, none, none]) c99_35 (Nat.le_of_ble_eq_true rfl) rfl ?_
  exact kk
theorem b99_37F {d : Nat} {q : Option Value × qH} {h : qH} {r0 : Nat} {x1 : Int32} {x2 : Int32} {x3 : Int32} {x4 : Int32} {x5 : Int32} {fs1 : List Value} {y3 : Int32}  (e2 : h.2.2 r0 = some (.inr (12, fs1))) (e4 : fs1[4]? = some (.int y3)) (e5 : ¬ ((y3 : Int32) ≤ x5)) (kk : qE d 99 46 [some (.ref r0), some (.int x1), some (.int x2), some (.int x3), some (.int x4), some (.int x5), none, none, none, none, none, none, none, none] [] h q): qE d 99 37 [some (.ref r0), some (.int x1), some (.int x2), some (.int x3), some (.int x4), some (.int x5), none, none, none, none, none, none, none, none] [] h q := by
  refine qe_iload c99_37 rfl ?_
  refine qe_aload_n c99_39 rfl ?_
  refine qe_getfield c99_40 qo99 qF12_194 e2 e4 ?_
  refine qe_icmp_ge_F (t := 100) c99_43 rfl e5 ?_
  exact kk
theorem b99_37T {d : Nat} {q : Option Value × qH} {h : qH} {r0 : Nat} {x1 : Int32} {x2 : Int32} {x3 : Int32} {x4 : Int32} {x5 : Int32} {fs1 : List Value} {y3 : Int32}  (e2 : h.2.2 r0 = some (.inr (12, fs1))) (e4 : fs1[4]? = some (.int y3)) (e5 : (y3 : Int32) ≤ x5) (kk : qE d 99 100 [some (.ref r0), some (.int x1), some (.int x2), some (.int x3), some (.int x4), some (.int x5), none, none, none, none, none, none, none, none] [] h q): qE d 99 37 [some (.ref r0), some (.int x1), some (.int x2), some (.int x3), some (.int x4), some (.int x5), none, none, none, none, none, none, none, none] [] h q := by
  refine qe_iload c99_37 rfl ?_
  refine qe_aload_n c99_39 rfl ?_
  refine qe_getfield c99_40 qo99 qF12_194 e2 e4 ?_
  refine qe_icmp_ge_T (t := 100) c99_43 rfl e5 ?_
  exact kk
theorem b99_46F {d : Nat} {q : Option Value × qH} {h : qH} {r0 : Nat} {x1 : Int32} {x2 : Int32} {x3 : Int32} {x4 : Int32} {x5 : Int32}  (e1 : ¬ ((8 : Int32) ≤ x4)) (kk : qE d 99 53 [some (.ref r0), some (.int x1), some (.int x2), some (.int x3), some (.int x4), some (.int x5), none, none, none, none, none, none, none, none] [] h q): qE d 99 46 [some (.ref r0), some (.int x1), some (.int x2), some (.int x3), some (.int x4), some (.int x5), none, none, none, none, none, none, none, none] [] h q := by
  refine qe_iload c99_46 rfl ?_
  refine qe_bipush (x := 8) c99_48 (by decide) ?_
  refine qe_icmp_ge_F (t := 100) c99_50 rfl e1 ?_
  exact kk
theorem b99_46T {d : Nat} {q : Option Value × qH} {h : qH} {r0 : Nat} {x1 : Int32} {x2 : Int32} {x3 : Int32} {x4 : Int32} {x5 : Int32}  (e1 : (8 : Int32) ≤ x4) (kk : qE d 99 100 [some (.ref r0), some (.int x1), some (.int x2), some (.int x3), some (.int x4), some (.int x5), none, none, none, none, none, none, none, none] [] h q): qE d 99 46 [some (.ref r0), some (.int x1), some (.int x2), some (.int x3), some (.int x4), some (.int x5), none, none, none, none, none, none, none, none] [] h q := by
  refine qe_iload c99_46 rfl ?_
  refine qe_bipush (x := 8) c99_48 (by decide) ?_
  refine qe_icmp_ge_T (t := 100) c99_50 rfl e1 ?_
  exact kk
theorem b99_53F {d : Nat} {q : Option Value × qH} {h : qH} {r0 : Nat} {x1 : Int32} {x2 : Int32} {x3 : Int32} {x4 : Int32} {x5 : Int32} {fs1 : List Value} {y3 : Nat} {n5 : Nat} {f6 : Nat → Int32}  (e2 : h.2.2 r0 = some (.inr (12, fs1))) (e4 : fs1[10]? = some (.ref y3)) (e7 : h.2.2 y3 = some (.inl (0, n5, .inl f6))) (e8 : 0 ≤ ((36000 + x5) : Int32).toInt ∧ ((36000 + x5) : Int32).toInt < (n5 : Nat)) (e9 : ((f6 ((36000 + x5) : Int32).toNatClampNeg) : Int32) = 0) (kk : qE d 99 66 [some (.ref r0), some (.int x1), some (.int x2), some (.int x3), some (.int x4), some (.int x5), none, none, none, none, none, none, none, none] [] h q): qE d 99 53 [some (.ref r0), some (.int x1), some (.int x2), some (.int x3), some (.int x4), some (.int x5), none, none, none, none, none, none, none, none] [] h q := by
  refine qe_aload_n c99_53 rfl ?_
  refine qe_getfield c99_54 qo99 qF12_14 e2 e4 ?_
  refine qe_ldc (x := 36000) c99_57 qo99 qI12_230 ?_
  refine qe_iload c99_59 rfl ?_
  refine qe_iadd c99_61 ?_
  refine qe_iaload c99_62 e7 e8 ?_
  refine qe_if_ne_F (t := 94) c99_63 rfl e9 ?_
  exact kk
theorem b99_53T {d : Nat} {q : Option Value × qH} {h : qH} {r0 : Nat} {x1 : Int32} {x2 : Int32} {x3 : Int32} {x4 : Int32} {x5 : Int32} {fs1 : List Value} {y3 : Nat} {n5 : Nat} {f6 : Nat → Int32}  (e2 : h.2.2 r0 = some (.inr (12, fs1))) (e4 : fs1[10]? = some (.ref y3)) (e7 : h.2.2 y3 = some (.inl (0, n5, .inl f6))) (e8 : 0 ≤ ((36000 + x5) : Int32).toInt ∧ ((36000 + x5) : Int32).toInt < (n5 : Nat)) (e9 : ¬ (((f6 ((36000 + x5) : Int32).toNatClampNeg) : Int32) = 0)) (kk : qE d 99 94 [some (.ref r0), some (.int x1), some (.int x2), some (.int x3), some (.int x4), some (.int x5), none, none, none, none, none, none, none, none] [] h q): qE d 99 53 [some (.ref r0), some (.int x1), some (.int x2), some (.int x3), some (.int x4), some (.int x5), none, none, none, none, none, none, none, none] [] h q := by
  refine qe_aload_n c99_53 rfl ?_
  refine qe_getfield c99_54 qo99 qF12_14 e2 e4 ?_
  refine qe_ldc (x := 36000) c99_57 qo99 qI12_230 ?_
  refine qe_iload c99_59 rfl ?_
  refine qe_iadd c99_61 ?_
  refine qe_iaload c99_62 e7 e8 ?_
  refine qe_if_ne_T (t := 94) c99_63 rfl e9 ?_
  exact kk
theorem b99_66F {d : Nat} {q : Option Value × qH} {h : qH} {r0 : Nat} {x1 : Int32} {x2 : Int32} {x3 : Int32} {x4 : Int32} {x5 : Int32} {fs1 : List Value} {y3 : Nat} {n5 : Nat} {f6 : Nat → Int32}  (e2 : h.2.2 r0 = some (.inr (12, fs1))) (e4 : fs1[10]? = some (.ref y3)) (e7 : h.2.2 y3 = some (.inl (0, n5, .inl f6))) (e8 : 0 ≤ ((36028 + x5) : Int32).toInt ∧ ((36028 + x5) : Int32).toInt < (n5 : Nat)) (e9 : ((f6 ((36028 + x5) : Int32).toNatClampNeg) : Int32) = 0) (kk : qE d 99 79 [some (.ref r0), some (.int x1), some (.int x2), some (.int x3), some (.int x4), some (.int x5), none, none, none, none, none, none, none, none] [] h q): qE d 99 66 [some (.ref r0), some (.int x1), some (.int x2), some (.int x3), some (.int x4), some (.int x5), none, none, none, none, none, none, none, none] [] h q := by
  refine qe_aload_n c99_66 rfl ?_
  refine qe_getfield c99_67 qo99 qF12_14 e2 e4 ?_
  refine qe_ldc (x := 36028) c99_70 qo99 qI12_227 ?_
  refine qe_iload c99_72 rfl ?_
  refine qe_iadd c99_74 ?_
  refine qe_iaload c99_75 e7 e8 ?_
  refine qe_if_ne_F (t := 82) c99_76 rfl e9 ?_
  exact kk
theorem b99_66T {d : Nat} {q : Option Value × qH} {h : qH} {r0 : Nat} {x1 : Int32} {x2 : Int32} {x3 : Int32} {x4 : Int32} {x5 : Int32} {fs1 : List Value} {y3 : Nat} {n5 : Nat} {f6 : Nat → Int32}  (e2 : h.2.2 r0 = some (.inr (12, fs1))) (e4 : fs1[10]? = some (.ref y3)) (e7 : h.2.2 y3 = some (.inl (0, n5, .inl f6))) (e8 : 0 ≤ ((36028 + x5) : Int32).toInt ∧ ((36028 + x5) : Int32).toInt < (n5 : Nat)) (e9 : ¬ (((f6 ((36028 + x5) : Int32).toNatClampNeg) : Int32) = 0)) (kk : qE d 99 82 [some (.ref r0), some (.int x1), some (.int x2), some (.int x3), some (.int x4), some (.int x5), none, none, none, none, none, none, none, none] [] h q): qE d 99 66 [some (.ref r0), some (.int x1), some (.int x2), some (.int x3), some (.int x4), some (.int x5), none, none, none, none, none, none, none, none] [] h q := by
  refine qe_aload_n c99_66 rfl ?_
  refine qe_getfield c99_67 qo99 qF12_14 e2 e4 ?_
  refine qe_ldc (x := 36028) c99_70 qo99 qI12_227 ?_
  refine qe_iload c99_72 rfl ?_
  refine qe_iadd c99_74 ?_
  refine qe_iaload c99_75 e7 e8 ?_
  refine qe_if_ne_T (t := 82) c99_76 rfl e9 ?_
  exact kk
theorem b99_79 {d : Nat} {q : Option Value × qH} {h : qH} {r0 : Nat} {x1 : Int32} {x2 : Int32} {x3 : Int32} {x4 : Int32} {x5 : Int32}   (kk : qE d 99 94 [some (.ref r0), some (.int x1), some (.int x2), some (.int x3), some (.int x4), some (.int x5), none, none, none, none, none, none, none, none] [] h q): qE d 99 79 [some (.ref r0), some (.int x1), some (.int x2), some (.int x3), some (.int x4), some (.int x5), none, none, none, none, none, none, none, none] [] h q := by
  refine qe_goto (t := 94) c99_79 rfl ?_
  exact kk
theorem b99_82 {d : Nat} {q : Option Value × qH} {h : qH} {r0 : Nat} {x1 : Int32} {x2 : Int32} {x3 : Int32} {x4 : Int32} {x5 : Int32} {fs1 : List Value} {y3 : Nat} {n5 : Nat} {f6 : Nat → Int32} {h1 : qH}  (e2 : h.2.2 r0 = some (.inr (12, fs1))) (e4 : fs1[79]? = some (.ref y3)) (e7 : h.2.2 y3 = some (.inl (0, n5, .inl f6))) (e8 : 0 ≤ (x4 : Int32).toInt ∧ (x4 : Int32).toInt < (n5 : Nat)) (e9 : qset h y3 (.inl (0, n5, .inl (upd f6 ((x4 : Int32).toNatClampNeg) x5))) = h1) (kk : qE d 99 94 [some (.ref r0), some (.int x1), some (.int x2), some (.int x3), some (.int (x4 + 1)), some (.int x5), none, none, none, none, none, none, none, none] [] h1 q): qE d 99 82 [some (.ref r0), some (.int x1), some (.int x2), some (.int x3), some (.int x4), some (.int x5), none, none, none, none, none, none, none, none] [] h q := by
  refine qe_aload_n c99_82 rfl ?_
  refine qe_getfield c99_83 qo99 qF12_182 e2 e4 ?_
  refine qe_iload c99_86 rfl ?_
  refine qe_iload c99_88 rfl ?_
  refine qe_iastore c99_90 e7 e8 ?_
  rw [e9]
  refine qe_iinc (y := (x4 + 1)) (ls2 := [some (.ref r0), some (.int x1), some (.int x2), some (.int x3), some (.int (x4 + 1)), some (.int x5), none, none, none, none, none, none, none, none]) c99_91 rfl (Nat.le_of_ble_eq_true rfl) rfl rfl ?_
  exact kk
theorem b99_94 {d : Nat} {q : Option Value × qH} {h : qH} {r0 : Nat} {x1 : Int32} {x2 : Int32} {x3 : Int32} {x4 : Int32} {x5 : Int32}   (kk : qE d 99 37 [some (.ref r0), some (.int x1), some (.int x2), some (.int x3), some (.int x4), some (.int (x5 + 1)), none, none, none, none, none, none, none, none] [] h q): qE d 99 94 [some (.ref r0), some (.int x1), some (.int x2), some (.int x3), some (.int x4), some (.int x5), none, none, none, none, none, none, none, none] [] h q := by
  refine qe_iinc (y := (x5 + 1)) (ls2 := [some (.ref r0), some (.int x1), some (.int x2), some (.int x3), some (.int x4), some (.int (x5 + 1)), none, none, none, none, none, none, none, none]) c99_94 rfl (Nat.le_of_ble_eq_true rfl) rfl rfl ?_
  refine qe_goto (t := 37) c99_97 rfl ?_
  exact kk
theorem b99_100 {d : Nat} {q : Option Value × qH} {h : qH} {r0 : Nat} {x1 : Int32} {x2 : Int32} {x3 : Int32} {x4 : Int32} {x5 : Int32}   (kk : qE d 99 112 [some (.ref r0), some (.int x1), some (.int x2), some (.int x3), some (.int x4), some (.int (-1)), some (.int 0), some (.long 0), none, some (.int 0), none, none, none, none] [] h q): qE d 99 100 [some (.ref r0), some (.int x1), some (.int x2), some (.int x3), some (.int x4), some (.int x5), none, none, none, none, none, none, none, none] [] h q := by
  refine qe_iconst (x := (-1)) c99_100 (by decide) ?_
  refine qe_istore (ls2 := [some (.ref r0), some (.int x1), some (.int x2), some (.int x3), some (.int x4), some (.int (-1)), none, none, none, none, none, none, none, none]) c99_101 (Nat.le_of_ble_eq_true rfl) rfl ?_
  refine qe_iconst (x := 0) c99_103 (by decide) ?_
  refine qe_istore (ls2 := [some (.ref r0), some (.int x1), some (.int x2), some (.int x3), some (.int x4), some (.int (-1)), some (.int 0), none, none, none, none, none, none, none]) c99_104 (Nat.le_of_ble_eq_true rfl) rfl ?_
  refine qe_lconst (x := 0) c99_106 (by decide) ?_
  refine qe_lstore (ls2 := [some (.ref r0), some (.int x1), some (.int x2), some (.int x3), some (.int x4), some (.int (-1)), some (.int 0), some (.long 0), none, none, none, none, none, none]) c99_107 (Nat.le_of_ble_eq_true rfl) rfl ?_
  refine qe_iconst (x := 0) c99_109 (by decide) ?_
  refine qe_istore (ls2 := [some (.ref r0), some (.int x1), some (.int x2), some (.int x3), some (.int x4), some (.int (-1)), some (.int 0), some (.long 0), none, some (.int 0), none, none, none, none]) c99_110 (Nat.le_of_ble_eq_true rfl) rfl ?_
  exact kk
theorem b99_112F {d : Nat} {q : Option Value × qH} {h : qH} {r0 : Nat} {x1 : Int32} {x2 : Int32} {x3 : Int32} {x4 : Int32} {x5 : Int32} {x6 : Int32} {l7 : Int64} {x9 : Int32} {o10 : Option Value} {o11 : Option Value} {o12 : Option Value}  (e1 : ¬ (((1 <<< (x4 &&& 31)) : Int32) ≤ x9)) (kk : qE d 99 121 [some (.ref r0), some (.int x1), some (.int x2), some (.int x3), some (.int x4), some (.int x5), some (.int x6), some (.long l7), none, some (.int x9), o10, o11, o12, none] [] h q): qE d 99 112 [some (.ref r0), some (.int x1), some (.int x2), some (.int x3), some (.int x4), some (.int x5), some (.int x6), some (.long l7), none, some (.int x9), o10, o11, o12, none] [] h q := by
  refine qe_iload c99_112 rfl ?_
  refine qe_iconst (x := 1) c99_114 (by decide) ?_
  refine qe_iload c99_115 rfl ?_
  refine qe_ishl c99_117 ?_
  refine qe_icmp_ge_F (t := 255) c99_118 rfl e1 ?_
  exact kk
theorem b99_112T {d : Nat} {q : Option Value × qH} {h : qH} {r0 : Nat} {x1 : Int32} {x2 : Int32} {x3 : Int32} {x4 : Int32} {x5 : Int32} {x6 : Int32} {l7 : Int64} {x9 : Int32} {o10 : Option Value} {o11 : Option Value} {o12 : Option Value}  (e1 : ((1 <<< (x4 &&& 31)) : Int32) ≤ x9) (kk : qE d 99 255 [some (.ref r0), some (.int x1), some (.int x2), some (.int x3), some (.int x4), some (.int x5), some (.int x6), some (.long l7), none, some (.int x9), o10, o11, o12, none] [] h q): qE d 99 112 [some (.ref r0), some (.int x1), some (.int x2), some (.int x3), some (.int x4), some (.int x5), some (.int x6), some (.long l7), none, some (.int x9), o10, o11, o12, none] [] h q := by
  refine qe_iload c99_112 rfl ?_
  refine qe_iconst (x := 1) c99_114 (by decide) ?_
  refine qe_iload c99_115 rfl ?_
  refine qe_ishl c99_117 ?_
  refine qe_icmp_ge_T (t := 255) c99_118 rfl e1 ?_
  exact kk
theorem b99_121 {d : Nat} {q : Option Value × qH} {h : qH} {r0 : Nat} {x1 : Int32} {x2 : Int32} {x3 : Int32} {x4 : Int32} {x5 : Int32} {x6 : Int32} {l7 : Int64} {x9 : Int32} {o10 : Option Value} {o11 : Option Value} {o12 : Option Value}   (kk : qE d 99 130 [some (.ref r0), some (.int x1), some (.int x2), some (.int x3), some (.int x4), some (.int x5), some (.int x6), some (.long l7), none, some (.int x9), some (.int 0), some (.int 0), some (.int 0), none] [] h q): qE d 99 121 [some (.ref r0), some (.int x1), some (.int x2), some (.int x3), some (.int x4), some (.int x5), some (.int x6), some (.long l7), none, some (.int x9), o10, o11, o12, none] [] h q := by
  refine qe_iconst (x := 0) c99_121 (by decide) ?_
  refine qe_istore (ls2 := [some (.ref r0), some (.int x1), some (.int x2), some (.int x3), some (.int x4), some (.int x5), some (.int x6), some (.long l7), none, some (.int x9), some (.int 0), o11, o12, none]) c99_122 (Nat.le_of_ble_eq_true rfl) rfl ?_
  refine qe_iconst (x := 0) c99_124 (by decide) ?_
  refine qe_istore (ls2 := [some (.ref r0), some (.int x1), some (.int x2), some (.int x3), some (.int x4), some (.int x5), some (.int x6), some (.long l7), none, some (.int x9), some (.int 0), some (.int 0), o12, none]) c99_125 (Nat.le_of_ble_eq_true rfl) rfl ?_
  refine qe_iconst (x := 0) c99_127 (by decide) ?_
  refine qe_istore (ls2 := [some (.ref r0), some (.int x1), some (.int x2), some (.int x3), some (.int x4), some (.int x5), some (.int x6), some (.long l7), none, some (.int x9), some (.int 0), some (.int 0), some (.int 0), none]) c99_128 (Nat.le_of_ble_eq_true rfl) rfl ?_
  exact kk
theorem b99_130F {d : Nat} {q : Option Value × qH} {h : qH} {r0 : Nat} {x1 : Int32} {x2 : Int32} {x3 : Int32} {x4 : Int32} {x5 : Int32} {x6 : Int32} {l7 : Int64} {x9 : Int32} {x10 : Int32} {x11 : Int32} {x12 : Int32}  (e1 : ¬ ((x4 : Int32) ≤ x12)) (kk : qE d 99 137 [some (.ref r0), some (.int x1), some (.int x2), some (.int x3), some (.int x4), some (.int x5), some (.int x6), some (.long l7), none, some (.int x9), some (.int x10), some (.int x11), some (.int x12), none] [] h q): qE d 99 130 [some (.ref r0), some (.int x1), some (.int x2), some (.int x3), some (.int x4), some (.int x5), some (.int x6), some (.long l7), none, some (.int x9), some (.int x10), some (.int x11), some (.int x12), none] [] h q := by
  refine qe_iload c99_130 rfl ?_
  refine qe_iload c99_132 rfl ?_
  refine qe_icmp_ge_F (t := 187) c99_134 rfl e1 ?_
  exact kk
theorem b99_130T {d : Nat} {q : Option Value × qH} {h : qH} {r0 : Nat} {x1 : Int32} {x2 : Int32} {x3 : Int32} {x4 : Int32} {x5 : Int32} {x6 : Int32} {l7 : Int64} {x9 : Int32} {x10 : Int32} {x11 : Int32} {x12 : Int32}  (e1 : (x4 : Int32) ≤ x12) (kk : qE d 99 187 [some (.ref r0), some (.int x1), some (.int x2), some (.int x3), some (.int x4), some (.int x5), some (.int x6), some (.long l7), none, some (.int x9), some (.int x10), some (.int x11), some (.int x12), none] [] h q): qE d 99 130 [some (.ref r0), some (.int x1), some (.int x2), some (.int x3), some (.int x4), some (.int x5), some (.int x6), some (.long l7), none, some (.int x9), some (.int x10), some (.int x11), some (.int x12), none] [] h q := by
  refine qe_iload c99_130 rfl ?_
  refine qe_iload c99_132 rfl ?_
  refine qe_icmp_ge_T (t := 187) c99_134 rfl e1 ?_
  exact kk
theorem b99_137F {d : Nat} {q : Option Value × qH} {h : qH} {r0 : Nat} {x1 : Int32} {x2 : Int32} {x3 : Int32} {x4 : Int32} {x5 : Int32} {x6 : Int32} {l7 : Int64} {x9 : Int32} {x10 : Int32} {x11 : Int32} {x12 : Int32} {h1 : qH} {z1 : Int32}  (e2 : qCall d 118 [.int x9, .int x12] h ((some (.int z1)), h1)) (e3 : (z1 : Int32) = 0) (kk : qE d 99 147 [some (.ref r0), some (.int x1), some (.int x2), some (.int x3), some (.int x4), some (.int x5), some (.int x6), some (.long l7), none, some (.int x9), some (.int x10), some (.int x11), some (.int x12), none] [] h1 q): qE d 99 137 [some (.ref r0), some (.int x1), some (.int x2), some (.int x3), some (.int x4), some (.int x5), some (.int x6), some (.long l7), none, some (.int x9), some (.int x10), some (.int x11), some (.int x12), none] [] h q := by
  refine qe_iload c99_137 rfl ?_
  refine qe_iload c99_139 rfl ?_
  refine qe_static (as := [.int x9, .int x12]) (r := []) (v := (some (.int z1))) (h2 := h1) c99_141 qo99 (by decide) qK12_248 rfl rfl rfl (Nat.le_of_ble_eq_true rfl) e2 ?_
  refine qe_if_ne_F (t := 150) c99_144 rfl e3 ?_
  exact kk
theorem b99_137T {d : Nat} {q : Option Value × qH} {h : qH} {r0 : Nat} {x1 : Int32} {x2 : Int32} {x3 : Int32} {x4 : Int32} {x5 : Int32} {x6 : Int32} {l7 : Int64} {x9 : Int32} {x10 : Int32} {x11 : Int32} {x12 : Int32} {h1 : qH} {z1 : Int32}  (e2 : qCall d 118 [.int x9, .int x12] h ((some (.int z1)), h1)) (e3 : ¬ ((z1 : Int32) = 0)) (kk : qE d 99 150 [some (.ref r0), some (.int x1), some (.int x2), some (.int x3), some (.int x4), some (.int x5), some (.int x6), some (.long l7), none, some (.int x9), some (.int x10), some (.int x11), some (.int x12), none] [] h1 q): qE d 99 137 [some (.ref r0), some (.int x1), some (.int x2), some (.int x3), some (.int x4), some (.int x5), some (.int x6), some (.long l7), none, some (.int x9), some (.int x10), some (.int x11), some (.int x12), none] [] h q := by
  refine qe_iload c99_137 rfl ?_
  refine qe_iload c99_139 rfl ?_
  refine qe_static (as := [.int x9, .int x12]) (r := []) (v := (some (.int z1))) (h2 := h1) c99_141 qo99 (by decide) qK12_248 rfl rfl rfl (Nat.le_of_ble_eq_true rfl) e2 ?_
  refine qe_if_ne_T (t := 150) c99_144 rfl e3 ?_
  exact kk
theorem b99_147 {d : Nat} {q : Option Value × qH} {h : qH} {r0 : Nat} {x1 : Int32} {x2 : Int32} {x3 : Int32} {x4 : Int32} {x5 : Int32} {x6 : Int32} {l7 : Int64} {x9 : Int32} {x10 : Int32} {x11 : Int32} {x12 : Int32}   (kk : qE d 99 181 [some (.ref r0), some (.int x1), some (.int x2), some (.int x3), some (.int x4), some (.int x5), some (.int x6), some (.long l7), none, some (.int x9), some (.int x10), some (.int x11), some (.int x12), none] [] h q): qE d 99 147 [some (.ref r0), some (.int x1), some (.int x2), some (.int x3), some (.int x4), some (.int x5), some (.int x6), some (.long l7), none, some (.int x9), some (.int x10), some (.int x11), some (.int x12), none] [] h q := by
  refine qe_goto (t := 181) c99_147 rfl ?_
  exact kk
theorem b99_150 {d : Nat} {q : Option Value × qH} {h : qH} {r0 : Nat} {x1 : Int32} {x2 : Int32} {x3 : Int32} {x4 : Int32} {x5 : Int32} {x6 : Int32} {l7 : Int64} {x9 : Int32} {x10 : Int32} {x11 : Int32} {x12 : Int32} {fs1 : List Value} {y3 : Nat} {n5 : Nat} {f6 : Nat → Int32} {y9 : Nat} {n13 : Nat} {f14 : Nat → Int32}  (e2 : h.2.2 r0 = some (.inr (12, fs1))) (e4 : fs1[79]? = some (.ref y3)) (e7 : h.2.2 y3 = some (.inl (0, n5, .inl f6))) (e8 : 0 ≤ (x12 : Int32).toInt ∧ (x12 : Int32).toInt < (n5 : Nat)) (e10 : fs1[18]? = some (.ref y9)) (e12 : 0 ≤ (x12 : Int32).toInt ∧ (x12 : Int32).toInt < (n5 : Nat)) (e15 : h.2.2 y9 = some (.inl (0, n13, .inl f14))) (e16 : 0 ≤ ((f6 (x12 : Int32).toNatClampNeg) : Int32).toInt ∧ ((f6 (x12 : Int32).toNatClampNeg) : Int32).toInt < (n13 : Nat)) (kk : qE d 99 181 [some (.ref r0), some (.int x1), some (.int x2), some (.int x3), some (.int x4), some (.int x5), some (.int x6), some (.long l7), none, some (.int x9), some (.int (x10 ||| (1 <<< ((f6 (x12 : Int32).toNatClampNeg) &&& 31)))), some (.int (x11 + (f14 ((f6 (x12 : Int32).toNatClampNeg) : Int32).toNatClampNeg))), some (.int x12), none] [] h q): qE d 99 150 [some (.ref r0), some (.int x1), some (.int x2), some (.int x3), some (.int x4), some (.int x5), some (.int x6), some (.long l7), none, some (.int x9), some (.int x10), some (.int x11), some (.int x12), none] [] h q := by
  refine qe_iload c99_150 rfl ?_
  refine qe_iconst (x := 1) c99_152 (by decide) ?_
  refine qe_aload_n c99_153 rfl ?_
  refine qe_getfield c99_154 qo99 qF12_182 e2 e4 ?_
  refine qe_iload c99_157 rfl ?_
  refine qe_iaload c99_159 e7 e8 ?_
  refine qe_ishl c99_160 ?_
  refine qe_ior c99_161 ?_
  refine qe_istore (ls2 := [some (.ref r0), some (.int x1), some (.int x2), some (.int x3), some (.int x4), some (.int x5), some (.int x6), some (.long l7), none, some (.int x9), some (.int (x10 ||| (1 <<< ((f6 (x12 : Int32).toNatClampNeg) &&& 31)))), some (.int x11), some (.int x12), none]) c99_162 (Nat.le_of_ble_eq_true rfl) rfl ?_
  refine qe_iload c99_164 rfl ?_
  refine qe_aload_n c99_166 rfl ?_
  refine qe_getfield c99_167 qo99 qF12_39 e2 e10 ?_
  refine qe_aload_n c99_170 rfl ?_
  refine qe_getfield c99_171 qo99 qF12_182 e2 e4 ?_
  refine qe_iload c99_174 rfl ?_
  refine qe_iaload c99_176 e7 e12 ?_
  refine qe_iaload c99_177 e15 e16 ?_
  refine qe_iadd c99_178 ?_
  refine qe_istore (ls2 := [some (.ref r0), some (.int x1), some (.int x2), some (.int x3), some (.int x4), some (.int x5), some (.int x6), some (.long l7), none, some (.int x9), some (.int (x10 ||| (1 <<< ((f6 (x12 : Int32).toNatClampNeg) &&& 31)))), some (.int (x11 + (f14 ((f6 (x12 : Int32).toNatClampNeg) : Int32).toNatClampNeg))), some (.int x12), none]) c99_179 (Nat.le_of_ble_eq_true rfl) rfl ?_
  exact kk
theorem b99_181 {d : Nat} {q : Option Value × qH} {h : qH} {r0 : Nat} {x1 : Int32} {x2 : Int32} {x3 : Int32} {x4 : Int32} {x5 : Int32} {x6 : Int32} {l7 : Int64} {x9 : Int32} {x10 : Int32} {x11 : Int32} {x12 : Int32}   (kk : qE d 99 130 [some (.ref r0), some (.int x1), some (.int x2), some (.int x3), some (.int x4), some (.int x5), some (.int x6), some (.long l7), none, some (.int x9), some (.int x10), some (.int x11), some (.int (x12 + 1)), none] [] h q): qE d 99 181 [some (.ref r0), some (.int x1), some (.int x2), some (.int x3), some (.int x4), some (.int x5), some (.int x6), some (.long l7), none, some (.int x9), some (.int x10), some (.int x11), some (.int x12), none] [] h q := by
  refine qe_iinc (y := (x12 + 1)) (ls2 := [some (.ref r0), some (.int x1), some (.int x2), some (.int x3), some (.int x4), some (.int x5), some (.int x6), some (.long l7), none, some (.int x9), some (.int x10), some (.int x11), some (.int (x12 + 1)), none]) c99_181 rfl (Nat.le_of_ble_eq_true rfl) rfl rfl ?_
  refine qe_goto (t := 130) c99_184 rfl ?_
  exact kk
theorem b99_187F {d : Nat} {q : Option Value × qH} {h : qH} {r0 : Nat} {x1 : Int32} {x2 : Int32} {x3 : Int32} {x4 : Int32} {x5 : Int32} {x6 : Int32} {l7 : Int64} {x9 : Int32} {x10 : Int32} {x11 : Int32} {x12 : Int32}  (e1 : ¬ ((x11 : Int32) ≤ x1)) (kk : qE d 99 193 [some (.ref r0), some (.int x1), some (.int x2), some (.int x3), some (.int x4), some (.int x5), some (.int x6), some (.long l7), none, some (.int x9), some (.int x10), some (.int x11), some (.int x12), none] [] h q): qE d 99 187 [some (.ref r0), some (.int x1), some (.int x2), some (.int x3), some (.int x4), some (.int x5), some (.int x6), some (.long l7), none, some (.int x9), some (.int x10), some (.int x11), some (.int x12), none] [] h q := by
  refine qe_iload c99_187 rfl ?_
  refine qe_iload_n c99_189 rfl ?_
  refine qe_icmp_le_F (t := 196) c99_190 rfl e1 ?_
  exact kk
theorem b99_187T {d : Nat} {q : Option Value × qH} {h : qH} {r0 : Nat} {x1 : Int32} {x2 : Int32} {x3 : Int32} {x4 : Int32} {x5 : Int32} {x6 : Int32} {l7 : Int64} {x9 : Int32} {x10 : Int32} {x11 : Int32} {x12 : Int32}  (e1 : (x11 : Int32) ≤ x1) (kk : qE d 99 196 [some (.ref r0), some (.int x1), some (.int x2), some (.int x3), some (.int x4), some (.int x5), some (.int x6), some (.long l7), none, some (.int x9), some (.int x10), some (.int x11), some (.int x12), none] [] h q): qE d 99 187 [some (.ref r0), some (.int x1), some (.int x2), some (.int x3), some (.int x4), some (.int x5), some (.int x6), some (.long l7), none, some (.int x9), some (.int x10), some (.int x11), some (.int x12), none] [] h q := by
  refine qe_iload c99_187 rfl ?_
  refine qe_iload_n c99_189 rfl ?_
  refine qe_icmp_le_T (t := 196) c99_190 rfl e1 ?_
  exact kk
theorem b99_193 {d : Nat} {q : Option Value × qH} {h : qH} {r0 : Nat} {x1 : Int32} {x2 : Int32} {x3 : Int32} {x4 : Int32} {x5 : Int32} {x6 : Int32} {l7 : Int64} {x9 : Int32} {x10 : Int32} {x11 : Int32} {x12 : Int32}   (kk : qE d 99 249 [some (.ref r0), some (.int x1), some (.int x2), some (.int x3), some (.int x4), some (.int x5), some (.int x6), some (.long l7), none, some (.int x9), some (.int x10), some (.int x11), some (.int x12), none] [] h q): qE d 99 193 [some (.ref r0), some (.int x1), some (.int x2), some (.int x3), some (.int x4), some (.int x5), some (.int x6), some (.long l7), none, some (.int x9), some (.int x10), some (.int x11), some (.int x12), none] [] h q := by
  refine qe_goto (t := 249) c99_193 rfl ?_
  exact kk
theorem b99_196F {d : Nat} {q : Option Value × qH} {h : qH} {r0 : Nat} {x1 : Int32} {x2 : Int32} {x3 : Int32} {x4 : Int32} {x5 : Int32} {x6 : Int32} {l7 : Int64} {x9 : Int32} {x10 : Int32} {x11 : Int32} {x12 : Int32} {fs1 : List Value} {h1 : qH} {z3 : Int64}  (e2 : h.2.2 r0 = some (.inr (12, fs1))) (e4 : qCall d 162 [.ref r0, .int x10, .int x2] h ((some (.long z3)), h1)) (e5 : ¬ ((x5 : Int32) = (-1))) (kk : qE d 99 211 [some (.ref r0), some (.int x1), some (.int x2), some (.int x3), some (.int x4), some (.int x5), some (.int x6), some (.long l7), none, some (.int x9), some (.int x10), some (.int x11), some (.long z3), none] [] h1 q): qE d 99 196 [some (.ref r0), some (.int x1), some (.int x2), some (.int x3), some (.int x4), some (.int x5), some (.int x6), some (.long l7), none, some (.int x9), some (.int x10), some (.int x11), some (.int x12), none] [] h q := by
  refine qe_aload_n c99_196 rfl ?_
  refine qe_iload c99_197 rfl ?_
  refine qe_iload_n c99_199 rfl ?_
  refine qe_virtual (b := r0) (as := [.int x10, .int x2]) (r := []) (v := (some (.long z3))) (h2 := h1) c99_200 qo99 qK12_538 rfl rfl rfl (by rw [qo162]; exact e2) (Nat.le_of_ble_eq_true rfl) e4 ?_
  refine qe_lstore (ls2 := [some (.ref r0), some (.int x1), some (.int x2), some (.int x3), some (.int x4), some (.int x5), some (.int x6), some (.long l7), none, some (.int x9), some (.int x10), some (.int x11), some (.long z3), none]) c99_203 (Nat.le_of_ble_eq_true rfl) rfl ?_
  refine qe_iload c99_205 rfl ?_
  refine qe_iconst (x := (-1)) c99_207 (by decide) ?_
  refine qe_icmp_eq_F (t := 237) c99_208 rfl e5 ?_
  exact kk
theorem b99_196T {d : Nat} {q : Option Value × qH} {h : qH} {r0 : Nat} {x1 : Int32} {x2 : Int32} {x3 : Int32} {x4 : Int32} {x5 : Int32} {x6 : Int32} {l7 : Int64} {x9 : Int32} {x10 : Int32} {x11 : Int32} {x12 : Int32} {fs1 : List Value} {h1 : qH} {z3 : Int64}  (e2 : h.2.2 r0 = some (.inr (12, fs1))) (e4 : qCall d 162 [.ref r0, .int x10, .int x2] h ((some (.long z3)), h1)) (e5 : (x5 : Int32) = (-1)) (kk : qE d 99 237 [some (.ref r0), some (.int x1), some (.int x2), some (.int x3), some (.int x4), some (.int x5), some (.int x6), some (.long l7), none, some (.int x9), some (.int x10), some (.int x11), some (.long z3), none] [] h1 q): qE d 99 196 [some (.ref r0), some (.int x1), some (.int x2), some (.int x3), some (.int x4), some (.int x5), some (.int x6), some (.long l7), none, some (.int x9), some (.int x10), some (.int x11), some (.int x12), none] [] h q := by
  refine qe_aload_n c99_196 rfl ?_
  refine qe_iload c99_197 rfl ?_
  refine qe_iload_n c99_199 rfl ?_
  refine qe_virtual (b := r0) (as := [.int x10, .int x2]) (r := []) (v := (some (.long z3))) (h2 := h1) c99_200 qo99 qK12_538 rfl rfl rfl (by rw [qo162]; exact e2) (Nat.le_of_ble_eq_true rfl) e4 ?_
  refine qe_lstore (ls2 := [some (.ref r0), some (.int x1), some (.int x2), some (.int x3), some (.int x4), some (.int x5), some (.int x6), some (.long l7), none, some (.int x9), some (.int x10), some (.int x11), some (.long z3), none]) c99_203 (Nat.le_of_ble_eq_true rfl) rfl ?_
  refine qe_iload c99_205 rfl ?_
  refine qe_iconst (x := (-1)) c99_207 (by decide) ?_
  refine qe_icmp_eq_T (t := 237) c99_208 rfl e5 ?_
  exact kk
theorem b99_211F {d : Nat} {q : Option Value × qH} {h : qH} {r0 : Nat} {x1 : Int32} {x2 : Int32} {x3 : Int32} {x4 : Int32} {x5 : Int32} {x6 : Int32} {l7 : Int64} {x9 : Int32} {x10 : Int32} {x11 : Int32} {l12 : Int64}  (e1 : ¬ ((0 : Int32) < (lg_cmp l12 l7))) (kk : qE d 99 219 [some (.ref r0), some (.int x1), some (.int x2), some (.int x3), some (.int x4), some (.int x5), some (.int x6), some (.long l7), none, some (.int x9), some (.int x10), some (.int x11), some (.long l12), none] [] h q): qE d 99 211 [some (.ref r0), some (.int x1), some (.int x2), some (.int x3), some (.int x4), some (.int x5), some (.int x6), some (.long l7), none, some (.int x9), some (.int x10), some (.int x11), some (.long l12), none] [] h q := by
  refine qe_lload c99_211 rfl ?_
  refine qe_lload c99_213 rfl ?_
  refine qe_lcmp c99_215 ?_
  refine qe_if_gt_F (t := 249) c99_216 rfl e1 ?_
  exact kk
theorem b99_211T {d : Nat} {q : Option Value × qH} {h : qH} {r0 : Nat} {x1 : Int32} {x2 : Int32} {x3 : Int32} {x4 : Int32} {x5 : Int32} {x6 : Int32} {l7 : Int64} {x9 : Int32} {x10 : Int32} {x11 : Int32} {l12 : Int64}  (e1 : (0 : Int32) < (lg_cmp l12 l7)) (kk : qE d 99 249 [some (.ref r0), some (.int x1), some (.int x2), some (.int x3), some (.int x4), some (.int x5), some (.int x6), some (.long l7), none, some (.int x9), some (.int x10), some (.int x11), some (.long l12), none] [] h q): qE d 99 211 [some (.ref r0), some (.int x1), some (.int x2), some (.int x3), some (.int x4), some (.int x5), some (.int x6), some (.long l7), none, some (.int x9), some (.int x10), some (.int x11), some (.long l12), none] [] h q := by
  refine qe_lload c99_211 rfl ?_
  refine qe_lload c99_213 rfl ?_
  refine qe_lcmp c99_215 ?_
  refine qe_if_gt_T (t := 249) c99_216 rfl e1 ?_
  exact kk
theorem b99_219F {d : Nat} {q : Option Value × qH} {h : qH} {r0 : Nat} {x1 : Int32} {x2 : Int32} {x3 : Int32} {x4 : Int32} {x5 : Int32} {x6 : Int32} {l7 : Int64} {x9 : Int32} {x10 : Int32} {x11 : Int32} {l12 : Int64}  (e1 : ((lg_cmp l12 l7) : Int32) = 0) (kk : qE d 99 227 [some (.ref r0), some (.int x1), some (.int x2), some (.int x3), some (.int x4), some (.int x5), some (.int x6), some (.long l7), none, some (.int x9), some (.int x10), some (.int x11), some (.long l12), none] [] h q): qE d 99 219 [some (.ref r0), some (.int x1), some (.int x2), some (.int x3), some (.int x4), some (.int x5), some (.int x6), some (.long l7), none, some (.int x9), some (.int x10), some (.int x11), some (.long l12), none] [] h q := by
  refine qe_lload c99_219 rfl ?_
  refine qe_lload c99_221 rfl ?_
  refine qe_lcmp c99_223 ?_
  refine qe_if_ne_F (t := 237) c99_224 rfl e1 ?_
  exact kk
theorem b99_219T {d : Nat} {q : Option Value × qH} {h : qH} {r0 : Nat} {x1 : Int32} {x2 : Int32} {x3 : Int32} {x4 : Int32} {x5 : Int32} {x6 : Int32} {l7 : Int64} {x9 : Int32} {x10 : Int32} {x11 : Int32} {l12 : Int64}  (e1 : ¬ (((lg_cmp l12 l7) : Int32) = 0)) (kk : qE d 99 237 [some (.ref r0), some (.int x1), some (.int x2), some (.int x3), some (.int x4), some (.int x5), some (.int x6), some (.long l7), none, some (.int x9), some (.int x10), some (.int x11), some (.long l12), none] [] h q): qE d 99 219 [some (.ref r0), some (.int x1), some (.int x2), some (.int x3), some (.int x4), some (.int x5), some (.int x6), some (.long l7), none, some (.int x9), some (.int x10), some (.int x11), some (.long l12), none] [] h q := by
  refine qe_lload c99_219 rfl ?_
  refine qe_lload c99_221 rfl ?_
  refine qe_lcmp c99_223 ?_
  refine qe_if_ne_T (t := 237) c99_224 rfl e1 ?_
  exact kk
theorem b99_227F {d : Nat} {q : Option Value × qH} {h : qH} {r0 : Nat} {x1 : Int32} {x2 : Int32} {x3 : Int32} {x4 : Int32} {x5 : Int32} {x6 : Int32} {l7 : Int64} {x9 : Int32} {x10 : Int32} {x11 : Int32} {l12 : Int64}  (e1 : ¬ ((x11 : Int32) < x6)) (kk : qE d 99 234 [some (.ref r0), some (.int x1), some (.int x2), some (.int x3), some (.int x4), some (.int x5), some (.int x6), some (.long l7), none, some (.int x9), some (.int x10), some (.int x11), some (.long l12), none] [] h q): qE d 99 227 [some (.ref r0), some (.int x1), some (.int x2), some (.int x3), some (.int x4), some (.int x5), some (.int x6), some (.long l7), none, some (.int x9), some (.int x10), some (.int x11), some (.long l12), none] [] h q := by
  refine qe_iload c99_227 rfl ?_
  refine qe_iload c99_229 rfl ?_
  refine qe_icmp_lt_F (t := 237) c99_231 rfl e1 ?_
  exact kk
theorem b99_227T {d : Nat} {q : Option Value × qH} {h : qH} {r0 : Nat} {x1 : Int32} {x2 : Int32} {x3 : Int32} {x4 : Int32} {x5 : Int32} {x6 : Int32} {l7 : Int64} {x9 : Int32} {x10 : Int32} {x11 : Int32} {l12 : Int64}  (e1 : (x11 : Int32) < x6) (kk : qE d 99 237 [some (.ref r0), some (.int x1), some (.int x2), some (.int x3), some (.int x4), some (.int x5), some (.int x6), some (.long l7), none, some (.int x9), some (.int x10), some (.int x11), some (.long l12), none] [] h q): qE d 99 227 [some (.ref r0), some (.int x1), some (.int x2), some (.int x3), some (.int x4), some (.int x5), some (.int x6), some (.long l7), none, some (.int x9), some (.int x10), some (.int x11), some (.long l12), none] [] h q := by
  refine qe_iload c99_227 rfl ?_
  refine qe_iload c99_229 rfl ?_
  refine qe_icmp_lt_T (t := 237) c99_231 rfl e1 ?_
  exact kk
theorem b99_234 {d : Nat} {q : Option Value × qH} {h : qH} {r0 : Nat} {x1 : Int32} {x2 : Int32} {x3 : Int32} {x4 : Int32} {x5 : Int32} {x6 : Int32} {l7 : Int64} {x9 : Int32} {x10 : Int32} {x11 : Int32} {l12 : Int64}   (kk : qE d 99 249 [some (.ref r0), some (.int x1), some (.int x2), some (.int x3), some (.int x4), some (.int x5), some (.int x6), some (.long l7), none, some (.int x9), some (.int x10), some (.int x11), some (.long l12), none] [] h q): qE d 99 234 [some (.ref r0), some (.int x1), some (.int x2), some (.int x3), some (.int x4), some (.int x5), some (.int x6), some (.long l7), none, some (.int x9), some (.int x10), some (.int x11), some (.long l12), none] [] h q := by
  refine qe_goto (t := 249) c99_234 rfl ?_
  exact kk
theorem b99_237 {d : Nat} {q : Option Value × qH} {h : qH} {r0 : Nat} {x1 : Int32} {x2 : Int32} {x3 : Int32} {x4 : Int32} {x5 : Int32} {x6 : Int32} {l7 : Int64} {x9 : Int32} {x10 : Int32} {x11 : Int32} {l12 : Int64}   (kk : qE d 99 249 [some (.ref r0), some (.int x1), some (.int x2), some (.int x3), some (.int x4), some (.int x10), some (.int x11), some (.long l12), none, some (.int x9), some (.int x10), some (.int x11), some (.long l12), none] [] h q): qE d 99 237 [some (.ref r0), some (.int x1), some (.int x2), some (.int x3), some (.int x4), some (.int x5), some (.int x6), some (.long l7), none, some (.int x9), some (.int x10), some (.int x11), some (.long l12), none] [] h q := by
  refine qe_iload c99_237 rfl ?_
  refine qe_istore (ls2 := [some (.ref r0), some (.int x1), some (.int x2), some (.int x3), some (.int x4), some (.int x10), some (.int x6), some (.long l7), none, some (.int x9), some (.int x10), some (.int x11), some (.long l12), none]) c99_239 (Nat.le_of_ble_eq_true rfl) rfl ?_
  refine qe_iload c99_241 rfl ?_
  refine qe_istore (ls2 := [some (.ref r0), some (.int x1), some (.int x2), some (.int x3), some (.int x4), some (.int x10), some (.int x11), some (.long l7), none, some (.int x9), some (.int x10), some (.int x11), some (.long l12), none]) c99_243 (Nat.le_of_ble_eq_true rfl) rfl ?_
  refine qe_lload c99_245 rfl ?_
  refine qe_lstore (ls2 := [some (.ref r0), some (.int x1), some (.int x2), some (.int x3), some (.int x4), some (.int x10), some (.int x11), some (.long l12), none, some (.int x9), some (.int x10), some (.int x11), some (.long l12), none]) c99_247 (Nat.le_of_ble_eq_true rfl) rfl ?_
  exact kk
theorem b99_249 {d : Nat} {q : Option Value × qH} {h : qH} {r0 : Nat} {x1 : Int32} {x2 : Int32} {x3 : Int32} {x4 : Int32} {x5 : Int32} {x6 : Int32} {l7 : Int64} {x9 : Int32} {x10 : Int32} {x11 : Int32} {o12 : Option Value}   (kk : qE d 99 112 [some (.ref r0), some (.int x1), some (.int x2), some (.int x3), some (.int x4), some (.int x5), some (.int x6), some (.long l7), none, some (.int (x9 + 1)), some (.int x10), some (.int x11), o12, none] [] h q): qE d 99 249 [some (.ref r0), some (.int x1), some (.int x2), some (.int x3), some (.int x4), some (.int x5), some (.int x6), some (.long l7), none, some (.int x9), some (.int x10), some (.int x11), o12, none] [] h q := by
  refine qe_iinc (y := (x9 + 1)) (ls2 := [some (.ref r0), some (.int x1), some (.int x2), some (.int x3), some (.int x4), some (.int x5), some (.int x6), some (.long l7), none, some (.int (x9 + 1)), some (.int x10), some (.int x11), o12, none]) c99_249 rfl (Nat.le_of_ble_eq_true rfl) rfl rfl ?_
  refine qe_goto (t := 112) c99_252 rfl ?_
  exact kk
theorem b99_255F {d : Nat} {q : Option Value × qH} {h : qH} {r0 : Nat} {x1 : Int32} {x2 : Int32} {x3 : Int32} {x4 : Int32} {x5 : Int32} {x6 : Int32} {l7 : Int64} {x9 : Int32} {o10 : Option Value} {o11 : Option Value} {o12 : Option Value}  (e1 : (x3 : Int32) = 0) (kk : qE d 99 259 [some (.ref r0), some (.int x1), some (.int x2), some (.int x3), some (.int x4), some (.int x5), some (.int x6), some (.long l7), none, some (.int x9), o10, o11, o12, none] [] h q): qE d 99 255 [some (.ref r0), some (.int x1), some (.int x2), some (.int x3), some (.int x4), some (.int x5), some (.int x6), some (.long l7), none, some (.int x9), o10, o11, o12, none] [] h q := by
  refine qe_iload_n c99_255 rfl ?_
  refine qe_if_ne_F (t := 264) c99_256 rfl e1 ?_
  exact kk
theorem b99_255T {d : Nat} {q : Option Value × qH} {h : qH} {r0 : Nat} {x1 : Int32} {x2 : Int32} {x3 : Int32} {x4 : Int32} {x5 : Int32} {x6 : Int32} {l7 : Int64} {x9 : Int32} {o10 : Option Value} {o11 : Option Value} {o12 : Option Value}  (e1 : ¬ ((x3 : Int32) = 0)) (kk : qE d 99 264 [some (.ref r0), some (.int x1), some (.int x2), some (.int x3), some (.int x4), some (.int x5), some (.int x6), some (.long l7), none, some (.int x9), o10, o11, o12, none] [] h q): qE d 99 255 [some (.ref r0), some (.int x1), some (.int x2), some (.int x3), some (.int x4), some (.int x5), some (.int x6), some (.long l7), none, some (.int x9), o10, o11, o12, none] [] h q := by
  refine qe_iload_n c99_255 rfl ?_
  refine qe_if_ne_T (t := 264) c99_256 rfl e1 ?_
  exact kk
theorem b99_259 {d : Nat} {q : Option Value × qH} {h : qH} {r0 : Nat} {x1 : Int32} {x2 : Int32} {x3 : Int32} {x4 : Int32} {x5 : Int32} {x6 : Int32} {l7 : Int64} {x9 : Int32} {o10 : Option Value} {o11 : Option Value} {o12 : Option Value}   (kk : qE d 99 267 [some (.ref r0), some (.int x1), some (.int x2), some (.int x3), some (.int x4), some (.int x5), some (.int x6), some (.long l7), none, some (.int x9), o10, o11, o12, none] [.int x5] h q): qE d 99 259 [some (.ref r0), some (.int x1), some (.int x2), some (.int x3), some (.int x4), some (.int x5), some (.int x6), some (.long l7), none, some (.int x9), o10, o11, o12, none] [] h q := by
  refine qe_iload c99_259 rfl ?_
  refine qe_goto (t := 267) c99_261 rfl ?_
  exact kk
theorem b99_264 {d : Nat} {q : Option Value × qH} {h : qH} {r0 : Nat} {x1 : Int32} {x2 : Int32} {x3 : Int32} {x4 : Int32} {x5 : Int32} {x6 : Int32} {l7 : Int64} {x9 : Int32} {o10 : Option Value} {o11 : Option Value} {o12 : Option Value}   (kk : qE d 99 267 [some (.ref r0), some (.int x1), some (.int x2), some (.int x3), some (.int x4), some (.int x5), some (.int x6), some (.long l7), none, some (.int x9), o10, o11, o12, none] [.int (l7 : Int64).toInt32] h q): qE d 99 264 [some (.ref r0), some (.int x1), some (.int x2), some (.int x3), some (.int x4), some (.int x5), some (.int x6), some (.long l7), none, some (.int x9), o10, o11, o12, none] [] h q := by
  refine qe_lload c99_264 rfl ?_
  refine qe_l2i c99_266 ?_
  exact kk
theorem b99_267 {d : Nat} {h : qH} {r0 : Nat} {x1 : Int32} {x2 : Int32} {x3 : Int32} {x4 : Int32} {x5 : Int32} {x6 : Int32} {l7 : Int64} {x9 : Int32} {o10 : Option Value} {o11 : Option Value} {o12 : Option Value} {xs0 : Int32}   : qE d 99 267 [some (.ref r0), some (.int x1), some (.int x2), some (.int x3), some (.int x4), some (.int x5), some (.int x6), some (.long l7), none, some (.int x9), o10, o11, o12, none] [.int xs0] h (some (.int xs0), h) := by
  exact qe_iret c99_267 qr99
theorem b100_0 {d : Nat} {q : Option Value × qH} {h : qH} {r0 : Nat} {x1 : Int32}   (kk : qE d 100 7 [some (.ref r0), some (.int x1), some (.int 0), some (.int 0), some (.int 0), none, none, none, none, none] [] h q): qE d 100 0 [some (.ref r0), some (.int x1), none, none, none, none, none, none, none, none] [] h q := by
  refine qe_iconst (x := 0) c100_0 (by decide) ?_
  refine qe_istore_n (ls2 := [some (.ref r0), some (.int x1), some (.int 0), none, none, none, none, none, none, none]) c100_1 (Nat.le_of_ble_eq_true rfl) rfl ?_
  refine qe_iconst (x := 0) c100_2 (by decide) ?_
  refine qe_istore_n (ls2 := [some (.ref r0), some (.int x1), some (.int 0), some (.int 0), none, none, none, none, none, none]) c100_3 (Nat.le_of_ble_eq_true rfl) rfl ?_
  refine qe_iconst (x := 0) c100_4 (by decide) ?_
  refine qe_istore (ls2 := [some (.ref r0), some (.int x1), some (.int 0), some (.int 0), some (.int 0), none, none, none, none, none]) c100_5 (Nat.le_of_ble_eq_true rfl) rfl ?_
  exact kk
theorem b100_7F {d : Nat} {q : Option Value × qH} {h : qH} {r0 : Nat} {x1 : Int32} {x2 : Int32} {x3 : Int32} {x4 : Int32} {fs1 : List Value} {y3 : Int32}  (e2 : h.2.2 r0 = some (.inr (12, fs1))) (e4 : fs1[5]? = some (.int y3)) (e5 : ¬ ((y3 : Int32) ≤ x4)) (kk : qE d 100 16 [some (.ref r0), some (.int x1), some (.int x2), some (.int x3), some (.int x4), none, none, none, none, none] [] h q): qE d 100 7 [some (.ref r0), some (.int x1), some (.int x2), some (.int x3), some (.int x4), none, none, none, none, none] [] h q := by
  refine qe_iload c100_7 rfl ?_
  refine qe_aload_n c100_9 rfl ?_
  refine qe_getfield c100_10 qo100 qF12_197 e2 e4 ?_
  refine qe_icmp_ge_F (t := 61) c100_13 rfl e5 ?_
  exact kk
theorem b100_7T {d : Nat} {q : Option Value × qH} {h : qH} {r0 : Nat} {x1 : Int32} {x2 : Int32} {x3 : Int32} {x4 : Int32} {fs1 : List Value} {y3 : Int32}  (e2 : h.2.2 r0 = some (.inr (12, fs1))) (e4 : fs1[5]? = some (.int y3)) (e5 : (y3 : Int32) ≤ x4) (kk : qE d 100 61 [some (.ref r0), some (.int x1), some (.int x2), some (.int x3), some (.int x4), none, none, none, none, none] [] h q): qE d 100 7 [some (.ref r0), some (.int x1), some (.int x2), some (.int x3), some (.int x4), none, none, none, none, none] [] h q := by
  refine qe_iload c100_7 rfl ?_
  refine qe_aload_n c100_9 rfl ?_
  refine qe_getfield c100_10 qo100 qF12_197 e2 e4 ?_
  refine qe_icmp_ge_T (t := 61) c100_13 rfl e5 ?_
  exact kk
theorem b100_16F {d : Nat} {q : Option Value × qH} {h : qH} {r0 : Nat} {x1 : Int32} {x2 : Int32} {x3 : Int32} {x4 : Int32} {h1 : qH} {z1 : Int32}  (e2 : qCall d 118 [.int x1, .int x4] h ((some (.int z1)), h1)) (e3 : (z1 : Int32) = 0) (kk : qE d 100 25 [some (.ref r0), some (.int x1), some (.int x2), some (.int x3), some (.int x4), none, none, none, none, none] [] h1 q): qE d 100 16 [some (.ref r0), some (.int x1), some (.int x2), some (.int x3), some (.int x4), none, none, none, none, none] [] h q := by
  refine qe_iload_n c100_16 rfl ?_
  refine qe_iload c100_17 rfl ?_
  refine qe_static (as := [.int x1, .int x4]) (r := []) (v := (some (.int z1))) (h2 := h1) c100_19 qo100 (by decide) qK12_248 rfl rfl rfl (Nat.le_of_ble_eq_true rfl) e2 ?_
  refine qe_if_ne_F (t := 28) c100_22 rfl e3 ?_
  exact kk
theorem b100_16T {d : Nat} {q : Option Value × qH} {h : qH} {r0 : Nat} {x1 : Int32} {x2 : Int32} {x3 : Int32} {x4 : Int32} {h1 : qH} {z1 : Int32}  (e2 : qCall d 118 [.int x1, .int x4] h ((some (.int z1)), h1)) (e3 : ¬ ((z1 : Int32) = 0)) (kk : qE d 100 28 [some (.ref r0), some (.int x1), some (.int x2), some (.int x3), some (.int x4), none, none, none, none, none] [] h1 q): qE d 100 16 [some (.ref r0), some (.int x1), some (.int x2), some (.int x3), some (.int x4), none, none, none, none, none] [] h q := by
  refine qe_iload_n c100_16 rfl ?_
  refine qe_iload c100_17 rfl ?_
  refine qe_static (as := [.int x1, .int x4]) (r := []) (v := (some (.int z1))) (h2 := h1) c100_19 qo100 (by decide) qK12_248 rfl rfl rfl (Nat.le_of_ble_eq_true rfl) e2 ?_
  refine qe_if_ne_T (t := 28) c100_22 rfl e3 ?_
  exact kk
theorem b100_25 {d : Nat} {q : Option Value × qH} {h : qH} {r0 : Nat} {x1 : Int32} {x2 : Int32} {x3 : Int32} {x4 : Int32}   (kk : qE d 100 55 [some (.ref r0), some (.int x1), some (.int x2), some (.int x3), some (.int x4), none, none, none, none, none] [] h q): qE d 100 25 [some (.ref r0), some (.int x1), some (.int x2), some (.int x3), some (.int x4), none, none, none, none, none] [] h q := by
  refine qe_goto (t := 55) c100_25 rfl ?_
  exact kk
theorem b100_28 {d : Nat} {q : Option Value × qH} {h : qH} {r0 : Nat} {x1 : Int32} {x2 : Int32} {x3 : Int32} {x4 : Int32} {fs1 : List Value} {y3 : Nat} {n5 : Nat} {f6 : Nat → Int32} {y9 : Nat} {y11 : Nat} {n13 : Nat} {f14 : Nat → Int32} {n17 : Nat} {f18 : Nat → Int32}  (e2 : h.2.2 r0 = some (.inr (12, fs1))) (e4 : fs1[20]? = some (.ref y3)) (e7 : h.2.2 y3 = some (.inl (0, n5, .inl f6))) (e8 : 0 ≤ (x4 : Int32).toInt ∧ (x4 : Int32).toInt < (n5 : Nat)) (e10 : fs1[24]? = some (.ref y9)) (e12 : fs1[19]? = some (.ref y11)) (e15 : h.2.2 y11 = some (.inl (0, n13, .inl f14))) (e16 : 0 ≤ (x4 : Int32).toInt ∧ (x4 : Int32).toInt < (n13 : Nat)) (e19 : h.2.2 y9 = some (.inl (0, n17, .inl f18))) (e20 : 0 ≤ ((f14 (x4 : Int32).toNatClampNeg) : Int32).toInt ∧ ((f14 (x4 : Int32).toNatClampNeg) : Int32).toInt < (n17 : Nat)) (kk : qE d 100 55 [some (.ref r0), some (.int x1), some (.int (x2 + (f6 (x4 : Int32).toNatClampNeg))), some (.int (x3 ||| (1 <<< ((f18 ((f14 (x4 : Int32).toNatClampNeg) : Int32).toNatClampNeg) &&& 31)))), some (.int x4), none, none, none, none, none] [] h q): qE d 100 28 [some (.ref r0), some (.int x1), some (.int x2), some (.int x3), some (.int x4), none, none, none, none, none] [] h q := by
  refine qe_iload_n c100_28 rfl ?_
  refine qe_aload_n c100_29 rfl ?_
  refine qe_getfield c100_30 qo100 qF12_45 e2 e4 ?_
  refine qe_iload c100_33 rfl ?_
  refine qe_iaload c100_35 e7 e8 ?_
  refine qe_iadd c100_36 ?_
  refine qe_istore_n (ls2 := [some (.ref r0), some (.int x1), some (.int (x2 + (f6 (x4 : Int32).toNatClampNeg))), some (.int x3), some (.int x4), none, none, none, none, none]) c100_37 (Nat.le_of_ble_eq_true rfl) rfl ?_
  refine qe_iload_n c100_38 rfl ?_
  refine qe_iconst (x := 1) c100_39 (by decide) ?_
  refine qe_aload_n c100_40 rfl ?_
  refine qe_getfield c100_41 qo100 qF12_58 e2 e10 ?_
  refine qe_aload_n c100_44 rfl ?_
  refine qe_getfield c100_45 qo100 qF12_42 e2 e12 ?_
  refine qe_iload c100_48 rfl ?_
  refine qe_iaload c100_50 e15 e16 ?_
  refine qe_iaload c100_51 e19 e20 ?_
  refine qe_ishl c100_52 ?_
  refine qe_ior c100_53 ?_
  refine qe_istore_n (ls2 := [some (.ref r0), some (.int x1), some (.int (x2 + (f6 (x4 : Int32).toNatClampNeg))), some (.int (x3 ||| (1 <<< ((f18 ((f14 (x4 : Int32).toNatClampNeg) : Int32).toNatClampNeg) &&& 31)))), some (.int x4), none, none, none, none, none]) c100_54 (Nat.le_of_ble_eq_true rfl) rfl ?_
  exact kk
theorem b100_55 {d : Nat} {q : Option Value × qH} {h : qH} {r0 : Nat} {x1 : Int32} {x2 : Int32} {x3 : Int32} {x4 : Int32}   (kk : qE d 100 7 [some (.ref r0), some (.int x1), some (.int x2), some (.int x3), some (.int (x4 + 1)), none, none, none, none, none] [] h q): qE d 100 55 [some (.ref r0), some (.int x1), some (.int x2), some (.int x3), some (.int x4), none, none, none, none, none] [] h q := by
  refine qe_iinc (y := (x4 + 1)) (ls2 := [some (.ref r0), some (.int x1), some (.int x2), some (.int x3), some (.int (x4 + 1)), none, none, none, none, none]) c100_55 rfl (Nat.le_of_ble_eq_true rfl) rfl rfl ?_
  refine qe_goto (t := 7) c100_58 rfl ?_
  exact kk
theorem b100_61 {d : Nat} {q : Option Value × qH} {h : qH} {r0 : Nat} {x1 : Int32} {x2 : Int32} {x3 : Int32} {x4 : Int32}   (kk : qE d 100 73 [some (.ref r0), some (.int x1), some (.int x2), some (.int x3), some (.int 0), some (.int 0), some (.int 0), some (.int 0), none, none] [] h q): qE d 100 61 [some (.ref r0), some (.int x1), some (.int x2), some (.int x3), some (.int x4), none, none, none, none, none] [] h q := by
  refine qe_iconst (x := 0) c100_61 (by decide) ?_
  refine qe_istore (ls2 := [some (.ref r0), some (.int x1), some (.int x2), some (.int x3), some (.int 0), none, none, none, none, none]) c100_62 (Nat.le_of_ble_eq_true rfl) rfl ?_
  refine qe_iconst (x := 0) c100_64 (by decide) ?_
  refine qe_istore (ls2 := [some (.ref r0), some (.int x1), some (.int x2), some (.int x3), some (.int 0), some (.int 0), none, none, none, none]) c100_65 (Nat.le_of_ble_eq_true rfl) rfl ?_
  refine qe_iconst (x := 0) c100_67 (by decide) ?_
  refine qe_istore (ls2 := [some (.ref r0), some (.int x1), some (.int x2), some (.int x3), some (.int 0), some (.int 0), some (.int 0), none, none, none]) c100_68 (Nat.le_of_ble_eq_true rfl) rfl ?_
  refine qe_iconst (x := 0) c100_70 (by decide) ?_
  refine qe_istore (ls2 := [some (.ref r0), some (.int x1), some (.int x2), some (.int x3), some (.int 0), some (.int 0), some (.int 0), some (.int 0), none, none]) c100_71 (Nat.le_of_ble_eq_true rfl) rfl ?_
  exact kk
theorem b100_73F {d : Nat} {q : Option Value × qH} {h : qH} {r0 : Nat} {x1 : Int32} {x2 : Int32} {x3 : Int32} {x4 : Int32} {x5 : Int32} {x6 : Int32} {x7 : Int32} {o8 : Option Value} {o9 : Option Value} {fs1 : List Value} {y3 : Int32}  (e2 : h.2.2 r0 = some (.inr (12, fs1))) (e4 : fs1[3]? = some (.int y3)) (e5 : ¬ ((y3 : Int32) ≤ x7)) (kk : qE d 100 82 [some (.ref r0), some (.int x1), some (.int x2), some (.int x3), some (.int x4), some (.int x5), some (.int x6), some (.int x7), o8, o9] [] h q): qE d 100 73 [some (.ref r0), some (.int x1), some (.int x2), some (.int x3), some (.int x4), some (.int x5), some (.int x6), some (.int x7), o8, o9] [] h q := by
  refine qe_iload c100_73 rfl ?_
  refine qe_aload_n c100_75 rfl ?_
  refine qe_getfield c100_76 qo100 qF12_186 e2 e4 ?_
  refine qe_icmp_ge_F (t := 207) c100_79 rfl e5 ?_
  exact kk
theorem b100_73T {d : Nat} {q : Option Value × qH} {h : qH} {r0 : Nat} {x1 : Int32} {x2 : Int32} {x3 : Int32} {x4 : Int32} {x5 : Int32} {x6 : Int32} {x7 : Int32} {o8 : Option Value} {o9 : Option Value} {fs1 : List Value} {y3 : Int32}  (e2 : h.2.2 r0 = some (.inr (12, fs1))) (e4 : fs1[3]? = some (.int y3)) (e5 : (y3 : Int32) ≤ x7) (kk : qE d 100 207 [some (.ref r0), some (.int x1), some (.int x2), some (.int x3), some (.int x4), some (.int x5), some (.int x6), some (.int x7), o8, o9] [] h q): qE d 100 73 [some (.ref r0), some (.int x1), some (.int x2), some (.int x3), some (.int x4), some (.int x5), some (.int x6), some (.int x7), o8, o9] [] h q := by
  refine qe_iload c100_73 rfl ?_
  refine qe_aload_n c100_75 rfl ?_
  refine qe_getfield c100_76 qo100 qF12_186 e2 e4 ?_
  refine qe_icmp_ge_T (t := 207) c100_79 rfl e5 ?_
  exact kk
theorem b100_82 {d : Nat} {q : Option Value × qH} {h : qH} {r0 : Nat} {x1 : Int32} {x2 : Int32} {x3 : Int32} {x4 : Int32} {x5 : Int32} {x6 : Int32} {x7 : Int32} {o8 : Option Value} {o9 : Option Value}   (kk : qE d 100 88 [some (.ref r0), some (.int x1), some (.int x2), some (.int x3), some (.int x4), some (.int x5), some (.int x6), some (.int x7), some (.int (-1)), some (.int 0)] [] h q): qE d 100 82 [some (.ref r0), some (.int x1), some (.int x2), some (.int x3), some (.int x4), some (.int x5), some (.int x6), some (.int x7), o8, o9] [] h q := by
  refine qe_iconst (x := (-1)) c100_82 (by decide) ?_
  refine qe_istore (ls2 := [some (.ref r0), some (.int x1), some (.int x2), some (.int x3), some (.int x4), some (.int x5), some (.int x6), some (.int x7), some (.int (-1)), o9]) c100_83 (Nat.le_of_ble_eq_true rfl) rfl ?_
  refine qe_iconst (x := 0) c100_85 (by decide) ?_
  refine qe_istore (ls2 := [some (.ref r0), some (.int x1), some (.int x2), some (.int x3), some (.int x4), some (.int x5), some (.int x6), some (.int x7), some (.int (-1)), some (.int 0)]) c100_86 (Nat.le_of_ble_eq_true rfl) rfl ?_
  exact kk
theorem b100_88F {d : Nat} {q : Option Value × qH} {h : qH} {r0 : Nat} {x1 : Int32} {x2 : Int32} {x3 : Int32} {x4 : Int32} {x5 : Int32} {x6 : Int32} {x7 : Int32} {x8 : Int32} {x9 : Int32} {fs1 : List Value} {y3 : Int32}  (e2 : h.2.2 r0 = some (.inr (12, fs1))) (e4 : fs1[3]? = some (.int y3)) (e5 : ¬ ((y3 : Int32) ≤ x9)) (kk : qE d 100 97 [some (.ref r0), some (.int x1), some (.int x2), some (.int x3), some (.int x4), some (.int x5), some (.int x6), some (.int x7), some (.int x8), some (.int x9)] [] h q): qE d 100 88 [some (.ref r0), some (.int x1), some (.int x2), some (.int x3), some (.int x4), some (.int x5), some (.int x6), some (.int x7), some (.int x8), some (.int x9)] [] h q := by
  refine qe_iload c100_88 rfl ?_
  refine qe_aload_n c100_90 rfl ?_
  refine qe_getfield c100_91 qo100 qF12_186 e2 e4 ?_
  refine qe_icmp_ge_F (t := 140) c100_94 rfl e5 ?_
  exact kk
theorem b100_88T {d : Nat} {q : Option Value × qH} {h : qH} {r0 : Nat} {x1 : Int32} {x2 : Int32} {x3 : Int32} {x4 : Int32} {x5 : Int32} {x6 : Int32} {x7 : Int32} {x8 : Int32} {x9 : Int32} {fs1 : List Value} {y3 : Int32}  (e2 : h.2.2 r0 = some (.inr (12, fs1))) (e4 : fs1[3]? = some (.int y3)) (e5 : (y3 : Int32) ≤ x9) (kk : qE d 100 140 [some (.ref r0), some (.int x1), some (.int x2), some (.int x3), some (.int x4), some (.int x5), some (.int x6), some (.int x7), some (.int x8), some (.int x9)] [] h q): qE d 100 88 [some (.ref r0), some (.int x1), some (.int x2), some (.int x3), some (.int x4), some (.int x5), some (.int x6), some (.int x7), some (.int x8), some (.int x9)] [] h q := by
  refine qe_iload c100_88 rfl ?_
  refine qe_aload_n c100_90 rfl ?_
  refine qe_getfield c100_91 qo100 qF12_186 e2 e4 ?_
  refine qe_icmp_ge_T (t := 140) c100_94 rfl e5 ?_
  exact kk
theorem b100_97F {d : Nat} {q : Option Value × qH} {h : qH} {r0 : Nat} {x1 : Int32} {x2 : Int32} {x3 : Int32} {x4 : Int32} {x5 : Int32} {x6 : Int32} {x7 : Int32} {x8 : Int32} {x9 : Int32} {h1 : qH} {z1 : Int32}  (e2 : qCall d 118 [.int x6, .int x9] h ((some (.int z1)), h1)) (e3 : (z1 : Int32) = 0) (kk : qE d 100 107 [some (.ref r0), some (.int x1), some (.int x2), some (.int x3), some (.int x4), some (.int x5), some (.int x6), some (.int x7), some (.int x8), some (.int x9)] [] h1 q): qE d 100 97 [some (.ref r0), some (.int x1), some (.int x2), some (.int x3), some (.int x4), some (.int x5), some (.int x6), some (.int x7), some (.int x8), some (.int x9)] [] h q := by
  refine qe_iload c100_97 rfl ?_
  refine qe_iload c100_99 rfl ?_
  refine qe_static (as := [.int x6, .int x9]) (r := []) (v := (some (.int z1))) (h2 := h1) c100_101 qo100 (by decide) qK12_248 rfl rfl rfl (Nat.le_of_ble_eq_true rfl) e2 ?_
  refine qe_if_ne_F (t := 134) c100_104 rfl e3 ?_
  exact kk
theorem b100_97T {d : Nat} {q : Option Value × qH} {h : qH} {r0 : Nat} {x1 : Int32} {x2 : Int32} {x3 : Int32} {x4 : Int32} {x5 : Int32} {x6 : Int32} {x7 : Int32} {x8 : Int32} {x9 : Int32} {h1 : qH} {z1 : Int32}  (e2 : qCall d 118 [.int x6, .int x9] h ((some (.int z1)), h1)) (e3 : ¬ ((z1 : Int32) = 0)) (kk : qE d 100 134 [some (.ref r0), some (.int x1), some (.int x2), some (.int x3), some (.int x4), some (.int x5), some (.int x6), some (.int x7), some (.int x8), some (.int x9)] [] h1 q): qE d 100 97 [some (.ref r0), some (.int x1), some (.int x2), some (.int x3), some (.int x4), some (.int x5), some (.int x6), some (.int x7), some (.int x8), some (.int x9)] [] h q := by
  refine qe_iload c100_97 rfl ?_
  refine qe_iload c100_99 rfl ?_
  refine qe_static (as := [.int x6, .int x9]) (r := []) (v := (some (.int z1))) (h2 := h1) c100_101 qo100 (by decide) qK12_248 rfl rfl rfl (Nat.le_of_ble_eq_true rfl) e2 ?_
  refine qe_if_ne_T (t := 134) c100_104 rfl e3 ?_
  exact kk
theorem b100_107F {d : Nat} {q : Option Value × qH} {h : qH} {r0 : Nat} {x1 : Int32} {x2 : Int32} {x3 : Int32} {x4 : Int32} {x5 : Int32} {x6 : Int32} {x7 : Int32} {x8 : Int32} {x9 : Int32}  (e1 : ¬ ((x8 : Int32) = (-1))) (kk : qE d 100 113 [some (.ref r0), some (.int x1), some (.int x2), some (.int x3), some (.int x4), some (.int x5), some (.int x6), some (.int x7), some (.int x8), some (.int x9)] [] h q): qE d 100 107 [some (.ref r0), some (.int x1), some (.int x2), some (.int x3), some (.int x4), some (.int x5), some (.int x6), some (.int x7), some (.int x8), some (.int x9)] [] h q := by
  refine qe_iload c100_107 rfl ?_
  refine qe_iconst (x := (-1)) c100_109 (by decide) ?_
  refine qe_icmp_eq_F (t := 130) c100_110 rfl e1 ?_
  exact kk
theorem b100_107T {d : Nat} {q : Option Value × qH} {h : qH} {r0 : Nat} {x1 : Int32} {x2 : Int32} {x3 : Int32} {x4 : Int32} {x5 : Int32} {x6 : Int32} {x7 : Int32} {x8 : Int32} {x9 : Int32}  (e1 : (x8 : Int32) = (-1)) (kk : qE d 100 130 [some (.ref r0), some (.int x1), some (.int x2), some (.int x3), some (.int x4), some (.int x5), some (.int x6), some (.int x7), some (.int x8), some (.int x9)] [] h q): qE d 100 107 [some (.ref r0), some (.int x1), some (.int x2), some (.int x3), some (.int x4), some (.int x5), some (.int x6), some (.int x7), some (.int x8), some (.int x9)] [] h q := by
  refine qe_iload c100_107 rfl ?_
  refine qe_iconst (x := (-1)) c100_109 (by decide) ?_
  refine qe_icmp_eq_T (t := 130) c100_110 rfl e1 ?_
  exact kk
theorem b100_113F {d : Nat} {q : Option Value × qH} {h : qH} {r0 : Nat} {x1 : Int32} {x2 : Int32} {x3 : Int32} {x4 : Int32} {x5 : Int32} {x6 : Int32} {x7 : Int32} {x8 : Int32} {x9 : Int32} {fs1 : List Value} {y3 : Nat} {n5 : Nat} {f6 : Nat → Int32}  (e2 : h.2.2 r0 = some (.inr (12, fs1))) (e4 : fs1[12]? = some (.ref y3)) (e7 : h.2.2 y3 = some (.inl (0, n5, .inl f6))) (e8 : 0 ≤ (x9 : Int32).toInt ∧ (x9 : Int32).toInt < (n5 : Nat)) (e10 : 0 ≤ (x8 : Int32).toInt ∧ (x8 : Int32).toInt < (n5 : Nat)) (e11 : ¬ (((f6 (x9 : Int32).toNatClampNeg) : Int32) ≤ (f6 (x8 : Int32).toNatClampNeg))) (kk : qE d 100 130 [some (.ref r0), some (.int x1), some (.int x2), some (.int x3), some (.int x4), some (.int x5), some (.int x6), some (.int x7), some (.int x8), some (.int x9)] [] h q): qE d 100 113 [some (.ref r0), some (.int x1), some (.int x2), some (.int x3), some (.int x4), some (.int x5), some (.int x6), some (.int x7), some (.int x8), some (.int x9)] [] h q := by
  refine qe_aload_n c100_113 rfl ?_
  refine qe_getfield c100_114 qo100 qF12_21 e2 e4 ?_
  refine qe_iload c100_117 rfl ?_
  refine qe_iaload c100_119 e7 e8 ?_
  refine qe_aload_n c100_120 rfl ?_
  refine qe_getfield c100_121 qo100 qF12_21 e2 e4 ?_
  refine qe_iload c100_124 rfl ?_
  refine qe_iaload c100_126 e7 e10 ?_
  refine qe_icmp_le_F (t := 134) c100_127 rfl e11 ?_
  exact kk
theorem b100_113T {d : Nat} {q : Option Value × qH} {h : qH} {r0 : Nat} {x1 : Int32} {x2 : Int32} {x3 : Int32} {x4 : Int32} {x5 : Int32} {x6 : Int32} {x7 : Int32} {x8 : Int32} {x9 : Int32} {fs1 : List Value} {y3 : Nat} {n5 : Nat} {f6 : Nat → Int32}  (e2 : h.2.2 r0 = some (.inr (12, fs1))) (e4 : fs1[12]? = some (.ref y3)) (e7 : h.2.2 y3 = some (.inl (0, n5, .inl f6))) (e8 : 0 ≤ (x9 : Int32).toInt ∧ (x9 : Int32).toInt < (n5 : Nat)) (e10 : 0 ≤ (x8 : Int32).toInt ∧ (x8 : Int32).toInt < (n5 : Nat)) (e11 : ((f6 (x9 : Int32).toNatClampNeg) : Int32) ≤ (f6 (x8 : Int32).toNatClampNeg)) (kk : qE d 100 134 [some (.ref r0), some (.int x1), some (.int x2), some (.int x3), some (.int x4), some (.int x5), some (.int x6), some (.int x7), some (.int x8), some (.int x9)] [] h q): qE d 100 113 [some (.ref r0), some (.int x1), some (.int x2), some (.int x3), some (.int x4), some (.int x5), some (.int x6), some (.int x7), some (.int x8), some (.int x9)] [] h q := by
  refine qe_aload_n c100_113 rfl ?_
  refine qe_getfield c100_114 qo100 qF12_21 e2 e4 ?_
  refine qe_iload c100_117 rfl ?_
  refine qe_iaload c100_119 e7 e8 ?_
  refine qe_aload_n c100_120 rfl ?_
  refine qe_getfield c100_121 qo100 qF12_21 e2 e4 ?_
  refine qe_iload c100_124 rfl ?_
  refine qe_iaload c100_126 e7 e10 ?_
  refine qe_icmp_le_T (t := 134) c100_127 rfl e11 ?_
  exact kk
theorem b100_130 {d : Nat} {q : Option Value × qH} {h : qH} {r0 : Nat} {x1 : Int32} {x2 : Int32} {x3 : Int32} {x4 : Int32} {x5 : Int32} {x6 : Int32} {x7 : Int32} {x8 : Int32} {x9 : Int32}   (kk : qE d 100 134 [some (.ref r0), some (.int x1), some (.int x2), some (.int x3), some (.int x4), some (.int x5), some (.int x6), some (.int x7), some (.int x9), some (.int x9)] [] h q): qE d 100 130 [some (.ref r0), some (.int x1), some (.int x2), some (.int x3), some (.int x4), some (.int x5), some (.int x6), some (.int x7), some (.int x8), some (.int x9)] [] h q := by
  refine qe_iload c100_130 rfl ?_
  refine qe_istore (ls2 := [some (.ref r0), some (.int x1), some (.int x2), some (.int x3), some (.int x4), some (.int x5), some (.int x6), some (.int x7), some (.int x9), some (.int x9)]) c100_132 (Nat.le_of_ble_eq_true rfl) rfl ?_
  exact kk
theorem b100_134 {d : Nat} {q : Option Value × qH} {h : qH} {r0 : Nat} {x1 : Int32} {x2 : Int32} {x3 : Int32} {x4 : Int32} {x5 : Int32} {x6 : Int32} {x7 : Int32} {x8 : Int32} {x9 : Int32}   (kk : qE d 100 88 [some (.ref r0), some (.int x1), some (.int x2), some (.int x3), some (.int x4), some (.int x5), some (.int x6), some (.int x7), some (.int x8), some (.int (x9 + 1))] [] h q): qE d 100 134 [some (.ref r0), some (.int x1), some (.int x2), some (.int x3), some (.int x4), some (.int x5), some (.int x6), some (.int x7), some (.int x8), some (.int x9)] [] h q := by
  refine qe_iinc (y := (x9 + 1)) (ls2 := [some (.ref r0), some (.int x1), some (.int x2), some (.int x3), some (.int x4), some (.int x5), some (.int x6), some (.int x7), some (.int x8), some (.int (x9 + 1))]) c100_134 rfl (Nat.le_of_ble_eq_true rfl) rfl rfl ?_
  refine qe_goto (t := 88) c100_137 rfl ?_
  exact kk
theorem b100_140F {d : Nat} {q : Option Value × qH} {h : qH} {r0 : Nat} {x1 : Int32} {x2 : Int32} {x3 : Int32} {x4 : Int32} {x5 : Int32} {x6 : Int32} {x7 : Int32} {x8 : Int32} {x9 : Int32} {fs1 : List Value} {y3 : Nat} {n5 : Nat} {f6 : Nat → Int32} {y9 : Nat} {n11 : Nat} {f12 : Nat → Int32} {h1 : qH} {z15 : Int32}  (e2 : h.2.2 r0 = some (.inr (12, fs1))) (e4 : fs1[10]? = some (.ref y3)) (e7 : h.2.2 y3 = some (.inl (0, n5, .inl f6))) (e8 : 0 ≤ ((36059 + x8) : Int32).toInt ∧ ((36059 + x8) : Int32).toInt < (n5 : Nat)) (e10 : fs1[24]? = some (.ref y9)) (e13 : h.2.2 y9 = some (.inl (0, n11, .inl f12))) (e14 : 0 ≤ (x8 : Int32).toInt ∧ (x8 : Int32).toInt < (n11 : Nat)) (e16 : qCall d 118 [.int x3, .int (f12 (x8 : Int32).toNatClampNeg)] h ((some (.int z15)), h1)) (e17 : ¬ ((z15 : Int32) = 0)) (kk : qE d 100 175 [some (.ref r0), some (.int x1), some (.int x2), some (.int x3), some (.int x4), some (.int x5), some (.int (x6 ||| (1 <<< (x8 &&& 31)))), some (.int x7), some (.int x8), some (.int (f6 ((36059 + x8) : Int32).toNatClampNeg))] [] h1 q): qE d 100 140 [some (.ref r0), some (.int x1), some (.int x2), some (.int x3), some (.int x4), some (.int x5), some (.int x6), some (.int x7), some (.int x8), some (.int x9)] [] h q := by
  refine qe_iload c100_140 rfl ?_
  refine qe_iconst (x := 1) c100_142 (by decide) ?_
  refine qe_iload c100_143 rfl ?_
  refine qe_ishl c100_145 ?_
  refine qe_ior c100_146 ?_
  refine qe_istore (ls2 := [some (.ref r0), some (.int x1), some (.int x2), some (.int x3), some (.int x4), some (.int x5), some (.int (x6 ||| (1 <<< (x8 &&& 31)))), some (.int x7), some (.int x8), some (.int x9)]) c100_147 (Nat.le_of_ble_eq_true rfl) rfl ?_
  refine qe_aload_n c100_149 rfl ?_
  refine qe_getfield c100_150 qo100 qF12_14 e2 e4 ?_
  refine qe_ldc (x := 36059) c100_153 qo100 qI12_213 ?_
  refine qe_iload c100_155 rfl ?_
  refine qe_iadd c100_157 ?_
  refine qe_iaload c100_158 e7 e8 ?_
  refine qe_istore (ls2 := [some (.ref r0), some (.int x1), some (.int x2), some (.int x3), some (.int x4), some (.int x5), some (.int (x6 ||| (1 <<< (x8 &&& 31)))), some (.int x7), some (.int x8), some (.int (f6 ((36059 + x8) : Int32).toNatClampNeg))]) c100_159 (Nat.le_of_ble_eq_true rfl) rfl ?_
  refine qe_iload_n c100_161 rfl ?_
  refine qe_aload_n c100_162 rfl ?_
  refine qe_getfield c100_163 qo100 qF12_58 e2 e10 ?_
  refine qe_iload c100_166 rfl ?_
  refine qe_iaload c100_168 e13 e14 ?_
  refine qe_static (as := [.int x3, .int (f12 (x8 : Int32).toNatClampNeg)]) (r := []) (v := (some (.int z15))) (h2 := h1) c100_169 qo100 (by decide) qK12_248 rfl rfl rfl (Nat.le_of_ble_eq_true rfl) e16 ?_
  refine qe_if_eq_F (t := 194) c100_172 rfl e17 ?_
  exact kk
theorem b100_140T {d : Nat} {q : Option Value × qH} {h : qH} {r0 : Nat} {x1 : Int32} {x2 : Int32} {x3 : Int32} {x4 : Int32} {x5 : Int32} {x6 : Int32} {x7 : Int32} {x8 : Int32} {x9 : Int32} {fs1 : List Value} {y3 : Nat} {n5 : Nat} {f6 : Nat → Int32} {y9 : Nat} {n11 : Nat} {f12 : Nat → Int32} {h1 : qH} {z15 : Int32}  (e2 : h.2.2 r0 = some (.inr (12, fs1))) (e4 : fs1[10]? = some (.ref y3)) (e7 : h.2.2 y3 = some (.inl (0, n5, .inl f6))) (e8 : 0 ≤ ((36059 + x8) : Int32).toInt ∧ ((36059 + x8) : Int32).toInt < (n5 : Nat)) (e10 : fs1[24]? = some (.ref y9)) (e13 : h.2.2 y9 = some (.inl (0, n11, .inl f12))) (e14 : 0 ≤ (x8 : Int32).toInt ∧ (x8 : Int32).toInt < (n11 : Nat)) (e16 : qCall d 118 [.int x3, .int (f12 (x8 : Int32).toNatClampNeg)] h ((some (.int z15)), h1)) (e17 : (z15 : Int32) = 0) (kk : qE d 100 194 [some (.ref r0), some (.int x1), some (.int x2), some (.int x3), some (.int x4), some (.int x5), some (.int (x6 ||| (1 <<< (x8 &&& 31)))), some (.int x7), some (.int x8), some (.int (f6 ((36059 + x8) : Int32).toNatClampNeg))] [] h1 q): qE d 100 140 [some (.ref r0), some (.int x1), some (.int x2), some (.int x3), some (.int x4), some (.int x5), some (.int x6), some (.int x7), some (.int x8), some (.int x9)] [] h q := by
  refine qe_iload c100_140 rfl ?_
  refine qe_iconst (x := 1) c100_142 (by decide) ?_
  refine qe_iload c100_143 rfl ?_
  refine qe_ishl c100_145 ?_
  refine qe_ior c100_146 ?_
  refine qe_istore (ls2 := [some (.ref r0), some (.int x1), some (.int x2), some (.int x3), some (.int x4), some (.int x5), some (.int (x6 ||| (1 <<< (x8 &&& 31)))), some (.int x7), some (.int x8), some (.int x9)]) c100_147 (Nat.le_of_ble_eq_true rfl) rfl ?_
  refine qe_aload_n c100_149 rfl ?_
  refine qe_getfield c100_150 qo100 qF12_14 e2 e4 ?_
  refine qe_ldc (x := 36059) c100_153 qo100 qI12_213 ?_
  refine qe_iload c100_155 rfl ?_
  refine qe_iadd c100_157 ?_
  refine qe_iaload c100_158 e7 e8 ?_
  refine qe_istore (ls2 := [some (.ref r0), some (.int x1), some (.int x2), some (.int x3), some (.int x4), some (.int x5), some (.int (x6 ||| (1 <<< (x8 &&& 31)))), some (.int x7), some (.int x8), some (.int (f6 ((36059 + x8) : Int32).toNatClampNeg))]) c100_159 (Nat.le_of_ble_eq_true rfl) rfl ?_
  refine qe_iload_n c100_161 rfl ?_
  refine qe_aload_n c100_162 rfl ?_
  refine qe_getfield c100_163 qo100 qF12_58 e2 e10 ?_
  refine qe_iload c100_166 rfl ?_
  refine qe_iaload c100_168 e13 e14 ?_
  refine qe_static (as := [.int x3, .int (f12 (x8 : Int32).toNatClampNeg)]) (r := []) (v := (some (.int z15))) (h2 := h1) c100_169 qo100 (by decide) qK12_248 rfl rfl rfl (Nat.le_of_ble_eq_true rfl) e16 ?_
  refine qe_if_eq_T (t := 194) c100_172 rfl e17 ?_
  exact kk
theorem b100_175F {d : Nat} {q : Option Value × qH} {h : qH} {r0 : Nat} {x1 : Int32} {x2 : Int32} {x3 : Int32} {x4 : Int32} {x5 : Int32} {x6 : Int32} {x7 : Int32} {x8 : Int32} {x9 : Int32}  (e1 : ¬ ((x2 : Int32) < (x5 + x9))) (kk : qE d 100 184 [some (.ref r0), some (.int x1), some (.int x2), some (.int x3), some (.int x4), some (.int x5), some (.int x6), some (.int x7), some (.int x8), some (.int x9)] [] h q): qE d 100 175 [some (.ref r0), some (.int x1), some (.int x2), some (.int x3), some (.int x4), some (.int x5), some (.int x6), some (.int x7), some (.int x8), some (.int x9)] [] h q := by
  refine qe_iload c100_175 rfl ?_
  refine qe_iload c100_177 rfl ?_
  refine qe_iadd c100_179 ?_
  refine qe_iload_n c100_180 rfl ?_
  refine qe_icmp_gt_F (t := 194) c100_181 rfl e1 ?_
  exact kk
theorem b100_175T {d : Nat} {q : Option Value × qH} {h : qH} {r0 : Nat} {x1 : Int32} {x2 : Int32} {x3 : Int32} {x4 : Int32} {x5 : Int32} {x6 : Int32} {x7 : Int32} {x8 : Int32} {x9 : Int32}  (e1 : (x2 : Int32) < (x5 + x9)) (kk : qE d 100 194 [some (.ref r0), some (.int x1), some (.int x2), some (.int x3), some (.int x4), some (.int x5), some (.int x6), some (.int x7), some (.int x8), some (.int x9)] [] h q): qE d 100 175 [some (.ref r0), some (.int x1), some (.int x2), some (.int x3), some (.int x4), some (.int x5), some (.int x6), some (.int x7), some (.int x8), some (.int x9)] [] h q := by
  refine qe_iload c100_175 rfl ?_
  refine qe_iload c100_177 rfl ?_
  refine qe_iadd c100_179 ?_
  refine qe_iload_n c100_180 rfl ?_
  refine qe_icmp_gt_T (t := 194) c100_181 rfl e1 ?_
  exact kk
theorem b100_184 {d : Nat} {q : Option Value × qH} {h : qH} {r0 : Nat} {x1 : Int32} {x2 : Int32} {x3 : Int32} {x4 : Int32} {x5 : Int32} {x6 : Int32} {x7 : Int32} {x8 : Int32} {x9 : Int32}   (kk : qE d 100 201 [some (.ref r0), some (.int x1), some (.int x2), some (.int x3), some (.int x4), some (.int (x5 + x9)), some (.int x6), some (.int x7), some (.int x8), some (.int x9)] [] h q): qE d 100 184 [some (.ref r0), some (.int x1), some (.int x2), some (.int x3), some (.int x4), some (.int x5), some (.int x6), some (.int x7), some (.int x8), some (.int x9)] [] h q := by
  refine qe_iload c100_184 rfl ?_
  refine qe_iload c100_186 rfl ?_
  refine qe_iadd c100_188 ?_
  refine qe_istore (ls2 := [some (.ref r0), some (.int x1), some (.int x2), some (.int x3), some (.int x4), some (.int (x5 + x9)), some (.int x6), some (.int x7), some (.int x8), some (.int x9)]) c100_189 (Nat.le_of_ble_eq_true rfl) rfl ?_
  refine qe_goto (t := 201) c100_191 rfl ?_
  exact kk
theorem b100_194 {d : Nat} {q : Option Value × qH} {h : qH} {r0 : Nat} {x1 : Int32} {x2 : Int32} {x3 : Int32} {x4 : Int32} {x5 : Int32} {x6 : Int32} {x7 : Int32} {x8 : Int32} {x9 : Int32}   (kk : qE d 100 201 [some (.ref r0), some (.int x1), some (.int x2), some (.int x3), some (.int (x4 + x9)), some (.int x5), some (.int x6), some (.int x7), some (.int x8), some (.int x9)] [] h q): qE d 100 194 [some (.ref r0), some (.int x1), some (.int x2), some (.int x3), some (.int x4), some (.int x5), some (.int x6), some (.int x7), some (.int x8), some (.int x9)] [] h q := by
  refine qe_iload c100_194 rfl ?_
  refine qe_iload c100_196 rfl ?_
  refine qe_iadd c100_198 ?_
  refine qe_istore (ls2 := [some (.ref r0), some (.int x1), some (.int x2), some (.int x3), some (.int (x4 + x9)), some (.int x5), some (.int x6), some (.int x7), some (.int x8), some (.int x9)]) c100_199 (Nat.le_of_ble_eq_true rfl) rfl ?_
  exact kk
theorem b100_201 {d : Nat} {q : Option Value × qH} {h : qH} {r0 : Nat} {x1 : Int32} {x2 : Int32} {x3 : Int32} {x4 : Int32} {x5 : Int32} {x6 : Int32} {x7 : Int32} {x8 : Int32} {x9 : Int32}   (kk : qE d 100 73 [some (.ref r0), some (.int x1), some (.int x2), some (.int x3), some (.int x4), some (.int x5), some (.int x6), some (.int (x7 + 1)), some (.int x8), some (.int x9)] [] h q): qE d 100 201 [some (.ref r0), some (.int x1), some (.int x2), some (.int x3), some (.int x4), some (.int x5), some (.int x6), some (.int x7), some (.int x8), some (.int x9)] [] h q := by
  refine qe_iinc (y := (x7 + 1)) (ls2 := [some (.ref r0), some (.int x1), some (.int x2), some (.int x3), some (.int x4), some (.int x5), some (.int x6), some (.int (x7 + 1)), some (.int x8), some (.int x9)]) c100_201 rfl (Nat.le_of_ble_eq_true rfl) rfl rfl ?_
  refine qe_goto (t := 73) c100_204 rfl ?_
  exact kk
theorem b100_207 {d : Nat} {h : qH} {r0 : Nat} {x1 : Int32} {x2 : Int32} {x3 : Int32} {x4 : Int32} {x5 : Int32} {x6 : Int32} {x7 : Int32} {o8 : Option Value} {o9 : Option Value}   : qE d 100 207 [some (.ref r0), some (.int x1), some (.int x2), some (.int x3), some (.int x4), some (.int x5), some (.int x6), some (.int x7), o8, o9] [] h (some (.int x4), h) := by
  refine qe_iload c100_207 rfl ?_
  exact qe_iret c100_209 qr100
theorem b101_0F {d : Nat} {q : Option Value × qH} {h : qH} {r0 : Nat} {x1 : Int32} {x2 : Int32} {fs1 : List Value} {y3 : Nat} {n5 : Nat} {f6 : Nat → Int64}  (e2 : h.2.2 r0 = some (.inr (12, fs1))) (e4 : fs1[78]? = some (.ref y3)) (e7 : h.2.2 y3 = some (.inl (2, n5, .inr (.inl f6)))) (e8 : 0 ≤ ((x1 ||| (1 <<< (x2 &&& 31))) : Int32).toInt ∧ ((x1 ||| (1 <<< (x2 &&& 31))) : Int32).toInt < (n5 : Nat)) (e9 : ¬ (((lg_cmp ((f6 ((x1 ||| (1 <<< (x2 &&& 31))) : Int32).toNatClampNeg)) 0) : Int32) < 0)) (kk : qE d 101 17 [some (.ref r0), some (.int x1), some (.int x2), some (.long (f6 ((x1 ||| (1 <<< (x2 &&& 31))) : Int32).toNatClampNeg)), none] [] h q): qE d 101 0 [some (.ref r0), some (.int x1), some (.int x2), none, none] [] h q := by
  refine qe_aload_n c101_0 rfl ?_
  refine qe_getfield c101_1 qo101 qF12_179 e2 e4 ?_
  refine qe_iload_n c101_4 rfl ?_
  refine qe_iconst (x := 1) c101_5 (by decide) ?_
  refine qe_iload_n c101_6 rfl ?_
  refine qe_ishl c101_7 ?_
  refine qe_ior c101_8 ?_
  refine qe_laload c101_9 e7 e8 ?_
  refine qe_lstore_n (ls2 := [some (.ref r0), some (.int x1), some (.int x2), some (.long (f6 ((x1 ||| (1 <<< (x2 &&& 31))) : Int32).toNatClampNeg)), none]) c101_10 (Nat.le_of_ble_eq_true rfl) rfl ?_
  refine qe_lload_n c101_11 rfl ?_
  refine qe_lconst (x := 0) c101_12 (by decide) ?_
  refine qe_lcmp c101_13 ?_
  refine qe_if_lt_F (t := 26) c101_14 rfl e9 ?_
  exact kk
theorem b101_0T {d : Nat} {q : Option Value × qH} {h : qH} {r0 : Nat} {x1 : Int32} {x2 : Int32} {fs1 : List Value} {y3 : Nat} {n5 : Nat} {f6 : Nat → Int64}  (e2 : h.2.2 r0 = some (.inr (12, fs1))) (e4 : fs1[78]? = some (.ref y3)) (e7 : h.2.2 y3 = some (.inl (2, n5, .inr (.inl f6)))) (e8 : 0 ≤ ((x1 ||| (1 <<< (x2 &&& 31))) : Int32).toInt ∧ ((x1 ||| (1 <<< (x2 &&& 31))) : Int32).toInt < (n5 : Nat)) (e9 : ((lg_cmp ((f6 ((x1 ||| (1 <<< (x2 &&& 31))) : Int32).toNatClampNeg)) 0) : Int32) < 0) (kk : qE d 101 26 [some (.ref r0), some (.int x1), some (.int x2), some (.long (f6 ((x1 ||| (1 <<< (x2 &&& 31))) : Int32).toNatClampNeg)), none] [] h q): qE d 101 0 [some (.ref r0), some (.int x1), some (.int x2), none, none] [] h q := by
  refine qe_aload_n c101_0 rfl ?_
  refine qe_getfield c101_1 qo101 qF12_179 e2 e4 ?_
  refine qe_iload_n c101_4 rfl ?_
  refine qe_iconst (x := 1) c101_5 (by decide) ?_
  refine qe_iload_n c101_6 rfl ?_
  refine qe_ishl c101_7 ?_
  refine qe_ior c101_8 ?_
  refine qe_laload c101_9 e7 e8 ?_
  refine qe_lstore_n (ls2 := [some (.ref r0), some (.int x1), some (.int x2), some (.long (f6 ((x1 ||| (1 <<< (x2 &&& 31))) : Int32).toNatClampNeg)), none]) c101_10 (Nat.le_of_ble_eq_true rfl) rfl ?_
  refine qe_lload_n c101_11 rfl ?_
  refine qe_lconst (x := 0) c101_12 (by decide) ?_
  refine qe_lcmp c101_13 ?_
  refine qe_if_lt_T (t := 26) c101_14 rfl e9 ?_
  exact kk
theorem b101_17F {d : Nat} {q : Option Value × qH} {h : qH} {r0 : Nat} {x1 : Int32} {x2 : Int32} {l3 : Int64} {fs1 : List Value} {h1 : qH} {z3 : Int32}  (e2 : h.2.2 r0 = some (.inr (12, fs1))) (e4 : qCall d 88 [.ref r0, .int x2, .int x1] h ((some (.int z3)), h1)) (e5 : (z3 : Int32) = 0) (kk : qE d 101 26 [some (.ref r0), some (.int x1), some (.int x2), some (.long l3), none] [] h1 q): qE d 101 17 [some (.ref r0), some (.int x1), some (.int x2), some (.long l3), none] [] h q := by
  refine qe_aload_n c101_17 rfl ?_
  refine qe_iload_n c101_18 rfl ?_
  refine qe_iload_n c101_19 rfl ?_
  refine qe_virtual (b := r0) (as := [.int x2, .int x1]) (r := []) (v := (some (.int z3))) (h2 := h1) c101_20 qo101 qK12_524 rfl rfl rfl (by rw [qo88]; exact e2) (Nat.le_of_ble_eq_true rfl) e4 ?_
  refine qe_if_ne_F (t := 32) c101_23 rfl e5 ?_
  exact kk
theorem b101_17T {d : Nat} {q : Option Value × qH} {h : qH} {r0 : Nat} {x1 : Int32} {x2 : Int32} {l3 : Int64} {fs1 : List Value} {h1 : qH} {z3 : Int32}  (e2 : h.2.2 r0 = some (.inr (12, fs1))) (e4 : qCall d 88 [.ref r0, .int x2, .int x1] h ((some (.int z3)), h1)) (e5 : ¬ ((z3 : Int32) = 0)) (kk : qE d 101 32 [some (.ref r0), some (.int x1), some (.int x2), some (.long l3), none] [] h1 q): qE d 101 17 [some (.ref r0), some (.int x1), some (.int x2), some (.long l3), none] [] h q := by
  refine qe_aload_n c101_17 rfl ?_
  refine qe_iload_n c101_18 rfl ?_
  refine qe_iload_n c101_19 rfl ?_
  refine qe_virtual (b := r0) (as := [.int x2, .int x1]) (r := []) (v := (some (.int z3))) (h2 := h1) c101_20 qo101 qK12_524 rfl rfl rfl (by rw [qo88]; exact e2) (Nat.le_of_ble_eq_true rfl) e4 ?_
  refine qe_if_ne_T (t := 32) c101_23 rfl e5 ?_
  exact kk
theorem b101_26 {d : Nat} {q : Option Value × qH} {h : qH} {r0 : Nat} {x1 : Int32} {x2 : Int32} {l3 : Int64}   (kk : qE d 101 48 [some (.ref r0), some (.int x1), some (.int x2), some (.long l3), none] [.long (-1)] h q): qE d 101 26 [some (.ref r0), some (.int x1), some (.int x2), some (.long l3), none] [] h q := by
  refine qe_ldc2_w (x := (-1)) c101_26 qo101 qJ12_482 ?_
  refine qe_goto (t := 48) c101_29 rfl ?_
  exact kk
theorem b101_32 {d : Nat} {q : Option Value × qH} {h : qH} {r0 : Nat} {x1 : Int32} {x2 : Int32} {l3 : Int64} {fs1 : List Value} {y3 : Nat} {n5 : Nat} {f6 : Nat → Int32} {h1 : qH} {z9 : Int32}  (e2 : h.2.2 r0 = some (.inr (12, fs1))) (e4 : fs1[23]? = some (.ref y3)) (e7 : h.2.2 y3 = some (.inl (0, n5, .inl f6))) (e8 : 0 ≤ (x2 : Int32).toInt ∧ (x2 : Int32).toInt < (n5 : Nat)) (e10 : qCall d 100 [.ref r0, .int x1] h ((some (.int z9)), h1)) (kk : qE d 101 48 [some (.ref r0), some (.int x1), some (.int x2), some (.long l3), none] [.long (l3 + (((f6 (x2 : Int32).toNatClampNeg) : Int32).toInt64 * (z9 : Int32).toInt64))] h1 q): qE d 101 32 [some (.ref r0), some (.int x1), some (.int x2), some (.long l3), none] [] h q := by
  refine qe_lload_n c101_32 rfl ?_
  refine qe_aload_n c101_33 rfl ?_
  refine qe_getfield c101_34 qo101 qF12_55 e2 e4 ?_
  refine qe_iload_n c101_37 rfl ?_
  refine qe_iaload c101_38 e7 e8 ?_
  refine qe_i2l c101_39 ?_
  refine qe_aload_n c101_40 rfl ?_
  refine qe_iload_n c101_41 rfl ?_
  refine qe_virtual (b := r0) (as := [.int x1]) (r := [.long ((f6 (x2 : Int32).toNatClampNeg) : Int32).toInt64, .long l3]) (v := (some (.int z9))) (h2 := h1) c101_42 qo101 qK12_527 rfl rfl rfl (by rw [qo100]; exact e2) (Nat.le_of_ble_eq_true rfl) e10 ?_
  refine qe_i2l c101_45 ?_
  refine qe_lmul c101_46 ?_
  refine qe_ladd c101_47 ?_
  exact kk
theorem b101_48 {d : Nat} {h : qH} {r0 : Nat} {x1 : Int32} {x2 : Int32} {l3 : Int64} {ls0 : Int64}   : qE d 101 48 [some (.ref r0), some (.int x1), some (.int x2), some (.long l3), none] [.long ls0] h (some (.long ls0), h) := by
  exact qe_lret c101_48 qr101
theorem b102_0F {d : Nat} {q : Option Value × qH} {h : qH} {r0 : Nat} {x1 : Int32} {x2 : Int32}  (e1 : ¬ ((x1 : Int32) = 38)) (kk : qE d 102 10 [some (.ref r0), some (.int x1), some (.int x2), some (.int (x2 + 1))] [] h q): qE d 102 0 [some (.ref r0), some (.int x1), some (.int x2), none] [] h q := by
  refine qe_iload_n c102_0 rfl ?_
  refine qe_iconst (x := 1) c102_1 (by decide) ?_
  refine qe_iadd c102_2 ?_
  refine qe_istore_n (ls2 := [some (.ref r0), some (.int x1), some (.int x2), some (.int (x2 + 1))]) c102_3 (Nat.le_of_ble_eq_true rfl) rfl ?_
  refine qe_iload_n c102_4 rfl ?_
  refine qe_bipush (x := 38) c102_5 (by decide) ?_
  refine qe_icmp_eq_F (t := 16) c102_7 rfl e1 ?_
  exact kk
theorem b102_0T {d : Nat} {q : Option Value × qH} {h : qH} {r0 : Nat} {x1 : Int32} {x2 : Int32}  (e1 : (x1 : Int32) = 38) (kk : qE d 102 16 [some (.ref r0), some (.int x1), some (.int x2), some (.int (x2 + 1))] [] h q): qE d 102 0 [some (.ref r0), some (.int x1), some (.int x2), none] [] h q := by
  refine qe_iload_n c102_0 rfl ?_
  refine qe_iconst (x := 1) c102_1 (by decide) ?_
  refine qe_iadd c102_2 ?_
  refine qe_istore_n (ls2 := [some (.ref r0), some (.int x1), some (.int x2), some (.int (x2 + 1))]) c102_3 (Nat.le_of_ble_eq_true rfl) rfl ?_
  refine qe_iload_n c102_4 rfl ?_
  refine qe_bipush (x := 38) c102_5 (by decide) ?_
  refine qe_icmp_eq_T (t := 16) c102_7 rfl e1 ?_
  exact kk
theorem b102_10F {d : Nat} {q : Option Value × qH} {h : qH} {r0 : Nat} {x1 : Int32} {x2 : Int32} {x3 : Int32}  (e1 : (x1 : Int32) = 124) (kk : qE d 102 16 [some (.ref r0), some (.int x1), some (.int x2), some (.int x3)] [] h q): qE d 102 10 [some (.ref r0), some (.int x1), some (.int x2), some (.int x3)] [] h q := by
  refine qe_iload_n c102_10 rfl ?_
  refine qe_bipush (x := 124) c102_11 (by decide) ?_
  refine qe_icmp_ne_F (t := 72) c102_13 rfl e1 ?_
  exact kk
theorem b102_10T {d : Nat} {q : Option Value × qH} {h : qH} {r0 : Nat} {x1 : Int32} {x2 : Int32} {x3 : Int32}  (e1 : ¬ ((x1 : Int32) = 124)) (kk : qE d 102 72 [some (.ref r0), some (.int x1), some (.int x2), some (.int x3)] [] h q): qE d 102 10 [some (.ref r0), some (.int x1), some (.int x2), some (.int x3)] [] h q := by
  refine qe_iload_n c102_10 rfl ?_
  refine qe_bipush (x := 124) c102_11 (by decide) ?_
  refine qe_icmp_ne_T (t := 72) c102_13 rfl e1 ?_
  exact kk
theorem b102_16F {d : Nat} {q : Option Value × qH} {h : qH} {r0 : Nat} {x1 : Int32} {x2 : Int32} {x3 : Int32} {fs1 : List Value} {y3 : Nat} {n5 : Nat} {f6 : Nat → Int32}  (e2 : h.2.2 r0 = some (.inr (12, fs1))) (e4 : fs1[58]? = some (.ref y3)) (e7 : h.2.2 y3 = some (.inl (1, n5, .inl f6))) (e8 : 0 ≤ (x2 : Int32).toInt ∧ (x2 : Int32).toInt < (n5 : Nat)) (e9 : ((f6 (x2 : Int32).toNatClampNeg) : Int32) = 0) (kk : qE d 102 25 [some (.ref r0), some (.int x1), some (.int x2), some (.int x3)] [] h q): qE d 102 16 [some (.ref r0), some (.int x1), some (.int x2), some (.int x3)] [] h q := by
  refine qe_aload_n c102_16 rfl ?_
  refine qe_getfield c102_17 qo102 qF12_122 e2 e4 ?_
  refine qe_iload_n c102_20 rfl ?_
  refine qe_zaload c102_21 e7 e8 ?_
  refine qe_if_ne_F (t := 46) c102_22 rfl e9 ?_
  exact kk
theorem b102_16T {d : Nat} {q : Option Value × qH} {h : qH} {r0 : Nat} {x1 : Int32} {x2 : Int32} {x3 : Int32} {fs1 : List Value} {y3 : Nat} {n5 : Nat} {f6 : Nat → Int32}  (e2 : h.2.2 r0 = some (.inr (12, fs1))) (e4 : fs1[58]? = some (.ref y3)) (e7 : h.2.2 y3 = some (.inl (1, n5, .inl f6))) (e8 : 0 ≤ (x2 : Int32).toInt ∧ (x2 : Int32).toInt < (n5 : Nat)) (e9 : ¬ (((f6 (x2 : Int32).toNatClampNeg) : Int32) = 0)) (kk : qE d 102 46 [some (.ref r0), some (.int x1), some (.int x2), some (.int x3)] [] h q): qE d 102 16 [some (.ref r0), some (.int x1), some (.int x2), some (.int x3)] [] h q := by
  refine qe_aload_n c102_16 rfl ?_
  refine qe_getfield c102_17 qo102 qF12_122 e2 e4 ?_
  refine qe_iload_n c102_20 rfl ?_
  refine qe_zaload c102_21 e7 e8 ?_
  refine qe_if_ne_T (t := 46) c102_22 rfl e9 ?_
  exact kk
theorem b102_25F {d : Nat} {q : Option Value × qH} {h : qH} {r0 : Nat} {x1 : Int32} {x2 : Int32} {x3 : Int32} {fs1 : List Value} {y3 : Nat} {n5 : Nat} {f6 : Nat → Int64}  (e2 : h.2.2 r0 = some (.inr (12, fs1))) (e4 : fs1[57]? = some (.ref y3)) (e7 : h.2.2 y3 = some (.inl (2, n5, .inr (.inl f6)))) (e8 : 0 ≤ (x2 : Int32).toInt ∧ (x2 : Int32).toInt < (n5 : Nat)) (e9 : (x1 : Int32) = 38) (kk : qE d 102 37 [some (.ref r0), some (.int x1), some (.int x2), some (.int x3)] [.long (f6 (x2 : Int32).toNatClampNeg)] h q): qE d 102 25 [some (.ref r0), some (.int x1), some (.int x2), some (.int x3)] [] h q := by
  refine qe_aload_n c102_25 rfl ?_
  refine qe_getfield c102_26 qo102 qF12_119 e2 e4 ?_
  refine qe_iload_n c102_29 rfl ?_
  refine qe_laload c102_30 e7 e8 ?_
  refine qe_iload_n c102_31 rfl ?_
  refine qe_bipush (x := 38) c102_32 (by decide) ?_
  refine qe_icmp_ne_F (t := 41) c102_34 rfl e9 ?_
  exact kk
theorem b102_25T {d : Nat} {q : Option Value × qH} {h : qH} {r0 : Nat} {x1 : Int32} {x2 : Int32} {x3 : Int32} {fs1 : List Value} {y3 : Nat} {n5 : Nat} {f6 : Nat → Int64}  (e2 : h.2.2 r0 = some (.inr (12, fs1))) (e4 : fs1[57]? = some (.ref y3)) (e7 : h.2.2 y3 = some (.inl (2, n5, .inr (.inl f6)))) (e8 : 0 ≤ (x2 : Int32).toInt ∧ (x2 : Int32).toInt < (n5 : Nat)) (e9 : ¬ ((x1 : Int32) = 38)) (kk : qE d 102 41 [some (.ref r0), some (.int x1), some (.int x2), some (.int x3)] [.long (f6 (x2 : Int32).toNatClampNeg)] h q): qE d 102 25 [some (.ref r0), some (.int x1), some (.int x2), some (.int x3)] [] h q := by
  refine qe_aload_n c102_25 rfl ?_
  refine qe_getfield c102_26 qo102 qF12_119 e2 e4 ?_
  refine qe_iload_n c102_29 rfl ?_
  refine qe_laload c102_30 e7 e8 ?_
  refine qe_iload_n c102_31 rfl ?_
  refine qe_bipush (x := 38) c102_32 (by decide) ?_
  refine qe_icmp_ne_T (t := 41) c102_34 rfl e9 ?_
  exact kk
theorem b102_37 {d : Nat} {q : Option Value × qH} {h : qH} {r0 : Nat} {x1 : Int32} {x2 : Int32} {x3 : Int32} {ls0 : Int64}   (kk : qE d 102 42 [some (.ref r0), some (.int x1), some (.int x2), some (.int x3)] [.long 1, .long ls0] h q): qE d 102 37 [some (.ref r0), some (.int x1), some (.int x2), some (.int x3)] [.long ls0] h q := by
  refine qe_lconst (x := 1) c102_37 (by decide) ?_
  refine qe_goto (t := 42) c102_38 rfl ?_
  exact kk
theorem b102_41 {d : Nat} {q : Option Value × qH} {h : qH} {r0 : Nat} {x1 : Int32} {x2 : Int32} {x3 : Int32} {ls0 : Int64}   (kk : qE d 102 42 [some (.ref r0), some (.int x1), some (.int x2), some (.int x3)] [.long 0, .long ls0] h q): qE d 102 41 [some (.ref r0), some (.int x1), some (.int x2), some (.int x3)] [.long ls0] h q := by
  refine qe_lconst (x := 0) c102_41 (by decide) ?_
  exact kk
theorem b102_42F {d : Nat} {q : Option Value × qH} {h : qH} {r0 : Nat} {x1 : Int32} {x2 : Int32} {x3 : Int32} {ls0 : Int64} {ls1 : Int64}  (e1 : ¬ (((lg_cmp ls0 ls1) : Int32) = 0)) (kk : qE d 102 46 [some (.ref r0), some (.int x1), some (.int x2), some (.int x3)] [] h q): qE d 102 42 [some (.ref r0), some (.int x1), some (.int x2), some (.int x3)] [.long ls1, .long ls0] h q := by
  refine qe_lcmp c102_42 ?_
  refine qe_if_eq_F (t := 47) c102_43 rfl e1 ?_
  exact kk
theorem b102_42T {d : Nat} {q : Option Value × qH} {h : qH} {r0 : Nat} {x1 : Int32} {x2 : Int32} {x3 : Int32} {ls0 : Int64} {ls1 : Int64}  (e1 : ((lg_cmp ls0 ls1) : Int32) = 0) (kk : qE d 102 47 [some (.ref r0), some (.int x1), some (.int x2), some (.int x3)] [] h q): qE d 102 42 [some (.ref r0), some (.int x1), some (.int x2), some (.int x3)] [.long ls1, .long ls0] h q := by
  refine qe_lcmp c102_42 ?_
  refine qe_if_eq_T (t := 47) c102_43 rfl e1 ?_
  exact kk
theorem b102_46 {d : Nat} {h : qH} {r0 : Nat} {x1 : Int32} {x2 : Int32} {x3 : Int32}   : qE d 102 46 [some (.ref r0), some (.int x1), some (.int x2), some (.int x3)] [] h (none, h) := by
  exact qe_vret c102_46 qr102
theorem b102_47 {d : Nat} {h : qH} {r0 : Nat} {x1 : Int32} {x2 : Int32} {x3 : Int32} {fs1 : List Value} {y3 : Nat} {n6 : Nat} {f7 : Nat → Int64} {h1 : qH} {fs12 : List Value} {y14 : Nat} {n17 : Nat} {f18 : Nat → Int32} {h2 : qH}  (e2 : h.2.2 r0 = some (.inr (12, fs1))) (e4 : fs1[57]? = some (.ref y3)) (e8 : h.2.2 y3 = some (.inl (2, n6, .inr (.inl f7)))) (e9 : 0 ≤ (x3 : Int32).toInt ∧ (x3 : Int32).toInt < (n6 : Nat)) (e10 : 0 ≤ (x2 : Int32).toInt ∧ (x2 : Int32).toInt < (n6 : Nat)) (e11 : qset h y3 (.inl (2, n6, .inr (.inl (vp_updL f7 ((x2 : Int32).toNatClampNeg) ((f7 (x3 : Int32).toNatClampNeg)))))) = h1) (e13 : h1.2.2 r0 = some (.inr (12, fs12))) (e15 : fs12[58]? = some (.ref y14)) (e19 : h1.2.2 y14 = some (.inl (1, n17, .inl f18))) (e20 : 0 ≤ (x3 : Int32).toInt ∧ (x3 : Int32).toInt < (n17 : Nat)) (e21 : 0 ≤ (x2 : Int32).toInt ∧ (x2 : Int32).toInt < (n17 : Nat)) (e22 : ((f18 (x3 : Int32).toNatClampNeg) : Int32) = 0 ∨ ((f18 (x3 : Int32).toNatClampNeg) : Int32) = 1) (e23 : qset h1 y14 (.inl (1, n17, .inl (upd f18 ((x2 : Int32).toNatClampNeg) ((f18 (x3 : Int32).toNatClampNeg))))) = h2) : qE d 102 47 [some (.ref r0), some (.int x1), some (.int x2), some (.int x3)] [] h (none, h2) := by
  refine qe_aload_n c102_47 rfl ?_
  refine qe_getfield c102_48 qo102 qF12_119 e2 e4 ?_
  refine qe_iload_n c102_51 rfl ?_
  refine qe_aload_n c102_52 rfl ?_
  refine qe_getfield c102_53 qo102 qF12_119 e2 e4 ?_
  refine qe_iload_n c102_56 rfl ?_
  refine qe_laload c102_57 e8 e9 ?_
  refine qe_lastore c102_58 e8 e10 ?_
  rw [e11]
  refine qe_aload_n c102_59 rfl ?_
  refine qe_getfield c102_60 qo102 qF12_122 e13 e15 ?_
  refine qe_iload_n c102_63 rfl ?_
  refine qe_aload_n c102_64 rfl ?_
  refine qe_getfield c102_65 qo102 qF12_122 e13 e15 ?_
  refine qe_iload_n c102_68 rfl ?_
  refine qe_zaload c102_69 e19 e20 ?_
  refine qe_zastore c102_70 e19 e21 e22 ?_
  rw [e23]
  exact qe_vret c102_71 qr102
theorem b102_72F {d : Nat} {q : Option Value × qH} {h : qH} {r0 : Nat} {x1 : Int32} {x2 : Int32} {x3 : Int32} {fs1 : List Value} {y3 : Nat} {n6 : Nat} {f7 : Nat → Int32}  (e2 : h.2.2 r0 = some (.inr (12, fs1))) (e4 : fs1[58]? = some (.ref y3)) (e8 : h.2.2 y3 = some (.inl (1, n6, .inl f7))) (e9 : 0 ≤ (x2 : Int32).toInt ∧ (x2 : Int32).toInt < (n6 : Nat)) (e10 : ((f7 (x2 : Int32).toNatClampNeg) : Int32) = 0) (kk : qE d 102 86 [some (.ref r0), some (.int x1), some (.int x2), some (.int x3)] [.int x2, .ref y3] h q): qE d 102 72 [some (.ref r0), some (.int x1), some (.int x2), some (.int x3)] [] h q := by
  refine qe_aload_n c102_72 rfl ?_
  refine qe_getfield c102_73 qo102 qF12_122 e2 e4 ?_
  refine qe_iload_n c102_76 rfl ?_
  refine qe_aload_n c102_77 rfl ?_
  refine qe_getfield c102_78 qo102 qF12_122 e2 e4 ?_
  refine qe_iload_n c102_81 rfl ?_
  refine qe_zaload c102_82 e8 e9 ?_
  refine qe_if_ne_F (t := 118) c102_83 rfl e10 ?_
  exact kk
theorem b102_72T {d : Nat} {q : Option Value × qH} {h : qH} {r0 : Nat} {x1 : Int32} {x2 : Int32} {x3 : Int32} {fs1 : List Value} {y3 : Nat} {n6 : Nat} {f7 : Nat → Int32}  (e2 : h.2.2 r0 = some (.inr (12, fs1))) (e4 : fs1[58]? = some (.ref y3)) (e8 : h.2.2 y3 = some (.inl (1, n6, .inl f7))) (e9 : 0 ≤ (x2 : Int32).toInt ∧ (x2 : Int32).toInt < (n6 : Nat)) (e10 : ¬ (((f7 (x2 : Int32).toNatClampNeg) : Int32) = 0)) (kk : qE d 102 118 [some (.ref r0), some (.int x1), some (.int x2), some (.int x3)] [.int x2, .ref y3] h q): qE d 102 72 [some (.ref r0), some (.int x1), some (.int x2), some (.int x3)] [] h q := by
  refine qe_aload_n c102_72 rfl ?_
  refine qe_getfield c102_73 qo102 qF12_122 e2 e4 ?_
  refine qe_iload_n c102_76 rfl ?_
  refine qe_aload_n c102_77 rfl ?_
  refine qe_getfield c102_78 qo102 qF12_122 e2 e4 ?_
  refine qe_iload_n c102_81 rfl ?_
  refine qe_zaload c102_82 e8 e9 ?_
  refine qe_if_ne_T (t := 118) c102_83 rfl e10 ?_
  exact kk
theorem b102_86F {d : Nat} {q : Option Value × qH} {h : qH} {r0 : Nat} {x1 : Int32} {x2 : Int32} {x3 : Int32} {rs0 : Nat} {xs1 : Int32} {fs1 : List Value} {y3 : Nat} {n5 : Nat} {f6 : Nat → Int32}  (e2 : h.2.2 r0 = some (.inr (12, fs1))) (e4 : fs1[58]? = some (.ref y3)) (e7 : h.2.2 y3 = some (.inl (1, n5, .inl f6))) (e8 : 0 ≤ (x3 : Int32).toInt ∧ (x3 : Int32).toInt < (n5 : Nat)) (e9 : ((f6 (x3 : Int32).toNatClampNeg) : Int32) = 0) (kk : qE d 102 95 [some (.ref r0), some (.int x1), some (.int x2), some (.int x3)] [.int xs1, .ref rs0] h q): qE d 102 86 [some (.ref r0), some (.int x1), some (.int x2), some (.int x3)] [.int xs1, .ref rs0] h q := by
  refine qe_aload_n c102_86 rfl ?_
  refine qe_getfield c102_87 qo102 qF12_122 e2 e4 ?_
  refine qe_iload_n c102_90 rfl ?_
  refine qe_zaload c102_91 e7 e8 ?_
  refine qe_if_ne_F (t := 118) c102_92 rfl e9 ?_
  exact kk
theorem b102_86T {d : Nat} {q : Option Value × qH} {h : qH} {r0 : Nat} {x1 : Int32} {x2 : Int32} {x3 : Int32} {rs0 : Nat} {xs1 : Int32} {fs1 : List Value} {y3 : Nat} {n5 : Nat} {f6 : Nat → Int32}  (e2 : h.2.2 r0 = some (.inr (12, fs1))) (e4 : fs1[58]? = some (.ref y3)) (e7 : h.2.2 y3 = some (.inl (1, n5, .inl f6))) (e8 : 0 ≤ (x3 : Int32).toInt ∧ (x3 : Int32).toInt < (n5 : Nat)) (e9 : ¬ (((f6 (x3 : Int32).toNatClampNeg) : Int32) = 0)) (kk : qE d 102 118 [some (.ref r0), some (.int x1), some (.int x2), some (.int x3)] [.int xs1, .ref rs0] h q): qE d 102 86 [some (.ref r0), some (.int x1), some (.int x2), some (.int x3)] [.int xs1, .ref rs0] h q := by
  refine qe_aload_n c102_86 rfl ?_
  refine qe_getfield c102_87 qo102 qF12_122 e2 e4 ?_
  refine qe_iload_n c102_90 rfl ?_
  refine qe_zaload c102_91 e7 e8 ?_
  refine qe_if_ne_T (t := 118) c102_92 rfl e9 ?_
  exact kk
theorem b102_95F {d : Nat} {q : Option Value × qH} {h : qH} {r0 : Nat} {x1 : Int32} {x2 : Int32} {x3 : Int32} {rs0 : Nat} {xs1 : Int32}  (e1 : ¬ ((x1 : Int32) = 47)) (kk : qE d 102 101 [some (.ref r0), some (.int x1), some (.int x2), some (.int x3)] [.int xs1, .ref rs0] h q): qE d 102 95 [some (.ref r0), some (.int x1), some (.int x2), some (.int x3)] [.int xs1, .ref rs0] h q := by
  refine qe_iload_n c102_95 rfl ?_
  refine qe_bipush (x := 47) c102_96 (by decide) ?_
  refine qe_icmp_eq_F (t := 107) c102_98 rfl e1 ?_
  exact kk
theorem b102_95T {d : Nat} {q : Option Value × qH} {h : qH} {r0 : Nat} {x1 : Int32} {x2 : Int32} {x3 : Int32} {rs0 : Nat} {xs1 : Int32}  (e1 : (x1 : Int32) = 47) (kk : qE d 102 107 [some (.ref r0), some (.int x1), some (.int x2), some (.int x3)] [.int xs1, .ref rs0] h q): qE d 102 95 [some (.ref r0), some (.int x1), some (.int x2), some (.int x3)] [.int xs1, .ref rs0] h q := by
  refine qe_iload_n c102_95 rfl ?_
  refine qe_bipush (x := 47) c102_96 (by decide) ?_
  refine qe_icmp_eq_T (t := 107) c102_98 rfl e1 ?_
  exact kk
theorem b102_101F {d : Nat} {q : Option Value × qH} {h : qH} {r0 : Nat} {x1 : Int32} {x2 : Int32} {x3 : Int32} {rs0 : Nat} {xs1 : Int32}  (e1 : (x1 : Int32) = 37) (kk : qE d 102 107 [some (.ref r0), some (.int x1), some (.int x2), some (.int x3)] [.int xs1, .ref rs0] h q): qE d 102 101 [some (.ref r0), some (.int x1), some (.int x2), some (.int x3)] [.int xs1, .ref rs0] h q := by
  refine qe_iload_n c102_101 rfl ?_
  refine qe_bipush (x := 37) c102_102 (by decide) ?_
  refine qe_icmp_ne_F (t := 122) c102_104 rfl e1 ?_
  exact kk
theorem b102_101T {d : Nat} {q : Option Value × qH} {h : qH} {r0 : Nat} {x1 : Int32} {x2 : Int32} {x3 : Int32} {rs0 : Nat} {xs1 : Int32}  (e1 : ¬ ((x1 : Int32) = 37)) (kk : qE d 102 122 [some (.ref r0), some (.int x1), some (.int x2), some (.int x3)] [.int xs1, .ref rs0] h q): qE d 102 101 [some (.ref r0), some (.int x1), some (.int x2), some (.int x3)] [.int xs1, .ref rs0] h q := by
  refine qe_iload_n c102_101 rfl ?_
  refine qe_bipush (x := 37) c102_102 (by decide) ?_
  refine qe_icmp_ne_T (t := 122) c102_104 rfl e1 ?_
  exact kk
theorem b102_107F {d : Nat} {q : Option Value × qH} {h : qH} {r0 : Nat} {x1 : Int32} {x2 : Int32} {x3 : Int32} {rs0 : Nat} {xs1 : Int32} {fs1 : List Value} {y3 : Nat} {n5 : Nat} {f6 : Nat → Int64}  (e2 : h.2.2 r0 = some (.inr (12, fs1))) (e4 : fs1[57]? = some (.ref y3)) (e7 : h.2.2 y3 = some (.inl (2, n5, .inr (.inl f6)))) (e8 : 0 ≤ (x3 : Int32).toInt ∧ (x3 : Int32).toInt < (n5 : Nat)) (e9 : ((lg_cmp ((f6 (x3 : Int32).toNatClampNeg)) 0) : Int32) = 0) (kk : qE d 102 118 [some (.ref r0), some (.int x1), some (.int x2), some (.int x3)] [.int xs1, .ref rs0] h q): qE d 102 107 [some (.ref r0), some (.int x1), some (.int x2), some (.int x3)] [.int xs1, .ref rs0] h q := by
  refine qe_aload_n c102_107 rfl ?_
  refine qe_getfield c102_108 qo102 qF12_119 e2 e4 ?_
  refine qe_iload_n c102_111 rfl ?_
  refine qe_laload c102_112 e7 e8 ?_
  refine qe_lconst (x := 0) c102_113 (by decide) ?_
  refine qe_lcmp c102_114 ?_
  refine qe_if_ne_F (t := 122) c102_115 rfl e9 ?_
  exact kk
theorem b102_107T {d : Nat} {q : Option Value × qH} {h : qH} {r0 : Nat} {x1 : Int32} {x2 : Int32} {x3 : Int32} {rs0 : Nat} {xs1 : Int32} {fs1 : List Value} {y3 : Nat} {n5 : Nat} {f6 : Nat → Int64}  (e2 : h.2.2 r0 = some (.inr (12, fs1))) (e4 : fs1[57]? = some (.ref y3)) (e7 : h.2.2 y3 = some (.inl (2, n5, .inr (.inl f6)))) (e8 : 0 ≤ (x3 : Int32).toInt ∧ (x3 : Int32).toInt < (n5 : Nat)) (e9 : ¬ (((lg_cmp ((f6 (x3 : Int32).toNatClampNeg)) 0) : Int32) = 0)) (kk : qE d 102 122 [some (.ref r0), some (.int x1), some (.int x2), some (.int x3)] [.int xs1, .ref rs0] h q): qE d 102 107 [some (.ref r0), some (.int x1), some (.int x2), some (.int x3)] [.int xs1, .ref rs0] h q := by
  refine qe_aload_n c102_107 rfl ?_
  refine qe_getfield c102_108 qo102 qF12_119 e2 e4 ?_
  refine qe_iload_n c102_111 rfl ?_
  refine qe_laload c102_112 e7 e8 ?_
  refine qe_lconst (x := 0) c102_113 (by decide) ?_
  refine qe_lcmp c102_114 ?_
  refine qe_if_ne_T (t := 122) c102_115 rfl e9 ?_
  exact kk
theorem b102_118 {d : Nat} {q : Option Value × qH} {h : qH} {r0 : Nat} {x1 : Int32} {x2 : Int32} {x3 : Int32} {rs0 : Nat} {xs1 : Int32}   (kk : qE d 102 123 [some (.ref r0), some (.int x1), some (.int x2), some (.int x3)] [.int 1, .int xs1, .ref rs0] h q): qE d 102 118 [some (.ref r0), some (.int x1), some (.int x2), some (.int x3)] [.int xs1, .ref rs0] h q := by
  refine qe_iconst (x := 1) c102_118 (by decide) ?_
  refine qe_goto (t := 123) c102_119 rfl ?_
  exact kk
theorem b102_122 {d : Nat} {q : Option Value × qH} {h : qH} {r0 : Nat} {x1 : Int32} {x2 : Int32} {x3 : Int32} {rs0 : Nat} {xs1 : Int32}   (kk : qE d 102 123 [some (.ref r0), some (.int x1), some (.int x2), some (.int x3)] [.int 0, .int xs1, .ref rs0] h q): qE d 102 122 [some (.ref r0), some (.int x1), some (.int x2), some (.int x3)] [.int xs1, .ref rs0] h q := by
  refine qe_iconst (x := 0) c102_122 (by decide) ?_
  exact kk
theorem b102_123 {d : Nat} {h : qH} {r0 : Nat} {x1 : Int32} {x2 : Int32} {x3 : Int32} {rs0 : Nat} {xs1 : Int32} {xs2 : Int32} {n1 : Nat} {f2 : Nat → Int32} {h1 : qH} {fs7 : List Value} {y9 : Nat} {n12 : Nat} {f13 : Nat → Int64} {h2 : qH} {z18 : Int64} {n20 : Nat} {f21 : Nat → Int64} {h3 : qH}  (e3 : h.2.2 rs0 = some (.inl (1, n1, .inl f2))) (e4 : 0 ≤ (xs1 : Int32).toInt ∧ (xs1 : Int32).toInt < (n1 : Nat)) (e5 : (xs2 : Int32) = 0 ∨ (xs2 : Int32) = 1) (e6 : qset h rs0 (.inl (1, n1, .inl (upd f2 ((xs1 : Int32).toNatClampNeg) xs2))) = h1) (e8 : h1.2.2 r0 = some (.inr (12, fs7))) (e10 : fs7[57]? = some (.ref y9)) (e14 : h1.2.2 y9 = some (.inl (2, n12, .inr (.inl f13)))) (e15 : 0 ≤ (x2 : Int32).toInt ∧ (x2 : Int32).toInt < (n12 : Nat)) (e17 : 0 ≤ (x3 : Int32).toInt ∧ (x3 : Int32).toInt < (n12 : Nat)) (e19 : qCall d 187 [.int x1, .long (f13 (x2 : Int32).toNatClampNeg), .long (f13 (x3 : Int32).toNatClampNeg)] h1 ((some (.long z18)), h2)) (e22 : h2.2.2 y9 = some (.inl (2, n20, .inr (.inl f21)))) (e23 : 0 ≤ (x2 : Int32).toInt ∧ (x2 : Int32).toInt < (n20 : Nat)) (e24 : qset h2 y9 (.inl (2, n20, .inr (.inl (vp_updL f21 ((x2 : Int32).toNatClampNeg) z18)))) = h3) : qE d 102 123 [some (.ref r0), some (.int x1), some (.int x2), some (.int x3)] [.int xs2, .int xs1, .ref rs0] h (none, h3) := by
  refine qe_zastore c102_123 e3 e4 e5 ?_
  rw [e6]
  refine qe_aload_n c102_124 rfl ?_
  refine qe_getfield c102_125 qo102 qF12_119 e8 e10 ?_
  refine qe_iload_n c102_128 rfl ?_
  refine qe_iload_n c102_129 rfl ?_
  refine qe_aload_n c102_130 rfl ?_
  refine qe_getfield c102_131 qo102 qF12_119 e8 e10 ?_
  refine qe_iload_n c102_134 rfl ?_
  refine qe_laload c102_135 e14 e15 ?_
  refine qe_aload_n c102_136 rfl ?_
  refine qe_getfield c102_137 qo102 qF12_119 e8 e10 ?_
  refine qe_iload_n c102_140 rfl ?_
  refine qe_laload c102_141 e14 e17 ?_
  refine qe_static (as := [.int x1, .long (f13 (x2 : Int32).toNatClampNeg), .long (f13 (x3 : Int32).toNatClampNeg)]) (r := [.int x2, .ref y9]) (v := (some (.long z18))) (h2 := h2) c102_142 qo102 (by decide) qK12_411 rfl rfl rfl (Nat.le_of_ble_eq_true rfl) e19 ?_
  refine qe_lastore c102_145 e22 e23 ?_
  rw [e24]
  exact qe_vret c102_146 qr102
theorem b103_0F {d : Nat} {q : Option Value × qH} {h : qH} {r0 : Nat} {x1 : Int32} {x2 : Int32} {fs1 : List Value} {h1 : qH} {z3 : Int32}  (e2 : h.2.2 r0 = some (.inr (12, fs1))) (e4 : qCall d 124 [.ref r0] h ((some (.int z3)), h1)) (e5 : (z3 : Int32) = 0) (kk : qE d 103 7 [some (.ref r0), some (.int x1), some (.int x2)] [] h1 q): qE d 103 0 [some (.ref r0), some (.int x1), some (.int x2)] [] h q := by
  refine qe_aload_n c103_0 rfl ?_
  refine qe_virtual (b := r0) (as := []) (r := []) (v := (some (.int z3))) (h2 := h1) c103_1 qo103 qK12_299 rfl rfl rfl (by rw [qo124]; exact e2) (Nat.le_of_ble_eq_true rfl) e4 ?_
  refine qe_if_ne_F (t := 8) c103_4 rfl e5 ?_
  exact kk
theorem b103_0T {d : Nat} {q : Option Value × qH} {h : qH} {r0 : Nat} {x1 : Int32} {x2 : Int32} {fs1 : List Value} {h1 : qH} {z3 : Int32}  (e2 : h.2.2 r0 = some (.inr (12, fs1))) (e4 : qCall d 124 [.ref r0] h ((some (.int z3)), h1)) (e5 : ¬ ((z3 : Int32) = 0)) (kk : qE d 103 8 [some (.ref r0), some (.int x1), some (.int x2)] [] h1 q): qE d 103 0 [some (.ref r0), some (.int x1), some (.int x2)] [] h q := by
  refine qe_aload_n c103_0 rfl ?_
  refine qe_virtual (b := r0) (as := []) (r := []) (v := (some (.int z3))) (h2 := h1) c103_1 qo103 qK12_299 rfl rfl rfl (by rw [qo124]; exact e2) (Nat.le_of_ble_eq_true rfl) e4 ?_
  refine qe_if_ne_T (t := 8) c103_4 rfl e5 ?_
  exact kk
theorem b103_7 {d : Nat} {h : qH} {r0 : Nat} {x1 : Int32} {x2 : Int32}   : qE d 103 7 [some (.ref r0), some (.int x1), some (.int x2)] [] h (none, h) := by
  exact qe_vret c103_7 qr103
theorem b103_8 {d : Nat} {h : qH} {r0 : Nat} {x1 : Int32} {x2 : Int32} {fs1 : List Value} {y3 : Nat} {y5 : Int32} {n7 : Nat} {f8 : Nat → Int32} {h1 : qH} {fs12 : List Value} {y14 : Nat} {y16 : Int32} {n18 : Nat} {f19 : Nat → Int32} {h2 : qH} {fs23 : List Value} {y25 : Int32} {h3 : qH}  (e2 : h.2.2 r0 = some (.inr (12, fs1))) (e4 : fs1[42]? = some (.ref y3)) (e6 : fs1[48]? = some (.int y5)) (e9 : h.2.2 y3 = some (.inl (0, n7, .inl f8))) (e10 : 0 ≤ (y5 : Int32).toInt ∧ (y5 : Int32).toInt < (n7 : Nat)) (e11 : qset h y3 (.inl (0, n7, .inl (upd f8 ((y5 : Int32).toNatClampNeg) x1))) = h1) (e13 : h1.2.2 r0 = some (.inr (12, fs12))) (e15 : fs12[43]? = some (.ref y14)) (e17 : fs12[48]? = some (.int y16)) (e20 : h1.2.2 y14 = some (.inl (0, n18, .inl f19))) (e21 : 0 ≤ (y16 : Int32).toInt ∧ (y16 : Int32).toInt < (n18 : Nat)) (e22 : qset h1 y14 (.inl (0, n18, .inl (upd f19 ((y16 : Int32).toNatClampNeg) x2))) = h2) (e24 : h2.2.2 r0 = some (.inr (12, fs23))) (e26 : fs23[48]? = some (.int y25)) (e27 : 48 < fs23.length) (e28 : qset h2 r0 (.inr (12, fs23.set 48 (.int (y25 + 1)))) = h3) : qE d 103 8 [some (.ref r0), some (.int x1), some (.int x2)] [] h (none, h3) := by
  refine qe_aload_n c103_8 rfl ?_
  refine qe_getfield c103_9 qo103 qF12_110 e2 e4 ?_
  refine qe_aload_n c103_12 rfl ?_
  refine qe_getfield c103_13 qo103 qF12_303 e2 e6 ?_
  refine qe_iload_n c103_16 rfl ?_
  refine qe_iastore c103_17 e9 e10 ?_
  rw [e11]
  refine qe_aload_n c103_18 rfl ?_
  refine qe_getfield c103_19 qo103 qF12_113 e13 e15 ?_
  refine qe_aload_n c103_22 rfl ?_
  refine qe_getfield c103_23 qo103 qF12_303 e13 e17 ?_
  refine qe_iload_n c103_26 rfl ?_
  refine qe_iastore c103_27 e20 e21 ?_
  rw [e22]
  refine qe_aload_n c103_28 rfl ?_
  refine qe_dup c103_29 rfl ?_
  refine qe_getfield c103_30 qo103 qF12_303 e24 e26 ?_
  refine qe_iconst (x := 1) c103_33 (by decide) ?_
  refine qe_iadd c103_34 ?_
  refine qe_putfield c103_35 qo103 qF12_303 qz12_48 e24 e27 (by rw [qy12_48]; rfl) ?_
  rw [e28]
  exact qe_vret c103_38 qr103
theorem b104_0F {d : Nat} {q : Option Value × qH} {h : qH} {r0 : Nat} {fs1 : List Value} {h1 : qH} {z3 : Int32}  (e2 : h.2.2 r0 = some (.inr (12, fs1))) (e4 : qCall d 179 [.ref r0] h ((some (.int z3)), h1)) (e5 : (z3 : Int32) = 33) (kk : qE d 104 9 [some (.ref r0)] [] h1 q): qE d 104 0 [some (.ref r0)] [] h q := by
  refine qe_aload_n c104_0 rfl ?_
  refine qe_virtual (b := r0) (as := []) (r := []) (v := (some (.int z3))) (h2 := h1) c104_1 qo104 qK12_332 rfl rfl rfl (by rw [qo179]; exact e2) (Nat.le_of_ble_eq_true rfl) e4 ?_
  refine qe_bipush (x := 33) c104_4 (by decide) ?_
  refine qe_icmp_ne_F (t := 38) c104_6 rfl e5 ?_
  exact kk
theorem b104_0T {d : Nat} {q : Option Value × qH} {h : qH} {r0 : Nat} {fs1 : List Value} {h1 : qH} {z3 : Int32}  (e2 : h.2.2 r0 = some (.inr (12, fs1))) (e4 : qCall d 179 [.ref r0] h ((some (.int z3)), h1)) (e5 : ¬ ((z3 : Int32) = 33)) (kk : qE d 104 38 [some (.ref r0)] [] h1 q): qE d 104 0 [some (.ref r0)] [] h q := by
  refine qe_aload_n c104_0 rfl ?_
  refine qe_virtual (b := r0) (as := []) (r := []) (v := (some (.int z3))) (h2 := h1) c104_1 qo104 qK12_332 rfl rfl rfl (by rw [qo179]; exact e2) (Nat.le_of_ble_eq_true rfl) e4 ?_
  refine qe_bipush (x := 33) c104_4 (by decide) ?_
  refine qe_icmp_ne_T (t := 38) c104_6 rfl e5 ?_
  exact kk
theorem b104_9 {d : Nat} {q : Option Value × qH} {h : qH} {r0 : Nat} {fs1 : List Value} {h1 : qH} {fs4 : List Value} {y6 : Int32} {h2 : qH} {fs10 : List Value} {y12 : Int32} {h3 : qH}  (e2 : h.2.2 r0 = some (.inr (12, fs1))) (e3 : qCall d 103 [.ref r0, .int 2, .int 0] h (none, h1)) (e5 : h1.2.2 r0 = some (.inr (12, fs4))) (e7 : fs4[50]? = some (.int y6)) (e8 : 50 < fs4.length) (e9 : qset h1 r0 (.inr (12, fs4.set 50 (.int (y6 - 1)))) = h2) (e11 : h2.2.2 r0 = some (.inr (12, fs10))) (e13 : fs10[49]? = some (.int y12)) (e14 : 49 < fs10.length) (e15 : qset h2 r0 (.inr (12, fs10.set 49 (.int (y12 - 1)))) = h3) (kk : qE d 104 0 [some (.ref r0)] [] h3 q): qE d 104 9 [some (.ref r0)] [] h q := by
  refine qe_aload_n c104_9 rfl ?_
  refine qe_iconst (x := 2) c104_10 (by decide) ?_
  refine qe_iconst (x := 0) c104_11 (by decide) ?_
  refine qe_virtual (b := r0) (as := [.int 2, .int 0]) (r := []) (v := none) (h2 := h1) c104_12 qo104 qK12_341 rfl rfl rfl (by rw [qo103]; exact e2) (Nat.le_of_ble_eq_true rfl) e3 ?_
  refine qe_aload_n c104_15 rfl ?_
  refine qe_dup c104_16 rfl ?_
  refine qe_getfield c104_17 qo104 qF12_306 e5 e7 ?_
  refine qe_iconst (x := 1) c104_20 (by decide) ?_
  refine qe_isub c104_21 ?_
  refine qe_putfield c104_22 qo104 qF12_306 qz12_50 e5 e8 (by rw [qy12_50]; rfl) ?_
  rw [e9]
  refine qe_aload_n c104_25 rfl ?_
  refine qe_dup c104_26 rfl ?_
  refine qe_getfield c104_27 qo104 qF12_309 e11 e13 ?_
  refine qe_iconst (x := 1) c104_30 (by decide) ?_
  refine qe_isub c104_31 ?_
  refine qe_putfield c104_32 qo104 qF12_309 qz12_49 e11 e14 (by rw [qy12_49]; rfl) ?_
  rw [e15]
  refine qe_goto (t := 0) c104_35 rfl ?_
  exact kk
theorem b104_38 {d : Nat} {h : qH} {r0 : Nat}   : qE d 104 38 [some (.ref r0)] [] h (none, h) := by
  exact qe_vret c104_38 qr104
theorem b105_0F {d : Nat} {q : Option Value × qH} {h : qH} {r0 : Nat} {x1 : Int32} {x2 : Int32} {fs1 : List Value} {y3 : Int32} {h1 : qH} {z5 : Int32}  (e2 : h.2.2 r0 = some (.inr (12, fs1))) (e4 : fs1[7]? = some (.int y3)) (e6 : qCall d 143 [.long (x1 : Int32).toInt64, .long 0, .long ((y3 - 1) : Int32).toInt64] h ((some (.int z5)), h1)) (e7 : (z5 : Int32) = 0) (kk : qE d 105 16 [some (.ref r0), some (.int x1), some (.int x2), none] [] h1 q): qE d 105 0 [some (.ref r0), some (.int x1), some (.int x2), none] [] h q := by
  refine qe_iload_n c105_0 rfl ?_
  refine qe_i2l c105_1 ?_
  refine qe_lconst (x := 0) c105_2 (by decide) ?_
  refine qe_aload_n c105_3 rfl ?_
  refine qe_getfield c105_4 qo105 qF12_461 e2 e4 ?_
  refine qe_iconst (x := 1) c105_7 (by decide) ?_
  refine qe_isub c105_8 ?_
  refine qe_i2l c105_9 ?_
  refine qe_static (as := [.long (x1 : Int32).toInt64, .long 0, .long ((y3 - 1) : Int32).toInt64]) (r := []) (v := (some (.int z5))) (h2 := h1) c105_10 qo105 (by decide) qK12_190 rfl rfl rfl (Nat.le_of_ble_eq_true rfl) e6 ?_
  refine qe_if_ne_F (t := 18) c105_13 rfl e7 ?_
  exact kk
theorem b105_0T {d : Nat} {q : Option Value × qH} {h : qH} {r0 : Nat} {x1 : Int32} {x2 : Int32} {fs1 : List Value} {y3 : Int32} {h1 : qH} {z5 : Int32}  (e2 : h.2.2 r0 = some (.inr (12, fs1))) (e4 : fs1[7]? = some (.int y3)) (e6 : qCall d 143 [.long (x1 : Int32).toInt64, .long 0, .long ((y3 - 1) : Int32).toInt64] h ((some (.int z5)), h1)) (e7 : ¬ ((z5 : Int32) = 0)) (kk : qE d 105 18 [some (.ref r0), some (.int x1), some (.int x2), none] [] h1 q): qE d 105 0 [some (.ref r0), some (.int x1), some (.int x2), none] [] h q := by
  refine qe_iload_n c105_0 rfl ?_
  refine qe_i2l c105_1 ?_
  refine qe_lconst (x := 0) c105_2 (by decide) ?_
  refine qe_aload_n c105_3 rfl ?_
  refine qe_getfield c105_4 qo105 qF12_461 e2 e4 ?_
  refine qe_iconst (x := 1) c105_7 (by decide) ?_
  refine qe_isub c105_8 ?_
  refine qe_i2l c105_9 ?_
  refine qe_static (as := [.long (x1 : Int32).toInt64, .long 0, .long ((y3 - 1) : Int32).toInt64]) (r := []) (v := (some (.int z5))) (h2 := h1) c105_10 qo105 (by decide) qK12_190 rfl rfl rfl (Nat.le_of_ble_eq_true rfl) e6 ?_
  refine qe_if_ne_T (t := 18) c105_13 rfl e7 ?_
  exact kk
theorem b105_16 {d : Nat} {h : qH} {r0 : Nat} {x1 : Int32} {x2 : Int32}   : qE d 105 16 [some (.ref r0), some (.int x1), some (.int x2), none] [] h (some (.int (-1)), h) := by
  refine qe_iconst (x := (-1)) c105_16 (by decide) ?_
  exact qe_iret c105_17 qr105
theorem b105_18F {d : Nat} {q : Option Value × qH} {h : qH} {r0 : Nat} {x1 : Int32} {x2 : Int32}  (e1 : (x2 : Int32) = 3) (kk : qE d 105 23 [some (.ref r0), some (.int x1), some (.int x2), none] [] h q): qE d 105 18 [some (.ref r0), some (.int x1), some (.int x2), none] [] h q := by
  refine qe_iload_n c105_18 rfl ?_
  refine qe_iconst (x := 3) c105_19 (by decide) ?_
  refine qe_icmp_ne_F (t := 49) c105_20 rfl e1 ?_
  exact kk
theorem b105_18T {d : Nat} {q : Option Value × qH} {h : qH} {r0 : Nat} {x1 : Int32} {x2 : Int32}  (e1 : ¬ ((x2 : Int32) = 3)) (kk : qE d 105 49 [some (.ref r0), some (.int x1), some (.int x2), none] [] h q): qE d 105 18 [some (.ref r0), some (.int x1), some (.int x2), none] [] h q := by
  refine qe_iload_n c105_18 rfl ?_
  refine qe_iconst (x := 3) c105_19 (by decide) ?_
  refine qe_icmp_ne_T (t := 49) c105_20 rfl e1 ?_
  exact kk
theorem b105_23 {d : Nat} {q : Option Value × qH} {h : qH} {r0 : Nat} {x1 : Int32} {x2 : Int32}   (kk : qE d 105 25 [some (.ref r0), some (.int x1), some (.int x2), some (.int 0)] [] h q): qE d 105 23 [some (.ref r0), some (.int x1), some (.int x2), none] [] h q := by
  refine qe_iconst (x := 0) c105_23 (by decide) ?_
  refine qe_istore_n (ls2 := [some (.ref r0), some (.int x1), some (.int x2), some (.int 0)]) c105_24 (Nat.le_of_ble_eq_true rfl) rfl ?_
  exact kk
theorem b105_25F {d : Nat} {q : Option Value × qH} {h : qH} {r0 : Nat} {x1 : Int32} {x2 : Int32} {x3 : Int32}  (e1 : ¬ ((x1 : Int32) ≤ x3)) (kk : qE d 105 30 [some (.ref r0), some (.int x1), some (.int x2), some (.int x3)] [] h q): qE d 105 25 [some (.ref r0), some (.int x1), some (.int x2), some (.int x3)] [] h q := by
  refine qe_iload_n c105_25 rfl ?_
  refine qe_iload_n c105_26 rfl ?_
  refine qe_icmp_ge_F (t := 47) c105_27 rfl e1 ?_
  exact kk
theorem b105_25T {d : Nat} {q : Option Value × qH} {h : qH} {r0 : Nat} {x1 : Int32} {x2 : Int32} {x3 : Int32}  (e1 : (x1 : Int32) ≤ x3) (kk : qE d 105 47 [some (.ref r0), some (.int x1), some (.int x2), some (.int x3)] [] h q): qE d 105 25 [some (.ref r0), some (.int x1), some (.int x2), some (.int x3)] [] h q := by
  refine qe_iload_n c105_25 rfl ?_
  refine qe_iload_n c105_26 rfl ?_
  refine qe_icmp_ge_T (t := 47) c105_27 rfl e1 ?_
  exact kk
theorem b105_30F {d : Nat} {q : Option Value × qH} {h : qH} {r0 : Nat} {x1 : Int32} {x2 : Int32} {x3 : Int32} {fs1 : List Value} {h1 : qH} {z3 : Int32}  (e2 : h.2.2 r0 = some (.inr (12, fs1))) (e4 : qCall d 142 [.ref r0, .int x3, .int x1] h ((some (.int z3)), h1)) (e5 : ¬ ((z3 : Int32) = 0)) (kk : qE d 105 39 [some (.ref r0), some (.int x1), some (.int x2), some (.int x3)] [] h1 q): qE d 105 30 [some (.ref r0), some (.int x1), some (.int x2), some (.int x3)] [] h q := by
  refine qe_aload_n c105_30 rfl ?_
  refine qe_iload_n c105_31 rfl ?_
  refine qe_iload_n c105_32 rfl ?_
  refine qe_virtual (b := r0) (as := [.int x3, .int x1]) (r := []) (v := (some (.int z3))) (h2 := h1) c105_33 qo105 qK12_474 rfl rfl rfl (by rw [qo142]; exact e2) (Nat.le_of_ble_eq_true rfl) e4 ?_
  refine qe_if_eq_F (t := 41) c105_36 rfl e5 ?_
  exact kk
theorem b105_30T {d : Nat} {q : Option Value × qH} {h : qH} {r0 : Nat} {x1 : Int32} {x2 : Int32} {x3 : Int32} {fs1 : List Value} {h1 : qH} {z3 : Int32}  (e2 : h.2.2 r0 = some (.inr (12, fs1))) (e4 : qCall d 142 [.ref r0, .int x3, .int x1] h ((some (.int z3)), h1)) (e5 : (z3 : Int32) = 0) (kk : qE d 105 41 [some (.ref r0), some (.int x1), some (.int x2), some (.int x3)] [] h1 q): qE d 105 30 [some (.ref r0), some (.int x1), some (.int x2), some (.int x3)] [] h q := by
  refine qe_aload_n c105_30 rfl ?_
  refine qe_iload_n c105_31 rfl ?_
  refine qe_iload_n c105_32 rfl ?_
  refine qe_virtual (b := r0) (as := [.int x3, .int x1]) (r := []) (v := (some (.int z3))) (h2 := h1) c105_33 qo105 qK12_474 rfl rfl rfl (by rw [qo142]; exact e2) (Nat.le_of_ble_eq_true rfl) e4 ?_
  refine qe_if_eq_T (t := 41) c105_36 rfl e5 ?_
  exact kk
theorem b105_39 {d : Nat} {h : qH} {r0 : Nat} {x1 : Int32} {x2 : Int32} {x3 : Int32}   : qE d 105 39 [some (.ref r0), some (.int x1), some (.int x2), some (.int x3)] [] h (some (.int x3), h) := by
  refine qe_iload_n c105_39 rfl ?_
  exact qe_iret c105_40 qr105
theorem b105_41 {d : Nat} {q : Option Value × qH} {h : qH} {r0 : Nat} {x1 : Int32} {x2 : Int32} {x3 : Int32}   (kk : qE d 105 25 [some (.ref r0), some (.int x1), some (.int x2), some (.int (x3 + 1))] [] h q): qE d 105 41 [some (.ref r0), some (.int x1), some (.int x2), some (.int x3)] [] h q := by
  refine qe_iinc (y := (x3 + 1)) (ls2 := [some (.ref r0), some (.int x1), some (.int x2), some (.int (x3 + 1))]) c105_41 rfl (Nat.le_of_ble_eq_true rfl) rfl rfl ?_
  refine qe_goto (t := 25) c105_44 rfl ?_
  exact kk
theorem b105_47 {d : Nat} {h : qH} {r0 : Nat} {x1 : Int32} {x2 : Int32} {x3 : Int32}   : qE d 105 47 [some (.ref r0), some (.int x1), some (.int x2), some (.int x3)] [] h (some (.int (-1)), h) := by
  refine qe_iconst (x := (-1)) c105_47 (by decide) ?_
  exact qe_iret c105_48 qr105
theorem b105_49F {d : Nat} {q : Option Value × qH} {h : qH} {r0 : Nat} {x1 : Int32} {x2 : Int32}  (e1 : (x2 : Int32) = 0) (kk : qE d 105 53 [some (.ref r0), some (.int x1), some (.int x2), none] [] h q): qE d 105 49 [some (.ref r0), some (.int x1), some (.int x2), none] [] h q := by
  refine qe_iload_n c105_49 rfl ?_
  refine qe_if_ne_F (t := 62) c105_50 rfl e1 ?_
  exact kk
theorem b105_49T {d : Nat} {q : Option Value × qH} {h : qH} {r0 : Nat} {x1 : Int32} {x2 : Int32}  (e1 : ¬ ((x2 : Int32) = 0)) (kk : qE d 105 62 [some (.ref r0), some (.int x1), some (.int x2), none] [] h q): qE d 105 49 [some (.ref r0), some (.int x1), some (.int x2), none] [] h q := by
  refine qe_iload_n c105_49 rfl ?_
  refine qe_if_ne_T (t := 62) c105_50 rfl e1 ?_
  exact kk
theorem b105_53 {d : Nat} {q : Option Value × qH} {h : qH} {r0 : Nat} {x1 : Int32} {x2 : Int32} {fs1 : List Value} {y3 : Nat} {n5 : Nat} {f6 : Nat → Int32}  (e2 : h.2.2 r0 = some (.inr (12, fs1))) (e4 : fs1[65]? = some (.ref y3)) (e7 : h.2.2 y3 = some (.inl (0, n5, .inl f6))) (e8 : 0 ≤ (x1 : Int32).toInt ∧ (x1 : Int32).toInt < (n5 : Nat)) (kk : qE d 105 91 [some (.ref r0), some (.int x1), some (.int x2), none] [.int (f6 (x1 : Int32).toNatClampNeg)] h q): qE d 105 53 [some (.ref r0), some (.int x1), some (.int x2), none] [] h q := by
  refine qe_aload_n c105_53 rfl ?_
  refine qe_getfield c105_54 qo105 qF12_140 e2 e4 ?_
  refine qe_iload_n c105_57 rfl ?_
  refine qe_iaload c105_58 e7 e8 ?_
  refine qe_goto (t := 91) c105_59 rfl ?_
  exact kk
theorem b105_62F {d : Nat} {q : Option Value × qH} {h : qH} {r0 : Nat} {x1 : Int32} {x2 : Int32}  (e1 : (x2 : Int32) = 1) (kk : qE d 105 67 [some (.ref r0), some (.int x1), some (.int x2), none] [] h q): qE d 105 62 [some (.ref r0), some (.int x1), some (.int x2), none] [] h q := by
  refine qe_iload_n c105_62 rfl ?_
  refine qe_iconst (x := 1) c105_63 (by decide) ?_
  refine qe_icmp_ne_F (t := 76) c105_64 rfl e1 ?_
  exact kk
theorem b105_62T {d : Nat} {q : Option Value × qH} {h : qH} {r0 : Nat} {x1 : Int32} {x2 : Int32}  (e1 : ¬ ((x2 : Int32) = 1)) (kk : qE d 105 76 [some (.ref r0), some (.int x1), some (.int x2), none] [] h q): qE d 105 62 [some (.ref r0), some (.int x1), some (.int x2), none] [] h q := by
  refine qe_iload_n c105_62 rfl ?_
  refine qe_iconst (x := 1) c105_63 (by decide) ?_
  refine qe_icmp_ne_T (t := 76) c105_64 rfl e1 ?_
  exact kk
theorem b105_67 {d : Nat} {q : Option Value × qH} {h : qH} {r0 : Nat} {x1 : Int32} {x2 : Int32} {fs1 : List Value} {y3 : Nat} {n5 : Nat} {f6 : Nat → Int32}  (e2 : h.2.2 r0 = some (.inr (12, fs1))) (e4 : fs1[66]? = some (.ref y3)) (e7 : h.2.2 y3 = some (.inl (0, n5, .inl f6))) (e8 : 0 ≤ (x1 : Int32).toInt ∧ (x1 : Int32).toInt < (n5 : Nat)) (kk : qE d 105 91 [some (.ref r0), some (.int x1), some (.int x2), none] [.int (f6 (x1 : Int32).toNatClampNeg)] h q): qE d 105 67 [some (.ref r0), some (.int x1), some (.int x2), none] [] h q := by
  refine qe_aload_n c105_67 rfl ?_
  refine qe_getfield c105_68 qo105 qF12_143 e2 e4 ?_
  refine qe_iload_n c105_71 rfl ?_
  refine qe_iaload c105_72 e7 e8 ?_
  refine qe_goto (t := 91) c105_73 rfl ?_
  exact kk
theorem b105_76F {d : Nat} {q : Option Value × qH} {h : qH} {r0 : Nat} {x1 : Int32} {x2 : Int32}  (e1 : (x2 : Int32) = 2) (kk : qE d 105 81 [some (.ref r0), some (.int x1), some (.int x2), none] [] h q): qE d 105 76 [some (.ref r0), some (.int x1), some (.int x2), none] [] h q := by
  refine qe_iload_n c105_76 rfl ?_
  refine qe_iconst (x := 2) c105_77 (by decide) ?_
  refine qe_icmp_ne_F (t := 90) c105_78 rfl e1 ?_
  exact kk
theorem b105_76T {d : Nat} {q : Option Value × qH} {h : qH} {r0 : Nat} {x1 : Int32} {x2 : Int32}  (e1 : ¬ ((x2 : Int32) = 2)) (kk : qE d 105 90 [some (.ref r0), some (.int x1), some (.int x2), none] [] h q): qE d 105 76 [some (.ref r0), some (.int x1), some (.int x2), none] [] h q := by
  refine qe_iload_n c105_76 rfl ?_
  refine qe_iconst (x := 2) c105_77 (by decide) ?_
  refine qe_icmp_ne_T (t := 90) c105_78 rfl e1 ?_
  exact kk
theorem b105_81 {d : Nat} {q : Option Value × qH} {h : qH} {r0 : Nat} {x1 : Int32} {x2 : Int32} {fs1 : List Value} {y3 : Nat} {n5 : Nat} {f6 : Nat → Int32}  (e2 : h.2.2 r0 = some (.inr (12, fs1))) (e4 : fs1[67]? = some (.ref y3)) (e7 : h.2.2 y3 = some (.inl (0, n5, .inl f6))) (e8 : 0 ≤ (x1 : Int32).toInt ∧ (x1 : Int32).toInt < (n5 : Nat)) (kk : qE d 105 91 [some (.ref r0), some (.int x1), some (.int x2), none] [.int (f6 (x1 : Int32).toNatClampNeg)] h q): qE d 105 81 [some (.ref r0), some (.int x1), some (.int x2), none] [] h q := by
  refine qe_aload_n c105_81 rfl ?_
  refine qe_getfield c105_82 qo105 qF12_146 e2 e4 ?_
  refine qe_iload_n c105_85 rfl ?_
  refine qe_iaload c105_86 e7 e8 ?_
  refine qe_goto (t := 91) c105_87 rfl ?_
  exact kk
theorem b105_90 {d : Nat} {q : Option Value × qH} {h : qH} {r0 : Nat} {x1 : Int32} {x2 : Int32}   (kk : qE d 105 91 [some (.ref r0), some (.int x1), some (.int x2), none] [.int (-1)] h q): qE d 105 90 [some (.ref r0), some (.int x1), some (.int x2), none] [] h q := by
  refine qe_iconst (x := (-1)) c105_90 (by decide) ?_
  exact kk
theorem b105_91 {d : Nat} {h : qH} {r0 : Nat} {x1 : Int32} {x2 : Int32} {xs0 : Int32}   : qE d 105 91 [some (.ref r0), some (.int x1), some (.int x2), none] [.int xs0] h (some (.int xs0), h) := by
  exact qe_iret c105_91 qr105
theorem b106_0F {d : Nat} {q : Option Value × qH} {h : qH} {r0 : Nat} {fs1 : List Value} {h1 : qH} {z3 : Int32}  (e2 : h.2.2 r0 = some (.inr (12, fs1))) (e4 : qCall d 124 [.ref r0] h ((some (.int z3)), h1)) (e5 : ¬ ((z3 : Int32) = 0)) (kk : qE d 106 7 [some (.ref r0)] [] h1 q): qE d 106 0 [some (.ref r0)] [] h q := by
  refine qe_aload_n c106_0 rfl ?_
  refine qe_virtual (b := r0) (as := []) (r := []) (v := (some (.int z3))) (h2 := h1) c106_1 qo106 qK12_299 rfl rfl rfl (by rw [qo124]; exact e2) (Nat.le_of_ble_eq_true rfl) e4 ?_
  refine qe_if_eq_F (t := 23) c106_4 rfl e5 ?_
  exact kk
theorem b106_0T {d : Nat} {q : Option Value × qH} {h : qH} {r0 : Nat} {fs1 : List Value} {h1 : qH} {z3 : Int32}  (e2 : h.2.2 r0 = some (.inr (12, fs1))) (e4 : qCall d 124 [.ref r0] h ((some (.int z3)), h1)) (e5 : (z3 : Int32) = 0) (kk : qE d 106 23 [some (.ref r0)] [] h1 q): qE d 106 0 [some (.ref r0)] [] h q := by
  refine qe_aload_n c106_0 rfl ?_
  refine qe_virtual (b := r0) (as := []) (r := []) (v := (some (.int z3))) (h2 := h1) c106_1 qo106 qK12_299 rfl rfl rfl (by rw [qo124]; exact e2) (Nat.le_of_ble_eq_true rfl) e4 ?_
  refine qe_if_eq_T (t := 23) c106_4 rfl e5 ?_
  exact kk
theorem b106_7F {d : Nat} {q : Option Value × qH} {h : qH} {r0 : Nat} {fs1 : List Value} {h1 : qH} {z3 : Int32}  (e2 : h.2.2 r0 = some (.inr (12, fs1))) (e4 : qCall d 120 [.ref r0] h ((some (.int z3)), h1)) (e5 : (z3 : Int32) = 91) (kk : qE d 106 16 [some (.ref r0)] [] h1 q): qE d 106 7 [some (.ref r0)] [] h q := by
  refine qe_aload_n c106_7 rfl ?_
  refine qe_virtual (b := r0) (as := []) (r := []) (v := (some (.int z3))) (h2 := h1) c106_8 qo106 qK12_315 rfl rfl rfl (by rw [qo120]; exact e2) (Nat.le_of_ble_eq_true rfl) e4 ?_
  refine qe_bipush (x := 91) c106_11 (by decide) ?_
  refine qe_icmp_ne_F (t := 23) c106_13 rfl e5 ?_
  exact kk
theorem b106_7T {d : Nat} {q : Option Value × qH} {h : qH} {r0 : Nat} {fs1 : List Value} {h1 : qH} {z3 : Int32}  (e2 : h.2.2 r0 = some (.inr (12, fs1))) (e4 : qCall d 120 [.ref r0] h ((some (.int z3)), h1)) (e5 : ¬ ((z3 : Int32) = 91)) (kk : qE d 106 23 [some (.ref r0)] [] h1 q): qE d 106 7 [some (.ref r0)] [] h q := by
  refine qe_aload_n c106_7 rfl ?_
  refine qe_virtual (b := r0) (as := []) (r := []) (v := (some (.int z3))) (h2 := h1) c106_8 qo106 qK12_315 rfl rfl rfl (by rw [qo120]; exact e2) (Nat.le_of_ble_eq_true rfl) e4 ?_
  refine qe_bipush (x := 91) c106_11 (by decide) ?_
  refine qe_icmp_ne_T (t := 23) c106_13 rfl e5 ?_
  exact kk
theorem b106_16 {d : Nat} {q : Option Value × qH} {h : qH} {r0 : Nat} {fs1 : List Value} {h1 : qH}  (e2 : h.2.2 r0 = some (.inr (12, fs1))) (e3 : qCall d 150 [.ref r0] h (none, h1)) (kk : qE d 106 0 [some (.ref r0)] [] h1 q): qE d 106 16 [some (.ref r0)] [] h q := by
  refine qe_aload_n c106_16 rfl ?_
  refine qe_virtual (b := r0) (as := []) (r := []) (v := none) (h2 := h1) c106_17 qo106 qK12_344 rfl rfl rfl (by rw [qo150]; exact e2) (Nat.le_of_ble_eq_true rfl) e3 ?_
  refine qe_goto (t := 0) c106_20 rfl ?_
  exact kk
theorem b106_23F {d : Nat} {q : Option Value × qH} {h : qH} {r0 : Nat} {fs1 : List Value} {h1 : qH} {z3 : Int32}  (e2 : h.2.2 r0 = some (.inr (12, fs1))) (e4 : qCall d 124 [.ref r0] h ((some (.int z3)), h1)) (e5 : (z3 : Int32) = 0) (kk : qE d 106 30 [some (.ref r0)] [] h1 q): qE d 106 23 [some (.ref r0)] [] h q := by
  refine qe_aload_n c106_23 rfl ?_
  refine qe_virtual (b := r0) (as := []) (r := []) (v := (some (.int z3))) (h2 := h1) c106_24 qo106 qK12_299 rfl rfl rfl (by rw [qo124]; exact e2) (Nat.le_of_ble_eq_true rfl) e4 ?_
  refine qe_if_ne_F (t := 31) c106_27 rfl e5 ?_
  exact kk
theorem b106_23T {d : Nat} {q : Option Value × qH} {h : qH} {r0 : Nat} {fs1 : List Value} {h1 : qH} {z3 : Int32}  (e2 : h.2.2 r0 = some (.inr (12, fs1))) (e4 : qCall d 124 [.ref r0] h ((some (.int z3)), h1)) (e5 : ¬ ((z3 : Int32) = 0)) (kk : qE d 106 31 [some (.ref r0)] [] h1 q): qE d 106 23 [some (.ref r0)] [] h q := by
  refine qe_aload_n c106_23 rfl ?_
  refine qe_virtual (b := r0) (as := []) (r := []) (v := (some (.int z3))) (h2 := h1) c106_24 qo106 qK12_299 rfl rfl rfl (by rw [qo124]; exact e2) (Nat.le_of_ble_eq_true rfl) e4 ?_
  refine qe_if_ne_T (t := 31) c106_27 rfl e5 ?_
  exact kk
theorem b106_30 {d : Nat} {h : qH} {r0 : Nat}   : qE d 106 30 [some (.ref r0)] [] h (none, h) := by
  exact qe_vret c106_30 qr106
theorem b106_31F {d : Nat} {q : Option Value × qH} {h : qH} {r0 : Nat} {fs1 : List Value} {h1 : qH} {z3 : Int32}  (e2 : h.2.2 r0 = some (.inr (12, fs1))) (e4 : qCall d 160 [.ref r0] h ((some (.int z3)), h1)) (e5 : ¬ ((z3 : Int32) = 0)) (kk : qE d 106 38 [some (.ref r0)] [] h1 q): qE d 106 31 [some (.ref r0)] [] h q := by
  refine qe_aload_n c106_31 rfl ?_
  refine qe_virtual (b := r0) (as := []) (r := []) (v := (some (.int z3))) (h2 := h1) c106_32 qo106 qK12_326 rfl rfl rfl (by rw [qo160]; exact e2) (Nat.le_of_ble_eq_true rfl) e4 ?_
  refine qe_if_eq_F (t := 50) c106_35 rfl e5 ?_
  exact kk
theorem b106_31T {d : Nat} {q : Option Value × qH} {h : qH} {r0 : Nat} {fs1 : List Value} {h1 : qH} {z3 : Int32}  (e2 : h.2.2 r0 = some (.inr (12, fs1))) (e4 : qCall d 160 [.ref r0] h ((some (.int z3)), h1)) (e5 : (z3 : Int32) = 0) (kk : qE d 106 50 [some (.ref r0)] [] h1 q): qE d 106 31 [some (.ref r0)] [] h q := by
  refine qe_aload_n c106_31 rfl ?_
  refine qe_virtual (b := r0) (as := []) (r := []) (v := (some (.int z3))) (h2 := h1) c106_32 qo106 qK12_326 rfl rfl rfl (by rw [qo160]; exact e2) (Nat.le_of_ble_eq_true rfl) e4 ?_
  refine qe_if_eq_T (t := 50) c106_35 rfl e5 ?_
  exact kk
theorem b106_38 {d : Nat} {q : Option Value × qH} {h : qH} {r0 : Nat} {fs1 : List Value} {h1 : qH} {z3 : Int32} {fs5 : List Value} {h2 : qH}  (e2 : h.2.2 r0 = some (.inr (12, fs1))) (e4 : qCall d 156 [.ref r0] h ((some (.int z3)), h1)) (e6 : h1.2.2 r0 = some (.inr (12, fs5))) (e7 : qCall d 103 [.ref r0, .int 0, .int z3] h1 (none, h2)) (kk : qE d 106 92 [some (.ref r0)] [] h2 q): qE d 106 38 [some (.ref r0)] [] h q := by
  refine qe_aload_n c106_38 rfl ?_
  refine qe_iconst (x := 0) c106_39 (by decide) ?_
  refine qe_aload_n c106_40 rfl ?_
  refine qe_virtual (b := r0) (as := []) (r := [.int 0, .ref r0]) (v := (some (.int z3))) (h2 := h1) c106_41 qo106 qK12_347 rfl rfl rfl (by rw [qo156]; exact e2) (Nat.le_of_ble_eq_true rfl) e4 ?_
  refine qe_virtual (b := r0) (as := [.int 0, .int z3]) (r := []) (v := none) (h2 := h2) c106_44 qo106 qK12_341 rfl rfl rfl (by rw [qo103]; exact e6) (Nat.le_of_ble_eq_true rfl) e7 ?_
  refine qe_goto (t := 92) c106_47 rfl ?_
  exact kk
theorem b106_50F {d : Nat} {q : Option Value × qH} {h : qH} {r0 : Nat} {fs1 : List Value} {h1 : qH} {z3 : Int32} {fs5 : List Value} {h2 : qH} {z7 : Int32}  (e2 : h.2.2 r0 = some (.inr (12, fs1))) (e4 : qCall d 120 [.ref r0] h ((some (.int z3)), h1)) (e6 : h1.2.2 r0 = some (.inr (12, fs5))) (e8 : qCall d 135 [.ref r0, .int z3] h1 ((some (.int z7)), h2)) (e9 : ¬ ((z7 : Int32) = 0)) (kk : qE d 106 61 [some (.ref r0)] [] h2 q): qE d 106 50 [some (.ref r0)] [] h q := by
  refine qe_aload_n c106_50 rfl ?_
  refine qe_aload_n c106_51 rfl ?_
  refine qe_virtual (b := r0) (as := []) (r := [.ref r0]) (v := (some (.int z3))) (h2 := h1) c106_52 qo106 qK12_315 rfl rfl rfl (by rw [qo120]; exact e2) (Nat.le_of_ble_eq_true rfl) e4 ?_
  refine qe_virtual (b := r0) (as := [.int z3]) (r := []) (v := (some (.int z7))) (h2 := h2) c106_55 qo106 qK12_350 rfl rfl rfl (by rw [qo135]; exact e6) (Nat.le_of_ble_eq_true rfl) e8 ?_
  refine qe_if_eq_F (t := 83) c106_58 rfl e9 ?_
  exact kk
theorem b106_50T {d : Nat} {q : Option Value × qH} {h : qH} {r0 : Nat} {fs1 : List Value} {h1 : qH} {z3 : Int32} {fs5 : List Value} {h2 : qH} {z7 : Int32}  (e2 : h.2.2 r0 = some (.inr (12, fs1))) (e4 : qCall d 120 [.ref r0] h ((some (.int z3)), h1)) (e6 : h1.2.2 r0 = some (.inr (12, fs5))) (e8 : qCall d 135 [.ref r0, .int z3] h1 ((some (.int z7)), h2)) (e9 : (z7 : Int32) = 0) (kk : qE d 106 83 [some (.ref r0)] [] h2 q): qE d 106 50 [some (.ref r0)] [] h q := by
  refine qe_aload_n c106_50 rfl ?_
  refine qe_aload_n c106_51 rfl ?_
  refine qe_virtual (b := r0) (as := []) (r := [.ref r0]) (v := (some (.int z3))) (h2 := h1) c106_52 qo106 qK12_315 rfl rfl rfl (by rw [qo120]; exact e2) (Nat.le_of_ble_eq_true rfl) e4 ?_
  refine qe_virtual (b := r0) (as := [.int z3]) (r := []) (v := (some (.int z7))) (h2 := h2) c106_55 qo106 qK12_350 rfl rfl rfl (by rw [qo135]; exact e6) (Nat.le_of_ble_eq_true rfl) e8 ?_
  refine qe_if_eq_T (t := 83) c106_58 rfl e9 ?_
  exact kk
theorem b106_61 {d : Nat} {q : Option Value × qH} {h : qH} {r0 : Nat} {fs1 : List Value} {h1 : qH} {z3 : Int32} {fs5 : List Value} {h2 : qH} {fs8 : List Value} {y10 : Int32} {h3 : qH}  (e2 : h.2.2 r0 = some (.inr (12, fs1))) (e4 : qCall d 120 [.ref r0] h ((some (.int z3)), h1)) (e6 : h1.2.2 r0 = some (.inr (12, fs5))) (e7 : qCall d 103 [.ref r0, .int 1, .int z3] h1 (none, h2)) (e9 : h2.2.2 r0 = some (.inr (12, fs8))) (e11 : fs8[44]? = some (.int y10)) (e12 : 44 < fs8.length) (e13 : qset h2 r0 (.inr (12, fs8.set 44 (.int (y10 + 1)))) = h3) (kk : qE d 106 92 [some (.ref r0)] [] h3 q): qE d 106 61 [some (.ref r0)] [] h q := by
  refine qe_aload_n c106_61 rfl ?_
  refine qe_iconst (x := 1) c106_62 (by decide) ?_
  refine qe_aload_n c106_63 rfl ?_
  refine qe_virtual (b := r0) (as := []) (r := [.int 1, .ref r0]) (v := (some (.int z3))) (h2 := h1) c106_64 qo106 qK12_315 rfl rfl rfl (by rw [qo120]; exact e2) (Nat.le_of_ble_eq_true rfl) e4 ?_
  refine qe_virtual (b := r0) (as := [.int 1, .int z3]) (r := []) (v := none) (h2 := h2) c106_67 qo106 qK12_341 rfl rfl rfl (by rw [qo103]; exact e6) (Nat.le_of_ble_eq_true rfl) e7 ?_
  refine qe_aload_n c106_70 rfl ?_
  refine qe_dup c106_71 rfl ?_
  refine qe_getfield c106_72 qo106 qF12_290 e9 e11 ?_
  refine qe_iconst (x := 1) c106_75 (by decide) ?_
  refine qe_iadd c106_76 ?_
  refine qe_putfield c106_77 qo106 qF12_290 qz12_44 e9 e12 (by rw [qy12_44]; rfl) ?_
  rw [e13]
  refine qe_goto (t := 92) c106_80 rfl ?_
  exact kk
theorem b106_83 {d : Nat} {q : Option Value × qH} {h : qH} {r0 : Nat} {fs1 : List Value} {y3 : Int32} {h1 : qH}  (e2 : h.2.2 r0 = some (.inr (12, fs1))) (e4 : fs1[44]? = some (.int y3)) (e5 : qCall d 190 [.ref r0, .int 1, .int y3] h (none, h1)) (kk : qE d 106 92 [some (.ref r0)] [] h1 q): qE d 106 83 [some (.ref r0)] [] h q := by
  refine qe_aload_n c106_83 rfl ?_
  refine qe_iconst (x := 1) c106_84 (by decide) ?_
  refine qe_aload_n c106_85 rfl ?_
  refine qe_getfield c106_86 qo106 qF12_290 e2 e4 ?_
  refine qe_virtual (b := r0) (as := [.int 1, .int y3]) (r := []) (v := none) (h2 := h1) c106_89 qo106 qK12_312 rfl rfl rfl (by rw [qo190]; exact e2) (Nat.le_of_ble_eq_true rfl) e5 ?_
  exact kk
theorem b106_92 {d : Nat} {h : qH} {r0 : Nat}   : qE d 106 92 [some (.ref r0)] [] h (none, h) := by
  exact qe_vret c106_92 qr106
theorem b107_0F {d : Nat} {q : Option Value × qH} {h : qH} {r0 : Nat} {x1 : Int32} {x2 : Int32} {x3 : Int32} {x4 : Int32} {x5 : Int32} {fs1 : List Value} {y3 : Int32}  (e2 : h.2.2 r0 = some (.inr (12, fs1))) (e4 : fs1[1]? = some (.int y3)) (e5 : ¬ (((y3 + 20) : Int32) ≤ 200)) (kk : qE d 107 13 [some (.ref r0), some (.int x1), some (.int x2), some (.int x3), some (.int x4), some (.int x5)] [] h q): qE d 107 0 [some (.ref r0), some (.int x1), some (.int x2), some (.int x3), some (.int x4), some (.int x5)] [] h q := by
  refine qe_aload_n c107_0 rfl ?_
  refine qe_getfield c107_1 qo107 qF12_283 e2 e4 ?_
  refine qe_bipush (x := 20) c107_4 (by decide) ?_
  refine qe_iadd c107_6 ?_
  refine qe_sipush (x := 200) c107_7 (by decide) ?_
  refine qe_icmp_le_F (t := 15) c107_10 rfl e5 ?_
  exact kk
theorem b107_0T {d : Nat} {q : Option Value × qH} {h : qH} {r0 : Nat} {x1 : Int32} {x2 : Int32} {x3 : Int32} {x4 : Int32} {x5 : Int32} {fs1 : List Value} {y3 : Int32}  (e2 : h.2.2 r0 = some (.inr (12, fs1))) (e4 : fs1[1]? = some (.int y3)) (e5 : ((y3 + 20) : Int32) ≤ 200) (kk : qE d 107 15 [some (.ref r0), some (.int x1), some (.int x2), some (.int x3), some (.int x4), some (.int x5)] [] h q): qE d 107 0 [some (.ref r0), some (.int x1), some (.int x2), some (.int x3), some (.int x4), some (.int x5)] [] h q := by
  refine qe_aload_n c107_0 rfl ?_
  refine qe_getfield c107_1 qo107 qF12_283 e2 e4 ?_
  refine qe_bipush (x := 20) c107_4 (by decide) ?_
  refine qe_iadd c107_6 ?_
  refine qe_sipush (x := 200) c107_7 (by decide) ?_
  refine qe_icmp_le_T (t := 15) c107_10 rfl e5 ?_
  exact kk
theorem b107_13 {d : Nat} {h : qH} {r0 : Nat} {x1 : Int32} {x2 : Int32} {x3 : Int32} {x4 : Int32} {x5 : Int32}   : qE d 107 13 [some (.ref r0), some (.int x1), some (.int x2), some (.int x3), some (.int x4), some (.int x5)] [] h (some (.int (-1)), h) := by
  refine qe_iconst (x := (-1)) c107_13 (by decide) ?_
  exact qe_iret c107_14 qr107
theorem b107_15 {d : Nat} {h : qH} {r0 : Nat} {x1 : Int32} {x2 : Int32} {x3 : Int32} {x4 : Int32} {x5 : Int32} {fs1 : List Value} {h1 : qH} {fs4 : List Value} {h2 : qH} {fs7 : List Value} {h3 : qH} {fs10 : List Value} {h4 : qH} {fs13 : List Value} {h5 : qH} {fs16 : List Value} {y18 : Int32}  (e2 : h.2.2 r0 = some (.inr (12, fs1))) (e3 : qCall d 154 [.ref r0, .int x1] h (none, h1)) (e5 : h1.2.2 r0 = some (.inr (12, fs4))) (e6 : qCall d 154 [.ref r0, .int x2] h1 (none, h2)) (e8 : h2.2.2 r0 = some (.inr (12, fs7))) (e9 : qCall d 154 [.ref r0, .int x3] h2 (none, h3)) (e11 : h3.2.2 r0 = some (.inr (12, fs10))) (e12 : qCall d 154 [.ref r0, .int x4] h3 (none, h4)) (e14 : h4.2.2 r0 = some (.inr (12, fs13))) (e15 : qCall d 154 [.ref r0, .int x5] h4 (none, h5)) (e17 : h5.2.2 r0 = some (.inr (12, fs16))) (e19 : fs16[1]? = some (.int y18)) : qE d 107 15 [some (.ref r0), some (.int x1), some (.int x2), some (.int x3), some (.int x4), some (.int x5)] [] h (some (.int y18), h5) := by
  refine qe_aload_n c107_15 rfl ?_
  refine qe_iload_n c107_16 rfl ?_
  refine qe_virtual (b := r0) (as := [.int x1]) (r := []) (v := none) (h2 := h1) c107_17 qo107 qK12_286 rfl rfl rfl (by rw [qo154]; exact e2) (Nat.le_of_ble_eq_true rfl) e3 ?_
  refine qe_aload_n c107_20 rfl ?_
  refine qe_iload_n c107_21 rfl ?_
  refine qe_virtual (b := r0) (as := [.int x2]) (r := []) (v := none) (h2 := h2) c107_22 qo107 qK12_286 rfl rfl rfl (by rw [qo154]; exact e5) (Nat.le_of_ble_eq_true rfl) e6 ?_
  refine qe_aload_n c107_25 rfl ?_
  refine qe_iload_n c107_26 rfl ?_
  refine qe_virtual (b := r0) (as := [.int x3]) (r := []) (v := none) (h2 := h3) c107_27 qo107 qK12_286 rfl rfl rfl (by rw [qo154]; exact e8) (Nat.le_of_ble_eq_true rfl) e9 ?_
  refine qe_aload_n c107_30 rfl ?_
  refine qe_iload c107_31 rfl ?_
  refine qe_virtual (b := r0) (as := [.int x4]) (r := []) (v := none) (h2 := h4) c107_33 qo107 qK12_286 rfl rfl rfl (by rw [qo154]; exact e11) (Nat.le_of_ble_eq_true rfl) e12 ?_
  refine qe_aload_n c107_36 rfl ?_
  refine qe_iload c107_37 rfl ?_
  refine qe_virtual (b := r0) (as := [.int x5]) (r := []) (v := none) (h2 := h5) c107_39 qo107 qK12_286 rfl rfl rfl (by rw [qo154]; exact e14) (Nat.le_of_ble_eq_true rfl) e15 ?_
  refine qe_aload_n c107_42 rfl ?_
  refine qe_getfield c107_43 qo107 qF12_283 e17 e19 ?_
  exact qe_iret c107_46 qr107
theorem b108_0 {d : Nat} {q : Option Value × qH} {h : qH} {r0 : Nat}   (kk : qE d 108 2 [some (.ref r0), some (.int 0)] [] h q): qE d 108 0 [some (.ref r0), none] [] h q := by
  refine qe_iconst (x := 0) c108_0 (by decide) ?_
  refine qe_istore_n (ls2 := [some (.ref r0), some (.int 0)]) c108_1 (Nat.le_of_ble_eq_true rfl) rfl ?_
  exact kk
theorem b108_2F {d : Nat} {q : Option Value × qH} {h : qH} {r0 : Nat} {x1 : Int32} {fs1 : List Value} {y3 : Int32}  (e2 : h.2.2 r0 = some (.inr (12, fs1))) (e4 : fs1[2]? = some (.int y3)) (e5 : ¬ ((y3 : Int32) ≤ x1)) (kk : qE d 108 10 [some (.ref r0), some (.int x1)] [] h q): qE d 108 2 [some (.ref r0), some (.int x1)] [] h q := by
  refine qe_iload_n c108_2 rfl ?_
  refine qe_aload_n c108_3 rfl ?_
  refine qe_getfield c108_4 qo108 qF12_202 e2 e4 ?_
  refine qe_icmp_ge_F (t := 27) c108_7 rfl e5 ?_
  exact kk
theorem b108_2T {d : Nat} {q : Option Value × qH} {h : qH} {r0 : Nat} {x1 : Int32} {fs1 : List Value} {y3 : Int32}  (e2 : h.2.2 r0 = some (.inr (12, fs1))) (e4 : fs1[2]? = some (.int y3)) (e5 : (y3 : Int32) ≤ x1) (kk : qE d 108 27 [some (.ref r0), some (.int x1)] [] h q): qE d 108 2 [some (.ref r0), some (.int x1)] [] h q := by
  refine qe_iload_n c108_2 rfl ?_
  refine qe_aload_n c108_3 rfl ?_
  refine qe_getfield c108_4 qo108 qF12_202 e2 e4 ?_
  refine qe_icmp_ge_T (t := 27) c108_7 rfl e5 ?_
  exact kk
theorem b108_10F {d : Nat} {q : Option Value × qH} {h : qH} {r0 : Nat} {x1 : Int32} {fs1 : List Value} {y3 : Nat} {n5 : Nat} {f6 : Nat → Int32}  (e2 : h.2.2 r0 = some (.inr (12, fs1))) (e4 : fs1[62]? = some (.ref y3)) (e7 : h.2.2 y3 = some (.inl (0, n5, .inl f6))) (e8 : 0 ≤ (x1 : Int32).toInt ∧ (x1 : Int32).toInt < (n5 : Nat)) (e9 : ¬ (((f6 (x1 : Int32).toNatClampNeg) : Int32) = 0)) (kk : qE d 108 19 [some (.ref r0), some (.int x1)] [] h q): qE d 108 10 [some (.ref r0), some (.int x1)] [] h q := by
  refine qe_aload_n c108_10 rfl ?_
  refine qe_getfield c108_11 qo108 qF12_131 e2 e4 ?_
  refine qe_iload_n c108_14 rfl ?_
  refine qe_iaload c108_15 e7 e8 ?_
  refine qe_if_eq_F (t := 21) c108_16 rfl e9 ?_
  exact kk
theorem b108_10T {d : Nat} {q : Option Value × qH} {h : qH} {r0 : Nat} {x1 : Int32} {fs1 : List Value} {y3 : Nat} {n5 : Nat} {f6 : Nat → Int32}  (e2 : h.2.2 r0 = some (.inr (12, fs1))) (e4 : fs1[62]? = some (.ref y3)) (e7 : h.2.2 y3 = some (.inl (0, n5, .inl f6))) (e8 : 0 ≤ (x1 : Int32).toInt ∧ (x1 : Int32).toInt < (n5 : Nat)) (e9 : ((f6 (x1 : Int32).toNatClampNeg) : Int32) = 0) (kk : qE d 108 21 [some (.ref r0), some (.int x1)] [] h q): qE d 108 10 [some (.ref r0), some (.int x1)] [] h q := by
  refine qe_aload_n c108_10 rfl ?_
  refine qe_getfield c108_11 qo108 qF12_131 e2 e4 ?_
  refine qe_iload_n c108_14 rfl ?_
  refine qe_iaload c108_15 e7 e8 ?_
  refine qe_if_eq_T (t := 21) c108_16 rfl e9 ?_
  exact kk
theorem b108_19 {d : Nat} {h : qH} {r0 : Nat} {x1 : Int32}   : qE d 108 19 [some (.ref r0), some (.int x1)] [] h (some (.int x1), h) := by
  refine qe_iload_n c108_19 rfl ?_
  exact qe_iret c108_20 qr108
theorem b108_21 {d : Nat} {q : Option Value × qH} {h : qH} {r0 : Nat} {x1 : Int32}   (kk : qE d 108 2 [some (.ref r0), some (.int (x1 + 1))] [] h q): qE d 108 21 [some (.ref r0), some (.int x1)] [] h q := by
  refine qe_iinc (y := (x1 + 1)) (ls2 := [some (.ref r0), some (.int (x1 + 1))]) c108_21 rfl (Nat.le_of_ble_eq_true rfl) rfl rfl ?_
  refine qe_goto (t := 2) c108_24 rfl ?_
  exact kk
theorem b108_27 {d : Nat} {h : qH} {r0 : Nat} {x1 : Int32}   : qE d 108 27 [some (.ref r0), some (.int x1)] [] h (some (.int (-1)), h) := by
  refine qe_iconst (x := (-1)) c108_27 (by decide) ?_
  exact qe_iret c108_28 qr108
theorem b109_0 {d : Nat} {q : Option Value × qH} {h : qH} {r0 : Nat}   (kk : qE d 109 2 [some (.ref r0), some (.int 0), none, none] [] h q): qE d 109 0 [some (.ref r0), none, none, none] [] h q := by
  refine qe_iconst (x := 0) c109_0 (by decide) ?_
  refine qe_istore_n (ls2 := [some (.ref r0), some (.int 0), none, none]) c109_1 (Nat.le_of_ble_eq_true rfl) rfl ?_
  exact kk
theorem b109_2F {d : Nat} {q : Option Value × qH} {h : qH} {r0 : Nat} {x1 : Int32}  (e1 : ¬ ((25 : Int32) ≤ x1)) (kk : qE d 109 8 [some (.ref r0), some (.int x1), none, none] [] h q): qE d 109 2 [some (.ref r0), some (.int x1), none, none] [] h q := by
  refine qe_iload_n c109_2 rfl ?_
  refine qe_bipush (x := 25) c109_3 (by decide) ?_
  refine qe_icmp_ge_F (t := 34) c109_5 rfl e1 ?_
  exact kk
theorem b109_2T {d : Nat} {q : Option Value × qH} {h : qH} {r0 : Nat} {x1 : Int32}  (e1 : (25 : Int32) ≤ x1) (kk : qE d 109 34 [some (.ref r0), some (.int x1), none, none] [] h q): qE d 109 2 [some (.ref r0), some (.int x1), none, none] [] h q := by
  refine qe_iload_n c109_2 rfl ?_
  refine qe_bipush (x := 25) c109_3 (by decide) ?_
  refine qe_icmp_ge_T (t := 34) c109_5 rfl e1 ?_
  exact kk
theorem b109_8F {d : Nat} {q : Option Value × qH} {h : qH} {r0 : Nat} {x1 : Int32} {fs1 : List Value} {y3 : Nat}  (e2 : h.2.2 r0 = some (.inr (12, fs1))) (e4 : fs1[77]? = some (.ref y3)) (e5 : ¬ (6 : Int32) = 0) (e6 : ((x1 - x1 / 6 * 6) : Int32) = 0) (kk : qE d 109 20 [some (.ref r0), some (.int x1), none, none] [.int x1, .ref y3] h q): qE d 109 8 [some (.ref r0), some (.int x1), none, none] [] h q := by
  refine qe_aload_n c109_8 rfl ?_
  refine qe_getfield c109_9 qo109 qF12_176 e2 e4 ?_
  refine qe_iload_n c109_12 rfl ?_
  refine qe_iload_n c109_13 rfl ?_
  refine qe_bipush (x := 6) c109_14 (by decide) ?_
  refine qe_irem c109_16 e5 ?_
  refine qe_if_ne_F (t := 24) c109_17 rfl e6 ?_
  exact kk
theorem b109_8T {d : Nat} {q : Option Value × qH} {h : qH} {r0 : Nat} {x1 : Int32} {fs1 : List Value} {y3 : Nat}  (e2 : h.2.2 r0 = some (.inr (12, fs1))) (e4 : fs1[77]? = some (.ref y3)) (e5 : ¬ (6 : Int32) = 0) (e6 : ¬ (((x1 - x1 / 6 * 6) : Int32) = 0)) (kk : qE d 109 24 [some (.ref r0), some (.int x1), none, none] [.int x1, .ref y3] h q): qE d 109 8 [some (.ref r0), some (.int x1), none, none] [] h q := by
  refine qe_aload_n c109_8 rfl ?_
  refine qe_getfield c109_9 qo109 qF12_176 e2 e4 ?_
  refine qe_iload_n c109_12 rfl ?_
  refine qe_iload_n c109_13 rfl ?_
  refine qe_bipush (x := 6) c109_14 (by decide) ?_
  refine qe_irem c109_16 e5 ?_
  refine qe_if_ne_T (t := 24) c109_17 rfl e6 ?_
  exact kk
theorem b109_20 {d : Nat} {q : Option Value × qH} {h : qH} {r0 : Nat} {x1 : Int32} {rs0 : Nat} {xs1 : Int32}   (kk : qE d 109 27 [some (.ref r0), some (.int x1), none, none] [.int 0, .int xs1, .ref rs0] h q): qE d 109 20 [some (.ref r0), some (.int x1), none, none] [.int xs1, .ref rs0] h q := by
  refine qe_iconst (x := 0) c109_20 (by decide) ?_
  refine qe_goto (t := 27) c109_21 rfl ?_
  exact kk
theorem b109_24 {d : Nat} {q : Option Value × qH} {h : qH} {r0 : Nat} {x1 : Int32} {rs0 : Nat} {xs1 : Int32}   (kk : qE d 109 27 [some (.ref r0), some (.int x1), none, none] [.int 1000000, .int xs1, .ref rs0] h q): qE d 109 24 [some (.ref r0), some (.int x1), none, none] [.int xs1, .ref rs0] h q := by
  refine qe_ldc_w (x := 1000000) c109_24 qo109 qI12_516 ?_
  exact kk
theorem b109_27 {d : Nat} {q : Option Value × qH} {h : qH} {r0 : Nat} {x1 : Int32} {rs0 : Nat} {xs1 : Int32} {xs2 : Int32} {n1 : Nat} {f2 : Nat → Int32} {h1 : qH}  (e3 : h.2.2 rs0 = some (.inl (0, n1, .inl f2))) (e4 : 0 ≤ (xs1 : Int32).toInt ∧ (xs1 : Int32).toInt < (n1 : Nat)) (e5 : qset h rs0 (.inl (0, n1, .inl (upd f2 ((xs1 : Int32).toNatClampNeg) xs2))) = h1) (kk : qE d 109 2 [some (.ref r0), some (.int (x1 + 1)), none, none] [] h1 q): qE d 109 27 [some (.ref r0), some (.int x1), none, none] [.int xs2, .int xs1, .ref rs0] h q := by
  refine qe_iastore c109_27 e3 e4 ?_
  rw [e5]
  refine qe_iinc (y := (x1 + 1)) (ls2 := [some (.ref r0), some (.int (x1 + 1)), none, none]) c109_28 rfl (Nat.le_of_ble_eq_true rfl) rfl rfl ?_
  refine qe_goto (t := 2) c109_31 rfl ?_
  exact kk
theorem b109_34 {d : Nat} {q : Option Value × qH} {h : qH} {r0 : Nat} {x1 : Int32}   (kk : qE d 109 36 [some (.ref r0), some (.int 0), none, none] [] h q): qE d 109 34 [some (.ref r0), some (.int x1), none, none] [] h q := by
  refine qe_iconst (x := 0) c109_34 (by decide) ?_
  refine qe_istore_n (ls2 := [some (.ref r0), some (.int 0), none, none]) c109_35 (Nat.le_of_ble_eq_true rfl) rfl ?_
  exact kk
theorem b109_36F {d : Nat} {q : Option Value × qH} {h : qH} {r0 : Nat} {x1 : Int32}  (e1 : ¬ ((4 : Int32) ≤ x1)) (kk : qE d 109 41 [some (.ref r0), some (.int x1), none, none] [] h q): qE d 109 36 [some (.ref r0), some (.int x1), none, none] [] h q := by
  refine qe_iload_n c109_36 rfl ?_
  refine qe_iconst (x := 4) c109_37 (by decide) ?_
  refine qe_icmp_ge_F (t := 72) c109_38 rfl e1 ?_
  exact kk
theorem b109_36T {d : Nat} {q : Option Value × qH} {h : qH} {r0 : Nat} {x1 : Int32}  (e1 : (4 : Int32) ≤ x1) (kk : qE d 109 72 [some (.ref r0), some (.int x1), none, none] [] h q): qE d 109 36 [some (.ref r0), some (.int x1), none, none] [] h q := by
  refine qe_iload_n c109_36 rfl ?_
  refine qe_iconst (x := 4) c109_37 (by decide) ?_
  refine qe_icmp_ge_T (t := 72) c109_38 rfl e1 ?_
  exact kk
theorem b109_41 {d : Nat} {q : Option Value × qH} {h : qH} {r0 : Nat} {x1 : Int32} {fs1 : List Value} {y3 : Nat} {n5 : Nat} {f6 : Nat → Int32} {h1 : qH} {fs10 : List Value} {y12 : Nat} {n14 : Nat} {f15 : Nat → Int32} {h2 : qH}  (e2 : h.2.2 r0 = some (.inr (12, fs1))) (e4 : fs1[72]? = some (.ref y3)) (e7 : h.2.2 y3 = some (.inl (0, n5, .inl f6))) (e8 : 0 ≤ (x1 : Int32).toInt ∧ (x1 : Int32).toInt < (n5 : Nat)) (e9 : qCall d 87 [.ref r0, .int x1, .int 4, .int (f6 (x1 : Int32).toNatClampNeg)] h (none, h1)) (e11 : h1.2.2 r0 = some (.inr (12, fs10))) (e13 : fs10[71]? = some (.ref y12)) (e16 : h1.2.2 y12 = some (.inl (0, n14, .inl f15))) (e17 : 0 ≤ (x1 : Int32).toInt ∧ (x1 : Int32).toInt < (n14 : Nat)) (e18 : qCall d 87 [.ref r0, .int 4, .int x1, .int (-(f15 (x1 : Int32).toNatClampNeg))] h1 (none, h2)) (kk : qE d 109 36 [some (.ref r0), some (.int (x1 + 1)), none, none] [] h2 q): qE d 109 41 [some (.ref r0), some (.int x1), none, none] [] h q := by
  refine qe_aload_n c109_41 rfl ?_
  refine qe_iload_n c109_42 rfl ?_
  refine qe_iconst (x := 4) c109_43 (by decide) ?_
  refine qe_aload_n c109_44 rfl ?_
  refine qe_getfield c109_45 qo109 qF12_161 e2 e4 ?_
  refine qe_iload_n c109_48 rfl ?_
  refine qe_iaload c109_49 e7 e8 ?_
  refine qe_virtual (b := r0) (as := [.int x1, .int 4, .int (f6 (x1 : Int32).toNatClampNeg)]) (r := []) (v := none) (h2 := h1) c109_50 qo109 qK12_517 rfl rfl rfl (by rw [qo87]; exact e2) (Nat.le_of_ble_eq_true rfl) e9 ?_
  refine qe_aload_n c109_53 rfl ?_
  refine qe_iconst (x := 4) c109_54 (by decide) ?_
  refine qe_iload_n c109_55 rfl ?_
  refine qe_aload_n c109_56 rfl ?_
  refine qe_getfield c109_57 qo109 qF12_158 e11 e13 ?_
  refine qe_iload_n c109_60 rfl ?_
  refine qe_iaload c109_61 e16 e17 ?_
  refine qe_ineg c109_62 ?_
  refine qe_virtual (b := r0) (as := [.int 4, .int x1, .int (-(f15 (x1 : Int32).toNatClampNeg))]) (r := []) (v := none) (h2 := h2) c109_63 qo109 qK12_517 rfl rfl rfl (by rw [qo87]; exact e11) (Nat.le_of_ble_eq_true rfl) e18 ?_
  refine qe_iinc (y := (x1 + 1)) (ls2 := [some (.ref r0), some (.int (x1 + 1)), none, none]) c109_66 rfl (Nat.le_of_ble_eq_true rfl) rfl rfl ?_
  refine qe_goto (t := 36) c109_69 rfl ?_
  exact kk
theorem b109_72 {d : Nat} {q : Option Value × qH} {h : qH} {r0 : Nat} {x1 : Int32}   (kk : qE d 109 74 [some (.ref r0), some (.int 0), none, none] [] h q): qE d 109 72 [some (.ref r0), some (.int x1), none, none] [] h q := by
  refine qe_iconst (x := 0) c109_72 (by decide) ?_
  refine qe_istore_n (ls2 := [some (.ref r0), some (.int 0), none, none]) c109_73 (Nat.le_of_ble_eq_true rfl) rfl ?_
  exact kk
theorem b109_74F {d : Nat} {q : Option Value × qH} {h : qH} {r0 : Nat} {x1 : Int32} {fs1 : List Value} {y3 : Int32}  (e2 : h.2.2 r0 = some (.inr (12, fs1))) (e4 : fs1[9]? = some (.int y3)) (e5 : ¬ ((y3 : Int32) ≤ x1)) (kk : qE d 109 82 [some (.ref r0), some (.int x1), none, none] [] h q): qE d 109 74 [some (.ref r0), some (.int x1), none, none] [] h q := by
  refine qe_iload_n c109_74 rfl ?_
  refine qe_aload_n c109_75 rfl ?_
  refine qe_getfield c109_76 qo109 qF12_510 e2 e4 ?_
  refine qe_icmp_ge_F (t := 137) c109_79 rfl e5 ?_
  exact kk
theorem b109_74T {d : Nat} {q : Option Value × qH} {h : qH} {r0 : Nat} {x1 : Int32} {fs1 : List Value} {y3 : Int32}  (e2 : h.2.2 r0 = some (.inr (12, fs1))) (e4 : fs1[9]? = some (.int y3)) (e5 : (y3 : Int32) ≤ x1) (kk : qE d 109 137 [some (.ref r0), some (.int x1), none, none] [] h q): qE d 109 74 [some (.ref r0), some (.int x1), none, none] [] h q := by
  refine qe_iload_n c109_74 rfl ?_
  refine qe_aload_n c109_75 rfl ?_
  refine qe_getfield c109_76 qo109 qF12_510 e2 e4 ?_
  refine qe_icmp_ge_T (t := 137) c109_79 rfl e5 ?_
  exact kk
theorem b109_82 {d : Nat} {q : Option Value × qH} {h : qH} {r0 : Nat} {x1 : Int32} {fs1 : List Value} {y3 : Nat} {y5 : Nat} {n7 : Nat} {f8 : Nat → Int32} {n11 : Nat} {f12 : Nat → Int32} {y16 : Nat} {n18 : Nat} {f19 : Nat → Int32} {y23 : Nat} {n27 : Nat} {f28 : Nat → Int32} {h1 : qH}  (e2 : h.2.2 r0 = some (.inr (12, fs1))) (e4 : fs1[73]? = some (.ref y3)) (e6 : fs1[76]? = some (.ref y5)) (e9 : h.2.2 y5 = some (.inl (0, n7, .inl f8))) (e10 : 0 ≤ (x1 : Int32).toInt ∧ (x1 : Int32).toInt < (n7 : Nat)) (e13 : h.2.2 y3 = some (.inl (0, n11, .inl f12))) (e14 : 0 ≤ ((f8 (x1 : Int32).toNatClampNeg) : Int32).toInt ∧ ((f8 (x1 : Int32).toNatClampNeg) : Int32).toInt < (n11 : Nat)) (e17 : fs1[75]? = some (.ref y16)) (e20 : h.2.2 y16 = some (.inl (0, n18, .inl f19))) (e21 : 0 ≤ (x1 : Int32).toInt ∧ (x1 : Int32).toInt < (n18 : Nat)) (e22 : 0 ≤ ((f19 (x1 : Int32).toNatClampNeg) : Int32).toInt ∧ ((f19 (x1 : Int32).toNatClampNeg) : Int32).toInt < (n11 : Nat)) (e24 : fs1[74]? = some (.ref y23)) (e26 : 0 ≤ (x1 : Int32).toInt ∧ (x1 : Int32).toInt < (n7 : Nat)) (e29 : h.2.2 y23 = some (.inl (0, n27, .inl f28))) (e30 : 0 ≤ ((f8 (x1 : Int32).toNatClampNeg) : Int32).toInt ∧ ((f8 (x1 : Int32).toNatClampNeg) : Int32).toInt < (n27 : Nat)) (e33 : 0 ≤ (x1 : Int32).toInt ∧ (x1 : Int32).toInt < (n18 : Nat)) (e34 : 0 ≤ ((f19 (x1 : Int32).toNatClampNeg) : Int32).toInt ∧ ((f19 (x1 : Int32).toNatClampNeg) : Int32).toInt < (n27 : Nat)) (e35 : qCall d 87 [.ref r0, .int (f12 ((f8 (x1 : Int32).toNatClampNeg) : Int32).toNatClampNeg), .int (f12 ((f19 (x1 : Int32).toNatClampNeg) : Int32).toNatClampNeg), .int ((f28 ((f8 (x1 : Int32).toNatClampNeg) : Int32).toNatClampNeg) - (f28 ((f19 (x1 : Int32).toNatClampNeg) : Int32).toNatClampNeg))] h (none, h1)) (kk : qE d 109 74 [some (.ref r0), some (.int (x1 + 1)), none, none] [] h1 q): qE d 109 82 [some (.ref r0), some (.int x1), none, none] [] h q := by
  refine qe_aload_n c109_82 rfl ?_
  refine qe_aload_n c109_83 rfl ?_
  refine qe_getfield c109_84 qo109 qF12_164 e2 e4 ?_
  refine qe_aload_n c109_87 rfl ?_
  refine qe_getfield c109_88 qo109 qF12_173 e2 e6 ?_
  refine qe_iload_n c109_91 rfl ?_
  refine qe_iaload c109_92 e9 e10 ?_
  refine qe_iaload c109_93 e13 e14 ?_
  refine qe_aload_n c109_94 rfl ?_
  refine qe_getfield c109_95 qo109 qF12_164 e2 e4 ?_
  refine qe_aload_n c109_98 rfl ?_
  refine qe_getfield c109_99 qo109 qF12_170 e2 e17 ?_
  refine qe_iload_n c109_102 rfl ?_
  refine qe_iaload c109_103 e20 e21 ?_
  refine qe_iaload c109_104 e13 e22 ?_
  refine qe_aload_n c109_105 rfl ?_
  refine qe_getfield c109_106 qo109 qF12_167 e2 e24 ?_
  refine qe_aload_n c109_109 rfl ?_
  refine qe_getfield c109_110 qo109 qF12_173 e2 e6 ?_
  refine qe_iload_n c109_113 rfl ?_
  refine qe_iaload c109_114 e9 e26 ?_
  refine qe_iaload c109_115 e29 e30 ?_
  refine qe_aload_n c109_116 rfl ?_
  refine qe_getfield c109_117 qo109 qF12_167 e2 e24 ?_
  refine qe_aload_n c109_120 rfl ?_
  refine qe_getfield c109_121 qo109 qF12_170 e2 e17 ?_
  refine qe_iload_n c109_124 rfl ?_
  refine qe_iaload c109_125 e20 e33 ?_
  refine qe_iaload c109_126 e29 e34 ?_
  refine qe_isub c109_127 ?_
  refine qe_virtual (b := r0) (as := [.int (f12 ((f8 (x1 : Int32).toNatClampNeg) : Int32).toNatClampNeg), .int (f12 ((f19 (x1 : Int32).toNatClampNeg) : Int32).toNatClampNeg), .int ((f28 ((f8 (x1 : Int32).toNatClampNeg) : Int32).toNatClampNeg) - (f28 ((f19 (x1 : Int32).toNatClampNeg) : Int32).toNatClampNeg))]) (r := []) (v := none) (h2 := h1) c109_128 qo109 qK12_517 rfl rfl rfl (by rw [qo87]; exact e2) (Nat.le_of_ble_eq_true rfl) e35 ?_
  refine qe_iinc (y := (x1 + 1)) (ls2 := [some (.ref r0), some (.int (x1 + 1)), none, none]) c109_131 rfl (Nat.le_of_ble_eq_true rfl) rfl rfl ?_
  refine qe_goto (t := 74) c109_134 rfl ?_
  exact kk
theorem b109_137 {d : Nat} {q : Option Value × qH} {h : qH} {r0 : Nat} {x1 : Int32}   (kk : qE d 109 139 [some (.ref r0), some (.int 0), none, none] [] h q): qE d 109 137 [some (.ref r0), some (.int x1), none, none] [] h q := by
  refine qe_iconst (x := 0) c109_137 (by decide) ?_
  refine qe_istore_n (ls2 := [some (.ref r0), some (.int 0), none, none]) c109_138 (Nat.le_of_ble_eq_true rfl) rfl ?_
  exact kk
theorem b109_139F {d : Nat} {q : Option Value × qH} {h : qH} {r0 : Nat} {x1 : Int32} {o2 : Option Value} {o3 : Option Value}  (e1 : ¬ ((5 : Int32) ≤ x1)) (kk : qE d 109 144 [some (.ref r0), some (.int x1), o2, o3] [] h q): qE d 109 139 [some (.ref r0), some (.int x1), o2, o3] [] h q := by
  refine qe_iload_n c109_139 rfl ?_
  refine qe_iconst (x := 5) c109_140 (by decide) ?_
  refine qe_icmp_ge_F (t := 203) c109_141 rfl e1 ?_
  exact kk
theorem b109_139T {d : Nat} {q : Option Value × qH} {h : qH} {r0 : Nat} {x1 : Int32} {o2 : Option Value} {o3 : Option Value}  (e1 : (5 : Int32) ≤ x1) (kk : qE d 109 203 [some (.ref r0), some (.int x1), o2, o3] [] h q): qE d 109 139 [some (.ref r0), some (.int x1), o2, o3] [] h q := by
  refine qe_iload_n c109_139 rfl ?_
  refine qe_iconst (x := 5) c109_140 (by decide) ?_
  refine qe_icmp_ge_T (t := 203) c109_141 rfl e1 ?_
  exact kk
theorem b109_144 {d : Nat} {q : Option Value × qH} {h : qH} {r0 : Nat} {x1 : Int32} {o2 : Option Value} {o3 : Option Value}   (kk : qE d 109 146 [some (.ref r0), some (.int x1), some (.int 0), o3] [] h q): qE d 109 144 [some (.ref r0), some (.int x1), o2, o3] [] h q := by
  refine qe_iconst (x := 0) c109_144 (by decide) ?_
  refine qe_istore_n (ls2 := [some (.ref r0), some (.int x1), some (.int 0), o3]) c109_145 (Nat.le_of_ble_eq_true rfl) rfl ?_
  exact kk
theorem b109_146F {d : Nat} {q : Option Value × qH} {h : qH} {r0 : Nat} {x1 : Int32} {x2 : Int32} {o3 : Option Value}  (e1 : ¬ ((5 : Int32) ≤ x2)) (kk : qE d 109 151 [some (.ref r0), some (.int x1), some (.int x2), o3] [] h q): qE d 109 146 [some (.ref r0), some (.int x1), some (.int x2), o3] [] h q := by
  refine qe_iload_n c109_146 rfl ?_
  refine qe_iconst (x := 5) c109_147 (by decide) ?_
  refine qe_icmp_ge_F (t := 197) c109_148 rfl e1 ?_
  exact kk
theorem b109_146T {d : Nat} {q : Option Value × qH} {h : qH} {r0 : Nat} {x1 : Int32} {x2 : Int32} {o3 : Option Value}  (e1 : (5 : Int32) ≤ x2) (kk : qE d 109 197 [some (.ref r0), some (.int x1), some (.int x2), o3] [] h q): qE d 109 146 [some (.ref r0), some (.int x1), some (.int x2), o3] [] h q := by
  refine qe_iload_n c109_146 rfl ?_
  refine qe_iconst (x := 5) c109_147 (by decide) ?_
  refine qe_icmp_ge_T (t := 197) c109_148 rfl e1 ?_
  exact kk
theorem b109_151 {d : Nat} {q : Option Value × qH} {h : qH} {r0 : Nat} {x1 : Int32} {x2 : Int32} {o3 : Option Value}   (kk : qE d 109 153 [some (.ref r0), some (.int x1), some (.int x2), some (.int 0)] [] h q): qE d 109 151 [some (.ref r0), some (.int x1), some (.int x2), o3] [] h q := by
  refine qe_iconst (x := 0) c109_151 (by decide) ?_
  refine qe_istore_n (ls2 := [some (.ref r0), some (.int x1), some (.int x2), some (.int 0)]) c109_152 (Nat.le_of_ble_eq_true rfl) rfl ?_
  exact kk
theorem b109_153F {d : Nat} {q : Option Value × qH} {h : qH} {r0 : Nat} {x1 : Int32} {x2 : Int32} {x3 : Int32}  (e1 : ¬ ((5 : Int32) ≤ x3)) (kk : qE d 109 158 [some (.ref r0), some (.int x1), some (.int x2), some (.int x3)] [] h q): qE d 109 153 [some (.ref r0), some (.int x1), some (.int x2), some (.int x3)] [] h q := by
  refine qe_iload_n c109_153 rfl ?_
  refine qe_iconst (x := 5) c109_154 (by decide) ?_
  refine qe_icmp_ge_F (t := 191) c109_155 rfl e1 ?_
  exact kk
theorem b109_153T {d : Nat} {q : Option Value × qH} {h : qH} {r0 : Nat} {x1 : Int32} {x2 : Int32} {x3 : Int32}  (e1 : (5 : Int32) ≤ x3) (kk : qE d 109 191 [some (.ref r0), some (.int x1), some (.int x2), some (.int x3)] [] h q): qE d 109 153 [some (.ref r0), some (.int x1), some (.int x2), some (.int x3)] [] h q := by
  refine qe_iload_n c109_153 rfl ?_
  refine qe_iconst (x := 5) c109_154 (by decide) ?_
  refine qe_icmp_ge_T (t := 191) c109_155 rfl e1 ?_
  exact kk
theorem b109_158 {d : Nat} {q : Option Value × qH} {h : qH} {r0 : Nat} {x1 : Int32} {x2 : Int32} {x3 : Int32} {fs1 : List Value} {y3 : Nat} {n5 : Nat} {f6 : Nat → Int32} {h1 : qH}  (e2 : h.2.2 r0 = some (.inr (12, fs1))) (e4 : fs1[77]? = some (.ref y3)) (e7 : h.2.2 y3 = some (.inl (0, n5, .inl f6))) (e8 : 0 ≤ (((5 * x2) + x1) : Int32).toInt ∧ (((5 * x2) + x1) : Int32).toInt < (n5 : Nat)) (e10 : 0 ≤ (((5 * x1) + x3) : Int32).toInt ∧ (((5 * x1) + x3) : Int32).toInt < (n5 : Nat)) (e11 : qCall d 87 [.ref r0, .int x2, .int x3, .int ((f6 (((5 * x2) + x1) : Int32).toNatClampNeg) + (f6 (((5 * x1) + x3) : Int32).toNatClampNeg))] h (none, h1)) (kk : qE d 109 153 [some (.ref r0), some (.int x1), some (.int x2), some (.int (x3 + 1))] [] h1 q): qE d 109 158 [some (.ref r0), some (.int x1), some (.int x2), some (.int x3)] [] h q := by
  refine qe_aload_n c109_158 rfl ?_
  refine qe_iload_n c109_159 rfl ?_
  refine qe_iload_n c109_160 rfl ?_
  refine qe_aload_n c109_161 rfl ?_
  refine qe_getfield c109_162 qo109 qF12_176 e2 e4 ?_
  refine qe_iconst (x := 5) c109_165 (by decide) ?_
  refine qe_iload_n c109_166 rfl ?_
  refine qe_imul c109_167 ?_
  refine qe_iload_n c109_168 rfl ?_
  refine qe_iadd c109_169 ?_
  refine qe_iaload c109_170 e7 e8 ?_
  refine qe_aload_n c109_171 rfl ?_
  refine qe_getfield c109_172 qo109 qF12_176 e2 e4 ?_
  refine qe_iconst (x := 5) c109_175 (by decide) ?_
  refine qe_iload_n c109_176 rfl ?_
  refine qe_imul c109_177 ?_
  refine qe_iload_n c109_178 rfl ?_
  refine qe_iadd c109_179 ?_
  refine qe_iaload c109_180 e7 e10 ?_
  refine qe_iadd c109_181 ?_
  refine qe_virtual (b := r0) (as := [.int x2, .int x3, .int ((f6 (((5 * x2) + x1) : Int32).toNatClampNeg) + (f6 (((5 * x1) + x3) : Int32).toNatClampNeg))]) (r := []) (v := none) (h2 := h1) c109_182 qo109 qK12_517 rfl rfl rfl (by rw [qo87]; exact e2) (Nat.le_of_ble_eq_true rfl) e11 ?_
  refine qe_iinc (y := (x3 + 1)) (ls2 := [some (.ref r0), some (.int x1), some (.int x2), some (.int (x3 + 1))]) c109_185 rfl (Nat.le_of_ble_eq_true rfl) rfl rfl ?_
  refine qe_goto (t := 153) c109_188 rfl ?_
  exact kk
theorem b109_191 {d : Nat} {q : Option Value × qH} {h : qH} {r0 : Nat} {x1 : Int32} {x2 : Int32} {x3 : Int32}   (kk : qE d 109 146 [some (.ref r0), some (.int x1), some (.int (x2 + 1)), some (.int x3)] [] h q): qE d 109 191 [some (.ref r0), some (.int x1), some (.int x2), some (.int x3)] [] h q := by
  refine qe_iinc (y := (x2 + 1)) (ls2 := [some (.ref r0), some (.int x1), some (.int (x2 + 1)), some (.int x3)]) c109_191 rfl (Nat.le_of_ble_eq_true rfl) rfl rfl ?_
  refine qe_goto (t := 146) c109_194 rfl ?_
  exact kk
theorem b109_197 {d : Nat} {q : Option Value × qH} {h : qH} {r0 : Nat} {x1 : Int32} {x2 : Int32} {o3 : Option Value}   (kk : qE d 109 139 [some (.ref r0), some (.int (x1 + 1)), some (.int x2), o3] [] h q): qE d 109 197 [some (.ref r0), some (.int x1), some (.int x2), o3] [] h q := by
  refine qe_iinc (y := (x1 + 1)) (ls2 := [some (.ref r0), some (.int (x1 + 1)), some (.int x2), o3]) c109_197 rfl (Nat.le_of_ble_eq_true rfl) rfl rfl ?_
  refine qe_goto (t := 139) c109_200 rfl ?_
  exact kk
theorem b109_203 {d : Nat} {q : Option Value × qH} {h : qH} {r0 : Nat} {x1 : Int32} {o2 : Option Value} {o3 : Option Value}   (kk : qE d 109 205 [some (.ref r0), some (.int 0), o2, o3] [] h q): qE d 109 203 [some (.ref r0), some (.int x1), o2, o3] [] h q := by
  refine qe_iconst (x := 0) c109_203 (by decide) ?_
  refine qe_istore_n (ls2 := [some (.ref r0), some (.int 0), o2, o3]) c109_204 (Nat.le_of_ble_eq_true rfl) rfl ?_
  exact kk
theorem b109_205F {d : Nat} {q : Option Value × qH} {h : qH} {r0 : Nat} {x1 : Int32} {o2 : Option Value} {o3 : Option Value}  (e1 : ¬ ((5 : Int32) ≤ x1)) (kk : qE d 109 210 [some (.ref r0), some (.int x1), o2, o3] [] h q): qE d 109 205 [some (.ref r0), some (.int x1), o2, o3] [] h q := by
  refine qe_iload_n c109_205 rfl ?_
  refine qe_iconst (x := 5) c109_206 (by decide) ?_
  refine qe_icmp_ge_F (t := 230) c109_207 rfl e1 ?_
  exact kk
theorem b109_205T {d : Nat} {q : Option Value × qH} {h : qH} {r0 : Nat} {x1 : Int32} {o2 : Option Value} {o3 : Option Value}  (e1 : (5 : Int32) ≤ x1) (kk : qE d 109 230 [some (.ref r0), some (.int x1), o2, o3] [] h q): qE d 109 205 [some (.ref r0), some (.int x1), o2, o3] [] h q := by
  refine qe_iload_n c109_205 rfl ?_
  refine qe_iconst (x := 5) c109_206 (by decide) ?_
  refine qe_icmp_ge_T (t := 230) c109_207 rfl e1 ?_
  exact kk
theorem b109_210F {d : Nat} {q : Option Value × qH} {h : qH} {r0 : Nat} {x1 : Int32} {o2 : Option Value} {o3 : Option Value} {fs1 : List Value} {y3 : Nat} {n5 : Nat} {f6 : Nat → Int32}  (e2 : h.2.2 r0 = some (.inr (12, fs1))) (e4 : fs1[77]? = some (.ref y3)) (e7 : h.2.2 y3 = some (.inl (0, n5, .inl f6))) (e8 : 0 ≤ ((6 * x1) : Int32).toInt ∧ ((6 * x1) : Int32).toInt < (n5 : Nat)) (e9 : ¬ ((0 : Int32) ≤ (f6 ((6 * x1) : Int32).toNatClampNeg))) (kk : qE d 109 222 [some (.ref r0), some (.int x1), o2, o3] [] h q): qE d 109 210 [some (.ref r0), some (.int x1), o2, o3] [] h q := by
  refine qe_aload_n c109_210 rfl ?_
  refine qe_getfield c109_211 qo109 qF12_176 e2 e4 ?_
  refine qe_bipush (x := 6) c109_214 (by decide) ?_
  refine qe_iload_n c109_216 rfl ?_
  refine qe_imul c109_217 ?_
  refine qe_iaload c109_218 e7 e8 ?_
  refine qe_if_ge_F (t := 224) c109_219 rfl e9 ?_
  exact kk
theorem b109_210T {d : Nat} {q : Option Value × qH} {h : qH} {r0 : Nat} {x1 : Int32} {o2 : Option Value} {o3 : Option Value} {fs1 : List Value} {y3 : Nat} {n5 : Nat} {f6 : Nat → Int32}  (e2 : h.2.2 r0 = some (.inr (12, fs1))) (e4 : fs1[77]? = some (.ref y3)) (e7 : h.2.2 y3 = some (.inl (0, n5, .inl f6))) (e8 : 0 ≤ ((6 * x1) : Int32).toInt ∧ ((6 * x1) : Int32).toInt < (n5 : Nat)) (e9 : (0 : Int32) ≤ (f6 ((6 * x1) : Int32).toNatClampNeg)) (kk : qE d 109 224 [some (.ref r0), some (.int x1), o2, o3] [] h q): qE d 109 210 [some (.ref r0), some (.int x1), o2, o3] [] h q := by
  refine qe_aload_n c109_210 rfl ?_
  refine qe_getfield c109_211 qo109 qF12_176 e2 e4 ?_
  refine qe_bipush (x := 6) c109_214 (by decide) ?_
  refine qe_iload_n c109_216 rfl ?_
  refine qe_imul c109_217 ?_
  refine qe_iaload c109_218 e7 e8 ?_
  refine qe_if_ge_T (t := 224) c109_219 rfl e9 ?_
  exact kk
theorem b109_222 {d : Nat} {h : qH} {r0 : Nat} {x1 : Int32} {o2 : Option Value} {o3 : Option Value}   : qE d 109 222 [some (.ref r0), some (.int x1), o2, o3] [] h (some (.int 0), h) := by
  refine qe_iconst (x := 0) c109_222 (by decide) ?_
  exact qe_zret c109_223 qr109 (by decide)
theorem b109_224 {d : Nat} {q : Option Value × qH} {h : qH} {r0 : Nat} {x1 : Int32} {o2 : Option Value} {o3 : Option Value}   (kk : qE d 109 205 [some (.ref r0), some (.int (x1 + 1)), o2, o3] [] h q): qE d 109 224 [some (.ref r0), some (.int x1), o2, o3] [] h q := by
  refine qe_iinc (y := (x1 + 1)) (ls2 := [some (.ref r0), some (.int (x1 + 1)), o2, o3]) c109_224 rfl (Nat.le_of_ble_eq_true rfl) rfl rfl ?_
  refine qe_goto (t := 205) c109_227 rfl ?_
  exact kk
theorem b109_230 {d : Nat} {h : qH} {r0 : Nat} {x1 : Int32} {o2 : Option Value} {o3 : Option Value}   : qE d 109 230 [some (.ref r0), some (.int x1), o2, o3] [] h (some (.int 1), h) := by
  refine qe_iconst (x := 1) c109_230 (by decide) ?_
  exact qe_zret c109_231 qr109 (by decide)
theorem b110_0F {d : Nat} {q : Option Value × qH} {h : qH} {r0 : Nat} {x1 : Int32} {fs1 : List Value} {h1 : qH} {z3 : Int32}  (e2 : h.2.2 r0 = some (.inr (12, fs1))) (e4 : qCall d 136 [.ref r0, .int x1] h ((some (.int z3)), h1)) (e5 : (z3 : Int32) = 0) (kk : qE d 110 8 [some (.ref r0), some (.int x1)] [] h1 q): qE d 110 0 [some (.ref r0), some (.int x1)] [] h q := by
  refine qe_aload_n c110_0 rfl ?_
  refine qe_iload_n c110_1 rfl ?_
  refine qe_virtual (b := r0) (as := [.int x1]) (r := []) (v := (some (.int z3))) (h2 := h1) c110_2 qo110 qK12_224 rfl rfl rfl (by rw [qo136]; exact e2) (Nat.le_of_ble_eq_true rfl) e4 ?_
  refine qe_if_ne_F (t := 12) c110_5 rfl e5 ?_
  exact kk
theorem b110_0T {d : Nat} {q : Option Value × qH} {h : qH} {r0 : Nat} {x1 : Int32} {fs1 : List Value} {h1 : qH} {z3 : Int32}  (e2 : h.2.2 r0 = some (.inr (12, fs1))) (e4 : qCall d 136 [.ref r0, .int x1] h ((some (.int z3)), h1)) (e5 : ¬ ((z3 : Int32) = 0)) (kk : qE d 110 12 [some (.ref r0), some (.int x1)] [] h1 q): qE d 110 0 [some (.ref r0), some (.int x1)] [] h q := by
  refine qe_aload_n c110_0 rfl ?_
  refine qe_iload_n c110_1 rfl ?_
  refine qe_virtual (b := r0) (as := [.int x1]) (r := []) (v := (some (.int z3))) (h2 := h1) c110_2 qo110 qK12_224 rfl rfl rfl (by rw [qo136]; exact e2) (Nat.le_of_ble_eq_true rfl) e4 ?_
  refine qe_if_ne_T (t := 12) c110_5 rfl e5 ?_
  exact kk
theorem b110_8 {d : Nat} {h : qH} {r0 : Nat} {x1 : Int32}   : qE d 110 8 [some (.ref r0), some (.int x1)] [] h (some (.long (-1000000000)), h) := by
  refine qe_ldc2_w (x := (-1000000000)) c110_8 qo110 qJ12_464 ?_
  exact qe_lret c110_11 qr110
theorem b110_12 {d : Nat} {h : qH} {r0 : Nat} {x1 : Int32} {fs1 : List Value} {h1 : qH} {fs4 : List Value} {h2 : qH} {z6 : Int64}  (e2 : h.2.2 r0 = some (.inr (12, fs1))) (e3 : qCall d 174 [.ref r0] h (none, h1)) (e5 : h1.2.2 r0 = some (.inr (12, fs4))) (e7 : qCall d 178 [.ref r0, .int x1] h1 ((some (.long z6)), h2)) : qE d 110 12 [some (.ref r0), some (.int x1)] [] h (some (.long z6), h2) := by
  refine qe_aload_n c110_12 rfl ?_
  refine qe_virtual (b := r0) (as := []) (r := []) (v := none) (h2 := h1) c110_13 qo110 qK12_466 rfl rfl rfl (by rw [qo174]; exact e2) (Nat.le_of_ble_eq_true rfl) e3 ?_
  refine qe_aload_n c110_16 rfl ?_
  refine qe_iload_n c110_17 rfl ?_
  refine qe_virtual (b := r0) (as := [.int x1]) (r := []) (v := (some (.long z6))) (h2 := h2) c110_18 qo110 qK12_408 rfl rfl rfl (by rw [qo178]; exact e5) (Nat.le_of_ble_eq_true rfl) e7 ?_
  exact qe_lret c110_21 qr110
theorem b111_0 {d : Nat} {q : Option Value × qH} {h : qH} {r0 : Nat} {x1 : Int32} {x2 : Int32} {fs1 : List Value} {h1 : qH} {z3 : Int32} {fs5 : List Value} {h2 : qH} {z7 : Int64}  (e2 : h.2.2 r0 = some (.inr (12, fs1))) (e4 : qCall d 140 [.ref r0, .int x1, .int x2] h ((some (.int z3)), h1)) (e6 : h1.2.2 r0 = some (.inr (12, fs5))) (e8 : qCall d 182 [.ref r0, .int z3] h1 ((some (.long z7)), h2)) (kk : qE d 111 17 [some (.ref r0), some (.int x1), some (.int x2), some (.int z3), some (.long z7), none, some (.int 0), none] [] h2 q): qE d 111 0 [some (.ref r0), some (.int x1), some (.int x2), none, none, none, none, none] [] h q := by
  refine qe_aload_n c111_0 rfl ?_
  refine qe_iload_n c111_1 rfl ?_
  refine qe_iload_n c111_2 rfl ?_
  refine qe_virtual (b := r0) (as := [.int x1, .int x2]) (r := []) (v := (some (.int z3))) (h2 := h1) c111_3 qo111 qK12_252 rfl rfl rfl (by rw [qo140]; exact e2) (Nat.le_of_ble_eq_true rfl) e4 ?_
  refine qe_istore_n (ls2 := [some (.ref r0), some (.int x1), some (.int x2), some (.int z3), none, none, none, none]) c111_6 (Nat.le_of_ble_eq_true rfl) rfl ?_
  refine qe_aload_n c111_7 rfl ?_
  refine qe_iload_n c111_8 rfl ?_
  refine qe_virtual (b := r0) (as := [.int z3]) (r := []) (v := (some (.long z7))) (h2 := h2) c111_9 qo111 qK12_255 rfl rfl rfl (by rw [qo182]; exact e6) (Nat.le_of_ble_eq_true rfl) e8 ?_
  refine qe_lstore (ls2 := [some (.ref r0), some (.int x1), some (.int x2), some (.int z3), some (.long z7), none, none, none]) c111_12 (Nat.le_of_ble_eq_true rfl) rfl ?_
  refine qe_iconst (x := 0) c111_14 (by decide) ?_
  refine qe_istore (ls2 := [some (.ref r0), some (.int x1), some (.int x2), some (.int z3), some (.long z7), none, some (.int 0), none]) c111_15 (Nat.le_of_ble_eq_true rfl) rfl ?_
  exact kk
theorem b111_17F {d : Nat} {q : Option Value × qH} {h : qH} {r0 : Nat} {x1 : Int32} {x2 : Int32} {x3 : Int32} {l4 : Int64} {x6 : Int32} {o7 : Option Value} {fs1 : List Value} {y3 : Int32}  (e2 : h.2.2 r0 = some (.inr (12, fs1))) (e4 : fs1[3]? = some (.int y3)) (e5 : ¬ ((y3 : Int32) ≤ x6)) (kk : qE d 111 26 [some (.ref r0), some (.int x1), some (.int x2), some (.int x3), some (.long l4), none, some (.int x6), o7] [] h q): qE d 111 17 [some (.ref r0), some (.int x1), some (.int x2), some (.int x3), some (.long l4), none, some (.int x6), o7] [] h q := by
  refine qe_iload c111_17 rfl ?_
  refine qe_aload_n c111_19 rfl ?_
  refine qe_getfield c111_20 qo111 qF12_186 e2 e4 ?_
  refine qe_icmp_ge_F (t := 149) c111_23 rfl e5 ?_
  exact kk
theorem b111_17T {d : Nat} {q : Option Value × qH} {h : qH} {r0 : Nat} {x1 : Int32} {x2 : Int32} {x3 : Int32} {l4 : Int64} {x6 : Int32} {o7 : Option Value} {fs1 : List Value} {y3 : Int32}  (e2 : h.2.2 r0 = some (.inr (12, fs1))) (e4 : fs1[3]? = some (.int y3)) (e5 : (y3 : Int32) ≤ x6) (kk : qE d 111 149 [some (.ref r0), some (.int x1), some (.int x2), some (.int x3), some (.long l4), none, some (.int x6), o7] [] h q): qE d 111 17 [some (.ref r0), some (.int x1), some (.int x2), some (.int x3), some (.long l4), none, some (.int x6), o7] [] h q := by
  refine qe_iload c111_17 rfl ?_
  refine qe_aload_n c111_19 rfl ?_
  refine qe_getfield c111_20 qo111 qF12_186 e2 e4 ?_
  refine qe_icmp_ge_T (t := 149) c111_23 rfl e5 ?_
  exact kk
theorem b111_26F {d : Nat} {q : Option Value × qH} {h : qH} {r0 : Nat} {x1 : Int32} {x2 : Int32} {x3 : Int32} {l4 : Int64} {x6 : Int32} {o7 : Option Value} {fs1 : List Value} {y3 : Nat} {n5 : Nat} {f6 : Nat → Int32}  (e2 : h.2.2 r0 = some (.inr (12, fs1))) (e4 : fs1[24]? = some (.ref y3)) (e7 : h.2.2 y3 = some (.inl (0, n5, .inl f6))) (e8 : 0 ≤ (x6 : Int32).toInt ∧ (x6 : Int32).toInt < (n5 : Nat)) (e9 : ¬ (((f6 (x6 : Int32).toNatClampNeg) : Int32) = x2)) (kk : qE d 111 37 [some (.ref r0), some (.int x1), some (.int x2), some (.int x3), some (.long l4), none, some (.int x6), o7] [] h q): qE d 111 26 [some (.ref r0), some (.int x1), some (.int x2), some (.int x3), some (.long l4), none, some (.int x6), o7] [] h q := by
  refine qe_aload_n c111_26 rfl ?_
  refine qe_getfield c111_27 qo111 qF12_58 e2 e4 ?_
  refine qe_iload c111_30 rfl ?_
  refine qe_iaload c111_32 e7 e8 ?_
  refine qe_iload_n c111_33 rfl ?_
  refine qe_icmp_eq_F (t := 40) c111_34 rfl e9 ?_
  exact kk
theorem b111_26T {d : Nat} {q : Option Value × qH} {h : qH} {r0 : Nat} {x1 : Int32} {x2 : Int32} {x3 : Int32} {l4 : Int64} {x6 : Int32} {o7 : Option Value} {fs1 : List Value} {y3 : Nat} {n5 : Nat} {f6 : Nat → Int32}  (e2 : h.2.2 r0 = some (.inr (12, fs1))) (e4 : fs1[24]? = some (.ref y3)) (e7 : h.2.2 y3 = some (.inl (0, n5, .inl f6))) (e8 : 0 ≤ (x6 : Int32).toInt ∧ (x6 : Int32).toInt < (n5 : Nat)) (e9 : ((f6 (x6 : Int32).toNatClampNeg) : Int32) = x2) (kk : qE d 111 40 [some (.ref r0), some (.int x1), some (.int x2), some (.int x3), some (.long l4), none, some (.int x6), o7] [] h q): qE d 111 26 [some (.ref r0), some (.int x1), some (.int x2), some (.int x3), some (.long l4), none, some (.int x6), o7] [] h q := by
  refine qe_aload_n c111_26 rfl ?_
  refine qe_getfield c111_27 qo111 qF12_58 e2 e4 ?_
  refine qe_iload c111_30 rfl ?_
  refine qe_iaload c111_32 e7 e8 ?_
  refine qe_iload_n c111_33 rfl ?_
  refine qe_icmp_eq_T (t := 40) c111_34 rfl e9 ?_
  exact kk
theorem b111_37 {d : Nat} {q : Option Value × qH} {h : qH} {r0 : Nat} {x1 : Int32} {x2 : Int32} {x3 : Int32} {l4 : Int64} {x6 : Int32} {o7 : Option Value}   (kk : qE d 111 143 [some (.ref r0), some (.int x1), some (.int x2), some (.int x3), some (.long l4), none, some (.int x6), o7] [] h q): qE d 111 37 [some (.ref r0), some (.int x1), some (.int x2), some (.int x3), some (.long l4), none, some (.int x6), o7] [] h q := by
  refine qe_goto (t := 143) c111_37 rfl ?_
  exact kk
theorem b111_40 {d : Nat} {q : Option Value × qH} {h : qH} {r0 : Nat} {x1 : Int32} {x2 : Int32} {x3 : Int32} {l4 : Int64} {x6 : Int32} {o7 : Option Value} {fs1 : List Value} {y3 : Nat} {n5 : Nat} {f6 : Nat → Int64} {h1 : qH}  (e2 : h.2.2 r0 = some (.inr (12, fs1))) (e4 : fs1[33]? = some (.ref y3)) (e7 : h.2.2 y3 = some (.inl (2, n5, .inr (.inl f6)))) (e8 : 0 ≤ (x6 : Int32).toInt ∧ (x6 : Int32).toInt < (n5 : Nat)) (e9 : qset h y3 (.inl (2, n5, .inr (.inl (vp_updL f6 ((x6 : Int32).toNatClampNeg) 0)))) = h1) (kk : qE d 111 51 [some (.ref r0), some (.int x1), some (.int x2), some (.int x3), some (.long l4), none, some (.int x6), some (.int 0)] [] h1 q): qE d 111 40 [some (.ref r0), some (.int x1), some (.int x2), some (.int x3), some (.long l4), none, some (.int x6), o7] [] h q := by
  refine qe_aload_n c111_40 rfl ?_
  refine qe_getfield c111_41 qo111 qF12_83 e2 e4 ?_
  refine qe_iload c111_44 rfl ?_
  refine qe_lconst (x := 0) c111_46 (by decide) ?_
  refine qe_lastore c111_47 e7 e8 ?_
  rw [e9]
  refine qe_iconst (x := 0) c111_48 (by decide) ?_
  refine qe_istore (ls2 := [some (.ref r0), some (.int x1), some (.int x2), some (.int x3), some (.long l4), none, some (.int x6), some (.int 0)]) c111_49 (Nat.le_of_ble_eq_true rfl) rfl ?_
  exact kk
theorem b111_51F {d : Nat} {q : Option Value × qH} {h : qH} {r0 : Nat} {x1 : Int32} {x2 : Int32} {x3 : Int32} {l4 : Int64} {x6 : Int32} {x7 : Int32} {fs1 : List Value} {y3 : Int32}  (e2 : h.2.2 r0 = some (.inr (12, fs1))) (e4 : fs1[3]? = some (.int y3)) (e5 : ¬ ((y3 : Int32) ≤ x7)) (kk : qE d 111 60 [some (.ref r0), some (.int x1), some (.int x2), some (.int x3), some (.long l4), none, some (.int x6), some (.int x7)] [] h q): qE d 111 51 [some (.ref r0), some (.int x1), some (.int x2), some (.int x3), some (.long l4), none, some (.int x6), some (.int x7)] [] h q := by
  refine qe_iload c111_51 rfl ?_
  refine qe_aload_n c111_53 rfl ?_
  refine qe_getfield c111_54 qo111 qF12_186 e2 e4 ?_
  refine qe_icmp_ge_F (t := 143) c111_57 rfl e5 ?_
  exact kk
theorem b111_51T {d : Nat} {q : Option Value × qH} {h : qH} {r0 : Nat} {x1 : Int32} {x2 : Int32} {x3 : Int32} {l4 : Int64} {x6 : Int32} {x7 : Int32} {fs1 : List Value} {y3 : Int32}  (e2 : h.2.2 r0 = some (.inr (12, fs1))) (e4 : fs1[3]? = some (.int y3)) (e5 : (y3 : Int32) ≤ x7) (kk : qE d 111 143 [some (.ref r0), some (.int x1), some (.int x2), some (.int x3), some (.long l4), none, some (.int x6), some (.int x7)] [] h q): qE d 111 51 [some (.ref r0), some (.int x1), some (.int x2), some (.int x3), some (.long l4), none, some (.int x6), some (.int x7)] [] h q := by
  refine qe_iload c111_51 rfl ?_
  refine qe_aload_n c111_53 rfl ?_
  refine qe_getfield c111_54 qo111 qF12_186 e2 e4 ?_
  refine qe_icmp_ge_T (t := 143) c111_57 rfl e5 ?_
  exact kk
theorem b111_60F {d : Nat} {q : Option Value × qH} {h : qH} {r0 : Nat} {x1 : Int32} {x2 : Int32} {x3 : Int32} {l4 : Int64} {x6 : Int32} {x7 : Int32} {fs1 : List Value} {y3 : Nat} {n5 : Nat} {f6 : Nat → Int32}  (e2 : h.2.2 r0 = some (.inr (12, fs1))) (e4 : fs1[32]? = some (.ref y3)) (e7 : h.2.2 y3 = some (.inl (0, n5, .inl f6))) (e8 : 0 ≤ (x6 : Int32).toInt ∧ (x6 : Int32).toInt < (n5 : Nat)) (e9 : ¬ (((f6 (x6 : Int32).toNatClampNeg) : Int32) = (-1))) (kk : qE d 111 71 [some (.ref r0), some (.int x1), some (.int x2), some (.int x3), some (.long l4), none, some (.int x6), some (.int x7)] [] h q): qE d 111 60 [some (.ref r0), some (.int x1), some (.int x2), some (.int x3), some (.long l4), none, some (.int x6), some (.int x7)] [] h q := by
  refine qe_aload_n c111_60 rfl ?_
  refine qe_getfield c111_61 qo111 qF12_80 e2 e4 ?_
  refine qe_iload c111_64 rfl ?_
  refine qe_iaload c111_66 e7 e8 ?_
  refine qe_iconst (x := (-1)) c111_67 (by decide) ?_
  refine qe_icmp_eq_F (t := 143) c111_68 rfl e9 ?_
  exact kk
theorem b111_60T {d : Nat} {q : Option Value × qH} {h : qH} {r0 : Nat} {x1 : Int32} {x2 : Int32} {x3 : Int32} {l4 : Int64} {x6 : Int32} {x7 : Int32} {fs1 : List Value} {y3 : Nat} {n5 : Nat} {f6 : Nat → Int32}  (e2 : h.2.2 r0 = some (.inr (12, fs1))) (e4 : fs1[32]? = some (.ref y3)) (e7 : h.2.2 y3 = some (.inl (0, n5, .inl f6))) (e8 : 0 ≤ (x6 : Int32).toInt ∧ (x6 : Int32).toInt < (n5 : Nat)) (e9 : ((f6 (x6 : Int32).toNatClampNeg) : Int32) = (-1)) (kk : qE d 111 143 [some (.ref r0), some (.int x1), some (.int x2), some (.int x3), some (.long l4), none, some (.int x6), some (.int x7)] [] h q): qE d 111 60 [some (.ref r0), some (.int x1), some (.int x2), some (.int x3), some (.long l4), none, some (.int x6), some (.int x7)] [] h q := by
  refine qe_aload_n c111_60 rfl ?_
  refine qe_getfield c111_61 qo111 qF12_80 e2 e4 ?_
  refine qe_iload c111_64 rfl ?_
  refine qe_iaload c111_66 e7 e8 ?_
  refine qe_iconst (x := (-1)) c111_67 (by decide) ?_
  refine qe_icmp_eq_T (t := 143) c111_68 rfl e9 ?_
  exact kk
theorem b111_71F {d : Nat} {q : Option Value × qH} {h : qH} {r0 : Nat} {x1 : Int32} {x2 : Int32} {x3 : Int32} {l4 : Int64} {x6 : Int32} {x7 : Int32} {fs1 : List Value} {y3 : Nat} {n5 : Nat} {f6 : Nat → Int32}  (e2 : h.2.2 r0 = some (.inr (12, fs1))) (e4 : fs1[24]? = some (.ref y3)) (e7 : h.2.2 y3 = some (.inl (0, n5, .inl f6))) (e8 : 0 ≤ (x7 : Int32).toInt ∧ (x7 : Int32).toInt < (n5 : Nat)) (e9 : ((f6 (x7 : Int32).toNatClampNeg) : Int32) = x2) (kk : qE d 111 82 [some (.ref r0), some (.int x1), some (.int x2), some (.int x3), some (.long l4), none, some (.int x6), some (.int x7)] [] h q): qE d 111 71 [some (.ref r0), some (.int x1), some (.int x2), some (.int x3), some (.long l4), none, some (.int x6), some (.int x7)] [] h q := by
  refine qe_aload_n c111_71 rfl ?_
  refine qe_getfield c111_72 qo111 qF12_58 e2 e4 ?_
  refine qe_iload c111_75 rfl ?_
  refine qe_iaload c111_77 e7 e8 ?_
  refine qe_iload_n c111_78 rfl ?_
  refine qe_icmp_ne_F (t := 137) c111_79 rfl e9 ?_
  exact kk
theorem b111_71T {d : Nat} {q : Option Value × qH} {h : qH} {r0 : Nat} {x1 : Int32} {x2 : Int32} {x3 : Int32} {l4 : Int64} {x6 : Int32} {x7 : Int32} {fs1 : List Value} {y3 : Nat} {n5 : Nat} {f6 : Nat → Int32}  (e2 : h.2.2 r0 = some (.inr (12, fs1))) (e4 : fs1[24]? = some (.ref y3)) (e7 : h.2.2 y3 = some (.inl (0, n5, .inl f6))) (e8 : 0 ≤ (x7 : Int32).toInt ∧ (x7 : Int32).toInt < (n5 : Nat)) (e9 : ¬ (((f6 (x7 : Int32).toNatClampNeg) : Int32) = x2)) (kk : qE d 111 137 [some (.ref r0), some (.int x1), some (.int x2), some (.int x3), some (.long l4), none, some (.int x6), some (.int x7)] [] h q): qE d 111 71 [some (.ref r0), some (.int x1), some (.int x2), some (.int x3), some (.long l4), none, some (.int x6), some (.int x7)] [] h q := by
  refine qe_aload_n c111_71 rfl ?_
  refine qe_getfield c111_72 qo111 qF12_58 e2 e4 ?_
  refine qe_iload c111_75 rfl ?_
  refine qe_iaload c111_77 e7 e8 ?_
  refine qe_iload_n c111_78 rfl ?_
  refine qe_icmp_ne_T (t := 137) c111_79 rfl e9 ?_
  exact kk
theorem b111_82F {d : Nat} {q : Option Value × qH} {h : qH} {r0 : Nat} {x1 : Int32} {x2 : Int32} {x3 : Int32} {l4 : Int64} {x6 : Int32} {x7 : Int32} {fs1 : List Value} {y3 : Nat} {n5 : Nat} {f6 : Nat → Int32}  (e2 : h.2.2 r0 = some (.inr (12, fs1))) (e4 : fs1[32]? = some (.ref y3)) (e7 : h.2.2 y3 = some (.inl (0, n5, .inl f6))) (e8 : 0 ≤ (x7 : Int32).toInt ∧ (x7 : Int32).toInt < (n5 : Nat)) (e9 : ¬ (((f6 (x7 : Int32).toNatClampNeg) : Int32) = (-1))) (kk : qE d 111 93 [some (.ref r0), some (.int x1), some (.int x2), some (.int x3), some (.long l4), none, some (.int x6), some (.int x7)] [] h q): qE d 111 82 [some (.ref r0), some (.int x1), some (.int x2), some (.int x3), some (.long l4), none, some (.int x6), some (.int x7)] [] h q := by
  refine qe_aload_n c111_82 rfl ?_
  refine qe_getfield c111_83 qo111 qF12_80 e2 e4 ?_
  refine qe_iload c111_86 rfl ?_
  refine qe_iaload c111_88 e7 e8 ?_
  refine qe_iconst (x := (-1)) c111_89 (by decide) ?_
  refine qe_icmp_eq_F (t := 137) c111_90 rfl e9 ?_
  exact kk
theorem b111_82T {d : Nat} {q : Option Value × qH} {h : qH} {r0 : Nat} {x1 : Int32} {x2 : Int32} {x3 : Int32} {l4 : Int64} {x6 : Int32} {x7 : Int32} {fs1 : List Value} {y3 : Nat} {n5 : Nat} {f6 : Nat → Int32}  (e2 : h.2.2 r0 = some (.inr (12, fs1))) (e4 : fs1[32]? = some (.ref y3)) (e7 : h.2.2 y3 = some (.inl (0, n5, .inl f6))) (e8 : 0 ≤ (x7 : Int32).toInt ∧ (x7 : Int32).toInt < (n5 : Nat)) (e9 : ((f6 (x7 : Int32).toNatClampNeg) : Int32) = (-1)) (kk : qE d 111 137 [some (.ref r0), some (.int x1), some (.int x2), some (.int x3), some (.long l4), none, some (.int x6), some (.int x7)] [] h q): qE d 111 82 [some (.ref r0), some (.int x1), some (.int x2), some (.int x3), some (.long l4), none, some (.int x6), some (.int x7)] [] h q := by
  refine qe_aload_n c111_82 rfl ?_
  refine qe_getfield c111_83 qo111 qF12_80 e2 e4 ?_
  refine qe_iload c111_86 rfl ?_
  refine qe_iaload c111_88 e7 e8 ?_
  refine qe_iconst (x := (-1)) c111_89 (by decide) ?_
  refine qe_icmp_eq_T (t := 137) c111_90 rfl e9 ?_
  exact kk
theorem b111_93 {d : Nat} {q : Option Value × qH} {h : qH} {r0 : Nat} {x1 : Int32} {x2 : Int32} {x3 : Int32} {l4 : Int64} {x6 : Int32} {x7 : Int32} {fs1 : List Value} {y3 : Nat} {n5 : Nat} {f6 : Nat → Int64} {y9 : Nat} {y11 : Nat} {n13 : Nat} {f14 : Nat → Int32} {n19 : Nat} {f20 : Nat → Int64} {h1 : qH} {z23 : Int64} {n25 : Nat} {f26 : Nat → Int64} {h2 : qH}  (e2 : h.2.2 r0 = some (.inr (12, fs1))) (e4 : fs1[33]? = some (.ref y3)) (e7 : h.2.2 y3 = some (.inl (2, n5, .inr (.inl f6)))) (e8 : 0 ≤ (x6 : Int32).toInt ∧ (x6 : Int32).toInt < (n5 : Nat)) (e10 : fs1[31]? = some (.ref y9)) (e12 : fs1[32]? = some (.ref y11)) (e15 : h.2.2 y11 = some (.inl (0, n13, .inl f14))) (e16 : 0 ≤ (x6 : Int32).toInt ∧ (x6 : Int32).toInt < (n13 : Nat)) (e18 : 0 ≤ (x7 : Int32).toInt ∧ (x7 : Int32).toInt < (n13 : Nat)) (e21 : h.2.2 y9 = some (.inl (2, n19, .inr (.inl f20)))) (e22 : 0 ≤ ((((14 * (f14 (x6 : Int32).toNatClampNeg)) + 7) + (f14 (x7 : Int32).toNatClampNeg)) : Int32).toInt ∧ ((((14 * (f14 (x6 : Int32).toNatClampNeg)) + 7) + (f14 (x7 : Int32).toNatClampNeg)) : Int32).toInt < (n19 : Nat)) (e24 : qCall d 115 [.ref r0, .int x1, .int x7] h ((some (.long z23)), h1)) (e27 : h1.2.2 y3 = some (.inl (2, n25, .inr (.inl f26)))) (e28 : 0 ≤ (x6 : Int32).toInt ∧ (x6 : Int32).toInt < (n25 : Nat)) (e29 : qset h1 y3 (.inl (2, n25, .inr (.inl (vp_updL f26 ((x6 : Int32).toNatClampNeg) (((f6 (x6 : Int32).toNatClampNeg) + ((f20 ((((14 * (f14 (x6 : Int32).toNatClampNeg)) + 7) + (f14 (x7 : Int32).toNatClampNeg)) : Int32).toNatClampNeg) * z23))))))) = h2) (kk : qE d 111 137 [some (.ref r0), some (.int x1), some (.int x2), some (.int x3), some (.long l4), none, some (.int x6), some (.int x7)] [] h2 q): qE d 111 93 [some (.ref r0), some (.int x1), some (.int x2), some (.int x3), some (.long l4), none, some (.int x6), some (.int x7)] [] h q := by
  refine qe_aload_n c111_93 rfl ?_
  refine qe_getfield c111_94 qo111 qF12_83 e2 e4 ?_
  refine qe_iload c111_97 rfl ?_
  refine qe_dup2 c111_99 (Nat.ne_of_beq_eq_false rfl) rfl ?_
  refine qe_laload c111_100 e7 e8 ?_
  refine qe_aload_n c111_101 rfl ?_
  refine qe_getfield c111_102 qo111 qF12_77 e2 e10 ?_
  refine qe_bipush (x := 14) c111_105 (by decide) ?_
  refine qe_aload_n c111_107 rfl ?_
  refine qe_getfield c111_108 qo111 qF12_80 e2 e12 ?_
  refine qe_iload c111_111 rfl ?_
  refine qe_iaload c111_113 e15 e16 ?_
  refine qe_imul c111_114 ?_
  refine qe_bipush (x := 7) c111_115 (by decide) ?_
  refine qe_iadd c111_117 ?_
  refine qe_aload_n c111_118 rfl ?_
  refine qe_getfield c111_119 qo111 qF12_80 e2 e12 ?_
  refine qe_iload c111_122 rfl ?_
  refine qe_iaload c111_124 e15 e18 ?_
  refine qe_iadd c111_125 ?_
  refine qe_laload c111_126 e21 e22 ?_
  refine qe_aload_n c111_127 rfl ?_
  refine qe_iload_n c111_128 rfl ?_
  refine qe_iload c111_129 rfl ?_
  refine qe_virtual (b := r0) (as := [.int x1, .int x7]) (r := [.long (f20 ((((14 * (f14 (x6 : Int32).toNatClampNeg)) + 7) + (f14 (x7 : Int32).toNatClampNeg)) : Int32).toNatClampNeg), .long (f6 (x6 : Int32).toNatClampNeg), .int x6, .ref y3]) (v := (some (.long z23))) (h2 := h1) c111_131 qo111 qK12_259 rfl rfl rfl (by rw [qo115]; exact e2) (Nat.le_of_ble_eq_true rfl) e24 ?_
  refine qe_lmul c111_134 ?_
  refine qe_ladd c111_135 ?_
  refine qe_lastore c111_136 e27 e28 ?_
  rw [e29]
  exact kk
theorem b111_137 {d : Nat} {q : Option Value × qH} {h : qH} {r0 : Nat} {x1 : Int32} {x2 : Int32} {x3 : Int32} {l4 : Int64} {x6 : Int32} {x7 : Int32}   (kk : qE d 111 51 [some (.ref r0), some (.int x1), some (.int x2), some (.int x3), some (.long l4), none, some (.int x6), some (.int (x7 + 1))] [] h q): qE d 111 137 [some (.ref r0), some (.int x1), some (.int x2), some (.int x3), some (.long l4), none, some (.int x6), some (.int x7)] [] h q := by
  refine qe_iinc (y := (x7 + 1)) (ls2 := [some (.ref r0), some (.int x1), some (.int x2), some (.int x3), some (.long l4), none, some (.int x6), some (.int (x7 + 1))]) c111_137 rfl (Nat.le_of_ble_eq_true rfl) rfl rfl ?_
  refine qe_goto (t := 51) c111_140 rfl ?_
  exact kk
theorem b111_143 {d : Nat} {q : Option Value × qH} {h : qH} {r0 : Nat} {x1 : Int32} {x2 : Int32} {x3 : Int32} {l4 : Int64} {x6 : Int32} {o7 : Option Value}   (kk : qE d 111 17 [some (.ref r0), some (.int x1), some (.int x2), some (.int x3), some (.long l4), none, some (.int (x6 + 1)), o7] [] h q): qE d 111 143 [some (.ref r0), some (.int x1), some (.int x2), some (.int x3), some (.long l4), none, some (.int x6), o7] [] h q := by
  refine qe_iinc (y := (x6 + 1)) (ls2 := [some (.ref r0), some (.int x1), some (.int x2), some (.int x3), some (.long l4), none, some (.int (x6 + 1)), o7]) c111_143 rfl (Nat.le_of_ble_eq_true rfl) rfl rfl ?_
  refine qe_goto (t := 17) c111_146 rfl ?_
  exact kk
theorem b111_149 {d : Nat} {q : Option Value × qH} {h : qH} {r0 : Nat} {x1 : Int32} {x2 : Int32} {x3 : Int32} {l4 : Int64} {x6 : Int32} {o7 : Option Value}   (kk : qE d 111 152 [some (.ref r0), some (.int x1), some (.int x2), some (.int x3), some (.long l4), none, some (.int 0), o7] [] h q): qE d 111 149 [some (.ref r0), some (.int x1), some (.int x2), some (.int x3), some (.long l4), none, some (.int x6), o7] [] h q := by
  refine qe_iconst (x := 0) c111_149 (by decide) ?_
  refine qe_istore (ls2 := [some (.ref r0), some (.int x1), some (.int x2), some (.int x3), some (.long l4), none, some (.int 0), o7]) c111_150 (Nat.le_of_ble_eq_true rfl) rfl ?_
  exact kk
theorem b111_152F {d : Nat} {q : Option Value × qH} {h : qH} {r0 : Nat} {x1 : Int32} {x2 : Int32} {x3 : Int32} {l4 : Int64} {x6 : Int32} {o7 : Option Value} {fs1 : List Value} {y3 : Int32}  (e2 : h.2.2 r0 = some (.inr (12, fs1))) (e4 : fs1[4]? = some (.int y3)) (e5 : ¬ ((y3 : Int32) ≤ x6)) (kk : qE d 111 161 [some (.ref r0), some (.int x1), some (.int x2), some (.int x3), some (.long l4), none, some (.int x6), o7] [] h q): qE d 111 152 [some (.ref r0), some (.int x1), some (.int x2), some (.int x3), some (.long l4), none, some (.int x6), o7] [] h q := by
  refine qe_iload c111_152 rfl ?_
  refine qe_aload_n c111_154 rfl ?_
  refine qe_getfield c111_155 qo111 qF12_194 e2 e4 ?_
  refine qe_icmp_ge_F (t := 248) c111_158 rfl e5 ?_
  exact kk
theorem b111_152T {d : Nat} {q : Option Value × qH} {h : qH} {r0 : Nat} {x1 : Int32} {x2 : Int32} {x3 : Int32} {l4 : Int64} {x6 : Int32} {o7 : Option Value} {fs1 : List Value} {y3 : Int32}  (e2 : h.2.2 r0 = some (.inr (12, fs1))) (e4 : fs1[4]? = some (.int y3)) (e5 : (y3 : Int32) ≤ x6) (kk : qE d 111 248 [some (.ref r0), some (.int x1), some (.int x2), some (.int x3), some (.long l4), none, some (.int x6), o7] [] h q): qE d 111 152 [some (.ref r0), some (.int x1), some (.int x2), some (.int x3), some (.long l4), none, some (.int x6), o7] [] h q := by
  refine qe_iload c111_152 rfl ?_
  refine qe_aload_n c111_154 rfl ?_
  refine qe_getfield c111_155 qo111 qF12_194 e2 e4 ?_
  refine qe_icmp_ge_T (t := 248) c111_158 rfl e5 ?_
  exact kk
theorem b111_161F {d : Nat} {q : Option Value × qH} {h : qH} {r0 : Nat} {x1 : Int32} {x2 : Int32} {x3 : Int32} {l4 : Int64} {x6 : Int32} {o7 : Option Value} {fs1 : List Value} {y3 : Nat} {n5 : Nat} {f6 : Nat → Int32}  (e2 : h.2.2 r0 = some (.inr (12, fs1))) (e4 : fs1[10]? = some (.ref y3)) (e7 : h.2.2 y3 = some (.inl (0, n5, .inl f6))) (e8 : 0 ≤ ((x1 + x6) : Int32).toInt ∧ ((x1 + x6) : Int32).toInt < (n5 : Nat)) (e9 : ((f6 ((x1 + x6) : Int32).toNatClampNeg) : Int32) = 0) (kk : qE d 111 173 [some (.ref r0), some (.int x1), some (.int x2), some (.int x3), some (.long l4), none, some (.int x6), o7] [] h q): qE d 111 161 [some (.ref r0), some (.int x1), some (.int x2), some (.int x3), some (.long l4), none, some (.int x6), o7] [] h q := by
  refine qe_aload_n c111_161 rfl ?_
  refine qe_getfield c111_162 qo111 qF12_14 e2 e4 ?_
  refine qe_iload_n c111_165 rfl ?_
  refine qe_iload c111_166 rfl ?_
  refine qe_iadd c111_168 ?_
  refine qe_iaload c111_169 e7 e8 ?_
  refine qe_if_ne_F (t := 242) c111_170 rfl e9 ?_
  exact kk
theorem b111_161T {d : Nat} {q : Option Value × qH} {h : qH} {r0 : Nat} {x1 : Int32} {x2 : Int32} {x3 : Int32} {l4 : Int64} {x6 : Int32} {o7 : Option Value} {fs1 : List Value} {y3 : Nat} {n5 : Nat} {f6 : Nat → Int32}  (e2 : h.2.2 r0 = some (.inr (12, fs1))) (e4 : fs1[10]? = some (.ref y3)) (e7 : h.2.2 y3 = some (.inl (0, n5, .inl f6))) (e8 : 0 ≤ ((x1 + x6) : Int32).toInt ∧ ((x1 + x6) : Int32).toInt < (n5 : Nat)) (e9 : ¬ (((f6 ((x1 + x6) : Int32).toNatClampNeg) : Int32) = 0)) (kk : qE d 111 242 [some (.ref r0), some (.int x1), some (.int x2), some (.int x3), some (.long l4), none, some (.int x6), o7] [] h q): qE d 111 161 [some (.ref r0), some (.int x1), some (.int x2), some (.int x3), some (.long l4), none, some (.int x6), o7] [] h q := by
  refine qe_aload_n c111_161 rfl ?_
  refine qe_getfield c111_162 qo111 qF12_14 e2 e4 ?_
  refine qe_iload_n c111_165 rfl ?_
  refine qe_iload c111_166 rfl ?_
  refine qe_iadd c111_168 ?_
  refine qe_iaload c111_169 e7 e8 ?_
  refine qe_if_ne_T (t := 242) c111_170 rfl e9 ?_
  exact kk
theorem b111_173F {d : Nat} {q : Option Value × qH} {h : qH} {r0 : Nat} {x1 : Int32} {x2 : Int32} {x3 : Int32} {l4 : Int64} {x6 : Int32} {o7 : Option Value} {fs1 : List Value} {y3 : Nat} {y5 : Nat} {n7 : Nat} {f8 : Nat → Int32} {n11 : Nat} {f12 : Nat → Int32}  (e2 : h.2.2 r0 = some (.inr (12, fs1))) (e4 : fs1[24]? = some (.ref y3)) (e6 : fs1[13]? = some (.ref y5)) (e9 : h.2.2 y5 = some (.inl (0, n7, .inl f8))) (e10 : 0 ≤ (x6 : Int32).toInt ∧ (x6 : Int32).toInt < (n7 : Nat)) (e13 : h.2.2 y3 = some (.inl (0, n11, .inl f12))) (e14 : 0 ≤ ((f8 (x6 : Int32).toNatClampNeg) : Int32).toInt ∧ ((f8 (x6 : Int32).toNatClampNeg) : Int32).toInt < (n11 : Nat)) (e15 : ¬ (((f12 ((f8 (x6 : Int32).toNatClampNeg) : Int32).toNatClampNeg) : Int32) = x2)) (kk : qE d 111 189 [some (.ref r0), some (.int x1), some (.int x2), some (.int x3), some (.long l4), none, some (.int x6), o7] [] h q): qE d 111 173 [some (.ref r0), some (.int x1), some (.int x2), some (.int x3), some (.long l4), none, some (.int x6), o7] [] h q := by
  refine qe_aload_n c111_173 rfl ?_
  refine qe_getfield c111_174 qo111 qF12_58 e2 e4 ?_
  refine qe_aload_n c111_177 rfl ?_
  refine qe_getfield c111_178 qo111 qF12_24 e2 e6 ?_
  refine qe_iload c111_181 rfl ?_
  refine qe_iaload c111_183 e9 e10 ?_
  refine qe_iaload c111_184 e13 e14 ?_
  refine qe_iload_n c111_185 rfl ?_
  refine qe_icmp_eq_F (t := 192) c111_186 rfl e15 ?_
  exact kk
theorem b111_173T {d : Nat} {q : Option Value × qH} {h : qH} {r0 : Nat} {x1 : Int32} {x2 : Int32} {x3 : Int32} {l4 : Int64} {x6 : Int32} {o7 : Option Value} {fs1 : List Value} {y3 : Nat} {y5 : Nat} {n7 : Nat} {f8 : Nat → Int32} {n11 : Nat} {f12 : Nat → Int32}  (e2 : h.2.2 r0 = some (.inr (12, fs1))) (e4 : fs1[24]? = some (.ref y3)) (e6 : fs1[13]? = some (.ref y5)) (e9 : h.2.2 y5 = some (.inl (0, n7, .inl f8))) (e10 : 0 ≤ (x6 : Int32).toInt ∧ (x6 : Int32).toInt < (n7 : Nat)) (e13 : h.2.2 y3 = some (.inl (0, n11, .inl f12))) (e14 : 0 ≤ ((f8 (x6 : Int32).toNatClampNeg) : Int32).toInt ∧ ((f8 (x6 : Int32).toNatClampNeg) : Int32).toInt < (n11 : Nat)) (e15 : ((f12 ((f8 (x6 : Int32).toNatClampNeg) : Int32).toNatClampNeg) : Int32) = x2) (kk : qE d 111 192 [some (.ref r0), some (.int x1), some (.int x2), some (.int x3), some (.long l4), none, some (.int x6), o7] [] h q): qE d 111 173 [some (.ref r0), some (.int x1), some (.int x2), some (.int x3), some (.long l4), none, some (.int x6), o7] [] h q := by
  refine qe_aload_n c111_173 rfl ?_
  refine qe_getfield c111_174 qo111 qF12_58 e2 e4 ?_
  refine qe_aload_n c111_177 rfl ?_
  refine qe_getfield c111_178 qo111 qF12_24 e2 e6 ?_
  refine qe_iload c111_181 rfl ?_
  refine qe_iaload c111_183 e9 e10 ?_
  refine qe_iaload c111_184 e13 e14 ?_
  refine qe_iload_n c111_185 rfl ?_
  refine qe_icmp_eq_T (t := 192) c111_186 rfl e15 ?_
  exact kk
theorem b111_189 {d : Nat} {q : Option Value × qH} {h : qH} {r0 : Nat} {x1 : Int32} {x2 : Int32} {x3 : Int32} {l4 : Int64} {x6 : Int32} {o7 : Option Value}   (kk : qE d 111 242 [some (.ref r0), some (.int x1), some (.int x2), some (.int x3), some (.long l4), none, some (.int x6), o7] [] h q): qE d 111 189 [some (.ref r0), some (.int x1), some (.int x2), some (.int x3), some (.long l4), none, some (.int x6), o7] [] h q := by
  refine qe_goto (t := 242) c111_189 rfl ?_
  exact kk
theorem b111_192 {d : Nat} {q : Option Value × qH} {h : qH} {r0 : Nat} {x1 : Int32} {x2 : Int32} {x3 : Int32} {l4 : Int64} {x6 : Int32} {o7 : Option Value} {fs1 : List Value} {y3 : Nat} {y5 : Nat} {n7 : Nat} {f8 : Nat → Int32} {y11 : Nat} {y13 : Nat} {n15 : Nat} {f16 : Nat → Int32} {n19 : Nat} {f20 : Nat → Int64} {y24 : Nat} {n26 : Nat} {f27 : Nat → Int32} {n31 : Nat} {f32 : Nat → Int64} {h1 : qH} {fs36 : List Value} {y38 : Nat} {n40 : Nat} {f41 : Nat → Int64} {h2 : qH}  (e2 : h.2.2 r0 = some (.inr (12, fs1))) (e4 : fs1[27]? = some (.ref y3)) (e6 : fs1[15]? = some (.ref y5)) (e9 : h.2.2 y5 = some (.inl (0, n7, .inl f8))) (e10 : 0 ≤ (x6 : Int32).toInt ∧ (x6 : Int32).toInt < (n7 : Nat)) (e12 : fs1[33]? = some (.ref y11)) (e14 : fs1[13]? = some (.ref y13)) (e17 : h.2.2 y13 = some (.inl (0, n15, .inl f16))) (e18 : 0 ≤ (x6 : Int32).toInt ∧ (x6 : Int32).toInt < (n15 : Nat)) (e21 : h.2.2 y11 = some (.inl (2, n19, .inr (.inl f20)))) (e22 : 0 ≤ ((f16 (x6 : Int32).toNatClampNeg) : Int32).toInt ∧ ((f16 (x6 : Int32).toNatClampNeg) : Int32).toInt < (n19 : Nat)) (e25 : fs1[14]? = some (.ref y24)) (e28 : h.2.2 y24 = some (.inl (0, n26, .inl f27))) (e29 : 0 ≤ (x6 : Int32).toInt ∧ (x6 : Int32).toInt < (n26 : Nat)) (e30 : 0 ≤ ((f27 (x6 : Int32).toNatClampNeg) : Int32).toInt ∧ ((f27 (x6 : Int32).toNatClampNeg) : Int32).toInt < (n19 : Nat)) (e33 : h.2.2 y3 = some (.inl (2, n31, .inr (.inl f32)))) (e34 : 0 ≤ (x6 : Int32).toInt ∧ (x6 : Int32).toInt < (n31 : Nat)) (e35 : qset h y3 (.inl (2, n31, .inr (.inl (vp_updL f32 ((x6 : Int32).toNatClampNeg) ((((f8 (x6 : Int32).toNatClampNeg) : Int32).toInt64 * ((f20 ((f16 (x6 : Int32).toNatClampNeg) : Int32).toNatClampNeg) - (f20 ((f27 (x6 : Int32).toNatClampNeg) : Int32).toNatClampNeg)))))))) = h1) (e37 : h1.2.2 r0 = some (.inr (12, fs36))) (e39 : fs36[28]? = some (.ref y38)) (e42 : h1.2.2 y38 = some (.inl (2, n40, .inr (.inl f41)))) (e43 : 0 ≤ (x6 : Int32).toInt ∧ (x6 : Int32).toInt < (n40 : Nat)) (e44 : qset h1 y38 (.inl (2, n40, .inr (.inl (vp_updL f41 ((x6 : Int32).toNatClampNeg) l4)))) = h2) (kk : qE d 111 242 [some (.ref r0), some (.int x1), some (.int x2), some (.int x3), some (.long l4), none, some (.int x6), o7] [] h2 q): qE d 111 192 [some (.ref r0), some (.int x1), some (.int x2), some (.int x3), some (.long l4), none, some (.int x6), o7] [] h q := by
  refine qe_aload_n c111_192 rfl ?_
  refine qe_getfield c111_193 qo111 qF12_67 e2 e4 ?_
  refine qe_iload c111_196 rfl ?_
  refine qe_aload_n c111_198 rfl ?_
  refine qe_getfield c111_199 qo111 qF12_30 e2 e6 ?_
  refine qe_iload c111_202 rfl ?_
  refine qe_iaload c111_204 e9 e10 ?_
  refine qe_i2l c111_205 ?_
  refine qe_aload_n c111_206 rfl ?_
  refine qe_getfield c111_207 qo111 qF12_83 e2 e12 ?_
  refine qe_aload_n c111_210 rfl ?_
  refine qe_getfield c111_211 qo111 qF12_24 e2 e14 ?_
  refine qe_iload c111_214 rfl ?_
  refine qe_iaload c111_216 e17 e18 ?_
  refine qe_laload c111_217 e21 e22 ?_
  refine qe_aload_n c111_218 rfl ?_
  refine qe_getfield c111_219 qo111 qF12_83 e2 e12 ?_
  refine qe_aload_n c111_222 rfl ?_
  refine qe_getfield c111_223 qo111 qF12_27 e2 e25 ?_
  refine qe_iload c111_226 rfl ?_
  refine qe_iaload c111_228 e28 e29 ?_
  refine qe_laload c111_229 e21 e30 ?_
  refine qe_lsub c111_230 ?_
  refine qe_lmul c111_231 ?_
  refine qe_lastore c111_232 e33 e34 ?_
  rw [e35]
  refine qe_aload_n c111_233 rfl ?_
  refine qe_getfield c111_234 qo111 qF12_71 e37 e39 ?_
  refine qe_iload c111_237 rfl ?_
  refine qe_lload c111_239 rfl ?_
  refine qe_lastore c111_241 e42 e43 ?_
  rw [e44]
  exact kk
theorem b111_242 {d : Nat} {q : Option Value × qH} {h : qH} {r0 : Nat} {x1 : Int32} {x2 : Int32} {x3 : Int32} {l4 : Int64} {x6 : Int32} {o7 : Option Value}   (kk : qE d 111 152 [some (.ref r0), some (.int x1), some (.int x2), some (.int x3), some (.long l4), none, some (.int (x6 + 1)), o7] [] h q): qE d 111 242 [some (.ref r0), some (.int x1), some (.int x2), some (.int x3), some (.long l4), none, some (.int x6), o7] [] h q := by
  refine qe_iinc (y := (x6 + 1)) (ls2 := [some (.ref r0), some (.int x1), some (.int x2), some (.int x3), some (.long l4), none, some (.int (x6 + 1)), o7]) c111_242 rfl (Nat.le_of_ble_eq_true rfl) rfl rfl ?_
  refine qe_goto (t := 152) c111_245 rfl ?_
  exact kk
theorem b111_248 {d : Nat} {h : qH} {r0 : Nat} {x1 : Int32} {x2 : Int32} {x3 : Int32} {l4 : Int64} {x6 : Int32} {o7 : Option Value}   : qE d 111 248 [some (.ref r0), some (.int x1), some (.int x2), some (.int x3), some (.long l4), none, some (.int x6), o7] [] h (none, h) := by
  exact qe_vret c111_248 qr111
theorem b112_0 {d : Nat} {q : Option Value × qH} {h : qH} {r0 : Nat} {x1 : Int32} {x2 : Int32} {fs1 : List Value} {h1 : qH} {z3 : Int32} {fs5 : List Value} {y7 : Nat} {h2 : qH} {z9 : Int32} {n11 : Nat} {f12 : Nat → Int32} {h3 : qH}  (e2 : h.2.2 r0 = some (.inr (12, fs1))) (e4 : qCall d 146 [.ref r0, .int x1, .int x2] h ((some (.int z3)), h1)) (e6 : h1.2.2 r0 = some (.inr (12, fs5))) (e8 : fs5[26]? = some (.ref y7)) (e10 : qCall d 148 [.ref r0, .int x1, .int x2] h1 ((some (.int z9)), h2)) (e13 : h2.2.2 y7 = some (.inl (0, n11, .inl f12))) (e14 : 0 ≤ (x2 : Int32).toInt ∧ (x2 : Int32).toInt < (n11 : Nat)) (e15 : qset h2 y7 (.inl (0, n11, .inl (upd f12 ((x2 : Int32).toNatClampNeg) ((z9 - z3))))) = h3) (kk : qE d 112 24 [some (.ref r0), some (.int x1), some (.int x2), some (.int z3), some (.int 0), none, none] [] h3 q): qE d 112 0 [some (.ref r0), some (.int x1), some (.int x2), none, none, none, none] [] h q := by
  refine qe_aload_n c112_0 rfl ?_
  refine qe_iload_n c112_1 rfl ?_
  refine qe_iload_n c112_2 rfl ?_
  refine qe_virtual (b := r0) (as := [.int x1, .int x2]) (r := []) (v := (some (.int z3))) (h2 := h1) c112_3 qo112 qK12_242 rfl rfl rfl (by rw [qo146]; exact e2) (Nat.le_of_ble_eq_true rfl) e4 ?_
  refine qe_istore_n (ls2 := [some (.ref r0), some (.int x1), some (.int x2), some (.int z3), none, none, none]) c112_6 (Nat.le_of_ble_eq_true rfl) rfl ?_
  refine qe_aload_n c112_7 rfl ?_
  refine qe_getfield c112_8 qo112 qF12_64 e6 e8 ?_
  refine qe_iload_n c112_11 rfl ?_
  refine qe_aload_n c112_12 rfl ?_
  refine qe_iload_n c112_13 rfl ?_
  refine qe_iload_n c112_14 rfl ?_
  refine qe_virtual (b := r0) (as := [.int x1, .int x2]) (r := [.int x2, .ref y7]) (v := (some (.int z9))) (h2 := h2) c112_15 qo112 qK12_239 rfl rfl rfl (by rw [qo148]; exact e6) (Nat.le_of_ble_eq_true rfl) e10 ?_
  refine qe_iload_n c112_18 rfl ?_
  refine qe_isub c112_19 ?_
  refine qe_iastore c112_20 e13 e14 ?_
  rw [e15]
  refine qe_iconst (x := 0) c112_21 (by decide) ?_
  refine qe_istore (ls2 := [some (.ref r0), some (.int x1), some (.int x2), some (.int z3), some (.int 0), none, none]) c112_22 (Nat.le_of_ble_eq_true rfl) rfl ?_
  exact kk
theorem b112_24 {d : Nat} {q : Option Value × qH} {h : qH} {r0 : Nat} {x1 : Int32} {x2 : Int32} {x3 : Int32} {x4 : Int32} {o5 : Option Value} {o6 : Option Value}   (kk : qE d 112 30 [some (.ref r0), some (.int x1), some (.int x2), some (.int x3), some (.int x4), some (.int (-1)), some (.int 0)] [] h q): qE d 112 24 [some (.ref r0), some (.int x1), some (.int x2), some (.int x3), some (.int x4), o5, o6] [] h q := by
  refine qe_iconst (x := (-1)) c112_24 (by decide) ?_
  refine qe_istore (ls2 := [some (.ref r0), some (.int x1), some (.int x2), some (.int x3), some (.int x4), some (.int (-1)), o6]) c112_25 (Nat.le_of_ble_eq_true rfl) rfl ?_
  refine qe_iconst (x := 0) c112_27 (by decide) ?_
  refine qe_istore (ls2 := [some (.ref r0), some (.int x1), some (.int x2), some (.int x3), some (.int x4), some (.int (-1)), some (.int 0)]) c112_28 (Nat.le_of_ble_eq_true rfl) rfl ?_
  exact kk
theorem b112_30F {d : Nat} {q : Option Value × qH} {h : qH} {r0 : Nat} {x1 : Int32} {x2 : Int32} {x3 : Int32} {x4 : Int32} {x5 : Int32} {x6 : Int32} {fs1 : List Value} {y3 : Int32}  (e2 : h.2.2 r0 = some (.inr (12, fs1))) (e4 : fs1[5]? = some (.int y3)) (e5 : ¬ ((y3 : Int32) ≤ x6)) (kk : qE d 112 39 [some (.ref r0), some (.int x1), some (.int x2), some (.int x3), some (.int x4), some (.int x5), some (.int x6)] [] h q): qE d 112 30 [some (.ref r0), some (.int x1), some (.int x2), some (.int x3), some (.int x4), some (.int x5), some (.int x6)] [] h q := by
  refine qe_iload c112_30 rfl ?_
  refine qe_aload_n c112_32 rfl ?_
  refine qe_getfield c112_33 qo112 qF12_197 e2 e4 ?_
  refine qe_icmp_ge_F (t := 114) c112_36 rfl e5 ?_
  exact kk
theorem b112_30T {d : Nat} {q : Option Value × qH} {h : qH} {r0 : Nat} {x1 : Int32} {x2 : Int32} {x3 : Int32} {x4 : Int32} {x5 : Int32} {x6 : Int32} {fs1 : List Value} {y3 : Int32}  (e2 : h.2.2 r0 = some (.inr (12, fs1))) (e4 : fs1[5]? = some (.int y3)) (e5 : (y3 : Int32) ≤ x6) (kk : qE d 112 114 [some (.ref r0), some (.int x1), some (.int x2), some (.int x3), some (.int x4), some (.int x5), some (.int x6)] [] h q): qE d 112 30 [some (.ref r0), some (.int x1), some (.int x2), some (.int x3), some (.int x4), some (.int x5), some (.int x6)] [] h q := by
  refine qe_iload c112_30 rfl ?_
  refine qe_aload_n c112_32 rfl ?_
  refine qe_getfield c112_33 qo112 qF12_197 e2 e4 ?_
  refine qe_icmp_ge_T (t := 114) c112_36 rfl e5 ?_
  exact kk
theorem b112_39F {d : Nat} {q : Option Value × qH} {h : qH} {r0 : Nat} {x1 : Int32} {x2 : Int32} {x3 : Int32} {x4 : Int32} {x5 : Int32} {x6 : Int32} {h1 : qH} {z1 : Int32}  (e2 : qCall d 118 [.int x4, .int x6] h ((some (.int z1)), h1)) (e3 : (z1 : Int32) = 0) (kk : qE d 112 49 [some (.ref r0), some (.int x1), some (.int x2), some (.int x3), some (.int x4), some (.int x5), some (.int x6)] [] h1 q): qE d 112 39 [some (.ref r0), some (.int x1), some (.int x2), some (.int x3), some (.int x4), some (.int x5), some (.int x6)] [] h q := by
  refine qe_iload c112_39 rfl ?_
  refine qe_iload c112_41 rfl ?_
  refine qe_static (as := [.int x4, .int x6]) (r := []) (v := (some (.int z1))) (h2 := h1) c112_43 qo112 (by decide) qK12_248 rfl rfl rfl (Nat.le_of_ble_eq_true rfl) e2 ?_
  refine qe_if_ne_F (t := 108) c112_46 rfl e3 ?_
  exact kk
theorem b112_39T {d : Nat} {q : Option Value × qH} {h : qH} {r0 : Nat} {x1 : Int32} {x2 : Int32} {x3 : Int32} {x4 : Int32} {x5 : Int32} {x6 : Int32} {h1 : qH} {z1 : Int32}  (e2 : qCall d 118 [.int x4, .int x6] h ((some (.int z1)), h1)) (e3 : ¬ ((z1 : Int32) = 0)) (kk : qE d 112 108 [some (.ref r0), some (.int x1), some (.int x2), some (.int x3), some (.int x4), some (.int x5), some (.int x6)] [] h1 q): qE d 112 39 [some (.ref r0), some (.int x1), some (.int x2), some (.int x3), some (.int x4), some (.int x5), some (.int x6)] [] h q := by
  refine qe_iload c112_39 rfl ?_
  refine qe_iload c112_41 rfl ?_
  refine qe_static (as := [.int x4, .int x6]) (r := []) (v := (some (.int z1))) (h2 := h1) c112_43 qo112 (by decide) qK12_248 rfl rfl rfl (Nat.le_of_ble_eq_true rfl) e2 ?_
  refine qe_if_ne_T (t := 108) c112_46 rfl e3 ?_
  exact kk
theorem b112_49F {d : Nat} {q : Option Value × qH} {h : qH} {r0 : Nat} {x1 : Int32} {x2 : Int32} {x3 : Int32} {x4 : Int32} {x5 : Int32} {x6 : Int32} {fs1 : List Value} {y3 : Nat} {n5 : Nat} {f6 : Nat → Int32}  (e2 : h.2.2 r0 = some (.inr (12, fs1))) (e4 : fs1[10]? = some (.ref y3)) (e7 : h.2.2 y3 = some (.inl (0, n5, .inl f6))) (e8 : 0 ≤ (((x1 + 42) + x6) : Int32).toInt ∧ (((x1 + 42) + x6) : Int32).toInt < (n5 : Nat)) (e9 : ((f6 (((x1 + 42) + x6) : Int32).toNatClampNeg) : Int32) = 1) (kk : qE d 112 65 [some (.ref r0), some (.int x1), some (.int x2), some (.int x3), some (.int x4), some (.int x5), some (.int x6)] [] h q): qE d 112 49 [some (.ref r0), some (.int x1), some (.int x2), some (.int x3), some (.int x4), some (.int x5), some (.int x6)] [] h q := by
  refine qe_aload_n c112_49 rfl ?_
  refine qe_getfield c112_50 qo112 qF12_14 e2 e4 ?_
  refine qe_iload_n c112_53 rfl ?_
  refine qe_bipush (x := 42) c112_54 (by decide) ?_
  refine qe_iadd c112_56 ?_
  refine qe_iload c112_57 rfl ?_
  refine qe_iadd c112_59 ?_
  refine qe_iaload c112_60 e7 e8 ?_
  refine qe_iconst (x := 1) c112_61 (by decide) ?_
  refine qe_icmp_ne_F (t := 108) c112_62 rfl e9 ?_
  exact kk
theorem b112_49T {d : Nat} {q : Option Value × qH} {h : qH} {r0 : Nat} {x1 : Int32} {x2 : Int32} {x3 : Int32} {x4 : Int32} {x5 : Int32} {x6 : Int32} {fs1 : List Value} {y3 : Nat} {n5 : Nat} {f6 : Nat → Int32}  (e2 : h.2.2 r0 = some (.inr (12, fs1))) (e4 : fs1[10]? = some (.ref y3)) (e7 : h.2.2 y3 = some (.inl (0, n5, .inl f6))) (e8 : 0 ≤ (((x1 + 42) + x6) : Int32).toInt ∧ (((x1 + 42) + x6) : Int32).toInt < (n5 : Nat)) (e9 : ¬ (((f6 (((x1 + 42) + x6) : Int32).toNatClampNeg) : Int32) = 1)) (kk : qE d 112 108 [some (.ref r0), some (.int x1), some (.int x2), some (.int x3), some (.int x4), some (.int x5), some (.int x6)] [] h q): qE d 112 49 [some (.ref r0), some (.int x1), some (.int x2), some (.int x3), some (.int x4), some (.int x5), some (.int x6)] [] h q := by
  refine qe_aload_n c112_49 rfl ?_
  refine qe_getfield c112_50 qo112 qF12_14 e2 e4 ?_
  refine qe_iload_n c112_53 rfl ?_
  refine qe_bipush (x := 42) c112_54 (by decide) ?_
  refine qe_iadd c112_56 ?_
  refine qe_iload c112_57 rfl ?_
  refine qe_iadd c112_59 ?_
  refine qe_iaload c112_60 e7 e8 ?_
  refine qe_iconst (x := 1) c112_61 (by decide) ?_
  refine qe_icmp_ne_T (t := 108) c112_62 rfl e9 ?_
  exact kk
theorem b112_65F {d : Nat} {q : Option Value × qH} {h : qH} {r0 : Nat} {x1 : Int32} {x2 : Int32} {x3 : Int32} {x4 : Int32} {x5 : Int32} {x6 : Int32} {fs1 : List Value} {y3 : Nat} {y5 : Nat} {n7 : Nat} {f8 : Nat → Int32} {n11 : Nat} {f12 : Nat → Int32}  (e2 : h.2.2 r0 = some (.inr (12, fs1))) (e4 : fs1[24]? = some (.ref y3)) (e6 : fs1[19]? = some (.ref y5)) (e9 : h.2.2 y5 = some (.inl (0, n7, .inl f8))) (e10 : 0 ≤ (x6 : Int32).toInt ∧ (x6 : Int32).toInt < (n7 : Nat)) (e13 : h.2.2 y3 = some (.inl (0, n11, .inl f12))) (e14 : 0 ≤ ((f8 (x6 : Int32).toNatClampNeg) : Int32).toInt ∧ ((f8 (x6 : Int32).toNatClampNeg) : Int32).toInt < (n11 : Nat)) (e15 : ((f12 ((f8 (x6 : Int32).toNatClampNeg) : Int32).toNatClampNeg) : Int32) = x2) (kk : qE d 112 81 [some (.ref r0), some (.int x1), some (.int x2), some (.int x3), some (.int x4), some (.int x5), some (.int x6)] [] h q): qE d 112 65 [some (.ref r0), some (.int x1), some (.int x2), some (.int x3), some (.int x4), some (.int x5), some (.int x6)] [] h q := by
  refine qe_aload_n c112_65 rfl ?_
  refine qe_getfield c112_66 qo112 qF12_58 e2 e4 ?_
  refine qe_aload_n c112_69 rfl ?_
  refine qe_getfield c112_70 qo112 qF12_42 e2 e6 ?_
  refine qe_iload c112_73 rfl ?_
  refine qe_iaload c112_75 e9 e10 ?_
  refine qe_iaload c112_76 e13 e14 ?_
  refine qe_iload_n c112_77 rfl ?_
  refine qe_icmp_ne_F (t := 108) c112_78 rfl e15 ?_
  exact kk
theorem b112_65T {d : Nat} {q : Option Value × qH} {h : qH} {r0 : Nat} {x1 : Int32} {x2 : Int32} {x3 : Int32} {x4 : Int32} {x5 : Int32} {x6 : Int32} {fs1 : List Value} {y3 : Nat} {y5 : Nat} {n7 : Nat} {f8 : Nat → Int32} {n11 : Nat} {f12 : Nat → Int32}  (e2 : h.2.2 r0 = some (.inr (12, fs1))) (e4 : fs1[24]? = some (.ref y3)) (e6 : fs1[19]? = some (.ref y5)) (e9 : h.2.2 y5 = some (.inl (0, n7, .inl f8))) (e10 : 0 ≤ (x6 : Int32).toInt ∧ (x6 : Int32).toInt < (n7 : Nat)) (e13 : h.2.2 y3 = some (.inl (0, n11, .inl f12))) (e14 : 0 ≤ ((f8 (x6 : Int32).toNatClampNeg) : Int32).toInt ∧ ((f8 (x6 : Int32).toNatClampNeg) : Int32).toInt < (n11 : Nat)) (e15 : ¬ (((f12 ((f8 (x6 : Int32).toNatClampNeg) : Int32).toNatClampNeg) : Int32) = x2)) (kk : qE d 112 108 [some (.ref r0), some (.int x1), some (.int x2), some (.int x3), some (.int x4), some (.int x5), some (.int x6)] [] h q): qE d 112 65 [some (.ref r0), some (.int x1), some (.int x2), some (.int x3), some (.int x4), some (.int x5), some (.int x6)] [] h q := by
  refine qe_aload_n c112_65 rfl ?_
  refine qe_getfield c112_66 qo112 qF12_58 e2 e4 ?_
  refine qe_aload_n c112_69 rfl ?_
  refine qe_getfield c112_70 qo112 qF12_42 e2 e6 ?_
  refine qe_iload c112_73 rfl ?_
  refine qe_iaload c112_75 e9 e10 ?_
  refine qe_iaload c112_76 e13 e14 ?_
  refine qe_iload_n c112_77 rfl ?_
  refine qe_icmp_ne_T (t := 108) c112_78 rfl e15 ?_
  exact kk
theorem b112_81F {d : Nat} {q : Option Value × qH} {h : qH} {r0 : Nat} {x1 : Int32} {x2 : Int32} {x3 : Int32} {x4 : Int32} {x5 : Int32} {x6 : Int32}  (e1 : ¬ ((x5 : Int32) = (-1))) (kk : qE d 112 87 [some (.ref r0), some (.int x1), some (.int x2), some (.int x3), some (.int x4), some (.int x5), some (.int x6)] [] h q): qE d 112 81 [some (.ref r0), some (.int x1), some (.int x2), some (.int x3), some (.int x4), some (.int x5), some (.int x6)] [] h q := by
  refine qe_iload c112_81 rfl ?_
  refine qe_iconst (x := (-1)) c112_83 (by decide) ?_
  refine qe_icmp_eq_F (t := 104) c112_84 rfl e1 ?_
  exact kk
theorem b112_81T {d : Nat} {q : Option Value × qH} {h : qH} {r0 : Nat} {x1 : Int32} {x2 : Int32} {x3 : Int32} {x4 : Int32} {x5 : Int32} {x6 : Int32}  (e1 : (x5 : Int32) = (-1)) (kk : qE d 112 104 [some (.ref r0), some (.int x1), some (.int x2), some (.int x3), some (.int x4), some (.int x5), some (.int x6)] [] h q): qE d 112 81 [some (.ref r0), some (.int x1), some (.int x2), some (.int x3), some (.int x4), some (.int x5), some (.int x6)] [] h q := by
  refine qe_iload c112_81 rfl ?_
  refine qe_iconst (x := (-1)) c112_83 (by decide) ?_
  refine qe_icmp_eq_T (t := 104) c112_84 rfl e1 ?_
  exact kk
theorem b112_87F {d : Nat} {q : Option Value × qH} {h : qH} {r0 : Nat} {x1 : Int32} {x2 : Int32} {x3 : Int32} {x4 : Int32} {x5 : Int32} {x6 : Int32} {fs1 : List Value} {y3 : Nat} {n5 : Nat} {f6 : Nat → Int32}  (e2 : h.2.2 r0 = some (.inr (12, fs1))) (e4 : fs1[21]? = some (.ref y3)) (e7 : h.2.2 y3 = some (.inl (0, n5, .inl f6))) (e8 : 0 ≤ (x6 : Int32).toInt ∧ (x6 : Int32).toInt < (n5 : Nat)) (e10 : 0 ≤ (x5 : Int32).toInt ∧ (x5 : Int32).toInt < (n5 : Nat)) (e11 : ¬ (((f6 (x5 : Int32).toNatClampNeg) : Int32) ≤ (f6 (x6 : Int32).toNatClampNeg))) (kk : qE d 112 104 [some (.ref r0), some (.int x1), some (.int x2), some (.int x3), some (.int x4), some (.int x5), some (.int x6)] [] h q): qE d 112 87 [some (.ref r0), some (.int x1), some (.int x2), some (.int x3), some (.int x4), some (.int x5), some (.int x6)] [] h q := by
  refine qe_aload_n c112_87 rfl ?_
  refine qe_getfield c112_88 qo112 qF12_48 e2 e4 ?_
  refine qe_iload c112_91 rfl ?_
  refine qe_iaload c112_93 e7 e8 ?_
  refine qe_aload_n c112_94 rfl ?_
  refine qe_getfield c112_95 qo112 qF12_48 e2 e4 ?_
  refine qe_iload c112_98 rfl ?_
  refine qe_iaload c112_100 e7 e10 ?_
  refine qe_icmp_ge_F (t := 108) c112_101 rfl e11 ?_
  exact kk
theorem b112_87T {d : Nat} {q : Option Value × qH} {h : qH} {r0 : Nat} {x1 : Int32} {x2 : Int32} {x3 : Int32} {x4 : Int32} {x5 : Int32} {x6 : Int32} {fs1 : List Value} {y3 : Nat} {n5 : Nat} {f6 : Nat → Int32}  (e2 : h.2.2 r0 = some (.inr (12, fs1))) (e4 : fs1[21]? = some (.ref y3)) (e7 : h.2.2 y3 = some (.inl (0, n5, .inl f6))) (e8 : 0 ≤ (x6 : Int32).toInt ∧ (x6 : Int32).toInt < (n5 : Nat)) (e10 : 0 ≤ (x5 : Int32).toInt ∧ (x5 : Int32).toInt < (n5 : Nat)) (e11 : ((f6 (x5 : Int32).toNatClampNeg) : Int32) ≤ (f6 (x6 : Int32).toNatClampNeg)) (kk : qE d 112 108 [some (.ref r0), some (.int x1), some (.int x2), some (.int x3), some (.int x4), some (.int x5), some (.int x6)] [] h q): qE d 112 87 [some (.ref r0), some (.int x1), some (.int x2), some (.int x3), some (.int x4), some (.int x5), some (.int x6)] [] h q := by
  refine qe_aload_n c112_87 rfl ?_
  refine qe_getfield c112_88 qo112 qF12_48 e2 e4 ?_
  refine qe_iload c112_91 rfl ?_
  refine qe_iaload c112_93 e7 e8 ?_
  refine qe_aload_n c112_94 rfl ?_
  refine qe_getfield c112_95 qo112 qF12_48 e2 e4 ?_
  refine qe_iload c112_98 rfl ?_
  refine qe_iaload c112_100 e7 e10 ?_
  refine qe_icmp_ge_T (t := 108) c112_101 rfl e11 ?_
  exact kk
theorem b112_104 {d : Nat} {q : Option Value × qH} {h : qH} {r0 : Nat} {x1 : Int32} {x2 : Int32} {x3 : Int32} {x4 : Int32} {x5 : Int32} {x6 : Int32}   (kk : qE d 112 108 [some (.ref r0), some (.int x1), some (.int x2), some (.int x3), some (.int x4), some (.int x6), some (.int x6)] [] h q): qE d 112 104 [some (.ref r0), some (.int x1), some (.int x2), some (.int x3), some (.int x4), some (.int x5), some (.int x6)] [] h q := by
  refine qe_iload c112_104 rfl ?_
  refine qe_istore (ls2 := [some (.ref r0), some (.int x1), some (.int x2), some (.int x3), some (.int x4), some (.int x6), some (.int x6)]) c112_106 (Nat.le_of_ble_eq_true rfl) rfl ?_
  exact kk
theorem b112_108 {d : Nat} {q : Option Value × qH} {h : qH} {r0 : Nat} {x1 : Int32} {x2 : Int32} {x3 : Int32} {x4 : Int32} {x5 : Int32} {x6 : Int32}   (kk : qE d 112 30 [some (.ref r0), some (.int x1), some (.int x2), some (.int x3), some (.int x4), some (.int x5), some (.int (x6 + 1))] [] h q): qE d 112 108 [some (.ref r0), some (.int x1), some (.int x2), some (.int x3), some (.int x4), some (.int x5), some (.int x6)] [] h q := by
  refine qe_iinc (y := (x6 + 1)) (ls2 := [some (.ref r0), some (.int x1), some (.int x2), some (.int x3), some (.int x4), some (.int x5), some (.int (x6 + 1))]) c112_108 rfl (Nat.le_of_ble_eq_true rfl) rfl rfl ?_
  refine qe_goto (t := 30) c112_111 rfl ?_
  exact kk
theorem b112_114F {d : Nat} {q : Option Value × qH} {h : qH} {r0 : Nat} {x1 : Int32} {x2 : Int32} {x3 : Int32} {x4 : Int32} {x5 : Int32} {x6 : Int32}  (e1 : (x5 : Int32) = (-1)) (kk : qE d 112 120 [some (.ref r0), some (.int x1), some (.int x2), some (.int x3), some (.int x4), some (.int x5), some (.int x6)] [] h q): qE d 112 114 [some (.ref r0), some (.int x1), some (.int x2), some (.int x3), some (.int x4), some (.int x5), some (.int x6)] [] h q := by
  refine qe_iload c112_114 rfl ?_
  refine qe_iconst (x := (-1)) c112_116 (by decide) ?_
  refine qe_icmp_ne_F (t := 121) c112_117 rfl e1 ?_
  exact kk
theorem b112_114T {d : Nat} {q : Option Value × qH} {h : qH} {r0 : Nat} {x1 : Int32} {x2 : Int32} {x3 : Int32} {x4 : Int32} {x5 : Int32} {x6 : Int32}  (e1 : ¬ ((x5 : Int32) = (-1))) (kk : qE d 112 121 [some (.ref r0), some (.int x1), some (.int x2), some (.int x3), some (.int x4), some (.int x5), some (.int x6)] [] h q): qE d 112 114 [some (.ref r0), some (.int x1), some (.int x2), some (.int x3), some (.int x4), some (.int x5), some (.int x6)] [] h q := by
  refine qe_iload c112_114 rfl ?_
  refine qe_iconst (x := (-1)) c112_116 (by decide) ?_
  refine qe_icmp_ne_T (t := 121) c112_117 rfl e1 ?_
  exact kk
theorem b112_120 {d : Nat} {h : qH} {r0 : Nat} {x1 : Int32} {x2 : Int32} {x3 : Int32} {x4 : Int32} {x5 : Int32} {x6 : Int32}   : qE d 112 120 [some (.ref r0), some (.int x1), some (.int x2), some (.int x3), some (.int x4), some (.int x5), some (.int x6)] [] h (none, h) := by
  exact qe_vret c112_120 qr112
theorem b112_121F {d : Nat} {q : Option Value × qH} {h : qH} {r0 : Nat} {x1 : Int32} {x2 : Int32} {x3 : Int32} {x4 : Int32} {x5 : Int32} {x6 : Int32} {fs1 : List Value} {y3 : Nat} {y5 : Nat} {n7 : Nat} {f8 : Nat → Int32}  (e2 : h.2.2 r0 = some (.inr (12, fs1))) (e4 : fs1[25]? = some (.ref y3)) (e6 : fs1[20]? = some (.ref y5)) (e9 : h.2.2 y5 = some (.inl (0, n7, .inl f8))) (e10 : 0 ≤ (x5 : Int32).toInt ∧ (x5 : Int32).toInt < (n7 : Nat)) (e11 : ¬ ((x3 : Int32) ≤ (f8 (x5 : Int32).toNatClampNeg))) (kk : qE d 112 147 [some (.ref r0), some (.int x1), some (.int x2), some (.int x3), some (.int (x4 ||| (1 <<< (x5 &&& 31)))), some (.int x5), some (.int x6)] [.int x5, .ref y3] h q): qE d 112 121 [some (.ref r0), some (.int x1), some (.int x2), some (.int x3), some (.int x4), some (.int x5), some (.int x6)] [] h q := by
  refine qe_iload c112_121 rfl ?_
  refine qe_iconst (x := 1) c112_123 (by decide) ?_
  refine qe_iload c112_124 rfl ?_
  refine qe_ishl c112_126 ?_
  refine qe_ior c112_127 ?_
  refine qe_istore (ls2 := [some (.ref r0), some (.int x1), some (.int x2), some (.int x3), some (.int (x4 ||| (1 <<< (x5 &&& 31)))), some (.int x5), some (.int x6)]) c112_128 (Nat.le_of_ble_eq_true rfl) rfl ?_
  refine qe_aload_n c112_130 rfl ?_
  refine qe_getfield c112_131 qo112 qF12_61 e2 e4 ?_
  refine qe_iload c112_134 rfl ?_
  refine qe_aload_n c112_136 rfl ?_
  refine qe_getfield c112_137 qo112 qF12_45 e2 e6 ?_
  refine qe_iload c112_140 rfl ?_
  refine qe_iaload c112_142 e9 e10 ?_
  refine qe_iload_n c112_143 rfl ?_
  refine qe_icmp_ge_F (t := 157) c112_144 rfl e11 ?_
  exact kk
theorem b112_121T {d : Nat} {q : Option Value × qH} {h : qH} {r0 : Nat} {x1 : Int32} {x2 : Int32} {x3 : Int32} {x4 : Int32} {x5 : Int32} {x6 : Int32} {fs1 : List Value} {y3 : Nat} {y5 : Nat} {n7 : Nat} {f8 : Nat → Int32}  (e2 : h.2.2 r0 = some (.inr (12, fs1))) (e4 : fs1[25]? = some (.ref y3)) (e6 : fs1[20]? = some (.ref y5)) (e9 : h.2.2 y5 = some (.inl (0, n7, .inl f8))) (e10 : 0 ≤ (x5 : Int32).toInt ∧ (x5 : Int32).toInt < (n7 : Nat)) (e11 : (x3 : Int32) ≤ (f8 (x5 : Int32).toNatClampNeg)) (kk : qE d 112 157 [some (.ref r0), some (.int x1), some (.int x2), some (.int x3), some (.int (x4 ||| (1 <<< (x5 &&& 31)))), some (.int x5), some (.int x6)] [.int x5, .ref y3] h q): qE d 112 121 [some (.ref r0), some (.int x1), some (.int x2), some (.int x3), some (.int x4), some (.int x5), some (.int x6)] [] h q := by
  refine qe_iload c112_121 rfl ?_
  refine qe_iconst (x := 1) c112_123 (by decide) ?_
  refine qe_iload c112_124 rfl ?_
  refine qe_ishl c112_126 ?_
  refine qe_ior c112_127 ?_
  refine qe_istore (ls2 := [some (.ref r0), some (.int x1), some (.int x2), some (.int x3), some (.int (x4 ||| (1 <<< (x5 &&& 31)))), some (.int x5), some (.int x6)]) c112_128 (Nat.le_of_ble_eq_true rfl) rfl ?_
  refine qe_aload_n c112_130 rfl ?_
  refine qe_getfield c112_131 qo112 qF12_61 e2 e4 ?_
  refine qe_iload c112_134 rfl ?_
  refine qe_aload_n c112_136 rfl ?_
  refine qe_getfield c112_137 qo112 qF12_45 e2 e6 ?_
  refine qe_iload c112_140 rfl ?_
  refine qe_iaload c112_142 e9 e10 ?_
  refine qe_iload_n c112_143 rfl ?_
  refine qe_icmp_ge_T (t := 157) c112_144 rfl e11 ?_
  exact kk
theorem b112_147 {d : Nat} {q : Option Value × qH} {h : qH} {r0 : Nat} {x1 : Int32} {x2 : Int32} {x3 : Int32} {x4 : Int32} {x5 : Int32} {x6 : Int32} {rs0 : Nat} {xs1 : Int32} {fs1 : List Value} {y3 : Nat} {n5 : Nat} {f6 : Nat → Int32}  (e2 : h.2.2 r0 = some (.inr (12, fs1))) (e4 : fs1[20]? = some (.ref y3)) (e7 : h.2.2 y3 = some (.inl (0, n5, .inl f6))) (e8 : 0 ≤ (x5 : Int32).toInt ∧ (x5 : Int32).toInt < (n5 : Nat)) (kk : qE d 112 158 [some (.ref r0), some (.int x1), some (.int x2), some (.int x3), some (.int x4), some (.int x5), some (.int x6)] [.int (f6 (x5 : Int32).toNatClampNeg), .int xs1, .ref rs0] h q): qE d 112 147 [some (.ref r0), some (.int x1), some (.int x2), some (.int x3), some (.int x4), some (.int x5), some (.int x6)] [.int xs1, .ref rs0] h q := by
  refine qe_aload_n c112_147 rfl ?_
  refine qe_getfield c112_148 qo112 qF12_45 e2 e4 ?_
  refine qe_iload c112_151 rfl ?_
  refine qe_iaload c112_153 e7 e8 ?_
  refine qe_goto (t := 158) c112_154 rfl ?_
  exact kk
theorem b112_157 {d : Nat} {q : Option Value × qH} {h : qH} {r0 : Nat} {x1 : Int32} {x2 : Int32} {x3 : Int32} {x4 : Int32} {x5 : Int32} {x6 : Int32} {rs0 : Nat} {xs1 : Int32}   (kk : qE d 112 158 [some (.ref r0), some (.int x1), some (.int x2), some (.int x3), some (.int x4), some (.int x5), some (.int x6)] [.int x3, .int xs1, .ref rs0] h q): qE d 112 157 [some (.ref r0), some (.int x1), some (.int x2), some (.int x3), some (.int x4), some (.int x5), some (.int x6)] [.int xs1, .ref rs0] h q := by
  refine qe_iload_n c112_157 rfl ?_
  exact kk
theorem b112_158 {d : Nat} {q : Option Value × qH} {h : qH} {r0 : Nat} {x1 : Int32} {x2 : Int32} {x3 : Int32} {x4 : Int32} {x5 : Int32} {x6 : Int32} {rs0 : Nat} {xs1 : Int32} {xs2 : Int32} {n1 : Nat} {f2 : Nat → Int32} {h1 : qH} {fs6 : List Value} {y8 : Nat} {n10 : Nat} {f11 : Nat → Int32}  (e3 : h.2.2 rs0 = some (.inl (0, n1, .inl f2))) (e4 : 0 ≤ (xs1 : Int32).toInt ∧ (xs1 : Int32).toInt < (n1 : Nat)) (e5 : qset h rs0 (.inl (0, n1, .inl (upd f2 ((xs1 : Int32).toNatClampNeg) xs2))) = h1) (e7 : h1.2.2 r0 = some (.inr (12, fs6))) (e9 : fs6[25]? = some (.ref y8)) (e12 : h1.2.2 y8 = some (.inl (0, n10, .inl f11))) (e13 : 0 ≤ (x5 : Int32).toInt ∧ (x5 : Int32).toInt < (n10 : Nat)) (kk : qE d 112 24 [some (.ref r0), some (.int x1), some (.int x2), some (.int (x3 - (f11 (x5 : Int32).toNatClampNeg))), some (.int x4), some (.int x5), some (.int x6)] [] h1 q): qE d 112 158 [some (.ref r0), some (.int x1), some (.int x2), some (.int x3), some (.int x4), some (.int x5), some (.int x6)] [.int xs2, .int xs1, .ref rs0] h q := by
  refine qe_iastore c112_158 e3 e4 ?_
  rw [e5]
  refine qe_iload_n c112_159 rfl ?_
  refine qe_aload_n c112_160 rfl ?_
  refine qe_getfield c112_161 qo112 qF12_61 e7 e9 ?_
  refine qe_iload c112_164 rfl ?_
  refine qe_iaload c112_166 e12 e13 ?_
  refine qe_isub c112_167 ?_
  refine qe_istore_n (ls2 := [some (.ref r0), some (.int x1), some (.int x2), some (.int (x3 - (f11 (x5 : Int32).toNatClampNeg))), some (.int x4), some (.int x5), some (.int x6)]) c112_168 (Nat.le_of_ble_eq_true rfl) rfl ?_
  refine qe_goto (t := 24) c112_169 rfl ?_
  exact kk
theorem b113_0F {d : Nat} {q : Option Value × qH} {h : qH} {r0 : Nat} {fs1 : List Value} {y3 : Int32}  (e2 : h.2.2 r0 = some (.inr (12, fs1))) (e4 : fs1[2]? = some (.int y3)) (e5 : (y3 : Int32) = 499) (kk : qE d 113 10 [some (.ref r0), none] [] h q): qE d 113 0 [some (.ref r0), none] [] h q := by
  refine qe_aload_n c113_0 rfl ?_
  refine qe_getfield c113_1 qo113 qF12_202 e2 e4 ?_
  refine qe_sipush (x := 499) c113_4 (by decide) ?_
  refine qe_icmp_ne_F (t := 12) c113_7 rfl e5 ?_
  exact kk
theorem b113_0T {d : Nat} {q : Option Value × qH} {h : qH} {r0 : Nat} {fs1 : List Value} {y3 : Int32}  (e2 : h.2.2 r0 = some (.inr (12, fs1))) (e4 : fs1[2]? = some (.int y3)) (e5 : ¬ ((y3 : Int32) = 499)) (kk : qE d 113 12 [some (.ref r0), none] [] h q): qE d 113 0 [some (.ref r0), none] [] h q := by
  refine qe_aload_n c113_0 rfl ?_
  refine qe_getfield c113_1 qo113 qF12_202 e2 e4 ?_
  refine qe_sipush (x := 499) c113_4 (by decide) ?_
  refine qe_icmp_ne_T (t := 12) c113_7 rfl e5 ?_
  exact kk
theorem b113_10 {d : Nat} {h : qH} {r0 : Nat}   : qE d 113 10 [some (.ref r0), none] [] h (some (.int (-1)), h) := by
  refine qe_iconst (x := (-1)) c113_10 (by decide) ?_
  exact qe_iret c113_11 qr113
theorem b113_12 {d : Nat} {q : Option Value × qH} {h : qH} {r0 : Nat} {fs1 : List Value} {y3 : Nat} {y5 : Int32} {h1 : qH} {z7 : Int32} {n9 : Nat} {f10 : Nat → Int32} {h2 : qH} {fs14 : List Value} {y16 : Int32} {h3 : qH}  (e2 : h.2.2 r0 = some (.inr (12, fs1))) (e4 : fs1[62]? = some (.ref y3)) (e6 : fs1[2]? = some (.int y5)) (e8 : qCall d 89 [.ref r0] h ((some (.int z7)), h1)) (e11 : h1.2.2 y3 = some (.inl (0, n9, .inl f10))) (e12 : 0 ≤ (y5 : Int32).toInt ∧ (y5 : Int32).toInt < (n9 : Nat)) (e13 : qset h1 y3 (.inl (0, n9, .inl (upd f10 ((y5 : Int32).toNatClampNeg) z7))) = h2) (e15 : h2.2.2 r0 = some (.inr (12, fs14))) (e17 : fs14[2]? = some (.int y16)) (e18 : qCall d 96 [.ref r0, .int 36000, .int (72 * y16)] h2 (none, h3)) (kk : qE d 113 40 [some (.ref r0), some (.int 0)] [] h3 q): qE d 113 12 [some (.ref r0), none] [] h q := by
  refine qe_aload_n c113_12 rfl ?_
  refine qe_getfield c113_13 qo113 qF12_131 e2 e4 ?_
  refine qe_aload_n c113_16 rfl ?_
  refine qe_getfield c113_17 qo113 qF12_202 e2 e6 ?_
  refine qe_aload_n c113_20 rfl ?_
  refine qe_virtual (b := r0) (as := []) (r := [.int y5, .ref y3]) (v := (some (.int z7))) (h2 := h1) c113_21 qo113 qK12_455 rfl rfl rfl (by rw [qo89]; exact e2) (Nat.le_of_ble_eq_true rfl) e8 ?_
  refine qe_iastore c113_24 e11 e12 ?_
  rw [e13]
  refine qe_aload_n c113_25 rfl ?_
  refine qe_ldc (x := 36000) c113_26 qo113 qI12_230 ?_
  refine qe_bipush (x := 72) c113_28 (by decide) ?_
  refine qe_aload_n c113_30 rfl ?_
  refine qe_getfield c113_31 qo113 qF12_202 e15 e17 ?_
  refine qe_imul c113_34 ?_
  refine qe_virtual (b := r0) (as := [.int 36000, .int (72 * y16)]) (r := []) (v := none) (h2 := h3) c113_35 qo113 qK12_444 rfl rfl rfl (by rw [qo96]; exact e15) (Nat.le_of_ble_eq_true rfl) e18 ?_
  refine qe_iconst (x := 0) c113_38 (by decide) ?_
  refine qe_istore_n (ls2 := [some (.ref r0), some (.int 0)]) c113_39 (Nat.le_of_ble_eq_true rfl) rfl ?_
  exact kk
theorem b113_40F {d : Nat} {q : Option Value × qH} {h : qH} {r0 : Nat} {x1 : Int32} {fs1 : List Value} {y3 : Int32}  (e2 : h.2.2 r0 = some (.inr (12, fs1))) (e4 : fs1[4]? = some (.int y3)) (e5 : ¬ ((y3 : Int32) ≤ x1)) (kk : qE d 113 48 [some (.ref r0), some (.int x1)] [] h q): qE d 113 40 [some (.ref r0), some (.int x1)] [] h q := by
  refine qe_iload_n c113_40 rfl ?_
  refine qe_aload_n c113_41 rfl ?_
  refine qe_getfield c113_42 qo113 qF12_194 e2 e4 ?_
  refine qe_icmp_ge_F (t := 85) c113_45 rfl e5 ?_
  exact kk
theorem b113_40T {d : Nat} {q : Option Value × qH} {h : qH} {r0 : Nat} {x1 : Int32} {fs1 : List Value} {y3 : Int32}  (e2 : h.2.2 r0 = some (.inr (12, fs1))) (e4 : fs1[4]? = some (.int y3)) (e5 : (y3 : Int32) ≤ x1) (kk : qE d 113 85 [some (.ref r0), some (.int x1)] [] h q): qE d 113 40 [some (.ref r0), some (.int x1)] [] h q := by
  refine qe_iload_n c113_40 rfl ?_
  refine qe_aload_n c113_41 rfl ?_
  refine qe_getfield c113_42 qo113 qF12_194 e2 e4 ?_
  refine qe_icmp_ge_T (t := 85) c113_45 rfl e5 ?_
  exact kk
theorem b113_48F {d : Nat} {q : Option Value × qH} {h : qH} {r0 : Nat} {x1 : Int32} {fs1 : List Value} {y3 : Nat} {y5 : Int32} {y7 : Nat} {n9 : Nat} {f10 : Nat → Int32}  (e2 : h.2.2 r0 = some (.inr (12, fs1))) (e4 : fs1[64]? = some (.ref y3)) (e6 : fs1[2]? = some (.int y5)) (e8 : fs1[10]? = some (.ref y7)) (e11 : h.2.2 y7 = some (.inl (0, n9, .inl f10))) (e12 : 0 ≤ ((36000 + x1) : Int32).toInt ∧ ((36000 + x1) : Int32).toInt < (n9 : Nat)) (e13 : ((f10 ((36000 + x1) : Int32).toNatClampNeg) : Int32) = 0) (kk : qE d 113 73 [some (.ref r0), some (.int x1)] [.int ((14 * y5) + x1), .ref y3] h q): qE d 113 48 [some (.ref r0), some (.int x1)] [] h q := by
  refine qe_aload_n c113_48 rfl ?_
  refine qe_getfield c113_49 qo113 qF12_137 e2 e4 ?_
  refine qe_bipush (x := 14) c113_52 (by decide) ?_
  refine qe_aload_n c113_54 rfl ?_
  refine qe_getfield c113_55 qo113 qF12_202 e2 e6 ?_
  refine qe_imul c113_58 ?_
  refine qe_iload_n c113_59 rfl ?_
  refine qe_iadd c113_60 ?_
  refine qe_aload_n c113_61 rfl ?_
  refine qe_getfield c113_62 qo113 qF12_14 e2 e8 ?_
  refine qe_ldc (x := 36000) c113_65 qo113 qI12_230 ?_
  refine qe_iload_n c113_67 rfl ?_
  refine qe_iadd c113_68 ?_
  refine qe_iaload c113_69 e11 e12 ?_
  refine qe_if_ne_F (t := 77) c113_70 rfl e13 ?_
  exact kk
theorem b113_48T {d : Nat} {q : Option Value × qH} {h : qH} {r0 : Nat} {x1 : Int32} {fs1 : List Value} {y3 : Nat} {y5 : Int32} {y7 : Nat} {n9 : Nat} {f10 : Nat → Int32}  (e2 : h.2.2 r0 = some (.inr (12, fs1))) (e4 : fs1[64]? = some (.ref y3)) (e6 : fs1[2]? = some (.int y5)) (e8 : fs1[10]? = some (.ref y7)) (e11 : h.2.2 y7 = some (.inl (0, n9, .inl f10))) (e12 : 0 ≤ ((36000 + x1) : Int32).toInt ∧ ((36000 + x1) : Int32).toInt < (n9 : Nat)) (e13 : ¬ (((f10 ((36000 + x1) : Int32).toNatClampNeg) : Int32) = 0)) (kk : qE d 113 77 [some (.ref r0), some (.int x1)] [.int ((14 * y5) + x1), .ref y3] h q): qE d 113 48 [some (.ref r0), some (.int x1)] [] h q := by
  refine qe_aload_n c113_48 rfl ?_
  refine qe_getfield c113_49 qo113 qF12_137 e2 e4 ?_
  refine qe_bipush (x := 14) c113_52 (by decide) ?_
  refine qe_aload_n c113_54 rfl ?_
  refine qe_getfield c113_55 qo113 qF12_202 e2 e6 ?_
  refine qe_imul c113_58 ?_
  refine qe_iload_n c113_59 rfl ?_
  refine qe_iadd c113_60 ?_
  refine qe_aload_n c113_61 rfl ?_
  refine qe_getfield c113_62 qo113 qF12_14 e2 e8 ?_
  refine qe_ldc (x := 36000) c113_65 qo113 qI12_230 ?_
  refine qe_iload_n c113_67 rfl ?_
  refine qe_iadd c113_68 ?_
  refine qe_iaload c113_69 e11 e12 ?_
  refine qe_if_ne_T (t := 77) c113_70 rfl e13 ?_
  exact kk
theorem b113_73 {d : Nat} {q : Option Value × qH} {h : qH} {r0 : Nat} {x1 : Int32} {rs0 : Nat} {xs1 : Int32}   (kk : qE d 113 78 [some (.ref r0), some (.int x1)] [.int 1, .int xs1, .ref rs0] h q): qE d 113 73 [some (.ref r0), some (.int x1)] [.int xs1, .ref rs0] h q := by
  refine qe_iconst (x := 1) c113_73 (by decide) ?_
  refine qe_goto (t := 78) c113_74 rfl ?_
  exact kk
theorem b113_77 {d : Nat} {q : Option Value × qH} {h : qH} {r0 : Nat} {x1 : Int32} {rs0 : Nat} {xs1 : Int32}   (kk : qE d 113 78 [some (.ref r0), some (.int x1)] [.int 0, .int xs1, .ref rs0] h q): qE d 113 77 [some (.ref r0), some (.int x1)] [.int xs1, .ref rs0] h q := by
  refine qe_iconst (x := 0) c113_77 (by decide) ?_
  exact kk
theorem b113_78 {d : Nat} {q : Option Value × qH} {h : qH} {r0 : Nat} {x1 : Int32} {rs0 : Nat} {xs1 : Int32} {xs2 : Int32} {n1 : Nat} {f2 : Nat → Int32} {h1 : qH}  (e3 : h.2.2 rs0 = some (.inl (1, n1, .inl f2))) (e4 : 0 ≤ (xs1 : Int32).toInt ∧ (xs1 : Int32).toInt < (n1 : Nat)) (e5 : (xs2 : Int32) = 0 ∨ (xs2 : Int32) = 1) (e6 : qset h rs0 (.inl (1, n1, .inl (upd f2 ((xs1 : Int32).toNatClampNeg) xs2))) = h1) (kk : qE d 113 40 [some (.ref r0), some (.int (x1 + 1))] [] h1 q): qE d 113 78 [some (.ref r0), some (.int x1)] [.int xs2, .int xs1, .ref rs0] h q := by
  refine qe_zastore c113_78 e3 e4 e5 ?_
  rw [e6]
  refine qe_iinc (y := (x1 + 1)) (ls2 := [some (.ref r0), some (.int (x1 + 1))]) c113_79 rfl (Nat.le_of_ble_eq_true rfl) rfl rfl ?_
  refine qe_goto (t := 40) c113_82 rfl ?_
  exact kk
theorem b113_85 {d : Nat} {q : Option Value × qH} {h : qH} {r0 : Nat} {x1 : Int32} {fs1 : List Value} {h1 : qH}  (e2 : h.2.2 r0 = some (.inr (12, fs1))) (e3 : qCall d 175 [.ref r0, .int 36000] h (none, h1)) (kk : qE d 113 93 [some (.ref r0), some (.int 0)] [] h1 q): qE d 113 85 [some (.ref r0), some (.int x1)] [] h q := by
  refine qe_aload_n c113_85 rfl ?_
  refine qe_ldc (x := 36000) c113_86 qo113 qI12_230 ?_
  refine qe_virtual (b := r0) (as := [.int 36000]) (r := []) (v := none) (h2 := h1) c113_88 qo113 qK12_458 rfl rfl rfl (by rw [qo175]; exact e2) (Nat.le_of_ble_eq_true rfl) e3 ?_
  refine qe_iconst (x := 0) c113_91 (by decide) ?_
  refine qe_istore_n (ls2 := [some (.ref r0), some (.int 0)]) c113_92 (Nat.le_of_ble_eq_true rfl) rfl ?_
  exact kk
theorem b113_93F {d : Nat} {q : Option Value × qH} {h : qH} {r0 : Nat} {x1 : Int32} {fs1 : List Value} {y3 : Int32}  (e2 : h.2.2 r0 = some (.inr (12, fs1))) (e4 : fs1[4]? = some (.int y3)) (e5 : ¬ ((y3 : Int32) ≤ x1)) (kk : qE d 113 101 [some (.ref r0), some (.int x1)] [] h q): qE d 113 93 [some (.ref r0), some (.int x1)] [] h q := by
  refine qe_iload_n c113_93 rfl ?_
  refine qe_aload_n c113_94 rfl ?_
  refine qe_getfield c113_95 qo113 qF12_194 e2 e4 ?_
  refine qe_icmp_ge_F (t := 127) c113_98 rfl e5 ?_
  exact kk
theorem b113_93T {d : Nat} {q : Option Value × qH} {h : qH} {r0 : Nat} {x1 : Int32} {fs1 : List Value} {y3 : Int32}  (e2 : h.2.2 r0 = some (.inr (12, fs1))) (e4 : fs1[4]? = some (.int y3)) (e5 : (y3 : Int32) ≤ x1) (kk : qE d 113 127 [some (.ref r0), some (.int x1)] [] h q): qE d 113 93 [some (.ref r0), some (.int x1)] [] h q := by
  refine qe_iload_n c113_93 rfl ?_
  refine qe_aload_n c113_94 rfl ?_
  refine qe_getfield c113_95 qo113 qF12_194 e2 e4 ?_
  refine qe_icmp_ge_T (t := 127) c113_98 rfl e5 ?_
  exact kk
theorem b113_101 {d : Nat} {q : Option Value × qH} {h : qH} {r0 : Nat} {x1 : Int32} {fs1 : List Value} {y3 : Nat} {y5 : Int32} {h1 : qH} {z7 : Int64} {n9 : Nat} {f10 : Nat → Int32} {h2 : qH}  (e2 : h.2.2 r0 = some (.inr (12, fs1))) (e4 : fs1[63]? = some (.ref y3)) (e6 : fs1[2]? = some (.int y5)) (e8 : qCall d 178 [.ref r0, .int x1] h ((some (.long z7)), h1)) (e11 : h1.2.2 y3 = some (.inl (0, n9, .inl f10))) (e12 : 0 ≤ (((14 * y5) + x1) : Int32).toInt ∧ (((14 * y5) + x1) : Int32).toInt < (n9 : Nat)) (e13 : qset h1 y3 (.inl (0, n9, .inl (upd f10 ((((14 * y5) + x1) : Int32).toNatClampNeg) ((z7 : Int64).toInt32)))) = h2) (kk : qE d 113 93 [some (.ref r0), some (.int (x1 + 1))] [] h2 q): qE d 113 101 [some (.ref r0), some (.int x1)] [] h q := by
  refine qe_aload_n c113_101 rfl ?_
  refine qe_getfield c113_102 qo113 qF12_134 e2 e4 ?_
  refine qe_bipush (x := 14) c113_105 (by decide) ?_
  refine qe_aload_n c113_107 rfl ?_
  refine qe_getfield c113_108 qo113 qF12_202 e2 e6 ?_
  refine qe_imul c113_111 ?_
  refine qe_iload_n c113_112 rfl ?_
  refine qe_iadd c113_113 ?_
  refine qe_aload_n c113_114 rfl ?_
  refine qe_iload_n c113_115 rfl ?_
  refine qe_virtual (b := r0) (as := [.int x1]) (r := [.int ((14 * y5) + x1), .ref y3]) (v := (some (.long z7))) (h2 := h1) c113_116 qo113 qK12_408 rfl rfl rfl (by rw [qo178]; exact e2) (Nat.le_of_ble_eq_true rfl) e8 ?_
  refine qe_l2i c113_119 ?_
  refine qe_iastore c113_120 e11 e12 ?_
  rw [e13]
  refine qe_iinc (y := (x1 + 1)) (ls2 := [some (.ref r0), some (.int (x1 + 1))]) c113_121 rfl (Nat.le_of_ble_eq_true rfl) rfl rfl ?_
  refine qe_goto (t := 93) c113_124 rfl ?_
  exact kk
theorem b113_127 {d : Nat} {q : Option Value × qH} {h : qH} {r0 : Nat} {x1 : Int32}   (kk : qE d 113 129 [some (.ref r0), some (.int 0)] [] h q): qE d 113 127 [some (.ref r0), some (.int x1)] [] h q := by
  refine qe_iconst (x := 0) c113_127 (by decide) ?_
  refine qe_istore_n (ls2 := [some (.ref r0), some (.int 0)]) c113_128 (Nat.le_of_ble_eq_true rfl) rfl ?_
  exact kk
theorem b113_129F {d : Nat} {q : Option Value × qH} {h : qH} {r0 : Nat} {x1 : Int32} {fs1 : List Value} {y3 : Int32}  (e2 : h.2.2 r0 = some (.inr (12, fs1))) (e4 : fs1[59]? = some (.int y3)) (e5 : ¬ ((y3 : Int32) ≤ x1)) (kk : qE d 113 137 [some (.ref r0), some (.int x1)] [] h q): qE d 113 129 [some (.ref r0), some (.int x1)] [] h q := by
  refine qe_iload_n c113_129 rfl ?_
  refine qe_aload_n c113_130 rfl ?_
  refine qe_getfield c113_131 qo113 qF12_424 e2 e4 ?_
  refine qe_icmp_ge_F (t := 206) c113_134 rfl e5 ?_
  exact kk
theorem b113_129T {d : Nat} {q : Option Value × qH} {h : qH} {r0 : Nat} {x1 : Int32} {fs1 : List Value} {y3 : Int32}  (e2 : h.2.2 r0 = some (.inr (12, fs1))) (e4 : fs1[59]? = some (.int y3)) (e5 : (y3 : Int32) ≤ x1) (kk : qE d 113 206 [some (.ref r0), some (.int x1)] [] h q): qE d 113 129 [some (.ref r0), some (.int x1)] [] h q := by
  refine qe_iload_n c113_129 rfl ?_
  refine qe_aload_n c113_130 rfl ?_
  refine qe_getfield c113_131 qo113 qF12_424 e2 e4 ?_
  refine qe_icmp_ge_T (t := 206) c113_134 rfl e5 ?_
  exact kk
theorem b113_137F {d : Nat} {q : Option Value × qH} {h : qH} {r0 : Nat} {x1 : Int32} {fs1 : List Value} {y3 : Int32}  (e2 : h.2.2 r0 = some (.inr (12, fs1))) (e4 : fs1[7]? = some (.int y3)) (e5 : ¬ ((400 : Int32) ≤ y3)) (kk : qE d 113 147 [some (.ref r0), some (.int x1)] [] h q): qE d 113 137 [some (.ref r0), some (.int x1)] [] h q := by
  refine qe_aload_n c113_137 rfl ?_
  refine qe_getfield c113_138 qo113 qF12_461 e2 e4 ?_
  refine qe_sipush (x := 400) c113_141 (by decide) ?_
  refine qe_icmp_ge_F (t := 206) c113_144 rfl e5 ?_
  exact kk
theorem b113_137T {d : Nat} {q : Option Value × qH} {h : qH} {r0 : Nat} {x1 : Int32} {fs1 : List Value} {y3 : Int32}  (e2 : h.2.2 r0 = some (.inr (12, fs1))) (e4 : fs1[7]? = some (.int y3)) (e5 : (400 : Int32) ≤ y3) (kk : qE d 113 206 [some (.ref r0), some (.int x1)] [] h q): qE d 113 137 [some (.ref r0), some (.int x1)] [] h q := by
  refine qe_aload_n c113_137 rfl ?_
  refine qe_getfield c113_138 qo113 qF12_461 e2 e4 ?_
  refine qe_sipush (x := 400) c113_141 (by decide) ?_
  refine qe_icmp_ge_T (t := 206) c113_144 rfl e5 ?_
  exact kk
theorem b113_147 {d : Nat} {q : Option Value × qH} {h : qH} {r0 : Nat} {x1 : Int32} {fs1 : List Value} {y3 : Nat} {y5 : Int32} {y7 : Nat} {n9 : Nat} {f10 : Nat → Int32} {n13 : Nat} {f14 : Nat → Int32} {h1 : qH} {fs18 : List Value} {y20 : Nat} {y22 : Int32} {y24 : Nat} {n26 : Nat} {f27 : Nat → Int32} {n30 : Nat} {f31 : Nat → Int32} {h2 : qH} {fs35 : List Value} {y37 : Nat} {y39 : Int32} {y41 : Int32} {n43 : Nat} {f44 : Nat → Int32} {h3 : qH} {fs48 : List Value} {y50 : Int32} {h4 : qH}  (e2 : h.2.2 r0 = some (.inr (12, fs1))) (e4 : fs1[65]? = some (.ref y3)) (e6 : fs1[7]? = some (.int y5)) (e8 : fs1[60]? = some (.ref y7)) (e11 : h.2.2 y7 = some (.inl (0, n9, .inl f10))) (e12 : 0 ≤ (x1 : Int32).toInt ∧ (x1 : Int32).toInt < (n9 : Nat)) (e15 : h.2.2 y3 = some (.inl (0, n13, .inl f14))) (e16 : 0 ≤ (y5 : Int32).toInt ∧ (y5 : Int32).toInt < (n13 : Nat)) (e17 : qset h y3 (.inl (0, n13, .inl (upd f14 ((y5 : Int32).toNatClampNeg) ((f10 (x1 : Int32).toNatClampNeg))))) = h1) (e19 : h1.2.2 r0 = some (.inr (12, fs18))) (e21 : fs18[66]? = some (.ref y20)) (e23 : fs18[7]? = some (.int y22)) (e25 : fs18[61]? = some (.ref y24)) (e28 : h1.2.2 y24 = some (.inl (0, n26, .inl f27))) (e29 : 0 ≤ (x1 : Int32).toInt ∧ (x1 : Int32).toInt < (n26 : Nat)) (e32 : h1.2.2 y20 = some (.inl (0, n30, .inl f31))) (e33 : 0 ≤ (y22 : Int32).toInt ∧ (y22 : Int32).toInt < (n30 : Nat)) (e34 : qset h1 y20 (.inl (0, n30, .inl (upd f31 ((y22 : Int32).toNatClampNeg) ((f27 (x1 : Int32).toNatClampNeg))))) = h2) (e36 : h2.2.2 r0 = some (.inr (12, fs35))) (e38 : fs35[67]? = some (.ref y37)) (e40 : fs35[7]? = some (.int y39)) (e42 : fs35[2]? = some (.int y41)) (e45 : h2.2.2 y37 = some (.inl (0, n43, .inl f44))) (e46 : 0 ≤ (y39 : Int32).toInt ∧ (y39 : Int32).toInt < (n43 : Nat)) (e47 : qset h2 y37 (.inl (0, n43, .inl (upd f44 ((y39 : Int32).toNatClampNeg) y41))) = h3) (e49 : h3.2.2 r0 = some (.inr (12, fs48))) (e51 : fs48[7]? = some (.int y50)) (e52 : 7 < fs48.length) (e53 : qset h3 r0 (.inr (12, fs48.set 7 (.int (y50 + 1)))) = h4) (kk : qE d 113 129 [some (.ref r0), some (.int (x1 + 1))] [] h4 q): qE d 113 147 [some (.ref r0), some (.int x1)] [] h q := by
  refine qe_aload_n c113_147 rfl ?_
  refine qe_getfield c113_148 qo113 qF12_140 e2 e4 ?_
  refine qe_aload_n c113_151 rfl ?_
  refine qe_getfield c113_152 qo113 qF12_461 e2 e6 ?_
  refine qe_aload_n c113_155 rfl ?_
  refine qe_getfield c113_156 qo113 qF12_125 e2 e8 ?_
  refine qe_iload_n c113_159 rfl ?_
  refine qe_iaload c113_160 e11 e12 ?_
  refine qe_iastore c113_161 e15 e16 ?_
  rw [e17]
  refine qe_aload_n c113_162 rfl ?_
  refine qe_getfield c113_163 qo113 qF12_143 e19 e21 ?_
  refine qe_aload_n c113_166 rfl ?_
  refine qe_getfield c113_167 qo113 qF12_461 e19 e23 ?_
  refine qe_aload_n c113_170 rfl ?_
  refine qe_getfield c113_171 qo113 qF12_128 e19 e25 ?_
  refine qe_iload_n c113_174 rfl ?_
  refine qe_iaload c113_175 e28 e29 ?_
  refine qe_iastore c113_176 e32 e33 ?_
  rw [e34]
  refine qe_aload_n c113_177 rfl ?_
  refine qe_getfield c113_178 qo113 qF12_146 e36 e38 ?_
  refine qe_aload_n c113_181 rfl ?_
  refine qe_getfield c113_182 qo113 qF12_461 e36 e40 ?_
  refine qe_aload_n c113_185 rfl ?_
  refine qe_getfield c113_186 qo113 qF12_202 e36 e42 ?_
  refine qe_iastore c113_189 e45 e46 ?_
  rw [e47]
  refine qe_aload_n c113_190 rfl ?_
  refine qe_dup c113_191 rfl ?_
  refine qe_getfield c113_192 qo113 qF12_461 e49 e51 ?_
  refine qe_iconst (x := 1) c113_195 (by decide) ?_
  refine qe_iadd c113_196 ?_
  refine qe_putfield c113_197 qo113 qF12_461 qz12_7 e49 e52 (by rw [qy12_7]; rfl) ?_
  rw [e53]
  refine qe_iinc (y := (x1 + 1)) (ls2 := [some (.ref r0), some (.int (x1 + 1))]) c113_200 rfl (Nat.le_of_ble_eq_true rfl) rfl rfl ?_
  refine qe_goto (t := 129) c113_203 rfl ?_
  exact kk
theorem b113_206 {d : Nat} {q : Option Value × qH} {h : qH} {r0 : Nat} {x1 : Int32}   (kk : qE d 113 208 [some (.ref r0), some (.int 0)] [] h q): qE d 113 206 [some (.ref r0), some (.int x1)] [] h q := by
  refine qe_iconst (x := 0) c113_206 (by decide) ?_
  refine qe_istore_n (ls2 := [some (.ref r0), some (.int 0)]) c113_207 (Nat.le_of_ble_eq_true rfl) rfl ?_
  exact kk
theorem b113_208F {d : Nat} {q : Option Value × qH} {h : qH} {r0 : Nat} {x1 : Int32}  (e1 : ¬ ((4 : Int32) ≤ x1)) (kk : qE d 113 213 [some (.ref r0), some (.int x1)] [] h q): qE d 113 208 [some (.ref r0), some (.int x1)] [] h q := by
  refine qe_iload_n c113_208 rfl ?_
  refine qe_iconst (x := 4) c113_209 (by decide) ?_
  refine qe_icmp_ge_F (t := 247) c113_210 rfl e1 ?_
  exact kk
theorem b113_208T {d : Nat} {q : Option Value × qH} {h : qH} {r0 : Nat} {x1 : Int32}  (e1 : (4 : Int32) ≤ x1) (kk : qE d 113 247 [some (.ref r0), some (.int x1)] [] h q): qE d 113 208 [some (.ref r0), some (.int x1)] [] h q := by
  refine qe_iload_n c113_208 rfl ?_
  refine qe_iconst (x := 4) c113_209 (by decide) ?_
  refine qe_icmp_ge_T (t := 247) c113_210 rfl e1 ?_
  exact kk
theorem b113_213F {d : Nat} {q : Option Value × qH} {h : qH} {r0 : Nat} {x1 : Int32} {fs1 : List Value} {y3 : Nat} {y5 : Nat} {n7 : Nat} {f8 : Nat → Int32}  (e2 : h.2.2 r0 = some (.inr (12, fs1))) (e4 : fs1[70]? = some (.ref y3)) (e6 : fs1[68]? = some (.ref y5)) (e9 : h.2.2 y5 = some (.inl (1, n7, .inl f8))) (e10 : 0 ≤ (x1 : Int32).toInt ∧ (x1 : Int32).toInt < (n7 : Nat)) (e11 : ¬ (((f8 (x1 : Int32).toNatClampNeg) : Int32) = 0)) (kk : qE d 113 227 [some (.ref r0), some (.int x1)] [.int x1, .ref y3] h q): qE d 113 213 [some (.ref r0), some (.int x1)] [] h q := by
  refine qe_aload_n c113_213 rfl ?_
  refine qe_getfield c113_214 qo113 qF12_155 e2 e4 ?_
  refine qe_iload_n c113_217 rfl ?_
  refine qe_aload_n c113_218 rfl ?_
  refine qe_getfield c113_219 qo113 qF12_149 e2 e6 ?_
  refine qe_iload_n c113_222 rfl ?_
  refine qe_zaload c113_223 e9 e10 ?_
  refine qe_if_eq_F (t := 236) c113_224 rfl e11 ?_
  exact kk
theorem b113_213T {d : Nat} {q : Option Value × qH} {h : qH} {r0 : Nat} {x1 : Int32} {fs1 : List Value} {y3 : Nat} {y5 : Nat} {n7 : Nat} {f8 : Nat → Int32}  (e2 : h.2.2 r0 = some (.inr (12, fs1))) (e4 : fs1[70]? = some (.ref y3)) (e6 : fs1[68]? = some (.ref y5)) (e9 : h.2.2 y5 = some (.inl (1, n7, .inl f8))) (e10 : 0 ≤ (x1 : Int32).toInt ∧ (x1 : Int32).toInt < (n7 : Nat)) (e11 : ((f8 (x1 : Int32).toNatClampNeg) : Int32) = 0) (kk : qE d 113 236 [some (.ref r0), some (.int x1)] [.int x1, .ref y3] h q): qE d 113 213 [some (.ref r0), some (.int x1)] [] h q := by
  refine qe_aload_n c113_213 rfl ?_
  refine qe_getfield c113_214 qo113 qF12_155 e2 e4 ?_
  refine qe_iload_n c113_217 rfl ?_
  refine qe_aload_n c113_218 rfl ?_
  refine qe_getfield c113_219 qo113 qF12_149 e2 e6 ?_
  refine qe_iload_n c113_222 rfl ?_
  refine qe_zaload c113_223 e9 e10 ?_
  refine qe_if_eq_T (t := 236) c113_224 rfl e11 ?_
  exact kk
theorem b113_227 {d : Nat} {q : Option Value × qH} {h : qH} {r0 : Nat} {x1 : Int32} {rs0 : Nat} {xs1 : Int32} {fs1 : List Value} {y3 : Nat} {n5 : Nat} {f6 : Nat → Int32}  (e2 : h.2.2 r0 = some (.inr (12, fs1))) (e4 : fs1[70]? = some (.ref y3)) (e7 : h.2.2 y3 = some (.inl (0, n5, .inl f6))) (e8 : 0 ≤ (x1 : Int32).toInt ∧ (x1 : Int32).toInt < (n5 : Nat)) (kk : qE d 113 240 [some (.ref r0), some (.int x1)] [.int (f6 (x1 : Int32).toNatClampNeg), .int xs1, .ref rs0] h q): qE d 113 227 [some (.ref r0), some (.int x1)] [.int xs1, .ref rs0] h q := by
  refine qe_aload_n c113_227 rfl ?_
  refine qe_getfield c113_228 qo113 qF12_155 e2 e4 ?_
  refine qe_iload_n c113_231 rfl ?_
  refine qe_iaload c113_232 e7 e8 ?_
  refine qe_goto (t := 240) c113_233 rfl ?_
  exact kk
theorem b113_236 {d : Nat} {q : Option Value × qH} {h : qH} {r0 : Nat} {x1 : Int32} {rs0 : Nat} {xs1 : Int32} {fs1 : List Value} {y3 : Int32}  (e2 : h.2.2 r0 = some (.inr (12, fs1))) (e4 : fs1[2]? = some (.int y3)) (kk : qE d 113 240 [some (.ref r0), some (.int x1)] [.int y3, .int xs1, .ref rs0] h q): qE d 113 236 [some (.ref r0), some (.int x1)] [.int xs1, .ref rs0] h q := by
  refine qe_aload_n c113_236 rfl ?_
  refine qe_getfield c113_237 qo113 qF12_202 e2 e4 ?_
  exact kk
theorem b113_240 {d : Nat} {q : Option Value × qH} {h : qH} {r0 : Nat} {x1 : Int32} {rs0 : Nat} {xs1 : Int32} {xs2 : Int32} {n1 : Nat} {f2 : Nat → Int32} {h1 : qH}  (e3 : h.2.2 rs0 = some (.inl (0, n1, .inl f2))) (e4 : 0 ≤ (xs1 : Int32).toInt ∧ (xs1 : Int32).toInt < (n1 : Nat)) (e5 : qset h rs0 (.inl (0, n1, .inl (upd f2 ((xs1 : Int32).toNatClampNeg) xs2))) = h1) (kk : qE d 113 208 [some (.ref r0), some (.int (x1 + 1))] [] h1 q): qE d 113 240 [some (.ref r0), some (.int x1)] [.int xs2, .int xs1, .ref rs0] h q := by
  refine qe_iastore c113_240 e3 e4 ?_
  rw [e5]
  refine qe_iinc (y := (x1 + 1)) (ls2 := [some (.ref r0), some (.int (x1 + 1))]) c113_241 rfl (Nat.le_of_ble_eq_true rfl) rfl rfl ?_
  refine qe_goto (t := 208) c113_244 rfl ?_
  exact kk
theorem b113_247 {d : Nat} {h : qH} {r0 : Nat} {x1 : Int32} {fs1 : List Value} {y3 : Int32} {h1 : qH} {fs7 : List Value} {y9 : Int32}  (e2 : h.2.2 r0 = some (.inr (12, fs1))) (e4 : fs1[2]? = some (.int y3)) (e5 : 2 < fs1.length) (e6 : qset h r0 (.inr (12, fs1.set 2 (.int (y3 + 1)))) = h1) (e8 : h1.2.2 r0 = some (.inr (12, fs7))) (e10 : fs7[59]? = some (.int y9)) : qE d 113 247 [some (.ref r0), some (.int x1)] [] h (some (.int y9), h1) := by
  refine qe_aload_n c113_247 rfl ?_
  refine qe_dup c113_248 rfl ?_
  refine qe_getfield c113_249 qo113 qF12_202 e2 e4 ?_
  refine qe_iconst (x := 1) c113_252 (by decide) ?_
  refine qe_iadd c113_253 ?_
  refine qe_putfield c113_254 qo113 qF12_202 qz12_2 e2 e5 (by rw [qy12_2]; rfl) ?_
  rw [e6]
  refine qe_aload_n c113_257 rfl ?_
  refine qe_getfield c113_258 qo113 qF12_424 e8 e10 ?_
  exact qe_iret c113_261 qr113
theorem b114_0F {d : Nat} {q : Option Value × qH} {h : qH} {r0 : Nat} {fs1 : List Value} {h1 : qH} {z3 : Int32}  (e2 : h.2.2 r0 = some (.inr (12, fs1))) (e4 : qCall d 120 [.ref r0] h ((some (.int z3)), h1)) (e5 : ¬ ((z3 : Int32) = 38)) (kk : qE d 114 11 [some (.ref r0), some (.int z3)] [] h1 q): qE d 114 0 [some (.ref r0), none] [] h q := by
  refine qe_aload_n c114_0 rfl ?_
  refine qe_virtual (b := r0) (as := []) (r := []) (v := (some (.int z3))) (h2 := h1) c114_1 qo114 qK12_315 rfl rfl rfl (by rw [qo120]; exact e2) (Nat.le_of_ble_eq_true rfl) e4 ?_
  refine qe_istore_n (ls2 := [some (.ref r0), some (.int z3)]) c114_4 (Nat.le_of_ble_eq_true rfl) rfl ?_
  refine qe_iload_n c114_5 rfl ?_
  refine qe_bipush (x := 38) c114_6 (by decide) ?_
  refine qe_icmp_eq_F (t := 17) c114_8 rfl e5 ?_
  exact kk
theorem b114_0T {d : Nat} {q : Option Value × qH} {h : qH} {r0 : Nat} {fs1 : List Value} {h1 : qH} {z3 : Int32}  (e2 : h.2.2 r0 = some (.inr (12, fs1))) (e4 : qCall d 120 [.ref r0] h ((some (.int z3)), h1)) (e5 : (z3 : Int32) = 38) (kk : qE d 114 17 [some (.ref r0), some (.int z3)] [] h1 q): qE d 114 0 [some (.ref r0), none] [] h q := by
  refine qe_aload_n c114_0 rfl ?_
  refine qe_virtual (b := r0) (as := []) (r := []) (v := (some (.int z3))) (h2 := h1) c114_1 qo114 qK12_315 rfl rfl rfl (by rw [qo120]; exact e2) (Nat.le_of_ble_eq_true rfl) e4 ?_
  refine qe_istore_n (ls2 := [some (.ref r0), some (.int z3)]) c114_4 (Nat.le_of_ble_eq_true rfl) rfl ?_
  refine qe_iload_n c114_5 rfl ?_
  refine qe_bipush (x := 38) c114_6 (by decide) ?_
  refine qe_icmp_eq_T (t := 17) c114_8 rfl e5 ?_
  exact kk
theorem b114_11F {d : Nat} {q : Option Value × qH} {h : qH} {r0 : Nat} {x1 : Int32}  (e1 : (x1 : Int32) = 124) (kk : qE d 114 17 [some (.ref r0), some (.int x1)] [] h q): qE d 114 11 [some (.ref r0), some (.int x1)] [] h q := by
  refine qe_iload_n c114_11 rfl ?_
  refine qe_bipush (x := 124) c114_12 (by decide) ?_
  refine qe_icmp_ne_F (t := 39) c114_14 rfl e1 ?_
  exact kk
theorem b114_11T {d : Nat} {q : Option Value × qH} {h : qH} {r0 : Nat} {x1 : Int32}  (e1 : ¬ ((x1 : Int32) = 124)) (kk : qE d 114 39 [some (.ref r0), some (.int x1)] [] h q): qE d 114 11 [some (.ref r0), some (.int x1)] [] h q := by
  refine qe_iload_n c114_11 rfl ?_
  refine qe_bipush (x := 124) c114_12 (by decide) ?_
  refine qe_icmp_ne_T (t := 39) c114_14 rfl e1 ?_
  exact kk
theorem b114_17F {d : Nat} {q : Option Value × qH} {h : qH} {r0 : Nat} {x1 : Int32}  (e1 : (x1 : Int32) = 124) (kk : qE d 114 24 [some (.ref r0), some (.int x1)] [.ref r0] h q): qE d 114 17 [some (.ref r0), some (.int x1)] [] h q := by
  refine qe_aload_n c114_17 rfl ?_
  refine qe_iload_n c114_18 rfl ?_
  refine qe_bipush (x := 124) c114_19 (by decide) ?_
  refine qe_icmp_ne_F (t := 28) c114_21 rfl e1 ?_
  exact kk
theorem b114_17T {d : Nat} {q : Option Value × qH} {h : qH} {r0 : Nat} {x1 : Int32}  (e1 : ¬ ((x1 : Int32) = 124)) (kk : qE d 114 28 [some (.ref r0), some (.int x1)] [.ref r0] h q): qE d 114 17 [some (.ref r0), some (.int x1)] [] h q := by
  refine qe_aload_n c114_17 rfl ?_
  refine qe_iload_n c114_18 rfl ?_
  refine qe_bipush (x := 124) c114_19 (by decide) ?_
  refine qe_icmp_ne_T (t := 28) c114_21 rfl e1 ?_
  exact kk
theorem b114_24 {d : Nat} {q : Option Value × qH} {h : qH} {r0 : Nat} {x1 : Int32} {rs0 : Nat}   (kk : qE d 114 29 [some (.ref r0), some (.int x1)] [.int 1, .ref rs0] h q): qE d 114 24 [some (.ref r0), some (.int x1)] [.ref rs0] h q := by
  refine qe_iconst (x := 1) c114_24 (by decide) ?_
  refine qe_goto (t := 29) c114_25 rfl ?_
  exact kk
theorem b114_28 {d : Nat} {q : Option Value × qH} {h : qH} {r0 : Nat} {x1 : Int32} {rs0 : Nat}   (kk : qE d 114 29 [some (.ref r0), some (.int x1)] [.int 0, .ref rs0] h q): qE d 114 28 [some (.ref r0), some (.int x1)] [.ref rs0] h q := by
  refine qe_iconst (x := 0) c114_28 (by decide) ?_
  exact kk
theorem b114_29 {d : Nat} {h : qH} {r0 : Nat} {x1 : Int32} {rs0 : Nat} {xs1 : Int32} {fs1 : List Value} {h1 : qH} {fs4 : List Value} {h2 : qH}  (e2 : h.2.2 rs0 = some (.inr (12, fs1))) (e3 : qCall d 138 [.ref rs0, .int xs1] h (none, h1)) (e5 : h1.2.2 r0 = some (.inr (12, fs4))) (e6 : qCall d 155 [.ref r0, .int x1] h1 (none, h2)) : qE d 114 29 [some (.ref r0), some (.int x1)] [.int xs1, .ref rs0] h (some (.int 1), h2) := by
  refine qe_virtual (b := rs0) (as := [.int xs1]) (r := []) (v := none) (h2 := h1) c114_29 qo114 qK12_373 rfl rfl rfl (by rw [qo138]; exact e2) (Nat.le_of_ble_eq_true rfl) e3 ?_
  refine qe_aload_n c114_32 rfl ?_
  refine qe_iload_n c114_33 rfl ?_
  refine qe_virtual (b := r0) (as := [.int x1]) (r := []) (v := none) (h2 := h2) c114_34 qo114 qK12_319 rfl rfl rfl (by rw [qo155]; exact e5) (Nat.le_of_ble_eq_true rfl) e6 ?_
  refine qe_iconst (x := 1) c114_37 (by decide) ?_
  exact qe_zret c114_38 qr114 (by decide)
theorem b114_39F {d : Nat} {q : Option Value × qH} {h : qH} {r0 : Nat} {x1 : Int32}  (e1 : ¬ ((x1 : Int32) = 41)) (kk : qE d 114 45 [some (.ref r0), some (.int x1)] [] h q): qE d 114 39 [some (.ref r0), some (.int x1)] [] h q := by
  refine qe_iload_n c114_39 rfl ?_
  refine qe_bipush (x := 41) c114_40 (by decide) ?_
  refine qe_icmp_eq_F (t := 56) c114_42 rfl e1 ?_
  exact kk
theorem b114_39T {d : Nat} {q : Option Value × qH} {h : qH} {r0 : Nat} {x1 : Int32}  (e1 : (x1 : Int32) = 41) (kk : qE d 114 56 [some (.ref r0), some (.int x1)] [] h q): qE d 114 39 [some (.ref r0), some (.int x1)] [] h q := by
  refine qe_iload_n c114_39 rfl ?_
  refine qe_bipush (x := 41) c114_40 (by decide) ?_
  refine qe_icmp_eq_T (t := 56) c114_42 rfl e1 ?_
  exact kk
theorem b114_45 {d : Nat} {h : qH} {r0 : Nat} {x1 : Int32} {fs1 : List Value} {y3 : Int32} {h1 : qH}  (e2 : h.2.2 r0 = some (.inr (12, fs1))) (e4 : fs1[44]? = some (.int y3)) (e5 : qCall d 190 [.ref r0, .int 1, .int y3] h (none, h1)) : qE d 114 45 [some (.ref r0), some (.int x1)] [] h (some (.int 0), h1) := by
  refine qe_aload_n c114_45 rfl ?_
  refine qe_iconst (x := 1) c114_46 (by decide) ?_
  refine qe_aload_n c114_47 rfl ?_
  refine qe_getfield c114_48 qo114 qF12_290 e2 e4 ?_
  refine qe_virtual (b := r0) (as := [.int 1, .int y3]) (r := []) (v := none) (h2 := h1) c114_51 qo114 qK12_312 rfl rfl rfl (by rw [qo190]; exact e2) (Nat.le_of_ble_eq_true rfl) e5 ?_
  refine qe_iconst (x := 0) c114_54 (by decide) ?_
  exact qe_zret c114_55 qr114 (by decide)
theorem b114_56F {d : Nat} {q : Option Value × qH} {h : qH} {r0 : Nat} {x1 : Int32} {fs1 : List Value} {h1 : qH} {fs4 : List Value} {y6 : Int32} {h2 : qH} {fs10 : List Value} {y12 : Int32} {h3 : qH} {fs16 : List Value} {y18 : Int32} {h4 : qH} {fs22 : List Value} {y24 : Int32}  (e2 : h.2.2 r0 = some (.inr (12, fs1))) (e3 : qCall d 138 [.ref r0, .int 1] h (none, h1)) (e5 : h1.2.2 r0 = some (.inr (12, fs4))) (e7 : fs4[50]? = some (.int y6)) (e8 : 50 < fs4.length) (e9 : qset h1 r0 (.inr (12, fs4.set 50 (.int (y6 - 1)))) = h2) (e11 : h2.2.2 r0 = some (.inr (12, fs10))) (e13 : fs10[49]? = some (.int y12)) (e14 : 49 < fs10.length) (e15 : qset h2 r0 (.inr (12, fs10.set 49 (.int (y12 - 1)))) = h3) (e17 : h3.2.2 r0 = some (.inr (12, fs16))) (e19 : fs16[44]? = some (.int y18)) (e20 : 44 < fs16.length) (e21 : qset h3 r0 (.inr (12, fs16.set 44 (.int (y18 + 1)))) = h4) (e23 : h4.2.2 r0 = some (.inr (12, fs22))) (e25 : fs22[50]? = some (.int y24)) (e26 : (y24 : Int32) = 0) (kk : qE d 114 99 [some (.ref r0), some (.int x1)] [.ref r0] h4 q): qE d 114 56 [some (.ref r0), some (.int x1)] [] h q := by
  refine qe_aload_n c114_56 rfl ?_
  refine qe_iconst (x := 1) c114_57 (by decide) ?_
  refine qe_virtual (b := r0) (as := [.int 1]) (r := []) (v := none) (h2 := h1) c114_58 qo114 qK12_373 rfl rfl rfl (by rw [qo138]; exact e2) (Nat.le_of_ble_eq_true rfl) e3 ?_
  refine qe_aload_n c114_61 rfl ?_
  refine qe_dup c114_62 rfl ?_
  refine qe_getfield c114_63 qo114 qF12_306 e5 e7 ?_
  refine qe_iconst (x := 1) c114_66 (by decide) ?_
  refine qe_isub c114_67 ?_
  refine qe_putfield c114_68 qo114 qF12_306 qz12_50 e5 e8 (by rw [qy12_50]; rfl) ?_
  rw [e9]
  refine qe_aload_n c114_71 rfl ?_
  refine qe_dup c114_72 rfl ?_
  refine qe_getfield c114_73 qo114 qF12_309 e11 e13 ?_
  refine qe_iconst (x := 1) c114_76 (by decide) ?_
  refine qe_isub c114_77 ?_
  refine qe_putfield c114_78 qo114 qF12_309 qz12_49 e11 e14 (by rw [qy12_49]; rfl) ?_
  rw [e15]
  refine qe_aload_n c114_81 rfl ?_
  refine qe_dup c114_82 rfl ?_
  refine qe_getfield c114_83 qo114 qF12_290 e17 e19 ?_
  refine qe_iconst (x := 1) c114_86 (by decide) ?_
  refine qe_iadd c114_87 ?_
  refine qe_putfield c114_88 qo114 qF12_290 qz12_44 e17 e20 (by rw [qy12_44]; rfl) ?_
  rw [e21]
  refine qe_aload_n c114_91 rfl ?_
  refine qe_aload_n c114_92 rfl ?_
  refine qe_getfield c114_93 qo114 qF12_306 e23 e25 ?_
  refine qe_if_ne_F (t := 103) c114_96 rfl e26 ?_
  exact kk
theorem b114_56T {d : Nat} {q : Option Value × qH} {h : qH} {r0 : Nat} {x1 : Int32} {fs1 : List Value} {h1 : qH} {fs4 : List Value} {y6 : Int32} {h2 : qH} {fs10 : List Value} {y12 : Int32} {h3 : qH} {fs16 : List Value} {y18 : Int32} {h4 : qH} {fs22 : List Value} {y24 : Int32}  (e2 : h.2.2 r0 = some (.inr (12, fs1))) (e3 : qCall d 138 [.ref r0, .int 1] h (none, h1)) (e5 : h1.2.2 r0 = some (.inr (12, fs4))) (e7 : fs4[50]? = some (.int y6)) (e8 : 50 < fs4.length) (e9 : qset h1 r0 (.inr (12, fs4.set 50 (.int (y6 - 1)))) = h2) (e11 : h2.2.2 r0 = some (.inr (12, fs10))) (e13 : fs10[49]? = some (.int y12)) (e14 : 49 < fs10.length) (e15 : qset h2 r0 (.inr (12, fs10.set 49 (.int (y12 - 1)))) = h3) (e17 : h3.2.2 r0 = some (.inr (12, fs16))) (e19 : fs16[44]? = some (.int y18)) (e20 : 44 < fs16.length) (e21 : qset h3 r0 (.inr (12, fs16.set 44 (.int (y18 + 1)))) = h4) (e23 : h4.2.2 r0 = some (.inr (12, fs22))) (e25 : fs22[50]? = some (.int y24)) (e26 : ¬ ((y24 : Int32) = 0)) (kk : qE d 114 103 [some (.ref r0), some (.int x1)] [.ref r0] h4 q): qE d 114 56 [some (.ref r0), some (.int x1)] [] h q := by
  refine qe_aload_n c114_56 rfl ?_
  refine qe_iconst (x := 1) c114_57 (by decide) ?_
  refine qe_virtual (b := r0) (as := [.int 1]) (r := []) (v := none) (h2 := h1) c114_58 qo114 qK12_373 rfl rfl rfl (by rw [qo138]; exact e2) (Nat.le_of_ble_eq_true rfl) e3 ?_
  refine qe_aload_n c114_61 rfl ?_
  refine qe_dup c114_62 rfl ?_
  refine qe_getfield c114_63 qo114 qF12_306 e5 e7 ?_
  refine qe_iconst (x := 1) c114_66 (by decide) ?_
  refine qe_isub c114_67 ?_
  refine qe_putfield c114_68 qo114 qF12_306 qz12_50 e5 e8 (by rw [qy12_50]; rfl) ?_
  rw [e9]
  refine qe_aload_n c114_71 rfl ?_
  refine qe_dup c114_72 rfl ?_
  refine qe_getfield c114_73 qo114 qF12_309 e11 e13 ?_
  refine qe_iconst (x := 1) c114_76 (by decide) ?_
  refine qe_isub c114_77 ?_
  refine qe_putfield c114_78 qo114 qF12_309 qz12_49 e11 e14 (by rw [qy12_49]; rfl) ?_
  rw [e15]
  refine qe_aload_n c114_81 rfl ?_
  refine qe_dup c114_82 rfl ?_
  refine qe_getfield c114_83 qo114 qF12_290 e17 e19 ?_
  refine qe_iconst (x := 1) c114_86 (by decide) ?_
  refine qe_iadd c114_87 ?_
  refine qe_putfield c114_88 qo114 qF12_290 qz12_44 e17 e20 (by rw [qy12_44]; rfl) ?_
  rw [e21]
  refine qe_aload_n c114_91 rfl ?_
  refine qe_aload_n c114_92 rfl ?_
  refine qe_getfield c114_93 qo114 qF12_306 e23 e25 ?_
  refine qe_if_ne_T (t := 103) c114_96 rfl e26 ?_
  exact kk
theorem b114_99 {d : Nat} {q : Option Value × qH} {h : qH} {r0 : Nat} {x1 : Int32} {rs0 : Nat}   (kk : qE d 114 104 [some (.ref r0), some (.int x1)] [.int 1, .ref rs0] h q): qE d 114 99 [some (.ref r0), some (.int x1)] [.ref rs0] h q := by
  refine qe_iconst (x := 1) c114_99 (by decide) ?_
  refine qe_goto (t := 104) c114_100 rfl ?_
  exact kk
theorem b114_103 {d : Nat} {q : Option Value × qH} {h : qH} {r0 : Nat} {x1 : Int32} {rs0 : Nat}   (kk : qE d 114 104 [some (.ref r0), some (.int x1)] [.int 0, .ref rs0] h q): qE d 114 103 [some (.ref r0), some (.int x1)] [.ref rs0] h q := by
  refine qe_iconst (x := 0) c114_103 (by decide) ?_
  exact kk
theorem b114_104F {d : Nat} {q : Option Value × qH} {h : qH} {r0 : Nat} {x1 : Int32} {rs0 : Nat} {xs1 : Int32} {fs1 : List Value} {h1 : qH} {fs6 : List Value} {y8 : Int32}  (e2 : h.2.2 rs0 = some (.inr (12, fs1))) (e3 : 51 < fs1.length) (e4 : (xs1 : Int32) = 0 ∨ (xs1 : Int32) = 1) (e5 : qset h rs0 (.inr (12, fs1.set 51 (.int xs1))) = h1) (e7 : h1.2.2 r0 = some (.inr (12, fs6))) (e9 : fs6[51]? = some (.int y8)) (e10 : (y8 : Int32) = 0) (kk : qE d 114 114 [some (.ref r0), some (.int x1)] [] h1 q): qE d 114 104 [some (.ref r0), some (.int x1)] [.int xs1, .ref rs0] h q := by
  refine qe_putfield c114_104 qo114 qF12_376 qz12_51 e2 e3 (by rw [qy12_51]; exact decide_eq_true e4) ?_
  rw [e5]
  refine qe_aload_n c114_107 rfl ?_
  refine qe_getfield c114_108 qo114 qF12_376 e7 e9 ?_
  refine qe_if_ne_F (t := 118) c114_111 rfl e10 ?_
  exact kk
theorem b114_104T {d : Nat} {q : Option Value × qH} {h : qH} {r0 : Nat} {x1 : Int32} {rs0 : Nat} {xs1 : Int32} {fs1 : List Value} {h1 : qH} {fs6 : List Value} {y8 : Int32}  (e2 : h.2.2 rs0 = some (.inr (12, fs1))) (e3 : 51 < fs1.length) (e4 : (xs1 : Int32) = 0 ∨ (xs1 : Int32) = 1) (e5 : qset h rs0 (.inr (12, fs1.set 51 (.int xs1))) = h1) (e7 : h1.2.2 r0 = some (.inr (12, fs6))) (e9 : fs6[51]? = some (.int y8)) (e10 : ¬ ((y8 : Int32) = 0)) (kk : qE d 114 118 [some (.ref r0), some (.int x1)] [] h1 q): qE d 114 104 [some (.ref r0), some (.int x1)] [.int xs1, .ref rs0] h q := by
  refine qe_putfield c114_104 qo114 qF12_376 qz12_51 e2 e3 (by rw [qy12_51]; exact decide_eq_true e4) ?_
  rw [e5]
  refine qe_aload_n c114_107 rfl ?_
  refine qe_getfield c114_108 qo114 qF12_376 e7 e9 ?_
  refine qe_if_ne_T (t := 118) c114_111 rfl e10 ?_
  exact kk
theorem b114_114 {d : Nat} {q : Option Value × qH} {h : qH} {r0 : Nat} {x1 : Int32} {fs1 : List Value} {h1 : qH}  (e2 : h.2.2 r0 = some (.inr (12, fs1))) (e3 : qCall d 104 [.ref r0] h (none, h1)) (kk : qE d 114 118 [some (.ref r0), some (.int x1)] [] h1 q): qE d 114 114 [some (.ref r0), some (.int x1)] [] h q := by
  refine qe_aload_n c114_114 rfl ?_
  refine qe_virtual (b := r0) (as := []) (r := []) (v := none) (h2 := h1) c114_115 qo114 qK12_370 rfl rfl rfl (by rw [qo104]; exact e2) (Nat.le_of_ble_eq_true rfl) e3 ?_
  exact kk
theorem b114_118 {d : Nat} {h : qH} {r0 : Nat} {x1 : Int32}   : qE d 114 118 [some (.ref r0), some (.int x1)] [] h (some (.int 0), h) := by
  refine qe_iconst (x := 0) c114_118 (by decide) ?_
  exact qe_zret c114_119 qr114 (by decide)
theorem b115_0 {d : Nat} {q : Option Value × qH} {h : qH} {r0 : Nat} {x1 : Int32} {x2 : Int32} {fs1 : List Value} {h1 : qH} {z3 : Int32}  (e2 : h.2.2 r0 = some (.inr (12, fs1))) (e4 : qCall d 145 [.ref r0, .int x1, .int x2] h ((some (.int z3)), h1)) (kk : qE d 115 12 [some (.ref r0), some (.int x1), some (.int x2), some (.long ((-z3) : Int32).toInt64), none, some (.int 0)] [] h1 q): qE d 115 0 [some (.ref r0), some (.int x1), some (.int x2), none, none, none] [] h q := by
  refine qe_aload_n c115_0 rfl ?_
  refine qe_iload_n c115_1 rfl ?_
  refine qe_iload_n c115_2 rfl ?_
  refine qe_virtual (b := r0) (as := [.int x1, .int x2]) (r := []) (v := (some (.int z3))) (h2 := h1) c115_3 qo115 qK12_235 rfl rfl rfl (by rw [qo145]; exact e2) (Nat.le_of_ble_eq_true rfl) e4 ?_
  refine qe_ineg c115_6 ?_
  refine qe_i2l c115_7 ?_
  refine qe_lstore_n (ls2 := [some (.ref r0), some (.int x1), some (.int x2), some (.long ((-z3) : Int32).toInt64), none, none]) c115_8 (Nat.le_of_ble_eq_true rfl) rfl ?_
  refine qe_iconst (x := 0) c115_9 (by decide) ?_
  refine qe_istore (ls2 := [some (.ref r0), some (.int x1), some (.int x2), some (.long ((-z3) : Int32).toInt64), none, some (.int 0)]) c115_10 (Nat.le_of_ble_eq_true rfl) rfl ?_
  exact kk
theorem b115_12F {d : Nat} {q : Option Value × qH} {h : qH} {r0 : Nat} {x1 : Int32} {x2 : Int32} {l3 : Int64} {x5 : Int32} {fs1 : List Value} {y3 : Int32}  (e2 : h.2.2 r0 = some (.inr (12, fs1))) (e4 : fs1[5]? = some (.int y3)) (e5 : ¬ ((y3 : Int32) ≤ x5)) (kk : qE d 115 21 [some (.ref r0), some (.int x1), some (.int x2), some (.long l3), none, some (.int x5)] [] h q): qE d 115 12 [some (.ref r0), some (.int x1), some (.int x2), some (.long l3), none, some (.int x5)] [] h q := by
  refine qe_iload c115_12 rfl ?_
  refine qe_aload_n c115_14 rfl ?_
  refine qe_getfield c115_15 qo115 qF12_197 e2 e4 ?_
  refine qe_icmp_ge_F (t := 53) c115_18 rfl e5 ?_
  exact kk
theorem b115_12T {d : Nat} {q : Option Value × qH} {h : qH} {r0 : Nat} {x1 : Int32} {x2 : Int32} {l3 : Int64} {x5 : Int32} {fs1 : List Value} {y3 : Int32}  (e2 : h.2.2 r0 = some (.inr (12, fs1))) (e4 : fs1[5]? = some (.int y3)) (e5 : (y3 : Int32) ≤ x5) (kk : qE d 115 53 [some (.ref r0), some (.int x1), some (.int x2), some (.long l3), none, some (.int x5)] [] h q): qE d 115 12 [some (.ref r0), some (.int x1), some (.int x2), some (.long l3), none, some (.int x5)] [] h q := by
  refine qe_iload c115_12 rfl ?_
  refine qe_aload_n c115_14 rfl ?_
  refine qe_getfield c115_15 qo115 qF12_197 e2 e4 ?_
  refine qe_icmp_ge_T (t := 53) c115_18 rfl e5 ?_
  exact kk
theorem b115_21F {d : Nat} {q : Option Value × qH} {h : qH} {r0 : Nat} {x1 : Int32} {x2 : Int32} {l3 : Int64} {x5 : Int32} {fs1 : List Value} {y3 : Nat} {n5 : Nat} {f6 : Nat → Int32}  (e2 : h.2.2 r0 = some (.inr (12, fs1))) (e4 : fs1[19]? = some (.ref y3)) (e7 : h.2.2 y3 = some (.inl (0, n5, .inl f6))) (e8 : 0 ≤ (x5 : Int32).toInt ∧ (x5 : Int32).toInt < (n5 : Nat)) (e9 : ((f6 (x5 : Int32).toNatClampNeg) : Int32) = x2) (kk : qE d 115 33 [some (.ref r0), some (.int x1), some (.int x2), some (.long l3), none, some (.int x5)] [.long l3] h q): qE d 115 21 [some (.ref r0), some (.int x1), some (.int x2), some (.long l3), none, some (.int x5)] [] h q := by
  refine qe_lload_n c115_21 rfl ?_
  refine qe_aload_n c115_22 rfl ?_
  refine qe_getfield c115_23 qo115 qF12_42 e2 e4 ?_
  refine qe_iload c115_26 rfl ?_
  refine qe_iaload c115_28 e7 e8 ?_
  refine qe_iload_n c115_29 rfl ?_
  refine qe_icmp_ne_F (t := 44) c115_30 rfl e9 ?_
  exact kk
theorem b115_21T {d : Nat} {q : Option Value × qH} {h : qH} {r0 : Nat} {x1 : Int32} {x2 : Int32} {l3 : Int64} {x5 : Int32} {fs1 : List Value} {y3 : Nat} {n5 : Nat} {f6 : Nat → Int32}  (e2 : h.2.2 r0 = some (.inr (12, fs1))) (e4 : fs1[19]? = some (.ref y3)) (e7 : h.2.2 y3 = some (.inl (0, n5, .inl f6))) (e8 : 0 ≤ (x5 : Int32).toInt ∧ (x5 : Int32).toInt < (n5 : Nat)) (e9 : ¬ (((f6 (x5 : Int32).toNatClampNeg) : Int32) = x2)) (kk : qE d 115 44 [some (.ref r0), some (.int x1), some (.int x2), some (.long l3), none, some (.int x5)] [.long l3] h q): qE d 115 21 [some (.ref r0), some (.int x1), some (.int x2), some (.long l3), none, some (.int x5)] [] h q := by
  refine qe_lload_n c115_21 rfl ?_
  refine qe_aload_n c115_22 rfl ?_
  refine qe_getfield c115_23 qo115 qF12_42 e2 e4 ?_
  refine qe_iload c115_26 rfl ?_
  refine qe_iaload c115_28 e7 e8 ?_
  refine qe_iload_n c115_29 rfl ?_
  refine qe_icmp_ne_T (t := 44) c115_30 rfl e9 ?_
  exact kk
theorem b115_33 {d : Nat} {q : Option Value × qH} {h : qH} {r0 : Nat} {x1 : Int32} {x2 : Int32} {l3 : Int64} {x5 : Int32} {ls0 : Int64} {fs1 : List Value} {y3 : Nat} {n5 : Nat} {f6 : Nat → Int32}  (e2 : h.2.2 r0 = some (.inr (12, fs1))) (e4 : fs1[25]? = some (.ref y3)) (e7 : h.2.2 y3 = some (.inl (0, n5, .inl f6))) (e8 : 0 ≤ (x5 : Int32).toInt ∧ (x5 : Int32).toInt < (n5 : Nat)) (kk : qE d 115 45 [some (.ref r0), some (.int x1), some (.int x2), some (.long l3), none, some (.int x5)] [.long ((f6 (x5 : Int32).toNatClampNeg) : Int32).toInt64, .long ls0] h q): qE d 115 33 [some (.ref r0), some (.int x1), some (.int x2), some (.long l3), none, some (.int x5)] [.long ls0] h q := by
  refine qe_aload_n c115_33 rfl ?_
  refine qe_getfield c115_34 qo115 qF12_61 e2 e4 ?_
  refine qe_iload c115_37 rfl ?_
  refine qe_iaload c115_39 e7 e8 ?_
  refine qe_i2l c115_40 ?_
  refine qe_goto (t := 45) c115_41 rfl ?_
  exact kk
theorem b115_44 {d : Nat} {q : Option Value × qH} {h : qH} {r0 : Nat} {x1 : Int32} {x2 : Int32} {l3 : Int64} {x5 : Int32} {ls0 : Int64}   (kk : qE d 115 45 [some (.ref r0), some (.int x1), some (.int x2), some (.long l3), none, some (.int x5)] [.long 0, .long ls0] h q): qE d 115 44 [some (.ref r0), some (.int x1), some (.int x2), some (.long l3), none, some (.int x5)] [.long ls0] h q := by
  refine qe_lconst (x := 0) c115_44 (by decide) ?_
  exact kk
theorem b115_45 {d : Nat} {q : Option Value × qH} {h : qH} {r0 : Nat} {x1 : Int32} {x2 : Int32} {l3 : Int64} {x5 : Int32} {ls0 : Int64} {ls1 : Int64}   (kk : qE d 115 12 [some (.ref r0), some (.int x1), some (.int x2), some (.long (ls0 + ls1)), none, some (.int (x5 + 1))] [] h q): qE d 115 45 [some (.ref r0), some (.int x1), some (.int x2), some (.long l3), none, some (.int x5)] [.long ls1, .long ls0] h q := by
  refine qe_ladd c115_45 ?_
  refine qe_lstore_n (ls2 := [some (.ref r0), some (.int x1), some (.int x2), some (.long (ls0 + ls1)), none, some (.int x5)]) c115_46 (Nat.le_of_ble_eq_true rfl) rfl ?_
  refine qe_iinc (y := (x5 + 1)) (ls2 := [some (.ref r0), some (.int x1), some (.int x2), some (.long (ls0 + ls1)), none, some (.int (x5 + 1))]) c115_47 rfl (Nat.le_of_ble_eq_true rfl) rfl rfl ?_
  refine qe_goto (t := 12) c115_50 rfl ?_
  exact kk
theorem b115_53 {d : Nat} {h : qH} {r0 : Nat} {x1 : Int32} {x2 : Int32} {l3 : Int64} {x5 : Int32}   : qE d 115 53 [some (.ref r0), some (.int x1), some (.int x2), some (.long l3), none, some (.int x5)] [] h (some (.long l3), h) := by
  refine qe_lload_n c115_53 rfl ?_
  exact qe_lret c115_54 qr115
theorem b116_0F {d : Nat} {q : Option Value × qH} {h : qH} {r0 : Nat} {fs1 : List Value} {h1 : qH} {z3 : Int32} {h2 : qH} {z5 : Int32}  (e2 : h.2.2 r0 = some (.inr (12, fs1))) (e4 : qCall d 120 [.ref r0] h ((some (.int z3)), h1)) (e6 : qCall d 133 [.int z3] h1 ((some (.int z5)), h2)) (e7 : (z5 : Int32) = 0) (kk : qE d 116 12 [some (.ref r0), some (.int z3)] [] h2 q): qE d 116 0 [some (.ref r0), none] [] h q := by
  refine qe_aload_n c116_0 rfl ?_
  refine qe_virtual (b := r0) (as := []) (r := []) (v := (some (.int z3))) (h2 := h1) c116_1 qo116 qK12_315 rfl rfl rfl (by rw [qo120]; exact e2) (Nat.le_of_ble_eq_true rfl) e4 ?_
  refine qe_istore_n (ls2 := [some (.ref r0), some (.int z3)]) c116_4 (Nat.le_of_ble_eq_true rfl) rfl ?_
  refine qe_iload_n c116_5 rfl ?_
  refine qe_static (as := [.int z3]) (r := []) (v := (some (.int z5))) (h2 := h2) c116_6 qo116 (by decide) qK12_335 rfl rfl rfl (Nat.le_of_ble_eq_true rfl) e6 ?_
  refine qe_if_ne_F (t := 19) c116_9 rfl e7 ?_
  exact kk
theorem b116_0T {d : Nat} {q : Option Value × qH} {h : qH} {r0 : Nat} {fs1 : List Value} {h1 : qH} {z3 : Int32} {h2 : qH} {z5 : Int32}  (e2 : h.2.2 r0 = some (.inr (12, fs1))) (e4 : qCall d 120 [.ref r0] h ((some (.int z3)), h1)) (e6 : qCall d 133 [.int z3] h1 ((some (.int z5)), h2)) (e7 : ¬ ((z5 : Int32) = 0)) (kk : qE d 116 19 [some (.ref r0), some (.int z3)] [] h2 q): qE d 116 0 [some (.ref r0), none] [] h q := by
  refine qe_aload_n c116_0 rfl ?_
  refine qe_virtual (b := r0) (as := []) (r := []) (v := (some (.int z3))) (h2 := h1) c116_1 qo116 qK12_315 rfl rfl rfl (by rw [qo120]; exact e2) (Nat.le_of_ble_eq_true rfl) e4 ?_
  refine qe_istore_n (ls2 := [some (.ref r0), some (.int z3)]) c116_4 (Nat.le_of_ble_eq_true rfl) rfl ?_
  refine qe_iload_n c116_5 rfl ?_
  refine qe_static (as := [.int z3]) (r := []) (v := (some (.int z5))) (h2 := h2) c116_6 qo116 (by decide) qK12_335 rfl rfl rfl (Nat.le_of_ble_eq_true rfl) e6 ?_
  refine qe_if_ne_T (t := 19) c116_9 rfl e7 ?_
  exact kk
theorem b116_12F {d : Nat} {q : Option Value × qH} {h : qH} {r0 : Nat} {x1 : Int32} {h1 : qH} {z1 : Int32}  (e2 : qCall d 128 [.int x1] h ((some (.int z1)), h1)) (e3 : ¬ ((z1 : Int32) = 0)) (kk : qE d 116 19 [some (.ref r0), some (.int x1)] [] h1 q): qE d 116 12 [some (.ref r0), some (.int x1)] [] h q := by
  refine qe_iload_n c116_12 rfl ?_
  refine qe_static (as := [.int x1]) (r := []) (v := (some (.int z1))) (h2 := h1) c116_13 qo116 (by decide) qK12_338 rfl rfl rfl (Nat.le_of_ble_eq_true rfl) e2 ?_
  refine qe_if_eq_F (t := 34) c116_16 rfl e3 ?_
  exact kk
theorem b116_12T {d : Nat} {q : Option Value × qH} {h : qH} {r0 : Nat} {x1 : Int32} {h1 : qH} {z1 : Int32}  (e2 : qCall d 128 [.int x1] h ((some (.int z1)), h1)) (e3 : (z1 : Int32) = 0) (kk : qE d 116 34 [some (.ref r0), some (.int x1)] [] h1 q): qE d 116 12 [some (.ref r0), some (.int x1)] [] h q := by
  refine qe_iload_n c116_12 rfl ?_
  refine qe_static (as := [.int x1]) (r := []) (v := (some (.int z1))) (h2 := h1) c116_13 qo116 (by decide) qK12_338 rfl rfl rfl (Nat.le_of_ble_eq_true rfl) e2 ?_
  refine qe_if_eq_T (t := 34) c116_16 rfl e3 ?_
  exact kk
theorem b116_19 {d : Nat} {h : qH} {r0 : Nat} {x1 : Int32} {h1 : qH} {z1 : Int32} {fs3 : List Value} {h2 : qH} {fs6 : List Value} {h3 : qH}  (e2 : qCall d 128 [.int x1] h ((some (.int z1)), h1)) (e4 : h1.2.2 r0 = some (.inr (12, fs3))) (e5 : qCall d 177 [.ref r0, .int z1] h1 (none, h2)) (e7 : h2.2.2 r0 = some (.inr (12, fs6))) (e8 : qCall d 155 [.ref r0, .int x1] h2 (none, h3)) : qE d 116 19 [some (.ref r0), some (.int x1)] [] h (some (.int 1), h3) := by
  refine qe_aload_n c116_19 rfl ?_
  refine qe_iload_n c116_20 rfl ?_
  refine qe_static (as := [.int x1]) (r := [.ref r0]) (v := (some (.int z1))) (h2 := h1) c116_21 qo116 (by decide) qK12_338 rfl rfl rfl (Nat.le_of_ble_eq_true rfl) e2 ?_
  refine qe_virtual (b := r0) (as := [.int z1]) (r := []) (v := none) (h2 := h2) c116_24 qo116 qK12_353 rfl rfl rfl (by rw [qo177]; exact e4) (Nat.le_of_ble_eq_true rfl) e5 ?_
  refine qe_aload_n c116_27 rfl ?_
  refine qe_iload_n c116_28 rfl ?_
  refine qe_virtual (b := r0) (as := [.int x1]) (r := []) (v := none) (h2 := h3) c116_29 qo116 qK12_319 rfl rfl rfl (by rw [qo155]; exact e7) (Nat.le_of_ble_eq_true rfl) e8 ?_
  refine qe_iconst (x := 1) c116_32 (by decide) ?_
  exact qe_zret c116_33 qr116 (by decide)
theorem b116_34F {d : Nat} {q : Option Value × qH} {h : qH} {r0 : Nat} {x1 : Int32} {fs1 : List Value} {h1 : qH}  (e2 : h.2.2 r0 = some (.inr (12, fs1))) (e3 : qCall d 177 [.ref r0, .int 1] h (none, h1)) (e4 : (x1 : Int32) = 93) (kk : qE d 116 45 [some (.ref r0), some (.int x1)] [] h1 q): qE d 116 34 [some (.ref r0), some (.int x1)] [] h q := by
  refine qe_aload_n c116_34 rfl ?_
  refine qe_iconst (x := 1) c116_35 (by decide) ?_
  refine qe_virtual (b := r0) (as := [.int 1]) (r := []) (v := none) (h2 := h1) c116_36 qo116 qK12_353 rfl rfl rfl (by rw [qo177]; exact e2) (Nat.le_of_ble_eq_true rfl) e3 ?_
  refine qe_iload_n c116_39 rfl ?_
  refine qe_bipush (x := 93) c116_40 (by decide) ?_
  refine qe_icmp_ne_F (t := 102) c116_42 rfl e4 ?_
  exact kk
theorem b116_34T {d : Nat} {q : Option Value × qH} {h : qH} {r0 : Nat} {x1 : Int32} {fs1 : List Value} {h1 : qH}  (e2 : h.2.2 r0 = some (.inr (12, fs1))) (e3 : qCall d 177 [.ref r0, .int 1] h (none, h1)) (e4 : ¬ ((x1 : Int32) = 93)) (kk : qE d 116 102 [some (.ref r0), some (.int x1)] [] h1 q): qE d 116 34 [some (.ref r0), some (.int x1)] [] h q := by
  refine qe_aload_n c116_34 rfl ?_
  refine qe_iconst (x := 1) c116_35 (by decide) ?_
  refine qe_virtual (b := r0) (as := [.int 1]) (r := []) (v := none) (h2 := h1) c116_36 qo116 qK12_353 rfl rfl rfl (by rw [qo177]; exact e2) (Nat.le_of_ble_eq_true rfl) e3 ?_
  refine qe_iload_n c116_39 rfl ?_
  refine qe_bipush (x := 93) c116_40 (by decide) ?_
  refine qe_icmp_ne_T (t := 102) c116_42 rfl e4 ?_
  exact kk
theorem b116_45F {d : Nat} {q : Option Value × qH} {h : qH} {r0 : Nat} {x1 : Int32} {fs1 : List Value} {h1 : qH} {z3 : Int32}  (e2 : h.2.2 r0 = some (.inr (12, fs1))) (e4 : qCall d 179 [.ref r0] h ((some (.int z3)), h1)) (e5 : ¬ ((z3 : Int32) = 91)) (kk : qE d 116 54 [some (.ref r0), some (.int x1)] [] h1 q): qE d 116 45 [some (.ref r0), some (.int x1)] [] h q := by
  refine qe_aload_n c116_45 rfl ?_
  refine qe_virtual (b := r0) (as := []) (r := []) (v := (some (.int z3))) (h2 := h1) c116_46 qo116 qK12_332 rfl rfl rfl (by rw [qo179]; exact e2) (Nat.le_of_ble_eq_true rfl) e4 ?_
  refine qe_bipush (x := 91) c116_49 (by decide) ?_
  refine qe_icmp_eq_F (t := 65) c116_51 rfl e5 ?_
  exact kk
theorem b116_45T {d : Nat} {q : Option Value × qH} {h : qH} {r0 : Nat} {x1 : Int32} {fs1 : List Value} {h1 : qH} {z3 : Int32}  (e2 : h.2.2 r0 = some (.inr (12, fs1))) (e4 : qCall d 179 [.ref r0] h ((some (.int z3)), h1)) (e5 : (z3 : Int32) = 91) (kk : qE d 116 65 [some (.ref r0), some (.int x1)] [] h1 q): qE d 116 45 [some (.ref r0), some (.int x1)] [] h q := by
  refine qe_aload_n c116_45 rfl ?_
  refine qe_virtual (b := r0) (as := []) (r := []) (v := (some (.int z3))) (h2 := h1) c116_46 qo116 qK12_332 rfl rfl rfl (by rw [qo179]; exact e2) (Nat.le_of_ble_eq_true rfl) e4 ?_
  refine qe_bipush (x := 91) c116_49 (by decide) ?_
  refine qe_icmp_eq_T (t := 65) c116_51 rfl e5 ?_
  exact kk
theorem b116_54 {d : Nat} {h : qH} {r0 : Nat} {x1 : Int32} {fs1 : List Value} {y3 : Int32} {h1 : qH}  (e2 : h.2.2 r0 = some (.inr (12, fs1))) (e4 : fs1[44]? = some (.int y3)) (e5 : qCall d 190 [.ref r0, .int 1, .int y3] h (none, h1)) : qE d 116 54 [some (.ref r0), some (.int x1)] [] h (some (.int 0), h1) := by
  refine qe_aload_n c116_54 rfl ?_
  refine qe_iconst (x := 1) c116_55 (by decide) ?_
  refine qe_aload_n c116_56 rfl ?_
  refine qe_getfield c116_57 qo116 qF12_290 e2 e4 ?_
  refine qe_virtual (b := r0) (as := [.int 1, .int y3]) (r := []) (v := none) (h2 := h1) c116_60 qo116 qK12_312 rfl rfl rfl (by rw [qo190]; exact e2) (Nat.le_of_ble_eq_true rfl) e5 ?_
  refine qe_iconst (x := 0) c116_63 (by decide) ?_
  exact qe_zret c116_64 qr116 (by decide)
theorem b116_65 {d : Nat} {h : qH} {r0 : Nat} {x1 : Int32} {fs1 : List Value} {y3 : Int32} {h1 : qH} {fs7 : List Value} {y9 : Int32} {h2 : qH} {fs13 : List Value} {y15 : Int32} {h3 : qH} {fs19 : List Value} {h4 : qH}  (e2 : h.2.2 r0 = some (.inr (12, fs1))) (e4 : fs1[50]? = some (.int y3)) (e5 : 50 < fs1.length) (e6 : qset h r0 (.inr (12, fs1.set 50 (.int (y3 - 1)))) = h1) (e8 : h1.2.2 r0 = some (.inr (12, fs7))) (e10 : fs7[49]? = some (.int y9)) (e11 : 49 < fs7.length) (e12 : qset h1 r0 (.inr (12, fs7.set 49 (.int (y9 - 1)))) = h2) (e14 : h2.2.2 r0 = some (.inr (12, fs13))) (e16 : fs13[44]? = some (.int y15)) (e17 : 44 < fs13.length) (e18 : qset h2 r0 (.inr (12, fs13.set 44 (.int (y15 + 1)))) = h3) (e20 : h3.2.2 r0 = some (.inr (12, fs19))) (e21 : 52 < fs19.length) (e22 : qset h3 r0 (.inr (12, fs19.set 52 (.int 1))) = h4) : qE d 116 65 [some (.ref r0), some (.int x1)] [] h (some (.int 1), h4) := by
  refine qe_aload_n c116_65 rfl ?_
  refine qe_dup c116_66 rfl ?_
  refine qe_getfield c116_67 qo116 qF12_306 e2 e4 ?_
  refine qe_iconst (x := 1) c116_70 (by decide) ?_
  refine qe_isub c116_71 ?_
  refine qe_putfield c116_72 qo116 qF12_306 qz12_50 e2 e5 (by rw [qy12_50]; rfl) ?_
  rw [e6]
  refine qe_aload_n c116_75 rfl ?_
  refine qe_dup c116_76 rfl ?_
  refine qe_getfield c116_77 qo116 qF12_309 e8 e10 ?_
  refine qe_iconst (x := 1) c116_80 (by decide) ?_
  refine qe_isub c116_81 ?_
  refine qe_putfield c116_82 qo116 qF12_309 qz12_49 e8 e11 (by rw [qy12_49]; rfl) ?_
  rw [e12]
  refine qe_aload_n c116_85 rfl ?_
  refine qe_dup c116_86 rfl ?_
  refine qe_getfield c116_87 qo116 qF12_290 e14 e16 ?_
  refine qe_iconst (x := 1) c116_90 (by decide) ?_
  refine qe_iadd c116_91 ?_
  refine qe_putfield c116_92 qo116 qF12_290 qz12_44 e14 e17 (by rw [qy12_44]; rfl) ?_
  rw [e18]
  refine qe_aload_n c116_95 rfl ?_
  refine qe_iconst (x := 1) c116_96 (by decide) ?_
  refine qe_putfield c116_97 qo116 qF12_357 qz12_52 e20 e21 (by rw [qy12_52]; exact decide_eq_true (p := (1 : Int32) = 0 ∨ (1 : Int32) = 1) (by decide)) ?_
  rw [e22]
  refine qe_iconst (x := 1) c116_100 (by decide) ?_
  exact qe_zret c116_101 qr116 (by decide)
theorem b116_102F {d : Nat} {q : Option Value × qH} {h : qH} {r0 : Nat} {x1 : Int32} {h1 : qH} {z1 : Int32}  (e2 : qCall d 131 [.int x1] h ((some (.int z1)), h1)) (e3 : ¬ ((z1 : Int32) = 0)) (kk : qE d 116 109 [some (.ref r0), some (.int x1)] [] h1 q): qE d 116 102 [some (.ref r0), some (.int x1)] [] h q := by
  refine qe_iload_n c116_102 rfl ?_
  refine qe_static (as := [.int x1]) (r := []) (v := (some (.int z1))) (h2 := h1) c116_103 qo116 (by decide) qK12_361 rfl rfl rfl (Nat.le_of_ble_eq_true rfl) e2 ?_
  refine qe_if_eq_F (t := 144) c116_106 rfl e3 ?_
  exact kk
theorem b116_102T {d : Nat} {q : Option Value × qH} {h : qH} {r0 : Nat} {x1 : Int32} {h1 : qH} {z1 : Int32}  (e2 : qCall d 131 [.int x1] h ((some (.int z1)), h1)) (e3 : (z1 : Int32) = 0) (kk : qE d 116 144 [some (.ref r0), some (.int x1)] [] h1 q): qE d 116 102 [some (.ref r0), some (.int x1)] [] h q := by
  refine qe_iload_n c116_102 rfl ?_
  refine qe_static (as := [.int x1]) (r := []) (v := (some (.int z1))) (h2 := h1) c116_103 qo116 (by decide) qK12_361 rfl rfl rfl (Nat.le_of_ble_eq_true rfl) e2 ?_
  refine qe_if_eq_T (t := 144) c116_106 rfl e3 ?_
  exact kk
theorem b116_109F {d : Nat} {q : Option Value × qH} {h : qH} {r0 : Nat} {x1 : Int32} {fs1 : List Value} {h1 : qH} {z3 : Int32}  (e2 : h.2.2 r0 = some (.inr (12, fs1))) (e4 : qCall d 179 [.ref r0] h ((some (.int z3)), h1)) (e5 : ¬ ((z3 : Int32) = 91)) (kk : qE d 116 118 [some (.ref r0), some (.int x1)] [] h1 q): qE d 116 109 [some (.ref r0), some (.int x1)] [] h q := by
  refine qe_aload_n c116_109 rfl ?_
  refine qe_virtual (b := r0) (as := []) (r := []) (v := (some (.int z3))) (h2 := h1) c116_110 qo116 qK12_332 rfl rfl rfl (by rw [qo179]; exact e2) (Nat.le_of_ble_eq_true rfl) e4 ?_
  refine qe_bipush (x := 91) c116_113 (by decide) ?_
  refine qe_icmp_eq_F (t := 128) c116_115 rfl e5 ?_
  exact kk
theorem b116_109T {d : Nat} {q : Option Value × qH} {h : qH} {r0 : Nat} {x1 : Int32} {fs1 : List Value} {h1 : qH} {z3 : Int32}  (e2 : h.2.2 r0 = some (.inr (12, fs1))) (e4 : qCall d 179 [.ref r0] h ((some (.int z3)), h1)) (e5 : (z3 : Int32) = 91) (kk : qE d 116 128 [some (.ref r0), some (.int x1)] [] h1 q): qE d 116 109 [some (.ref r0), some (.int x1)] [] h q := by
  refine qe_aload_n c116_109 rfl ?_
  refine qe_virtual (b := r0) (as := []) (r := []) (v := (some (.int z3))) (h2 := h1) c116_110 qo116 qK12_332 rfl rfl rfl (by rw [qo179]; exact e2) (Nat.le_of_ble_eq_true rfl) e4 ?_
  refine qe_bipush (x := 91) c116_113 (by decide) ?_
  refine qe_icmp_eq_T (t := 128) c116_115 rfl e5 ?_
  exact kk
theorem b116_118F {d : Nat} {q : Option Value × qH} {h : qH} {r0 : Nat} {x1 : Int32} {fs1 : List Value} {h1 : qH} {z3 : Int32} {h2 : qH} {z5 : Int32}  (e2 : h.2.2 r0 = some (.inr (12, fs1))) (e4 : qCall d 179 [.ref r0] h ((some (.int z3)), h1)) (e6 : qCall d 131 [.int z3] h1 ((some (.int z5)), h2)) (e7 : ¬ ((z5 : Int32) = 0)) (kk : qE d 116 128 [some (.ref r0), some (.int x1)] [] h2 q): qE d 116 118 [some (.ref r0), some (.int x1)] [] h q := by
  refine qe_aload_n c116_118 rfl ?_
  refine qe_virtual (b := r0) (as := []) (r := []) (v := (some (.int z3))) (h2 := h1) c116_119 qo116 qK12_332 rfl rfl rfl (by rw [qo179]; exact e2) (Nat.le_of_ble_eq_true rfl) e4 ?_
  refine qe_static (as := [.int z3]) (r := []) (v := (some (.int z5))) (h2 := h2) c116_122 qo116 (by decide) qK12_361 rfl rfl rfl (Nat.le_of_ble_eq_true rfl) e6 ?_
  refine qe_if_eq_F (t := 137) c116_125 rfl e7 ?_
  exact kk
theorem b116_118T {d : Nat} {q : Option Value × qH} {h : qH} {r0 : Nat} {x1 : Int32} {fs1 : List Value} {h1 : qH} {z3 : Int32} {h2 : qH} {z5 : Int32}  (e2 : h.2.2 r0 = some (.inr (12, fs1))) (e4 : qCall d 179 [.ref r0] h ((some (.int z3)), h1)) (e6 : qCall d 131 [.int z3] h1 ((some (.int z5)), h2)) (e7 : (z5 : Int32) = 0) (kk : qE d 116 137 [some (.ref r0), some (.int x1)] [] h2 q): qE d 116 118 [some (.ref r0), some (.int x1)] [] h q := by
  refine qe_aload_n c116_118 rfl ?_
  refine qe_virtual (b := r0) (as := []) (r := []) (v := (some (.int z3))) (h2 := h1) c116_119 qo116 qK12_332 rfl rfl rfl (by rw [qo179]; exact e2) (Nat.le_of_ble_eq_true rfl) e4 ?_
  refine qe_static (as := [.int z3]) (r := []) (v := (some (.int z5))) (h2 := h2) c116_122 qo116 (by decide) qK12_361 rfl rfl rfl (Nat.le_of_ble_eq_true rfl) e6 ?_
  refine qe_if_eq_T (t := 137) c116_125 rfl e7 ?_
  exact kk
theorem b116_128 {d : Nat} {q : Option Value × qH} {h : qH} {r0 : Nat} {x1 : Int32} {fs1 : List Value} {y3 : Int32} {h1 : qH}  (e2 : h.2.2 r0 = some (.inr (12, fs1))) (e4 : fs1[44]? = some (.int y3)) (e5 : qCall d 190 [.ref r0, .int 1, .int y3] h (none, h1)) (kk : qE d 116 137 [some (.ref r0), some (.int x1)] [] h1 q): qE d 116 128 [some (.ref r0), some (.int x1)] [] h q := by
  refine qe_aload_n c116_128 rfl ?_
  refine qe_iconst (x := 1) c116_129 (by decide) ?_
  refine qe_aload_n c116_130 rfl ?_
  refine qe_getfield c116_131 qo116 qF12_290 e2 e4 ?_
  refine qe_virtual (b := r0) (as := [.int 1, .int y3]) (r := []) (v := none) (h2 := h1) c116_134 qo116 qK12_312 rfl rfl rfl (by rw [qo190]; exact e2) (Nat.le_of_ble_eq_true rfl) e5 ?_
  exact kk
theorem b116_137 {d : Nat} {h : qH} {r0 : Nat} {x1 : Int32} {fs1 : List Value} {h1 : qH}  (e2 : h.2.2 r0 = some (.inr (12, fs1))) (e3 : qCall d 155 [.ref r0, .int x1] h (none, h1)) : qE d 116 137 [some (.ref r0), some (.int x1)] [] h (some (.int 1), h1) := by
  refine qe_aload_n c116_137 rfl ?_
  refine qe_iload_n c116_138 rfl ?_
  refine qe_virtual (b := r0) (as := [.int x1]) (r := []) (v := none) (h2 := h1) c116_139 qo116 qK12_319 rfl rfl rfl (by rw [qo155]; exact e2) (Nat.le_of_ble_eq_true rfl) e3 ?_
  refine qe_iconst (x := 1) c116_142 (by decide) ?_
  exact qe_zret c116_143 qr116 (by decide)
theorem b116_144F {d : Nat} {q : Option Value × qH} {h : qH} {r0 : Nat} {x1 : Int32} {fs1 : List Value} {h1 : qH} {z3 : Int32} {h2 : qH} {z5 : Int32}  (e2 : h.2.2 r0 = some (.inr (12, fs1))) (e4 : qCall d 179 [.ref r0] h ((some (.int z3)), h1)) (e6 : qCall d 131 [.int z3] h1 ((some (.int z5)), h2)) (e7 : ¬ ((z5 : Int32) = 0)) (kk : qE d 116 154 [some (.ref r0), some (.int x1)] [] h2 q): qE d 116 144 [some (.ref r0), some (.int x1)] [] h q := by
  refine qe_aload_n c116_144 rfl ?_
  refine qe_virtual (b := r0) (as := []) (r := []) (v := (some (.int z3))) (h2 := h1) c116_145 qo116 qK12_332 rfl rfl rfl (by rw [qo179]; exact e2) (Nat.le_of_ble_eq_true rfl) e4 ?_
  refine qe_static (as := [.int z3]) (r := []) (v := (some (.int z5))) (h2 := h2) c116_148 qo116 (by decide) qK12_361 rfl rfl rfl (Nat.le_of_ble_eq_true rfl) e6 ?_
  refine qe_if_eq_F (t := 176) c116_151 rfl e7 ?_
  exact kk
theorem b116_144T {d : Nat} {q : Option Value × qH} {h : qH} {r0 : Nat} {x1 : Int32} {fs1 : List Value} {h1 : qH} {z3 : Int32} {h2 : qH} {z5 : Int32}  (e2 : h.2.2 r0 = some (.inr (12, fs1))) (e4 : qCall d 179 [.ref r0] h ((some (.int z3)), h1)) (e6 : qCall d 131 [.int z3] h1 ((some (.int z5)), h2)) (e7 : (z5 : Int32) = 0) (kk : qE d 116 176 [some (.ref r0), some (.int x1)] [] h2 q): qE d 116 144 [some (.ref r0), some (.int x1)] [] h q := by
  refine qe_aload_n c116_144 rfl ?_
  refine qe_virtual (b := r0) (as := []) (r := []) (v := (some (.int z3))) (h2 := h1) c116_145 qo116 qK12_332 rfl rfl rfl (by rw [qo179]; exact e2) (Nat.le_of_ble_eq_true rfl) e4 ?_
  refine qe_static (as := [.int z3]) (r := []) (v := (some (.int z5))) (h2 := h2) c116_148 qo116 (by decide) qK12_361 rfl rfl rfl (Nat.le_of_ble_eq_true rfl) e6 ?_
  refine qe_if_eq_T (t := 176) c116_151 rfl e7 ?_
  exact kk
theorem b116_154 {d : Nat} {q : Option Value × qH} {h : qH} {r0 : Nat} {x1 : Int32} {fs1 : List Value} {h1 : qH} {z3 : Int32} {fs5 : List Value} {h2 : qH} {fs8 : List Value} {y10 : Int32} {h3 : qH}  (e2 : h.2.2 r0 = some (.inr (12, fs1))) (e4 : qCall d 179 [.ref r0] h ((some (.int z3)), h1)) (e6 : h1.2.2 r0 = some (.inr (12, fs5))) (e7 : qCall d 103 [.ref r0, .int z3, .int 0] h1 (none, h2)) (e9 : h2.2.2 r0 = some (.inr (12, fs8))) (e11 : fs8[50]? = some (.int y10)) (e12 : 50 < fs8.length) (e13 : qset h2 r0 (.inr (12, fs8.set 50 (.int (y10 - 1)))) = h3) (kk : qE d 116 185 [some (.ref r0), some (.int x1)] [] h3 q): qE d 116 154 [some (.ref r0), some (.int x1)] [] h q := by
  refine qe_aload_n c116_154 rfl ?_
  refine qe_aload_n c116_155 rfl ?_
  refine qe_virtual (b := r0) (as := []) (r := [.ref r0]) (v := (some (.int z3))) (h2 := h1) c116_156 qo116 qK12_332 rfl rfl rfl (by rw [qo179]; exact e2) (Nat.le_of_ble_eq_true rfl) e4 ?_
  refine qe_iconst (x := 0) c116_159 (by decide) ?_
  refine qe_virtual (b := r0) (as := [.int z3, .int 0]) (r := []) (v := none) (h2 := h2) c116_160 qo116 qK12_341 rfl rfl rfl (by rw [qo103]; exact e6) (Nat.le_of_ble_eq_true rfl) e7 ?_
  refine qe_aload_n c116_163 rfl ?_
  refine qe_dup c116_164 rfl ?_
  refine qe_getfield c116_165 qo116 qF12_306 e9 e11 ?_
  refine qe_iconst (x := 1) c116_168 (by decide) ?_
  refine qe_isub c116_169 ?_
  refine qe_putfield c116_170 qo116 qF12_306 qz12_50 e9 e12 (by rw [qy12_50]; rfl) ?_
  rw [e13]
  refine qe_goto (t := 185) c116_173 rfl ?_
  exact kk
theorem b116_176 {d : Nat} {q : Option Value × qH} {h : qH} {r0 : Nat} {x1 : Int32} {fs1 : List Value} {y3 : Int32} {h1 : qH}  (e2 : h.2.2 r0 = some (.inr (12, fs1))) (e4 : fs1[44]? = some (.int y3)) (e5 : qCall d 190 [.ref r0, .int 1, .int y3] h (none, h1)) (kk : qE d 116 185 [some (.ref r0), some (.int x1)] [] h1 q): qE d 116 176 [some (.ref r0), some (.int x1)] [] h q := by
  refine qe_aload_n c116_176 rfl ?_
  refine qe_iconst (x := 1) c116_177 (by decide) ?_
  refine qe_aload_n c116_178 rfl ?_
  refine qe_getfield c116_179 qo116 qF12_290 e2 e4 ?_
  refine qe_virtual (b := r0) (as := [.int 1, .int y3]) (r := []) (v := none) (h2 := h1) c116_182 qo116 qK12_312 rfl rfl rfl (by rw [qo190]; exact e2) (Nat.le_of_ble_eq_true rfl) e5 ?_
  exact kk
theorem b116_185 {d : Nat} {h : qH} {r0 : Nat} {x1 : Int32}   : qE d 116 185 [some (.ref r0), some (.int x1)] [] h (some (.int 0), h) := by
  refine qe_iconst (x := 0) c116_185 (by decide) ?_
  exact qe_zret c116_186 qr116 (by decide)
theorem b117_0 {d : Nat} {q : Option Value × qH} {h : qH} {r0 : Nat} {x1 : Int32} {x2 : Int32}   (kk : qE d 117 2 [some (.ref r0), some (.int x1), some (.int x2), some (.int 0), none, none, none, none] [] h q): qE d 117 0 [some (.ref r0), some (.int x1), some (.int x2), none, none, none, none, none] [] h q := by
  refine qe_iconst (x := 0) c117_0 (by decide) ?_
  refine qe_istore_n (ls2 := [some (.ref r0), some (.int x1), some (.int x2), some (.int 0), none, none, none, none]) c117_1 (Nat.le_of_ble_eq_true rfl) rfl ?_
  exact kk
theorem b117_2F {d : Nat} {q : Option Value × qH} {h : qH} {r0 : Nat} {x1 : Int32} {x2 : Int32} {x3 : Int32}  (e1 : ¬ ((8 : Int32) ≤ x3)) (kk : qE d 117 8 [some (.ref r0), some (.int x1), some (.int x2), some (.int x3), none, none, none, none] [] h q): qE d 117 2 [some (.ref r0), some (.int x1), some (.int x2), some (.int x3), none, none, none, none] [] h q := by
  refine qe_iload_n c117_2 rfl ?_
  refine qe_bipush (x := 8) c117_3 (by decide) ?_
  refine qe_icmp_ge_F (t := 21) c117_5 rfl e1 ?_
  exact kk
theorem b117_2T {d : Nat} {q : Option Value × qH} {h : qH} {r0 : Nat} {x1 : Int32} {x2 : Int32} {x3 : Int32}  (e1 : (8 : Int32) ≤ x3) (kk : qE d 117 21 [some (.ref r0), some (.int x1), some (.int x2), some (.int x3), none, none, none, none] [] h q): qE d 117 2 [some (.ref r0), some (.int x1), some (.int x2), some (.int x3), none, none, none, none] [] h q := by
  refine qe_iload_n c117_2 rfl ?_
  refine qe_bipush (x := 8) c117_3 (by decide) ?_
  refine qe_icmp_ge_T (t := 21) c117_5 rfl e1 ?_
  exact kk
theorem b117_8 {d : Nat} {q : Option Value × qH} {h : qH} {r0 : Nat} {x1 : Int32} {x2 : Int32} {x3 : Int32} {fs1 : List Value} {y3 : Nat} {n5 : Nat} {f6 : Nat → Int32} {h1 : qH}  (e2 : h.2.2 r0 = some (.inr (12, fs1))) (e4 : fs1[24]? = some (.ref y3)) (e7 : h.2.2 y3 = some (.inl (0, n5, .inl f6))) (e8 : 0 ≤ (x3 : Int32).toInt ∧ (x3 : Int32).toInt < (n5 : Nat)) (e9 : qset h y3 (.inl (0, n5, .inl (upd f6 ((x3 : Int32).toNatClampNeg) x3))) = h1) (kk : qE d 117 2 [some (.ref r0), some (.int x1), some (.int x2), some (.int (x3 + 1)), none, none, none, none] [] h1 q): qE d 117 8 [some (.ref r0), some (.int x1), some (.int x2), some (.int x3), none, none, none, none] [] h q := by
  refine qe_aload_n c117_8 rfl ?_
  refine qe_getfield c117_9 qo117 qF12_58 e2 e4 ?_
  refine qe_iload_n c117_12 rfl ?_
  refine qe_iload_n c117_13 rfl ?_
  refine qe_iastore c117_14 e7 e8 ?_
  rw [e9]
  refine qe_iinc (y := (x3 + 1)) (ls2 := [some (.ref r0), some (.int x1), some (.int x2), some (.int (x3 + 1)), none, none, none, none]) c117_15 rfl (Nat.le_of_ble_eq_true rfl) rfl rfl ?_
  refine qe_goto (t := 2) c117_18 rfl ?_
  exact kk
theorem b117_21 {d : Nat} {q : Option Value × qH} {h : qH} {r0 : Nat} {x1 : Int32} {x2 : Int32} {x3 : Int32}   (kk : qE d 117 23 [some (.ref r0), some (.int x1), some (.int x2), some (.int 0), none, none, none, none] [] h q): qE d 117 21 [some (.ref r0), some (.int x1), some (.int x2), some (.int x3), none, none, none, none] [] h q := by
  refine qe_iconst (x := 0) c117_21 (by decide) ?_
  refine qe_istore_n (ls2 := [some (.ref r0), some (.int x1), some (.int x2), some (.int 0), none, none, none, none]) c117_22 (Nat.le_of_ble_eq_true rfl) rfl ?_
  exact kk
theorem b117_23F {d : Nat} {q : Option Value × qH} {h : qH} {r0 : Nat} {x1 : Int32} {x2 : Int32} {x3 : Int32} {o4 : Option Value} {o5 : Option Value} {o6 : Option Value} {o7 : Option Value}  (e1 : ¬ ((8 : Int32) ≤ x3)) (kk : qE d 117 29 [some (.ref r0), some (.int x1), some (.int x2), some (.int x3), o4, o5, o6, o7] [] h q): qE d 117 23 [some (.ref r0), some (.int x1), some (.int x2), some (.int x3), o4, o5, o6, o7] [] h q := by
  refine qe_iload_n c117_23 rfl ?_
  refine qe_bipush (x := 8) c117_24 (by decide) ?_
  refine qe_icmp_ge_F (t := 160) c117_26 rfl e1 ?_
  exact kk
theorem b117_23T {d : Nat} {q : Option Value × qH} {h : qH} {r0 : Nat} {x1 : Int32} {x2 : Int32} {x3 : Int32} {o4 : Option Value} {o5 : Option Value} {o6 : Option Value} {o7 : Option Value}  (e1 : (8 : Int32) ≤ x3) (kk : qE d 117 160 [some (.ref r0), some (.int x1), some (.int x2), some (.int x3), o4, o5, o6, o7] [] h q): qE d 117 23 [some (.ref r0), some (.int x1), some (.int x2), some (.int x3), o4, o5, o6, o7] [] h q := by
  refine qe_iload_n c117_23 rfl ?_
  refine qe_bipush (x := 8) c117_24 (by decide) ?_
  refine qe_icmp_ge_T (t := 160) c117_26 rfl e1 ?_
  exact kk
theorem b117_29 {d : Nat} {q : Option Value × qH} {h : qH} {r0 : Nat} {x1 : Int32} {x2 : Int32} {x3 : Int32} {o4 : Option Value} {o5 : Option Value} {o6 : Option Value} {o7 : Option Value}   (kk : qE d 117 32 [some (.ref r0), some (.int x1), some (.int x2), some (.int x3), some (.int 0), o5, o6, o7] [] h q): qE d 117 29 [some (.ref r0), some (.int x1), some (.int x2), some (.int x3), o4, o5, o6, o7] [] h q := by
  refine qe_iconst (x := 0) c117_29 (by decide) ?_
  refine qe_istore (ls2 := [some (.ref r0), some (.int x1), some (.int x2), some (.int x3), some (.int 0), o5, o6, o7]) c117_30 (Nat.le_of_ble_eq_true rfl) rfl ?_
  exact kk
theorem b117_32F {d : Nat} {q : Option Value × qH} {h : qH} {r0 : Nat} {x1 : Int32} {x2 : Int32} {x3 : Int32} {x4 : Int32} {o5 : Option Value} {o6 : Option Value} {o7 : Option Value} {fs1 : List Value} {y3 : Int32}  (e2 : h.2.2 r0 = some (.inr (12, fs1))) (e4 : fs1[4]? = some (.int y3)) (e5 : ¬ ((y3 : Int32) ≤ x4)) (kk : qE d 117 41 [some (.ref r0), some (.int x1), some (.int x2), some (.int x3), some (.int x4), o5, o6, o7] [] h q): qE d 117 32 [some (.ref r0), some (.int x1), some (.int x2), some (.int x3), some (.int x4), o5, o6, o7] [] h q := by
  refine qe_iload c117_32 rfl ?_
  refine qe_aload_n c117_34 rfl ?_
  refine qe_getfield c117_35 qo117 qF12_194 e2 e4 ?_
  refine qe_icmp_ge_F (t := 154) c117_38 rfl e5 ?_
  exact kk
theorem b117_32T {d : Nat} {q : Option Value × qH} {h : qH} {r0 : Nat} {x1 : Int32} {x2 : Int32} {x3 : Int32} {x4 : Int32} {o5 : Option Value} {o6 : Option Value} {o7 : Option Value} {fs1 : List Value} {y3 : Int32}  (e2 : h.2.2 r0 = some (.inr (12, fs1))) (e4 : fs1[4]? = some (.int y3)) (e5 : (y3 : Int32) ≤ x4) (kk : qE d 117 154 [some (.ref r0), some (.int x1), some (.int x2), some (.int x3), some (.int x4), o5, o6, o7] [] h q): qE d 117 32 [some (.ref r0), some (.int x1), some (.int x2), some (.int x3), some (.int x4), o5, o6, o7] [] h q := by
  refine qe_iload c117_32 rfl ?_
  refine qe_aload_n c117_34 rfl ?_
  refine qe_getfield c117_35 qo117 qF12_194 e2 e4 ?_
  refine qe_icmp_ge_T (t := 154) c117_38 rfl e5 ?_
  exact kk
theorem b117_41F {d : Nat} {q : Option Value × qH} {h : qH} {r0 : Nat} {x1 : Int32} {x2 : Int32} {x3 : Int32} {x4 : Int32} {o5 : Option Value} {o6 : Option Value} {o7 : Option Value}  (e1 : ¬ ((x2 : Int32) = 0)) (kk : qE d 117 45 [some (.ref r0), some (.int x1), some (.int x2), some (.int x3), some (.int x4), o5, o6, o7] [] h q): qE d 117 41 [some (.ref r0), some (.int x1), some (.int x2), some (.int x3), some (.int x4), o5, o6, o7] [] h q := by
  refine qe_iload_n c117_41 rfl ?_
  refine qe_if_eq_F (t := 61) c117_42 rfl e1 ?_
  exact kk
theorem b117_41T {d : Nat} {q : Option Value × qH} {h : qH} {r0 : Nat} {x1 : Int32} {x2 : Int32} {x3 : Int32} {x4 : Int32} {o5 : Option Value} {o6 : Option Value} {o7 : Option Value}  (e1 : (x2 : Int32) = 0) (kk : qE d 117 61 [some (.ref r0), some (.int x1), some (.int x2), some (.int x3), some (.int x4), o5, o6, o7] [] h q): qE d 117 41 [some (.ref r0), some (.int x1), some (.int x2), some (.int x3), some (.int x4), o5, o6, o7] [] h q := by
  refine qe_iload_n c117_41 rfl ?_
  refine qe_if_eq_T (t := 61) c117_42 rfl e1 ?_
  exact kk
theorem b117_45F {d : Nat} {q : Option Value × qH} {h : qH} {r0 : Nat} {x1 : Int32} {x2 : Int32} {x3 : Int32} {x4 : Int32} {o5 : Option Value} {o6 : Option Value} {o7 : Option Value} {fs1 : List Value} {y3 : Nat} {n5 : Nat} {f6 : Nat → Int32}  (e2 : h.2.2 r0 = some (.inr (12, fs1))) (e4 : fs1[10]? = some (.ref y3)) (e7 : h.2.2 y3 = some (.inl (0, n5, .inl f6))) (e8 : 0 ≤ ((x1 + x4) : Int32).toInt ∧ ((x1 + x4) : Int32).toInt < (n5 : Nat)) (e9 : ((f6 ((x1 + x4) : Int32).toNatClampNeg) : Int32) = 3) (kk : qE d 117 58 [some (.ref r0), some (.int x1), some (.int x2), some (.int x3), some (.int x4), o5, o6, o7] [] h q): qE d 117 45 [some (.ref r0), some (.int x1), some (.int x2), some (.int x3), some (.int x4), o5, o6, o7] [] h q := by
  refine qe_aload_n c117_45 rfl ?_
  refine qe_getfield c117_46 qo117 qF12_14 e2 e4 ?_
  refine qe_iload_n c117_49 rfl ?_
  refine qe_iload c117_50 rfl ?_
  refine qe_iadd c117_52 ?_
  refine qe_iaload c117_53 e7 e8 ?_
  refine qe_iconst (x := 3) c117_54 (by decide) ?_
  refine qe_icmp_ne_F (t := 76) c117_55 rfl e9 ?_
  exact kk
theorem b117_45T {d : Nat} {q : Option Value × qH} {h : qH} {r0 : Nat} {x1 : Int32} {x2 : Int32} {x3 : Int32} {x4 : Int32} {o5 : Option Value} {o6 : Option Value} {o7 : Option Value} {fs1 : List Value} {y3 : Nat} {n5 : Nat} {f6 : Nat → Int32}  (e2 : h.2.2 r0 = some (.inr (12, fs1))) (e4 : fs1[10]? = some (.ref y3)) (e7 : h.2.2 y3 = some (.inl (0, n5, .inl f6))) (e8 : 0 ≤ ((x1 + x4) : Int32).toInt ∧ ((x1 + x4) : Int32).toInt < (n5 : Nat)) (e9 : ¬ (((f6 ((x1 + x4) : Int32).toNatClampNeg) : Int32) = 3)) (kk : qE d 117 76 [some (.ref r0), some (.int x1), some (.int x2), some (.int x3), some (.int x4), o5, o6, o7] [] h q): qE d 117 45 [some (.ref r0), some (.int x1), some (.int x2), some (.int x3), some (.int x4), o5, o6, o7] [] h q := by
  refine qe_aload_n c117_45 rfl ?_
  refine qe_getfield c117_46 qo117 qF12_14 e2 e4 ?_
  refine qe_iload_n c117_49 rfl ?_
  refine qe_iload c117_50 rfl ?_
  refine qe_iadd c117_52 ?_
  refine qe_iaload c117_53 e7 e8 ?_
  refine qe_iconst (x := 3) c117_54 (by decide) ?_
  refine qe_icmp_ne_T (t := 76) c117_55 rfl e9 ?_
  exact kk
theorem b117_58 {d : Nat} {q : Option Value × qH} {h : qH} {r0 : Nat} {x1 : Int32} {x2 : Int32} {x3 : Int32} {x4 : Int32} {o5 : Option Value} {o6 : Option Value} {o7 : Option Value}   (kk : qE d 117 148 [some (.ref r0), some (.int x1), some (.int x2), some (.int x3), some (.int x4), o5, o6, o7] [] h q): qE d 117 58 [some (.ref r0), some (.int x1), some (.int x2), some (.int x3), some (.int x4), o5, o6, o7] [] h q := by
  refine qe_goto (t := 148) c117_58 rfl ?_
  exact kk
theorem b117_61F {d : Nat} {q : Option Value × qH} {h : qH} {r0 : Nat} {x1 : Int32} {x2 : Int32} {x3 : Int32} {x4 : Int32} {o5 : Option Value} {o6 : Option Value} {o7 : Option Value} {fs1 : List Value} {y3 : Nat} {n5 : Nat} {f6 : Nat → Int32}  (e2 : h.2.2 r0 = some (.inr (12, fs1))) (e4 : fs1[10]? = some (.ref y3)) (e7 : h.2.2 y3 = some (.inl (0, n5, .inl f6))) (e8 : 0 ≤ ((x1 + x4) : Int32).toInt ∧ ((x1 + x4) : Int32).toInt < (n5 : Nat)) (e9 : ¬ (((f6 ((x1 + x4) : Int32).toNatClampNeg) : Int32) = 0)) (kk : qE d 117 73 [some (.ref r0), some (.int x1), some (.int x2), some (.int x3), some (.int x4), o5, o6, o7] [] h q): qE d 117 61 [some (.ref r0), some (.int x1), some (.int x2), some (.int x3), some (.int x4), o5, o6, o7] [] h q := by
  refine qe_aload_n c117_61 rfl ?_
  refine qe_getfield c117_62 qo117 qF12_14 e2 e4 ?_
  refine qe_iload_n c117_65 rfl ?_
  refine qe_iload c117_66 rfl ?_
  refine qe_iadd c117_68 ?_
  refine qe_iaload c117_69 e7 e8 ?_
  refine qe_if_eq_F (t := 76) c117_70 rfl e9 ?_
  exact kk
theorem b117_61T {d : Nat} {q : Option Value × qH} {h : qH} {r0 : Nat} {x1 : Int32} {x2 : Int32} {x3 : Int32} {x4 : Int32} {o5 : Option Value} {o6 : Option Value} {o7 : Option Value} {fs1 : List Value} {y3 : Nat} {n5 : Nat} {f6 : Nat → Int32}  (e2 : h.2.2 r0 = some (.inr (12, fs1))) (e4 : fs1[10]? = some (.ref y3)) (e7 : h.2.2 y3 = some (.inl (0, n5, .inl f6))) (e8 : 0 ≤ ((x1 + x4) : Int32).toInt ∧ ((x1 + x4) : Int32).toInt < (n5 : Nat)) (e9 : ((f6 ((x1 + x4) : Int32).toNatClampNeg) : Int32) = 0) (kk : qE d 117 76 [some (.ref r0), some (.int x1), some (.int x2), some (.int x3), some (.int x4), o5, o6, o7] [] h q): qE d 117 61 [some (.ref r0), some (.int x1), some (.int x2), some (.int x3), some (.int x4), o5, o6, o7] [] h q := by
  refine qe_aload_n c117_61 rfl ?_
  refine qe_getfield c117_62 qo117 qF12_14 e2 e4 ?_
  refine qe_iload_n c117_65 rfl ?_
  refine qe_iload c117_66 rfl ?_
  refine qe_iadd c117_68 ?_
  refine qe_iaload c117_69 e7 e8 ?_
  refine qe_if_eq_T (t := 76) c117_70 rfl e9 ?_
  exact kk
theorem b117_73 {d : Nat} {q : Option Value × qH} {h : qH} {r0 : Nat} {x1 : Int32} {x2 : Int32} {x3 : Int32} {x4 : Int32} {o5 : Option Value} {o6 : Option Value} {o7 : Option Value}   (kk : qE d 117 148 [some (.ref r0), some (.int x1), some (.int x2), some (.int x3), some (.int x4), o5, o6, o7] [] h q): qE d 117 73 [some (.ref r0), some (.int x1), some (.int x2), some (.int x3), some (.int x4), o5, o6, o7] [] h q := by
  refine qe_goto (t := 148) c117_73 rfl ?_
  exact kk
theorem b117_76F {d : Nat} {q : Option Value × qH} {h : qH} {r0 : Nat} {x1 : Int32} {x2 : Int32} {x3 : Int32} {x4 : Int32} {o5 : Option Value} {o6 : Option Value} {o7 : Option Value} {fs1 : List Value} {y3 : Nat} {y5 : Nat} {n7 : Nat} {f8 : Nat → Int32} {n11 : Nat} {f12 : Nat → Int32} {y16 : Nat} {n18 : Nat} {f19 : Nat → Int32}  (e2 : h.2.2 r0 = some (.inr (12, fs1))) (e4 : fs1[24]? = some (.ref y3)) (e6 : fs1[13]? = some (.ref y5)) (e9 : h.2.2 y5 = some (.inl (0, n7, .inl f8))) (e10 : 0 ≤ (x4 : Int32).toInt ∧ (x4 : Int32).toInt < (n7 : Nat)) (e13 : h.2.2 y3 = some (.inl (0, n11, .inl f12))) (e14 : 0 ≤ ((f8 (x4 : Int32).toNatClampNeg) : Int32).toInt ∧ ((f8 (x4 : Int32).toNatClampNeg) : Int32).toInt < (n11 : Nat)) (e17 : fs1[14]? = some (.ref y16)) (e20 : h.2.2 y16 = some (.inl (0, n18, .inl f19))) (e21 : 0 ≤ (x4 : Int32).toInt ∧ (x4 : Int32).toInt < (n18 : Nat)) (e22 : 0 ≤ ((f19 (x4 : Int32).toNatClampNeg) : Int32).toInt ∧ ((f19 (x4 : Int32).toNatClampNeg) : Int32).toInt < (n11 : Nat)) (e23 : ¬ (((f12 ((f19 (x4 : Int32).toNatClampNeg) : Int32).toNatClampNeg) : Int32) ≤ (f12 ((f8 (x4 : Int32).toNatClampNeg) : Int32).toNatClampNeg))) (kk : qE d 117 111 [some (.ref r0), some (.int x1), some (.int x2), some (.int x3), some (.int x4), some (.int (f12 ((f8 (x4 : Int32).toNatClampNeg) : Int32).toNatClampNeg)), some (.int (f12 ((f19 (x4 : Int32).toNatClampNeg) : Int32).toNatClampNeg)), o7] [] h q): qE d 117 76 [some (.ref r0), some (.int x1), some (.int x2), some (.int x3), some (.int x4), o5, o6, o7] [] h q := by
  refine qe_aload_n c117_76 rfl ?_
  refine qe_getfield c117_77 qo117 qF12_58 e2 e4 ?_
  refine qe_aload_n c117_80 rfl ?_
  refine qe_getfield c117_81 qo117 qF12_24 e2 e6 ?_
  refine qe_iload c117_84 rfl ?_
  refine qe_iaload c117_86 e9 e10 ?_
  refine qe_iaload c117_87 e13 e14 ?_
  refine qe_istore (ls2 := [some (.ref r0), some (.int x1), some (.int x2), some (.int x3), some (.int x4), some (.int (f12 ((f8 (x4 : Int32).toNatClampNeg) : Int32).toNatClampNeg)), o6, o7]) c117_88 (Nat.le_of_ble_eq_true rfl) rfl ?_
  refine qe_aload_n c117_90 rfl ?_
  refine qe_getfield c117_91 qo117 qF12_58 e2 e4 ?_
  refine qe_aload_n c117_94 rfl ?_
  refine qe_getfield c117_95 qo117 qF12_27 e2 e17 ?_
  refine qe_iload c117_98 rfl ?_
  refine qe_iaload c117_100 e20 e21 ?_
  refine qe_iaload c117_101 e13 e22 ?_
  refine qe_istore (ls2 := [some (.ref r0), some (.int x1), some (.int x2), some (.int x3), some (.int x4), some (.int (f12 ((f8 (x4 : Int32).toNatClampNeg) : Int32).toNatClampNeg)), some (.int (f12 ((f19 (x4 : Int32).toNatClampNeg) : Int32).toNatClampNeg)), o7]) c117_102 (Nat.le_of_ble_eq_true rfl) rfl ?_
  refine qe_iload c117_104 rfl ?_
  refine qe_iload c117_106 rfl ?_
  refine qe_icmp_ge_F (t := 116) c117_108 rfl e23 ?_
  exact kk
theorem b117_76T {d : Nat} {q : Option Value × qH} {h : qH} {r0 : Nat} {x1 : Int32} {x2 : Int32} {x3 : Int32} {x4 : Int32} {o5 : Option Value} {o6 : Option Value} {o7 : Option Value} {fs1 : List Value} {y3 : Nat} {y5 : Nat} {n7 : Nat} {f8 : Nat → Int32} {n11 : Nat} {f12 : Nat → Int32} {y16 : Nat} {n18 : Nat} {f19 : Nat → Int32}  (e2 : h.2.2 r0 = some (.inr (12, fs1))) (e4 : fs1[24]? = some (.ref y3)) (e6 : fs1[13]? = some (.ref y5)) (e9 : h.2.2 y5 = some (.inl (0, n7, .inl f8))) (e10 : 0 ≤ (x4 : Int32).toInt ∧ (x4 : Int32).toInt < (n7 : Nat)) (e13 : h.2.2 y3 = some (.inl (0, n11, .inl f12))) (e14 : 0 ≤ ((f8 (x4 : Int32).toNatClampNeg) : Int32).toInt ∧ ((f8 (x4 : Int32).toNatClampNeg) : Int32).toInt < (n11 : Nat)) (e17 : fs1[14]? = some (.ref y16)) (e20 : h.2.2 y16 = some (.inl (0, n18, .inl f19))) (e21 : 0 ≤ (x4 : Int32).toInt ∧ (x4 : Int32).toInt < (n18 : Nat)) (e22 : 0 ≤ ((f19 (x4 : Int32).toNatClampNeg) : Int32).toInt ∧ ((f19 (x4 : Int32).toNatClampNeg) : Int32).toInt < (n11 : Nat)) (e23 : ((f12 ((f19 (x4 : Int32).toNatClampNeg) : Int32).toNatClampNeg) : Int32) ≤ (f12 ((f8 (x4 : Int32).toNatClampNeg) : Int32).toNatClampNeg)) (kk : qE d 117 116 [some (.ref r0), some (.int x1), some (.int x2), some (.int x3), some (.int x4), some (.int (f12 ((f8 (x4 : Int32).toNatClampNeg) : Int32).toNatClampNeg)), some (.int (f12 ((f19 (x4 : Int32).toNatClampNeg) : Int32).toNatClampNeg)), o7] [] h q): qE d 117 76 [some (.ref r0), some (.int x1), some (.int x2), some (.int x3), some (.int x4), o5, o6, o7] [] h q := by
  refine qe_aload_n c117_76 rfl ?_
  refine qe_getfield c117_77 qo117 qF12_58 e2 e4 ?_
  refine qe_aload_n c117_80 rfl ?_
  refine qe_getfield c117_81 qo117 qF12_24 e2 e6 ?_
  refine qe_iload c117_84 rfl ?_
  refine qe_iaload c117_86 e9 e10 ?_
  refine qe_iaload c117_87 e13 e14 ?_
  refine qe_istore (ls2 := [some (.ref r0), some (.int x1), some (.int x2), some (.int x3), some (.int x4), some (.int (f12 ((f8 (x4 : Int32).toNatClampNeg) : Int32).toNatClampNeg)), o6, o7]) c117_88 (Nat.le_of_ble_eq_true rfl) rfl ?_
  refine qe_aload_n c117_90 rfl ?_
  refine qe_getfield c117_91 qo117 qF12_58 e2 e4 ?_
  refine qe_aload_n c117_94 rfl ?_
  refine qe_getfield c117_95 qo117 qF12_27 e2 e17 ?_
  refine qe_iload c117_98 rfl ?_
  refine qe_iaload c117_100 e20 e21 ?_
  refine qe_iaload c117_101 e13 e22 ?_
  refine qe_istore (ls2 := [some (.ref r0), some (.int x1), some (.int x2), some (.int x3), some (.int x4), some (.int (f12 ((f8 (x4 : Int32).toNatClampNeg) : Int32).toNatClampNeg)), some (.int (f12 ((f19 (x4 : Int32).toNatClampNeg) : Int32).toNatClampNeg)), o7]) c117_102 (Nat.le_of_ble_eq_true rfl) rfl ?_
  refine qe_iload c117_104 rfl ?_
  refine qe_iload c117_106 rfl ?_
  refine qe_icmp_ge_T (t := 116) c117_108 rfl e23 ?_
  exact kk
theorem b117_111 {d : Nat} {q : Option Value × qH} {h : qH} {r0 : Nat} {x1 : Int32} {x2 : Int32} {x3 : Int32} {x4 : Int32} {x5 : Int32} {x6 : Int32} {o7 : Option Value}   (kk : qE d 117 118 [some (.ref r0), some (.int x1), some (.int x2), some (.int x3), some (.int x4), some (.int x5), some (.int x6), o7] [.int x5] h q): qE d 117 111 [some (.ref r0), some (.int x1), some (.int x2), some (.int x3), some (.int x4), some (.int x5), some (.int x6), o7] [] h q := by
  refine qe_iload c117_111 rfl ?_
  refine qe_goto (t := 118) c117_113 rfl ?_
  exact kk
theorem b117_116 {d : Nat} {q : Option Value × qH} {h : qH} {r0 : Nat} {x1 : Int32} {x2 : Int32} {x3 : Int32} {x4 : Int32} {x5 : Int32} {x6 : Int32} {o7 : Option Value}   (kk : qE d 117 118 [some (.ref r0), some (.int x1), some (.int x2), some (.int x3), some (.int x4), some (.int x5), some (.int x6), o7] [.int x6] h q): qE d 117 116 [some (.ref r0), some (.int x1), some (.int x2), some (.int x3), some (.int x4), some (.int x5), some (.int x6), o7] [] h q := by
  refine qe_iload c117_116 rfl ?_
  exact kk
theorem b117_118 {d : Nat} {q : Option Value × qH} {h : qH} {r0 : Nat} {x1 : Int32} {x2 : Int32} {x3 : Int32} {x4 : Int32} {x5 : Int32} {x6 : Int32} {o7 : Option Value} {xs0 : Int32} {fs1 : List Value} {y3 : Nat} {y5 : Nat} {n7 : Nat} {f8 : Nat → Int32} {n11 : Nat} {f12 : Nat → Int32} {h1 : qH} {fs16 : List Value} {y18 : Nat} {y20 : Nat} {n22 : Nat} {f23 : Nat → Int32} {n26 : Nat} {f27 : Nat → Int32} {h2 : qH}  (e2 : h.2.2 r0 = some (.inr (12, fs1))) (e4 : fs1[24]? = some (.ref y3)) (e6 : fs1[13]? = some (.ref y5)) (e9 : h.2.2 y5 = some (.inl (0, n7, .inl f8))) (e10 : 0 ≤ (x4 : Int32).toInt ∧ (x4 : Int32).toInt < (n7 : Nat)) (e13 : h.2.2 y3 = some (.inl (0, n11, .inl f12))) (e14 : 0 ≤ ((f8 (x4 : Int32).toNatClampNeg) : Int32).toInt ∧ ((f8 (x4 : Int32).toNatClampNeg) : Int32).toInt < (n11 : Nat)) (e15 : qset h y3 (.inl (0, n11, .inl (upd f12 (((f8 (x4 : Int32).toNatClampNeg) : Int32).toNatClampNeg) xs0))) = h1) (e17 : h1.2.2 r0 = some (.inr (12, fs16))) (e19 : fs16[24]? = some (.ref y18)) (e21 : fs16[14]? = some (.ref y20)) (e24 : h1.2.2 y20 = some (.inl (0, n22, .inl f23))) (e25 : 0 ≤ (x4 : Int32).toInt ∧ (x4 : Int32).toInt < (n22 : Nat)) (e28 : h1.2.2 y18 = some (.inl (0, n26, .inl f27))) (e29 : 0 ≤ ((f23 (x4 : Int32).toNatClampNeg) : Int32).toInt ∧ ((f23 (x4 : Int32).toNatClampNeg) : Int32).toInt < (n26 : Nat)) (e30 : qset h1 y18 (.inl (0, n26, .inl (upd f27 (((f23 (x4 : Int32).toNatClampNeg) : Int32).toNatClampNeg) xs0))) = h2) (kk : qE d 117 148 [some (.ref r0), some (.int x1), some (.int x2), some (.int x3), some (.int x4), some (.int x5), some (.int x6), some (.int xs0)] [] h2 q): qE d 117 118 [some (.ref r0), some (.int x1), some (.int x2), some (.int x3), some (.int x4), some (.int x5), some (.int x6), o7] [.int xs0] h q := by
  refine qe_istore (ls2 := [some (.ref r0), some (.int x1), some (.int x2), some (.int x3), some (.int x4), some (.int x5), some (.int x6), some (.int xs0)]) c117_118 (Nat.le_of_ble_eq_true rfl) rfl ?_
  refine qe_aload_n c117_120 rfl ?_
  refine qe_getfield c117_121 qo117 qF12_58 e2 e4 ?_
  refine qe_aload_n c117_124 rfl ?_
  refine qe_getfield c117_125 qo117 qF12_24 e2 e6 ?_
  refine qe_iload c117_128 rfl ?_
  refine qe_iaload c117_130 e9 e10 ?_
  refine qe_iload c117_131 rfl ?_
  refine qe_iastore c117_133 e13 e14 ?_
  rw [e15]
  refine qe_aload_n c117_134 rfl ?_
  refine qe_getfield c117_135 qo117 qF12_58 e17 e19 ?_
  refine qe_aload_n c117_138 rfl ?_
  refine qe_getfield c117_139 qo117 qF12_27 e17 e21 ?_
  refine qe_iload c117_142 rfl ?_
  refine qe_iaload c117_144 e24 e25 ?_
  refine qe_iload c117_145 rfl ?_
  refine qe_iastore c117_147 e28 e29 ?_
  rw [e30]
  exact kk
theorem b117_148 {d : Nat} {q : Option Value × qH} {h : qH} {r0 : Nat} {x1 : Int32} {x2 : Int32} {x3 : Int32} {x4 : Int32} {o5 : Option Value} {o6 : Option Value} {o7 : Option Value}   (kk : qE d 117 32 [some (.ref r0), some (.int x1), some (.int x2), some (.int x3), some (.int (x4 + 1)), o5, o6, o7] [] h q): qE d 117 148 [some (.ref r0), some (.int x1), some (.int x2), some (.int x3), some (.int x4), o5, o6, o7] [] h q := by
  refine qe_iinc (y := (x4 + 1)) (ls2 := [some (.ref r0), some (.int x1), some (.int x2), some (.int x3), some (.int (x4 + 1)), o5, o6, o7]) c117_148 rfl (Nat.le_of_ble_eq_true rfl) rfl rfl ?_
  refine qe_goto (t := 32) c117_151 rfl ?_
  exact kk
theorem b117_154 {d : Nat} {q : Option Value × qH} {h : qH} {r0 : Nat} {x1 : Int32} {x2 : Int32} {x3 : Int32} {x4 : Int32} {o5 : Option Value} {o6 : Option Value} {o7 : Option Value}   (kk : qE d 117 23 [some (.ref r0), some (.int x1), some (.int x2), some (.int (x3 + 1)), some (.int x4), o5, o6, o7] [] h q): qE d 117 154 [some (.ref r0), some (.int x1), some (.int x2), some (.int x3), some (.int x4), o5, o6, o7] [] h q := by
  refine qe_iinc (y := (x3 + 1)) (ls2 := [some (.ref r0), some (.int x1), some (.int x2), some (.int (x3 + 1)), some (.int x4), o5, o6, o7]) c117_154 rfl (Nat.le_of_ble_eq_true rfl) rfl rfl ?_
  refine qe_goto (t := 23) c117_157 rfl ?_
  exact kk
theorem b117_160 {d : Nat} {h : qH} {r0 : Nat} {x1 : Int32} {x2 : Int32} {x3 : Int32} {o4 : Option Value} {o5 : Option Value} {o6 : Option Value} {o7 : Option Value}   : qE d 117 160 [some (.ref r0), some (.int x1), some (.int x2), some (.int x3), o4, o5, o6, o7] [] h (none, h) := by
  exact qe_vret c117_160 qr117
theorem b118_0F {d : Nat} {q : Option Value × qH} {h : qH} {x0 : Int32} {x1 : Int32}  (e1 : (((x0 >>> (x1 &&& 31)) &&& 1) : Int32) = 1) (kk : qE d 118 9 [some (.int x0), some (.int x1)] [] h q): qE d 118 0 [some (.int x0), some (.int x1)] [] h q := by
  refine qe_iload_n c118_0 rfl ?_
  refine qe_iload_n c118_1 rfl ?_
  refine qe_ishr c118_2 ?_
  refine qe_iconst (x := 1) c118_3 (by decide) ?_
  refine qe_iand c118_4 ?_
  refine qe_iconst (x := 1) c118_5 (by decide) ?_
  refine qe_icmp_ne_F (t := 13) c118_6 rfl e1 ?_
  exact kk
theorem b118_0T {d : Nat} {q : Option Value × qH} {h : qH} {x0 : Int32} {x1 : Int32}  (e1 : ¬ ((((x0 >>> (x1 &&& 31)) &&& 1) : Int32) = 1)) (kk : qE d 118 13 [some (.int x0), some (.int x1)] [] h q): qE d 118 0 [some (.int x0), some (.int x1)] [] h q := by
  refine qe_iload_n c118_0 rfl ?_
  refine qe_iload_n c118_1 rfl ?_
  refine qe_ishr c118_2 ?_
  refine qe_iconst (x := 1) c118_3 (by decide) ?_
  refine qe_iand c118_4 ?_
  refine qe_iconst (x := 1) c118_5 (by decide) ?_
  refine qe_icmp_ne_T (t := 13) c118_6 rfl e1 ?_
  exact kk
theorem b118_9 {d : Nat} {q : Option Value × qH} {h : qH} {x0 : Int32} {x1 : Int32}   (kk : qE d 118 14 [some (.int x0), some (.int x1)] [.int 1] h q): qE d 118 9 [some (.int x0), some (.int x1)] [] h q := by
  refine qe_iconst (x := 1) c118_9 (by decide) ?_
  refine qe_goto (t := 14) c118_10 rfl ?_
  exact kk
theorem b118_13 {d : Nat} {q : Option Value × qH} {h : qH} {x0 : Int32} {x1 : Int32}   (kk : qE d 118 14 [some (.int x0), some (.int x1)] [.int 0] h q): qE d 118 13 [some (.int x0), some (.int x1)] [] h q := by
  refine qe_iconst (x := 0) c118_13 (by decide) ?_
  exact kk
theorem b118_14 {d : Nat} {h : qH} {x0 : Int32} {x1 : Int32} {xs0 : Int32}  (e1 : (xs0 : Int32) = 0 ∨ (xs0 : Int32) = 1) : qE d 118 14 [some (.int x0), some (.int x1)] [.int xs0] h (some (.int xs0), h) := by
  exact qe_zret c118_14 qr118 e1
theorem b119_0F {d : Nat} {q : Option Value × qH} {h : qH} {r0 : Nat} {x1 : Int32} {x2 : Int32} {x3 : Int32} {fs1 : List Value} {y3 : Int32} {h1 : qH} {z5 : Int32}  (e2 : h.2.2 r0 = some (.inr (12, fs1))) (e4 : fs1[2]? = some (.int y3)) (e6 : qCall d 143 [.long (x1 : Int32).toInt64, .long 0, .long (y3 : Int32).toInt64] h ((some (.int z5)), h1)) (e7 : ¬ ((z5 : Int32) = 0)) (kk : qE d 119 14 [some (.ref r0), some (.int x1), some (.int x2), some (.int x3)] [] h1 q): qE d 119 0 [some (.ref r0), some (.int x1), some (.int x2), some (.int x3)] [] h q := by
  refine qe_iload_n c119_0 rfl ?_
  refine qe_i2l c119_1 ?_
  refine qe_lconst (x := 0) c119_2 (by decide) ?_
  refine qe_aload_n c119_3 rfl ?_
  refine qe_getfield c119_4 qo119 qF12_202 e2 e4 ?_
  refine qe_i2l c119_7 ?_
  refine qe_static (as := [.long (x1 : Int32).toInt64, .long 0, .long (y3 : Int32).toInt64]) (r := []) (v := (some (.int z5))) (h2 := h1) c119_8 qo119 (by decide) qK12_190 rfl rfl rfl (Nat.le_of_ble_eq_true rfl) e6 ?_
  refine qe_if_eq_F (t := 47) c119_11 rfl e7 ?_
  exact kk
theorem b119_0T {d : Nat} {q : Option Value × qH} {h : qH} {r0 : Nat} {x1 : Int32} {x2 : Int32} {x3 : Int32} {fs1 : List Value} {y3 : Int32} {h1 : qH} {z5 : Int32}  (e2 : h.2.2 r0 = some (.inr (12, fs1))) (e4 : fs1[2]? = some (.int y3)) (e6 : qCall d 143 [.long (x1 : Int32).toInt64, .long 0, .long (y3 : Int32).toInt64] h ((some (.int z5)), h1)) (e7 : (z5 : Int32) = 0) (kk : qE d 119 47 [some (.ref r0), some (.int x1), some (.int x2), some (.int x3)] [] h1 q): qE d 119 0 [some (.ref r0), some (.int x1), some (.int x2), some (.int x3)] [] h q := by
  refine qe_iload_n c119_0 rfl ?_
  refine qe_i2l c119_1 ?_
  refine qe_lconst (x := 0) c119_2 (by decide) ?_
  refine qe_aload_n c119_3 rfl ?_
  refine qe_getfield c119_4 qo119 qF12_202 e2 e4 ?_
  refine qe_i2l c119_7 ?_
  refine qe_static (as := [.long (x1 : Int32).toInt64, .long 0, .long (y3 : Int32).toInt64]) (r := []) (v := (some (.int z5))) (h2 := h1) c119_8 qo119 (by decide) qK12_190 rfl rfl rfl (Nat.le_of_ble_eq_true rfl) e6 ?_
  refine qe_if_eq_T (t := 47) c119_11 rfl e7 ?_
  exact kk
theorem b119_14F {d : Nat} {q : Option Value × qH} {h : qH} {r0 : Nat} {x1 : Int32} {x2 : Int32} {x3 : Int32} {fs1 : List Value} {h1 : qH} {z3 : Int32}  (e2 : h.2.2 r0 = some (.inr (12, fs1))) (e4 : qCall d 130 [.ref r0, .int x2] h ((some (.int z3)), h1)) (e5 : ¬ ((z3 : Int32) = 0)) (kk : qE d 119 22 [some (.ref r0), some (.int x1), some (.int x2), some (.int x3)] [] h1 q): qE d 119 14 [some (.ref r0), some (.int x1), some (.int x2), some (.int x3)] [] h q := by
  refine qe_aload_n c119_14 rfl ?_
  refine qe_iload_n c119_15 rfl ?_
  refine qe_virtual (b := r0) (as := [.int x2]) (r := []) (v := (some (.int z3))) (h2 := h1) c119_16 qo119 qK12_490 rfl rfl rfl (by rw [qo130]; exact e2) (Nat.le_of_ble_eq_true rfl) e4 ?_
  refine qe_if_eq_F (t := 47) c119_19 rfl e5 ?_
  exact kk
theorem b119_14T {d : Nat} {q : Option Value × qH} {h : qH} {r0 : Nat} {x1 : Int32} {x2 : Int32} {x3 : Int32} {fs1 : List Value} {h1 : qH} {z3 : Int32}  (e2 : h.2.2 r0 = some (.inr (12, fs1))) (e4 : qCall d 130 [.ref r0, .int x2] h ((some (.int z3)), h1)) (e5 : (z3 : Int32) = 0) (kk : qE d 119 47 [some (.ref r0), some (.int x1), some (.int x2), some (.int x3)] [] h1 q): qE d 119 14 [some (.ref r0), some (.int x1), some (.int x2), some (.int x3)] [] h q := by
  refine qe_aload_n c119_14 rfl ?_
  refine qe_iload_n c119_15 rfl ?_
  refine qe_virtual (b := r0) (as := [.int x2]) (r := []) (v := (some (.int z3))) (h2 := h1) c119_16 qo119 qK12_490 rfl rfl rfl (by rw [qo130]; exact e2) (Nat.le_of_ble_eq_true rfl) e4 ?_
  refine qe_if_eq_T (t := 47) c119_19 rfl e5 ?_
  exact kk
theorem b119_22F {d : Nat} {q : Option Value × qH} {h : qH} {r0 : Nat} {x1 : Int32} {x2 : Int32} {x3 : Int32} {h1 : qH} {z1 : Int32}  (e2 : qCall d 127 [.int x3] h ((some (.int z1)), h1)) (e3 : ¬ ((z1 : Int32) = 0)) (kk : qE d 119 29 [some (.ref r0), some (.int x1), some (.int x2), some (.int x3)] [] h1 q): qE d 119 22 [some (.ref r0), some (.int x1), some (.int x2), some (.int x3)] [] h q := by
  refine qe_iload_n c119_22 rfl ?_
  refine qe_static (as := [.int x3]) (r := []) (v := (some (.int z1))) (h2 := h1) c119_23 qo119 (by decide) qK12_493 rfl rfl rfl (Nat.le_of_ble_eq_true rfl) e2 ?_
  refine qe_if_eq_F (t := 47) c119_26 rfl e3 ?_
  exact kk
theorem b119_22T {d : Nat} {q : Option Value × qH} {h : qH} {r0 : Nat} {x1 : Int32} {x2 : Int32} {x3 : Int32} {h1 : qH} {z1 : Int32}  (e2 : qCall d 127 [.int x3] h ((some (.int z1)), h1)) (e3 : (z1 : Int32) = 0) (kk : qE d 119 47 [some (.ref r0), some (.int x1), some (.int x2), some (.int x3)] [] h1 q): qE d 119 22 [some (.ref r0), some (.int x1), some (.int x2), some (.int x3)] [] h q := by
  refine qe_iload_n c119_22 rfl ?_
  refine qe_static (as := [.int x3]) (r := []) (v := (some (.int z1))) (h2 := h1) c119_23 qo119 (by decide) qK12_493 rfl rfl rfl (Nat.le_of_ble_eq_true rfl) e2 ?_
  refine qe_if_eq_T (t := 47) c119_26 rfl e3 ?_
  exact kk
theorem b119_29F {d : Nat} {q : Option Value × qH} {h : qH} {r0 : Nat} {x1 : Int32} {x2 : Int32} {x3 : Int32} {fs1 : List Value} {h1 : qH} {z3 : Int32}  (e2 : h.2.2 r0 = some (.inr (12, fs1))) (e4 : qCall d 125 [.ref r0, .int x1, .int x2, .int x3] h ((some (.int z3)), h1)) (e5 : ¬ ((z3 : Int32) = 0)) (kk : qE d 119 39 [some (.ref r0), some (.int x1), some (.int x2), some (.int x3)] [] h1 q): qE d 119 29 [some (.ref r0), some (.int x1), some (.int x2), some (.int x3)] [] h q := by
  refine qe_aload_n c119_29 rfl ?_
  refine qe_iload_n c119_30 rfl ?_
  refine qe_iload_n c119_31 rfl ?_
  refine qe_iload_n c119_32 rfl ?_
  refine qe_virtual (b := r0) (as := [.int x1, .int x2, .int x3]) (r := []) (v := (some (.int z3))) (h2 := h1) c119_33 qo119 qK12_496 rfl rfl rfl (by rw [qo125]; exact e2) (Nat.le_of_ble_eq_true rfl) e4 ?_
  refine qe_if_eq_F (t := 43) c119_36 rfl e5 ?_
  exact kk
theorem b119_29T {d : Nat} {q : Option Value × qH} {h : qH} {r0 : Nat} {x1 : Int32} {x2 : Int32} {x3 : Int32} {fs1 : List Value} {h1 : qH} {z3 : Int32}  (e2 : h.2.2 r0 = some (.inr (12, fs1))) (e4 : qCall d 125 [.ref r0, .int x1, .int x2, .int x3] h ((some (.int z3)), h1)) (e5 : (z3 : Int32) = 0) (kk : qE d 119 43 [some (.ref r0), some (.int x1), some (.int x2), some (.int x3)] [] h1 q): qE d 119 29 [some (.ref r0), some (.int x1), some (.int x2), some (.int x3)] [] h q := by
  refine qe_aload_n c119_29 rfl ?_
  refine qe_iload_n c119_30 rfl ?_
  refine qe_iload_n c119_31 rfl ?_
  refine qe_iload_n c119_32 rfl ?_
  refine qe_virtual (b := r0) (as := [.int x1, .int x2, .int x3]) (r := []) (v := (some (.int z3))) (h2 := h1) c119_33 qo119 qK12_496 rfl rfl rfl (by rw [qo125]; exact e2) (Nat.le_of_ble_eq_true rfl) e4 ?_
  refine qe_if_eq_T (t := 43) c119_36 rfl e5 ?_
  exact kk
theorem b119_39 {d : Nat} {q : Option Value × qH} {h : qH} {r0 : Nat} {x1 : Int32} {x2 : Int32} {x3 : Int32}   (kk : qE d 119 48 [some (.ref r0), some (.int x1), some (.int x2), some (.int x3)] [.int 1] h q): qE d 119 39 [some (.ref r0), some (.int x1), some (.int x2), some (.int x3)] [] h q := by
  refine qe_iconst (x := 1) c119_39 (by decide) ?_
  refine qe_goto (t := 48) c119_40 rfl ?_
  exact kk
theorem b119_43 {d : Nat} {q : Option Value × qH} {h : qH} {r0 : Nat} {x1 : Int32} {x2 : Int32} {x3 : Int32}   (kk : qE d 119 48 [some (.ref r0), some (.int x1), some (.int x2), some (.int x3)] [.int 0] h q): qE d 119 43 [some (.ref r0), some (.int x1), some (.int x2), some (.int x3)] [] h q := by
  refine qe_iconst (x := 0) c119_43 (by decide) ?_
  refine qe_goto (t := 48) c119_44 rfl ?_
  exact kk
theorem b119_47 {d : Nat} {q : Option Value × qH} {h : qH} {r0 : Nat} {x1 : Int32} {x2 : Int32} {x3 : Int32}   (kk : qE d 119 48 [some (.ref r0), some (.int x1), some (.int x2), some (.int x3)] [.int (-1)] h q): qE d 119 47 [some (.ref r0), some (.int x1), some (.int x2), some (.int x3)] [] h q := by
  refine qe_iconst (x := (-1)) c119_47 (by decide) ?_
  exact kk
theorem b119_48 {d : Nat} {h : qH} {r0 : Nat} {x1 : Int32} {x2 : Int32} {x3 : Int32} {xs0 : Int32}   : qE d 119 48 [some (.ref r0), some (.int x1), some (.int x2), some (.int x3)] [.int xs0] h (some (.int xs0), h) := by
  exact qe_iret c119_48 qr119
