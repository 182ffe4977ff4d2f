/-! What each piece of the code does, from a place to the next. -/
theorem b8_0 {d : Nat} {q : Option Value × qH} {h : qH} {r0 : Nat} {r1 : Nat} {r2 : Nat} {fs1 : List Value} {y3 : Nat} {fs5 : List Value} {h1 : qH} {fs8 : List Value} {y10 : Nat} {fs12 : List Value} {y14 : Int32} {y16 : Nat} {fs18 : List Value} {h2 : qH}  (e2 : h.2.2 r0 = some (.inr (0, fs1))) (e4 : fs1[1]? = some (.ref y3)) (e6 : h.2.2 y3 = some (.inr (7, fs5))) (e7 : qCall d 238 [.ref y3, .ref r1, .ref r2] h (none, h1)) (e9 : h1.2.2 r0 = some (.inr (0, fs8))) (e11 : fs8[1]? = some (.ref y10)) (e13 : h1.2.2 y10 = some (.inr (7, fs12))) (e15 : fs12[0]? = some (.int y14)) (e17 : fs8[0]? = some (.ref y16)) (e19 : h1.2.2 y16 = some (.inr (8, fs18))) (e20 : qCall d 241 [.ref y16, .ref r2] h1 (none, h2)) (kk : qE d 8 31 [some (.ref r0), some (.ref r1), some (.ref r2), some (.int y14), some (.int 0), some (.int 0)] [] h2 q): qE d 8 0 [some (.ref r0), some (.ref r1), some (.ref r2), none, none, none] [] h q := by
  refine qe_aload_n c8_0 rfl ?_
  refine qe_getfield c8_1 qo8 qF0_21 e2 e4 ?_
  refine qe_aload_n c8_4 rfl ?_
  refine qe_aload_n c8_5 rfl ?_
  refine qe_virtual (b := y3) (as := [.ref r1, .ref r2]) (r := []) (v := none) (h2 := h1) c8_6 qo8 qK0_25 rfl rfl rfl (by rw [qo238]; exact e6) (Nat.le_of_ble_eq_true rfl) e7 ?_
  refine qe_aload_n c8_9 rfl ?_
  refine qe_getfield c8_10 qo8 qF0_21 e9 e11 ?_
  refine qe_getfield c8_13 qo8 qF0_29 e13 e15 ?_
  refine qe_istore_n (ls2 := [some (.ref r0), some (.ref r1), some (.ref r2), some (.int y14), none, none]) c8_16 (Nat.le_of_ble_eq_true rfl) rfl ?_
  refine qe_iconst (x := 0) c8_17 (by decide) ?_
  refine qe_istore (ls2 := [some (.ref r0), some (.ref r1), some (.ref r2), some (.int y14), some (.int 0), none]) c8_18 (Nat.le_of_ble_eq_true rfl) rfl ?_
  refine qe_aload_n c8_20 rfl ?_
  refine qe_getfield c8_21 qo8 qF0_12 e9 e17 ?_
  refine qe_aload_n c8_24 rfl ?_
  refine qe_virtual (b := y16) (as := [.ref r2]) (r := []) (v := none) (h2 := h2) c8_25 qo8 qK0_33 rfl rfl rfl (by rw [qo241]; exact e19) (Nat.le_of_ble_eq_true rfl) e20 ?_
  refine qe_iconst (x := 0) c8_28 (by decide) ?_
  refine qe_istore (ls2 := [some (.ref r0), some (.ref r1), some (.ref r2), some (.int y14), some (.int 0), some (.int 0)]) c8_29 (Nat.le_of_ble_eq_true rfl) rfl ?_
  exact kk
theorem b8_31F {d : Nat} {q : Option Value × qH} {h : qH} {r0 : Nat} {r1 : Nat} {r2 : Nat} {x3 : Int32} {x4 : Int32} {x5 : Int32} {fs1 : List Value} {y3 : Int32}  (e2 : h.2.2 r1 = some (.inr (4, fs1))) (e4 : fs1[1]? = some (.int y3)) (e5 : ¬ ((y3 : Int32) ≤ x5)) (kk : qE d 8 40 [some (.ref r0), some (.ref r1), some (.ref r2), some (.int x3), some (.int x4), some (.int x5)] [] h q): qE d 8 31 [some (.ref r0), some (.ref r1), some (.ref r2), some (.int x3), some (.int x4), some (.int x5)] [] h q := by
  refine qe_iload c8_31 rfl ?_
  refine qe_aload_n c8_33 rfl ?_
  refine qe_getfield c8_34 qo8 qF0_37 e2 e4 ?_
  refine qe_icmp_ge_F (t := 76) c8_37 rfl e5 ?_
  exact kk
theorem b8_31T {d : Nat} {q : Option Value × qH} {h : qH} {r0 : Nat} {r1 : Nat} {r2 : Nat} {x3 : Int32} {x4 : Int32} {x5 : Int32} {fs1 : List Value} {y3 : Int32}  (e2 : h.2.2 r1 = some (.inr (4, fs1))) (e4 : fs1[1]? = some (.int y3)) (e5 : (y3 : Int32) ≤ x5) (kk : qE d 8 76 [some (.ref r0), some (.ref r1), some (.ref r2), some (.int x3), some (.int x4), some (.int x5)] [] h q): qE d 8 31 [some (.ref r0), some (.ref r1), some (.ref r2), some (.int x3), some (.int x4), some (.int x5)] [] h q := by
  refine qe_iload c8_31 rfl ?_
  refine qe_aload_n c8_33 rfl ?_
  refine qe_getfield c8_34 qo8 qF0_37 e2 e4 ?_
  refine qe_icmp_ge_T (t := 76) c8_37 rfl e5 ?_
  exact kk
theorem b8_40F {d : Nat} {q : Option Value × qH} {h : qH} {r0 : Nat} {r1 : Nat} {r2 : Nat} {x3 : Int32} {x4 : Int32} {x5 : Int32} {fs1 : List Value} {y3 : Nat} {n5 : Nat} {f6 : Nat → Int32}  (e2 : h.2.2 r2 = some (.inr (8, fs1))) (e4 : fs1[5]? = some (.ref y3)) (e7 : h.2.2 y3 = some (.inl (0, n5, .inl f6))) (e8 : 0 ≤ (x5 : Int32).toInt ∧ (x5 : Int32).toInt < (n5 : Nat)) (e9 : ((f6 (x5 : Int32).toNatClampNeg) : Int32) = 0) (kk : qE d 8 50 [some (.ref r0), some (.ref r1), some (.ref r2), some (.int x3), some (.int x4), some (.int x5)] [] h q): qE d 8 40 [some (.ref r0), some (.ref r1), some (.ref r2), some (.int x3), some (.int x4), some (.int x5)] [] h q := by
  refine qe_aload_n c8_40 rfl ?_
  refine qe_getfield c8_41 qo8 qF0_42 e2 e4 ?_
  refine qe_iload c8_44 rfl ?_
  refine qe_iaload c8_46 e7 e8 ?_
  refine qe_if_ne_F (t := 70) c8_47 rfl e9 ?_
  exact kk
theorem b8_40T {d : Nat} {q : Option Value × qH} {h : qH} {r0 : Nat} {r1 : Nat} {r2 : Nat} {x3 : Int32} {x4 : Int32} {x5 : Int32} {fs1 : List Value} {y3 : Nat} {n5 : Nat} {f6 : Nat → Int32}  (e2 : h.2.2 r2 = some (.inr (8, fs1))) (e4 : fs1[5]? = some (.ref y3)) (e7 : h.2.2 y3 = some (.inl (0, n5, .inl f6))) (e8 : 0 ≤ (x5 : Int32).toInt ∧ (x5 : Int32).toInt < (n5 : Nat)) (e9 : ¬ (((f6 (x5 : Int32).toNatClampNeg) : Int32) = 0)) (kk : qE d 8 70 [some (.ref r0), some (.ref r1), some (.ref r2), some (.int x3), some (.int x4), some (.int x5)] [] h q): qE d 8 40 [some (.ref r0), some (.ref r1), some (.ref r2), some (.int x3), some (.int x4), some (.int x5)] [] h q := by
  refine qe_aload_n c8_40 rfl ?_
  refine qe_getfield c8_41 qo8 qF0_42 e2 e4 ?_
  refine qe_iload c8_44 rfl ?_
  refine qe_iaload c8_46 e7 e8 ?_
  refine qe_if_ne_T (t := 70) c8_47 rfl e9 ?_
  exact kk
theorem b8_50F {d : Nat} {q : Option Value × qH} {h : qH} {r0 : Nat} {r1 : Nat} {r2 : Nat} {x3 : Int32} {x4 : Int32} {x5 : Int32} {fs1 : List Value} {h1 : qH} {z3 : Int32}  (e2 : h.2.2 r0 = some (.inr (0, fs1))) (e4 : qCall d 9 [.ref r0, .ref r1, .int x5, .int x3] h ((some (.int z3)), h1)) (e5 : ¬ ((z3 : Int32) = 0)) (kk : qE d 8 61 [some (.ref r0), some (.ref r1), some (.ref r2), some (.int x3), some (.int x4), some (.int x5)] [] h1 q): qE d 8 50 [some (.ref r0), some (.ref r1), some (.ref r2), some (.int x3), some (.int x4), some (.int x5)] [] h q := by
  refine qe_aload_n c8_50 rfl ?_
  refine qe_aload_n c8_51 rfl ?_
  refine qe_iload c8_52 rfl ?_
  refine qe_iload_n c8_54 rfl ?_
  refine qe_virtual (b := r0) (as := [.ref r1, .int x5, .int x3]) (r := []) (v := (some (.int z3))) (h2 := h1) c8_55 qo8 qK0_46 rfl rfl rfl (by rw [qo9]; exact e2) (Nat.le_of_ble_eq_true rfl) e4 ?_
  refine qe_if_eq_F (t := 70) c8_58 rfl e5 ?_
  exact kk
theorem b8_50T {d : Nat} {q : Option Value × qH} {h : qH} {r0 : Nat} {r1 : Nat} {r2 : Nat} {x3 : Int32} {x4 : Int32} {x5 : Int32} {fs1 : List Value} {h1 : qH} {z3 : Int32}  (e2 : h.2.2 r0 = some (.inr (0, fs1))) (e4 : qCall d 9 [.ref r0, .ref r1, .int x5, .int x3] h ((some (.int z3)), h1)) (e5 : (z3 : Int32) = 0) (kk : qE d 8 70 [some (.ref r0), some (.ref r1), some (.ref r2), some (.int x3), some (.int x4), some (.int x5)] [] h1 q): qE d 8 50 [some (.ref r0), some (.ref r1), some (.ref r2), some (.int x3), some (.int x4), some (.int x5)] [] h q := by
  refine qe_aload_n c8_50 rfl ?_
  refine qe_aload_n c8_51 rfl ?_
  refine qe_iload c8_52 rfl ?_
  refine qe_iload_n c8_54 rfl ?_
  refine qe_virtual (b := r0) (as := [.ref r1, .int x5, .int x3]) (r := []) (v := (some (.int z3))) (h2 := h1) c8_55 qo8 qK0_46 rfl rfl rfl (by rw [qo9]; exact e2) (Nat.le_of_ble_eq_true rfl) e4 ?_
  refine qe_if_eq_T (t := 70) c8_58 rfl e5 ?_
  exact kk
theorem b8_61 {d : Nat} {q : Option Value × qH} {h : qH} {r0 : Nat} {r1 : Nat} {r2 : Nat} {x3 : Int32} {x4 : Int32} {x5 : Int32}   (kk : qE d 8 70 [some (.ref r0), some (.ref r1), some (.ref r2), some (.int x3), some (.int (x4 ||| (1 <<< (x5 &&& 31)))), some (.int x5)] [] h q): qE d 8 61 [some (.ref r0), some (.ref r1), some (.ref r2), some (.int x3), some (.int x4), some (.int x5)] [] h q := by
  refine qe_iload c8_61 rfl ?_
  refine qe_iconst (x := 1) c8_63 (by decide) ?_
  refine qe_iload c8_64 rfl ?_
  refine qe_ishl c8_66 ?_
  refine qe_ior c8_67 ?_
  refine qe_istore (ls2 := [some (.ref r0), some (.ref r1), some (.ref r2), some (.int x3), some (.int (x4 ||| (1 <<< (x5 &&& 31)))), some (.int x5)]) c8_68 (Nat.le_of_ble_eq_true rfl) rfl ?_
  exact kk
theorem b8_70 {d : Nat} {q : Option Value × qH} {h : qH} {r0 : Nat} {r1 : Nat} {r2 : Nat} {x3 : Int32} {x4 : Int32} {x5 : Int32}   (kk : qE d 8 31 [some (.ref r0), some (.ref r1), some (.ref r2), some (.int x3), some (.int x4), some (.int (x5 + 1))] [] h q): qE d 8 70 [some (.ref r0), some (.ref r1), some (.ref r2), some (.int x3), some (.int x4), some (.int x5)] [] h q := by
  refine qe_iinc (y := (x5 + 1)) (ls2 := [some (.ref r0), some (.ref r1), some (.ref r2), some (.int x3), some (.int x4), some (.int (x5 + 1))]) c8_70 rfl (Nat.le_of_ble_eq_true rfl) rfl rfl ?_
  refine qe_goto (t := 31) c8_73 rfl ?_
  exact kk
theorem b8_76 {d : Nat} {h : qH} {r0 : Nat} {r1 : Nat} {r2 : Nat} {x3 : Int32} {x4 : Int32} {x5 : Int32}   : qE d 8 76 [some (.ref r0), some (.ref r1), some (.ref r2), some (.int x3), some (.int x4), some (.int x5)] [] h (some (.int x4), h) := by
  refine qe_iload c8_76 rfl ?_
  exact qe_iret c8_78 qr8
theorem b9_0F {d : Nat} {q : Option Value × qH} {h : qH} {r0 : Nat} {r1 : Nat} {x2 : Int32} {x3 : Int32} {fs1 : List Value} {y3 : Nat} {fs5 : List Value} {y7 : Nat} {n9 : Nat} {f10 : Nat → Int32} {h1 : qH} {fs14 : List Value} {y16 : Nat} {y18 : Nat} {fs20 : List Value} {h2 : qH} {fs23 : List Value} {y25 : Nat} {fs27 : List Value} {y29 : Nat} {n31 : Nat} {f32 : Nat → Int32} {h3 : qH} {fs36 : List Value} {y38 : Nat} {fs40 : List Value} {y42 : Int32}  (e2 : h.2.2 r0 = some (.inr (0, fs1))) (e4 : fs1[0]? = some (.ref y3)) (e6 : h.2.2 y3 = some (.inr (8, fs5))) (e8 : fs5[5]? = some (.ref y7)) (e11 : h.2.2 y7 = some (.inl (0, n9, .inl f10))) (e12 : 0 ≤ (x2 : Int32).toInt ∧ (x2 : Int32).toInt < (n9 : Nat)) (e13 : qset h y7 (.inl (0, n9, .inl (upd f10 ((x2 : Int32).toNatClampNeg) 1))) = h1) (e15 : h1.2.2 r0 = some (.inr (0, fs14))) (e17 : fs14[1]? = some (.ref y16)) (e19 : fs14[0]? = some (.ref y18)) (e21 : h1.2.2 y16 = some (.inr (7, fs20))) (e22 : qCall d 238 [.ref y16, .ref r1, .ref y18] h1 (none, h2)) (e24 : h2.2.2 r0 = some (.inr (0, fs23))) (e26 : fs23[0]? = some (.ref y25)) (e28 : h2.2.2 y25 = some (.inr (8, fs27))) (e30 : fs27[5]? = some (.ref y29)) (e33 : h2.2.2 y29 = some (.inl (0, n31, .inl f32))) (e34 : 0 ≤ (x2 : Int32).toInt ∧ (x2 : Int32).toInt < (n31 : Nat)) (e35 : qset h2 y29 (.inl (0, n31, .inl (upd f32 ((x2 : Int32).toNatClampNeg) 0))) = h3) (e37 : h3.2.2 r0 = some (.inr (0, fs36))) (e39 : fs36[1]? = some (.ref y38)) (e41 : h3.2.2 y38 = some (.inr (7, fs40))) (e43 : fs40[2]? = some (.int y42)) (e44 : (y42 : Int32) = 0) (kk : qE d 9 42 [some (.ref r0), some (.ref r1), some (.int x2), some (.int x3)] [] h3 q): qE d 9 0 [some (.ref r0), some (.ref r1), some (.int x2), some (.int x3)] [] h q := by
  refine qe_aload_n c9_0 rfl ?_
  refine qe_getfield c9_1 qo9 qF0_12 e2 e4 ?_
  refine qe_getfield c9_4 qo9 qF0_42 e6 e8 ?_
  refine qe_iload_n c9_7 rfl ?_
  refine qe_iconst (x := 1) c9_8 (by decide) ?_
  refine qe_iastore c9_9 e11 e12 ?_
  rw [e13]
  refine qe_aload_n c9_10 rfl ?_
  refine qe_getfield c9_11 qo9 qF0_21 e15 e17 ?_
  refine qe_aload_n c9_14 rfl ?_
  refine qe_aload_n c9_15 rfl ?_
  refine qe_getfield c9_16 qo9 qF0_12 e15 e19 ?_
  refine qe_virtual (b := y16) (as := [.ref r1, .ref y18]) (r := []) (v := none) (h2 := h2) c9_19 qo9 qK0_25 rfl rfl rfl (by rw [qo238]; exact e21) (Nat.le_of_ble_eq_true rfl) e22 ?_
  refine qe_aload_n c9_22 rfl ?_
  refine qe_getfield c9_23 qo9 qF0_12 e24 e26 ?_
  refine qe_getfield c9_26 qo9 qF0_42 e28 e30 ?_
  refine qe_iload_n c9_29 rfl ?_
  refine qe_iconst (x := 0) c9_30 (by decide) ?_
  refine qe_iastore c9_31 e33 e34 ?_
  rw [e35]
  refine qe_aload_n c9_32 rfl ?_
  refine qe_getfield c9_33 qo9 qF0_21 e37 e39 ?_
  refine qe_getfield c9_36 qo9 qF0_50 e41 e43 ?_
  refine qe_if_ne_F (t := 56) c9_39 rfl e44 ?_
  exact kk
theorem b9_0T {d : Nat} {q : Option Value × qH} {h : qH} {r0 : Nat} {r1 : Nat} {x2 : Int32} {x3 : Int32} {fs1 : List Value} {y3 : Nat} {fs5 : List Value} {y7 : Nat} {n9 : Nat} {f10 : Nat → Int32} {h1 : qH} {fs14 : List Value} {y16 : Nat} {y18 : Nat} {fs20 : List Value} {h2 : qH} {fs23 : List Value} {y25 : Nat} {fs27 : List Value} {y29 : Nat} {n31 : Nat} {f32 : Nat → Int32} {h3 : qH} {fs36 : List Value} {y38 : Nat} {fs40 : List Value} {y42 : Int32}  (e2 : h.2.2 r0 = some (.inr (0, fs1))) (e4 : fs1[0]? = some (.ref y3)) (e6 : h.2.2 y3 = some (.inr (8, fs5))) (e8 : fs5[5]? = some (.ref y7)) (e11 : h.2.2 y7 = some (.inl (0, n9, .inl f10))) (e12 : 0 ≤ (x2 : Int32).toInt ∧ (x2 : Int32).toInt < (n9 : Nat)) (e13 : qset h y7 (.inl (0, n9, .inl (upd f10 ((x2 : Int32).toNatClampNeg) 1))) = h1) (e15 : h1.2.2 r0 = some (.inr (0, fs14))) (e17 : fs14[1]? = some (.ref y16)) (e19 : fs14[0]? = some (.ref y18)) (e21 : h1.2.2 y16 = some (.inr (7, fs20))) (e22 : qCall d 238 [.ref y16, .ref r1, .ref y18] h1 (none, h2)) (e24 : h2.2.2 r0 = some (.inr (0, fs23))) (e26 : fs23[0]? = some (.ref y25)) (e28 : h2.2.2 y25 = some (.inr (8, fs27))) (e30 : fs27[5]? = some (.ref y29)) (e33 : h2.2.2 y29 = some (.inl (0, n31, .inl f32))) (e34 : 0 ≤ (x2 : Int32).toInt ∧ (x2 : Int32).toInt < (n31 : Nat)) (e35 : qset h2 y29 (.inl (0, n31, .inl (upd f32 ((x2 : Int32).toNatClampNeg) 0))) = h3) (e37 : h3.2.2 r0 = some (.inr (0, fs36))) (e39 : fs36[1]? = some (.ref y38)) (e41 : h3.2.2 y38 = some (.inr (7, fs40))) (e43 : fs40[2]? = some (.int y42)) (e44 : ¬ ((y42 : Int32) = 0)) (kk : qE d 9 56 [some (.ref r0), some (.ref r1), some (.int x2), some (.int x3)] [] h3 q): qE d 9 0 [some (.ref r0), some (.ref r1), some (.int x2), some (.int x3)] [] h q := by
  refine qe_aload_n c9_0 rfl ?_
  refine qe_getfield c9_1 qo9 qF0_12 e2 e4 ?_
  refine qe_getfield c9_4 qo9 qF0_42 e6 e8 ?_
  refine qe_iload_n c9_7 rfl ?_
  refine qe_iconst (x := 1) c9_8 (by decide) ?_
  refine qe_iastore c9_9 e11 e12 ?_
  rw [e13]
  refine qe_aload_n c9_10 rfl ?_
  refine qe_getfield c9_11 qo9 qF0_21 e15 e17 ?_
  refine qe_aload_n c9_14 rfl ?_
  refine qe_aload_n c9_15 rfl ?_
  refine qe_getfield c9_16 qo9 qF0_12 e15 e19 ?_
  refine qe_virtual (b := y16) (as := [.ref r1, .ref y18]) (r := []) (v := none) (h2 := h2) c9_19 qo9 qK0_25 rfl rfl rfl (by rw [qo238]; exact e21) (Nat.le_of_ble_eq_true rfl) e22 ?_
  refine qe_aload_n c9_22 rfl ?_
  refine qe_getfield c9_23 qo9 qF0_12 e24 e26 ?_
  refine qe_getfield c9_26 qo9 qF0_42 e28 e30 ?_
  refine qe_iload_n c9_29 rfl ?_
  refine qe_iconst (x := 0) c9_30 (by decide) ?_
  refine qe_iastore c9_31 e33 e34 ?_
  rw [e35]
  refine qe_aload_n c9_32 rfl ?_
  refine qe_getfield c9_33 qo9 qF0_21 e37 e39 ?_
  refine qe_getfield c9_36 qo9 qF0_50 e41 e43 ?_
  refine qe_if_ne_T (t := 56) c9_39 rfl e44 ?_
  exact kk
theorem b9_42F {d : Nat} {q : Option Value × qH} {h : qH} {r0 : Nat} {r1 : Nat} {x2 : Int32} {x3 : Int32} {fs1 : List Value} {y3 : Nat} {fs5 : List Value} {y7 : Int32}  (e2 : h.2.2 r0 = some (.inr (0, fs1))) (e4 : fs1[1]? = some (.ref y3)) (e6 : h.2.2 y3 = some (.inr (7, fs5))) (e8 : fs5[0]? = some (.int y7)) (e9 : ¬ (((y7 &&& (x3 ^^^ (-1))) : Int32) = 0)) (kk : qE d 9 56 [some (.ref r0), some (.ref r1), some (.int x2), some (.int x3)] [] h q): qE d 9 42 [some (.ref r0), some (.ref r1), some (.int x2), some (.int x3)] [] h q := by
  refine qe_aload_n c9_42 rfl ?_
  refine qe_getfield c9_43 qo9 qF0_21 e2 e4 ?_
  refine qe_getfield c9_46 qo9 qF0_29 e6 e8 ?_
  refine qe_iload_n c9_49 rfl ?_
  refine qe_iconst (x := (-1)) c9_50 (by decide) ?_
  refine qe_ixor c9_51 ?_
  refine qe_iand c9_52 ?_
  refine qe_if_eq_F (t := 60) c9_53 rfl e9 ?_
  exact kk
theorem b9_42T {d : Nat} {q : Option Value × qH} {h : qH} {r0 : Nat} {r1 : Nat} {x2 : Int32} {x3 : Int32} {fs1 : List Value} {y3 : Nat} {fs5 : List Value} {y7 : Int32}  (e2 : h.2.2 r0 = some (.inr (0, fs1))) (e4 : fs1[1]? = some (.ref y3)) (e6 : h.2.2 y3 = some (.inr (7, fs5))) (e8 : fs5[0]? = some (.int y7)) (e9 : ((y7 &&& (x3 ^^^ (-1))) : Int32) = 0) (kk : qE d 9 60 [some (.ref r0), some (.ref r1), some (.int x2), some (.int x3)] [] h q): qE d 9 42 [some (.ref r0), some (.ref r1), some (.int x2), some (.int x3)] [] h q := by
  refine qe_aload_n c9_42 rfl ?_
  refine qe_getfield c9_43 qo9 qF0_21 e2 e4 ?_
  refine qe_getfield c9_46 qo9 qF0_29 e6 e8 ?_
  refine qe_iload_n c9_49 rfl ?_
  refine qe_iconst (x := (-1)) c9_50 (by decide) ?_
  refine qe_ixor c9_51 ?_
  refine qe_iand c9_52 ?_
  refine qe_if_eq_T (t := 60) c9_53 rfl e9 ?_
  exact kk
theorem b9_56 {d : Nat} {q : Option Value × qH} {h : qH} {r0 : Nat} {r1 : Nat} {x2 : Int32} {x3 : Int32}   (kk : qE d 9 61 [some (.ref r0), some (.ref r1), some (.int x2), some (.int x3)] [.int 1] h q): qE d 9 56 [some (.ref r0), some (.ref r1), some (.int x2), some (.int x3)] [] h q := by
  refine qe_iconst (x := 1) c9_56 (by decide) ?_
  refine qe_goto (t := 61) c9_57 rfl ?_
  exact kk
theorem b9_60 {d : Nat} {q : Option Value × qH} {h : qH} {r0 : Nat} {r1 : Nat} {x2 : Int32} {x3 : Int32}   (kk : qE d 9 61 [some (.ref r0), some (.ref r1), some (.int x2), some (.int x3)] [.int 0] h q): qE d 9 60 [some (.ref r0), some (.ref r1), some (.int x2), some (.int x3)] [] h q := by
  refine qe_iconst (x := 0) c9_60 (by decide) ?_
  exact kk
theorem b9_61 {d : Nat} {h : qH} {r0 : Nat} {r1 : Nat} {x2 : Int32} {x3 : Int32} {xs0 : Int32}  (e1 : (xs0 : Int32) = 0 ∨ (xs0 : Int32) = 1) : qE d 9 61 [some (.ref r0), some (.ref r1), some (.int x2), some (.int x3)] [.int xs0] h (some (.int xs0), h) := by
  exact qe_zret c9_61 qr9 e1
theorem b10_0 {d : Nat} {h : qH} {r0 : Nat} {h1 : qH} {h2 : qH} {fs3 : List Value} {h3 : qH} {h4 : qH} {h5 : qH} {fs9 : List Value} {h6 : qH} (hd0 : 0 < d) (e1 : qnew h 8 (.inr (8, [.int 0, .int 0, .int 0, .int 0, .null, .null, .null, .null])) = h1) (e2 : qCall d 242 [.ref h.1] h1 (none, h2)) (e4 : h2.2.2 r0 = some (.inr (0, fs3))) (e5 : 0 < fs3.length) (e6 : qset h2 r0 (.inr (0, fs3.set 0 (.ref h.1))) = h3) (e7 : qnew h3 12 (.inr (7, [.int 0, .int 0, .int 0, .null, .null, .null, .null, .null, .null, .null, .null, .null])) = h4) (e8 : qCall d 236 [.ref h3.1] h4 (none, h5)) (e10 : h5.2.2 r0 = some (.inr (0, fs9))) (e11 : 1 < fs9.length) (e12 : qset h5 r0 (.inr (0, fs9.set 1 (.ref h3.1))) = h6) : qE d 10 0 [some (.ref r0)] [] h (none, h6) := by
  refine qe_aload_n c10_0 rfl ?_
  refine qe_objinit c10_1 qo10 (by decide +kernel) (by decide) hd0 (Nat.le_of_ble_eq_true rfl) ?_
  refine qe_aload_n c10_4 rfl ?_
  refine qe_new (fs := [.int 0, .int 0, .int 0, .int 0, .null, .null, .null, .null]) (N := 8) c10_5 qo10 qN0_9 (by decide +kernel) (by decide +kernel) ?_
  rw [e1]
  refine qe_dup c10_8 rfl ?_
  refine qe_special (b := h.1) (as := []) (r := [.ref h.1, .ref r0]) (v := none) (h2 := h2) c10_9 qo10 (by decide +kernel) qK0_11 rfl ⟨rfl, Or.inr rfl⟩ rfl (Nat.le_of_ble_eq_true rfl) e2 ?_
  refine qe_putfinal c10_12 qo10 qF0_12 (by decide +kernel) e4 e5 (by rw [qy0_0]; rfl) ?_
  rw [e6]
  refine qe_aload_n c10_15 rfl ?_
  refine qe_new (fs := [.int 0, .int 0, .int 0, .null, .null, .null, .null, .null, .null, .null, .null, .null]) (N := 12) c10_16 qo10 qN0_18 (by decide +kernel) (by decide +kernel) ?_
  rw [e7]
  refine qe_dup c10_19 rfl ?_
  refine qe_special (b := h3.1) (as := []) (r := [.ref h3.1, .ref r0]) (v := none) (h2 := h5) c10_20 qo10 (by decide +kernel) qK0_20 rfl ⟨rfl, Or.inr rfl⟩ rfl (Nat.le_of_ble_eq_true rfl) e8 ?_
  refine qe_putfinal c10_23 qo10 qF0_21 (by decide +kernel) e10 e11 (by rw [qy0_1]; rfl) ?_
  rw [e12]
  exact qe_vret c10_26 qr10
theorem b11_0F {d : Nat} {q : Option Value × qH} {h : qH} {r0 : Nat} {r1 : Nat} {r2 : Nat} {x3 : Int32} {fs1 : List Value} {y3 : Nat} {n5 : Nat} {f6 : Nat → Int32}  (e2 : h.2.2 r2 = some (.inr (8, fs1))) (e4 : fs1[5]? = some (.ref y3)) (e7 : h.2.2 y3 = some (.inl (0, n5, .inl f6))) (e8 : 0 ≤ (x3 : Int32).toInt ∧ (x3 : Int32).toInt < (n5 : Nat)) (e9 : ¬ (((f6 (x3 : Int32).toNatClampNeg) : Int32) = 0)) (kk : qE d 11 9 [some (.ref r0), some (.ref r1), some (.ref r2), some (.int x3)] [] h q): qE d 11 0 [some (.ref r0), some (.ref r1), some (.ref r2), some (.int x3)] [] h q := by
  refine qe_aload_n c11_0 rfl ?_
  refine qe_getfield c11_1 qo11 qF0_42 e2 e4 ?_
  refine qe_iload_n c11_4 rfl ?_
  refine qe_iaload c11_5 e7 e8 ?_
  refine qe_if_eq_F (t := 11) c11_6 rfl e9 ?_
  exact kk
theorem b11_0T {d : Nat} {q : Option Value × qH} {h : qH} {r0 : Nat} {r1 : Nat} {r2 : Nat} {x3 : Int32} {fs1 : List Value} {y3 : Nat} {n5 : Nat} {f6 : Nat → Int32}  (e2 : h.2.2 r2 = some (.inr (8, fs1))) (e4 : fs1[5]? = some (.ref y3)) (e7 : h.2.2 y3 = some (.inl (0, n5, .inl f6))) (e8 : 0 ≤ (x3 : Int32).toInt ∧ (x3 : Int32).toInt < (n5 : Nat)) (e9 : ((f6 (x3 : Int32).toNatClampNeg) : Int32) = 0) (kk : qE d 11 11 [some (.ref r0), some (.ref r1), some (.ref r2), some (.int x3)] [] h q): qE d 11 0 [some (.ref r0), some (.ref r1), some (.ref r2), some (.int x3)] [] h q := by
  refine qe_aload_n c11_0 rfl ?_
  refine qe_getfield c11_1 qo11 qF0_42 e2 e4 ?_
  refine qe_iload_n c11_4 rfl ?_
  refine qe_iaload c11_5 e7 e8 ?_
  refine qe_if_eq_T (t := 11) c11_6 rfl e9 ?_
  exact kk
theorem b11_9 {d : Nat} {h : qH} {r0 : Nat} {r1 : Nat} {r2 : Nat} {x3 : Int32}   : qE d 11 9 [some (.ref r0), some (.ref r1), some (.ref r2), some (.int x3)] [] h (some (.int 0), h) := by
  refine qe_iconst (x := 0) c11_9 (by decide) ?_
  exact qe_iret c11_10 qr11
theorem b11_11F {d : Nat} {q : Option Value × qH} {h : qH} {r0 : Nat} {r1 : Nat} {r2 : Nat} {x3 : Int32} {fs1 : List Value} {y3 : Nat} {fs5 : List Value} {h1 : qH} {fs8 : List Value} {y10 : Nat} {fs12 : List Value} {h2 : qH} {fs15 : List Value} {y17 : Nat} {fs19 : List Value} {y21 : Int32} {h3 : qH} {z23 : Int32}  (e2 : h.2.2 r0 = some (.inr (0, fs1))) (e4 : fs1[1]? = some (.ref y3)) (e6 : h.2.2 y3 = some (.inr (7, fs5))) (e7 : qCall d 238 [.ref y3, .ref r1, .ref r2] h (none, h1)) (e9 : h1.2.2 r0 = some (.inr (0, fs8))) (e11 : fs8[0]? = some (.ref y10)) (e13 : h1.2.2 y10 = some (.inr (8, fs12))) (e14 : qCall d 241 [.ref y10, .ref r2] h1 (none, h2)) (e16 : h2.2.2 r0 = some (.inr (0, fs15))) (e18 : fs15[1]? = some (.ref y17)) (e20 : h2.2.2 y17 = some (.inr (7, fs19))) (e22 : fs19[0]? = some (.int y21)) (e24 : qCall d 9 [.ref r0, .ref r1, .int x3, .int y21] h2 ((some (.int z23)), h3)) (e25 : ¬ ((z23 : Int32) = 0)) (kk : qE d 11 44 [some (.ref r0), some (.ref r1), some (.ref r2), some (.int x3)] [] h3 q): qE d 11 11 [some (.ref r0), some (.ref r1), some (.ref r2), some (.int x3)] [] h q := by
  refine qe_aload_n c11_11 rfl ?_
  refine qe_getfield c11_12 qo11 qF0_21 e2 e4 ?_
  refine qe_aload_n c11_15 rfl ?_
  refine qe_aload_n c11_16 rfl ?_
  refine qe_virtual (b := y3) (as := [.ref r1, .ref r2]) (r := []) (v := none) (h2 := h1) c11_17 qo11 qK0_25 rfl rfl rfl (by rw [qo238]; exact e6) (Nat.le_of_ble_eq_true rfl) e7 ?_
  refine qe_aload_n c11_20 rfl ?_
  refine qe_getfield c11_21 qo11 qF0_12 e9 e11 ?_
  refine qe_aload_n c11_24 rfl ?_
  refine qe_virtual (b := y10) (as := [.ref r2]) (r := []) (v := none) (h2 := h2) c11_25 qo11 qK0_33 rfl rfl rfl (by rw [qo241]; exact e13) (Nat.le_of_ble_eq_true rfl) e14 ?_
  refine qe_aload_n c11_28 rfl ?_
  refine qe_aload_n c11_29 rfl ?_
  refine qe_iload_n c11_30 rfl ?_
  refine qe_aload_n c11_31 rfl ?_
  refine qe_getfield c11_32 qo11 qF0_21 e16 e18 ?_
  refine qe_getfield c11_35 qo11 qF0_29 e20 e22 ?_
  refine qe_virtual (b := r0) (as := [.ref r1, .int x3, .int y21]) (r := []) (v := (some (.int z23))) (h2 := h3) c11_38 qo11 qK0_46 rfl rfl rfl (by rw [qo9]; exact e16) (Nat.le_of_ble_eq_true rfl) e24 ?_
  refine qe_if_eq_F (t := 48) c11_41 rfl e25 ?_
  exact kk
theorem b11_11T {d : Nat} {q : Option Value × qH} {h : qH} {r0 : Nat} {r1 : Nat} {r2 : Nat} {x3 : Int32} {fs1 : List Value} {y3 : Nat} {fs5 : List Value} {h1 : qH} {fs8 : List Value} {y10 : Nat} {fs12 : List Value} {h2 : qH} {fs15 : List Value} {y17 : Nat} {fs19 : List Value} {y21 : Int32} {h3 : qH} {z23 : Int32}  (e2 : h.2.2 r0 = some (.inr (0, fs1))) (e4 : fs1[1]? = some (.ref y3)) (e6 : h.2.2 y3 = some (.inr (7, fs5))) (e7 : qCall d 238 [.ref y3, .ref r1, .ref r2] h (none, h1)) (e9 : h1.2.2 r0 = some (.inr (0, fs8))) (e11 : fs8[0]? = some (.ref y10)) (e13 : h1.2.2 y10 = some (.inr (8, fs12))) (e14 : qCall d 241 [.ref y10, .ref r2] h1 (none, h2)) (e16 : h2.2.2 r0 = some (.inr (0, fs15))) (e18 : fs15[1]? = some (.ref y17)) (e20 : h2.2.2 y17 = some (.inr (7, fs19))) (e22 : fs19[0]? = some (.int y21)) (e24 : qCall d 9 [.ref r0, .ref r1, .int x3, .int y21] h2 ((some (.int z23)), h3)) (e25 : (z23 : Int32) = 0) (kk : qE d 11 48 [some (.ref r0), some (.ref r1), some (.ref r2), some (.int x3)] [] h3 q): qE d 11 11 [some (.ref r0), some (.ref r1), some (.ref r2), some (.int x3)] [] h q := by
  refine qe_aload_n c11_11 rfl ?_
  refine qe_getfield c11_12 qo11 qF0_21 e2 e4 ?_
  refine qe_aload_n c11_15 rfl ?_
  refine qe_aload_n c11_16 rfl ?_
  refine qe_virtual (b := y3) (as := [.ref r1, .ref r2]) (r := []) (v := none) (h2 := h1) c11_17 qo11 qK0_25 rfl rfl rfl (by rw [qo238]; exact e6) (Nat.le_of_ble_eq_true rfl) e7 ?_
  refine qe_aload_n c11_20 rfl ?_
  refine qe_getfield c11_21 qo11 qF0_12 e9 e11 ?_
  refine qe_aload_n c11_24 rfl ?_
  refine qe_virtual (b := y10) (as := [.ref r2]) (r := []) (v := none) (h2 := h2) c11_25 qo11 qK0_33 rfl rfl rfl (by rw [qo241]; exact e13) (Nat.le_of_ble_eq_true rfl) e14 ?_
  refine qe_aload_n c11_28 rfl ?_
  refine qe_aload_n c11_29 rfl ?_
  refine qe_iload_n c11_30 rfl ?_
  refine qe_aload_n c11_31 rfl ?_
  refine qe_getfield c11_32 qo11 qF0_21 e16 e18 ?_
  refine qe_getfield c11_35 qo11 qF0_29 e20 e22 ?_
  refine qe_virtual (b := r0) (as := [.ref r1, .int x3, .int y21]) (r := []) (v := (some (.int z23))) (h2 := h3) c11_38 qo11 qK0_46 rfl rfl rfl (by rw [qo9]; exact e16) (Nat.le_of_ble_eq_true rfl) e24 ?_
  refine qe_if_eq_T (t := 48) c11_41 rfl e25 ?_
  exact kk
theorem b11_44 {d : Nat} {q : Option Value × qH} {h : qH} {r0 : Nat} {r1 : Nat} {r2 : Nat} {x3 : Int32}   (kk : qE d 11 49 [some (.ref r0), some (.ref r1), some (.ref r2), some (.int x3)] [.int 1] h q): qE d 11 44 [some (.ref r0), some (.ref r1), some (.ref r2), some (.int x3)] [] h q := by
  refine qe_iconst (x := 1) c11_44 (by decide) ?_
  refine qe_goto (t := 49) c11_45 rfl ?_
  exact kk
theorem b11_48 {d : Nat} {q : Option Value × qH} {h : qH} {r0 : Nat} {r1 : Nat} {r2 : Nat} {x3 : Int32}   (kk : qE d 11 49 [some (.ref r0), some (.ref r1), some (.ref r2), some (.int x3)] [.int 0] h q): qE d 11 48 [some (.ref r0), some (.ref r1), some (.ref r2), some (.int x3)] [] h q := by
  refine qe_iconst (x := 0) c11_48 (by decide) ?_
  exact kk
theorem b11_49 {d : Nat} {h : qH} {r0 : Nat} {r1 : Nat} {r2 : Nat} {x3 : Int32} {xs0 : Int32}   : qE d 11 49 [some (.ref r0), some (.ref r1), some (.ref r2), some (.int x3)] [.int xs0] h (some (.int xs0), h) := by
  exact qe_iret c11_49 qr11
theorem b12_0F {d : Nat} {q : Option Value × qH} {h : qH} {r0 : Nat} {fs1 : List Value} {h1 : qH} {z3 : Int32}  (e2 : h.2.2 r0 = some (.inr (10, fs1))) (e4 : qCall d 23 [.ref r0] h ((some (.int z3)), h1)) (e5 : ¬ ((z3 : Int32) = 116)) (kk : qE d 12 11 [some (.ref r0), some (.int z3)] [] h1 q): qE d 12 0 [some (.ref r0), none] [] h q := by
  refine qe_aload_n c12_0 rfl ?_
  refine qe_virtual (b := r0) (as := []) (r := []) (v := (some (.int z3))) (h2 := h1) c12_1 qo12 qK10_74 rfl rfl rfl (by rw [qo23]; exact e2) (Nat.le_of_ble_eq_true rfl) e4 ?_
  refine qe_istore_n (ls2 := [some (.ref r0), some (.int z3)]) c12_4 (Nat.le_of_ble_eq_true rfl) rfl ?_
  refine qe_iload_n c12_5 rfl ?_
  refine qe_bipush (x := 116) c12_6 (by decide) ?_
  refine qe_icmp_eq_F (t := 23) c12_8 rfl e5 ?_
  exact kk
theorem b12_0T {d : Nat} {q : Option Value × qH} {h : qH} {r0 : Nat} {fs1 : List Value} {h1 : qH} {z3 : Int32}  (e2 : h.2.2 r0 = some (.inr (10, fs1))) (e4 : qCall d 23 [.ref r0] h ((some (.int z3)), h1)) (e5 : (z3 : Int32) = 116) (kk : qE d 12 23 [some (.ref r0), some (.int z3)] [] h1 q): qE d 12 0 [some (.ref r0), none] [] h q := by
  refine qe_aload_n c12_0 rfl ?_
  refine qe_virtual (b := r0) (as := []) (r := []) (v := (some (.int z3))) (h2 := h1) c12_1 qo12 qK10_74 rfl rfl rfl (by rw [qo23]; exact e2) (Nat.le_of_ble_eq_true rfl) e4 ?_
  refine qe_istore_n (ls2 := [some (.ref r0), some (.int z3)]) c12_4 (Nat.le_of_ble_eq_true rfl) rfl ?_
  refine qe_iload_n c12_5 rfl ?_
  refine qe_bipush (x := 116) c12_6 (by decide) ?_
  refine qe_icmp_eq_T (t := 23) c12_8 rfl e5 ?_
  exact kk
theorem b12_11F {d : Nat} {q : Option Value × qH} {h : qH} {r0 : Nat} {x1 : Int32}  (e1 : ¬ ((x1 : Int32) = 111)) (kk : qE d 12 17 [some (.ref r0), some (.int x1)] [] h q): qE d 12 11 [some (.ref r0), some (.int x1)] [] h q := by
  refine qe_iload_n c12_11 rfl ?_
  refine qe_bipush (x := 111) c12_12 (by decide) ?_
  refine qe_icmp_eq_F (t := 23) c12_14 rfl e1 ?_
  exact kk
theorem b12_11T {d : Nat} {q : Option Value × qH} {h : qH} {r0 : Nat} {x1 : Int32}  (e1 : (x1 : Int32) = 111) (kk : qE d 12 23 [some (.ref r0), some (.int x1)] [] h q): qE d 12 11 [some (.ref r0), some (.int x1)] [] h q := by
  refine qe_iload_n c12_11 rfl ?_
  refine qe_bipush (x := 111) c12_12 (by decide) ?_
  refine qe_icmp_eq_T (t := 23) c12_14 rfl e1 ?_
  exact kk
theorem b12_17 {d : Nat} {h : qH} {r0 : Nat} {x1 : Int32} {fs1 : List Value} {h1 : qH} {z3 : Int32}  (e2 : h.2.2 r0 = some (.inr (10, fs1))) (e4 : qCall d 27 [.ref r0, .int 1] h ((some (.int z3)), h1)) (e5 : (z3 : Int32) = 0 ∨ (z3 : Int32) = 1) : qE d 12 17 [some (.ref r0), some (.int x1)] [] h (some (.int z3), h1) := by
  refine qe_aload_n c12_17 rfl ?_
  refine qe_iconst (x := 1) c12_18 (by decide) ?_
  refine qe_virtual (b := r0) (as := [.int 1]) (r := []) (v := (some (.int z3))) (h2 := h1) c12_19 qo12 qK10_78 rfl rfl rfl (by rw [qo27]; exact e2) (Nat.le_of_ble_eq_true rfl) e4 ?_
  exact qe_zret c12_22 qr12 e5
theorem b12_23F {d : Nat} {q : Option Value × qH} {h : qH} {r0 : Nat} {x1 : Int32} {fs1 : List Value} {y3 : Int32}  (e2 : h.2.2 r0 = some (.inr (10, fs1))) (e4 : fs1[0]? = some (.int y3)) (e5 : ¬ ((y3 : Int32) < 12)) (kk : qE d 12 32 [some (.ref r0), some (.int x1)] [] h q): qE d 12 23 [some (.ref r0), some (.int x1)] [] h q := by
  refine qe_aload_n c12_23 rfl ?_
  refine qe_getfield c12_24 qo12 qF10_48 e2 e4 ?_
  refine qe_bipush (x := 12) c12_27 (by decide) ?_
  refine qe_icmp_lt_F (t := 38) c12_29 rfl e5 ?_
  exact kk
theorem b12_23T {d : Nat} {q : Option Value × qH} {h : qH} {r0 : Nat} {x1 : Int32} {fs1 : List Value} {y3 : Int32}  (e2 : h.2.2 r0 = some (.inr (10, fs1))) (e4 : fs1[0]? = some (.int y3)) (e5 : (y3 : Int32) < 12) (kk : qE d 12 38 [some (.ref r0), some (.int x1)] [] h q): qE d 12 23 [some (.ref r0), some (.int x1)] [] h q := by
  refine qe_aload_n c12_23 rfl ?_
  refine qe_getfield c12_24 qo12 qF10_48 e2 e4 ?_
  refine qe_bipush (x := 12) c12_27 (by decide) ?_
  refine qe_icmp_lt_T (t := 38) c12_29 rfl e5 ?_
  exact kk
theorem b12_32 {d : Nat} {h : qH} {r0 : Nat} {x1 : Int32} {fs1 : List Value} {h1 : qH} {z3 : Int32}  (e2 : h.2.2 r0 = some (.inr (10, fs1))) (e4 : qCall d 27 [.ref r0, .int 4] h ((some (.int z3)), h1)) (e5 : (z3 : Int32) = 0 ∨ (z3 : Int32) = 1) : qE d 12 32 [some (.ref r0), some (.int x1)] [] h (some (.int z3), h1) := by
  refine qe_aload_n c12_32 rfl ?_
  refine qe_iconst (x := 4) c12_33 (by decide) ?_
  refine qe_virtual (b := r0) (as := [.int 4]) (r := []) (v := (some (.int z3))) (h2 := h1) c12_34 qo12 qK10_78 rfl rfl rfl (by rw [qo27]; exact e2) (Nat.le_of_ble_eq_true rfl) e4 ?_
  exact qe_zret c12_37 qr12 e5
theorem b12_38F {d : Nat} {q : Option Value × qH} {h : qH} {r0 : Nat} {x1 : Int32}  (e1 : (x1 : Int32) = 111) (kk : qE d 12 45 [some (.ref r0), some (.int x1)] [.ref r0] h q): qE d 12 38 [some (.ref r0), some (.int x1)] [] h q := by
  refine qe_aload_n c12_38 rfl ?_
  refine qe_iload_n c12_39 rfl ?_
  refine qe_bipush (x := 111) c12_40 (by decide) ?_
  refine qe_icmp_ne_F (t := 49) c12_42 rfl e1 ?_
  exact kk
theorem b12_38T {d : Nat} {q : Option Value × qH} {h : qH} {r0 : Nat} {x1 : Int32}  (e1 : ¬ ((x1 : Int32) = 111)) (kk : qE d 12 49 [some (.ref r0), some (.int x1)] [.ref r0] h q): qE d 12 38 [some (.ref r0), some (.int x1)] [] h q := by
  refine qe_aload_n c12_38 rfl ?_
  refine qe_iload_n c12_39 rfl ?_
  refine qe_bipush (x := 111) c12_40 (by decide) ?_
  refine qe_icmp_ne_T (t := 49) c12_42 rfl e1 ?_
  exact kk
theorem b12_45 {d : Nat} {q : Option Value × qH} {h : qH} {r0 : Nat} {x1 : Int32} {rs0 : Nat}   (kk : qE d 12 50 [some (.ref r0), some (.int x1)] [.int 1, .ref rs0] h q): qE d 12 45 [some (.ref r0), some (.int x1)] [.ref rs0] h q := by
  refine qe_iconst (x := 1) c12_45 (by decide) ?_
  refine qe_goto (t := 50) c12_46 rfl ?_
  exact kk
theorem b12_49 {d : Nat} {q : Option Value × qH} {h : qH} {r0 : Nat} {x1 : Int32} {rs0 : Nat}   (kk : qE d 12 50 [some (.ref r0), some (.int x1)] [.int 0, .ref rs0] h q): qE d 12 49 [some (.ref r0), some (.int x1)] [.ref rs0] h q := by
  refine qe_iconst (x := 0) c12_49 (by decide) ?_
  exact kk
theorem b12_50 {d : Nat} {h : qH} {r0 : Nat} {x1 : Int32} {rs0 : Nat} {xs1 : Int32} {fs1 : List Value} {h1 : qH} {fs6 : List Value} {y8 : Int32} {h2 : qH}  (e2 : h.2.2 rs0 = some (.inr (10, fs1))) (e3 : 5 < fs1.length) (e4 : (xs1 : Int32) = 0 ∨ (xs1 : Int32) = 1) (e5 : qset h rs0 (.inr (10, fs1.set 5 (.int xs1))) = h1) (e7 : h1.2.2 r0 = some (.inr (10, fs6))) (e9 : fs6[3]? = some (.int y8)) (e10 : 3 < fs6.length) (e11 : qset h1 r0 (.inr (10, fs6.set 3 (.int (y8 + 1)))) = h2) : qE d 12 50 [some (.ref r0), some (.int x1)] [.int xs1, .ref rs0] h (some (.int 1), h2) := by
  refine qe_putfield c12_50 qo12 qF10_81 qz10_5 e2 e3 (by rw [qy10_5]; exact decide_eq_true e4) ?_
  rw [e5]
  refine qe_aload_n c12_53 rfl ?_
  refine qe_dup c12_54 rfl ?_
  refine qe_getfield c12_55 qo12 qF10_57 e7 e9 ?_
  refine qe_iconst (x := 1) c12_58 (by decide) ?_
  refine qe_iadd c12_59 ?_
  refine qe_putfield c12_60 qo12 qF10_57 qz10_3 e7 e10 (by rw [qy10_3]; rfl) ?_
  rw [e11]
  refine qe_iconst (x := 1) c12_63 (by decide) ?_
  exact qe_zret c12_64 qr12 (by decide)
theorem b13_0 {d : Nat} {q : Option Value × qH} {h : qH} {r0 : Nat} {x1 : Int32} {fs1 : List Value} {y3 : Int32} {y6 : Int32}  (e2 : h.2.2 r0 = some (.inr (10, fs1))) (e4 : fs1[2]? = some (.int y3)) (e7 : fs1[4]? = some (.int y6)) (kk : qE d 13 16 [some (.ref r0), some (.int x1), some (.int y3), some (.int y3), some (.int y6), none] [] h q): qE d 13 0 [some (.ref r0), some (.int x1), none, none, none, none] [] h q := by
  refine qe_aload_n c13_0 rfl ?_
  refine qe_getfield c13_1 qo13 qF10_54 e2 e4 ?_
  refine qe_istore_n (ls2 := [some (.ref r0), some (.int x1), some (.int y3), none, none, none]) c13_4 (Nat.le_of_ble_eq_true rfl) rfl ?_
  refine qe_aload_n c13_5 rfl ?_
  refine qe_getfield c13_6 qo13 qF10_54 e2 e4 ?_
  refine qe_istore_n (ls2 := [some (.ref r0), some (.int x1), some (.int y3), some (.int y3), none, none]) c13_9 (Nat.le_of_ble_eq_true rfl) rfl ?_
  refine qe_aload_n c13_10 rfl ?_
  refine qe_getfield c13_11 qo13 qF10_38 e2 e7 ?_
  refine qe_istore (ls2 := [some (.ref r0), some (.int x1), some (.int y3), some (.int y3), some (.int y6), none]) c13_14 (Nat.le_of_ble_eq_true rfl) rfl ?_
  exact kk
theorem b13_16F {d : Nat} {q : Option Value × qH} {h : qH} {r0 : Nat} {x1 : Int32} {x2 : Int32} {x3 : Int32} {x4 : Int32} {o5 : Option Value}  (e1 : ¬ ((x4 : Int32) ≤ 0)) (kk : qE d 13 21 [some (.ref r0), some (.int x1), some (.int x2), some (.int x3), some (.int x4), o5] [] h q): qE d 13 16 [some (.ref r0), some (.int x1), some (.int x2), some (.int x3), some (.int x4), o5] [] h q := by
  refine qe_iload c13_16 rfl ?_
  refine qe_if_le_F (t := 105) c13_18 rfl e1 ?_
  exact kk
theorem b13_16T {d : Nat} {q : Option Value × qH} {h : qH} {r0 : Nat} {x1 : Int32} {x2 : Int32} {x3 : Int32} {x4 : Int32} {o5 : Option Value}  (e1 : (x4 : Int32) ≤ 0) (kk : qE d 13 105 [some (.ref r0), some (.int x1), some (.int x2), some (.int x3), some (.int x4), o5] [] h q): qE d 13 16 [some (.ref r0), some (.int x1), some (.int x2), some (.int x3), some (.int x4), o5] [] h q := by
  refine qe_iload c13_16 rfl ?_
  refine qe_if_le_T (t := 105) c13_18 rfl e1 ?_
  exact kk
theorem b13_21F {d : Nat} {q : Option Value × qH} {h : qH} {r0 : Nat} {x1 : Int32} {x2 : Int32} {x3 : Int32} {x4 : Int32} {o5 : Option Value} {fs1 : List Value} {h1 : qH} {z3 : Int32}  (e2 : h.2.2 r0 = some (.inr (10, fs1))) (e4 : qCall d 24 [.ref r0, .int x1] h ((some (.int z3)), h1)) (e5 : (z3 : Int32) = 0) (kk : qE d 13 29 [some (.ref r0), some (.int x1), some (.int x2), some (.int x3), some (.int x4), o5] [] h1 q): qE d 13 21 [some (.ref r0), some (.int x1), some (.int x2), some (.int x3), some (.int x4), o5] [] h q := by
  refine qe_aload_n c13_21 rfl ?_
  refine qe_iload_n c13_22 rfl ?_
  refine qe_virtual (b := r0) (as := [.int x1]) (r := []) (v := (some (.int z3))) (h2 := h1) c13_23 qo13 qK10_85 rfl rfl rfl (by rw [qo24]; exact e2) (Nat.le_of_ble_eq_true rfl) e4 ?_
  refine qe_if_ne_F (t := 31) c13_26 rfl e5 ?_
  exact kk
theorem b13_21T {d : Nat} {q : Option Value × qH} {h : qH} {r0 : Nat} {x1 : Int32} {x2 : Int32} {x3 : Int32} {x4 : Int32} {o5 : Option Value} {fs1 : List Value} {h1 : qH} {z3 : Int32}  (e2 : h.2.2 r0 = some (.inr (10, fs1))) (e4 : qCall d 24 [.ref r0, .int x1] h ((some (.int z3)), h1)) (e5 : ¬ ((z3 : Int32) = 0)) (kk : qE d 13 31 [some (.ref r0), some (.int x1), some (.int x2), some (.int x3), some (.int x4), o5] [] h1 q): qE d 13 21 [some (.ref r0), some (.int x1), some (.int x2), some (.int x3), some (.int x4), o5] [] h q := by
  refine qe_aload_n c13_21 rfl ?_
  refine qe_iload_n c13_22 rfl ?_
  refine qe_virtual (b := r0) (as := [.int x1]) (r := []) (v := (some (.int z3))) (h2 := h1) c13_23 qo13 qK10_85 rfl rfl rfl (by rw [qo24]; exact e2) (Nat.le_of_ble_eq_true rfl) e4 ?_
  refine qe_if_ne_T (t := 31) c13_26 rfl e5 ?_
  exact kk
theorem b13_29 {d : Nat} {h : qH} {r0 : Nat} {x1 : Int32} {x2 : Int32} {x3 : Int32} {x4 : Int32} {o5 : Option Value}   : qE d 13 29 [some (.ref r0), some (.int x1), some (.int x2), some (.int x3), some (.int x4), o5] [] h (some (.int 0), h) := by
  refine qe_iconst (x := 0) c13_29 (by decide) ?_
  exact qe_zret c13_30 qr13 (by decide)
theorem b13_31F {d : Nat} {q : Option Value × qH} {h : qH} {r0 : Nat} {x1 : Int32} {x2 : Int32} {x3 : Int32} {x4 : Int32} {o5 : Option Value} {fs1 : List Value} {h1 : qH} {z3 : Int32}  (e2 : h.2.2 r0 = some (.inr (10, fs1))) (e4 : qCall d 23 [.ref r0] h ((some (.int z3)), h1)) (e5 : (z3 : Int32) = 38) (kk : qE d 13 44 [some (.ref r0), some (.int x1), some (.int x2), some (.int x3), some (.int x4), some (.int z3)] [] h1 q): qE d 13 31 [some (.ref r0), some (.int x1), some (.int x2), some (.int x3), some (.int x4), o5] [] h q := by
  refine qe_aload_n c13_31 rfl ?_
  refine qe_virtual (b := r0) (as := []) (r := []) (v := (some (.int z3))) (h2 := h1) c13_32 qo13 qK10_74 rfl rfl rfl (by rw [qo23]; exact e2) (Nat.le_of_ble_eq_true rfl) e4 ?_
  refine qe_istore (ls2 := [some (.ref r0), some (.int x1), some (.int x2), some (.int x3), some (.int x4), some (.int z3)]) c13_35 (Nat.le_of_ble_eq_true rfl) rfl ?_
  refine qe_iload c13_37 rfl ?_
  refine qe_bipush (x := 38) c13_39 (by decide) ?_
  refine qe_icmp_ne_F (t := 54) c13_41 rfl e5 ?_
  exact kk
theorem b13_31T {d : Nat} {q : Option Value × qH} {h : qH} {r0 : Nat} {x1 : Int32} {x2 : Int32} {x3 : Int32} {x4 : Int32} {o5 : Option Value} {fs1 : List Value} {h1 : qH} {z3 : Int32}  (e2 : h.2.2 r0 = some (.inr (10, fs1))) (e4 : qCall d 23 [.ref r0] h ((some (.int z3)), h1)) (e5 : ¬ ((z3 : Int32) = 38)) (kk : qE d 13 54 [some (.ref r0), some (.int x1), some (.int x2), some (.int x3), some (.int x4), some (.int z3)] [] h1 q): qE d 13 31 [some (.ref r0), some (.int x1), some (.int x2), some (.int x3), some (.int x4), o5] [] h q := by
  refine qe_aload_n c13_31 rfl ?_
  refine qe_virtual (b := r0) (as := []) (r := []) (v := (some (.int z3))) (h2 := h1) c13_32 qo13 qK10_74 rfl rfl rfl (by rw [qo23]; exact e2) (Nat.le_of_ble_eq_true rfl) e4 ?_
  refine qe_istore (ls2 := [some (.ref r0), some (.int x1), some (.int x2), some (.int x3), some (.int x4), some (.int z3)]) c13_35 (Nat.le_of_ble_eq_true rfl) rfl ?_
  refine qe_iload c13_37 rfl ?_
  refine qe_bipush (x := 38) c13_39 (by decide) ?_
  refine qe_icmp_ne_T (t := 54) c13_41 rfl e5 ?_
  exact kk
theorem b13_44 {d : Nat} {q : Option Value × qH} {h : qH} {r0 : Nat} {x1 : Int32} {x2 : Int32} {x3 : Int32} {x4 : Int32} {x5 : Int32} {fs1 : List Value} {h1 : qH}  (e2 : h.2.2 r0 = some (.inr (10, fs1))) (e3 : qCall d 14 [.ref r0, .int 38, .int (-1)] h (none, h1)) (kk : qE d 13 89 [some (.ref r0), some (.int x1), some (.int x2), some (.int x3), some (.int x4), some (.int x5)] [] h1 q): qE d 13 44 [some (.ref r0), some (.int x1), some (.int x2), some (.int x3), some (.int x4), some (.int x5)] [] h q := by
  refine qe_aload_n c13_44 rfl ?_
  refine qe_bipush (x := 38) c13_45 (by decide) ?_
  refine qe_iconst (x := (-1)) c13_47 (by decide) ?_
  refine qe_virtual (b := r0) (as := [.int 38, .int (-1)]) (r := []) (v := none) (h2 := h1) c13_48 qo13 qK10_88 rfl rfl rfl (by rw [qo14]; exact e2) (Nat.le_of_ble_eq_true rfl) e3 ?_
  refine qe_goto (t := 89) c13_51 rfl ?_
  exact kk
theorem b13_54F {d : Nat} {q : Option Value × qH} {h : qH} {r0 : Nat} {x1 : Int32} {x2 : Int32} {x3 : Int32} {x4 : Int32} {x5 : Int32} {fs1 : List Value} {h1 : qH}  (e2 : h.2.2 r0 = some (.inr (10, fs1))) (e3 : qCall d 21 [.ref r0, .int x3, .int 38] h (none, h1)) (e4 : ¬ ((x5 : Int32) = 124)) (kk : qE d 13 68 [some (.ref r0), some (.int x1), some (.int x2), some (.int x3), some (.int x4), some (.int x5)] [] h1 q): qE d 13 54 [some (.ref r0), some (.int x1), some (.int x2), some (.int x3), some (.int x4), some (.int x5)] [] h q := by
  refine qe_aload_n c13_54 rfl ?_
  refine qe_iload_n c13_55 rfl ?_
  refine qe_bipush (x := 38) c13_56 (by decide) ?_
  refine qe_virtual (b := r0) (as := [.int x3, .int 38]) (r := []) (v := none) (h2 := h1) c13_58 qo13 qK10_92 rfl rfl rfl (by rw [qo21]; exact e2) (Nat.le_of_ble_eq_true rfl) e3 ?_
  refine qe_iload c13_61 rfl ?_
  refine qe_bipush (x := 124) c13_63 (by decide) ?_
  refine qe_icmp_eq_F (t := 77) c13_65 rfl e4 ?_
  exact kk
theorem b13_54T {d : Nat} {q : Option Value × qH} {h : qH} {r0 : Nat} {x1 : Int32} {x2 : Int32} {x3 : Int32} {x4 : Int32} {x5 : Int32} {fs1 : List Value} {h1 : qH}  (e2 : h.2.2 r0 = some (.inr (10, fs1))) (e3 : qCall d 21 [.ref r0, .int x3, .int 38] h (none, h1)) (e4 : (x5 : Int32) = 124) (kk : qE d 13 77 [some (.ref r0), some (.int x1), some (.int x2), some (.int x3), some (.int x4), some (.int x5)] [] h1 q): qE d 13 54 [some (.ref r0), some (.int x1), some (.int x2), some (.int x3), some (.int x4), some (.int x5)] [] h q := by
  refine qe_aload_n c13_54 rfl ?_
  refine qe_iload_n c13_55 rfl ?_
  refine qe_bipush (x := 38) c13_56 (by decide) ?_
  refine qe_virtual (b := r0) (as := [.int x3, .int 38]) (r := []) (v := none) (h2 := h1) c13_58 qo13 qK10_92 rfl rfl rfl (by rw [qo21]; exact e2) (Nat.le_of_ble_eq_true rfl) e3 ?_
  refine qe_iload c13_61 rfl ?_
  refine qe_bipush (x := 124) c13_63 (by decide) ?_
  refine qe_icmp_eq_T (t := 77) c13_65 rfl e4 ?_
  exact kk
theorem b13_68 {d : Nat} {h : qH} {r0 : Nat} {x1 : Int32} {x2 : Int32} {x3 : Int32} {x4 : Int32} {x5 : Int32} {fs1 : List Value} {h1 : qH}  (e2 : h.2.2 r0 = some (.inr (10, fs1))) (e3 : qCall d 21 [.ref r0, .int x2, .int 124] h (none, h1)) : qE d 13 68 [some (.ref r0), some (.int x1), some (.int x2), some (.int x3), some (.int x4), some (.int x5)] [] h (some (.int 1), h1) := by
  refine qe_aload_n c13_68 rfl ?_
  refine qe_iload_n c13_69 rfl ?_
  refine qe_bipush (x := 124) c13_70 (by decide) ?_
  refine qe_virtual (b := r0) (as := [.int x2, .int 124]) (r := []) (v := none) (h2 := h1) c13_72 qo13 qK10_92 rfl rfl rfl (by rw [qo21]; exact e2) (Nat.le_of_ble_eq_true rfl) e3 ?_
  refine qe_iconst (x := 1) c13_75 (by decide) ?_
  exact qe_zret c13_76 qr13 (by decide)
theorem b13_77 {d : Nat} {q : Option Value × qH} {h : qH} {r0 : Nat} {x1 : Int32} {x2 : Int32} {x3 : Int32} {x4 : Int32} {x5 : Int32} {fs1 : List Value} {h1 : qH} {fs4 : List Value} {y6 : Int32}  (e2 : h.2.2 r0 = some (.inr (10, fs1))) (e3 : qCall d 14 [.ref r0, .int 124, .int (-1)] h (none, h1)) (e5 : h1.2.2 r0 = some (.inr (10, fs4))) (e7 : fs4[2]? = some (.int y6)) (kk : qE d 13 89 [some (.ref r0), some (.int x1), some (.int x2), some (.int y6), some (.int x4), some (.int x5)] [] h1 q): qE d 13 77 [some (.ref r0), some (.int x1), some (.int x2), some (.int x3), some (.int x4), some (.int x5)] [] h q := by
  refine qe_aload_n c13_77 rfl ?_
  refine qe_bipush (x := 124) c13_78 (by decide) ?_
  refine qe_iconst (x := (-1)) c13_80 (by decide) ?_
  refine qe_virtual (b := r0) (as := [.int 124, .int (-1)]) (r := []) (v := none) (h2 := h1) c13_81 qo13 qK10_88 rfl rfl rfl (by rw [qo14]; exact e2) (Nat.le_of_ble_eq_true rfl) e3 ?_
  refine qe_aload_n c13_84 rfl ?_
  refine qe_getfield c13_85 qo13 qF10_54 e5 e7 ?_
  refine qe_istore_n (ls2 := [some (.ref r0), some (.int x1), some (.int x2), some (.int y6), some (.int x4), some (.int x5)]) c13_88 (Nat.le_of_ble_eq_true rfl) rfl ?_
  exact kk
theorem b13_89 {d : Nat} {q : Option Value × qH} {h : qH} {r0 : Nat} {x1 : Int32} {x2 : Int32} {x3 : Int32} {x4 : Int32} {x5 : Int32} {fs1 : List Value} {y3 : Int32} {h1 : qH}  (e2 : h.2.2 r0 = some (.inr (10, fs1))) (e4 : fs1[3]? = some (.int y3)) (e5 : 3 < fs1.length) (e6 : qset h r0 (.inr (10, fs1.set 3 (.int (y3 + 1)))) = h1) (kk : qE d 13 16 [some (.ref r0), some (.int x1), some (.int x2), some (.int x3), some (.int (x4 + (-1))), some (.int x5)] [] h1 q): qE d 13 89 [some (.ref r0), some (.int x1), some (.int x2), some (.int x3), some (.int x4), some (.int x5)] [] h q := by
  refine qe_aload_n c13_89 rfl ?_
  refine qe_dup c13_90 rfl ?_
  refine qe_getfield c13_91 qo13 qF10_57 e2 e4 ?_
  refine qe_iconst (x := 1) c13_94 (by decide) ?_
  refine qe_iadd c13_95 ?_
  refine qe_putfield c13_96 qo13 qF10_57 qz10_3 e2 e5 (by rw [qy10_3]; rfl) ?_
  rw [e6]
  refine qe_iinc (y := (x4 + (-1))) (ls2 := [some (.ref r0), some (.int x1), some (.int x2), some (.int x3), some (.int (x4 + (-1))), some (.int x5)]) c13_99 rfl (Nat.le_of_ble_eq_true rfl) rfl rfl ?_
  refine qe_goto (t := 16) c13_102 rfl ?_
  exact kk
theorem b13_105 {d : Nat} {h : qH} {r0 : Nat} {x1 : Int32} {x2 : Int32} {x3 : Int32} {x4 : Int32} {o5 : Option Value} {fs1 : List Value} {h1 : qH} {z3 : Int32}  (e2 : h.2.2 r0 = some (.inr (10, fs1))) (e4 : qCall d 27 [.ref r0, .int 1] h ((some (.int z3)), h1)) (e5 : (z3 : Int32) = 0 ∨ (z3 : Int32) = 1) : qE d 13 105 [some (.ref r0), some (.int x1), some (.int x2), some (.int x3), some (.int x4), o5] [] h (some (.int z3), h1) := by
  refine qe_aload_n c13_105 rfl ?_
  refine qe_iconst (x := 1) c13_106 (by decide) ?_
  refine qe_virtual (b := r0) (as := [.int 1]) (r := []) (v := (some (.int z3))) (h2 := h1) c13_107 qo13 qK10_78 rfl rfl rfl (by rw [qo27]; exact e2) (Nat.le_of_ble_eq_true rfl) e4 ?_
  exact qe_zret c13_110 qr13 e5
theorem b14_0F {d : Nat} {q : Option Value × qH} {h : qH} {r0 : Nat} {x1 : Int32} {x2 : Int32} {fs1 : List Value} {y3 : Int32}  (e2 : h.2.2 r0 = some (.inr (10, fs1))) (e4 : fs1[2]? = some (.int y3)) (e5 : ¬ ((320 : Int32) ≤ y3)) (kk : qE d 14 10 [some (.ref r0), some (.int x1), some (.int x2)] [] h q): qE d 14 0 [some (.ref r0), some (.int x1), some (.int x2)] [] h q := by
  refine qe_aload_n c14_0 rfl ?_
  refine qe_getfield c14_1 qo14 qF10_54 e2 e4 ?_
  refine qe_sipush (x := 320) c14_4 (by decide) ?_
  refine qe_icmp_ge_F (t := 40) c14_7 rfl e5 ?_
  exact kk
theorem b14_0T {d : Nat} {q : Option Value × qH} {h : qH} {r0 : Nat} {x1 : Int32} {x2 : Int32} {fs1 : List Value} {y3 : Int32}  (e2 : h.2.2 r0 = some (.inr (10, fs1))) (e4 : fs1[2]? = some (.int y3)) (e5 : (320 : Int32) ≤ y3) (kk : qE d 14 40 [some (.ref r0), some (.int x1), some (.int x2)] [] h q): qE d 14 0 [some (.ref r0), some (.int x1), some (.int x2)] [] h q := by
  refine qe_aload_n c14_0 rfl ?_
  refine qe_getfield c14_1 qo14 qF10_54 e2 e4 ?_
  refine qe_sipush (x := 320) c14_4 (by decide) ?_
  refine qe_icmp_ge_T (t := 40) c14_7 rfl e5 ?_
  exact kk
theorem b14_10 {d : Nat} {q : Option Value × qH} {h : qH} {r0 : Nat} {x1 : Int32} {x2 : Int32} {fs1 : List Value} {y3 : Nat} {y5 : Int32} {n7 : Nat} {f8 : Nat → Int32} {h1 : qH} {fs12 : List Value} {y14 : Nat} {y16 : Int32} {n18 : Nat} {f19 : Nat → Int32} {h2 : qH} {fs23 : List Value} {y25 : Int32} {h3 : qH}  (e2 : h.2.2 r0 = some (.inr (10, fs1))) (e4 : fs1[7]? = some (.ref y3)) (e6 : fs1[2]? = some (.int y5)) (e9 : h.2.2 y3 = some (.inl (0, n7, .inl f8))) (e10 : 0 ≤ (y5 : Int32).toInt ∧ (y5 : Int32).toInt < (n7 : Nat)) (e11 : qset h y3 (.inl (0, n7, .inl (upd f8 ((y5 : Int32).toNatClampNeg) x1))) = h1) (e13 : h1.2.2 r0 = some (.inr (10, fs12))) (e15 : fs12[8]? = some (.ref y14)) (e17 : fs12[2]? = some (.int y16)) (e20 : h1.2.2 y14 = some (.inl (0, n18, .inl f19))) (e21 : 0 ≤ (y16 : Int32).toInt ∧ (y16 : Int32).toInt < (n18 : Nat)) (e22 : qset h1 y14 (.inl (0, n18, .inl (upd f19 ((y16 : Int32).toNatClampNeg) x2))) = h2) (e24 : h2.2.2 r0 = some (.inr (10, fs23))) (e26 : fs23[2]? = some (.int y25)) (e27 : 2 < fs23.length) (e28 : qset h2 r0 (.inr (10, fs23.set 2 (.int (y25 + 1)))) = h3) (kk : qE d 14 40 [some (.ref r0), some (.int x1), some (.int x2)] [] h3 q): qE d 14 10 [some (.ref r0), some (.int x1), some (.int x2)] [] h q := by
  refine qe_aload_n c14_10 rfl ?_
  refine qe_getfield c14_11 qo14 qF10_15 e2 e4 ?_
  refine qe_aload_n c14_14 rfl ?_
  refine qe_getfield c14_15 qo14 qF10_54 e2 e6 ?_
  refine qe_iload_n c14_18 rfl ?_
  refine qe_iastore c14_19 e9 e10 ?_
  rw [e11]
  refine qe_aload_n c14_20 rfl ?_
  refine qe_getfield c14_21 qo14 qF10_18 e13 e15 ?_
  refine qe_aload_n c14_24 rfl ?_
  refine qe_getfield c14_25 qo14 qF10_54 e13 e17 ?_
  refine qe_iload_n c14_28 rfl ?_
  refine qe_iastore c14_29 e20 e21 ?_
  rw [e22]
  refine qe_aload_n c14_30 rfl ?_
  refine qe_dup c14_31 rfl ?_
  refine qe_getfield c14_32 qo14 qF10_54 e24 e26 ?_
  refine qe_iconst (x := 1) c14_35 (by decide) ?_
  refine qe_iadd c14_36 ?_
  refine qe_putfield c14_37 qo14 qF10_54 qz10_2 e24 e27 (by rw [qy10_2]; rfl) ?_
  rw [e28]
  exact kk
theorem b14_40 {d : Nat} {h : qH} {r0 : Nat} {x1 : Int32} {x2 : Int32}   : qE d 14 40 [some (.ref r0), some (.int x1), some (.int x2)] [] h (none, h) := by
  exact qe_vret c14_40 qr14
theorem b15_0F {d : Nat} {q : Option Value × qH} {h : qH} {r0 : Nat} {x1 : Int32} {fs1 : List Value} {h1 : qH} {z3 : Int32}  (e2 : h.2.2 r0 = some (.inr (10, fs1))) (e4 : qCall d 23 [.ref r0] h ((some (.int z3)), h1)) (e5 : (z3 : Int32) = 91) (kk : qE d 15 11 [some (.ref r0), some (.int x1), some (.int z3), none] [] h1 q): qE d 15 0 [some (.ref r0), some (.int x1), none, none] [] h q := by
  refine qe_aload_n c15_0 rfl ?_
  refine qe_virtual (b := r0) (as := []) (r := []) (v := (some (.int z3))) (h2 := h1) c15_1 qo15 qK10_74 rfl rfl rfl (by rw [qo23]; exact e2) (Nat.le_of_ble_eq_true rfl) e4 ?_
  refine qe_istore_n (ls2 := [some (.ref r0), some (.int x1), some (.int z3), none]) c15_4 (Nat.le_of_ble_eq_true rfl) rfl ?_
  refine qe_iload_n c15_5 rfl ?_
  refine qe_bipush (x := 91) c15_6 (by decide) ?_
  refine qe_icmp_ne_F (t := 58) c15_8 rfl e5 ?_
  exact kk
theorem b15_0T {d : Nat} {q : Option Value × qH} {h : qH} {r0 : Nat} {x1 : Int32} {fs1 : List Value} {h1 : qH} {z3 : Int32}  (e2 : h.2.2 r0 = some (.inr (10, fs1))) (e4 : qCall d 23 [.ref r0] h ((some (.int z3)), h1)) (e5 : ¬ ((z3 : Int32) = 91)) (kk : qE d 15 58 [some (.ref r0), some (.int x1), some (.int z3), none] [] h1 q): qE d 15 0 [some (.ref r0), some (.int x1), none, none] [] h q := by
  refine qe_aload_n c15_0 rfl ?_
  refine qe_virtual (b := r0) (as := []) (r := []) (v := (some (.int z3))) (h2 := h1) c15_1 qo15 qK10_74 rfl rfl rfl (by rw [qo23]; exact e2) (Nat.le_of_ble_eq_true rfl) e4 ?_
  refine qe_istore_n (ls2 := [some (.ref r0), some (.int x1), some (.int z3), none]) c15_4 (Nat.le_of_ble_eq_true rfl) rfl ?_
  refine qe_iload_n c15_5 rfl ?_
  refine qe_bipush (x := 91) c15_6 (by decide) ?_
  refine qe_icmp_ne_T (t := 58) c15_8 rfl e5 ?_
  exact kk
theorem b15_11F {d : Nat} {q : Option Value × qH} {h : qH} {r0 : Nat} {x1 : Int32} {x2 : Int32}  (e1 : ¬ ((x1 : Int32) < 6)) (kk : qE d 15 17 [some (.ref r0), some (.int x1), some (.int x2), none] [] h q): qE d 15 11 [some (.ref r0), some (.int x1), some (.int x2), none] [] h q := by
  refine qe_iload_n c15_11 rfl ?_
  refine qe_bipush (x := 6) c15_12 (by decide) ?_
  refine qe_icmp_lt_F (t := 23) c15_14 rfl e1 ?_
  exact kk
theorem b15_11T {d : Nat} {q : Option Value × qH} {h : qH} {r0 : Nat} {x1 : Int32} {x2 : Int32}  (e1 : (x1 : Int32) < 6) (kk : qE d 15 23 [some (.ref r0), some (.int x1), some (.int x2), none] [] h q): qE d 15 11 [some (.ref r0), some (.int x1), some (.int x2), none] [] h q := by
  refine qe_iload_n c15_11 rfl ?_
  refine qe_bipush (x := 6) c15_12 (by decide) ?_
  refine qe_icmp_lt_T (t := 23) c15_14 rfl e1 ?_
  exact kk
theorem b15_17 {d : Nat} {h : qH} {r0 : Nat} {x1 : Int32} {x2 : Int32} {fs1 : List Value} {h1 : qH} {z3 : Int32}  (e2 : h.2.2 r0 = some (.inr (10, fs1))) (e4 : qCall d 27 [.ref r0, .int 5] h ((some (.int z3)), h1)) (e5 : (z3 : Int32) = 0 ∨ (z3 : Int32) = 1) : qE d 15 17 [some (.ref r0), some (.int x1), some (.int x2), none] [] h (some (.int z3), h1) := by
  refine qe_aload_n c15_17 rfl ?_
  refine qe_iconst (x := 5) c15_18 (by decide) ?_
  refine qe_virtual (b := r0) (as := [.int 5]) (r := []) (v := (some (.int z3))) (h2 := h1) c15_19 qo15 qK10_78 rfl rfl rfl (by rw [qo27]; exact e2) (Nat.le_of_ble_eq_true rfl) e4 ?_
  exact qe_zret c15_22 qr15 e5
theorem b15_23F {d : Nat} {q : Option Value × qH} {h : qH} {r0 : Nat} {x1 : Int32} {x2 : Int32} {fs1 : List Value} {y3 : Int32} {h1 : qH} {fs7 : List Value} {h2 : qH} {z9 : Int32}  (e2 : h.2.2 r0 = some (.inr (10, fs1))) (e4 : fs1[3]? = some (.int y3)) (e5 : 3 < fs1.length) (e6 : qset h r0 (.inr (10, fs1.set 3 (.int (y3 + 1)))) = h1) (e8 : h1.2.2 r0 = some (.inr (10, fs7))) (e10 : qCall d 28 [.ref r0, .int (x1 + 1)] h1 ((some (.int z9)), h2)) (e11 : ¬ ((z9 : Int32) = 0)) (kk : qE d 15 43 [some (.ref r0), some (.int x1), some (.int x2), none] [] h2 q): qE d 15 23 [some (.ref r0), some (.int x1), some (.int x2), none] [] h q := by
  refine qe_aload_n c15_23 rfl ?_
  refine qe_dup c15_24 rfl ?_
  refine qe_getfield c15_25 qo15 qF10_57 e2 e4 ?_
  refine qe_iconst (x := 1) c15_28 (by decide) ?_
  refine qe_iadd c15_29 ?_
  refine qe_putfield c15_30 qo15 qF10_57 qz10_3 e2 e5 (by rw [qy10_3]; rfl) ?_
  rw [e6]
  refine qe_aload_n c15_33 rfl ?_
  refine qe_iload_n c15_34 rfl ?_
  refine qe_iconst (x := 1) c15_35 (by decide) ?_
  refine qe_iadd c15_36 ?_
  refine qe_virtual (b := r0) (as := [.int (x1 + 1)]) (r := []) (v := (some (.int z9))) (h2 := h2) c15_37 qo15 qK10_95 rfl rfl rfl (by rw [qo28]; exact e8) (Nat.le_of_ble_eq_true rfl) e10 ?_
  refine qe_if_eq_F (t := 56) c15_40 rfl e11 ?_
  exact kk
theorem b15_23T {d : Nat} {q : Option Value × qH} {h : qH} {r0 : Nat} {x1 : Int32} {x2 : Int32} {fs1 : List Value} {y3 : Int32} {h1 : qH} {fs7 : List Value} {h2 : qH} {z9 : Int32}  (e2 : h.2.2 r0 = some (.inr (10, fs1))) (e4 : fs1[3]? = some (.int y3)) (e5 : 3 < fs1.length) (e6 : qset h r0 (.inr (10, fs1.set 3 (.int (y3 + 1)))) = h1) (e8 : h1.2.2 r0 = some (.inr (10, fs7))) (e10 : qCall d 28 [.ref r0, .int (x1 + 1)] h1 ((some (.int z9)), h2)) (e11 : (z9 : Int32) = 0) (kk : qE d 15 56 [some (.ref r0), some (.int x1), some (.int x2), none] [] h2 q): qE d 15 23 [some (.ref r0), some (.int x1), some (.int x2), none] [] h q := by
  refine qe_aload_n c15_23 rfl ?_
  refine qe_dup c15_24 rfl ?_
  refine qe_getfield c15_25 qo15 qF10_57 e2 e4 ?_
  refine qe_iconst (x := 1) c15_28 (by decide) ?_
  refine qe_iadd c15_29 ?_
  refine qe_putfield c15_30 qo15 qF10_57 qz10_3 e2 e5 (by rw [qy10_3]; rfl) ?_
  rw [e6]
  refine qe_aload_n c15_33 rfl ?_
  refine qe_iload_n c15_34 rfl ?_
  refine qe_iconst (x := 1) c15_35 (by decide) ?_
  refine qe_iadd c15_36 ?_
  refine qe_virtual (b := r0) (as := [.int (x1 + 1)]) (r := []) (v := (some (.int z9))) (h2 := h2) c15_37 qo15 qK10_95 rfl rfl rfl (by rw [qo28]; exact e8) (Nat.le_of_ble_eq_true rfl) e10 ?_
  refine qe_if_eq_T (t := 56) c15_40 rfl e11 ?_
  exact kk
theorem b15_43F {d : Nat} {q : Option Value × qH} {h : qH} {r0 : Nat} {x1 : Int32} {x2 : Int32} {fs1 : List Value} {h1 : qH} {z3 : Int32}  (e2 : h.2.2 r0 = some (.inr (10, fs1))) (e4 : qCall d 29 [.ref r0, .int 93] h ((some (.int z3)), h1)) (e5 : ¬ ((z3 : Int32) = 0)) (kk : qE d 15 52 [some (.ref r0), some (.int x1), some (.int x2), none] [] h1 q): qE d 15 43 [some (.ref r0), some (.int x1), some (.int x2), none] [] h q := by
  refine qe_aload_n c15_43 rfl ?_
  refine qe_bipush (x := 93) c15_44 (by decide) ?_
  refine qe_virtual (b := r0) (as := [.int 93]) (r := []) (v := (some (.int z3))) (h2 := h1) c15_46 qo15 qK10_64 rfl rfl rfl (by rw [qo29]; exact e2) (Nat.le_of_ble_eq_true rfl) e4 ?_
  refine qe_if_eq_F (t := 56) c15_49 rfl e5 ?_
  exact kk
theorem b15_43T {d : Nat} {q : Option Value × qH} {h : qH} {r0 : Nat} {x1 : Int32} {x2 : Int32} {fs1 : List Value} {h1 : qH} {z3 : Int32}  (e2 : h.2.2 r0 = some (.inr (10, fs1))) (e4 : qCall d 29 [.ref r0, .int 93] h ((some (.int z3)), h1)) (e5 : (z3 : Int32) = 0) (kk : qE d 15 56 [some (.ref r0), some (.int x1), some (.int x2), none] [] h1 q): qE d 15 43 [some (.ref r0), some (.int x1), some (.int x2), none] [] h q := by
  refine qe_aload_n c15_43 rfl ?_
  refine qe_bipush (x := 93) c15_44 (by decide) ?_
  refine qe_virtual (b := r0) (as := [.int 93]) (r := []) (v := (some (.int z3))) (h2 := h1) c15_46 qo15 qK10_64 rfl rfl rfl (by rw [qo29]; exact e2) (Nat.le_of_ble_eq_true rfl) e4 ?_
  refine qe_if_eq_T (t := 56) c15_49 rfl e5 ?_
  exact kk
theorem b15_52 {d : Nat} {q : Option Value × qH} {h : qH} {r0 : Nat} {x1 : Int32} {x2 : Int32}   (kk : qE d 15 57 [some (.ref r0), some (.int x1), some (.int x2), none] [.int 1] h q): qE d 15 52 [some (.ref r0), some (.int x1), some (.int x2), none] [] h q := by
  refine qe_iconst (x := 1) c15_52 (by decide) ?_
  refine qe_goto (t := 57) c15_53 rfl ?_
  exact kk
theorem b15_56 {d : Nat} {q : Option Value × qH} {h : qH} {r0 : Nat} {x1 : Int32} {x2 : Int32}   (kk : qE d 15 57 [some (.ref r0), some (.int x1), some (.int x2), none] [.int 0] h q): qE d 15 56 [some (.ref r0), some (.int x1), some (.int x2), none] [] h q := by
  refine qe_iconst (x := 0) c15_56 (by decide) ?_
  exact kk
theorem b15_57 {d : Nat} {h : qH} {r0 : Nat} {x1 : Int32} {x2 : Int32} {xs0 : Int32}  (e1 : (xs0 : Int32) = 0 ∨ (xs0 : Int32) = 1) : qE d 15 57 [some (.ref r0), some (.int x1), some (.int x2), none] [.int xs0] h (some (.int xs0), h) := by
  exact qe_zret c15_57 qr15 e1
theorem b15_58F {d : Nat} {q : Option Value × qH} {h : qH} {r0 : Nat} {x1 : Int32} {x2 : Int32} {h1 : qH} {z1 : Int32}  (e2 : qCall d 20 [.int x2] h ((some (.int z1)), h1)) (e3 : ¬ ((z1 : Int32) = 0)) (kk : qE d 15 65 [some (.ref r0), some (.int x1), some (.int x2), none] [] h1 q): qE d 15 58 [some (.ref r0), some (.int x1), some (.int x2), none] [] h q := by
  refine qe_iload_n c15_58 rfl ?_
  refine qe_static (as := [.int x2]) (r := []) (v := (some (.int z1))) (h2 := h1) c15_59 qo15 (by decide) qK10_101 rfl rfl rfl (Nat.le_of_ble_eq_true rfl) e2 ?_
  refine qe_if_eq_F (t := 70) c15_62 rfl e3 ?_
  exact kk
theorem b15_58T {d : Nat} {q : Option Value × qH} {h : qH} {r0 : Nat} {x1 : Int32} {x2 : Int32} {h1 : qH} {z1 : Int32}  (e2 : qCall d 20 [.int x2] h ((some (.int z1)), h1)) (e3 : (z1 : Int32) = 0) (kk : qE d 15 70 [some (.ref r0), some (.int x1), some (.int x2), none] [] h1 q): qE d 15 58 [some (.ref r0), some (.int x1), some (.int x2), none] [] h q := by
  refine qe_iload_n c15_58 rfl ?_
  refine qe_static (as := [.int x2]) (r := []) (v := (some (.int z1))) (h2 := h1) c15_59 qo15 (by decide) qK10_101 rfl rfl rfl (Nat.le_of_ble_eq_true rfl) e2 ?_
  refine qe_if_eq_T (t := 70) c15_62 rfl e3 ?_
  exact kk
theorem b15_65 {d : Nat} {h : qH} {r0 : Nat} {x1 : Int32} {x2 : Int32} {fs1 : List Value} {h1 : qH} {z3 : Int32}  (e2 : h.2.2 r0 = some (.inr (10, fs1))) (e4 : qCall d 22 [.ref r0] h ((some (.int z3)), h1)) (e5 : (z3 : Int32) = 0 ∨ (z3 : Int32) = 1) : qE d 15 65 [some (.ref r0), some (.int x1), some (.int x2), none] [] h (some (.int z3), h1) := by
  refine qe_aload_n c15_65 rfl ?_
  refine qe_virtual (b := r0) (as := []) (r := []) (v := (some (.int z3))) (h2 := h1) c15_66 qo15 qK10_104 rfl rfl rfl (by rw [qo22]; exact e2) (Nat.le_of_ble_eq_true rfl) e4 ?_
  exact qe_zret c15_69 qr15 e5
theorem b15_70 {d : Nat} {q : Option Value × qH} {h : qH} {r0 : Nat} {x1 : Int32} {x2 : Int32}   (kk : qE d 15 72 [some (.ref r0), some (.int x1), some (.int x2), some (.int 0)] [] h q): qE d 15 70 [some (.ref r0), some (.int x1), some (.int x2), none] [] h q := by
  refine qe_iconst (x := 0) c15_70 (by decide) ?_
  refine qe_istore_n (ls2 := [some (.ref r0), some (.int x1), some (.int x2), some (.int 0)]) c15_71 (Nat.le_of_ble_eq_true rfl) rfl ?_
  exact kk
theorem b15_72F {d : Nat} {q : Option Value × qH} {h : qH} {r0 : Nat} {x1 : Int32} {x2 : Int32} {x3 : Int32}  (e1 : ¬ ((11 : Int32) ≤ x3)) (kk : qE d 15 78 [some (.ref r0), some (.int x1), some (.int x2), some (.int x3)] [] h q): qE d 15 72 [some (.ref r0), some (.int x1), some (.int x2), some (.int x3)] [] h q := by
  refine qe_iload_n c15_72 rfl ?_
  refine qe_bipush (x := 11) c15_73 (by decide) ?_
  refine qe_icmp_ge_F (t := 120) c15_75 rfl e1 ?_
  exact kk
theorem b15_72T {d : Nat} {q : Option Value × qH} {h : qH} {r0 : Nat} {x1 : Int32} {x2 : Int32} {x3 : Int32}  (e1 : (11 : Int32) ≤ x3) (kk : qE d 15 120 [some (.ref r0), some (.int x1), some (.int x2), some (.int x3)] [] h q): qE d 15 72 [some (.ref r0), some (.int x1), some (.int x2), some (.int x3)] [] h q := by
  refine qe_iload_n c15_72 rfl ?_
  refine qe_bipush (x := 11) c15_73 (by decide) ?_
  refine qe_icmp_ge_T (t := 120) c15_75 rfl e1 ?_
  exact kk
theorem b15_78F {d : Nat} {q : Option Value × qH} {h : qH} {r0 : Nat} {x1 : Int32} {x2 : Int32} {x3 : Int32} {n1 : Nat} {f2 : Nat → Int32}  (e3 : h.2.2 1 = some (.inl (9, n1, .inl f2))) (e4 : 0 ≤ (x3 : Int32).toInt ∧ (x3 : Int32).toInt < (n1 : Nat)) (e5 : ((f2 (x3 : Int32).toNatClampNeg) : Int32) = x2) (kk : qE d 15 87 [some (.ref r0), some (.int x1), some (.int x2), some (.int x3)] [] h q): qE d 15 78 [some (.ref r0), some (.int x1), some (.int x2), some (.int x3)] [] h q := by
  refine qe_signs c15_78 qo15 ?_
  refine qe_iload_n c15_81 rfl ?_
  refine qe_caload c15_82 e3 e4 ?_
  refine qe_iload_n c15_83 rfl ?_
  refine qe_icmp_ne_F (t := 114) c15_84 rfl e5 ?_
  exact kk
theorem b15_78T {d : Nat} {q : Option Value × qH} {h : qH} {r0 : Nat} {x1 : Int32} {x2 : Int32} {x3 : Int32} {n1 : Nat} {f2 : Nat → Int32}  (e3 : h.2.2 1 = some (.inl (9, n1, .inl f2))) (e4 : 0 ≤ (x3 : Int32).toInt ∧ (x3 : Int32).toInt < (n1 : Nat)) (e5 : ¬ (((f2 (x3 : Int32).toNatClampNeg) : Int32) = x2)) (kk : qE d 15 114 [some (.ref r0), some (.int x1), some (.int x2), some (.int x3)] [] h q): qE d 15 78 [some (.ref r0), some (.int x1), some (.int x2), some (.int x3)] [] h q := by
  refine qe_signs c15_78 qo15 ?_
  refine qe_iload_n c15_81 rfl ?_
  refine qe_caload c15_82 e3 e4 ?_
  refine qe_iload_n c15_83 rfl ?_
  refine qe_icmp_ne_T (t := 114) c15_84 rfl e5 ?_
  exact kk
theorem b15_87F {d : Nat} {q : Option Value × qH} {h : qH} {r0 : Nat} {x1 : Int32} {x2 : Int32} {x3 : Int32} {fs1 : List Value} {h1 : qH} {z3 : Int32}  (e2 : h.2.2 r0 = some (.inr (10, fs1))) (e4 : qCall d 19 [.ref r0, .int x3] h ((some (.int z3)), h1)) (e5 : ¬ ((z3 : Int32) = 0)) (kk : qE d 15 95 [some (.ref r0), some (.int x1), some (.int x2), some (.int x3)] [] h1 q): qE d 15 87 [some (.ref r0), some (.int x1), some (.int x2), some (.int x3)] [] h q := by
  refine qe_aload_n c15_87 rfl ?_
  refine qe_iload_n c15_88 rfl ?_
  refine qe_virtual (b := r0) (as := [.int x3]) (r := []) (v := (some (.int z3))) (h2 := h1) c15_89 qo15 qK10_111 rfl rfl rfl (by rw [qo19]; exact e2) (Nat.le_of_ble_eq_true rfl) e4 ?_
  refine qe_if_eq_F (t := 114) c15_92 rfl e5 ?_
  exact kk
theorem b15_87T {d : Nat} {q : Option Value × qH} {h : qH} {r0 : Nat} {x1 : Int32} {x2 : Int32} {x3 : Int32} {fs1 : List Value} {h1 : qH} {z3 : Int32}  (e2 : h.2.2 r0 = some (.inr (10, fs1))) (e4 : qCall d 19 [.ref r0, .int x3] h ((some (.int z3)), h1)) (e5 : (z3 : Int32) = 0) (kk : qE d 15 114 [some (.ref r0), some (.int x1), some (.int x2), some (.int x3)] [] h1 q): qE d 15 87 [some (.ref r0), some (.int x1), some (.int x2), some (.int x3)] [] h q := by
  refine qe_aload_n c15_87 rfl ?_
  refine qe_iload_n c15_88 rfl ?_
  refine qe_virtual (b := r0) (as := [.int x3]) (r := []) (v := (some (.int z3))) (h2 := h1) c15_89 qo15 qK10_111 rfl rfl rfl (by rw [qo19]; exact e2) (Nat.le_of_ble_eq_true rfl) e4 ?_
  refine qe_if_eq_T (t := 114) c15_92 rfl e5 ?_
  exact kk
theorem b15_95 {d : Nat} {h : qH} {r0 : Nat} {x1 : Int32} {x2 : Int32} {x3 : Int32} {fs1 : List Value} {h1 : qH} {fs4 : List Value} {y6 : Int32} {h2 : qH}  (e2 : h.2.2 r0 = some (.inr (10, fs1))) (e3 : qCall d 14 [.ref r0, .int 97, .int x3] h (none, h1)) (e5 : h1.2.2 r0 = some (.inr (10, fs4))) (e7 : fs4[3]? = some (.int y6)) (e8 : 3 < fs4.length) (e9 : qset h1 r0 (.inr (10, fs4.set 3 (.int (y6 + 1)))) = h2) : qE d 15 95 [some (.ref r0), some (.int x1), some (.int x2), some (.int x3)] [] h (some (.int 1), h2) := by
  refine qe_aload_n c15_95 rfl ?_
  refine qe_bipush (x := 97) c15_96 (by decide) ?_
  refine qe_iload_n c15_98 rfl ?_
  refine qe_virtual (b := r0) (as := [.int 97, .int x3]) (r := []) (v := none) (h2 := h1) c15_99 qo15 qK10_88 rfl rfl rfl (by rw [qo14]; exact e2) (Nat.le_of_ble_eq_true rfl) e3 ?_
  refine qe_aload_n c15_102 rfl ?_
  refine qe_dup c15_103 rfl ?_
  refine qe_getfield c15_104 qo15 qF10_57 e5 e7 ?_
  refine qe_iconst (x := 1) c15_107 (by decide) ?_
  refine qe_iadd c15_108 ?_
  refine qe_putfield c15_109 qo15 qF10_57 qz10_3 e5 e8 (by rw [qy10_3]; rfl) ?_
  rw [e9]
  refine qe_iconst (x := 1) c15_112 (by decide) ?_
  exact qe_zret c15_113 qr15 (by decide)
theorem b15_114 {d : Nat} {q : Option Value × qH} {h : qH} {r0 : Nat} {x1 : Int32} {x2 : Int32} {x3 : Int32}   (kk : qE d 15 72 [some (.ref r0), some (.int x1), some (.int x2), some (.int (x3 + 1))] [] h q): qE d 15 114 [some (.ref r0), some (.int x1), some (.int x2), some (.int x3)] [] h q := by
  refine qe_iinc (y := (x3 + 1)) (ls2 := [some (.ref r0), some (.int x1), some (.int x2), some (.int (x3 + 1))]) c15_114 rfl (Nat.le_of_ble_eq_true rfl) rfl rfl ?_
  refine qe_goto (t := 72) c15_117 rfl ?_
  exact kk
theorem b15_120 {d : Nat} {h : qH} {r0 : Nat} {x1 : Int32} {x2 : Int32} {x3 : Int32} {fs1 : List Value} {h1 : qH} {z3 : Int32}  (e2 : h.2.2 r0 = some (.inr (10, fs1))) (e4 : qCall d 27 [.ref r0, .int 1] h ((some (.int z3)), h1)) (e5 : (z3 : Int32) = 0 ∨ (z3 : Int32) = 1) : qE d 15 120 [some (.ref r0), some (.int x1), some (.int x2), some (.int x3)] [] h (some (.int z3), h1) := by
  refine qe_aload_n c15_120 rfl ?_
  refine qe_iconst (x := 1) c15_121 (by decide) ?_
  refine qe_virtual (b := r0) (as := [.int 1]) (r := []) (v := (some (.int z3))) (h2 := h1) c15_122 qo15 qK10_78 rfl rfl rfl (by rw [qo27]; exact e2) (Nat.le_of_ble_eq_true rfl) e4 ?_
  exact qe_zret c15_125 qr15 e5
theorem b16_0 {d : Nat} {q : Option Value × qH} {h : qH} {r0 : Nat} {x1 : Int32} {r2 : Nat}   (kk : qE d 16 5 [some (.ref r0), some (.int x1), some (.ref r2), some (.int 0), some (.int 0)] [] h q): qE d 16 0 [some (.ref r0), some (.int x1), some (.ref r2), none, none] [] h q := by
  refine qe_iconst (x := 0) c16_0 (by decide) ?_
  refine qe_istore_n (ls2 := [some (.ref r0), some (.int x1), some (.ref r2), some (.int 0), none]) c16_1 (Nat.le_of_ble_eq_true rfl) rfl ?_
  refine qe_iconst (x := 0) c16_2 (by decide) ?_
  refine qe_istore (ls2 := [some (.ref r0), some (.int x1), some (.ref r2), some (.int 0), some (.int 0)]) c16_3 (Nat.le_of_ble_eq_true rfl) rfl ?_
  exact kk
theorem b16_5F {d : Nat} {q : Option Value × qH} {h : qH} {r0 : Nat} {x1 : Int32} {r2 : Nat} {x3 : Int32} {x4 : Int32} {fs1 : List Value} {y3 : Int32}  (e2 : h.2.2 r0 = some (.inr (10, fs1))) (e4 : fs1[0]? = some (.int y3)) (e5 : ¬ ((y3 : Int32) ≤ x4)) (kk : qE d 16 14 [some (.ref r0), some (.int x1), some (.ref r2), some (.int x3), some (.int x4)] [] h q): qE d 16 5 [some (.ref r0), some (.int x1), some (.ref r2), some (.int x3), some (.int x4)] [] h q := by
  refine qe_iload c16_5 rfl ?_
  refine qe_aload_n c16_7 rfl ?_
  refine qe_getfield c16_8 qo16 qF10_48 e2 e4 ?_
  refine qe_icmp_ge_F (t := 57) c16_11 rfl e5 ?_
  exact kk
theorem b16_5T {d : Nat} {q : Option Value × qH} {h : qH} {r0 : Nat} {x1 : Int32} {r2 : Nat} {x3 : Int32} {x4 : Int32} {fs1 : List Value} {y3 : Int32}  (e2 : h.2.2 r0 = some (.inr (10, fs1))) (e4 : fs1[0]? = some (.int y3)) (e5 : (y3 : Int32) ≤ x4) (kk : qE d 16 57 [some (.ref r0), some (.int x1), some (.ref r2), some (.int x3), some (.int x4)] [] h q): qE d 16 5 [some (.ref r0), some (.int x1), some (.ref r2), some (.int x3), some (.int x4)] [] h q := by
  refine qe_iload c16_5 rfl ?_
  refine qe_aload_n c16_7 rfl ?_
  refine qe_getfield c16_8 qo16 qF10_48 e2 e4 ?_
  refine qe_icmp_ge_T (t := 57) c16_11 rfl e5 ?_
  exact kk
theorem b16_14F {d : Nat} {q : Option Value × qH} {h : qH} {r0 : Nat} {x1 : Int32} {r2 : Nat} {x3 : Int32} {x4 : Int32} {fs1 : List Value} {y3 : Nat} {n5 : Nat} {f6 : Nat → Int32}  (e2 : h.2.2 r0 = some (.inr (10, fs1))) (e4 : fs1[10]? = some (.ref y3)) (e7 : h.2.2 y3 = some (.inl (1, n5, .inl f6))) (e8 : 0 ≤ (x4 : Int32).toInt ∧ (x4 : Int32).toInt < (n5 : Nat)) (e9 : ((f6 (x4 : Int32).toNatClampNeg) : Int32) = x1) (kk : qE d 16 25 [some (.ref r0), some (.int x1), some (.ref r2), some (.int x3), some (.int x4)] [] h q): qE d 16 14 [some (.ref r0), some (.int x1), some (.ref r2), some (.int x3), some (.int x4)] [] h q := by
  refine qe_aload_n c16_14 rfl ?_
  refine qe_getfield c16_15 qo16 qF10_24 e2 e4 ?_
  refine qe_iload c16_18 rfl ?_
  refine qe_zaload c16_20 e7 e8 ?_
  refine qe_iload_n c16_21 rfl ?_
  refine qe_icmp_ne_F (t := 43) c16_22 rfl e9 ?_
  exact kk
theorem b16_14T {d : Nat} {q : Option Value × qH} {h : qH} {r0 : Nat} {x1 : Int32} {r2 : Nat} {x3 : Int32} {x4 : Int32} {fs1 : List Value} {y3 : Nat} {n5 : Nat} {f6 : Nat → Int32}  (e2 : h.2.2 r0 = some (.inr (10, fs1))) (e4 : fs1[10]? = some (.ref y3)) (e7 : h.2.2 y3 = some (.inl (1, n5, .inl f6))) (e8 : 0 ≤ (x4 : Int32).toInt ∧ (x4 : Int32).toInt < (n5 : Nat)) (e9 : ¬ (((f6 (x4 : Int32).toNatClampNeg) : Int32) = x1)) (kk : qE d 16 43 [some (.ref r0), some (.int x1), some (.ref r2), some (.int x3), some (.int x4)] [] h q): qE d 16 14 [some (.ref r0), some (.int x1), some (.ref r2), some (.int x3), some (.int x4)] [] h q := by
  refine qe_aload_n c16_14 rfl ?_
  refine qe_getfield c16_15 qo16 qF10_24 e2 e4 ?_
  refine qe_iload c16_18 rfl ?_
  refine qe_zaload c16_20 e7 e8 ?_
  refine qe_iload_n c16_21 rfl ?_
  refine qe_icmp_ne_T (t := 43) c16_22 rfl e9 ?_
  exact kk
theorem b16_25F {d : Nat} {q : Option Value × qH} {h : qH} {r0 : Nat} {x1 : Int32} {r2 : Nat} {x3 : Int32} {x4 : Int32} {fs1 : List Value} {y3 : Nat} {n5 : Nat} {f6 : Nat → Int32} {h1 : qH} {z9 : Int32}  (e2 : h.2.2 r0 = some (.inr (10, fs1))) (e4 : fs1[9]? = some (.ref y3)) (e7 : h.2.2 y3 = some (.inl (0, n5, .inl f6))) (e8 : 0 ≤ (x4 : Int32).toInt ∧ (x4 : Int32).toInt < (n5 : Nat)) (e10 : qCall d 17 [.ref r0, .int x3, .int (f6 (x4 : Int32).toNatClampNeg), .ref r2] h ((some (.int z9)), h1)) (e11 : ¬ ((z9 : Int32) = 0)) (kk : qE d 16 41 [some (.ref r0), some (.int x1), some (.ref r2), some (.int x3), some (.int x4)] [] h1 q): qE d 16 25 [some (.ref r0), some (.int x1), some (.ref r2), some (.int x3), some (.int x4)] [] h q := by
  refine qe_aload_n c16_25 rfl ?_
  refine qe_iload_n c16_26 rfl ?_
  refine qe_aload_n c16_27 rfl ?_
  refine qe_getfield c16_28 qo16 qF10_21 e2 e4 ?_
  refine qe_iload c16_31 rfl ?_
  refine qe_iaload c16_33 e7 e8 ?_
  refine qe_aload_n c16_34 rfl ?_
  refine qe_virtual (b := r0) (as := [.int x3, .int (f6 (x4 : Int32).toNatClampNeg), .ref r2]) (r := []) (v := (some (.int z9))) (h2 := h1) c16_35 qo16 qK10_114 rfl rfl rfl (by rw [qo17]; exact e2) (Nat.le_of_ble_eq_true rfl) e10 ?_
  refine qe_if_eq_F (t := 43) c16_38 rfl e11 ?_
  exact kk
theorem b16_25T {d : Nat} {q : Option Value × qH} {h : qH} {r0 : Nat} {x1 : Int32} {r2 : Nat} {x3 : Int32} {x4 : Int32} {fs1 : List Value} {y3 : Nat} {n5 : Nat} {f6 : Nat → Int32} {h1 : qH} {z9 : Int32}  (e2 : h.2.2 r0 = some (.inr (10, fs1))) (e4 : fs1[9]? = some (.ref y3)) (e7 : h.2.2 y3 = some (.inl (0, n5, .inl f6))) (e8 : 0 ≤ (x4 : Int32).toInt ∧ (x4 : Int32).toInt < (n5 : Nat)) (e10 : qCall d 17 [.ref r0, .int x3, .int (f6 (x4 : Int32).toNatClampNeg), .ref r2] h ((some (.int z9)), h1)) (e11 : (z9 : Int32) = 0) (kk : qE d 16 43 [some (.ref r0), some (.int x1), some (.ref r2), some (.int x3), some (.int x4)] [] h1 q): qE d 16 25 [some (.ref r0), some (.int x1), some (.ref r2), some (.int x3), some (.int x4)] [] h q := by
  refine qe_aload_n c16_25 rfl ?_
  refine qe_iload_n c16_26 rfl ?_
  refine qe_aload_n c16_27 rfl ?_
  refine qe_getfield c16_28 qo16 qF10_21 e2 e4 ?_
  refine qe_iload c16_31 rfl ?_
  refine qe_iaload c16_33 e7 e8 ?_
  refine qe_aload_n c16_34 rfl ?_
  refine qe_virtual (b := r0) (as := [.int x3, .int (f6 (x4 : Int32).toNatClampNeg), .ref r2]) (r := []) (v := (some (.int z9))) (h2 := h1) c16_35 qo16 qK10_114 rfl rfl rfl (by rw [qo17]; exact e2) (Nat.le_of_ble_eq_true rfl) e10 ?_
  refine qe_if_eq_T (t := 43) c16_38 rfl e11 ?_
  exact kk
theorem b16_41 {d : Nat} {h : qH} {r0 : Nat} {x1 : Int32} {r2 : Nat} {x3 : Int32} {x4 : Int32}   : qE d 16 41 [some (.ref r0), some (.int x1), some (.ref r2), some (.int x3), some (.int x4)] [] h (some (.int 1), h) := by
  refine qe_iconst (x := 1) c16_41 (by decide) ?_
  exact qe_zret c16_42 qr16 (by decide)
theorem b16_43 {d : Nat} {q : Option Value × qH} {h : qH} {r0 : Nat} {x1 : Int32} {r2 : Nat} {x3 : Int32} {x4 : Int32} {fs1 : List Value} {y3 : Nat} {n5 : Nat} {f6 : Nat → Int32}  (e2 : h.2.2 r0 = some (.inr (10, fs1))) (e4 : fs1[9]? = some (.ref y3)) (e7 : h.2.2 y3 = some (.inl (0, n5, .inl f6))) (e8 : 0 ≤ (x4 : Int32).toInt ∧ (x4 : Int32).toInt < (n5 : Nat)) (kk : qE d 16 5 [some (.ref r0), some (.int x1), some (.ref r2), some (.int (f6 (x4 : Int32).toNatClampNeg)), some (.int (x4 + 1))] [] h q): qE d 16 43 [some (.ref r0), some (.int x1), some (.ref r2), some (.int x3), some (.int x4)] [] h q := by
  refine qe_aload_n c16_43 rfl ?_
  refine qe_getfield c16_44 qo16 qF10_21 e2 e4 ?_
  refine qe_iload c16_47 rfl ?_
  refine qe_iaload c16_49 e7 e8 ?_
  refine qe_istore_n (ls2 := [some (.ref r0), some (.int x1), some (.ref r2), some (.int (f6 (x4 : Int32).toNatClampNeg)), some (.int x4)]) c16_50 (Nat.le_of_ble_eq_true rfl) rfl ?_
  refine qe_iinc (y := (x4 + 1)) (ls2 := [some (.ref r0), some (.int x1), some (.ref r2), some (.int (f6 (x4 : Int32).toNatClampNeg)), some (.int (x4 + 1))]) c16_51 rfl (Nat.le_of_ble_eq_true rfl) rfl rfl ?_
  refine qe_goto (t := 5) c16_54 rfl ?_
  exact kk
theorem b16_57 {d : Nat} {h : qH} {r0 : Nat} {x1 : Int32} {r2 : Nat} {x3 : Int32} {x4 : Int32}   : qE d 16 57 [some (.ref r0), some (.int x1), some (.ref r2), some (.int x3), some (.int x4)] [] h (some (.int 0), h) := by
  refine qe_iconst (x := 0) c16_57 (by decide) ?_
  exact qe_zret c16_58 qr16 (by decide)
theorem b17_0 {d : Nat} {q : Option Value × qH} {h : qH} {r0 : Nat} {x1 : Int32} {x2 : Int32} {r3 : Nat}   (kk : qE d 17 12 [some (.ref r0), some (.int x1), some (.int x2), some (.ref r3), some (.int 0), some (.int x1), some (.int 0), some (.int x1), none, none, none, none, none] [] h q): qE d 17 0 [some (.ref r0), some (.int x1), some (.int x2), some (.ref r3), none, none, none, none, none, none, none, none, none] [] h q := by
  refine qe_iconst (x := 0) c17_0 (by decide) ?_
  refine qe_istore (ls2 := [some (.ref r0), some (.int x1), some (.int x2), some (.ref r3), some (.int 0), none, none, none, none, none, none, none, none]) c17_1 (Nat.le_of_ble_eq_true rfl) rfl ?_
  refine qe_iload_n c17_3 rfl ?_
  refine qe_istore (ls2 := [some (.ref r0), some (.int x1), some (.int x2), some (.ref r3), some (.int 0), some (.int x1), none, none, none, none, none, none, none]) c17_4 (Nat.le_of_ble_eq_true rfl) rfl ?_
  refine qe_iconst (x := 0) c17_6 (by decide) ?_
  refine qe_istore (ls2 := [some (.ref r0), some (.int x1), some (.int x2), some (.ref r3), some (.int 0), some (.int x1), some (.int 0), none, none, none, none, none, none]) c17_7 (Nat.le_of_ble_eq_true rfl) rfl ?_
  refine qe_iload_n c17_9 rfl ?_
  refine qe_istore (ls2 := [some (.ref r0), some (.int x1), some (.int x2), some (.ref r3), some (.int 0), some (.int x1), some (.int 0), some (.int x1), none, none, none, none, none]) c17_10 (Nat.le_of_ble_eq_true rfl) rfl ?_
  exact kk
theorem b17_12F {d : Nat} {q : Option Value × qH} {h : qH} {r0 : Nat} {x1 : Int32} {x2 : Int32} {r3 : Nat} {x4 : Int32} {x5 : Int32} {x6 : Int32} {x7 : Int32} {o8 : Option Value} {o9 : Option Value} {o11 : Option Value}  (e1 : ¬ ((x2 : Int32) ≤ x7)) (kk : qE d 17 18 [some (.ref r0), some (.int x1), some (.int x2), some (.ref r3), some (.int x4), some (.int x5), some (.int x6), some (.int x7), o8, o9, none, o11, none] [] h q): qE d 17 12 [some (.ref r0), some (.int x1), some (.int x2), some (.ref r3), some (.int x4), some (.int x5), some (.int x6), some (.int x7), o8, o9, none, o11, none] [] h q := by
  refine qe_iload c17_12 rfl ?_
  refine qe_iload_n c17_14 rfl ?_
  refine qe_icmp_ge_F (t := 348) c17_15 rfl e1 ?_
  exact kk
theorem b17_12T {d : Nat} {q : Option Value × qH} {h : qH} {r0 : Nat} {x1 : Int32} {x2 : Int32} {r3 : Nat} {x4 : Int32} {x5 : Int32} {x6 : Int32} {x7 : Int32} {o8 : Option Value} {o9 : Option Value} {o11 : Option Value}  (e1 : (x2 : Int32) ≤ x7) (kk : qE d 17 348 [some (.ref r0), some (.int x1), some (.int x2), some (.ref r3), some (.int x4), some (.int x5), some (.int x6), some (.int x7), o8, o9, none, o11, none] [] h q): qE d 17 12 [some (.ref r0), some (.int x1), some (.int x2), some (.ref r3), some (.int x4), some (.int x5), some (.int x6), some (.int x7), o8, o9, none, o11, none] [] h q := by
  refine qe_iload c17_12 rfl ?_
  refine qe_iload_n c17_14 rfl ?_
  refine qe_icmp_ge_T (t := 348) c17_15 rfl e1 ?_
  exact kk
theorem b17_18F {d : Nat} {q : Option Value × qH} {h : qH} {r0 : Nat} {x1 : Int32} {x2 : Int32} {r3 : Nat} {x4 : Int32} {x5 : Int32} {x6 : Int32} {x7 : Int32} {o8 : Option Value} {o9 : Option Value} {o11 : Option Value}  (e1 : ¬ ((x5 : Int32) ≤ x7)) (kk : qE d 17 25 [some (.ref r0), some (.int x1), some (.int x2), some (.ref r3), some (.int x4), some (.int x5), some (.int x6), some (.int x7), o8, o9, none, o11, none] [] h q): qE d 17 18 [some (.ref r0), some (.int x1), some (.int x2), some (.ref r3), some (.int x4), some (.int x5), some (.int x6), some (.int x7), o8, o9, none, o11, none] [] h q := by
  refine qe_iload c17_18 rfl ?_
  refine qe_iload c17_20 rfl ?_
  refine qe_icmp_ge_F (t := 28) c17_22 rfl e1 ?_
  exact kk
theorem b17_18T {d : Nat} {q : Option Value × qH} {h : qH} {r0 : Nat} {x1 : Int32} {x2 : Int32} {r3 : Nat} {x4 : Int32} {x5 : Int32} {x6 : Int32} {x7 : Int32} {o8 : Option Value} {o9 : Option Value} {o11 : Option Value}  (e1 : (x5 : Int32) ≤ x7) (kk : qE d 17 28 [some (.ref r0), some (.int x1), some (.int x2), some (.ref r3), some (.int x4), some (.int x5), some (.int x6), some (.int x7), o8, o9, none, o11, none] [] h q): qE d 17 18 [some (.ref r0), some (.int x1), some (.int x2), some (.ref r3), some (.int x4), some (.int x5), some (.int x6), some (.int x7), o8, o9, none, o11, none] [] h q := by
  refine qe_iload c17_18 rfl ?_
  refine qe_iload c17_20 rfl ?_
  refine qe_icmp_ge_T (t := 28) c17_22 rfl e1 ?_
  exact kk
theorem b17_25 {d : Nat} {q : Option Value × qH} {h : qH} {r0 : Nat} {x1 : Int32} {x2 : Int32} {r3 : Nat} {x4 : Int32} {x5 : Int32} {x6 : Int32} {x7 : Int32} {o8 : Option Value} {o9 : Option Value} {o11 : Option Value}   (kk : qE d 17 342 [some (.ref r0), some (.int x1), some (.int x2), some (.ref r3), some (.int x4), some (.int x5), some (.int x6), some (.int x7), o8, o9, none, o11, none] [] h q): qE d 17 25 [some (.ref r0), some (.int x1), some (.int x2), some (.ref r3), some (.int x4), some (.int x5), some (.int x6), some (.int x7), o8, o9, none, o11, none] [] h q := by
  refine qe_goto (t := 342) c17_25 rfl ?_
  exact kk
theorem b17_28F {d : Nat} {q : Option Value × qH} {h : qH} {r0 : Nat} {x1 : Int32} {x2 : Int32} {r3 : Nat} {x4 : Int32} {x5 : Int32} {x6 : Int32} {x7 : Int32} {o8 : Option Value} {o9 : Option Value} {o11 : Option Value} {fs1 : List Value} {y3 : Nat} {n5 : Nat} {f6 : Nat → Int32}  (e2 : h.2.2 r0 = some (.inr (10, fs1))) (e4 : fs1[7]? = some (.ref y3)) (e7 : h.2.2 y3 = some (.inl (0, n5, .inl f6))) (e8 : 0 ≤ (x7 : Int32).toInt ∧ (x7 : Int32).toInt < (n5 : Nat)) (e9 : ¬ (((f6 (x7 : Int32).toNatClampNeg) : Int32) = 48)) (kk : qE d 17 44 [some (.ref r0), some (.int x1), some (.int x2), some (.ref r3), some (.int x4), some (.int x5), some (.int x6), some (.int x7), some (.int (f6 (x7 : Int32).toNatClampNeg)), o9, none, o11, none] [] h q): qE d 17 28 [some (.ref r0), some (.int x1), some (.int x2), some (.ref r3), some (.int x4), some (.int x5), some (.int x6), some (.int x7), o8, o9, none, o11, none] [] h q := by
  refine qe_aload_n c17_28 rfl ?_
  refine qe_getfield c17_29 qo17 qF10_15 e2 e4 ?_
  refine qe_iload c17_32 rfl ?_
  refine qe_iaload c17_34 e7 e8 ?_
  refine qe_istore (ls2 := [some (.ref r0), some (.int x1), some (.int x2), some (.ref r3), some (.int x4), some (.int x5), some (.int x6), some (.int x7), some (.int (f6 (x7 : Int32).toNatClampNeg)), o9, none, o11, none]) c17_35 (Nat.le_of_ble_eq_true rfl) rfl ?_
  refine qe_iload c17_37 rfl ?_
  refine qe_bipush (x := 48) c17_39 (by decide) ?_
  refine qe_icmp_eq_F (t := 51) c17_41 rfl e9 ?_
  exact kk
theorem b17_28T {d : Nat} {q : Option Value × qH} {h : qH} {r0 : Nat} {x1 : Int32} {x2 : Int32} {r3 : Nat} {x4 : Int32} {x5 : Int32} {x6 : Int32} {x7 : Int32} {o8 : Option Value} {o9 : Option Value} {o11 : Option Value} {fs1 : List Value} {y3 : Nat} {n5 : Nat} {f6 : Nat → Int32}  (e2 : h.2.2 r0 = some (.inr (10, fs1))) (e4 : fs1[7]? = some (.ref y3)) (e7 : h.2.2 y3 = some (.inl (0, n5, .inl f6))) (e8 : 0 ≤ (x7 : Int32).toInt ∧ (x7 : Int32).toInt < (n5 : Nat)) (e9 : ((f6 (x7 : Int32).toNatClampNeg) : Int32) = 48) (kk : qE d 17 51 [some (.ref r0), some (.int x1), some (.int x2), some (.ref r3), some (.int x4), some (.int x5), some (.int x6), some (.int x7), some (.int (f6 (x7 : Int32).toNatClampNeg)), o9, none, o11, none] [] h q): qE d 17 28 [some (.ref r0), some (.int x1), some (.int x2), some (.ref r3), some (.int x4), some (.int x5), some (.int x6), some (.int x7), o8, o9, none, o11, none] [] h q := by
  refine qe_aload_n c17_28 rfl ?_
  refine qe_getfield c17_29 qo17 qF10_15 e2 e4 ?_
  refine qe_iload c17_32 rfl ?_
  refine qe_iaload c17_34 e7 e8 ?_
  refine qe_istore (ls2 := [some (.ref r0), some (.int x1), some (.int x2), some (.ref r3), some (.int x4), some (.int x5), some (.int x6), some (.int x7), some (.int (f6 (x7 : Int32).toNatClampNeg)), o9, none, o11, none]) c17_35 (Nat.le_of_ble_eq_true rfl) rfl ?_
  refine qe_iload c17_37 rfl ?_
  refine qe_bipush (x := 48) c17_39 (by decide) ?_
  refine qe_icmp_eq_T (t := 51) c17_41 rfl e9 ?_
  exact kk
theorem b17_44F {d : Nat} {q : Option Value × qH} {h : qH} {r0 : Nat} {x1 : Int32} {x2 : Int32} {r3 : Nat} {x4 : Int32} {x5 : Int32} {x6 : Int32} {x7 : Int32} {x8 : Int32} {o9 : Option Value} {o11 : Option Value}  (e1 : (x8 : Int32) = 97) (kk : qE d 17 51 [some (.ref r0), some (.int x1), some (.int x2), some (.ref r3), some (.int x4), some (.int x5), some (.int x6), some (.int x7), some (.int x8), o9, none, o11, none] [] h q): qE d 17 44 [some (.ref r0), some (.int x1), some (.int x2), some (.ref r3), some (.int x4), some (.int x5), some (.int x6), some (.int x7), some (.int x8), o9, none, o11, none] [] h q := by
  refine qe_iload c17_44 rfl ?_
  refine qe_bipush (x := 97) c17_46 (by decide) ?_
  refine qe_icmp_ne_F (t := 100) c17_48 rfl e1 ?_
  exact kk
theorem b17_44T {d : Nat} {q : Option Value × qH} {h : qH} {r0 : Nat} {x1 : Int32} {x2 : Int32} {r3 : Nat} {x4 : Int32} {x5 : Int32} {x6 : Int32} {x7 : Int32} {x8 : Int32} {o9 : Option Value} {o11 : Option Value}  (e1 : ¬ ((x8 : Int32) = 97)) (kk : qE d 17 100 [some (.ref r0), some (.int x1), some (.int x2), some (.ref r3), some (.int x4), some (.int x5), some (.int x6), some (.int x7), some (.int x8), o9, none, o11, none] [] h q): qE d 17 44 [some (.ref r0), some (.int x1), some (.int x2), some (.ref r3), some (.int x4), some (.int x5), some (.int x6), some (.int x7), some (.int x8), o9, none, o11, none] [] h q := by
  refine qe_iload c17_44 rfl ?_
  refine qe_bipush (x := 97) c17_46 (by decide) ?_
  refine qe_icmp_ne_T (t := 100) c17_48 rfl e1 ?_
  exact kk
theorem b17_51F {d : Nat} {q : Option Value × qH} {h : qH} {r0 : Nat} {x1 : Int32} {x2 : Int32} {r3 : Nat} {x4 : Int32} {x5 : Int32} {x6 : Int32} {x7 : Int32} {x8 : Int32} {o9 : Option Value} {o11 : Option Value}  (e1 : ¬ ((x6 : Int32) < 32)) (kk : qE d 17 58 [some (.ref r0), some (.int x1), some (.int x2), some (.ref r3), some (.int x4), some (.int x5), some (.int x6), some (.int x7), some (.int x8), o9, none, o11, none] [] h q): qE d 17 51 [some (.ref r0), some (.int x1), some (.int x2), some (.ref r3), some (.int x4), some (.int x5), some (.int x6), some (.int x7), some (.int x8), o9, none, o11, none] [] h q := by
  refine qe_iload c17_51 rfl ?_
  refine qe_bipush (x := 32) c17_53 (by decide) ?_
  refine qe_icmp_lt_F (t := 60) c17_55 rfl e1 ?_
  exact kk
theorem b17_51T {d : Nat} {q : Option Value × qH} {h : qH} {r0 : Nat} {x1 : Int32} {x2 : Int32} {r3 : Nat} {x4 : Int32} {x5 : Int32} {x6 : Int32} {x7 : Int32} {x8 : Int32} {o9 : Option Value} {o11 : Option Value}  (e1 : (x6 : Int32) < 32) (kk : qE d 17 60 [some (.ref r0), some (.int x1), some (.int x2), some (.ref r3), some (.int x4), some (.int x5), some (.int x6), some (.int x7), some (.int x8), o9, none, o11, none] [] h q): qE d 17 51 [some (.ref r0), some (.int x1), some (.int x2), some (.ref r3), some (.int x4), some (.int x5), some (.int x6), some (.int x7), some (.int x8), o9, none, o11, none] [] h q := by
  refine qe_iload c17_51 rfl ?_
  refine qe_bipush (x := 32) c17_53 (by decide) ?_
  refine qe_icmp_lt_T (t := 60) c17_55 rfl e1 ?_
  exact kk
theorem b17_58 {d : Nat} {h : qH} {r0 : Nat} {x1 : Int32} {x2 : Int32} {r3 : Nat} {x4 : Int32} {x5 : Int32} {x6 : Int32} {x7 : Int32} {x8 : Int32} {o9 : Option Value} {o11 : Option Value}   : qE d 17 58 [some (.ref r0), some (.int x1), some (.int x2), some (.ref r3), some (.int x4), some (.int x5), some (.int x6), some (.int x7), some (.int x8), o9, none, o11, none] [] h (some (.int 0), h) := by
  refine qe_iconst (x := 0) c17_58 (by decide) ?_
  exact qe_zret c17_59 qr17 (by decide)
theorem b17_60F {d : Nat} {q : Option Value × qH} {h : qH} {r0 : Nat} {x1 : Int32} {x2 : Int32} {r3 : Nat} {x4 : Int32} {x5 : Int32} {x6 : Int32} {x7 : Int32} {x8 : Int32} {o9 : Option Value} {o11 : Option Value} {fs1 : List Value} {y3 : Nat}  (e2 : h.2.2 r0 = some (.inr (10, fs1))) (e4 : fs1[11]? = some (.ref y3)) (e5 : (x8 : Int32) = 48) (kk : qE d 17 73 [some (.ref r0), some (.int x1), some (.int x2), some (.ref r3), some (.int x4), some (.int x5), some (.int x6), some (.int x7), some (.int x8), o9, none, o11, none] [.int x6, .ref y3] h q): qE d 17 60 [some (.ref r0), some (.int x1), some (.int x2), some (.ref r3), some (.int x4), some (.int x5), some (.int x6), some (.int x7), some (.int x8), o9, none, o11, none] [] h q := by
  refine qe_aload_n c17_60 rfl ?_
  refine qe_getfield c17_61 qo17 qF10_28 e2 e4 ?_
  refine qe_iload c17_64 rfl ?_
  refine qe_iload c17_66 rfl ?_
  refine qe_bipush (x := 48) c17_68 (by decide) ?_
  refine qe_icmp_ne_F (t := 84) c17_70 rfl e5 ?_
  exact kk
theorem b17_60T {d : Nat} {q : Option Value × qH} {h : qH} {r0 : Nat} {x1 : Int32} {x2 : Int32} {r3 : Nat} {x4 : Int32} {x5 : Int32} {x6 : Int32} {x7 : Int32} {x8 : Int32} {o9 : Option Value} {o11 : Option Value} {fs1 : List Value} {y3 : Nat}  (e2 : h.2.2 r0 = some (.inr (10, fs1))) (e4 : fs1[11]? = some (.ref y3)) (e5 : ¬ ((x8 : Int32) = 48)) (kk : qE d 17 84 [some (.ref r0), some (.int x1), some (.int x2), some (.ref r3), some (.int x4), some (.int x5), some (.int x6), some (.int x7), some (.int x8), o9, none, o11, none] [.int x6, .ref y3] h q): qE d 17 60 [some (.ref r0), some (.int x1), some (.int x2), some (.ref r3), some (.int x4), some (.int x5), some (.int x6), some (.int x7), some (.int x8), o9, none, o11, none] [] h q := by
  refine qe_aload_n c17_60 rfl ?_
  refine qe_getfield c17_61 qo17 qF10_28 e2 e4 ?_
  refine qe_iload c17_64 rfl ?_
  refine qe_iload c17_66 rfl ?_
  refine qe_bipush (x := 48) c17_68 (by decide) ?_
  refine qe_icmp_ne_T (t := 84) c17_70 rfl e5 ?_
  exact kk
theorem b17_73 {d : Nat} {q : Option Value × qH} {h : qH} {r0 : Nat} {x1 : Int32} {x2 : Int32} {r3 : Nat} {x4 : Int32} {x5 : Int32} {x6 : Int32} {x7 : Int32} {x8 : Int32} {o9 : Option Value} {o11 : Option Value} {rs0 : Nat} {xs1 : Int32} {fs1 : List Value} {y3 : Nat} {n5 : Nat} {f6 : Nat → Int32}  (e2 : h.2.2 r0 = some (.inr (10, fs1))) (e4 : fs1[8]? = some (.ref y3)) (e7 : h.2.2 y3 = some (.inl (0, n5, .inl f6))) (e8 : 0 ≤ (x7 : Int32).toInt ∧ (x7 : Int32).toInt < (n5 : Nat)) (kk : qE d 17 93 [some (.ref r0), some (.int x1), some (.int x2), some (.ref r3), some (.int x4), some (.int x5), some (.int x6), some (.int x7), some (.int x8), o9, none, o11, none] [.long ((f6 (x7 : Int32).toNatClampNeg) : Int32).toInt64, .int xs1, .ref rs0] h q): qE d 17 73 [some (.ref r0), some (.int x1), some (.int x2), some (.ref r3), some (.int x4), some (.int x5), some (.int x6), some (.int x7), some (.int x8), o9, none, o11, none] [.int xs1, .ref rs0] h q := by
  refine qe_aload_n c17_73 rfl ?_
  refine qe_getfield c17_74 qo17 qF10_18 e2 e4 ?_
  refine qe_iload c17_77 rfl ?_
  refine qe_iaload c17_79 e7 e8 ?_
  refine qe_i2l c17_80 ?_
  refine qe_goto (t := 93) c17_81 rfl ?_
  exact kk
theorem b17_84 {d : Nat} {q : Option Value × qH} {h : qH} {r0 : Nat} {x1 : Int32} {x2 : Int32} {r3 : Nat} {x4 : Int32} {x5 : Int32} {x6 : Int32} {x7 : Int32} {x8 : Int32} {o9 : Option Value} {o11 : Option Value} {rs0 : Nat} {xs1 : Int32} {fs1 : List Value} {y3 : Nat} {n5 : Nat} {f6 : Nat → Int32} {n9 : Nat} {f10 : Nat → Int64}  (e2 : h.2.2 r0 = some (.inr (10, fs1))) (e4 : fs1[8]? = some (.ref y3)) (e7 : h.2.2 y3 = some (.inl (0, n5, .inl f6))) (e8 : 0 ≤ (x7 : Int32).toInt ∧ (x7 : Int32).toInt < (n5 : Nat)) (e11 : h.2.2 r3 = some (.inl (2, n9, .inr (.inl f10)))) (e12 : 0 ≤ ((f6 (x7 : Int32).toNatClampNeg) : Int32).toInt ∧ ((f6 (x7 : Int32).toNatClampNeg) : Int32).toInt < (n9 : Nat)) (kk : qE d 17 93 [some (.ref r0), some (.int x1), some (.int x2), some (.ref r3), some (.int x4), some (.int x5), some (.int x6), some (.int x7), some (.int x8), o9, none, o11, none] [.long (f10 ((f6 (x7 : Int32).toNatClampNeg) : Int32).toNatClampNeg), .int xs1, .ref rs0] h q): qE d 17 84 [some (.ref r0), some (.int x1), some (.int x2), some (.ref r3), some (.int x4), some (.int x5), some (.int x6), some (.int x7), some (.int x8), o9, none, o11, none] [.int xs1, .ref rs0] h q := by
  refine qe_aload_n c17_84 rfl ?_
  refine qe_aload_n c17_85 rfl ?_
  refine qe_getfield c17_86 qo17 qF10_18 e2 e4 ?_
  refine qe_iload c17_89 rfl ?_
  refine qe_iaload c17_91 e7 e8 ?_
  refine qe_laload c17_92 e11 e12 ?_
  exact kk
theorem b17_93 {d : Nat} {q : Option Value × qH} {h : qH} {r0 : Nat} {x1 : Int32} {x2 : Int32} {r3 : Nat} {x4 : Int32} {x5 : Int32} {x6 : Int32} {x7 : Int32} {x8 : Int32} {o9 : Option Value} {o11 : Option Value} {rs0 : Nat} {xs1 : Int32} {ls2 : Int64} {n1 : Nat} {f2 : Nat → Int64} {h1 : qH}  (e3 : h.2.2 rs0 = some (.inl (2, n1, .inr (.inl f2)))) (e4 : 0 ≤ (xs1 : Int32).toInt ∧ (xs1 : Int32).toInt < (n1 : Nat)) (e5 : qset h rs0 (.inl (2, n1, .inr (.inl (vp_updL f2 ((xs1 : Int32).toNatClampNeg) ls2)))) = h1) (kk : qE d 17 342 [some (.ref r0), some (.int x1), some (.int x2), some (.ref r3), some (.int x4), some (.int x5), some (.int (x6 + 1)), some (.int x7), some (.int x8), o9, none, o11, none] [] h1 q): qE d 17 93 [some (.ref r0), some (.int x1), some (.int x2), some (.ref r3), some (.int x4), some (.int x5), some (.int x6), some (.int x7), some (.int x8), o9, none, o11, none] [.long ls2, .int xs1, .ref rs0] h q := by
  refine qe_lastore c17_93 e3 e4 ?_
  rw [e5]
  refine qe_iinc (y := (x6 + 1)) (ls2 := [some (.ref r0), some (.int x1), some (.int x2), some (.ref r3), some (.int x4), some (.int x5), some (.int (x6 + 1)), some (.int x7), some (.int x8), o9, none, o11, none]) c17_94 rfl (Nat.le_of_ble_eq_true rfl) rfl rfl ?_
  refine qe_goto (t := 342) c17_97 rfl ?_
  exact kk
theorem b17_100F {d : Nat} {q : Option Value × qH} {h : qH} {r0 : Nat} {x1 : Int32} {x2 : Int32} {r3 : Nat} {x4 : Int32} {x5 : Int32} {x6 : Int32} {x7 : Int32} {x8 : Int32} {o9 : Option Value} {o11 : Option Value}  (e1 : (x8 : Int32) = 33) (kk : qE d 17 107 [some (.ref r0), some (.int x1), some (.int x2), some (.ref r3), some (.int x4), some (.int x5), some (.int x6), some (.int x7), some (.int x8), o9, none, o11, none] [] h q): qE d 17 100 [some (.ref r0), some (.int x1), some (.int x2), some (.ref r3), some (.int x4), some (.int x5), some (.int x6), some (.int x7), some (.int x8), o9, none, o11, none] [] h q := by
  refine qe_iload c17_100 rfl ?_
  refine qe_bipush (x := 33) c17_102 (by decide) ?_
  refine qe_icmp_ne_F (t := 122) c17_104 rfl e1 ?_
  exact kk
theorem b17_100T {d : Nat} {q : Option Value × qH} {h : qH} {r0 : Nat} {x1 : Int32} {x2 : Int32} {r3 : Nat} {x4 : Int32} {x5 : Int32} {x6 : Int32} {x7 : Int32} {x8 : Int32} {o9 : Option Value} {o11 : Option Value}  (e1 : ¬ ((x8 : Int32) = 33)) (kk : qE d 17 122 [some (.ref r0), some (.int x1), some (.int x2), some (.ref r3), some (.int x4), some (.int x5), some (.int x6), some (.int x7), some (.int x8), o9, none, o11, none] [] h q): qE d 17 100 [some (.ref r0), some (.int x1), some (.int x2), some (.ref r3), some (.int x4), some (.int x5), some (.int x6), some (.int x7), some (.int x8), o9, none, o11, none] [] h q := by
  refine qe_iload c17_100 rfl ?_
  refine qe_bipush (x := 33) c17_102 (by decide) ?_
  refine qe_icmp_ne_T (t := 122) c17_104 rfl e1 ?_
  exact kk
theorem b17_107F {d : Nat} {q : Option Value × qH} {h : qH} {r0 : Nat} {x1 : Int32} {x2 : Int32} {r3 : Nat} {x4 : Int32} {x5 : Int32} {x6 : Int32} {x7 : Int32} {x8 : Int32} {o9 : Option Value} {o11 : Option Value}  (e1 : (x4 : Int32) = 0) (kk : qE d 17 112 [some (.ref r0), some (.int x1), some (.int x2), some (.ref r3), some (.int x4), some (.int x5), some (.int x6), some (.int x7), some (.int x8), o9, none, o11, none] [] h q): qE d 17 107 [some (.ref r0), some (.int x1), some (.int x2), some (.ref r3), some (.int x4), some (.int x5), some (.int x6), some (.int x7), some (.int x8), o9, none, o11, none] [] h q := by
  refine qe_iload c17_107 rfl ?_
  refine qe_if_ne_F (t := 116) c17_109 rfl e1 ?_
  exact kk
theorem b17_107T {d : Nat} {q : Option Value × qH} {h : qH} {r0 : Nat} {x1 : Int32} {x2 : Int32} {r3 : Nat} {x4 : Int32} {x5 : Int32} {x6 : Int32} {x7 : Int32} {x8 : Int32} {o9 : Option Value} {o11 : Option Value}  (e1 : ¬ ((x4 : Int32) = 0)) (kk : qE d 17 116 [some (.ref r0), some (.int x1), some (.int x2), some (.ref r3), some (.int x4), some (.int x5), some (.int x6), some (.int x7), some (.int x8), o9, none, o11, none] [] h q): qE d 17 107 [some (.ref r0), some (.int x1), some (.int x2), some (.ref r3), some (.int x4), some (.int x5), some (.int x6), some (.int x7), some (.int x8), o9, none, o11, none] [] h q := by
  refine qe_iload c17_107 rfl ?_
  refine qe_if_ne_T (t := 116) c17_109 rfl e1 ?_
  exact kk
theorem b17_112 {d : Nat} {q : Option Value × qH} {h : qH} {r0 : Nat} {x1 : Int32} {x2 : Int32} {r3 : Nat} {x4 : Int32} {x5 : Int32} {x6 : Int32} {x7 : Int32} {x8 : Int32} {o9 : Option Value} {o11 : Option Value}   (kk : qE d 17 117 [some (.ref r0), some (.int x1), some (.int x2), some (.ref r3), some (.int x4), some (.int x5), some (.int x6), some (.int x7), some (.int x8), o9, none, o11, none] [.int 1] h q): qE d 17 112 [some (.ref r0), some (.int x1), some (.int x2), some (.ref r3), some (.int x4), some (.int x5), some (.int x6), some (.int x7), some (.int x8), o9, none, o11, none] [] h q := by
  refine qe_iconst (x := 1) c17_112 (by decide) ?_
  refine qe_goto (t := 117) c17_113 rfl ?_
  exact kk
theorem b17_116 {d : Nat} {q : Option Value × qH} {h : qH} {r0 : Nat} {x1 : Int32} {x2 : Int32} {r3 : Nat} {x4 : Int32} {x5 : Int32} {x6 : Int32} {x7 : Int32} {x8 : Int32} {o9 : Option Value} {o11 : Option Value}   (kk : qE d 17 117 [some (.ref r0), some (.int x1), some (.int x2), some (.ref r3), some (.int x4), some (.int x5), some (.int x6), some (.int x7), some (.int x8), o9, none, o11, none] [.int 0] h q): qE d 17 116 [some (.ref r0), some (.int x1), some (.int x2), some (.ref r3), some (.int x4), some (.int x5), some (.int x6), some (.int x7), some (.int x8), o9, none, o11, none] [] h q := by
  refine qe_iconst (x := 0) c17_116 (by decide) ?_
  exact kk
theorem b17_117 {d : Nat} {q : Option Value × qH} {h : qH} {r0 : Nat} {x1 : Int32} {x2 : Int32} {r3 : Nat} {x4 : Int32} {x5 : Int32} {x6 : Int32} {x7 : Int32} {x8 : Int32} {o9 : Option Value} {o11 : Option Value} {xs0 : Int32}   (kk : qE d 17 342 [some (.ref r0), some (.int x1), some (.int x2), some (.ref r3), some (.int xs0), some (.int x5), some (.int x6), some (.int x7), some (.int x8), o9, none, o11, none] [] h q): qE d 17 117 [some (.ref r0), some (.int x1), some (.int x2), some (.ref r3), some (.int x4), some (.int x5), some (.int x6), some (.int x7), some (.int x8), o9, none, o11, none] [.int xs0] h q := by
  refine qe_istore (ls2 := [some (.ref r0), some (.int x1), some (.int x2), some (.ref r3), some (.int xs0), some (.int x5), some (.int x6), some (.int x7), some (.int x8), o9, none, o11, none]) c17_117 (Nat.le_of_ble_eq_true rfl) rfl ?_
  refine qe_goto (t := 342) c17_119 rfl ?_
  exact kk
theorem b17_122F {d : Nat} {q : Option Value × qH} {h : qH} {r0 : Nat} {x1 : Int32} {x2 : Int32} {r3 : Nat} {x4 : Int32} {x5 : Int32} {x6 : Int32} {x7 : Int32} {x8 : Int32} {o9 : Option Value} {o11 : Option Value}  (e1 : (x8 : Int32) = 38) (kk : qE d 17 129 [some (.ref r0), some (.int x1), some (.int x2), some (.ref r3), some (.int x4), some (.int x5), some (.int x6), some (.int x7), some (.int x8), o9, none, o11, none] [] h q): qE d 17 122 [some (.ref r0), some (.int x1), some (.int x2), some (.ref r3), some (.int x4), some (.int x5), some (.int x6), some (.int x7), some (.int x8), o9, none, o11, none] [] h q := by
  refine qe_iload c17_122 rfl ?_
  refine qe_bipush (x := 38) c17_124 (by decide) ?_
  refine qe_icmp_ne_F (t := 151) c17_126 rfl e1 ?_
  exact kk
theorem b17_122T {d : Nat} {q : Option Value × qH} {h : qH} {r0 : Nat} {x1 : Int32} {x2 : Int32} {r3 : Nat} {x4 : Int32} {x5 : Int32} {x6 : Int32} {x7 : Int32} {x8 : Int32} {o9 : Option Value} {o11 : Option Value}  (e1 : ¬ ((x8 : Int32) = 38)) (kk : qE d 17 151 [some (.ref r0), some (.int x1), some (.int x2), some (.ref r3), some (.int x4), some (.int x5), some (.int x6), some (.int x7), some (.int x8), o9, none, o11, none] [] h q): qE d 17 122 [some (.ref r0), some (.int x1), some (.int x2), some (.ref r3), some (.int x4), some (.int x5), some (.int x6), some (.int x7), some (.int x8), o9, none, o11, none] [] h q := by
  refine qe_iload c17_122 rfl ?_
  refine qe_bipush (x := 38) c17_124 (by decide) ?_
  refine qe_icmp_ne_T (t := 151) c17_126 rfl e1 ?_
  exact kk
theorem b17_129F {d : Nat} {q : Option Value × qH} {h : qH} {r0 : Nat} {x1 : Int32} {x2 : Int32} {r3 : Nat} {x4 : Int32} {x5 : Int32} {x6 : Int32} {x7 : Int32} {x8 : Int32} {o9 : Option Value} {o11 : Option Value}  (e1 : ¬ ((x4 : Int32) = 0)) (kk : qE d 17 134 [some (.ref r0), some (.int x1), some (.int x2), some (.ref r3), some (.int x4), some (.int x5), some (.int x6), some (.int x7), some (.int x8), o9, none, o11, none] [] h q): qE d 17 129 [some (.ref r0), some (.int x1), some (.int x2), some (.ref r3), some (.int x4), some (.int x5), some (.int x6), some (.int x7), some (.int x8), o9, none, o11, none] [] h q := by
  refine qe_iload c17_129 rfl ?_
  refine qe_if_eq_F (t := 139) c17_131 rfl e1 ?_
  exact kk
theorem b17_129T {d : Nat} {q : Option Value × qH} {h : qH} {r0 : Nat} {x1 : Int32} {x2 : Int32} {r3 : Nat} {x4 : Int32} {x5 : Int32} {x6 : Int32} {x7 : Int32} {x8 : Int32} {o9 : Option Value} {o11 : Option Value}  (e1 : (x4 : Int32) = 0) (kk : qE d 17 139 [some (.ref r0), some (.int x1), some (.int x2), some (.ref r3), some (.int x4), some (.int x5), some (.int x6), some (.int x7), some (.int x8), o9, none, o11, none] [] h q): qE d 17 129 [some (.ref r0), some (.int x1), some (.int x2), some (.ref r3), some (.int x4), some (.int x5), some (.int x6), some (.int x7), some (.int x8), o9, none, o11, none] [] h q := by
  refine qe_iload c17_129 rfl ?_
  refine qe_if_eq_T (t := 139) c17_131 rfl e1 ?_
  exact kk
theorem b17_134 {d : Nat} {q : Option Value × qH} {h : qH} {r0 : Nat} {x1 : Int32} {x2 : Int32} {r3 : Nat} {x4 : Int32} {x5 : Int32} {x6 : Int32} {x7 : Int32} {x8 : Int32} {o9 : Option Value} {o11 : Option Value}   (kk : qE d 17 146 [some (.ref r0), some (.int x1), some (.int x2), some (.ref r3), some (.int x4), some (.int x5), some (.int x6), some (.int x7), some (.int x8), o9, none, o11, none] [.int x5] h q): qE d 17 134 [some (.ref r0), some (.int x1), some (.int x2), some (.ref r3), some (.int x4), some (.int x5), some (.int x6), some (.int x7), some (.int x8), o9, none, o11, none] [] h q := by
  refine qe_iload c17_134 rfl ?_
  refine qe_goto (t := 146) c17_136 rfl ?_
  exact kk
theorem b17_139 {d : Nat} {q : Option Value × qH} {h : qH} {r0 : Nat} {x1 : Int32} {x2 : Int32} {r3 : Nat} {x4 : Int32} {x5 : Int32} {x6 : Int32} {x7 : Int32} {x8 : Int32} {o9 : Option Value} {o11 : Option Value} {fs1 : List Value} {y3 : Nat} {n5 : Nat} {f6 : Nat → Int32}  (e2 : h.2.2 r0 = some (.inr (10, fs1))) (e4 : fs1[8]? = some (.ref y3)) (e7 : h.2.2 y3 = some (.inl (0, n5, .inl f6))) (e8 : 0 ≤ (x7 : Int32).toInt ∧ (x7 : Int32).toInt < (n5 : Nat)) (kk : qE d 17 146 [some (.ref r0), some (.int x1), some (.int x2), some (.ref r3), some (.int x4), some (.int x5), some (.int x6), some (.int x7), some (.int x8), o9, none, o11, none] [.int (f6 (x7 : Int32).toNatClampNeg)] h q): qE d 17 139 [some (.ref r0), some (.int x1), some (.int x2), some (.ref r3), some (.int x4), some (.int x5), some (.int x6), some (.int x7), some (.int x8), o9, none, o11, none] [] h q := by
  refine qe_aload_n c17_139 rfl ?_
  refine qe_getfield c17_140 qo17 qF10_18 e2 e4 ?_
  refine qe_iload c17_143 rfl ?_
  refine qe_iaload c17_145 e7 e8 ?_
  exact kk
theorem b17_146 {d : Nat} {q : Option Value × qH} {h : qH} {r0 : Nat} {x1 : Int32} {x2 : Int32} {r3 : Nat} {x4 : Int32} {x5 : Int32} {x6 : Int32} {x7 : Int32} {x8 : Int32} {o9 : Option Value} {o11 : Option Value} {xs0 : Int32}   (kk : qE d 17 342 [some (.ref r0), some (.int x1), some (.int x2), some (.ref r3), some (.int x4), some (.int xs0), some (.int x6), some (.int x7), some (.int x8), o9, none, o11, none] [] h q): qE d 17 146 [some (.ref r0), some (.int x1), some (.int x2), some (.ref r3), some (.int x4), some (.int x5), some (.int x6), some (.int x7), some (.int x8), o9, none, o11, none] [.int xs0] h q := by
  refine qe_istore (ls2 := [some (.ref r0), some (.int x1), some (.int x2), some (.ref r3), some (.int x4), some (.int xs0), some (.int x6), some (.int x7), some (.int x8), o9, none, o11, none]) c17_146 (Nat.le_of_ble_eq_true rfl) rfl ?_
  refine qe_goto (t := 342) c17_148 rfl ?_
  exact kk
theorem b17_151F {d : Nat} {q : Option Value × qH} {h : qH} {r0 : Nat} {x1 : Int32} {x2 : Int32} {r3 : Nat} {x4 : Int32} {x5 : Int32} {x6 : Int32} {x7 : Int32} {x8 : Int32} {o9 : Option Value} {o11 : Option Value}  (e1 : (x8 : Int32) = 124) (kk : qE d 17 158 [some (.ref r0), some (.int x1), some (.int x2), some (.ref r3), some (.int x4), some (.int x5), some (.int x6), some (.int x7), some (.int x8), o9, none, o11, none] [] h q): qE d 17 151 [some (.ref r0), some (.int x1), some (.int x2), some (.ref r3), some (.int x4), some (.int x5), some (.int x6), some (.int x7), some (.int x8), o9, none, o11, none] [] h q := by
  refine qe_iload c17_151 rfl ?_
  refine qe_bipush (x := 124) c17_153 (by decide) ?_
  refine qe_icmp_ne_F (t := 180) c17_155 rfl e1 ?_
  exact kk
theorem b17_151T {d : Nat} {q : Option Value × qH} {h : qH} {r0 : Nat} {x1 : Int32} {x2 : Int32} {r3 : Nat} {x4 : Int32} {x5 : Int32} {x6 : Int32} {x7 : Int32} {x8 : Int32} {o9 : Option Value} {o11 : Option Value}  (e1 : ¬ ((x8 : Int32) = 124)) (kk : qE d 17 180 [some (.ref r0), some (.int x1), some (.int x2), some (.ref r3), some (.int x4), some (.int x5), some (.int x6), some (.int x7), some (.int x8), o9, none, o11, none] [] h q): qE d 17 151 [some (.ref r0), some (.int x1), some (.int x2), some (.ref r3), some (.int x4), some (.int x5), some (.int x6), some (.int x7), some (.int x8), o9, none, o11, none] [] h q := by
  refine qe_iload c17_151 rfl ?_
  refine qe_bipush (x := 124) c17_153 (by decide) ?_
  refine qe_icmp_ne_T (t := 180) c17_155 rfl e1 ?_
  exact kk
theorem b17_158F {d : Nat} {q : Option Value × qH} {h : qH} {r0 : Nat} {x1 : Int32} {x2 : Int32} {r3 : Nat} {x4 : Int32} {x5 : Int32} {x6 : Int32} {x7 : Int32} {x8 : Int32} {o9 : Option Value} {o11 : Option Value}  (e1 : ¬ ((x4 : Int32) = 0)) (kk : qE d 17 163 [some (.ref r0), some (.int x1), some (.int x2), some (.ref r3), some (.int x4), some (.int x5), some (.int x6), some (.int x7), some (.int x8), o9, none, o11, none] [] h q): qE d 17 158 [some (.ref r0), some (.int x1), some (.int x2), some (.ref r3), some (.int x4), some (.int x5), some (.int x6), some (.int x7), some (.int x8), o9, none, o11, none] [] h q := by
  refine qe_iload c17_158 rfl ?_
  refine qe_if_eq_F (t := 173) c17_160 rfl e1 ?_
  exact kk
theorem b17_158T {d : Nat} {q : Option Value × qH} {h : qH} {r0 : Nat} {x1 : Int32} {x2 : Int32} {r3 : Nat} {x4 : Int32} {x5 : Int32} {x6 : Int32} {x7 : Int32} {x8 : Int32} {o9 : Option Value} {o11 : Option Value}  (e1 : (x4 : Int32) = 0) (kk : qE d 17 173 [some (.ref r0), some (.int x1), some (.int x2), some (.ref r3), some (.int x4), some (.int x5), some (.int x6), some (.int x7), some (.int x8), o9, none, o11, none] [] h q): qE d 17 158 [some (.ref r0), some (.int x1), some (.int x2), some (.ref r3), some (.int x4), some (.int x5), some (.int x6), some (.int x7), some (.int x8), o9, none, o11, none] [] h q := by
  refine qe_iload c17_158 rfl ?_
  refine qe_if_eq_T (t := 173) c17_160 rfl e1 ?_
  exact kk
theorem b17_163 {d : Nat} {q : Option Value × qH} {h : qH} {r0 : Nat} {x1 : Int32} {x2 : Int32} {r3 : Nat} {x4 : Int32} {x5 : Int32} {x6 : Int32} {x7 : Int32} {x8 : Int32} {o9 : Option Value} {o11 : Option Value} {fs1 : List Value} {y3 : Nat} {n5 : Nat} {f6 : Nat → Int32}  (e2 : h.2.2 r0 = some (.inr (10, fs1))) (e4 : fs1[8]? = some (.ref y3)) (e7 : h.2.2 y3 = some (.inl (0, n5, .inl f6))) (e8 : 0 ≤ (x7 : Int32).toInt ∧ (x7 : Int32).toInt < (n5 : Nat)) (kk : qE d 17 175 [some (.ref r0), some (.int x1), some (.int x2), some (.ref r3), some (.int x4), some (.int x5), some (.int x6), some (.int x7), some (.int x8), o9, none, o11, none] [.int (f6 (x7 : Int32).toNatClampNeg)] h q): qE d 17 163 [some (.ref r0), some (.int x1), some (.int x2), some (.ref r3), some (.int x4), some (.int x5), some (.int x6), some (.int x7), some (.int x8), o9, none, o11, none] [] h q := by
  refine qe_aload_n c17_163 rfl ?_
  refine qe_getfield c17_164 qo17 qF10_18 e2 e4 ?_
  refine qe_iload c17_167 rfl ?_
  refine qe_iaload c17_169 e7 e8 ?_
  refine qe_goto (t := 175) c17_170 rfl ?_
  exact kk
theorem b17_173 {d : Nat} {q : Option Value × qH} {h : qH} {r0 : Nat} {x1 : Int32} {x2 : Int32} {r3 : Nat} {x4 : Int32} {x5 : Int32} {x6 : Int32} {x7 : Int32} {x8 : Int32} {o9 : Option Value} {o11 : Option Value}   (kk : qE d 17 175 [some (.ref r0), some (.int x1), some (.int x2), some (.ref r3), some (.int x4), some (.int x5), some (.int x6), some (.int x7), some (.int x8), o9, none, o11, none] [.int x5] h q): qE d 17 173 [some (.ref r0), some (.int x1), some (.int x2), some (.ref r3), some (.int x4), some (.int x5), some (.int x6), some (.int x7), some (.int x8), o9, none, o11, none] [] h q := by
  refine qe_iload c17_173 rfl ?_
  exact kk
theorem b17_175 {d : Nat} {q : Option Value × qH} {h : qH} {r0 : Nat} {x1 : Int32} {x2 : Int32} {r3 : Nat} {x4 : Int32} {x5 : Int32} {x6 : Int32} {x7 : Int32} {x8 : Int32} {o9 : Option Value} {o11 : Option Value} {xs0 : Int32}   (kk : qE d 17 342 [some (.ref r0), some (.int x1), some (.int x2), some (.ref r3), some (.int x4), some (.int xs0), some (.int x6), some (.int x7), some (.int x8), o9, none, o11, none] [] h q): qE d 17 175 [some (.ref r0), some (.int x1), some (.int x2), some (.ref r3), some (.int x4), some (.int x5), some (.int x6), some (.int x7), some (.int x8), o9, none, o11, none] [.int xs0] h q := by
  refine qe_istore (ls2 := [some (.ref r0), some (.int x1), some (.int x2), some (.ref r3), some (.int x4), some (.int xs0), some (.int x6), some (.int x7), some (.int x8), o9, none, o11, none]) c17_175 (Nat.le_of_ble_eq_true rfl) rfl ?_
  refine qe_goto (t := 342) c17_177 rfl ?_
  exact kk
theorem b17_180F {d : Nat} {q : Option Value × qH} {h : qH} {r0 : Nat} {x1 : Int32} {x2 : Int32} {r3 : Nat} {x4 : Int32} {x5 : Int32} {x6 : Int32} {x7 : Int32} {x8 : Int32} {o9 : Option Value} {o11 : Option Value}  (e1 : ¬ ((2 : Int32) ≤ x6)) (kk : qE d 17 186 [some (.ref r0), some (.int x1), some (.int x2), some (.ref r3), some (.int x4), some (.int x5), some (.int x6), some (.int x7), some (.int x8), o9, none, o11, none] [] h q): qE d 17 180 [some (.ref r0), some (.int x1), some (.int x2), some (.ref r3), some (.int x4), some (.int x5), some (.int x6), some (.int x7), some (.int x8), o9, none, o11, none] [] h q := by
  refine qe_iload c17_180 rfl ?_
  refine qe_iconst (x := 2) c17_182 (by decide) ?_
  refine qe_icmp_ge_F (t := 188) c17_183 rfl e1 ?_
  exact kk
theorem b17_180T {d : Nat} {q : Option Value × qH} {h : qH} {r0 : Nat} {x1 : Int32} {x2 : Int32} {r3 : Nat} {x4 : Int32} {x5 : Int32} {x6 : Int32} {x7 : Int32} {x8 : Int32} {o9 : Option Value} {o11 : Option Value}  (e1 : (2 : Int32) ≤ x6) (kk : qE d 17 188 [some (.ref r0), some (.int x1), some (.int x2), some (.ref r3), some (.int x4), some (.int x5), some (.int x6), some (.int x7), some (.int x8), o9, none, o11, none] [] h q): qE d 17 180 [some (.ref r0), some (.int x1), some (.int x2), some (.ref r3), some (.int x4), some (.int x5), some (.int x6), some (.int x7), some (.int x8), o9, none, o11, none] [] h q := by
  refine qe_iload c17_180 rfl ?_
  refine qe_iconst (x := 2) c17_182 (by decide) ?_
  refine qe_icmp_ge_T (t := 188) c17_183 rfl e1 ?_
  exact kk
theorem b17_186 {d : Nat} {h : qH} {r0 : Nat} {x1 : Int32} {x2 : Int32} {r3 : Nat} {x4 : Int32} {x5 : Int32} {x6 : Int32} {x7 : Int32} {x8 : Int32} {o9 : Option Value} {o11 : Option Value}   : qE d 17 186 [some (.ref r0), some (.int x1), some (.int x2), some (.ref r3), some (.int x4), some (.int x5), some (.int x6), some (.int x7), some (.int x8), o9, none, o11, none] [] h (some (.int 0), h) := by
  refine qe_iconst (x := 0) c17_186 (by decide) ?_
  exact qe_zret c17_187 qr17 (by decide)
theorem b17_188F {d : Nat} {q : Option Value × qH} {h : qH} {r0 : Nat} {x1 : Int32} {x2 : Int32} {r3 : Nat} {x4 : Int32} {x5 : Int32} {x6 : Int32} {x7 : Int32} {x8 : Int32} {o9 : Option Value} {o11 : Option Value} {fs1 : List Value} {y3 : Nat} {n5 : Nat} {f6 : Nat → Int64}  (e2 : h.2.2 r0 = some (.inr (10, fs1))) (e4 : fs1[11]? = some (.ref y3)) (e7 : h.2.2 y3 = some (.inl (2, n5, .inr (.inl f6)))) (e8 : 0 ≤ ((x6 - 1) : Int32).toInt ∧ ((x6 - 1) : Int32).toInt < (n5 : Nat)) (e10 : 0 ≤ ((x6 - 2) : Int32).toInt ∧ ((x6 - 2) : Int32).toInt < (n5 : Nat)) (e11 : ((lg_cmp ((f6 ((x6 - 1) : Int32).toNatClampNeg)) 0) : Int32) = 0) (kk : qE d 17 217 [some (.ref r0), some (.int x1), some (.int x2), some (.ref r3), some (.int x4), some (.int x5), some (.int x6), some (.int x7), some (.int x8), some (.long (f6 ((x6 - 1) : Int32).toNatClampNeg)), none, some (.long (f6 ((x6 - 2) : Int32).toNatClampNeg)), none] [] h q): qE d 17 188 [some (.ref r0), some (.int x1), some (.int x2), some (.ref r3), some (.int x4), some (.int x5), some (.int x6), some (.int x7), some (.int x8), o9, none, o11, none] [] h q := by
  refine qe_aload_n c17_188 rfl ?_
  refine qe_getfield c17_189 qo17 qF10_28 e2 e4 ?_
  refine qe_iload c17_192 rfl ?_
  refine qe_iconst (x := 1) c17_194 (by decide) ?_
  refine qe_isub c17_195 ?_
  refine qe_laload c17_196 e7 e8 ?_
  refine qe_lstore (ls2 := [some (.ref r0), some (.int x1), some (.int x2), some (.ref r3), some (.int x4), some (.int x5), some (.int x6), some (.int x7), some (.int x8), some (.long (f6 ((x6 - 1) : Int32).toNatClampNeg)), none, o11, none]) c17_197 (Nat.le_of_ble_eq_true rfl) rfl ?_
  refine qe_aload_n c17_199 rfl ?_
  refine qe_getfield c17_200 qo17 qF10_28 e2 e4 ?_
  refine qe_iload c17_203 rfl ?_
  refine qe_iconst (x := 2) c17_205 (by decide) ?_
  refine qe_isub c17_206 ?_
  refine qe_laload c17_207 e7 e10 ?_
  refine qe_lstore (ls2 := [some (.ref r0), some (.int x1), some (.int x2), some (.ref r3), some (.int x4), some (.int x5), some (.int x6), some (.int x7), some (.int x8), some (.long (f6 ((x6 - 1) : Int32).toNatClampNeg)), none, some (.long (f6 ((x6 - 2) : Int32).toNatClampNeg)), none]) c17_208 (Nat.le_of_ble_eq_true rfl) rfl ?_
  refine qe_lload c17_210 rfl ?_
  refine qe_lconst (x := 0) c17_212 (by decide) ?_
  refine qe_lcmp c17_213 ?_
  refine qe_if_ne_F (t := 233) c17_214 rfl e11 ?_
  exact kk
theorem b17_188T {d : Nat} {q : Option Value × qH} {h : qH} {r0 : Nat} {x1 : Int32} {x2 : Int32} {r3 : Nat} {x4 : Int32} {x5 : Int32} {x6 : Int32} {x7 : Int32} {x8 : Int32} {o9 : Option Value} {o11 : Option Value} {fs1 : List Value} {y3 : Nat} {n5 : Nat} {f6 : Nat → Int64}  (e2 : h.2.2 r0 = some (.inr (10, fs1))) (e4 : fs1[11]? = some (.ref y3)) (e7 : h.2.2 y3 = some (.inl (2, n5, .inr (.inl f6)))) (e8 : 0 ≤ ((x6 - 1) : Int32).toInt ∧ ((x6 - 1) : Int32).toInt < (n5 : Nat)) (e10 : 0 ≤ ((x6 - 2) : Int32).toInt ∧ ((x6 - 2) : Int32).toInt < (n5 : Nat)) (e11 : ¬ (((lg_cmp ((f6 ((x6 - 1) : Int32).toNatClampNeg)) 0) : Int32) = 0)) (kk : qE d 17 233 [some (.ref r0), some (.int x1), some (.int x2), some (.ref r3), some (.int x4), some (.int x5), some (.int x6), some (.int x7), some (.int x8), some (.long (f6 ((x6 - 1) : Int32).toNatClampNeg)), none, some (.long (f6 ((x6 - 2) : Int32).toNatClampNeg)), none] [] h q): qE d 17 188 [some (.ref r0), some (.int x1), some (.int x2), some (.ref r3), some (.int x4), some (.int x5), some (.int x6), some (.int x7), some (.int x8), o9, none, o11, none] [] h q := by
  refine qe_aload_n c17_188 rfl ?_
  refine qe_getfield c17_189 qo17 qF10_28 e2 e4 ?_
  refine qe_iload c17_192 rfl ?_
  refine qe_iconst (x := 1) c17_194 (by decide) ?_
  refine qe_isub c17_195 ?_
  refine qe_laload c17_196 e7 e8 ?_
  refine qe_lstore (ls2 := [some (.ref r0), some (.int x1), some (.int x2), some (.ref r3), some (.int x4), some (.int x5), some (.int x6), some (.int x7), some (.int x8), some (.long (f6 ((x6 - 1) : Int32).toNatClampNeg)), none, o11, none]) c17_197 (Nat.le_of_ble_eq_true rfl) rfl ?_
  refine qe_aload_n c17_199 rfl ?_
  refine qe_getfield c17_200 qo17 qF10_28 e2 e4 ?_
  refine qe_iload c17_203 rfl ?_
  refine qe_iconst (x := 2) c17_205 (by decide) ?_
  refine qe_isub c17_206 ?_
  refine qe_laload c17_207 e7 e10 ?_
  refine qe_lstore (ls2 := [some (.ref r0), some (.int x1), some (.int x2), some (.ref r3), some (.int x4), some (.int x5), some (.int x6), some (.int x7), some (.int x8), some (.long (f6 ((x6 - 1) : Int32).toNatClampNeg)), none, some (.long (f6 ((x6 - 2) : Int32).toNatClampNeg)), none]) c17_208 (Nat.le_of_ble_eq_true rfl) rfl ?_
  refine qe_lload c17_210 rfl ?_
  refine qe_lconst (x := 0) c17_212 (by decide) ?_
  refine qe_lcmp c17_213 ?_
  refine qe_if_ne_T (t := 233) c17_214 rfl e11 ?_
  exact kk
theorem b17_217F {d : Nat} {q : Option Value × qH} {h : qH} {r0 : Nat} {x1 : Int32} {x2 : Int32} {r3 : Nat} {x4 : Int32} {x5 : Int32} {x6 : Int32} {x7 : Int32} {x8 : Int32} {l9 : Int64} {l11 : Int64}  (e1 : ¬ ((x8 : Int32) = 47)) (kk : qE d 17 224 [some (.ref r0), some (.int x1), some (.int x2), some (.ref r3), some (.int x4), some (.int x5), some (.int x6), some (.int x7), some (.int x8), some (.long l9), none, some (.long l11), none] [] h q): qE d 17 217 [some (.ref r0), some (.int x1), some (.int x2), some (.ref r3), some (.int x4), some (.int x5), some (.int x6), some (.int x7), some (.int x8), some (.long l9), none, some (.long l11), none] [] h q := by
  refine qe_iload c17_217 rfl ?_
  refine qe_bipush (x := 47) c17_219 (by decide) ?_
  refine qe_icmp_eq_F (t := 231) c17_221 rfl e1 ?_
  exact kk
theorem b17_217T {d : Nat} {q : Option Value × qH} {h : qH} {r0 : Nat} {x1 : Int32} {x2 : Int32} {r3 : Nat} {x4 : Int32} {x5 : Int32} {x6 : Int32} {x7 : Int32} {x8 : Int32} {l9 : Int64} {l11 : Int64}  (e1 : (x8 : Int32) = 47) (kk : qE d 17 231 [some (.ref r0), some (.int x1), some (.int x2), some (.ref r3), some (.int x4), some (.int x5), some (.int x6), some (.int x7), some (.int x8), some (.long l9), none, some (.long l11), none] [] h q): qE d 17 217 [some (.ref r0), some (.int x1), some (.int x2), some (.ref r3), some (.int x4), some (.int x5), some (.int x6), some (.int x7), some (.int x8), some (.long l9), none, some (.long l11), none] [] h q := by
  refine qe_iload c17_217 rfl ?_
  refine qe_bipush (x := 47) c17_219 (by decide) ?_
  refine qe_icmp_eq_T (t := 231) c17_221 rfl e1 ?_
  exact kk
theorem b17_224F {d : Nat} {q : Option Value × qH} {h : qH} {r0 : Nat} {x1 : Int32} {x2 : Int32} {r3 : Nat} {x4 : Int32} {x5 : Int32} {x6 : Int32} {x7 : Int32} {x8 : Int32} {l9 : Int64} {l11 : Int64}  (e1 : (x8 : Int32) = 37) (kk : qE d 17 231 [some (.ref r0), some (.int x1), some (.int x2), some (.ref r3), some (.int x4), some (.int x5), some (.int x6), some (.int x7), some (.int x8), some (.long l9), none, some (.long l11), none] [] h q): qE d 17 224 [some (.ref r0), some (.int x1), some (.int x2), some (.ref r3), some (.int x4), some (.int x5), some (.int x6), some (.int x7), some (.int x8), some (.long l9), none, some (.long l11), none] [] h q := by
  refine qe_iload c17_224 rfl ?_
  refine qe_bipush (x := 37) c17_226 (by decide) ?_
  refine qe_icmp_ne_F (t := 233) c17_228 rfl e1 ?_
  exact kk
theorem b17_224T {d : Nat} {q : Option Value × qH} {h : qH} {r0 : Nat} {x1 : Int32} {x2 : Int32} {r3 : Nat} {x4 : Int32} {x5 : Int32} {x6 : Int32} {x7 : Int32} {x8 : Int32} {l9 : Int64} {l11 : Int64}  (e1 : ¬ ((x8 : Int32) = 37)) (kk : qE d 17 233 [some (.ref r0), some (.int x1), some (.int x2), some (.ref r3), some (.int x4), some (.int x5), some (.int x6), some (.int x7), some (.int x8), some (.long l9), none, some (.long l11), none] [] h q): qE d 17 224 [some (.ref r0), some (.int x1), some (.int x2), some (.ref r3), some (.int x4), some (.int x5), some (.int x6), some (.int x7), some (.int x8), some (.long l9), none, some (.long l11), none] [] h q := by
  refine qe_iload c17_224 rfl ?_
  refine qe_bipush (x := 37) c17_226 (by decide) ?_
  refine qe_icmp_ne_T (t := 233) c17_228 rfl e1 ?_
  exact kk
theorem b17_231 {d : Nat} {h : qH} {r0 : Nat} {x1 : Int32} {x2 : Int32} {r3 : Nat} {x4 : Int32} {x5 : Int32} {x6 : Int32} {x7 : Int32} {x8 : Int32} {l9 : Int64} {l11 : Int64}   : qE d 17 231 [some (.ref r0), some (.int x1), some (.int x2), some (.ref r3), some (.int x4), some (.int x5), some (.int x6), some (.int x7), some (.int x8), some (.long l9), none, some (.long l11), none] [] h (some (.int 0), h) := by
  refine qe_iconst (x := 0) c17_231 (by decide) ?_
  exact qe_zret c17_232 qr17 (by decide)
theorem b17_233F {d : Nat} {q : Option Value × qH} {h : qH} {r0 : Nat} {x1 : Int32} {x2 : Int32} {r3 : Nat} {x4 : Int32} {x5 : Int32} {x6 : Int32} {x7 : Int32} {x8 : Int32} {l9 : Int64} {l11 : Int64}  (e1 : ¬ ((x8 : Int32) = 60)) (kk : qE d 17 240 [some (.ref r0), some (.int x1), some (.int x2), some (.ref r3), some (.int x4), some (.int x5), some (.int x6), some (.int x7), some (.int x8), some (.long l9), none, some (.long l11), none] [] h q): qE d 17 233 [some (.ref r0), some (.int x1), some (.int x2), some (.ref r3), some (.int x4), some (.int x5), some (.int x6), some (.int x7), some (.int x8), some (.long l9), none, some (.long l11), none] [] h q := by
  refine qe_iload c17_233 rfl ?_
  refine qe_bipush (x := 60) c17_235 (by decide) ?_
  refine qe_icmp_eq_F (t := 254) c17_237 rfl e1 ?_
  exact kk
theorem b17_233T {d : Nat} {q : Option Value × qH} {h : qH} {r0 : Nat} {x1 : Int32} {x2 : Int32} {r3 : Nat} {x4 : Int32} {x5 : Int32} {x6 : Int32} {x7 : Int32} {x8 : Int32} {l9 : Int64} {l11 : Int64}  (e1 : (x8 : Int32) = 60) (kk : qE d 17 254 [some (.ref r0), some (.int x1), some (.int x2), some (.ref r3), some (.int x4), some (.int x5), some (.int x6), some (.int x7), some (.int x8), some (.long l9), none, some (.long l11), none] [] h q): qE d 17 233 [some (.ref r0), some (.int x1), some (.int x2), some (.ref r3), some (.int x4), some (.int x5), some (.int x6), some (.int x7), some (.int x8), some (.long l9), none, some (.long l11), none] [] h q := by
  refine qe_iload c17_233 rfl ?_
  refine qe_bipush (x := 60) c17_235 (by decide) ?_
  refine qe_icmp_eq_T (t := 254) c17_237 rfl e1 ?_
  exact kk
theorem b17_240F {d : Nat} {q : Option Value × qH} {h : qH} {r0 : Nat} {x1 : Int32} {x2 : Int32} {r3 : Nat} {x4 : Int32} {x5 : Int32} {x6 : Int32} {x7 : Int32} {x8 : Int32} {l9 : Int64} {l11 : Int64}  (e1 : ¬ ((x8 : Int32) = 62)) (kk : qE d 17 247 [some (.ref r0), some (.int x1), some (.int x2), some (.ref r3), some (.int x4), some (.int x5), some (.int x6), some (.int x7), some (.int x8), some (.long l9), none, some (.long l11), none] [] h q): qE d 17 240 [some (.ref r0), some (.int x1), some (.int x2), some (.ref r3), some (.int x4), some (.int x5), some (.int x6), some (.int x7), some (.int x8), some (.long l9), none, some (.long l11), none] [] h q := by
  refine qe_iload c17_240 rfl ?_
  refine qe_bipush (x := 62) c17_242 (by decide) ?_
  refine qe_icmp_eq_F (t := 254) c17_244 rfl e1 ?_
  exact kk
theorem b17_240T {d : Nat} {q : Option Value × qH} {h : qH} {r0 : Nat} {x1 : Int32} {x2 : Int32} {r3 : Nat} {x4 : Int32} {x5 : Int32} {x6 : Int32} {x7 : Int32} {x8 : Int32} {l9 : Int64} {l11 : Int64}  (e1 : (x8 : Int32) = 62) (kk : qE d 17 254 [some (.ref r0), some (.int x1), some (.int x2), some (.ref r3), some (.int x4), some (.int x5), some (.int x6), some (.int x7), some (.int x8), some (.long l9), none, some (.long l11), none] [] h q): qE d 17 240 [some (.ref r0), some (.int x1), some (.int x2), some (.ref r3), some (.int x4), some (.int x5), some (.int x6), some (.int x7), some (.int x8), some (.long l9), none, some (.long l11), none] [] h q := by
  refine qe_iload c17_240 rfl ?_
  refine qe_bipush (x := 62) c17_242 (by decide) ?_
  refine qe_icmp_eq_T (t := 254) c17_244 rfl e1 ?_
  exact kk
theorem b17_247F {d : Nat} {q : Option Value × qH} {h : qH} {r0 : Nat} {x1 : Int32} {x2 : Int32} {r3 : Nat} {x4 : Int32} {x5 : Int32} {x6 : Int32} {x7 : Int32} {x8 : Int32} {l9 : Int64} {l11 : Int64}  (e1 : (x8 : Int32) = 61) (kk : qE d 17 254 [some (.ref r0), some (.int x1), some (.int x2), some (.ref r3), some (.int x4), some (.int x5), some (.int x6), some (.int x7), some (.int x8), some (.long l9), none, some (.long l11), none] [] h q): qE d 17 247 [some (.ref r0), some (.int x1), some (.int x2), some (.ref r3), some (.int x4), some (.int x5), some (.int x6), some (.int x7), some (.int x8), some (.long l9), none, some (.long l11), none] [] h q := by
  refine qe_iload c17_247 rfl ?_
  refine qe_bipush (x := 61) c17_249 (by decide) ?_
  refine qe_icmp_ne_F (t := 321) c17_251 rfl e1 ?_
  exact kk
theorem b17_247T {d : Nat} {q : Option Value × qH} {h : qH} {r0 : Nat} {x1 : Int32} {x2 : Int32} {r3 : Nat} {x4 : Int32} {x5 : Int32} {x6 : Int32} {x7 : Int32} {x8 : Int32} {l9 : Int64} {l11 : Int64}  (e1 : ¬ ((x8 : Int32) = 61)) (kk : qE d 17 321 [some (.ref r0), some (.int x1), some (.int x2), some (.ref r3), some (.int x4), some (.int x5), some (.int x6), some (.int x7), some (.int x8), some (.long l9), none, some (.long l11), none] [] h q): qE d 17 247 [some (.ref r0), some (.int x1), some (.int x2), some (.ref r3), some (.int x4), some (.int x5), some (.int x6), some (.int x7), some (.int x8), some (.long l9), none, some (.long l11), none] [] h q := by
  refine qe_iload c17_247 rfl ?_
  refine qe_bipush (x := 61) c17_249 (by decide) ?_
  refine qe_icmp_ne_T (t := 321) c17_251 rfl e1 ?_
  exact kk
theorem b17_254F {d : Nat} {q : Option Value × qH} {h : qH} {r0 : Nat} {x1 : Int32} {x2 : Int32} {r3 : Nat} {x4 : Int32} {x5 : Int32} {x6 : Int32} {x7 : Int32} {x8 : Int32} {l9 : Int64} {l11 : Int64}  (e1 : (x8 : Int32) = 60) (kk : qE d 17 261 [some (.ref r0), some (.int x1), some (.int x2), some (.ref r3), some (.int x4), some (.int x5), some (.int x6), some (.int x7), some (.int x8), some (.long l9), none, some (.long l11), none] [] h q): qE d 17 254 [some (.ref r0), some (.int x1), some (.int x2), some (.ref r3), some (.int x4), some (.int x5), some (.int x6), some (.int x7), some (.int x8), some (.long l9), none, some (.long l11), none] [] h q := by
  refine qe_iload c17_254 rfl ?_
  refine qe_bipush (x := 60) c17_256 (by decide) ?_
  refine qe_icmp_ne_F (t := 277) c17_258 rfl e1 ?_
  exact kk
theorem b17_254T {d : Nat} {q : Option Value × qH} {h : qH} {r0 : Nat} {x1 : Int32} {x2 : Int32} {r3 : Nat} {x4 : Int32} {x5 : Int32} {x6 : Int32} {x7 : Int32} {x8 : Int32} {l9 : Int64} {l11 : Int64}  (e1 : ¬ ((x8 : Int32) = 60)) (kk : qE d 17 277 [some (.ref r0), some (.int x1), some (.int x2), some (.ref r3), some (.int x4), some (.int x5), some (.int x6), some (.int x7), some (.int x8), some (.long l9), none, some (.long l11), none] [] h q): qE d 17 254 [some (.ref r0), some (.int x1), some (.int x2), some (.ref r3), some (.int x4), some (.int x5), some (.int x6), some (.int x7), some (.int x8), some (.long l9), none, some (.long l11), none] [] h q := by
  refine qe_iload c17_254 rfl ?_
  refine qe_bipush (x := 60) c17_256 (by decide) ?_
  refine qe_icmp_ne_T (t := 277) c17_258 rfl e1 ?_
  exact kk
theorem b17_261F {d : Nat} {q : Option Value × qH} {h : qH} {r0 : Nat} {x1 : Int32} {x2 : Int32} {r3 : Nat} {x4 : Int32} {x5 : Int32} {x6 : Int32} {x7 : Int32} {x8 : Int32} {l9 : Int64} {l11 : Int64}  (e1 : ¬ ((0 : Int32) ≤ (lg_cmp l11 l9))) (kk : qE d 17 269 [some (.ref r0), some (.int x1), some (.int x2), some (.ref r3), some (.int x4), some (.int x5), some (.int x6), some (.int x7), some (.int x8), some (.long l9), none, some (.long l11), none] [] h q): qE d 17 261 [some (.ref r0), some (.int x1), some (.int x2), some (.ref r3), some (.int x4), some (.int x5), some (.int x6), some (.int x7), some (.int x8), some (.long l9), none, some (.long l11), none] [] h q := by
  refine qe_lload c17_261 rfl ?_
  refine qe_lload c17_263 rfl ?_
  refine qe_lcmp c17_265 ?_
  refine qe_if_ge_F (t := 273) c17_266 rfl e1 ?_
  exact kk
theorem b17_261T {d : Nat} {q : Option Value × qH} {h : qH} {r0 : Nat} {x1 : Int32} {x2 : Int32} {r3 : Nat} {x4 : Int32} {x5 : Int32} {x6 : Int32} {x7 : Int32} {x8 : Int32} {l9 : Int64} {l11 : Int64}  (e1 : (0 : Int32) ≤ (lg_cmp l11 l9)) (kk : qE d 17 273 [some (.ref r0), some (.int x1), some (.int x2), some (.ref r3), some (.int x4), some (.int x5), some (.int x6), some (.int x7), some (.int x8), some (.long l9), none, some (.long l11), none] [] h q): qE d 17 261 [some (.ref r0), some (.int x1), some (.int x2), some (.ref r3), some (.int x4), some (.int x5), some (.int x6), some (.int x7), some (.int x8), some (.long l9), none, some (.long l11), none] [] h q := by
  refine qe_lload c17_261 rfl ?_
  refine qe_lload c17_263 rfl ?_
  refine qe_lcmp c17_265 ?_
  refine qe_if_ge_T (t := 273) c17_266 rfl e1 ?_
  exact kk
theorem b17_269 {d : Nat} {q : Option Value × qH} {h : qH} {r0 : Nat} {x1 : Int32} {x2 : Int32} {r3 : Nat} {x4 : Int32} {x5 : Int32} {x6 : Int32} {x7 : Int32} {x8 : Int32} {l9 : Int64} {l11 : Int64}   (kk : qE d 17 313 [some (.ref r0), some (.int x1), some (.int x2), some (.ref r3), some (.int x4), some (.int x5), some (.int x6), some (.int x7), some (.int x8), some (.long l9), none, some (.long l11), none] [.int 1] h q): qE d 17 269 [some (.ref r0), some (.int x1), some (.int x2), some (.ref r3), some (.int x4), some (.int x5), some (.int x6), some (.int x7), some (.int x8), some (.long l9), none, some (.long l11), none] [] h q := by
  refine qe_iconst (x := 1) c17_269 (by decide) ?_
  refine qe_goto (t := 313) c17_270 rfl ?_
  exact kk
theorem b17_273 {d : Nat} {q : Option Value × qH} {h : qH} {r0 : Nat} {x1 : Int32} {x2 : Int32} {r3 : Nat} {x4 : Int32} {x5 : Int32} {x6 : Int32} {x7 : Int32} {x8 : Int32} {l9 : Int64} {l11 : Int64}   (kk : qE d 17 313 [some (.ref r0), some (.int x1), some (.int x2), some (.ref r3), some (.int x4), some (.int x5), some (.int x6), some (.int x7), some (.int x8), some (.long l9), none, some (.long l11), none] [.int 0] h q): qE d 17 273 [some (.ref r0), some (.int x1), some (.int x2), some (.ref r3), some (.int x4), some (.int x5), some (.int x6), some (.int x7), some (.int x8), some (.long l9), none, some (.long l11), none] [] h q := by
  refine qe_iconst (x := 0) c17_273 (by decide) ?_
  refine qe_goto (t := 313) c17_274 rfl ?_
  exact kk
theorem b17_277F {d : Nat} {q : Option Value × qH} {h : qH} {r0 : Nat} {x1 : Int32} {x2 : Int32} {r3 : Nat} {x4 : Int32} {x5 : Int32} {x6 : Int32} {x7 : Int32} {x8 : Int32} {l9 : Int64} {l11 : Int64}  (e1 : (x8 : Int32) = 62) (kk : qE d 17 284 [some (.ref r0), some (.int x1), some (.int x2), some (.ref r3), some (.int x4), some (.int x5), some (.int x6), some (.int x7), some (.int x8), some (.long l9), none, some (.long l11), none] [] h q): qE d 17 277 [some (.ref r0), some (.int x1), some (.int x2), some (.ref r3), some (.int x4), some (.int x5), some (.int x6), some (.int x7), some (.int x8), some (.long l9), none, some (.long l11), none] [] h q := by
  refine qe_iload c17_277 rfl ?_
  refine qe_bipush (x := 62) c17_279 (by decide) ?_
  refine qe_icmp_ne_F (t := 300) c17_281 rfl e1 ?_
  exact kk
theorem b17_277T {d : Nat} {q : Option Value × qH} {h : qH} {r0 : Nat} {x1 : Int32} {x2 : Int32} {r3 : Nat} {x4 : Int32} {x5 : Int32} {x6 : Int32} {x7 : Int32} {x8 : Int32} {l9 : Int64} {l11 : Int64}  (e1 : ¬ ((x8 : Int32) = 62)) (kk : qE d 17 300 [some (.ref r0), some (.int x1), some (.int x2), some (.ref r3), some (.int x4), some (.int x5), some (.int x6), some (.int x7), some (.int x8), some (.long l9), none, some (.long l11), none] [] h q): qE d 17 277 [some (.ref r0), some (.int x1), some (.int x2), some (.ref r3), some (.int x4), some (.int x5), some (.int x6), some (.int x7), some (.int x8), some (.long l9), none, some (.long l11), none] [] h q := by
  refine qe_iload c17_277 rfl ?_
  refine qe_bipush (x := 62) c17_279 (by decide) ?_
  refine qe_icmp_ne_T (t := 300) c17_281 rfl e1 ?_
  exact kk
theorem b17_284F {d : Nat} {q : Option Value × qH} {h : qH} {r0 : Nat} {x1 : Int32} {x2 : Int32} {r3 : Nat} {x4 : Int32} {x5 : Int32} {x6 : Int32} {x7 : Int32} {x8 : Int32} {l9 : Int64} {l11 : Int64}  (e1 : ¬ (((lg_cmp l11 l9) : Int32) ≤ 0)) (kk : qE d 17 292 [some (.ref r0), some (.int x1), some (.int x2), some (.ref r3), some (.int x4), some (.int x5), some (.int x6), some (.int x7), some (.int x8), some (.long l9), none, some (.long l11), none] [] h q): qE d 17 284 [some (.ref r0), some (.int x1), some (.int x2), some (.ref r3), some (.int x4), some (.int x5), some (.int x6), some (.int x7), some (.int x8), some (.long l9), none, some (.long l11), none] [] h q := by
  refine qe_lload c17_284 rfl ?_
  refine qe_lload c17_286 rfl ?_
  refine qe_lcmp c17_288 ?_
  refine qe_if_le_F (t := 296) c17_289 rfl e1 ?_
  exact kk
theorem b17_284T {d : Nat} {q : Option Value × qH} {h : qH} {r0 : Nat} {x1 : Int32} {x2 : Int32} {r3 : Nat} {x4 : Int32} {x5 : Int32} {x6 : Int32} {x7 : Int32} {x8 : Int32} {l9 : Int64} {l11 : Int64}  (e1 : ((lg_cmp l11 l9) : Int32) ≤ 0) (kk : qE d 17 296 [some (.ref r0), some (.int x1), some (.int x2), some (.ref r3), some (.int x4), some (.int x5), some (.int x6), some (.int x7), some (.int x8), some (.long l9), none, some (.long l11), none] [] h q): qE d 17 284 [some (.ref r0), some (.int x1), some (.int x2), some (.ref r3), some (.int x4), some (.int x5), some (.int x6), some (.int x7), some (.int x8), some (.long l9), none, some (.long l11), none] [] h q := by
  refine qe_lload c17_284 rfl ?_
  refine qe_lload c17_286 rfl ?_
  refine qe_lcmp c17_288 ?_
  refine qe_if_le_T (t := 296) c17_289 rfl e1 ?_
  exact kk
theorem b17_292 {d : Nat} {q : Option Value × qH} {h : qH} {r0 : Nat} {x1 : Int32} {x2 : Int32} {r3 : Nat} {x4 : Int32} {x5 : Int32} {x6 : Int32} {x7 : Int32} {x8 : Int32} {l9 : Int64} {l11 : Int64}   (kk : qE d 17 313 [some (.ref r0), some (.int x1), some (.int x2), some (.ref r3), some (.int x4), some (.int x5), some (.int x6), some (.int x7), some (.int x8), some (.long l9), none, some (.long l11), none] [.int 1] h q): qE d 17 292 [some (.ref r0), some (.int x1), some (.int x2), some (.ref r3), some (.int x4), some (.int x5), some (.int x6), some (.int x7), some (.int x8), some (.long l9), none, some (.long l11), none] [] h q := by
  refine qe_iconst (x := 1) c17_292 (by decide) ?_
  refine qe_goto (t := 313) c17_293 rfl ?_
  exact kk
theorem b17_296 {d : Nat} {q : Option Value × qH} {h : qH} {r0 : Nat} {x1 : Int32} {x2 : Int32} {r3 : Nat} {x4 : Int32} {x5 : Int32} {x6 : Int32} {x7 : Int32} {x8 : Int32} {l9 : Int64} {l11 : Int64}   (kk : qE d 17 313 [some (.ref r0), some (.int x1), some (.int x2), some (.ref r3), some (.int x4), some (.int x5), some (.int x6), some (.int x7), some (.int x8), some (.long l9), none, some (.long l11), none] [.int 0] h q): qE d 17 296 [some (.ref r0), some (.int x1), some (.int x2), some (.ref r3), some (.int x4), some (.int x5), some (.int x6), some (.int x7), some (.int x8), some (.long l9), none, some (.long l11), none] [] h q := by
  refine qe_iconst (x := 0) c17_296 (by decide) ?_
  refine qe_goto (t := 313) c17_297 rfl ?_
  exact kk
theorem b17_300F {d : Nat} {q : Option Value × qH} {h : qH} {r0 : Nat} {x1 : Int32} {x2 : Int32} {r3 : Nat} {x4 : Int32} {x5 : Int32} {x6 : Int32} {x7 : Int32} {x8 : Int32} {l9 : Int64} {l11 : Int64}  (e1 : ((lg_cmp l11 l9) : Int32) = 0) (kk : qE d 17 308 [some (.ref r0), some (.int x1), some (.int x2), some (.ref r3), some (.int x4), some (.int x5), some (.int x6), some (.int x7), some (.int x8), some (.long l9), none, some (.long l11), none] [] h q): qE d 17 300 [some (.ref r0), some (.int x1), some (.int x2), some (.ref r3), some (.int x4), some (.int x5), some (.int x6), some (.int x7), some (.int x8), some (.long l9), none, some (.long l11), none] [] h q := by
  refine qe_lload c17_300 rfl ?_
  refine qe_lload c17_302 rfl ?_
  refine qe_lcmp c17_304 ?_
  refine qe_if_ne_F (t := 312) c17_305 rfl e1 ?_
  exact kk
theorem b17_300T {d : Nat} {q : Option Value × qH} {h : qH} {r0 : Nat} {x1 : Int32} {x2 : Int32} {r3 : Nat} {x4 : Int32} {x5 : Int32} {x6 : Int32} {x7 : Int32} {x8 : Int32} {l9 : Int64} {l11 : Int64}  (e1 : ¬ (((lg_cmp l11 l9) : Int32) = 0)) (kk : qE d 17 312 [some (.ref r0), some (.int x1), some (.int x2), some (.ref r3), some (.int x4), some (.int x5), some (.int x6), some (.int x7), some (.int x8), some (.long l9), none, some (.long l11), none] [] h q): qE d 17 300 [some (.ref r0), some (.int x1), some (.int x2), some (.ref r3), some (.int x4), some (.int x5), some (.int x6), some (.int x7), some (.int x8), some (.long l9), none, some (.long l11), none] [] h q := by
  refine qe_lload c17_300 rfl ?_
  refine qe_lload c17_302 rfl ?_
  refine qe_lcmp c17_304 ?_
  refine qe_if_ne_T (t := 312) c17_305 rfl e1 ?_
  exact kk
theorem b17_308 {d : Nat} {q : Option Value × qH} {h : qH} {r0 : Nat} {x1 : Int32} {x2 : Int32} {r3 : Nat} {x4 : Int32} {x5 : Int32} {x6 : Int32} {x7 : Int32} {x8 : Int32} {l9 : Int64} {l11 : Int64}   (kk : qE d 17 313 [some (.ref r0), some (.int x1), some (.int x2), some (.ref r3), some (.int x4), some (.int x5), some (.int x6), some (.int x7), some (.int x8), some (.long l9), none, some (.long l11), none] [.int 1] h q): qE d 17 308 [some (.ref r0), some (.int x1), some (.int x2), some (.ref r3), some (.int x4), some (.int x5), some (.int x6), some (.int x7), some (.int x8), some (.long l9), none, some (.long l11), none] [] h q := by
  refine qe_iconst (x := 1) c17_308 (by decide) ?_
  refine qe_goto (t := 313) c17_309 rfl ?_
  exact kk
theorem b17_312 {d : Nat} {q : Option Value × qH} {h : qH} {r0 : Nat} {x1 : Int32} {x2 : Int32} {r3 : Nat} {x4 : Int32} {x5 : Int32} {x6 : Int32} {x7 : Int32} {x8 : Int32} {l9 : Int64} {l11 : Int64}   (kk : qE d 17 313 [some (.ref r0), some (.int x1), some (.int x2), some (.ref r3), some (.int x4), some (.int x5), some (.int x6), some (.int x7), some (.int x8), some (.long l9), none, some (.long l11), none] [.int 0] h q): qE d 17 312 [some (.ref r0), some (.int x1), some (.int x2), some (.ref r3), some (.int x4), some (.int x5), some (.int x6), some (.int x7), some (.int x8), some (.long l9), none, some (.long l11), none] [] h q := by
  refine qe_iconst (x := 0) c17_312 (by decide) ?_
  exact kk
theorem b17_313 {d : Nat} {q : Option Value × qH} {h : qH} {r0 : Nat} {x1 : Int32} {x2 : Int32} {r3 : Nat} {x4 : Int32} {x5 : Int32} {x6 : Int32} {x7 : Int32} {x8 : Int32} {l9 : Int64} {l11 : Int64} {xs0 : Int32}   (kk : qE d 17 342 [some (.ref r0), some (.int x1), some (.int x2), some (.ref r3), some (.int xs0), some (.int x5), some (.int (x6 + (-2))), some (.int x7), some (.int x8), some (.long l9), none, some (.long l11), none] [] h q): qE d 17 313 [some (.ref r0), some (.int x1), some (.int x2), some (.ref r3), some (.int x4), some (.int x5), some (.int x6), some (.int x7), some (.int x8), some (.long l9), none, some (.long l11), none] [.int xs0] h q := by
  refine qe_istore (ls2 := [some (.ref r0), some (.int x1), some (.int x2), some (.ref r3), some (.int xs0), some (.int x5), some (.int x6), some (.int x7), some (.int x8), some (.long l9), none, some (.long l11), none]) c17_313 (Nat.le_of_ble_eq_true rfl) rfl ?_
  refine qe_iinc (y := (x6 + (-2))) (ls2 := [some (.ref r0), some (.int x1), some (.int x2), some (.ref r3), some (.int xs0), some (.int x5), some (.int (x6 + (-2))), some (.int x7), some (.int x8), some (.long l9), none, some (.long l11), none]) c17_315 rfl (Nat.le_of_ble_eq_true rfl) rfl rfl ?_
  refine qe_goto (t := 342) c17_318 rfl ?_
  exact kk
theorem b17_321 {d : Nat} {q : Option Value × qH} {h : qH} {r0 : Nat} {x1 : Int32} {x2 : Int32} {r3 : Nat} {x4 : Int32} {x5 : Int32} {x6 : Int32} {x7 : Int32} {x8 : Int32} {l9 : Int64} {l11 : Int64} {fs1 : List Value} {y3 : Nat} {h1 : qH} {z5 : Int64} {n7 : Nat} {f8 : Nat → Int64} {h2 : qH}  (e2 : h.2.2 r0 = some (.inr (10, fs1))) (e4 : fs1[11]? = some (.ref y3)) (e6 : qCall d 26 [.int x8, .long l11, .long l9] h ((some (.long z5)), h1)) (e9 : h1.2.2 y3 = some (.inl (2, n7, .inr (.inl f8)))) (e10 : 0 ≤ ((x6 - 2) : Int32).toInt ∧ ((x6 - 2) : Int32).toInt < (n7 : Nat)) (e11 : qset h1 y3 (.inl (2, n7, .inr (.inl (vp_updL f8 (((x6 - 2) : Int32).toNatClampNeg) z5)))) = h2) (kk : qE d 17 342 [some (.ref r0), some (.int x1), some (.int x2), some (.ref r3), some (.int x4), some (.int x5), some (.int (x6 + (-1))), some (.int x7), some (.int x8), some (.long l9), none, some (.long l11), none] [] h2 q): qE d 17 321 [some (.ref r0), some (.int x1), some (.int x2), some (.ref r3), some (.int x4), some (.int x5), some (.int x6), some (.int x7), some (.int x8), some (.long l9), none, some (.long l11), none] [] h q := by
  refine qe_aload_n c17_321 rfl ?_
  refine qe_getfield c17_322 qo17 qF10_28 e2 e4 ?_
  refine qe_iload c17_325 rfl ?_
  refine qe_iconst (x := 2) c17_327 (by decide) ?_
  refine qe_isub c17_328 ?_
  refine qe_iload c17_329 rfl ?_
  refine qe_lload c17_331 rfl ?_
  refine qe_lload c17_333 rfl ?_
  refine qe_static (as := [.int x8, .long l11, .long l9]) (r := [.int (x6 - 2), .ref y3]) (v := (some (.long z5))) (h2 := h1) c17_335 qo17 (by decide) qK10_118 rfl rfl rfl (Nat.le_of_ble_eq_true rfl) e6 ?_
  refine qe_lastore c17_338 e9 e10 ?_
  rw [e11]
  refine qe_iinc (y := (x6 + (-1))) (ls2 := [some (.ref r0), some (.int x1), some (.int x2), some (.ref r3), some (.int x4), some (.int x5), some (.int (x6 + (-1))), some (.int x7), some (.int x8), some (.long l9), none, some (.long l11), none]) c17_339 rfl (Nat.le_of_ble_eq_true rfl) rfl rfl ?_
  exact kk
theorem b17_342 {d : Nat} {q : Option Value × qH} {h : qH} {r0 : Nat} {x1 : Int32} {x2 : Int32} {r3 : Nat} {x4 : Int32} {x5 : Int32} {x6 : Int32} {x7 : Int32} {o8 : Option Value} {o9 : Option Value} {o11 : Option Value}   (kk : qE d 17 12 [some (.ref r0), some (.int x1), some (.int x2), some (.ref r3), some (.int x4), some (.int x5), some (.int x6), some (.int (x7 + 1)), o8, o9, none, o11, none] [] h q): qE d 17 342 [some (.ref r0), some (.int x1), some (.int x2), some (.ref r3), some (.int x4), some (.int x5), some (.int x6), some (.int x7), o8, o9, none, o11, none] [] h q := by
  refine qe_iinc (y := (x7 + 1)) (ls2 := [some (.ref r0), some (.int x1), some (.int x2), some (.ref r3), some (.int x4), some (.int x5), some (.int x6), some (.int (x7 + 1)), o8, o9, none, o11, none]) c17_342 rfl (Nat.le_of_ble_eq_true rfl) rfl rfl ?_
  refine qe_goto (t := 12) c17_345 rfl ?_
  exact kk
theorem b17_348 {d : Nat} {h : qH} {r0 : Nat} {x1 : Int32} {x2 : Int32} {r3 : Nat} {x4 : Int32} {x5 : Int32} {x6 : Int32} {x7 : Int32} {o8 : Option Value} {o9 : Option Value} {o11 : Option Value}  (e1 : (x4 : Int32) = 0 ∨ (x4 : Int32) = 1) : qE d 17 348 [some (.ref r0), some (.int x1), some (.int x2), some (.ref r3), some (.int x4), some (.int x5), some (.int x6), some (.int x7), o8, o9, none, o11, none] [] h (some (.int x4), h) := by
  refine qe_iload c17_348 rfl ?_
  exact qe_zret c17_350 qr17 e1
theorem b18_0 {d : Nat} {h : qH} {r0 : Nat} {h1 : qH} {fs2 : List Value} {h2 : qH} {h3 : qH} {fs7 : List Value} {h4 : qH} {h5 : qH} {fs12 : List Value} {h6 : qH} {h7 : qH} {fs17 : List Value} {h8 : qH} {h9 : qH} {fs22 : List Value} {h10 : qH} {h11 : qH} {fs27 : List Value} {h12 : qH} (hd0 : 0 < d) (e1 : qnew h 160 (.inl (0, 160, .inl fun _ => 0)) = h1) (e3 : h1.2.2 r0 = some (.inr (10, fs2))) (e4 : 6 < fs2.length) (e5 : qset h1 r0 (.inr (10, fs2.set 6 (.ref h.1))) = h2) (e6 : qnew h2 320 (.inl (0, 320, .inl fun _ => 0)) = h3) (e8 : h3.2.2 r0 = some (.inr (10, fs7))) (e9 : 7 < fs7.length) (e10 : qset h3 r0 (.inr (10, fs7.set 7 (.ref h2.1))) = h4) (e11 : qnew h4 320 (.inl (0, 320, .inl fun _ => 0)) = h5) (e13 : h5.2.2 r0 = some (.inr (10, fs12))) (e14 : 8 < fs12.length) (e15 : qset h5 r0 (.inr (10, fs12.set 8 (.ref h4.1))) = h6) (e16 : qnew h6 12 (.inl (0, 12, .inl fun _ => 0)) = h7) (e18 : h7.2.2 r0 = some (.inr (10, fs17))) (e19 : 9 < fs17.length) (e20 : qset h7 r0 (.inr (10, fs17.set 9 (.ref h6.1))) = h8) (e21 : qnew h8 12 (.inl (1, 12, .inl fun _ => 0)) = h9) (e23 : h9.2.2 r0 = some (.inr (10, fs22))) (e24 : 10 < fs22.length) (e25 : qset h9 r0 (.inr (10, fs22.set 10 (.ref h8.1))) = h10) (e26 : qnew h10 32 (.inl (2, 32, .inr (.inl fun _ => 0))) = h11) (e28 : h11.2.2 r0 = some (.inr (10, fs27))) (e29 : 11 < fs27.length) (e30 : qset h11 r0 (.inr (10, fs27.set 11 (.ref h10.1))) = h12) : qE d 18 0 [some (.ref r0)] [] h (none, h12) := by
  refine qe_aload_n c18_0 rfl ?_
  refine qe_objinit c18_1 qo18 (by decide +kernel) (by decide) hd0 (Nat.le_of_ble_eq_true rfl) ?_
  refine qe_aload_n c18_4 rfl ?_
  refine qe_sipush (x := 160) c18_5 (by decide) ?_
  refine qe_new_int c18_8 (by decide) ?_
  rw [show Int32.toNatClampNeg 160 = 160 from by decide]
  rw [e1]
  refine qe_putfinal c18_10 qo18 qF10_11 (by decide +kernel) e3 e4 (by rw [qy10_6]; rfl) ?_
  rw [e5]
  refine qe_aload_n c18_13 rfl ?_
  refine qe_sipush (x := 320) c18_14 (by decide) ?_
  refine qe_new_int c18_17 (by decide) ?_
  rw [show Int32.toNatClampNeg 320 = 320 from by decide]
  rw [e6]
  refine qe_putfinal c18_19 qo18 qF10_15 (by decide +kernel) e8 e9 (by rw [qy10_7]; rfl) ?_
  rw [e10]
  refine qe_aload_n c18_22 rfl ?_
  refine qe_sipush (x := 320) c18_23 (by decide) ?_
  refine qe_new_int c18_26 (by decide) ?_
  rw [show Int32.toNatClampNeg 320 = 320 from by decide]
  rw [e11]
  refine qe_putfinal c18_28 qo18 qF10_18 (by decide +kernel) e13 e14 (by rw [qy10_8]; rfl) ?_
  rw [e15]
  refine qe_aload_n c18_31 rfl ?_
  refine qe_bipush (x := 12) c18_32 (by decide) ?_
  refine qe_new_int c18_34 (by decide) ?_
  rw [show Int32.toNatClampNeg 12 = 12 from by decide]
  rw [e16]
  refine qe_putfinal c18_36 qo18 qF10_21 (by decide +kernel) e18 e19 (by rw [qy10_9]; rfl) ?_
  rw [e20]
  refine qe_aload_n c18_39 rfl ?_
  refine qe_bipush (x := 12) c18_40 (by decide) ?_
  refine qe_new_boolean c18_42 (by decide) ?_
  rw [show Int32.toNatClampNeg 12 = 12 from by decide]
  rw [e21]
  refine qe_putfinal c18_44 qo18 qF10_24 (by decide +kernel) e23 e24 (by rw [qy10_10]; rfl) ?_
  rw [e25]
  refine qe_aload_n c18_47 rfl ?_
  refine qe_bipush (x := 32) c18_48 (by decide) ?_
  refine qe_new_long c18_50 (by decide) ?_
  rw [show Int32.toNatClampNeg 32 = 32 from by decide]
  rw [e26]
  refine qe_putfinal c18_52 qo18 qF10_28 (by decide +kernel) e28 e29 (by rw [qy10_11]; rfl) ?_
  rw [e30]
  exact qe_vret c18_55 qr18
theorem b19_0F {d : Nat} {q : Option Value × qH} {h : qH} {r0 : Nat} {x1 : Int32}  (e1 : ¬ ((x1 : Int32) < 6)) (kk : qE d 19 6 [some (.ref r0), some (.int x1)] [] h q): qE d 19 0 [some (.ref r0), some (.int x1)] [] h q := by
  refine qe_iload_n c19_0 rfl ?_
  refine qe_bipush (x := 6) c19_1 (by decide) ?_
  refine qe_icmp_lt_F (t := 24) c19_3 rfl e1 ?_
  exact kk
theorem b19_0T {d : Nat} {q : Option Value × qH} {h : qH} {r0 : Nat} {x1 : Int32}  (e1 : (x1 : Int32) < 6) (kk : qE d 19 24 [some (.ref r0), some (.int x1)] [] h q): qE d 19 0 [some (.ref r0), some (.int x1)] [] h q := by
  refine qe_iload_n c19_0 rfl ?_
  refine qe_bipush (x := 6) c19_1 (by decide) ?_
  refine qe_icmp_lt_T (t := 24) c19_3 rfl e1 ?_
  exact kk
theorem b19_6F {d : Nat} {q : Option Value × qH} {h : qH} {r0 : Nat} {x1 : Int32}  (e1 : ¬ ((x1 : Int32) < 9)) (kk : qE d 19 12 [some (.ref r0), some (.int x1)] [] h q): qE d 19 6 [some (.ref r0), some (.int x1)] [] h q := by
  refine qe_iload_n c19_6 rfl ?_
  refine qe_bipush (x := 9) c19_7 (by decide) ?_
  refine qe_icmp_lt_F (t := 16) c19_9 rfl e1 ?_
  exact kk
theorem b19_6T {d : Nat} {q : Option Value × qH} {h : qH} {r0 : Nat} {x1 : Int32}  (e1 : (x1 : Int32) < 9) (kk : qE d 19 16 [some (.ref r0), some (.int x1)] [] h q): qE d 19 6 [some (.ref r0), some (.int x1)] [] h q := by
  refine qe_iload_n c19_6 rfl ?_
  refine qe_bipush (x := 9) c19_7 (by decide) ?_
  refine qe_icmp_lt_T (t := 16) c19_9 rfl e1 ?_
  exact kk
theorem b19_12 {d : Nat} {q : Option Value × qH} {h : qH} {r0 : Nat} {x1 : Int32}   (kk : qE d 19 17 [some (.ref r0), some (.int x1)] [.int 1] h q): qE d 19 12 [some (.ref r0), some (.int x1)] [] h q := by
  refine qe_iconst (x := 1) c19_12 (by decide) ?_
  refine qe_goto (t := 17) c19_13 rfl ?_
  exact kk
theorem b19_16 {d : Nat} {q : Option Value × qH} {h : qH} {r0 : Nat} {x1 : Int32}   (kk : qE d 19 17 [some (.ref r0), some (.int x1)] [.int 0] h q): qE d 19 16 [some (.ref r0), some (.int x1)] [] h q := by
  refine qe_iconst (x := 0) c19_16 (by decide) ?_
  exact kk
theorem b19_17F {d : Nat} {q : Option Value × qH} {h : qH} {r0 : Nat} {x1 : Int32} {xs0 : Int32} {fs1 : List Value} {y3 : Int32}  (e2 : h.2.2 r0 = some (.inr (10, fs1))) (e4 : fs1[5]? = some (.int y3)) (e5 : (xs0 : Int32) = y3) (kk : qE d 19 24 [some (.ref r0), some (.int x1)] [] h q): qE d 19 17 [some (.ref r0), some (.int x1)] [.int xs0] h q := by
  refine qe_aload_n c19_17 rfl ?_
  refine qe_getfield c19_18 qo19 qF10_81 e2 e4 ?_
  refine qe_icmp_ne_F (t := 28) c19_21 rfl e5 ?_
  exact kk
theorem b19_17T {d : Nat} {q : Option Value × qH} {h : qH} {r0 : Nat} {x1 : Int32} {xs0 : Int32} {fs1 : List Value} {y3 : Int32}  (e2 : h.2.2 r0 = some (.inr (10, fs1))) (e4 : fs1[5]? = some (.int y3)) (e5 : ¬ ((xs0 : Int32) = y3)) (kk : qE d 19 28 [some (.ref r0), some (.int x1)] [] h q): qE d 19 17 [some (.ref r0), some (.int x1)] [.int xs0] h q := by
  refine qe_aload_n c19_17 rfl ?_
  refine qe_getfield c19_18 qo19 qF10_81 e2 e4 ?_
  refine qe_icmp_ne_T (t := 28) c19_21 rfl e5 ?_
  exact kk
theorem b19_24 {d : Nat} {q : Option Value × qH} {h : qH} {r0 : Nat} {x1 : Int32}   (kk : qE d 19 29 [some (.ref r0), some (.int x1)] [.int 1] h q): qE d 19 24 [some (.ref r0), some (.int x1)] [] h q := by
  refine qe_iconst (x := 1) c19_24 (by decide) ?_
  refine qe_goto (t := 29) c19_25 rfl ?_
  exact kk
theorem b19_28 {d : Nat} {q : Option Value × qH} {h : qH} {r0 : Nat} {x1 : Int32}   (kk : qE d 19 29 [some (.ref r0), some (.int x1)] [.int 0] h q): qE d 19 28 [some (.ref r0), some (.int x1)] [] h q := by
  refine qe_iconst (x := 0) c19_28 (by decide) ?_
  exact kk
theorem b19_29 {d : Nat} {h : qH} {r0 : Nat} {x1 : Int32} {xs0 : Int32}  (e1 : (xs0 : Int32) = 0 ∨ (xs0 : Int32) = 1) : qE d 19 29 [some (.ref r0), some (.int x1)] [.int xs0] h (some (.int xs0), h) := by
  exact qe_zret c19_29 qr19 e1
theorem b20_0F {d : Nat} {q : Option Value × qH} {h : qH} {x0 : Int32}  (e1 : ¬ ((x0 : Int32) < 48)) (kk : qE d 20 6 [some (.int x0)] [] h q): qE d 20 0 [some (.int x0)] [] h q := by
  refine qe_iload_n c20_0 rfl ?_
  refine qe_bipush (x := 48) c20_1 (by decide) ?_
  refine qe_icmp_lt_F (t := 16) c20_3 rfl e1 ?_
  exact kk
theorem b20_0T {d : Nat} {q : Option Value × qH} {h : qH} {x0 : Int32}  (e1 : (x0 : Int32) < 48) (kk : qE d 20 16 [some (.int x0)] [] h q): qE d 20 0 [some (.int x0)] [] h q := by
  refine qe_iload_n c20_0 rfl ?_
  refine qe_bipush (x := 48) c20_1 (by decide) ?_
  refine qe_icmp_lt_T (t := 16) c20_3 rfl e1 ?_
  exact kk
theorem b20_6F {d : Nat} {q : Option Value × qH} {h : qH} {x0 : Int32}  (e1 : ¬ ((57 : Int32) < x0)) (kk : qE d 20 12 [some (.int x0)] [] h q): qE d 20 6 [some (.int x0)] [] h q := by
  refine qe_iload_n c20_6 rfl ?_
  refine qe_bipush (x := 57) c20_7 (by decide) ?_
  refine qe_icmp_gt_F (t := 16) c20_9 rfl e1 ?_
  exact kk
theorem b20_6T {d : Nat} {q : Option Value × qH} {h : qH} {x0 : Int32}  (e1 : (57 : Int32) < x0) (kk : qE d 20 16 [some (.int x0)] [] h q): qE d 20 6 [some (.int x0)] [] h q := by
  refine qe_iload_n c20_6 rfl ?_
  refine qe_bipush (x := 57) c20_7 (by decide) ?_
  refine qe_icmp_gt_T (t := 16) c20_9 rfl e1 ?_
  exact kk
theorem b20_12 {d : Nat} {q : Option Value × qH} {h : qH} {x0 : Int32}   (kk : qE d 20 17 [some (.int x0)] [.int 1] h q): qE d 20 12 [some (.int x0)] [] h q := by
  refine qe_iconst (x := 1) c20_12 (by decide) ?_
  refine qe_goto (t := 17) c20_13 rfl ?_
  exact kk
theorem b20_16 {d : Nat} {q : Option Value × qH} {h : qH} {x0 : Int32}   (kk : qE d 20 17 [some (.int x0)] [.int 0] h q): qE d 20 16 [some (.int x0)] [] h q := by
  refine qe_iconst (x := 0) c20_16 (by decide) ?_
  exact kk
theorem b20_17 {d : Nat} {h : qH} {x0 : Int32} {xs0 : Int32}  (e1 : (xs0 : Int32) = 0 ∨ (xs0 : Int32) = 1) : qE d 20 17 [some (.int x0)] [.int xs0] h (some (.int xs0), h) := by
  exact qe_zret c20_17 qr20 e1
theorem b21_0 {d : Nat} {q : Option Value × qH} {h : qH} {r0 : Nat} {x1 : Int32} {x2 : Int32}   (kk : qE d 21 2 [some (.ref r0), some (.int x1), some (.int x2), some (.int x1)] [] h q): qE d 21 0 [some (.ref r0), some (.int x1), some (.int x2), none] [] h q := by
  refine qe_iload_n c21_0 rfl ?_
  refine qe_istore_n (ls2 := [some (.ref r0), some (.int x1), some (.int x2), some (.int x1)]) c21_1 (Nat.le_of_ble_eq_true rfl) rfl ?_
  exact kk
theorem b21_2F {d : Nat} {q : Option Value × qH} {h : qH} {r0 : Nat} {x1 : Int32} {x2 : Int32} {x3 : Int32} {fs1 : List Value} {y3 : Int32}  (e2 : h.2.2 r0 = some (.inr (10, fs1))) (e4 : fs1[2]? = some (.int y3)) (e5 : ¬ ((y3 : Int32) ≤ x3)) (kk : qE d 21 10 [some (.ref r0), some (.int x1), some (.int x2), some (.int x3)] [] h q): qE d 21 2 [some (.ref r0), some (.int x1), some (.int x2), some (.int x3)] [] h q := by
  refine qe_iload_n c21_2 rfl ?_
  refine qe_aload_n c21_3 rfl ?_
  refine qe_getfield c21_4 qo21 qF10_54 e2 e4 ?_
  refine qe_icmp_ge_F (t := 46) c21_7 rfl e5 ?_
  exact kk
theorem b21_2T {d : Nat} {q : Option Value × qH} {h : qH} {r0 : Nat} {x1 : Int32} {x2 : Int32} {x3 : Int32} {fs1 : List Value} {y3 : Int32}  (e2 : h.2.2 r0 = some (.inr (10, fs1))) (e4 : fs1[2]? = some (.int y3)) (e5 : (y3 : Int32) ≤ x3) (kk : qE d 21 46 [some (.ref r0), some (.int x1), some (.int x2), some (.int x3)] [] h q): qE d 21 2 [some (.ref r0), some (.int x1), some (.int x2), some (.int x3)] [] h q := by
  refine qe_iload_n c21_2 rfl ?_
  refine qe_aload_n c21_3 rfl ?_
  refine qe_getfield c21_4 qo21 qF10_54 e2 e4 ?_
  refine qe_icmp_ge_T (t := 46) c21_7 rfl e5 ?_
  exact kk
theorem b21_10F {d : Nat} {q : Option Value × qH} {h : qH} {r0 : Nat} {x1 : Int32} {x2 : Int32} {x3 : Int32} {fs1 : List Value} {y3 : Nat} {n5 : Nat} {f6 : Nat → Int32}  (e2 : h.2.2 r0 = some (.inr (10, fs1))) (e4 : fs1[7]? = some (.ref y3)) (e7 : h.2.2 y3 = some (.inl (0, n5, .inl f6))) (e8 : 0 ≤ (x3 : Int32).toInt ∧ (x3 : Int32).toInt < (n5 : Nat)) (e9 : ((f6 (x3 : Int32).toNatClampNeg) : Int32) = x2) (kk : qE d 21 20 [some (.ref r0), some (.int x1), some (.int x2), some (.int x3)] [] h q): qE d 21 10 [some (.ref r0), some (.int x1), some (.int x2), some (.int x3)] [] h q := by
  refine qe_aload_n c21_10 rfl ?_
  refine qe_getfield c21_11 qo21 qF10_15 e2 e4 ?_
  refine qe_iload_n c21_14 rfl ?_
  refine qe_iaload c21_15 e7 e8 ?_
  refine qe_iload_n c21_16 rfl ?_
  refine qe_icmp_ne_F (t := 40) c21_17 rfl e9 ?_
  exact kk
theorem b21_10T {d : Nat} {q : Option Value × qH} {h : qH} {r0 : Nat} {x1 : Int32} {x2 : Int32} {x3 : Int32} {fs1 : List Value} {y3 : Nat} {n5 : Nat} {f6 : Nat → Int32}  (e2 : h.2.2 r0 = some (.inr (10, fs1))) (e4 : fs1[7]? = some (.ref y3)) (e7 : h.2.2 y3 = some (.inl (0, n5, .inl f6))) (e8 : 0 ≤ (x3 : Int32).toInt ∧ (x3 : Int32).toInt < (n5 : Nat)) (e9 : ¬ (((f6 (x3 : Int32).toNatClampNeg) : Int32) = x2)) (kk : qE d 21 40 [some (.ref r0), some (.int x1), some (.int x2), some (.int x3)] [] h q): qE d 21 10 [some (.ref r0), some (.int x1), some (.int x2), some (.int x3)] [] h q := by
  refine qe_aload_n c21_10 rfl ?_
  refine qe_getfield c21_11 qo21 qF10_15 e2 e4 ?_
  refine qe_iload_n c21_14 rfl ?_
  refine qe_iaload c21_15 e7 e8 ?_
  refine qe_iload_n c21_16 rfl ?_
  refine qe_icmp_ne_T (t := 40) c21_17 rfl e9 ?_
  exact kk
theorem b21_20F {d : Nat} {q : Option Value × qH} {h : qH} {r0 : Nat} {x1 : Int32} {x2 : Int32} {x3 : Int32} {fs1 : List Value} {y3 : Nat} {n5 : Nat} {f6 : Nat → Int32}  (e2 : h.2.2 r0 = some (.inr (10, fs1))) (e4 : fs1[8]? = some (.ref y3)) (e7 : h.2.2 y3 = some (.inl (0, n5, .inl f6))) (e8 : 0 ≤ (x3 : Int32).toInt ∧ (x3 : Int32).toInt < (n5 : Nat)) (e9 : ((f6 (x3 : Int32).toNatClampNeg) : Int32) = (-1)) (kk : qE d 21 30 [some (.ref r0), some (.int x1), some (.int x2), some (.int x3)] [] h q): qE d 21 20 [some (.ref r0), some (.int x1), some (.int x2), some (.int x3)] [] h q := by
  refine qe_aload_n c21_20 rfl ?_
  refine qe_getfield c21_21 qo21 qF10_18 e2 e4 ?_
  refine qe_iload_n c21_24 rfl ?_
  refine qe_iaload c21_25 e7 e8 ?_
  refine qe_iconst (x := (-1)) c21_26 (by decide) ?_
  refine qe_icmp_ne_F (t := 40) c21_27 rfl e9 ?_
  exact kk
theorem b21_20T {d : Nat} {q : Option Value × qH} {h : qH} {r0 : Nat} {x1 : Int32} {x2 : Int32} {x3 : Int32} {fs1 : List Value} {y3 : Nat} {n5 : Nat} {f6 : Nat → Int32}  (e2 : h.2.2 r0 = some (.inr (10, fs1))) (e4 : fs1[8]? = some (.ref y3)) (e7 : h.2.2 y3 = some (.inl (0, n5, .inl f6))) (e8 : 0 ≤ (x3 : Int32).toInt ∧ (x3 : Int32).toInt < (n5 : Nat)) (e9 : ¬ (((f6 (x3 : Int32).toNatClampNeg) : Int32) = (-1))) (kk : qE d 21 40 [some (.ref r0), some (.int x1), some (.int x2), some (.int x3)] [] h q): qE d 21 20 [some (.ref r0), some (.int x1), some (.int x2), some (.int x3)] [] h q := by
  refine qe_aload_n c21_20 rfl ?_
  refine qe_getfield c21_21 qo21 qF10_18 e2 e4 ?_
  refine qe_iload_n c21_24 rfl ?_
  refine qe_iaload c21_25 e7 e8 ?_
  refine qe_iconst (x := (-1)) c21_26 (by decide) ?_
  refine qe_icmp_ne_T (t := 40) c21_27 rfl e9 ?_
  exact kk
theorem b21_30 {d : Nat} {q : Option Value × qH} {h : qH} {r0 : Nat} {x1 : Int32} {x2 : Int32} {x3 : Int32} {fs1 : List Value} {y3 : Nat} {y5 : Int32} {n7 : Nat} {f8 : Nat → Int32} {h1 : qH}  (e2 : h.2.2 r0 = some (.inr (10, fs1))) (e4 : fs1[8]? = some (.ref y3)) (e6 : fs1[2]? = some (.int y5)) (e9 : h.2.2 y3 = some (.inl (0, n7, .inl f8))) (e10 : 0 ≤ (x3 : Int32).toInt ∧ (x3 : Int32).toInt < (n7 : Nat)) (e11 : qset h y3 (.inl (0, n7, .inl (upd f8 ((x3 : Int32).toNatClampNeg) y5))) = h1) (kk : qE d 21 40 [some (.ref r0), some (.int x1), some (.int x2), some (.int x3)] [] h1 q): qE d 21 30 [some (.ref r0), some (.int x1), some (.int x2), some (.int x3)] [] h q := by
  refine qe_aload_n c21_30 rfl ?_
  refine qe_getfield c21_31 qo21 qF10_18 e2 e4 ?_
  refine qe_iload_n c21_34 rfl ?_
  refine qe_aload_n c21_35 rfl ?_
  refine qe_getfield c21_36 qo21 qF10_54 e2 e6 ?_
  refine qe_iastore c21_39 e9 e10 ?_
  rw [e11]
  exact kk
theorem b21_40 {d : Nat} {q : Option Value × qH} {h : qH} {r0 : Nat} {x1 : Int32} {x2 : Int32} {x3 : Int32}   (kk : qE d 21 2 [some (.ref r0), some (.int x1), some (.int x2), some (.int (x3 + 1))] [] h q): qE d 21 40 [some (.ref r0), some (.int x1), some (.int x2), some (.int x3)] [] h q := by
  refine qe_iinc (y := (x3 + 1)) (ls2 := [some (.ref r0), some (.int x1), some (.int x2), some (.int (x3 + 1))]) c21_40 rfl (Nat.le_of_ble_eq_true rfl) rfl rfl ?_
  refine qe_goto (t := 2) c21_43 rfl ?_
  exact kk
theorem b21_46 {d : Nat} {h : qH} {r0 : Nat} {x1 : Int32} {x2 : Int32} {x3 : Int32}   : qE d 21 46 [some (.ref r0), some (.int x1), some (.int x2), some (.int x3)] [] h (none, h) := by
  exact qe_vret c21_46 qr21
theorem b22_0 {d : Nat} {q : Option Value × qH} {h : qH} {r0 : Nat}   (kk : qE d 22 4 [some (.ref r0), some (.int 0), some (.int 0)] [] h q): qE d 22 0 [some (.ref r0), none, none] [] h q := by
  refine qe_iconst (x := 0) c22_0 (by decide) ?_
  refine qe_istore_n (ls2 := [some (.ref r0), some (.int 0), none]) c22_1 (Nat.le_of_ble_eq_true rfl) rfl ?_
  refine qe_iconst (x := 0) c22_2 (by decide) ?_
  refine qe_istore_n (ls2 := [some (.ref r0), some (.int 0), some (.int 0)]) c22_3 (Nat.le_of_ble_eq_true rfl) rfl ?_
  exact kk
theorem b22_4F {d : Nat} {q : Option Value × qH} {h : qH} {r0 : Nat} {x1 : Int32} {x2 : Int32}  (e1 : ¬ ((6 : Int32) ≤ x2)) (kk : qE d 22 10 [some (.ref r0), some (.int x1), some (.int x2)] [] h q): qE d 22 4 [some (.ref r0), some (.int x1), some (.int x2)] [] h q := by
  refine qe_iload_n c22_4 rfl ?_
  refine qe_bipush (x := 6) c22_5 (by decide) ?_
  refine qe_icmp_ge_F (t := 49) c22_7 rfl e1 ?_
  exact kk
theorem b22_4T {d : Nat} {q : Option Value × qH} {h : qH} {r0 : Nat} {x1 : Int32} {x2 : Int32}  (e1 : (6 : Int32) ≤ x2) (kk : qE d 22 49 [some (.ref r0), some (.int x1), some (.int x2)] [] h q): qE d 22 4 [some (.ref r0), some (.int x1), some (.int x2)] [] h q := by
  refine qe_iload_n c22_4 rfl ?_
  refine qe_bipush (x := 6) c22_5 (by decide) ?_
  refine qe_icmp_ge_T (t := 49) c22_7 rfl e1 ?_
  exact kk
theorem b22_10F {d : Nat} {q : Option Value × qH} {h : qH} {r0 : Nat} {x1 : Int32} {x2 : Int32} {fs1 : List Value} {h1 : qH} {z3 : Int32} {h2 : qH} {z5 : Int32}  (e2 : h.2.2 r0 = some (.inr (10, fs1))) (e4 : qCall d 23 [.ref r0] h ((some (.int z3)), h1)) (e6 : qCall d 20 [.int z3] h1 ((some (.int z5)), h2)) (e7 : ¬ ((z5 : Int32) = 0)) (kk : qE d 22 20 [some (.ref r0), some (.int x1), some (.int x2)] [] h2 q): qE d 22 10 [some (.ref r0), some (.int x1), some (.int x2)] [] h q := by
  refine qe_aload_n c22_10 rfl ?_
  refine qe_virtual (b := r0) (as := []) (r := []) (v := (some (.int z3))) (h2 := h1) c22_11 qo22 qK10_74 rfl rfl rfl (by rw [qo23]; exact e2) (Nat.le_of_ble_eq_true rfl) e4 ?_
  refine qe_static (as := [.int z3]) (r := []) (v := (some (.int z5))) (h2 := h2) c22_14 qo22 (by decide) qK10_101 rfl rfl rfl (Nat.le_of_ble_eq_true rfl) e6 ?_
  refine qe_if_eq_F (t := 49) c22_17 rfl e7 ?_
  exact kk
theorem b22_10T {d : Nat} {q : Option Value × qH} {h : qH} {r0 : Nat} {x1 : Int32} {x2 : Int32} {fs1 : List Value} {h1 : qH} {z3 : Int32} {h2 : qH} {z5 : Int32}  (e2 : h.2.2 r0 = some (.inr (10, fs1))) (e4 : qCall d 23 [.ref r0] h ((some (.int z3)), h1)) (e6 : qCall d 20 [.int z3] h1 ((some (.int z5)), h2)) (e7 : (z5 : Int32) = 0) (kk : qE d 22 49 [some (.ref r0), some (.int x1), some (.int x2)] [] h2 q): qE d 22 10 [some (.ref r0), some (.int x1), some (.int x2)] [] h q := by
  refine qe_aload_n c22_10 rfl ?_
  refine qe_virtual (b := r0) (as := []) (r := []) (v := (some (.int z3))) (h2 := h1) c22_11 qo22 qK10_74 rfl rfl rfl (by rw [qo23]; exact e2) (Nat.le_of_ble_eq_true rfl) e4 ?_
  refine qe_static (as := [.int z3]) (r := []) (v := (some (.int z5))) (h2 := h2) c22_14 qo22 (by decide) qK10_101 rfl rfl rfl (Nat.le_of_ble_eq_true rfl) e6 ?_
  refine qe_if_eq_T (t := 49) c22_17 rfl e7 ?_
  exact kk
theorem b22_20 {d : Nat} {q : Option Value × qH} {h : qH} {r0 : Nat} {x1 : Int32} {x2 : Int32} {fs1 : List Value} {h1 : qH} {z3 : Int32} {fs5 : List Value} {y7 : Int32} {h2 : qH}  (e2 : h.2.2 r0 = some (.inr (10, fs1))) (e4 : qCall d 23 [.ref r0] h ((some (.int z3)), h1)) (e6 : h1.2.2 r0 = some (.inr (10, fs5))) (e8 : fs5[3]? = some (.int y7)) (e9 : 3 < fs5.length) (e10 : qset h1 r0 (.inr (10, fs5.set 3 (.int (y7 + 1)))) = h2) (kk : qE d 22 4 [some (.ref r0), some (.int (((x1 * 10) + z3) - 48)), some (.int (x2 + 1))] [] h2 q): qE d 22 20 [some (.ref r0), some (.int x1), some (.int x2)] [] h q := by
  refine qe_iload_n c22_20 rfl ?_
  refine qe_bipush (x := 10) c22_21 (by decide) ?_
  refine qe_imul c22_23 ?_
  refine qe_aload_n c22_24 rfl ?_
  refine qe_virtual (b := r0) (as := []) (r := [.int (x1 * 10)]) (v := (some (.int z3))) (h2 := h1) c22_25 qo22 qK10_74 rfl rfl rfl (by rw [qo23]; exact e2) (Nat.le_of_ble_eq_true rfl) e4 ?_
  refine qe_iadd c22_28 ?_
  refine qe_bipush (x := 48) c22_29 (by decide) ?_
  refine qe_isub c22_31 ?_
  refine qe_istore_n (ls2 := [some (.ref r0), some (.int (((x1 * 10) + z3) - 48)), some (.int x2)]) c22_32 (Nat.le_of_ble_eq_true rfl) rfl ?_
  refine qe_aload_n c22_33 rfl ?_
  refine qe_dup c22_34 rfl ?_
  refine qe_getfield c22_35 qo22 qF10_57 e6 e8 ?_
  refine qe_iconst (x := 1) c22_38 (by decide) ?_
  refine qe_iadd c22_39 ?_
  refine qe_putfield c22_40 qo22 qF10_57 qz10_3 e6 e9 (by rw [qy10_3]; rfl) ?_
  rw [e10]
  refine qe_iinc (y := (x2 + 1)) (ls2 := [some (.ref r0), some (.int (((x1 * 10) + z3) - 48)), some (.int (x2 + 1))]) c22_43 rfl (Nat.le_of_ble_eq_true rfl) rfl rfl ?_
  refine qe_goto (t := 4) c22_46 rfl ?_
  exact kk
theorem b22_49F {d : Nat} {q : Option Value × qH} {h : qH} {r0 : Nat} {x1 : Int32} {x2 : Int32} {fs1 : List Value} {h1 : qH} {z3 : Int32} {h2 : qH} {z5 : Int32}  (e2 : h.2.2 r0 = some (.inr (10, fs1))) (e4 : qCall d 23 [.ref r0] h ((some (.int z3)), h1)) (e6 : qCall d 20 [.int z3] h1 ((some (.int z5)), h2)) (e7 : ¬ ((z5 : Int32) = 0)) (kk : qE d 22 59 [some (.ref r0), some (.int x1), some (.int x2)] [] h2 q): qE d 22 49 [some (.ref r0), some (.int x1), some (.int x2)] [] h q := by
  refine qe_aload_n c22_49 rfl ?_
  refine qe_virtual (b := r0) (as := []) (r := []) (v := (some (.int z3))) (h2 := h1) c22_50 qo22 qK10_74 rfl rfl rfl (by rw [qo23]; exact e2) (Nat.le_of_ble_eq_true rfl) e4 ?_
  refine qe_static (as := [.int z3]) (r := []) (v := (some (.int z5))) (h2 := h2) c22_53 qo22 (by decide) qK10_101 rfl rfl rfl (Nat.le_of_ble_eq_true rfl) e6 ?_
  refine qe_if_eq_F (t := 65) c22_56 rfl e7 ?_
  exact kk
theorem b22_49T {d : Nat} {q : Option Value × qH} {h : qH} {r0 : Nat} {x1 : Int32} {x2 : Int32} {fs1 : List Value} {h1 : qH} {z3 : Int32} {h2 : qH} {z5 : Int32}  (e2 : h.2.2 r0 = some (.inr (10, fs1))) (e4 : qCall d 23 [.ref r0] h ((some (.int z3)), h1)) (e6 : qCall d 20 [.int z3] h1 ((some (.int z5)), h2)) (e7 : (z5 : Int32) = 0) (kk : qE d 22 65 [some (.ref r0), some (.int x1), some (.int x2)] [] h2 q): qE d 22 49 [some (.ref r0), some (.int x1), some (.int x2)] [] h q := by
  refine qe_aload_n c22_49 rfl ?_
  refine qe_virtual (b := r0) (as := []) (r := []) (v := (some (.int z3))) (h2 := h1) c22_50 qo22 qK10_74 rfl rfl rfl (by rw [qo23]; exact e2) (Nat.le_of_ble_eq_true rfl) e4 ?_
  refine qe_static (as := [.int z3]) (r := []) (v := (some (.int z5))) (h2 := h2) c22_53 qo22 (by decide) qK10_101 rfl rfl rfl (Nat.le_of_ble_eq_true rfl) e6 ?_
  refine qe_if_eq_T (t := 65) c22_56 rfl e7 ?_
  exact kk
theorem b22_59 {d : Nat} {h : qH} {r0 : Nat} {x1 : Int32} {x2 : Int32} {fs1 : List Value} {h1 : qH} {z3 : Int32}  (e2 : h.2.2 r0 = some (.inr (10, fs1))) (e4 : qCall d 27 [.ref r0, .int 2] h ((some (.int z3)), h1)) (e5 : (z3 : Int32) = 0 ∨ (z3 : Int32) = 1) : qE d 22 59 [some (.ref r0), some (.int x1), some (.int x2)] [] h (some (.int z3), h1) := by
  refine qe_aload_n c22_59 rfl ?_
  refine qe_iconst (x := 2) c22_60 (by decide) ?_
  refine qe_virtual (b := r0) (as := [.int 2]) (r := []) (v := (some (.int z3))) (h2 := h1) c22_61 qo22 qK10_78 rfl rfl rfl (by rw [qo27]; exact e2) (Nat.le_of_ble_eq_true rfl) e4 ?_
  exact qe_zret c22_64 qr22 e5
theorem b22_65 {d : Nat} {h : qH} {r0 : Nat} {x1 : Int32} {x2 : Int32} {fs1 : List Value} {h1 : qH}  (e2 : h.2.2 r0 = some (.inr (10, fs1))) (e3 : qCall d 14 [.ref r0, .int 48, .int x1] h (none, h1)) : qE d 22 65 [some (.ref r0), some (.int x1), some (.int x2)] [] h (some (.int 1), h1) := by
  refine qe_aload_n c22_65 rfl ?_
  refine qe_bipush (x := 48) c22_66 (by decide) ?_
  refine qe_iload_n c22_68 rfl ?_
  refine qe_virtual (b := r0) (as := [.int 48, .int x1]) (r := []) (v := none) (h2 := h1) c22_69 qo22 qK10_88 rfl rfl rfl (by rw [qo14]; exact e2) (Nat.le_of_ble_eq_true rfl) e3 ?_
  refine qe_iconst (x := 1) c22_72 (by decide) ?_
  exact qe_zret c22_73 qr22 (by decide)
theorem b23_0F {d : Nat} {q : Option Value × qH} {h : qH} {r0 : Nat} {fs1 : List Value} {y3 : Int32}  (e2 : h.2.2 r0 = some (.inr (10, fs1))) (e4 : fs1[3]? = some (.int y3)) (e5 : ¬ ((y3 : Int32) < 0)) (kk : qE d 23 7 [some (.ref r0)] [] h q): qE d 23 0 [some (.ref r0)] [] h q := by
  refine qe_aload_n c23_0 rfl ?_
  refine qe_getfield c23_1 qo23 qF10_57 e2 e4 ?_
  refine qe_if_lt_F (t := 30) c23_4 rfl e5 ?_
  exact kk
theorem b23_0T {d : Nat} {q : Option Value × qH} {h : qH} {r0 : Nat} {fs1 : List Value} {y3 : Int32}  (e2 : h.2.2 r0 = some (.inr (10, fs1))) (e4 : fs1[3]? = some (.int y3)) (e5 : (y3 : Int32) < 0) (kk : qE d 23 30 [some (.ref r0)] [] h q): qE d 23 0 [some (.ref r0)] [] h q := by
  refine qe_aload_n c23_0 rfl ?_
  refine qe_getfield c23_1 qo23 qF10_57 e2 e4 ?_
  refine qe_if_lt_T (t := 30) c23_4 rfl e5 ?_
  exact kk
theorem b23_7F {d : Nat} {q : Option Value × qH} {h : qH} {r0 : Nat} {fs1 : List Value} {y3 : Int32} {y5 : Int32}  (e2 : h.2.2 r0 = some (.inr (10, fs1))) (e4 : fs1[3]? = some (.int y3)) (e6 : fs1[4]? = some (.int y5)) (e7 : ¬ ((y5 : Int32) ≤ y3)) (kk : qE d 23 18 [some (.ref r0)] [] h q): qE d 23 7 [some (.ref r0)] [] h q := by
  refine qe_aload_n c23_7 rfl ?_
  refine qe_getfield c23_8 qo23 qF10_57 e2 e4 ?_
  refine qe_aload_n c23_11 rfl ?_
  refine qe_getfield c23_12 qo23 qF10_38 e2 e6 ?_
  refine qe_icmp_ge_F (t := 30) c23_15 rfl e7 ?_
  exact kk
theorem b23_7T {d : Nat} {q : Option Value × qH} {h : qH} {r0 : Nat} {fs1 : List Value} {y3 : Int32} {y5 : Int32}  (e2 : h.2.2 r0 = some (.inr (10, fs1))) (e4 : fs1[3]? = some (.int y3)) (e6 : fs1[4]? = some (.int y5)) (e7 : (y5 : Int32) ≤ y3) (kk : qE d 23 30 [some (.ref r0)] [] h q): qE d 23 7 [some (.ref r0)] [] h q := by
  refine qe_aload_n c23_7 rfl ?_
  refine qe_getfield c23_8 qo23 qF10_57 e2 e4 ?_
  refine qe_aload_n c23_11 rfl ?_
  refine qe_getfield c23_12 qo23 qF10_38 e2 e6 ?_
  refine qe_icmp_ge_T (t := 30) c23_15 rfl e7 ?_
  exact kk
theorem b23_18 {d : Nat} {q : Option Value × qH} {h : qH} {r0 : Nat} {fs1 : List Value} {y3 : Nat} {y5 : Int32} {n7 : Nat} {f8 : Nat → Int32}  (e2 : h.2.2 r0 = some (.inr (10, fs1))) (e4 : fs1[6]? = some (.ref y3)) (e6 : fs1[3]? = some (.int y5)) (e9 : h.2.2 y3 = some (.inl (0, n7, .inl f8))) (e10 : 0 ≤ (y5 : Int32).toInt ∧ (y5 : Int32).toInt < (n7 : Nat)) (kk : qE d 23 31 [some (.ref r0)] [.int (f8 (y5 : Int32).toNatClampNeg)] h q): qE d 23 18 [some (.ref r0)] [] h q := by
  refine qe_aload_n c23_18 rfl ?_
  refine qe_getfield c23_19 qo23 qF10_11 e2 e4 ?_
  refine qe_aload_n c23_22 rfl ?_
  refine qe_getfield c23_23 qo23 qF10_57 e2 e6 ?_
  refine qe_iaload c23_26 e9 e10 ?_
  refine qe_goto (t := 31) c23_27 rfl ?_
  exact kk
theorem b23_30 {d : Nat} {q : Option Value × qH} {h : qH} {r0 : Nat}   (kk : qE d 23 31 [some (.ref r0)] [.int (-1)] h q): qE d 23 30 [some (.ref r0)] [] h q := by
  refine qe_iconst (x := (-1)) c23_30 (by decide) ?_
  exact kk
theorem b23_31 {d : Nat} {h : qH} {r0 : Nat} {xs0 : Int32}   : qE d 23 31 [some (.ref r0)] [.int xs0] h (some (.int xs0), h) := by
  exact qe_iret c23_31 qr23
theorem b24_0F {d : Nat} {q : Option Value × qH} {h : qH} {r0 : Nat} {x1 : Int32} {fs1 : List Value} {h1 : qH} {z3 : Int32}  (e2 : h.2.2 r0 = some (.inr (10, fs1))) (e4 : qCall d 23 [.ref r0] h ((some (.int z3)), h1)) (e5 : ¬ ((z3 : Int32) = 33)) (kk : qE d 24 11 [some (.ref r0), some (.int x1), some (.int z3), none] [] h1 q): qE d 24 0 [some (.ref r0), some (.int x1), none, none] [] h q := by
  refine qe_aload_n c24_0 rfl ?_
  refine qe_virtual (b := r0) (as := []) (r := []) (v := (some (.int z3))) (h2 := h1) c24_1 qo24 qK10_74 rfl rfl rfl (by rw [qo23]; exact e2) (Nat.le_of_ble_eq_true rfl) e4 ?_
  refine qe_istore_n (ls2 := [some (.ref r0), some (.int x1), some (.int z3), none]) c24_4 (Nat.le_of_ble_eq_true rfl) rfl ?_
  refine qe_iload_n c24_5 rfl ?_
  refine qe_bipush (x := 33) c24_6 (by decide) ?_
  refine qe_icmp_eq_F (t := 17) c24_8 rfl e5 ?_
  exact kk
theorem b24_0T {d : Nat} {q : Option Value × qH} {h : qH} {r0 : Nat} {x1 : Int32} {fs1 : List Value} {h1 : qH} {z3 : Int32}  (e2 : h.2.2 r0 = some (.inr (10, fs1))) (e4 : qCall d 23 [.ref r0] h ((some (.int z3)), h1)) (e5 : (z3 : Int32) = 33) (kk : qE d 24 17 [some (.ref r0), some (.int x1), some (.int z3), none] [] h1 q): qE d 24 0 [some (.ref r0), some (.int x1), none, none] [] h q := by
  refine qe_aload_n c24_0 rfl ?_
  refine qe_virtual (b := r0) (as := []) (r := []) (v := (some (.int z3))) (h2 := h1) c24_1 qo24 qK10_74 rfl rfl rfl (by rw [qo23]; exact e2) (Nat.le_of_ble_eq_true rfl) e4 ?_
  refine qe_istore_n (ls2 := [some (.ref r0), some (.int x1), some (.int z3), none]) c24_4 (Nat.le_of_ble_eq_true rfl) rfl ?_
  refine qe_iload_n c24_5 rfl ?_
  refine qe_bipush (x := 33) c24_6 (by decide) ?_
  refine qe_icmp_eq_T (t := 17) c24_8 rfl e5 ?_
  exact kk
theorem b24_11F {d : Nat} {q : Option Value × qH} {h : qH} {r0 : Nat} {x1 : Int32} {x2 : Int32}  (e1 : (x2 : Int32) = 40) (kk : qE d 24 17 [some (.ref r0), some (.int x1), some (.int x2), none] [] h q): qE d 24 11 [some (.ref r0), some (.int x1), some (.int x2), none] [] h q := by
  refine qe_iload_n c24_11 rfl ?_
  refine qe_bipush (x := 40) c24_12 (by decide) ?_
  refine qe_icmp_ne_F (t := 91) c24_14 rfl e1 ?_
  exact kk
theorem b24_11T {d : Nat} {q : Option Value × qH} {h : qH} {r0 : Nat} {x1 : Int32} {x2 : Int32}  (e1 : ¬ ((x2 : Int32) = 40)) (kk : qE d 24 91 [some (.ref r0), some (.int x1), some (.int x2), none] [] h q): qE d 24 11 [some (.ref r0), some (.int x1), some (.int x2), none] [] h q := by
  refine qe_iload_n c24_11 rfl ?_
  refine qe_bipush (x := 40) c24_12 (by decide) ?_
  refine qe_icmp_ne_T (t := 91) c24_14 rfl e1 ?_
  exact kk
theorem b24_17F {d : Nat} {q : Option Value × qH} {h : qH} {r0 : Nat} {x1 : Int32} {x2 : Int32}  (e1 : ¬ ((x1 : Int32) < 6)) (kk : qE d 24 23 [some (.ref r0), some (.int x1), some (.int x2), none] [] h q): qE d 24 17 [some (.ref r0), some (.int x1), some (.int x2), none] [] h q := by
  refine qe_iload_n c24_17 rfl ?_
  refine qe_bipush (x := 6) c24_18 (by decide) ?_
  refine qe_icmp_lt_F (t := 29) c24_20 rfl e1 ?_
  exact kk
theorem b24_17T {d : Nat} {q : Option Value × qH} {h : qH} {r0 : Nat} {x1 : Int32} {x2 : Int32}  (e1 : (x1 : Int32) < 6) (kk : qE d 24 29 [some (.ref r0), some (.int x1), some (.int x2), none] [] h q): qE d 24 17 [some (.ref r0), some (.int x1), some (.int x2), none] [] h q := by
  refine qe_iload_n c24_17 rfl ?_
  refine qe_bipush (x := 6) c24_18 (by decide) ?_
  refine qe_icmp_lt_T (t := 29) c24_20 rfl e1 ?_
  exact kk
theorem b24_23 {d : Nat} {h : qH} {r0 : Nat} {x1 : Int32} {x2 : Int32} {fs1 : List Value} {h1 : qH} {z3 : Int32}  (e2 : h.2.2 r0 = some (.inr (10, fs1))) (e4 : qCall d 27 [.ref r0, .int 5] h ((some (.int z3)), h1)) (e5 : (z3 : Int32) = 0 ∨ (z3 : Int32) = 1) : qE d 24 23 [some (.ref r0), some (.int x1), some (.int x2), none] [] h (some (.int z3), h1) := by
  refine qe_aload_n c24_23 rfl ?_
  refine qe_iconst (x := 5) c24_24 (by decide) ?_
  refine qe_virtual (b := r0) (as := [.int 5]) (r := []) (v := (some (.int z3))) (h2 := h1) c24_25 qo24 qK10_78 rfl rfl rfl (by rw [qo27]; exact e2) (Nat.le_of_ble_eq_true rfl) e4 ?_
  exact qe_zret c24_28 qr24 e5
theorem b24_29F {d : Nat} {q : Option Value × qH} {h : qH} {r0 : Nat} {x1 : Int32} {x2 : Int32} {fs1 : List Value} {y3 : Int32} {h1 : qH}  (e2 : h.2.2 r0 = some (.inr (10, fs1))) (e4 : fs1[3]? = some (.int y3)) (e5 : 3 < fs1.length) (e6 : qset h r0 (.inr (10, fs1.set 3 (.int (y3 + 1)))) = h1) (e7 : (x2 : Int32) = 40) (kk : qE d 24 45 [some (.ref r0), some (.int x1), some (.int x2), none] [] h1 q): qE d 24 29 [some (.ref r0), some (.int x1), some (.int x2), none] [] h q := by
  refine qe_aload_n c24_29 rfl ?_
  refine qe_dup c24_30 rfl ?_
  refine qe_getfield c24_31 qo24 qF10_57 e2 e4 ?_
  refine qe_iconst (x := 1) c24_34 (by decide) ?_
  refine qe_iadd c24_35 ?_
  refine qe_putfield c24_36 qo24 qF10_57 qz10_3 e2 e5 (by rw [qy10_3]; rfl) ?_
  rw [e6]
  refine qe_iload_n c24_39 rfl ?_
  refine qe_bipush (x := 40) c24_40 (by decide) ?_
  refine qe_icmp_ne_F (t := 70) c24_42 rfl e7 ?_
  exact kk
theorem b24_29T {d : Nat} {q : Option Value × qH} {h : qH} {r0 : Nat} {x1 : Int32} {x2 : Int32} {fs1 : List Value} {y3 : Int32} {h1 : qH}  (e2 : h.2.2 r0 = some (.inr (10, fs1))) (e4 : fs1[3]? = some (.int y3)) (e5 : 3 < fs1.length) (e6 : qset h r0 (.inr (10, fs1.set 3 (.int (y3 + 1)))) = h1) (e7 : ¬ ((x2 : Int32) = 40)) (kk : qE d 24 70 [some (.ref r0), some (.int x1), some (.int x2), none] [] h1 q): qE d 24 29 [some (.ref r0), some (.int x1), some (.int x2), none] [] h q := by
  refine qe_aload_n c24_29 rfl ?_
  refine qe_dup c24_30 rfl ?_
  refine qe_getfield c24_31 qo24 qF10_57 e2 e4 ?_
  refine qe_iconst (x := 1) c24_34 (by decide) ?_
  refine qe_iadd c24_35 ?_
  refine qe_putfield c24_36 qo24 qF10_57 qz10_3 e2 e5 (by rw [qy10_3]; rfl) ?_
  rw [e6]
  refine qe_iload_n c24_39 rfl ?_
  refine qe_bipush (x := 40) c24_40 (by decide) ?_
  refine qe_icmp_ne_T (t := 70) c24_42 rfl e7 ?_
  exact kk
theorem b24_45F {d : Nat} {q : Option Value × qH} {h : qH} {r0 : Nat} {x1 : Int32} {x2 : Int32} {fs1 : List Value} {h1 : qH} {z3 : Int32}  (e2 : h.2.2 r0 = some (.inr (10, fs1))) (e4 : qCall d 13 [.ref r0, .int (x1 + 1)] h ((some (.int z3)), h1)) (e5 : ¬ ((z3 : Int32) = 0)) (kk : qE d 24 55 [some (.ref r0), some (.int x1), some (.int x2), none] [] h1 q): qE d 24 45 [some (.ref r0), some (.int x1), some (.int x2), none] [] h q := by
  refine qe_aload_n c24_45 rfl ?_
  refine qe_iload_n c24_46 rfl ?_
  refine qe_iconst (x := 1) c24_47 (by decide) ?_
  refine qe_iadd c24_48 ?_
  refine qe_virtual (b := r0) (as := [.int (x1 + 1)]) (r := []) (v := (some (.int z3))) (h2 := h1) c24_49 qo24 qK10_68 rfl rfl rfl (by rw [qo13]; exact e2) (Nat.le_of_ble_eq_true rfl) e4 ?_
  refine qe_if_eq_F (t := 68) c24_52 rfl e5 ?_
  exact kk
theorem b24_45T {d : Nat} {q : Option Value × qH} {h : qH} {r0 : Nat} {x1 : Int32} {x2 : Int32} {fs1 : List Value} {h1 : qH} {z3 : Int32}  (e2 : h.2.2 r0 = some (.inr (10, fs1))) (e4 : qCall d 13 [.ref r0, .int (x1 + 1)] h ((some (.int z3)), h1)) (e5 : (z3 : Int32) = 0) (kk : qE d 24 68 [some (.ref r0), some (.int x1), some (.int x2), none] [] h1 q): qE d 24 45 [some (.ref r0), some (.int x1), some (.int x2), none] [] h q := by
  refine qe_aload_n c24_45 rfl ?_
  refine qe_iload_n c24_46 rfl ?_
  refine qe_iconst (x := 1) c24_47 (by decide) ?_
  refine qe_iadd c24_48 ?_
  refine qe_virtual (b := r0) (as := [.int (x1 + 1)]) (r := []) (v := (some (.int z3))) (h2 := h1) c24_49 qo24 qK10_68 rfl rfl rfl (by rw [qo13]; exact e2) (Nat.le_of_ble_eq_true rfl) e4 ?_
  refine qe_if_eq_T (t := 68) c24_52 rfl e5 ?_
  exact kk
theorem b24_55F {d : Nat} {q : Option Value × qH} {h : qH} {r0 : Nat} {x1 : Int32} {x2 : Int32} {fs1 : List Value} {h1 : qH} {z3 : Int32}  (e2 : h.2.2 r0 = some (.inr (10, fs1))) (e4 : qCall d 29 [.ref r0, .int 41] h ((some (.int z3)), h1)) (e5 : ¬ ((z3 : Int32) = 0)) (kk : qE d 24 64 [some (.ref r0), some (.int x1), some (.int x2), none] [] h1 q): qE d 24 55 [some (.ref r0), some (.int x1), some (.int x2), none] [] h q := by
  refine qe_aload_n c24_55 rfl ?_
  refine qe_bipush (x := 41) c24_56 (by decide) ?_
  refine qe_virtual (b := r0) (as := [.int 41]) (r := []) (v := (some (.int z3))) (h2 := h1) c24_58 qo24 qK10_64 rfl rfl rfl (by rw [qo29]; exact e2) (Nat.le_of_ble_eq_true rfl) e4 ?_
  refine qe_if_eq_F (t := 68) c24_61 rfl e5 ?_
  exact kk
theorem b24_55T {d : Nat} {q : Option Value × qH} {h : qH} {r0 : Nat} {x1 : Int32} {x2 : Int32} {fs1 : List Value} {h1 : qH} {z3 : Int32}  (e2 : h.2.2 r0 = some (.inr (10, fs1))) (e4 : qCall d 29 [.ref r0, .int 41] h ((some (.int z3)), h1)) (e5 : (z3 : Int32) = 0) (kk : qE d 24 68 [some (.ref r0), some (.int x1), some (.int x2), none] [] h1 q): qE d 24 55 [some (.ref r0), some (.int x1), some (.int x2), none] [] h q := by
  refine qe_aload_n c24_55 rfl ?_
  refine qe_bipush (x := 41) c24_56 (by decide) ?_
  refine qe_virtual (b := r0) (as := [.int 41]) (r := []) (v := (some (.int z3))) (h2 := h1) c24_58 qo24 qK10_64 rfl rfl rfl (by rw [qo29]; exact e2) (Nat.le_of_ble_eq_true rfl) e4 ?_
  refine qe_if_eq_T (t := 68) c24_61 rfl e5 ?_
  exact kk
theorem b24_64 {d : Nat} {q : Option Value × qH} {h : qH} {r0 : Nat} {x1 : Int32} {x2 : Int32}   (kk : qE d 24 69 [some (.ref r0), some (.int x1), some (.int x2), none] [.int 1] h q): qE d 24 64 [some (.ref r0), some (.int x1), some (.int x2), none] [] h q := by
  refine qe_iconst (x := 1) c24_64 (by decide) ?_
  refine qe_goto (t := 69) c24_65 rfl ?_
  exact kk
theorem b24_68 {d : Nat} {q : Option Value × qH} {h : qH} {r0 : Nat} {x1 : Int32} {x2 : Int32}   (kk : qE d 24 69 [some (.ref r0), some (.int x1), some (.int x2), none] [.int 0] h q): qE d 24 68 [some (.ref r0), some (.int x1), some (.int x2), none] [] h q := by
  refine qe_iconst (x := 0) c24_68 (by decide) ?_
  exact kk
theorem b24_69 {d : Nat} {h : qH} {r0 : Nat} {x1 : Int32} {x2 : Int32} {xs0 : Int32}  (e1 : (xs0 : Int32) = 0 ∨ (xs0 : Int32) = 1) : qE d 24 69 [some (.ref r0), some (.int x1), some (.int x2), none] [.int xs0] h (some (.int xs0), h) := by
  exact qe_zret c24_69 qr24 e1
theorem b24_70F {d : Nat} {q : Option Value × qH} {h : qH} {r0 : Nat} {x1 : Int32} {x2 : Int32} {fs1 : List Value} {h1 : qH} {z3 : Int32}  (e2 : h.2.2 r0 = some (.inr (10, fs1))) (e4 : qCall d 24 [.ref r0, .int (x1 + 1)] h ((some (.int z3)), h1)) (e5 : (z3 : Int32) = 0) (kk : qE d 24 80 [some (.ref r0), some (.int x1), some (.int x2), none] [] h1 q): qE d 24 70 [some (.ref r0), some (.int x1), some (.int x2), none] [] h q := by
  refine qe_aload_n c24_70 rfl ?_
  refine qe_iload_n c24_71 rfl ?_
  refine qe_iconst (x := 1) c24_72 (by decide) ?_
  refine qe_iadd c24_73 ?_
  refine qe_virtual (b := r0) (as := [.int (x1 + 1)]) (r := []) (v := (some (.int z3))) (h2 := h1) c24_74 qo24 qK10_85 rfl rfl rfl (by rw [qo24]; exact e2) (Nat.le_of_ble_eq_true rfl) e4 ?_
  refine qe_if_ne_F (t := 82) c24_77 rfl e5 ?_
  exact kk
theorem b24_70T {d : Nat} {q : Option Value × qH} {h : qH} {r0 : Nat} {x1 : Int32} {x2 : Int32} {fs1 : List Value} {h1 : qH} {z3 : Int32}  (e2 : h.2.2 r0 = some (.inr (10, fs1))) (e4 : qCall d 24 [.ref r0, .int (x1 + 1)] h ((some (.int z3)), h1)) (e5 : ¬ ((z3 : Int32) = 0)) (kk : qE d 24 82 [some (.ref r0), some (.int x1), some (.int x2), none] [] h1 q): qE d 24 70 [some (.ref r0), some (.int x1), some (.int x2), none] [] h q := by
  refine qe_aload_n c24_70 rfl ?_
  refine qe_iload_n c24_71 rfl ?_
  refine qe_iconst (x := 1) c24_72 (by decide) ?_
  refine qe_iadd c24_73 ?_
  refine qe_virtual (b := r0) (as := [.int (x1 + 1)]) (r := []) (v := (some (.int z3))) (h2 := h1) c24_74 qo24 qK10_85 rfl rfl rfl (by rw [qo24]; exact e2) (Nat.le_of_ble_eq_true rfl) e4 ?_
  refine qe_if_ne_T (t := 82) c24_77 rfl e5 ?_
  exact kk
theorem b24_80 {d : Nat} {h : qH} {r0 : Nat} {x1 : Int32} {x2 : Int32}   : qE d 24 80 [some (.ref r0), some (.int x1), some (.int x2), none] [] h (some (.int 0), h) := by
  refine qe_iconst (x := 0) c24_80 (by decide) ?_
  exact qe_zret c24_81 qr24 (by decide)
theorem b24_82 {d : Nat} {h : qH} {r0 : Nat} {x1 : Int32} {x2 : Int32} {fs1 : List Value} {h1 : qH}  (e2 : h.2.2 r0 = some (.inr (10, fs1))) (e3 : qCall d 14 [.ref r0, .int 33, .int 0] h (none, h1)) : qE d 24 82 [some (.ref r0), some (.int x1), some (.int x2), none] [] h (some (.int 1), h1) := by
  refine qe_aload_n c24_82 rfl ?_
  refine qe_bipush (x := 33) c24_83 (by decide) ?_
  refine qe_iconst (x := 0) c24_85 (by decide) ?_
  refine qe_virtual (b := r0) (as := [.int 33, .int 0]) (r := []) (v := none) (h2 := h1) c24_86 qo24 qK10_88 rfl rfl rfl (by rw [qo14]; exact e2) (Nat.le_of_ble_eq_true rfl) e3 ?_
  refine qe_iconst (x := 1) c24_89 (by decide) ?_
  exact qe_zret c24_90 qr24 (by decide)
theorem b24_91F {d : Nat} {q : Option Value × qH} {h : qH} {r0 : Nat} {x1 : Int32} {x2 : Int32} {fs1 : List Value} {h1 : qH} {z3 : Int32}  (e2 : h.2.2 r0 = some (.inr (10, fs1))) (e4 : qCall d 28 [.ref r0, .int x1] h ((some (.int z3)), h1)) (e5 : (z3 : Int32) = 0) (kk : qE d 24 99 [some (.ref r0), some (.int x1), some (.int x2), none] [] h1 q): qE d 24 91 [some (.ref r0), some (.int x1), some (.int x2), none] [] h q := by
  refine qe_aload_n c24_91 rfl ?_
  refine qe_iload_n c24_92 rfl ?_
  refine qe_virtual (b := r0) (as := [.int x1]) (r := []) (v := (some (.int z3))) (h2 := h1) c24_93 qo24 qK10_95 rfl rfl rfl (by rw [qo28]; exact e2) (Nat.le_of_ble_eq_true rfl) e4 ?_
  refine qe_if_ne_F (t := 101) c24_96 rfl e5 ?_
  exact kk
theorem b24_91T {d : Nat} {q : Option Value × qH} {h : qH} {r0 : Nat} {x1 : Int32} {x2 : Int32} {fs1 : List Value} {h1 : qH} {z3 : Int32}  (e2 : h.2.2 r0 = some (.inr (10, fs1))) (e4 : qCall d 28 [.ref r0, .int x1] h ((some (.int z3)), h1)) (e5 : ¬ ((z3 : Int32) = 0)) (kk : qE d 24 101 [some (.ref r0), some (.int x1), some (.int x2), none] [] h1 q): qE d 24 91 [some (.ref r0), some (.int x1), some (.int x2), none] [] h q := by
  refine qe_aload_n c24_91 rfl ?_
  refine qe_iload_n c24_92 rfl ?_
  refine qe_virtual (b := r0) (as := [.int x1]) (r := []) (v := (some (.int z3))) (h2 := h1) c24_93 qo24 qK10_95 rfl rfl rfl (by rw [qo28]; exact e2) (Nat.le_of_ble_eq_true rfl) e4 ?_
  refine qe_if_ne_T (t := 101) c24_96 rfl e5 ?_
  exact kk
theorem b24_99 {d : Nat} {h : qH} {r0 : Nat} {x1 : Int32} {x2 : Int32}   : qE d 24 99 [some (.ref r0), some (.int x1), some (.int x2), none] [] h (some (.int 0), h) := by
  refine qe_iconst (x := 0) c24_99 (by decide) ?_
  exact qe_zret c24_100 qr24 (by decide)
theorem b24_101F {d : Nat} {q : Option Value × qH} {h : qH} {r0 : Nat} {x1 : Int32} {x2 : Int32} {fs1 : List Value} {h1 : qH} {z3 : Int32}  (e2 : h.2.2 r0 = some (.inr (10, fs1))) (e4 : qCall d 23 [.ref r0] h ((some (.int z3)), h1)) (e5 : ¬ ((z3 : Int32) = 60)) (kk : qE d 24 112 [some (.ref r0), some (.int x1), some (.int x2), some (.int z3)] [] h1 q): qE d 24 101 [some (.ref r0), some (.int x1), some (.int x2), none] [] h q := by
  refine qe_aload_n c24_101 rfl ?_
  refine qe_virtual (b := r0) (as := []) (r := []) (v := (some (.int z3))) (h2 := h1) c24_102 qo24 qK10_74 rfl rfl rfl (by rw [qo23]; exact e2) (Nat.le_of_ble_eq_true rfl) e4 ?_
  refine qe_istore_n (ls2 := [some (.ref r0), some (.int x1), some (.int x2), some (.int z3)]) c24_105 (Nat.le_of_ble_eq_true rfl) rfl ?_
  refine qe_iload_n c24_106 rfl ?_
  refine qe_bipush (x := 60) c24_107 (by decide) ?_
  refine qe_icmp_eq_F (t := 130) c24_109 rfl e5 ?_
  exact kk
theorem b24_101T {d : Nat} {q : Option Value × qH} {h : qH} {r0 : Nat} {x1 : Int32} {x2 : Int32} {fs1 : List Value} {h1 : qH} {z3 : Int32}  (e2 : h.2.2 r0 = some (.inr (10, fs1))) (e4 : qCall d 23 [.ref r0] h ((some (.int z3)), h1)) (e5 : (z3 : Int32) = 60) (kk : qE d 24 130 [some (.ref r0), some (.int x1), some (.int x2), some (.int z3)] [] h1 q): qE d 24 101 [some (.ref r0), some (.int x1), some (.int x2), none] [] h q := by
  refine qe_aload_n c24_101 rfl ?_
  refine qe_virtual (b := r0) (as := []) (r := []) (v := (some (.int z3))) (h2 := h1) c24_102 qo24 qK10_74 rfl rfl rfl (by rw [qo23]; exact e2) (Nat.le_of_ble_eq_true rfl) e4 ?_
  refine qe_istore_n (ls2 := [some (.ref r0), some (.int x1), some (.int x2), some (.int z3)]) c24_105 (Nat.le_of_ble_eq_true rfl) rfl ?_
  refine qe_iload_n c24_106 rfl ?_
  refine qe_bipush (x := 60) c24_107 (by decide) ?_
  refine qe_icmp_eq_T (t := 130) c24_109 rfl e5 ?_
  exact kk
theorem b24_112F {d : Nat} {q : Option Value × qH} {h : qH} {r0 : Nat} {x1 : Int32} {x2 : Int32} {x3 : Int32}  (e1 : ¬ ((x3 : Int32) = 62)) (kk : qE d 24 118 [some (.ref r0), some (.int x1), some (.int x2), some (.int x3)] [] h q): qE d 24 112 [some (.ref r0), some (.int x1), some (.int x2), some (.int x3)] [] h q := by
  refine qe_iload_n c24_112 rfl ?_
  refine qe_bipush (x := 62) c24_113 (by decide) ?_
  refine qe_icmp_eq_F (t := 130) c24_115 rfl e1 ?_
  exact kk
theorem b24_112T {d : Nat} {q : Option Value × qH} {h : qH} {r0 : Nat} {x1 : Int32} {x2 : Int32} {x3 : Int32}  (e1 : (x3 : Int32) = 62) (kk : qE d 24 130 [some (.ref r0), some (.int x1), some (.int x2), some (.int x3)] [] h q): qE d 24 112 [some (.ref r0), some (.int x1), some (.int x2), some (.int x3)] [] h q := by
  refine qe_iload_n c24_112 rfl ?_
  refine qe_bipush (x := 62) c24_113 (by decide) ?_
  refine qe_icmp_eq_T (t := 130) c24_115 rfl e1 ?_
  exact kk
theorem b24_118F {d : Nat} {q : Option Value × qH} {h : qH} {r0 : Nat} {x1 : Int32} {x2 : Int32} {x3 : Int32}  (e1 : ¬ ((x3 : Int32) = 61)) (kk : qE d 24 124 [some (.ref r0), some (.int x1), some (.int x2), some (.int x3)] [] h q): qE d 24 118 [some (.ref r0), some (.int x1), some (.int x2), some (.int x3)] [] h q := by
  refine qe_iload_n c24_118 rfl ?_
  refine qe_bipush (x := 61) c24_119 (by decide) ?_
  refine qe_icmp_eq_F (t := 130) c24_121 rfl e1 ?_
  exact kk
theorem b24_118T {d : Nat} {q : Option Value × qH} {h : qH} {r0 : Nat} {x1 : Int32} {x2 : Int32} {x3 : Int32}  (e1 : (x3 : Int32) = 61) (kk : qE d 24 130 [some (.ref r0), some (.int x1), some (.int x2), some (.int x3)] [] h q): qE d 24 118 [some (.ref r0), some (.int x1), some (.int x2), some (.int x3)] [] h q := by
  refine qe_iload_n c24_118 rfl ?_
  refine qe_bipush (x := 61) c24_119 (by decide) ?_
  refine qe_icmp_eq_T (t := 130) c24_121 rfl e1 ?_
  exact kk
theorem b24_124 {d : Nat} {h : qH} {r0 : Nat} {x1 : Int32} {x2 : Int32} {x3 : Int32} {fs1 : List Value} {h1 : qH} {z3 : Int32}  (e2 : h.2.2 r0 = some (.inr (10, fs1))) (e4 : qCall d 27 [.ref r0, .int 1] h ((some (.int z3)), h1)) (e5 : (z3 : Int32) = 0 ∨ (z3 : Int32) = 1) : qE d 24 124 [some (.ref r0), some (.int x1), some (.int x2), some (.int x3)] [] h (some (.int z3), h1) := by
  refine qe_aload_n c24_124 rfl ?_
  refine qe_iconst (x := 1) c24_125 (by decide) ?_
  refine qe_virtual (b := r0) (as := [.int 1]) (r := []) (v := (some (.int z3))) (h2 := h1) c24_126 qo24 qK10_78 rfl rfl rfl (by rw [qo27]; exact e2) (Nat.le_of_ble_eq_true rfl) e4 ?_
  exact qe_zret c24_129 qr24 e5
theorem b24_130F {d : Nat} {q : Option Value × qH} {h : qH} {r0 : Nat} {x1 : Int32} {x2 : Int32} {x3 : Int32} {fs1 : List Value} {y3 : Int32} {h1 : qH} {fs7 : List Value} {h2 : qH} {z9 : Int32}  (e2 : h.2.2 r0 = some (.inr (10, fs1))) (e4 : fs1[3]? = some (.int y3)) (e5 : 3 < fs1.length) (e6 : qset h r0 (.inr (10, fs1.set 3 (.int (y3 + 1)))) = h1) (e8 : h1.2.2 r0 = some (.inr (10, fs7))) (e10 : qCall d 28 [.ref r0, .int x1] h1 ((some (.int z9)), h2)) (e11 : (z9 : Int32) = 0) (kk : qE d 24 148 [some (.ref r0), some (.int x1), some (.int x2), some (.int x3)] [] h2 q): qE d 24 130 [some (.ref r0), some (.int x1), some (.int x2), some (.int x3)] [] h q := by
  refine qe_aload_n c24_130 rfl ?_
  refine qe_dup c24_131 rfl ?_
  refine qe_getfield c24_132 qo24 qF10_57 e2 e4 ?_
  refine qe_iconst (x := 1) c24_135 (by decide) ?_
  refine qe_iadd c24_136 ?_
  refine qe_putfield c24_137 qo24 qF10_57 qz10_3 e2 e5 (by rw [qy10_3]; rfl) ?_
  rw [e6]
  refine qe_aload_n c24_140 rfl ?_
  refine qe_iload_n c24_141 rfl ?_
  refine qe_virtual (b := r0) (as := [.int x1]) (r := []) (v := (some (.int z9))) (h2 := h2) c24_142 qo24 qK10_95 rfl rfl rfl (by rw [qo28]; exact e8) (Nat.le_of_ble_eq_true rfl) e10 ?_
  refine qe_if_ne_F (t := 150) c24_145 rfl e11 ?_
  exact kk
theorem b24_130T {d : Nat} {q : Option Value × qH} {h : qH} {r0 : Nat} {x1 : Int32} {x2 : Int32} {x3 : Int32} {fs1 : List Value} {y3 : Int32} {h1 : qH} {fs7 : List Value} {h2 : qH} {z9 : Int32}  (e2 : h.2.2 r0 = some (.inr (10, fs1))) (e4 : fs1[3]? = some (.int y3)) (e5 : 3 < fs1.length) (e6 : qset h r0 (.inr (10, fs1.set 3 (.int (y3 + 1)))) = h1) (e8 : h1.2.2 r0 = some (.inr (10, fs7))) (e10 : qCall d 28 [.ref r0, .int x1] h1 ((some (.int z9)), h2)) (e11 : ¬ ((z9 : Int32) = 0)) (kk : qE d 24 150 [some (.ref r0), some (.int x1), some (.int x2), some (.int x3)] [] h2 q): qE d 24 130 [some (.ref r0), some (.int x1), some (.int x2), some (.int x3)] [] h q := by
  refine qe_aload_n c24_130 rfl ?_
  refine qe_dup c24_131 rfl ?_
  refine qe_getfield c24_132 qo24 qF10_57 e2 e4 ?_
  refine qe_iconst (x := 1) c24_135 (by decide) ?_
  refine qe_iadd c24_136 ?_
  refine qe_putfield c24_137 qo24 qF10_57 qz10_3 e2 e5 (by rw [qy10_3]; rfl) ?_
  rw [e6]
  refine qe_aload_n c24_140 rfl ?_
  refine qe_iload_n c24_141 rfl ?_
  refine qe_virtual (b := r0) (as := [.int x1]) (r := []) (v := (some (.int z9))) (h2 := h2) c24_142 qo24 qK10_95 rfl rfl rfl (by rw [qo28]; exact e8) (Nat.le_of_ble_eq_true rfl) e10 ?_
  refine qe_if_ne_T (t := 150) c24_145 rfl e11 ?_
  exact kk
theorem b24_148 {d : Nat} {h : qH} {r0 : Nat} {x1 : Int32} {x2 : Int32} {x3 : Int32}   : qE d 24 148 [some (.ref r0), some (.int x1), some (.int x2), some (.int x3)] [] h (some (.int 0), h) := by
  refine qe_iconst (x := 0) c24_148 (by decide) ?_
  exact qe_zret c24_149 qr24 (by decide)
theorem b24_150 {d : Nat} {h : qH} {r0 : Nat} {x1 : Int32} {x2 : Int32} {x3 : Int32} {fs1 : List Value} {h1 : qH}  (e2 : h.2.2 r0 = some (.inr (10, fs1))) (e3 : qCall d 14 [.ref r0, .int x3, .int 0] h (none, h1)) : qE d 24 150 [some (.ref r0), some (.int x1), some (.int x2), some (.int x3)] [] h (some (.int 1), h1) := by
  refine qe_aload_n c24_150 rfl ?_
  refine qe_iload_n c24_151 rfl ?_
  refine qe_iconst (x := 0) c24_152 (by decide) ?_
  refine qe_virtual (b := r0) (as := [.int x3, .int 0]) (r := []) (v := none) (h2 := h1) c24_153 qo24 qK10_88 rfl rfl rfl (by rw [qo14]; exact e2) (Nat.le_of_ble_eq_true rfl) e3 ?_
  refine qe_iconst (x := 1) c24_156 (by decide) ?_
  exact qe_zret c24_157 qr24 (by decide)
theorem b25_0 {d : Nat} {q : Option Value × qH} {h : qH} {r0 : Nat} {r1 : Nat} {x2 : Int32} {n1 : Nat} {f2 : Nat → Int32} {h1 : qH} {z4 : Int32} {h2 : qH} {z6 : Int32} {fs8 : List Value} {h3 : qH} {fs12 : List Value} {y14 : Nat} {y16 : Int32} {n18 : Nat} {f19 : Nat → Int32} {n21 : Nat} {f22 : Nat → Int32} {h4 : qH} {fs26 : List Value} {h5 : qH} {fs30 : List Value} {h6 : qH} {fs34 : List Value} {h7 : qH} {fs38 : List Value} {h8 : qH} (hd0 : 0 < d) (e3 : h.2.2 r1 = some (.inl (0, n1, .inl f2))) (e5 : qCall d 6 [.int (Int32.ofNat n1), .int 160] h ((some (.int z4)), h1)) (e7 : qCall d 6 [.int x2, .int z4] h1 ((some (.int z6)), h2)) (e9 : h2.2.2 r0 = some (.inr (10, fs8))) (e10 : 4 < fs8.length) (e11 : qset h2 r0 (.inr (10, fs8.set 4 (.int z6))) = h3) (e13 : h3.2.2 r0 = some (.inr (10, fs12))) (e15 : fs12[6]? = some (.ref y14)) (e17 : fs12[4]? = some (.int y16)) (e20 : h3.2.2 r1 = some (.inl (0, n18, .inl f19))) (e23 : h3.2.2 y14 = some (.inl (0, n21, .inl f22))) (e24 : r1 ≠ y14 ∧ 0 ≤ (0 : Int32).toInt ∧ 0 ≤ (0 : Int32).toInt ∧ 0 ≤ (y16 : Int32).toInt ∧ (0 : Int32).toInt + (y16 : Int32).toInt ≤ (n18 : Nat) ∧ (0 : Int32).toInt + (y16 : Int32).toInt ≤ (n21 : Nat)) (e25 : qset h3 y14 (.inl (0, n21, .inl (va_cpy f19 f22 (0 : Int32).toNatClampNeg (0 : Int32).toNatClampNeg (y16 : Int32).toNatClampNeg))) = h4) (e27 : h4.2.2 r0 = some (.inr (10, fs26))) (e28 : 0 < fs26.length) (e29 : qset h4 r0 (.inr (10, fs26.set 0 (.int 0))) = h5) (e31 : h5.2.2 r0 = some (.inr (10, fs30))) (e32 : 1 < fs30.length) (e33 : qset h5 r0 (.inr (10, fs30.set 1 (.int 0))) = h6) (e35 : h6.2.2 r0 = some (.inr (10, fs34))) (e36 : 2 < fs34.length) (e37 : qset h6 r0 (.inr (10, fs34.set 2 (.int 0))) = h7) (e39 : h7.2.2 r0 = some (.inr (10, fs38))) (e40 : 3 < fs38.length) (e41 : qset h7 r0 (.inr (10, fs38.set 3 (.int 0))) = h8) (kk : qE d 25 52 [some (.ref r0), some (.ref r1), some (.int x2), some (.int 0)] [] h8 q): qE d 25 0 [some (.ref r0), some (.ref r1), some (.int x2), none] [] h q := by
  refine qe_aload_n c25_0 rfl ?_
  refine qe_iload_n c25_1 rfl ?_
  refine qe_aload_n c25_2 rfl ?_
  refine qe_arraylength c25_3 e3 ?_
  refine qe_sipush (x := 160) c25_4 (by decide) ?_
  refine qe_static (as := [.int (Int32.ofNat n1), .int 160]) (r := [.int x2, .ref r0]) (v := (some (.int z4))) (h2 := h1) c25_7 qo25 (by decide) qK10_32 rfl rfl rfl (Nat.le_of_ble_eq_true rfl) e5 ?_
  refine qe_static (as := [.int x2, .int z4]) (r := [.ref r0]) (v := (some (.int z6))) (h2 := h2) c25_10 qo25 (by decide) qK10_32 rfl rfl rfl (Nat.le_of_ble_eq_true rfl) e7 ?_
  refine qe_putfield c25_13 qo25 qF10_38 qz10_4 e9 e10 (by rw [qy10_4]; rfl) ?_
  rw [e11]
  refine qe_aload_n c25_16 rfl ?_
  refine qe_iconst (x := 0) c25_17 (by decide) ?_
  refine qe_aload_n c25_18 rfl ?_
  refine qe_getfield c25_19 qo25 qF10_11 e13 e15 ?_
  refine qe_iconst (x := 0) c25_22 (by decide) ?_
  refine qe_aload_n c25_23 rfl ?_
  refine qe_getfield c25_24 qo25 qF10_38 e13 e17 ?_
  refine qe_copy c25_27 (by rw [qo25]; decide) e20 e23 ⟨e24.1, e24.2.1, e24.2.2.1, e24.2.2.2.1, e24.2.2.2.2.1, e24.2.2.2.2.2, hd0, (Nat.le_of_ble_eq_true rfl)⟩ ?_
  rw [e25]
  refine qe_aload_n c25_30 rfl ?_
  refine qe_iconst (x := 0) c25_31 (by decide) ?_
  refine qe_putfield c25_32 qo25 qF10_48 qz10_0 e27 e28 (by rw [qy10_0]; rfl) ?_
  rw [e29]
  refine qe_aload_n c25_35 rfl ?_
  refine qe_iconst (x := 0) c25_36 (by decide) ?_
  refine qe_putfield c25_37 qo25 qF10_51 qz10_1 e31 e32 (by rw [qy10_1]; rfl) ?_
  rw [e33]
  refine qe_aload_n c25_40 rfl ?_
  refine qe_iconst (x := 0) c25_41 (by decide) ?_
  refine qe_putfield c25_42 qo25 qF10_54 qz10_2 e35 e36 (by rw [qy10_2]; rfl) ?_
  rw [e37]
  refine qe_aload_n c25_45 rfl ?_
  refine qe_iconst (x := 0) c25_46 (by decide) ?_
  refine qe_putfield c25_47 qo25 qF10_57 qz10_3 e39 e40 (by rw [qy10_3]; rfl) ?_
  rw [e41]
  refine qe_iconst (x := 0) c25_50 (by decide) ?_
  refine qe_istore_n (ls2 := [some (.ref r0), some (.ref r1), some (.int x2), some (.int 0)]) c25_51 (Nat.le_of_ble_eq_true rfl) rfl ?_
  exact kk
theorem b25_52F {d : Nat} {q : Option Value × qH} {h : qH} {r0 : Nat} {r1 : Nat} {x2 : Int32} {x3 : Int32}  (e1 : ¬ ((12 : Int32) < x3)) (kk : qE d 25 58 [some (.ref r0), some (.ref r1), some (.int x2), some (.int x3)] [] h q): qE d 25 52 [some (.ref r0), some (.ref r1), some (.int x2), some (.int x3)] [] h q := by
  refine qe_iload_n c25_52 rfl ?_
  refine qe_bipush (x := 12) c25_53 (by decide) ?_
  refine qe_icmp_gt_F (t := 136) c25_55 rfl e1 ?_
  exact kk
theorem b25_52T {d : Nat} {q : Option Value × qH} {h : qH} {r0 : Nat} {r1 : Nat} {x2 : Int32} {x3 : Int32}  (e1 : (12 : Int32) < x3) (kk : qE d 25 136 [some (.ref r0), some (.ref r1), some (.int x2), some (.int x3)] [] h q): qE d 25 52 [some (.ref r0), some (.ref r1), some (.int x2), some (.int x3)] [] h q := by
  refine qe_iload_n c25_52 rfl ?_
  refine qe_bipush (x := 12) c25_53 (by decide) ?_
  refine qe_icmp_gt_T (t := 136) c25_55 rfl e1 ?_
  exact kk
theorem b25_58F {d : Nat} {q : Option Value × qH} {h : qH} {r0 : Nat} {r1 : Nat} {x2 : Int32} {x3 : Int32} {fs1 : List Value} {h1 : qH} {z3 : Int32}  (e2 : h.2.2 r0 = some (.inr (10, fs1))) (e4 : qCall d 12 [.ref r0] h ((some (.int z3)), h1)) (e5 : ¬ ((z3 : Int32) = 0)) (kk : qE d 25 65 [some (.ref r0), some (.ref r1), some (.int x2), some (.int x3)] [] h1 q): qE d 25 58 [some (.ref r0), some (.ref r1), some (.int x2), some (.int x3)] [] h q := by
  refine qe_aload_n c25_58 rfl ?_
  refine qe_virtual (b := r0) (as := []) (r := []) (v := (some (.int z3))) (h2 := h1) c25_59 qo25 qK10_60 rfl rfl rfl (by rw [qo12]; exact e2) (Nat.le_of_ble_eq_true rfl) e4 ?_
  refine qe_if_eq_F (t := 91) c25_62 rfl e5 ?_
  exact kk
theorem b25_58T {d : Nat} {q : Option Value × qH} {h : qH} {r0 : Nat} {r1 : Nat} {x2 : Int32} {x3 : Int32} {fs1 : List Value} {h1 : qH} {z3 : Int32}  (e2 : h.2.2 r0 = some (.inr (10, fs1))) (e4 : qCall d 12 [.ref r0] h ((some (.int z3)), h1)) (e5 : (z3 : Int32) = 0) (kk : qE d 25 91 [some (.ref r0), some (.ref r1), some (.int x2), some (.int x3)] [] h1 q): qE d 25 58 [some (.ref r0), some (.ref r1), some (.int x2), some (.int x3)] [] h q := by
  refine qe_aload_n c25_58 rfl ?_
  refine qe_virtual (b := r0) (as := []) (r := []) (v := (some (.int z3))) (h2 := h1) c25_59 qo25 qK10_60 rfl rfl rfl (by rw [qo12]; exact e2) (Nat.le_of_ble_eq_true rfl) e4 ?_
  refine qe_if_eq_T (t := 91) c25_62 rfl e5 ?_
  exact kk
theorem b25_65F {d : Nat} {q : Option Value × qH} {h : qH} {r0 : Nat} {r1 : Nat} {x2 : Int32} {x3 : Int32} {fs1 : List Value} {h1 : qH} {z3 : Int32}  (e2 : h.2.2 r0 = some (.inr (10, fs1))) (e4 : qCall d 29 [.ref r0, .int 40] h ((some (.int z3)), h1)) (e5 : ¬ ((z3 : Int32) = 0)) (kk : qE d 25 74 [some (.ref r0), some (.ref r1), some (.int x2), some (.int x3)] [] h1 q): qE d 25 65 [some (.ref r0), some (.ref r1), some (.int x2), some (.int x3)] [] h q := by
  refine qe_aload_n c25_65 rfl ?_
  refine qe_bipush (x := 40) c25_66 (by decide) ?_
  refine qe_virtual (b := r0) (as := [.int 40]) (r := []) (v := (some (.int z3))) (h2 := h1) c25_68 qo25 qK10_64 rfl rfl rfl (by rw [qo29]; exact e2) (Nat.le_of_ble_eq_true rfl) e4 ?_
  refine qe_if_eq_F (t := 91) c25_71 rfl e5 ?_
  exact kk
theorem b25_65T {d : Nat} {q : Option Value × qH} {h : qH} {r0 : Nat} {r1 : Nat} {x2 : Int32} {x3 : Int32} {fs1 : List Value} {h1 : qH} {z3 : Int32}  (e2 : h.2.2 r0 = some (.inr (10, fs1))) (e4 : qCall d 29 [.ref r0, .int 40] h ((some (.int z3)), h1)) (e5 : (z3 : Int32) = 0) (kk : qE d 25 91 [some (.ref r0), some (.ref r1), some (.int x2), some (.int x3)] [] h1 q): qE d 25 65 [some (.ref r0), some (.ref r1), some (.int x2), some (.int x3)] [] h q := by
  refine qe_aload_n c25_65 rfl ?_
  refine qe_bipush (x := 40) c25_66 (by decide) ?_
  refine qe_virtual (b := r0) (as := [.int 40]) (r := []) (v := (some (.int z3))) (h2 := h1) c25_68 qo25 qK10_64 rfl rfl rfl (by rw [qo29]; exact e2) (Nat.le_of_ble_eq_true rfl) e4 ?_
  refine qe_if_eq_T (t := 91) c25_71 rfl e5 ?_
  exact kk
theorem b25_74F {d : Nat} {q : Option Value × qH} {h : qH} {r0 : Nat} {r1 : Nat} {x2 : Int32} {x3 : Int32} {fs1 : List Value} {h1 : qH} {z3 : Int32}  (e2 : h.2.2 r0 = some (.inr (10, fs1))) (e4 : qCall d 13 [.ref r0, .int 1] h ((some (.int z3)), h1)) (e5 : ¬ ((z3 : Int32) = 0)) (kk : qE d 25 82 [some (.ref r0), some (.ref r1), some (.int x2), some (.int x3)] [] h1 q): qE d 25 74 [some (.ref r0), some (.ref r1), some (.int x2), some (.int x3)] [] h q := by
  refine qe_aload_n c25_74 rfl ?_
  refine qe_iconst (x := 1) c25_75 (by decide) ?_
  refine qe_virtual (b := r0) (as := [.int 1]) (r := []) (v := (some (.int z3))) (h2 := h1) c25_76 qo25 qK10_68 rfl rfl rfl (by rw [qo13]; exact e2) (Nat.le_of_ble_eq_true rfl) e4 ?_
  refine qe_if_eq_F (t := 91) c25_79 rfl e5 ?_
  exact kk
theorem b25_74T {d : Nat} {q : Option Value × qH} {h : qH} {r0 : Nat} {r1 : Nat} {x2 : Int32} {x3 : Int32} {fs1 : List Value} {h1 : qH} {z3 : Int32}  (e2 : h.2.2 r0 = some (.inr (10, fs1))) (e4 : qCall d 13 [.ref r0, .int 1] h ((some (.int z3)), h1)) (e5 : (z3 : Int32) = 0) (kk : qE d 25 91 [some (.ref r0), some (.ref r1), some (.int x2), some (.int x3)] [] h1 q): qE d 25 74 [some (.ref r0), some (.ref r1), some (.int x2), some (.int x3)] [] h q := by
  refine qe_aload_n c25_74 rfl ?_
  refine qe_iconst (x := 1) c25_75 (by decide) ?_
  refine qe_virtual (b := r0) (as := [.int 1]) (r := []) (v := (some (.int z3))) (h2 := h1) c25_76 qo25 qK10_68 rfl rfl rfl (by rw [qo13]; exact e2) (Nat.le_of_ble_eq_true rfl) e4 ?_
  refine qe_if_eq_T (t := 91) c25_79 rfl e5 ?_
  exact kk
theorem b25_82F {d : Nat} {q : Option Value × qH} {h : qH} {r0 : Nat} {r1 : Nat} {x2 : Int32} {x3 : Int32} {fs1 : List Value} {h1 : qH} {z3 : Int32}  (e2 : h.2.2 r0 = some (.inr (10, fs1))) (e4 : qCall d 29 [.ref r0, .int 41] h ((some (.int z3)), h1)) (e5 : (z3 : Int32) = 0) (kk : qE d 25 91 [some (.ref r0), some (.ref r1), some (.int x2), some (.int x3)] [] h1 q): qE d 25 82 [some (.ref r0), some (.ref r1), some (.int x2), some (.int x3)] [] h q := by
  refine qe_aload_n c25_82 rfl ?_
  refine qe_bipush (x := 41) c25_83 (by decide) ?_
  refine qe_virtual (b := r0) (as := [.int 41]) (r := []) (v := (some (.int z3))) (h2 := h1) c25_85 qo25 qK10_64 rfl rfl rfl (by rw [qo29]; exact e2) (Nat.le_of_ble_eq_true rfl) e4 ?_
  refine qe_if_ne_F (t := 96) c25_88 rfl e5 ?_
  exact kk
theorem b25_82T {d : Nat} {q : Option Value × qH} {h : qH} {r0 : Nat} {r1 : Nat} {x2 : Int32} {x3 : Int32} {fs1 : List Value} {h1 : qH} {z3 : Int32}  (e2 : h.2.2 r0 = some (.inr (10, fs1))) (e4 : qCall d 29 [.ref r0, .int 41] h ((some (.int z3)), h1)) (e5 : ¬ ((z3 : Int32) = 0)) (kk : qE d 25 96 [some (.ref r0), some (.ref r1), some (.int x2), some (.int x3)] [] h1 q): qE d 25 82 [some (.ref r0), some (.ref r1), some (.int x2), some (.int x3)] [] h q := by
  refine qe_aload_n c25_82 rfl ?_
  refine qe_bipush (x := 41) c25_83 (by decide) ?_
  refine qe_virtual (b := r0) (as := [.int 41]) (r := []) (v := (some (.int z3))) (h2 := h1) c25_85 qo25 qK10_64 rfl rfl rfl (by rw [qo29]; exact e2) (Nat.le_of_ble_eq_true rfl) e4 ?_
  refine qe_if_ne_T (t := 96) c25_88 rfl e5 ?_
  exact kk
theorem b25_91 {d : Nat} {h : qH} {r0 : Nat} {r1 : Nat} {x2 : Int32} {x3 : Int32} {fs1 : List Value} {y3 : Int32}  (e2 : h.2.2 r0 = some (.inr (10, fs1))) (e4 : fs1[1]? = some (.int y3)) : qE d 25 91 [some (.ref r0), some (.ref r1), some (.int x2), some (.int x3)] [] h (some (.int y3), h) := by
  refine qe_aload_n c25_91 rfl ?_
  refine qe_getfield c25_92 qo25 qF10_51 e2 e4 ?_
  exact qe_iret c25_95 qr25
theorem b25_96F {d : Nat} {q : Option Value × qH} {h : qH} {r0 : Nat} {r1 : Nat} {x2 : Int32} {x3 : Int32} {fs1 : List Value} {h1 : qH} {fs4 : List Value} {y6 : Int32} {y8 : Int32}  (e2 : h.2.2 r0 = some (.inr (10, fs1))) (e3 : qCall d 250 [.ref r0] h (none, h1)) (e5 : h1.2.2 r0 = some (.inr (10, fs4))) (e7 : fs4[3]? = some (.int y6)) (e9 : fs4[4]? = some (.int y8)) (e10 : (y6 : Int32) = y8) (kk : qE d 25 111 [some (.ref r0), some (.ref r1), some (.int x2), some (.int x3)] [] h1 q): qE d 25 96 [some (.ref r0), some (.ref r1), some (.int x2), some (.int x3)] [] h q := by
  refine qe_aload_n c25_96 rfl ?_
  refine qe_virtual (b := r0) (as := []) (r := []) (v := none) (h2 := h1) c25_97 qo25 qK10_71 rfl rfl rfl (by rw [qo250]; exact e2) (Nat.le_of_ble_eq_true rfl) e3 ?_
  refine qe_aload_n c25_100 rfl ?_
  refine qe_getfield c25_101 qo25 qF10_57 e5 e7 ?_
  refine qe_aload_n c25_104 rfl ?_
  refine qe_getfield c25_105 qo25 qF10_38 e5 e9 ?_
  refine qe_icmp_ne_F (t := 116) c25_108 rfl e10 ?_
  exact kk
theorem b25_96T {d : Nat} {q : Option Value × qH} {h : qH} {r0 : Nat} {r1 : Nat} {x2 : Int32} {x3 : Int32} {fs1 : List Value} {h1 : qH} {fs4 : List Value} {y6 : Int32} {y8 : Int32}  (e2 : h.2.2 r0 = some (.inr (10, fs1))) (e3 : qCall d 250 [.ref r0] h (none, h1)) (e5 : h1.2.2 r0 = some (.inr (10, fs4))) (e7 : fs4[3]? = some (.int y6)) (e9 : fs4[4]? = some (.int y8)) (e10 : ¬ ((y6 : Int32) = y8)) (kk : qE d 25 116 [some (.ref r0), some (.ref r1), some (.int x2), some (.int x3)] [] h1 q): qE d 25 96 [some (.ref r0), some (.ref r1), some (.int x2), some (.int x3)] [] h q := by
  refine qe_aload_n c25_96 rfl ?_
  refine qe_virtual (b := r0) (as := []) (r := []) (v := none) (h2 := h1) c25_97 qo25 qK10_71 rfl rfl rfl (by rw [qo250]; exact e2) (Nat.le_of_ble_eq_true rfl) e3 ?_
  refine qe_aload_n c25_100 rfl ?_
  refine qe_getfield c25_101 qo25 qF10_57 e5 e7 ?_
  refine qe_aload_n c25_104 rfl ?_
  refine qe_getfield c25_105 qo25 qF10_38 e5 e9 ?_
  refine qe_icmp_ne_T (t := 116) c25_108 rfl e10 ?_
  exact kk
theorem b25_111 {d : Nat} {h : qH} {r0 : Nat} {r1 : Nat} {x2 : Int32} {x3 : Int32} {fs1 : List Value} {y3 : Int32}  (e2 : h.2.2 r0 = some (.inr (10, fs1))) (e4 : fs1[0]? = some (.int y3)) : qE d 25 111 [some (.ref r0), some (.ref r1), some (.int x2), some (.int x3)] [] h (some (.int y3), h) := by
  refine qe_aload_n c25_111 rfl ?_
  refine qe_getfield c25_112 qo25 qF10_48 e2 e4 ?_
  exact qe_iret c25_115 qr25
theorem b25_116F {d : Nat} {q : Option Value × qH} {h : qH} {r0 : Nat} {r1 : Nat} {x2 : Int32} {x3 : Int32} {fs1 : List Value} {h1 : qH} {z3 : Int32}  (e2 : h.2.2 r0 = some (.inr (10, fs1))) (e4 : qCall d 29 [.ref r0, .int 59] h ((some (.int z3)), h1)) (e5 : (z3 : Int32) = 0) (kk : qE d 25 125 [some (.ref r0), some (.ref r1), some (.int x2), some (.int x3)] [] h1 q): qE d 25 116 [some (.ref r0), some (.ref r1), some (.int x2), some (.int x3)] [] h q := by
  refine qe_aload_n c25_116 rfl ?_
  refine qe_bipush (x := 59) c25_117 (by decide) ?_
  refine qe_virtual (b := r0) (as := [.int 59]) (r := []) (v := (some (.int z3))) (h2 := h1) c25_119 qo25 qK10_64 rfl rfl rfl (by rw [qo29]; exact e2) (Nat.le_of_ble_eq_true rfl) e4 ?_
  refine qe_if_ne_F (t := 130) c25_122 rfl e5 ?_
  exact kk
theorem b25_116T {d : Nat} {q : Option Value × qH} {h : qH} {r0 : Nat} {r1 : Nat} {x2 : Int32} {x3 : Int32} {fs1 : List Value} {h1 : qH} {z3 : Int32}  (e2 : h.2.2 r0 = some (.inr (10, fs1))) (e4 : qCall d 29 [.ref r0, .int 59] h ((some (.int z3)), h1)) (e5 : ¬ ((z3 : Int32) = 0)) (kk : qE d 25 130 [some (.ref r0), some (.ref r1), some (.int x2), some (.int x3)] [] h1 q): qE d 25 116 [some (.ref r0), some (.ref r1), some (.int x2), some (.int x3)] [] h q := by
  refine qe_aload_n c25_116 rfl ?_
  refine qe_bipush (x := 59) c25_117 (by decide) ?_
  refine qe_virtual (b := r0) (as := [.int 59]) (r := []) (v := (some (.int z3))) (h2 := h1) c25_119 qo25 qK10_64 rfl rfl rfl (by rw [qo29]; exact e2) (Nat.le_of_ble_eq_true rfl) e4 ?_
  refine qe_if_ne_T (t := 130) c25_122 rfl e5 ?_
  exact kk
theorem b25_125 {d : Nat} {h : qH} {r0 : Nat} {r1 : Nat} {x2 : Int32} {x3 : Int32} {fs1 : List Value} {y3 : Int32}  (e2 : h.2.2 r0 = some (.inr (10, fs1))) (e4 : fs1[1]? = some (.int y3)) : qE d 25 125 [some (.ref r0), some (.ref r1), some (.int x2), some (.int x3)] [] h (some (.int y3), h) := by
  refine qe_aload_n c25_125 rfl ?_
  refine qe_getfield c25_126 qo25 qF10_51 e2 e4 ?_
  exact qe_iret c25_129 qr25
theorem b25_130 {d : Nat} {q : Option Value × qH} {h : qH} {r0 : Nat} {r1 : Nat} {x2 : Int32} {x3 : Int32}   (kk : qE d 25 52 [some (.ref r0), some (.ref r1), some (.int x2), some (.int (x3 + 1))] [] h q): qE d 25 130 [some (.ref r0), some (.ref r1), some (.int x2), some (.int x3)] [] h q := by
  refine qe_iinc (y := (x3 + 1)) (ls2 := [some (.ref r0), some (.ref r1), some (.int x2), some (.int (x3 + 1))]) c25_130 rfl (Nat.le_of_ble_eq_true rfl) rfl rfl ?_
  refine qe_goto (t := 52) c25_133 rfl ?_
  exact kk
theorem b25_136 {d : Nat} {h : qH} {r0 : Nat} {r1 : Nat} {x2 : Int32} {x3 : Int32} {fs1 : List Value} {y3 : Int32}  (e2 : h.2.2 r0 = some (.inr (10, fs1))) (e4 : fs1[1]? = some (.int y3)) : qE d 25 136 [some (.ref r0), some (.ref r1), some (.int x2), some (.int x3)] [] h (some (.int y3), h) := by
  refine qe_aload_n c25_136 rfl ?_
  refine qe_getfield c25_137 qo25 qF10_51 e2 e4 ?_
  exact qe_iret c25_140 qr25
theorem b26_0D {d : Nat} {q : Option Value × qH} {h : qH} {x0 : Int32} {l1 : Int64} {l3 : Int64}  (e1 : (x0 : Int32).toInt < 42 ∨ 47 < (x0 : Int32).toInt) (kk : qE d 26 66 [some (.int x0), some (.long l1), none, some (.long l3), none] [] h q): qE d 26 0 [some (.int x0), some (.long l1), none, some (.long l3), none] [] h q := by
  refine qe_iload_n c26_0 rfl ?_
  refine qe_tableD (t := 66) c26_1 e1 rfl ?_
  exact kk
theorem b26_0s47 {d : Nat} {q : Option Value × qH} {h : qH} {x0 : Int32} {l1 : Int64} {l3 : Int64}  (e1 : (x0 : Int32).toInt = 47) (kk : qE d 26 52 [some (.int x0), some (.long l1), none, some (.long l3), none] [] h q): qE d 26 0 [some (.int x0), some (.long l1), none, some (.long l3), none] [] h q := by
  refine qe_iload_n c26_0 rfl ?_
  refine qe_table (off := 51) (t := 52) c26_1 (by rw [e1]; decide) (by rw [e1]; decide) rfl ?_
  exact kk
theorem b26_0s46 {d : Nat} {q : Option Value × qH} {h : qH} {x0 : Int32} {l1 : Int64} {l3 : Int64}  (e1 : (x0 : Int32).toInt = 46) (kk : qE d 26 66 [some (.int x0), some (.long l1), none, some (.long l3), none] [] h q): qE d 26 0 [some (.int x0), some (.long l1), none, some (.long l3), none] [] h q := by
  refine qe_iload_n c26_0 rfl ?_
  refine qe_table (off := 65) (t := 66) c26_1 (by rw [e1]; decide) (by rw [e1]; decide) rfl ?_
  exact kk
theorem b26_0s45 {d : Nat} {q : Option Value × qH} {h : qH} {x0 : Int32} {l1 : Int64} {l3 : Int64}  (e1 : (x0 : Int32).toInt = 45) (kk : qE d 26 44 [some (.int x0), some (.long l1), none, some (.long l3), none] [] h q): qE d 26 0 [some (.int x0), some (.long l1), none, some (.long l3), none] [] h q := by
  refine qe_iload_n c26_0 rfl ?_
  refine qe_table (off := 43) (t := 44) c26_1 (by rw [e1]; decide) (by rw [e1]; decide) rfl ?_
  exact kk
theorem b26_0s44 {d : Nat} {q : Option Value × qH} {h : qH} {x0 : Int32} {l1 : Int64} {l3 : Int64}  (e1 : (x0 : Int32).toInt = 44) (kk : qE d 26 66 [some (.int x0), some (.long l1), none, some (.long l3), none] [] h q): qE d 26 0 [some (.int x0), some (.long l1), none, some (.long l3), none] [] h q := by
  refine qe_iload_n c26_0 rfl ?_
  refine qe_table (off := 65) (t := 66) c26_1 (by rw [e1]; decide) (by rw [e1]; decide) rfl ?_
  exact kk
theorem b26_0s43 {d : Nat} {q : Option Value × qH} {h : qH} {x0 : Int32} {l1 : Int64} {l3 : Int64}  (e1 : (x0 : Int32).toInt = 43) (kk : qE d 26 40 [some (.int x0), some (.long l1), none, some (.long l3), none] [] h q): qE d 26 0 [some (.int x0), some (.long l1), none, some (.long l3), none] [] h q := by
  refine qe_iload_n c26_0 rfl ?_
  refine qe_table (off := 39) (t := 40) c26_1 (by rw [e1]; decide) (by rw [e1]; decide) rfl ?_
  exact kk
theorem b26_0s42 {d : Nat} {q : Option Value × qH} {h : qH} {x0 : Int32} {l1 : Int64} {l3 : Int64}  (e1 : (x0 : Int32).toInt = 42) (kk : qE d 26 48 [some (.int x0), some (.long l1), none, some (.long l3), none] [] h q): qE d 26 0 [some (.int x0), some (.long l1), none, some (.long l3), none] [] h q := by
  refine qe_iload_n c26_0 rfl ?_
  refine qe_table (off := 47) (t := 48) c26_1 (by rw [e1]; decide) (by rw [e1]; decide) rfl ?_
  exact kk
theorem b26_40 {d : Nat} {h : qH} {x0 : Int32} {l1 : Int64} {l3 : Int64}   : qE d 26 40 [some (.int x0), some (.long l1), none, some (.long l3), none] [] h (some (.long (l1 + l3)), h) := by
  refine qe_lload_n c26_40 rfl ?_
  refine qe_lload_n c26_41 rfl ?_
  refine qe_ladd c26_42 ?_
  exact qe_lret c26_43 qr26
theorem b26_44 {d : Nat} {h : qH} {x0 : Int32} {l1 : Int64} {l3 : Int64}   : qE d 26 44 [some (.int x0), some (.long l1), none, some (.long l3), none] [] h (some (.long (l1 - l3)), h) := by
  refine qe_lload_n c26_44 rfl ?_
  refine qe_lload_n c26_45 rfl ?_
  refine qe_lsub c26_46 ?_
  exact qe_lret c26_47 qr26
theorem b26_48 {d : Nat} {h : qH} {x0 : Int32} {l1 : Int64} {l3 : Int64}   : qE d 26 48 [some (.int x0), some (.long l1), none, some (.long l3), none] [] h (some (.long (l1 * l3)), h) := by
  refine qe_lload_n c26_48 rfl ?_
  refine qe_lload_n c26_49 rfl ?_
  refine qe_lmul c26_50 ?_
  exact qe_lret c26_51 qr26
theorem b26_52F {d : Nat} {q : Option Value × qH} {h : qH} {x0 : Int32} {l1 : Int64} {l3 : Int64}  (e1 : ((lg_cmp l3 0) : Int32) = 0) (kk : qE d 26 58 [some (.int x0), some (.long l1), none, some (.long l3), none] [] h q): qE d 26 52 [some (.int x0), some (.long l1), none, some (.long l3), none] [] h q := by
  refine qe_lload_n c26_52 rfl ?_
  refine qe_lconst (x := 0) c26_53 (by decide) ?_
  refine qe_lcmp c26_54 ?_
  refine qe_if_ne_F (t := 62) c26_55 rfl e1 ?_
  exact kk
theorem b26_52T {d : Nat} {q : Option Value × qH} {h : qH} {x0 : Int32} {l1 : Int64} {l3 : Int64}  (e1 : ¬ (((lg_cmp l3 0) : Int32) = 0)) (kk : qE d 26 62 [some (.int x0), some (.long l1), none, some (.long l3), none] [] h q): qE d 26 52 [some (.int x0), some (.long l1), none, some (.long l3), none] [] h q := by
  refine qe_lload_n c26_52 rfl ?_
  refine qe_lconst (x := 0) c26_53 (by decide) ?_
  refine qe_lcmp c26_54 ?_
  refine qe_if_ne_T (t := 62) c26_55 rfl e1 ?_
  exact kk
theorem b26_58 {d : Nat} {q : Option Value × qH} {h : qH} {x0 : Int32} {l1 : Int64} {l3 : Int64}   (kk : qE d 26 65 [some (.int x0), some (.long l1), none, some (.long l3), none] [.long 0] h q): qE d 26 58 [some (.int x0), some (.long l1), none, some (.long l3), none] [] h q := by
  refine qe_lconst (x := 0) c26_58 (by decide) ?_
  refine qe_goto (t := 65) c26_59 rfl ?_
  exact kk
theorem b26_62 {d : Nat} {q : Option Value × qH} {h : qH} {x0 : Int32} {l1 : Int64} {l3 : Int64}  (e1 : ¬ (l3 : Int64) = 0) (kk : qE d 26 65 [some (.int x0), some (.long l1), none, some (.long l3), none] [.long (l1 / l3)] h q): qE d 26 62 [some (.int x0), some (.long l1), none, some (.long l3), none] [] h q := by
  refine qe_lload_n c26_62 rfl ?_
  refine qe_lload_n c26_63 rfl ?_
  refine qe_ldiv c26_64 e1 ?_
  exact kk
theorem b26_65 {d : Nat} {h : qH} {x0 : Int32} {l1 : Int64} {l3 : Int64} {ls0 : Int64}   : qE d 26 65 [some (.int x0), some (.long l1), none, some (.long l3), none] [.long ls0] h (some (.long ls0), h) := by
  exact qe_lret c26_65 qr26
theorem b26_66F {d : Nat} {q : Option Value × qH} {h : qH} {x0 : Int32} {l1 : Int64} {l3 : Int64}  (e1 : ((lg_cmp l3 0) : Int32) = 0) (kk : qE d 26 72 [some (.int x0), some (.long l1), none, some (.long l3), none] [] h q): qE d 26 66 [some (.int x0), some (.long l1), none, some (.long l3), none] [] h q := by
  refine qe_lload_n c26_66 rfl ?_
  refine qe_lconst (x := 0) c26_67 (by decide) ?_
  refine qe_lcmp c26_68 ?_
  refine qe_if_ne_F (t := 76) c26_69 rfl e1 ?_
  exact kk
theorem b26_66T {d : Nat} {q : Option Value × qH} {h : qH} {x0 : Int32} {l1 : Int64} {l3 : Int64}  (e1 : ¬ (((lg_cmp l3 0) : Int32) = 0)) (kk : qE d 26 76 [some (.int x0), some (.long l1), none, some (.long l3), none] [] h q): qE d 26 66 [some (.int x0), some (.long l1), none, some (.long l3), none] [] h q := by
  refine qe_lload_n c26_66 rfl ?_
  refine qe_lconst (x := 0) c26_67 (by decide) ?_
  refine qe_lcmp c26_68 ?_
  refine qe_if_ne_T (t := 76) c26_69 rfl e1 ?_
  exact kk
theorem b26_72 {d : Nat} {q : Option Value × qH} {h : qH} {x0 : Int32} {l1 : Int64} {l3 : Int64}   (kk : qE d 26 79 [some (.int x0), some (.long l1), none, some (.long l3), none] [.long 0] h q): qE d 26 72 [some (.int x0), some (.long l1), none, some (.long l3), none] [] h q := by
  refine qe_lconst (x := 0) c26_72 (by decide) ?_
  refine qe_goto (t := 79) c26_73 rfl ?_
  exact kk
theorem b26_76 {d : Nat} {q : Option Value × qH} {h : qH} {x0 : Int32} {l1 : Int64} {l3 : Int64}  (e1 : ¬ (l3 : Int64) = 0) (kk : qE d 26 79 [some (.int x0), some (.long l1), none, some (.long l3), none] [.long (l1 - l1 / l3 * l3)] h q): qE d 26 76 [some (.int x0), some (.long l1), none, some (.long l3), none] [] h q := by
  refine qe_lload_n c26_76 rfl ?_
  refine qe_lload_n c26_77 rfl ?_
  refine qe_lrem c26_78 e1 ?_
  exact kk
theorem b26_79 {d : Nat} {h : qH} {x0 : Int32} {l1 : Int64} {l3 : Int64} {ls0 : Int64}   : qE d 26 79 [some (.int x0), some (.long l1), none, some (.long l3), none] [.long ls0] h (some (.long ls0), h) := by
  exact qe_lret c26_79 qr26
theorem b27_0 {d : Nat} {h : qH} {r0 : Nat} {x1 : Int32} {fs1 : List Value} {y3 : Int32} {h1 : qH}  (e2 : h.2.2 r0 = some (.inr (10, fs1))) (e4 : fs1[3]? = some (.int y3)) (e5 : 1 < fs1.length) (e6 : qset h r0 (.inr (10, fs1.set 1 (.int (((-1000) * x1) - y3)))) = h1) : qE d 27 0 [some (.ref r0), some (.int x1)] [] h (some (.int 0), h1) := by
  refine qe_aload_n c27_0 rfl ?_
  refine qe_sipush (x := (-1000)) c27_1 (by decide) ?_
  refine qe_iload_n c27_4 rfl ?_
  refine qe_imul c27_5 ?_
  refine qe_aload_n c27_6 rfl ?_
  refine qe_getfield c27_7 qo27 qF10_57 e2 e4 ?_
  refine qe_isub c27_10 ?_
  refine qe_putfield c27_11 qo27 qF10_51 qz10_1 e2 e5 (by rw [qy10_1]; rfl) ?_
  rw [e6]
  refine qe_iconst (x := 0) c27_14 (by decide) ?_
  exact qe_zret c27_15 qr27 (by decide)
theorem b28_0 {d : Nat} {q : Option Value × qH} {h : qH} {r0 : Nat} {x1 : Int32} {fs1 : List Value} {y3 : Int32}  (e2 : h.2.2 r0 = some (.inr (10, fs1))) (e4 : fs1[4]? = some (.int y3)) (kk : qE d 28 10 [some (.ref r0), some (.int x1), some (.int 0), some (.int 0), some (.int y3), none] [] h q): qE d 28 0 [some (.ref r0), some (.int x1), none, none, none, none] [] h q := by
  refine qe_iconst (x := 0) c28_0 (by decide) ?_
  refine qe_istore_n (ls2 := [some (.ref r0), some (.int x1), some (.int 0), none, none, none]) c28_1 (Nat.le_of_ble_eq_true rfl) rfl ?_
  refine qe_iconst (x := 0) c28_2 (by decide) ?_
  refine qe_istore_n (ls2 := [some (.ref r0), some (.int x1), some (.int 0), some (.int 0), none, none]) c28_3 (Nat.le_of_ble_eq_true rfl) rfl ?_
  refine qe_aload_n c28_4 rfl ?_
  refine qe_getfield c28_5 qo28 qF10_38 e2 e4 ?_
  refine qe_istore (ls2 := [some (.ref r0), some (.int x1), some (.int 0), some (.int 0), some (.int y3), none]) c28_8 (Nat.le_of_ble_eq_true rfl) rfl ?_
  exact kk
theorem b28_10F {d : Nat} {q : Option Value × qH} {h : qH} {r0 : Nat} {x1 : Int32} {x2 : Int32} {x3 : Int32} {x4 : Int32} {o5 : Option Value}  (e1 : ¬ ((x4 : Int32) ≤ 0)) (kk : qE d 28 15 [some (.ref r0), some (.int x1), some (.int x2), some (.int x3), some (.int x4), o5] [] h q): qE d 28 10 [some (.ref r0), some (.int x1), some (.int x2), some (.int x3), some (.int x4), o5] [] h q := by
  refine qe_iload c28_10 rfl ?_
  refine qe_if_le_F (t := 118) c28_12 rfl e1 ?_
  exact kk
theorem b28_10T {d : Nat} {q : Option Value × qH} {h : qH} {r0 : Nat} {x1 : Int32} {x2 : Int32} {x3 : Int32} {x4 : Int32} {o5 : Option Value}  (e1 : (x4 : Int32) ≤ 0) (kk : qE d 28 118 [some (.ref r0), some (.int x1), some (.int x2), some (.int x3), some (.int x4), o5] [] h q): qE d 28 10 [some (.ref r0), some (.int x1), some (.int x2), some (.int x3), some (.int x4), o5] [] h q := by
  refine qe_iload c28_10 rfl ?_
  refine qe_if_le_T (t := 118) c28_12 rfl e1 ?_
  exact kk
theorem b28_15F {d : Nat} {q : Option Value × qH} {h : qH} {r0 : Nat} {x1 : Int32} {x2 : Int32} {x3 : Int32} {x4 : Int32} {o5 : Option Value} {fs1 : List Value} {h1 : qH} {z3 : Int32}  (e2 : h.2.2 r0 = some (.inr (10, fs1))) (e4 : qCall d 15 [.ref r0, .int x1] h ((some (.int z3)), h1)) (e5 : (z3 : Int32) = 0) (kk : qE d 28 23 [some (.ref r0), some (.int x1), some (.int x2), some (.int x3), some (.int x4), o5] [] h1 q): qE d 28 15 [some (.ref r0), some (.int x1), some (.int x2), some (.int x3), some (.int x4), o5] [] h q := by
  refine qe_aload_n c28_15 rfl ?_
  refine qe_iload_n c28_16 rfl ?_
  refine qe_virtual (b := r0) (as := [.int x1]) (r := []) (v := (some (.int z3))) (h2 := h1) c28_17 qo28 qK10_98 rfl rfl rfl (by rw [qo15]; exact e2) (Nat.le_of_ble_eq_true rfl) e4 ?_
  refine qe_if_ne_F (t := 25) c28_20 rfl e5 ?_
  exact kk
theorem b28_15T {d : Nat} {q : Option Value × qH} {h : qH} {r0 : Nat} {x1 : Int32} {x2 : Int32} {x3 : Int32} {x4 : Int32} {o5 : Option Value} {fs1 : List Value} {h1 : qH} {z3 : Int32}  (e2 : h.2.2 r0 = some (.inr (10, fs1))) (e4 : qCall d 15 [.ref r0, .int x1] h ((some (.int z3)), h1)) (e5 : ¬ ((z3 : Int32) = 0)) (kk : qE d 28 25 [some (.ref r0), some (.int x1), some (.int x2), some (.int x3), some (.int x4), o5] [] h1 q): qE d 28 15 [some (.ref r0), some (.int x1), some (.int x2), some (.int x3), some (.int x4), o5] [] h q := by
  refine qe_aload_n c28_15 rfl ?_
  refine qe_iload_n c28_16 rfl ?_
  refine qe_virtual (b := r0) (as := [.int x1]) (r := []) (v := (some (.int z3))) (h2 := h1) c28_17 qo28 qK10_98 rfl rfl rfl (by rw [qo15]; exact e2) (Nat.le_of_ble_eq_true rfl) e4 ?_
  refine qe_if_ne_T (t := 25) c28_20 rfl e5 ?_
  exact kk
theorem b28_23 {d : Nat} {h : qH} {r0 : Nat} {x1 : Int32} {x2 : Int32} {x3 : Int32} {x4 : Int32} {o5 : Option Value}   : qE d 28 23 [some (.ref r0), some (.int x1), some (.int x2), some (.int x3), some (.int x4), o5] [] h (some (.int 0), h) := by
  refine qe_iconst (x := 0) c28_23 (by decide) ?_
  exact qe_zret c28_24 qr28 (by decide)
theorem b28_25F {d : Nat} {q : Option Value × qH} {h : qH} {r0 : Nat} {x1 : Int32} {x2 : Int32} {x3 : Int32} {x4 : Int32} {o5 : Option Value}  (e1 : ¬ ((x2 : Int32) = 0)) (kk : qE d 28 29 [some (.ref r0), some (.int x1), some (.int x2), some (.int x3), some (.int x4), o5] [] h q): qE d 28 25 [some (.ref r0), some (.int x1), some (.int x2), some (.int x3), some (.int x4), o5] [] h q := by
  refine qe_iload_n c28_25 rfl ?_
  refine qe_if_eq_F (t := 35) c28_26 rfl e1 ?_
  exact kk
theorem b28_25T {d : Nat} {q : Option Value × qH} {h : qH} {r0 : Nat} {x1 : Int32} {x2 : Int32} {x3 : Int32} {x4 : Int32} {o5 : Option Value}  (e1 : (x2 : Int32) = 0) (kk : qE d 28 35 [some (.ref r0), some (.int x1), some (.int x2), some (.int x3), some (.int x4), o5] [] h q): qE d 28 25 [some (.ref r0), some (.int x1), some (.int x2), some (.int x3), some (.int x4), o5] [] h q := by
  refine qe_iload_n c28_25 rfl ?_
  refine qe_if_eq_T (t := 35) c28_26 rfl e1 ?_
  exact kk
theorem b28_29 {d : Nat} {q : Option Value × qH} {h : qH} {r0 : Nat} {x1 : Int32} {x2 : Int32} {x3 : Int32} {x4 : Int32} {o5 : Option Value} {fs1 : List Value} {h1 : qH}  (e2 : h.2.2 r0 = some (.inr (10, fs1))) (e3 : qCall d 14 [.ref r0, .int x2, .int 0] h (none, h1)) (kk : qE d 28 35 [some (.ref r0), some (.int x1), some (.int x2), some (.int x3), some (.int x4), o5] [] h1 q): qE d 28 29 [some (.ref r0), some (.int x1), some (.int x2), some (.int x3), some (.int x4), o5] [] h q := by
  refine qe_aload_n c28_29 rfl ?_
  refine qe_iload_n c28_30 rfl ?_
  refine qe_iconst (x := 0) c28_31 (by decide) ?_
  refine qe_virtual (b := r0) (as := [.int x2, .int 0]) (r := []) (v := none) (h2 := h1) c28_32 qo28 qK10_88 rfl rfl rfl (by rw [qo14]; exact e2) (Nat.le_of_ble_eq_true rfl) e3 ?_
  exact kk
theorem b28_35F {d : Nat} {q : Option Value × qH} {h : qH} {r0 : Nat} {x1 : Int32} {x2 : Int32} {x3 : Int32} {x4 : Int32} {o5 : Option Value} {fs1 : List Value} {h1 : qH} {z3 : Int32}  (e2 : h.2.2 r0 = some (.inr (10, fs1))) (e4 : qCall d 23 [.ref r0] h ((some (.int z3)), h1)) (e5 : ¬ ((z3 : Int32) = 42)) (kk : qE d 28 48 [some (.ref r0), some (.int x1), some (.int x2), some (.int x3), some (.int x4), some (.int z3)] [] h1 q): qE d 28 35 [some (.ref r0), some (.int x1), some (.int x2), some (.int x3), some (.int x4), o5] [] h q := by
  refine qe_aload_n c28_35 rfl ?_
  refine qe_virtual (b := r0) (as := []) (r := []) (v := (some (.int z3))) (h2 := h1) c28_36 qo28 qK10_74 rfl rfl rfl (by rw [qo23]; exact e2) (Nat.le_of_ble_eq_true rfl) e4 ?_
  refine qe_istore (ls2 := [some (.ref r0), some (.int x1), some (.int x2), some (.int x3), some (.int x4), some (.int z3)]) c28_39 (Nat.le_of_ble_eq_true rfl) rfl ?_
  refine qe_iload c28_41 rfl ?_
  refine qe_bipush (x := 42) c28_43 (by decide) ?_
  refine qe_icmp_eq_F (t := 62) c28_45 rfl e5 ?_
  exact kk
theorem b28_35T {d : Nat} {q : Option Value × qH} {h : qH} {r0 : Nat} {x1 : Int32} {x2 : Int32} {x3 : Int32} {x4 : Int32} {o5 : Option Value} {fs1 : List Value} {h1 : qH} {z3 : Int32}  (e2 : h.2.2 r0 = some (.inr (10, fs1))) (e4 : qCall d 23 [.ref r0] h ((some (.int z3)), h1)) (e5 : (z3 : Int32) = 42) (kk : qE d 28 62 [some (.ref r0), some (.int x1), some (.int x2), some (.int x3), some (.int x4), some (.int z3)] [] h1 q): qE d 28 35 [some (.ref r0), some (.int x1), some (.int x2), some (.int x3), some (.int x4), o5] [] h q := by
  refine qe_aload_n c28_35 rfl ?_
  refine qe_virtual (b := r0) (as := []) (r := []) (v := (some (.int z3))) (h2 := h1) c28_36 qo28 qK10_74 rfl rfl rfl (by rw [qo23]; exact e2) (Nat.le_of_ble_eq_true rfl) e4 ?_
  refine qe_istore (ls2 := [some (.ref r0), some (.int x1), some (.int x2), some (.int x3), some (.int x4), some (.int z3)]) c28_39 (Nat.le_of_ble_eq_true rfl) rfl ?_
  refine qe_iload c28_41 rfl ?_
  refine qe_bipush (x := 42) c28_43 (by decide) ?_
  refine qe_icmp_eq_T (t := 62) c28_45 rfl e5 ?_
  exact kk
theorem b28_48F {d : Nat} {q : Option Value × qH} {h : qH} {r0 : Nat} {x1 : Int32} {x2 : Int32} {x3 : Int32} {x4 : Int32} {x5 : Int32}  (e1 : ¬ ((x5 : Int32) = 47)) (kk : qE d 28 55 [some (.ref r0), some (.int x1), some (.int x2), some (.int x3), some (.int x4), some (.int x5)] [] h q): qE d 28 48 [some (.ref r0), some (.int x1), some (.int x2), some (.int x3), some (.int x4), some (.int x5)] [] h q := by
  refine qe_iload c28_48 rfl ?_
  refine qe_bipush (x := 47) c28_50 (by decide) ?_
  refine qe_icmp_eq_F (t := 62) c28_52 rfl e1 ?_
  exact kk
theorem b28_48T {d : Nat} {q : Option Value × qH} {h : qH} {r0 : Nat} {x1 : Int32} {x2 : Int32} {x3 : Int32} {x4 : Int32} {x5 : Int32}  (e1 : (x5 : Int32) = 47) (kk : qE d 28 62 [some (.ref r0), some (.int x1), some (.int x2), some (.int x3), some (.int x4), some (.int x5)] [] h q): qE d 28 48 [some (.ref r0), some (.int x1), some (.int x2), some (.int x3), some (.int x4), some (.int x5)] [] h q := by
  refine qe_iload c28_48 rfl ?_
  refine qe_bipush (x := 47) c28_50 (by decide) ?_
  refine qe_icmp_eq_T (t := 62) c28_52 rfl e1 ?_
  exact kk
theorem b28_55F {d : Nat} {q : Option Value × qH} {h : qH} {r0 : Nat} {x1 : Int32} {x2 : Int32} {x3 : Int32} {x4 : Int32} {x5 : Int32}  (e1 : (x5 : Int32) = 37) (kk : qE d 28 62 [some (.ref r0), some (.int x1), some (.int x2), some (.int x3), some (.int x4), some (.int x5)] [] h q): qE d 28 55 [some (.ref r0), some (.int x1), some (.int x2), some (.int x3), some (.int x4), some (.int x5)] [] h q := by
  refine qe_iload c28_55 rfl ?_
  refine qe_bipush (x := 37) c28_57 (by decide) ?_
  refine qe_icmp_ne_F (t := 67) c28_59 rfl e1 ?_
  exact kk
theorem b28_55T {d : Nat} {q : Option Value × qH} {h : qH} {r0 : Nat} {x1 : Int32} {x2 : Int32} {x3 : Int32} {x4 : Int32} {x5 : Int32}  (e1 : ¬ ((x5 : Int32) = 37)) (kk : qE d 28 67 [some (.ref r0), some (.int x1), some (.int x2), some (.int x3), some (.int x4), some (.int x5)] [] h q): qE d 28 55 [some (.ref r0), some (.int x1), some (.int x2), some (.int x3), some (.int x4), some (.int x5)] [] h q := by
  refine qe_iload c28_55 rfl ?_
  refine qe_bipush (x := 37) c28_57 (by decide) ?_
  refine qe_icmp_ne_T (t := 67) c28_59 rfl e1 ?_
  exact kk
theorem b28_62 {d : Nat} {q : Option Value × qH} {h : qH} {r0 : Nat} {x1 : Int32} {x2 : Int32} {x3 : Int32} {x4 : Int32} {x5 : Int32}   (kk : qE d 28 68 [some (.ref r0), some (.int x1), some (.int x2), some (.int x3), some (.int x4), some (.int x5)] [.int x5] h q): qE d 28 62 [some (.ref r0), some (.int x1), some (.int x2), some (.int x3), some (.int x4), some (.int x5)] [] h q := by
  refine qe_iload c28_62 rfl ?_
  refine qe_goto (t := 68) c28_64 rfl ?_
  exact kk
theorem b28_67 {d : Nat} {q : Option Value × qH} {h : qH} {r0 : Nat} {x1 : Int32} {x2 : Int32} {x3 : Int32} {x4 : Int32} {x5 : Int32}   (kk : qE d 28 68 [some (.ref r0), some (.int x1), some (.int x2), some (.int x3), some (.int x4), some (.int x5)] [.int 0] h q): qE d 28 67 [some (.ref r0), some (.int x1), some (.int x2), some (.int x3), some (.int x4), some (.int x5)] [] h q := by
  refine qe_iconst (x := 0) c28_67 (by decide) ?_
  exact kk
theorem b28_68F {d : Nat} {q : Option Value × qH} {h : qH} {r0 : Nat} {x1 : Int32} {x2 : Int32} {x3 : Int32} {x4 : Int32} {x5 : Int32} {xs0 : Int32}  (e1 : (xs0 : Int32) = 0) (kk : qE d 28 73 [some (.ref r0), some (.int x1), some (.int xs0), some (.int x3), some (.int x4), some (.int x5)] [] h q): qE d 28 68 [some (.ref r0), some (.int x1), some (.int x2), some (.int x3), some (.int x4), some (.int x5)] [.int xs0] h q := by
  refine qe_istore_n (ls2 := [some (.ref r0), some (.int x1), some (.int xs0), some (.int x3), some (.int x4), some (.int x5)]) c28_68 (Nat.le_of_ble_eq_true rfl) rfl ?_
  refine qe_iload_n c28_69 rfl ?_
  refine qe_if_ne_F (t := 102) c28_70 rfl e1 ?_
  exact kk
theorem b28_68T {d : Nat} {q : Option Value × qH} {h : qH} {r0 : Nat} {x1 : Int32} {x2 : Int32} {x3 : Int32} {x4 : Int32} {x5 : Int32} {xs0 : Int32}  (e1 : ¬ ((xs0 : Int32) = 0)) (kk : qE d 28 102 [some (.ref r0), some (.int x1), some (.int xs0), some (.int x3), some (.int x4), some (.int x5)] [] h q): qE d 28 68 [some (.ref r0), some (.int x1), some (.int x2), some (.int x3), some (.int x4), some (.int x5)] [.int xs0] h q := by
  refine qe_istore_n (ls2 := [some (.ref r0), some (.int x1), some (.int xs0), some (.int x3), some (.int x4), some (.int x5)]) c28_68 (Nat.le_of_ble_eq_true rfl) rfl ?_
  refine qe_iload_n c28_69 rfl ?_
  refine qe_if_ne_T (t := 102) c28_70 rfl e1 ?_
  exact kk
theorem b28_73F {d : Nat} {q : Option Value × qH} {h : qH} {r0 : Nat} {x1 : Int32} {x2 : Int32} {x3 : Int32} {x4 : Int32} {x5 : Int32}  (e1 : ¬ ((x3 : Int32) = 0)) (kk : qE d 28 77 [some (.ref r0), some (.int x1), some (.int x2), some (.int x3), some (.int x4), some (.int x5)] [] h q): qE d 28 73 [some (.ref r0), some (.int x1), some (.int x2), some (.int x3), some (.int x4), some (.int x5)] [] h q := by
  refine qe_iload_n c28_73 rfl ?_
  refine qe_if_eq_F (t := 83) c28_74 rfl e1 ?_
  exact kk
theorem b28_73T {d : Nat} {q : Option Value × qH} {h : qH} {r0 : Nat} {x1 : Int32} {x2 : Int32} {x3 : Int32} {x4 : Int32} {x5 : Int32}  (e1 : (x3 : Int32) = 0) (kk : qE d 28 83 [some (.ref r0), some (.int x1), some (.int x2), some (.int x3), some (.int x4), some (.int x5)] [] h q): qE d 28 73 [some (.ref r0), some (.int x1), some (.int x2), some (.int x3), some (.int x4), some (.int x5)] [] h q := by
  refine qe_iload_n c28_73 rfl ?_
  refine qe_if_eq_T (t := 83) c28_74 rfl e1 ?_
  exact kk
theorem b28_77 {d : Nat} {q : Option Value × qH} {h : qH} {r0 : Nat} {x1 : Int32} {x2 : Int32} {x3 : Int32} {x4 : Int32} {x5 : Int32} {fs1 : List Value} {h1 : qH}  (e2 : h.2.2 r0 = some (.inr (10, fs1))) (e3 : qCall d 14 [.ref r0, .int x3, .int 0] h (none, h1)) (kk : qE d 28 83 [some (.ref r0), some (.int x1), some (.int x2), some (.int x3), some (.int x4), some (.int x5)] [] h1 q): qE d 28 77 [some (.ref r0), some (.int x1), some (.int x2), some (.int x3), some (.int x4), some (.int x5)] [] h q := by
  refine qe_aload_n c28_77 rfl ?_
  refine qe_iload_n c28_78 rfl ?_
  refine qe_iconst (x := 0) c28_79 (by decide) ?_
  refine qe_virtual (b := r0) (as := [.int x3, .int 0]) (r := []) (v := none) (h2 := h1) c28_80 qo28 qK10_88 rfl rfl rfl (by rw [qo14]; exact e2) (Nat.le_of_ble_eq_true rfl) e3 ?_
  exact kk
theorem b28_83F {d : Nat} {q : Option Value × qH} {h : qH} {r0 : Nat} {x1 : Int32} {x2 : Int32} {x3 : Int32} {x4 : Int32} {x5 : Int32}  (e1 : ¬ ((x5 : Int32) = 43)) (kk : qE d 28 90 [some (.ref r0), some (.int x1), some (.int x2), some (.int x3), some (.int x4), some (.int x5)] [] h q): qE d 28 83 [some (.ref r0), some (.int x1), some (.int x2), some (.int x3), some (.int x4), some (.int x5)] [] h q := by
  refine qe_iload c28_83 rfl ?_
  refine qe_bipush (x := 43) c28_85 (by decide) ?_
  refine qe_icmp_eq_F (t := 99) c28_87 rfl e1 ?_
  exact kk
theorem b28_83T {d : Nat} {q : Option Value × qH} {h : qH} {r0 : Nat} {x1 : Int32} {x2 : Int32} {x3 : Int32} {x4 : Int32} {x5 : Int32}  (e1 : (x5 : Int32) = 43) (kk : qE d 28 99 [some (.ref r0), some (.int x1), some (.int x2), some (.int x3), some (.int x4), some (.int x5)] [] h q): qE d 28 83 [some (.ref r0), some (.int x1), some (.int x2), some (.int x3), some (.int x4), some (.int x5)] [] h q := by
  refine qe_iload c28_83 rfl ?_
  refine qe_bipush (x := 43) c28_85 (by decide) ?_
  refine qe_icmp_eq_T (t := 99) c28_87 rfl e1 ?_
  exact kk
theorem b28_90F {d : Nat} {q : Option Value × qH} {h : qH} {r0 : Nat} {x1 : Int32} {x2 : Int32} {x3 : Int32} {x4 : Int32} {x5 : Int32}  (e1 : ¬ ((x5 : Int32) = 45)) (kk : qE d 28 97 [some (.ref r0), some (.int x1), some (.int x2), some (.int x3), some (.int x4), some (.int x5)] [] h q): qE d 28 90 [some (.ref r0), some (.int x1), some (.int x2), some (.int x3), some (.int x4), some (.int x5)] [] h q := by
  refine qe_iload c28_90 rfl ?_
  refine qe_bipush (x := 45) c28_92 (by decide) ?_
  refine qe_icmp_eq_F (t := 99) c28_94 rfl e1 ?_
  exact kk
theorem b28_90T {d : Nat} {q : Option Value × qH} {h : qH} {r0 : Nat} {x1 : Int32} {x2 : Int32} {x3 : Int32} {x4 : Int32} {x5 : Int32}  (e1 : (x5 : Int32) = 45) (kk : qE d 28 99 [some (.ref r0), some (.int x1), some (.int x2), some (.int x3), some (.int x4), some (.int x5)] [] h q): qE d 28 90 [some (.ref r0), some (.int x1), some (.int x2), some (.int x3), some (.int x4), some (.int x5)] [] h q := by
  refine qe_iload c28_90 rfl ?_
  refine qe_bipush (x := 45) c28_92 (by decide) ?_
  refine qe_icmp_eq_T (t := 99) c28_94 rfl e1 ?_
  exact kk
theorem b28_97 {d : Nat} {h : qH} {r0 : Nat} {x1 : Int32} {x2 : Int32} {x3 : Int32} {x4 : Int32} {x5 : Int32}   : qE d 28 97 [some (.ref r0), some (.int x1), some (.int x2), some (.int x3), some (.int x4), some (.int x5)] [] h (some (.int 1), h) := by
  refine qe_iconst (x := 1) c28_97 (by decide) ?_
  exact qe_zret c28_98 qr28 (by decide)
theorem b28_99 {d : Nat} {q : Option Value × qH} {h : qH} {r0 : Nat} {x1 : Int32} {x2 : Int32} {x3 : Int32} {x4 : Int32} {x5 : Int32}   (kk : qE d 28 102 [some (.ref r0), some (.int x1), some (.int x2), some (.int x5), some (.int x4), some (.int x5)] [] h q): qE d 28 99 [some (.ref r0), some (.int x1), some (.int x2), some (.int x3), some (.int x4), some (.int x5)] [] h q := by
  refine qe_iload c28_99 rfl ?_
  refine qe_istore_n (ls2 := [some (.ref r0), some (.int x1), some (.int x2), some (.int x5), some (.int x4), some (.int x5)]) c28_101 (Nat.le_of_ble_eq_true rfl) rfl ?_
  exact kk
theorem b28_102 {d : Nat} {q : Option Value × qH} {h : qH} {r0 : Nat} {x1 : Int32} {x2 : Int32} {x3 : Int32} {x4 : Int32} {x5 : Int32} {fs1 : List Value} {y3 : Int32} {h1 : qH}  (e2 : h.2.2 r0 = some (.inr (10, fs1))) (e4 : fs1[3]? = some (.int y3)) (e5 : 3 < fs1.length) (e6 : qset h r0 (.inr (10, fs1.set 3 (.int (y3 + 1)))) = h1) (kk : qE d 28 10 [some (.ref r0), some (.int x1), some (.int x2), some (.int x3), some (.int (x4 + (-1))), some (.int x5)] [] h1 q): qE d 28 102 [some (.ref r0), some (.int x1), some (.int x2), some (.int x3), some (.int x4), some (.int x5)] [] h q := by
  refine qe_aload_n c28_102 rfl ?_
  refine qe_dup c28_103 rfl ?_
  refine qe_getfield c28_104 qo28 qF10_57 e2 e4 ?_
  refine qe_iconst (x := 1) c28_107 (by decide) ?_
  refine qe_iadd c28_108 ?_
  refine qe_putfield c28_109 qo28 qF10_57 qz10_3 e2 e5 (by rw [qy10_3]; rfl) ?_
  rw [e6]
  refine qe_iinc (y := (x4 + (-1))) (ls2 := [some (.ref r0), some (.int x1), some (.int x2), some (.int x3), some (.int (x4 + (-1))), some (.int x5)]) c28_112 rfl (Nat.le_of_ble_eq_true rfl) rfl rfl ?_
  refine qe_goto (t := 10) c28_115 rfl ?_
  exact kk
theorem b28_118 {d : Nat} {h : qH} {r0 : Nat} {x1 : Int32} {x2 : Int32} {x3 : Int32} {x4 : Int32} {o5 : Option Value} {fs1 : List Value} {h1 : qH} {z3 : Int32}  (e2 : h.2.2 r0 = some (.inr (10, fs1))) (e4 : qCall d 27 [.ref r0, .int 1] h ((some (.int z3)), h1)) (e5 : (z3 : Int32) = 0 ∨ (z3 : Int32) = 1) : qE d 28 118 [some (.ref r0), some (.int x1), some (.int x2), some (.int x3), some (.int x4), o5] [] h (some (.int z3), h1) := by
  refine qe_aload_n c28_118 rfl ?_
  refine qe_iconst (x := 1) c28_119 (by decide) ?_
  refine qe_virtual (b := r0) (as := [.int 1]) (r := []) (v := (some (.int z3))) (h2 := h1) c28_120 qo28 qK10_78 rfl rfl rfl (by rw [qo27]; exact e2) (Nat.le_of_ble_eq_true rfl) e4 ?_
  exact qe_zret c28_123 qr28 e5
theorem b29_0F {d : Nat} {q : Option Value × qH} {h : qH} {r0 : Nat} {x1 : Int32} {fs1 : List Value} {h1 : qH} {z3 : Int32}  (e2 : h.2.2 r0 = some (.inr (10, fs1))) (e4 : qCall d 23 [.ref r0] h ((some (.int z3)), h1)) (e5 : ¬ ((z3 : Int32) = x1)) (kk : qE d 29 8 [some (.ref r0), some (.int x1)] [] h1 q): qE d 29 0 [some (.ref r0), some (.int x1)] [] h q := by
  refine qe_aload_n c29_0 rfl ?_
  refine qe_virtual (b := r0) (as := []) (r := []) (v := (some (.int z3))) (h2 := h1) c29_1 qo29 qK10_74 rfl rfl rfl (by rw [qo23]; exact e2) (Nat.le_of_ble_eq_true rfl) e4 ?_
  refine qe_iload_n c29_4 rfl ?_
  refine qe_icmp_eq_F (t := 14) c29_5 rfl e5 ?_
  exact kk
theorem b29_0T {d : Nat} {q : Option Value × qH} {h : qH} {r0 : Nat} {x1 : Int32} {fs1 : List Value} {h1 : qH} {z3 : Int32}  (e2 : h.2.2 r0 = some (.inr (10, fs1))) (e4 : qCall d 23 [.ref r0] h ((some (.int z3)), h1)) (e5 : (z3 : Int32) = x1) (kk : qE d 29 14 [some (.ref r0), some (.int x1)] [] h1 q): qE d 29 0 [some (.ref r0), some (.int x1)] [] h q := by
  refine qe_aload_n c29_0 rfl ?_
  refine qe_virtual (b := r0) (as := []) (r := []) (v := (some (.int z3))) (h2 := h1) c29_1 qo29 qK10_74 rfl rfl rfl (by rw [qo23]; exact e2) (Nat.le_of_ble_eq_true rfl) e4 ?_
  refine qe_iload_n c29_4 rfl ?_
  refine qe_icmp_eq_T (t := 14) c29_5 rfl e5 ?_
  exact kk
theorem b29_8 {d : Nat} {h : qH} {r0 : Nat} {x1 : Int32} {fs1 : List Value} {h1 : qH} {z3 : Int32}  (e2 : h.2.2 r0 = some (.inr (10, fs1))) (e4 : qCall d 27 [.ref r0, .int 1] h ((some (.int z3)), h1)) (e5 : (z3 : Int32) = 0 ∨ (z3 : Int32) = 1) : qE d 29 8 [some (.ref r0), some (.int x1)] [] h (some (.int z3), h1) := by
  refine qe_aload_n c29_8 rfl ?_
  refine qe_iconst (x := 1) c29_9 (by decide) ?_
  refine qe_virtual (b := r0) (as := [.int 1]) (r := []) (v := (some (.int z3))) (h2 := h1) c29_10 qo29 qK10_78 rfl rfl rfl (by rw [qo27]; exact e2) (Nat.le_of_ble_eq_true rfl) e4 ?_
  exact qe_zret c29_13 qr29 e5
theorem b29_14 {d : Nat} {h : qH} {r0 : Nat} {x1 : Int32} {fs1 : List Value} {y3 : Int32} {h1 : qH}  (e2 : h.2.2 r0 = some (.inr (10, fs1))) (e4 : fs1[3]? = some (.int y3)) (e5 : 3 < fs1.length) (e6 : qset h r0 (.inr (10, fs1.set 3 (.int (y3 + 1)))) = h1) : qE d 29 14 [some (.ref r0), some (.int x1)] [] h (some (.int 1), h1) := by
  refine qe_aload_n c29_14 rfl ?_
  refine qe_dup c29_15 rfl ?_
  refine qe_getfield c29_16 qo29 qF10_57 e2 e4 ?_
  refine qe_iconst (x := 1) c29_19 (by decide) ?_
  refine qe_iadd c29_20 ?_
  refine qe_putfield c29_21 qo29 qF10_57 qz10_3 e2 e5 (by rw [qy10_3]; rfl) ?_
  rw [e6]
  refine qe_iconst (x := 1) c29_24 (by decide) ?_
  exact qe_zret c29_25 qr29 (by decide)
theorem b30_0F {d : Nat} {q : Option Value × qH} {h : qH} {r0 : Nat} {x1 : Int32} {fs1 : List Value} {y3 : Nat} {fs5 : List Value} {y7 : Int32}  (e2 : h.2.2 r0 = some (.inr (11, fs1))) (e4 : fs1[0]? = some (.ref y3)) (e6 : h.2.2 y3 = some (.inr (4, fs5))) (e8 : fs5[2]? = some (.int y7)) (e9 : (y7 : Int32) = 0) (kk : qE d 30 10 [some (.ref r0), some (.int x1)] [] h q): qE d 30 0 [some (.ref r0), some (.int x1)] [] h q := by
  refine qe_aload_n c30_0 rfl ?_
  refine qe_getfield c30_1 qo30 qF11_10 e2 e4 ?_
  refine qe_getfield c30_4 qo30 qF11_130 e6 e8 ?_
  refine qe_if_ne_F (t := 14) c30_7 rfl e9 ?_
  exact kk
theorem b30_0T {d : Nat} {q : Option Value × qH} {h : qH} {r0 : Nat} {x1 : Int32} {fs1 : List Value} {y3 : Nat} {fs5 : List Value} {y7 : Int32}  (e2 : h.2.2 r0 = some (.inr (11, fs1))) (e4 : fs1[0]? = some (.ref y3)) (e6 : h.2.2 y3 = some (.inr (4, fs5))) (e8 : fs5[2]? = some (.int y7)) (e9 : ¬ ((y7 : Int32) = 0)) (kk : qE d 30 14 [some (.ref r0), some (.int x1)] [] h q): qE d 30 0 [some (.ref r0), some (.int x1)] [] h q := by
  refine qe_aload_n c30_0 rfl ?_
  refine qe_getfield c30_1 qo30 qF11_10 e2 e4 ?_
  refine qe_getfield c30_4 qo30 qF11_130 e6 e8 ?_
  refine qe_if_ne_T (t := 14) c30_7 rfl e9 ?_
  exact kk
theorem b30_10 {d : Nat} {h : qH} {r0 : Nat} {x1 : Int32}   : qE d 30 10 [some (.ref r0), some (.int x1)] [] h (some (.long (-2)), h) := by
  refine qe_ldc2_w (x := (-2)) c30_10 qo30 qJ11_325 ?_
  exact qe_lret c30_13 qr30
theorem b30_14F {d : Nat} {q : Option Value × qH} {h : qH} {r0 : Nat} {x1 : Int32}  (e1 : ¬ ((x1 : Int32) = (-1))) (kk : qE d 30 19 [some (.ref r0), some (.int x1)] [] h q): qE d 30 14 [some (.ref r0), some (.int x1)] [] h q := by
  refine qe_iload_n c30_14 rfl ?_
  refine qe_iconst (x := (-1)) c30_15 (by decide) ?_
  refine qe_icmp_eq_F (t := 34) c30_16 rfl e1 ?_
  exact kk
theorem b30_14T {d : Nat} {q : Option Value × qH} {h : qH} {r0 : Nat} {x1 : Int32}  (e1 : (x1 : Int32) = (-1)) (kk : qE d 30 34 [some (.ref r0), some (.int x1)] [] h q): qE d 30 14 [some (.ref r0), some (.int x1)] [] h q := by
  refine qe_iload_n c30_14 rfl ?_
  refine qe_iconst (x := (-1)) c30_15 (by decide) ?_
  refine qe_icmp_eq_T (t := 34) c30_16 rfl e1 ?_
  exact kk
theorem b30_19F {d : Nat} {q : Option Value × qH} {h : qH} {r0 : Nat} {x1 : Int32} {fs1 : List Value} {y3 : Nat} {fs5 : List Value} {h1 : qH} {z7 : Int32}  (e2 : h.2.2 r0 = some (.inr (11, fs1))) (e4 : fs1[0]? = some (.ref y3)) (e6 : h.2.2 y3 = some (.inr (4, fs5))) (e8 : qCall d 216 [.ref y3, .int x1] h ((some (.int z7)), h1)) (e9 : (z7 : Int32) = 0) (kk : qE d 30 30 [some (.ref r0), some (.int x1)] [] h1 q): qE d 30 19 [some (.ref r0), some (.int x1)] [] h q := by
  refine qe_aload_n c30_19 rfl ?_
  refine qe_getfield c30_20 qo30 qF11_10 e2 e4 ?_
  refine qe_iload_n c30_23 rfl ?_
  refine qe_virtual (b := y3) (as := [.int x1]) (r := []) (v := (some (.int z7))) (h2 := h1) c30_24 qo30 qK11_152 rfl rfl rfl (by rw [qo216]; exact e6) (Nat.le_of_ble_eq_true rfl) e8 ?_
  refine qe_if_ne_F (t := 34) c30_27 rfl e9 ?_
  exact kk
theorem b30_19T {d : Nat} {q : Option Value × qH} {h : qH} {r0 : Nat} {x1 : Int32} {fs1 : List Value} {y3 : Nat} {fs5 : List Value} {h1 : qH} {z7 : Int32}  (e2 : h.2.2 r0 = some (.inr (11, fs1))) (e4 : fs1[0]? = some (.ref y3)) (e6 : h.2.2 y3 = some (.inr (4, fs5))) (e8 : qCall d 216 [.ref y3, .int x1] h ((some (.int z7)), h1)) (e9 : ¬ ((z7 : Int32) = 0)) (kk : qE d 30 34 [some (.ref r0), some (.int x1)] [] h1 q): qE d 30 19 [some (.ref r0), some (.int x1)] [] h q := by
  refine qe_aload_n c30_19 rfl ?_
  refine qe_getfield c30_20 qo30 qF11_10 e2 e4 ?_
  refine qe_iload_n c30_23 rfl ?_
  refine qe_virtual (b := y3) (as := [.int x1]) (r := []) (v := (some (.int z7))) (h2 := h1) c30_24 qo30 qK11_152 rfl rfl rfl (by rw [qo216]; exact e6) (Nat.le_of_ble_eq_true rfl) e8 ?_
  refine qe_if_ne_T (t := 34) c30_27 rfl e9 ?_
  exact kk
theorem b30_30 {d : Nat} {h : qH} {r0 : Nat} {x1 : Int32}   : qE d 30 30 [some (.ref r0), some (.int x1)] [] h (some (.long (-1)), h) := by
  refine qe_ldc2_w (x := (-1)) c30_30 qo30 qJ11_272 ?_
  exact qe_lret c30_33 qr30
theorem b30_34F {d : Nat} {q : Option Value × qH} {h : qH} {r0 : Nat} {x1 : Int32} {fs1 : List Value} {y3 : Nat} {y5 : Nat} {y7 : Nat} {fs9 : List Value} {h1 : qH} {z11 : Int32}  (e2 : h.2.2 r0 = some (.inr (11, fs1))) (e4 : fs1[10]? = some (.ref y3)) (e6 : fs1[0]? = some (.ref y5)) (e8 : fs1[1]? = some (.ref y7)) (e10 : h.2.2 y3 = some (.inr (1, fs9))) (e12 : qCall d 192 [.ref y3, .ref y5, .ref y7] h ((some (.int z11)), h1)) (e13 : (z11 : Int32) = 0) (kk : qE d 30 52 [some (.ref r0), some (.int x1)] [] h1 q): qE d 30 34 [some (.ref r0), some (.int x1)] [] h q := by
  refine qe_aload_n c30_34 rfl ?_
  refine qe_getfield c30_35 qo30 qF11_76 e2 e4 ?_
  refine qe_aload_n c30_38 rfl ?_
  refine qe_getfield c30_39 qo30 qF11_10 e2 e6 ?_
  refine qe_aload_n c30_42 rfl ?_
  refine qe_getfield c30_43 qo30 qF11_19 e2 e8 ?_
  refine qe_virtual (b := y3) (as := [.ref y5, .ref y7]) (r := []) (v := (some (.int z11))) (h2 := h1) c30_46 qo30 qK11_327 rfl rfl rfl (by rw [qo192]; exact e10) (Nat.le_of_ble_eq_true rfl) e12 ?_
  refine qe_if_ne_F (t := 56) c30_49 rfl e13 ?_
  exact kk
theorem b30_34T {d : Nat} {q : Option Value × qH} {h : qH} {r0 : Nat} {x1 : Int32} {fs1 : List Value} {y3 : Nat} {y5 : Nat} {y7 : Nat} {fs9 : List Value} {h1 : qH} {z11 : Int32}  (e2 : h.2.2 r0 = some (.inr (11, fs1))) (e4 : fs1[10]? = some (.ref y3)) (e6 : fs1[0]? = some (.ref y5)) (e8 : fs1[1]? = some (.ref y7)) (e10 : h.2.2 y3 = some (.inr (1, fs9))) (e12 : qCall d 192 [.ref y3, .ref y5, .ref y7] h ((some (.int z11)), h1)) (e13 : ¬ ((z11 : Int32) = 0)) (kk : qE d 30 56 [some (.ref r0), some (.int x1)] [] h1 q): qE d 30 34 [some (.ref r0), some (.int x1)] [] h q := by
  refine qe_aload_n c30_34 rfl ?_
  refine qe_getfield c30_35 qo30 qF11_76 e2 e4 ?_
  refine qe_aload_n c30_38 rfl ?_
  refine qe_getfield c30_39 qo30 qF11_10 e2 e6 ?_
  refine qe_aload_n c30_42 rfl ?_
  refine qe_getfield c30_43 qo30 qF11_19 e2 e8 ?_
  refine qe_virtual (b := y3) (as := [.ref y5, .ref y7]) (r := []) (v := (some (.int z11))) (h2 := h1) c30_46 qo30 qK11_327 rfl rfl rfl (by rw [qo192]; exact e10) (Nat.le_of_ble_eq_true rfl) e12 ?_
  refine qe_if_ne_T (t := 56) c30_49 rfl e13 ?_
  exact kk
theorem b30_52 {d : Nat} {h : qH} {r0 : Nat} {x1 : Int32}   : qE d 30 52 [some (.ref r0), some (.int x1)] [] h (some (.long (-2)), h) := by
  refine qe_ldc2_w (x := (-2)) c30_52 qo30 qJ11_325 ?_
  exact qe_lret c30_55 qr30
theorem b30_56F {d : Nat} {q : Option Value × qH} {h : qH} {r0 : Nat} {x1 : Int32}  (e1 : (x1 : Int32) = (-1)) (kk : qE d 30 61 [some (.ref r0), some (.int x1)] [] h q): qE d 30 56 [some (.ref r0), some (.int x1)] [] h q := by
  refine qe_iload_n c30_56 rfl ?_
  refine qe_iconst (x := (-1)) c30_57 (by decide) ?_
  refine qe_icmp_ne_F (t := 74) c30_58 rfl e1 ?_
  exact kk
theorem b30_56T {d : Nat} {q : Option Value × qH} {h : qH} {r0 : Nat} {x1 : Int32}  (e1 : ¬ ((x1 : Int32) = (-1))) (kk : qE d 30 74 [some (.ref r0), some (.int x1)] [] h q): qE d 30 56 [some (.ref r0), some (.int x1)] [] h q := by
  refine qe_iload_n c30_56 rfl ?_
  refine qe_iconst (x := (-1)) c30_57 (by decide) ?_
  refine qe_icmp_ne_T (t := 74) c30_58 rfl e1 ?_
  exact kk
theorem b30_61 {d : Nat} {q : Option Value × qH} {h : qH} {r0 : Nat} {x1 : Int32} {fs1 : List Value} {y3 : Nat} {fs5 : List Value} {y7 : Nat} {n9 : Nat} {f10 : Nat → Int32}  (e2 : h.2.2 r0 = some (.inr (11, fs1))) (e4 : fs1[10]? = some (.ref y3)) (e6 : h.2.2 y3 = some (.inr (1, fs5))) (e8 : fs5[3]? = some (.ref y7)) (e11 : h.2.2 y7 = some (.inl (0, n9, .inl f10))) (e12 : 0 ≤ (0 : Int32).toInt ∧ (0 : Int32).toInt < (n9 : Nat)) (kk : qE d 30 84 [some (.ref r0), some (.int x1)] [.long ((f10 (0 : Int32).toNatClampNeg) : Int32).toInt64] h q): qE d 30 61 [some (.ref r0), some (.int x1)] [] h q := by
  refine qe_aload_n c30_61 rfl ?_
  refine qe_getfield c30_62 qo30 qF11_76 e2 e4 ?_
  refine qe_getfield c30_65 qo30 qF11_331 e6 e8 ?_
  refine qe_iconst (x := 0) c30_68 (by decide) ?_
  refine qe_iaload c30_69 e11 e12 ?_
  refine qe_i2l c30_70 ?_
  refine qe_goto (t := 84) c30_71 rfl ?_
  exact kk
theorem b30_74 {d : Nat} {q : Option Value × qH} {h : qH} {r0 : Nat} {x1 : Int32} {fs1 : List Value} {y3 : Nat} {fs5 : List Value} {y7 : Nat} {n9 : Nat} {f10 : Nat → Int32}  (e2 : h.2.2 r0 = some (.inr (11, fs1))) (e4 : fs1[10]? = some (.ref y3)) (e6 : h.2.2 y3 = some (.inr (1, fs5))) (e8 : fs5[2]? = some (.ref y7)) (e11 : h.2.2 y7 = some (.inl (0, n9, .inl f10))) (e12 : 0 ≤ (x1 : Int32).toInt ∧ (x1 : Int32).toInt < (n9 : Nat)) (kk : qE d 30 84 [some (.ref r0), some (.int x1)] [.long ((f10 (x1 : Int32).toNatClampNeg) : Int32).toInt64] h q): qE d 30 74 [some (.ref r0), some (.int x1)] [] h q := by
  refine qe_aload_n c30_74 rfl ?_
  refine qe_getfield c30_75 qo30 qF11_76 e2 e4 ?_
  refine qe_getfield c30_78 qo30 qF11_334 e6 e8 ?_
  refine qe_iload_n c30_81 rfl ?_
  refine qe_iaload c30_82 e11 e12 ?_
  refine qe_i2l c30_83 ?_
  exact kk
theorem b30_84 {d : Nat} {h : qH} {r0 : Nat} {x1 : Int32} {ls0 : Int64}   : qE d 30 84 [some (.ref r0), some (.int x1)] [.long ls0] h (some (.long ls0), h) := by
  exact qe_lret c30_84 qr30
theorem b31_0F {d : Nat} {q : Option Value × qH} {h : qH} {r0 : Nat} {x1 : Int32} {fs1 : List Value} {h1 : qH} {z3 : Int32}  (e2 : h.2.2 r0 = some (.inr (11, fs1))) (e4 : qCall d 52 [.ref r0, .int x1] h ((some (.int z3)), h1)) (e5 : ¬ ((z3 : Int32) = 0)) (kk : qE d 31 8 [some (.ref r0), some (.int x1)] [] h1 q): qE d 31 0 [some (.ref r0), some (.int x1)] [] h q := by
  refine qe_aload_n c31_0 rfl ?_
  refine qe_iload_n c31_1 rfl ?_
  refine qe_virtual (b := r0) (as := [.int x1]) (r := []) (v := (some (.int z3))) (h2 := h1) c31_2 qo31 qK11_258 rfl rfl rfl (by rw [qo52]; exact e2) (Nat.le_of_ble_eq_true rfl) e4 ?_
  refine qe_if_eq_F (t := 17) c31_5 rfl e5 ?_
  exact kk
theorem b31_0T {d : Nat} {q : Option Value × qH} {h : qH} {r0 : Nat} {x1 : Int32} {fs1 : List Value} {h1 : qH} {z3 : Int32}  (e2 : h.2.2 r0 = some (.inr (11, fs1))) (e4 : qCall d 52 [.ref r0, .int x1] h ((some (.int z3)), h1)) (e5 : (z3 : Int32) = 0) (kk : qE d 31 17 [some (.ref r0), some (.int x1)] [] h1 q): qE d 31 0 [some (.ref r0), some (.int x1)] [] h q := by
  refine qe_aload_n c31_0 rfl ?_
  refine qe_iload_n c31_1 rfl ?_
  refine qe_virtual (b := r0) (as := [.int x1]) (r := []) (v := (some (.int z3))) (h2 := h1) c31_2 qo31 qK11_258 rfl rfl rfl (by rw [qo52]; exact e2) (Nat.le_of_ble_eq_true rfl) e4 ?_
  refine qe_if_eq_T (t := 17) c31_5 rfl e5 ?_
  exact kk
theorem b31_8 {d : Nat} {q : Option Value × qH} {h : qH} {r0 : Nat} {x1 : Int32} {fs1 : List Value} {y3 : Nat} {n5 : Nat} {f6 : Nat → Int32}  (e2 : h.2.2 r0 = some (.inr (11, fs1))) (e4 : fs1[3]? = some (.ref y3)) (e7 : h.2.2 y3 = some (.inl (0, n5, .inl f6))) (e8 : 0 ≤ (x1 : Int32).toInt ∧ (x1 : Int32).toInt < (n5 : Nat)) (kk : qE d 31 18 [some (.ref r0), some (.int x1)] [.int (f6 (x1 : Int32).toNatClampNeg)] h q): qE d 31 8 [some (.ref r0), some (.int x1)] [] h q := by
  refine qe_aload_n c31_8 rfl ?_
  refine qe_getfield c31_9 qo31 qF11_27 e2 e4 ?_
  refine qe_iload_n c31_12 rfl ?_
  refine qe_iaload c31_13 e7 e8 ?_
  refine qe_goto (t := 18) c31_14 rfl ?_
  exact kk
theorem b31_17 {d : Nat} {q : Option Value × qH} {h : qH} {r0 : Nat} {x1 : Int32}   (kk : qE d 31 18 [some (.ref r0), some (.int x1)] [.int (-1)] h q): qE d 31 17 [some (.ref r0), some (.int x1)] [] h q := by
  refine qe_iconst (x := (-1)) c31_17 (by decide) ?_
  exact kk
theorem b31_18 {d : Nat} {h : qH} {r0 : Nat} {x1 : Int32} {xs0 : Int32}   : qE d 31 18 [some (.ref r0), some (.int x1)] [.int xs0] h (some (.int xs0), h) := by
  exact qe_iret c31_18 qr31
theorem b32_0F {d : Nat} {q : Option Value × qH} {h : qH} {r0 : Nat} {x1 : Int32} {x2 : Int32} {fs1 : List Value} {y3 : Nat} {fs5 : List Value} {h1 : qH} {z7 : Int32}  (e2 : h.2.2 r0 = some (.inr (11, fs1))) (e4 : fs1[9]? = some (.ref y3)) (e6 : h.2.2 y3 = some (.inr (2, fs5))) (e8 : qCall d 203 [.ref y3, .int x1] h ((some (.int z7)), h1)) (e9 : ¬ ((z7 : Int32) = 0)) (kk : qE d 32 11 [some (.ref r0), some (.int x1), some (.int x2)] [] h1 q): qE d 32 0 [some (.ref r0), some (.int x1), some (.int x2)] [] h q := by
  refine qe_aload_n c32_0 rfl ?_
  refine qe_getfield c32_1 qo32 qF11_69 e2 e4 ?_
  refine qe_iload_n c32_4 rfl ?_
  refine qe_virtual (b := y3) (as := [.int x1]) (r := []) (v := (some (.int z7))) (h2 := h1) c32_5 qo32 qK11_309 rfl rfl rfl (by rw [qo203]; exact e6) (Nat.le_of_ble_eq_true rfl) e8 ?_
  refine qe_if_eq_F (t := 39) c32_8 rfl e9 ?_
  exact kk
theorem b32_0T {d : Nat} {q : Option Value × qH} {h : qH} {r0 : Nat} {x1 : Int32} {x2 : Int32} {fs1 : List Value} {y3 : Nat} {fs5 : List Value} {h1 : qH} {z7 : Int32}  (e2 : h.2.2 r0 = some (.inr (11, fs1))) (e4 : fs1[9]? = some (.ref y3)) (e6 : h.2.2 y3 = some (.inr (2, fs5))) (e8 : qCall d 203 [.ref y3, .int x1] h ((some (.int z7)), h1)) (e9 : (z7 : Int32) = 0) (kk : qE d 32 39 [some (.ref r0), some (.int x1), some (.int x2)] [] h1 q): qE d 32 0 [some (.ref r0), some (.int x1), some (.int x2)] [] h q := by
  refine qe_aload_n c32_0 rfl ?_
  refine qe_getfield c32_1 qo32 qF11_69 e2 e4 ?_
  refine qe_iload_n c32_4 rfl ?_
  refine qe_virtual (b := y3) (as := [.int x1]) (r := []) (v := (some (.int z7))) (h2 := h1) c32_5 qo32 qK11_309 rfl rfl rfl (by rw [qo203]; exact e6) (Nat.le_of_ble_eq_true rfl) e8 ?_
  refine qe_if_eq_T (t := 39) c32_8 rfl e9 ?_
  exact kk
theorem b32_11F {d : Nat} {q : Option Value × qH} {h : qH} {r0 : Nat} {x1 : Int32} {x2 : Int32} {fs1 : List Value} {y3 : Nat} {fs5 : List Value} {h1 : qH} {z7 : Int32}  (e2 : h.2.2 r0 = some (.inr (11, fs1))) (e4 : fs1[9]? = some (.ref y3)) (e6 : h.2.2 y3 = some (.inr (2, fs5))) (e8 : qCall d 203 [.ref y3, .int x2] h ((some (.int z7)), h1)) (e9 : ¬ ((z7 : Int32) = 0)) (kk : qE d 32 22 [some (.ref r0), some (.int x1), some (.int x2)] [] h1 q): qE d 32 11 [some (.ref r0), some (.int x1), some (.int x2)] [] h q := by
  refine qe_aload_n c32_11 rfl ?_
  refine qe_getfield c32_12 qo32 qF11_69 e2 e4 ?_
  refine qe_iload_n c32_15 rfl ?_
  refine qe_virtual (b := y3) (as := [.int x2]) (r := []) (v := (some (.int z7))) (h2 := h1) c32_16 qo32 qK11_309 rfl rfl rfl (by rw [qo203]; exact e6) (Nat.le_of_ble_eq_true rfl) e8 ?_
  refine qe_if_eq_F (t := 39) c32_19 rfl e9 ?_
  exact kk
theorem b32_11T {d : Nat} {q : Option Value × qH} {h : qH} {r0 : Nat} {x1 : Int32} {x2 : Int32} {fs1 : List Value} {y3 : Nat} {fs5 : List Value} {h1 : qH} {z7 : Int32}  (e2 : h.2.2 r0 = some (.inr (11, fs1))) (e4 : fs1[9]? = some (.ref y3)) (e6 : h.2.2 y3 = some (.inr (2, fs5))) (e8 : qCall d 203 [.ref y3, .int x2] h ((some (.int z7)), h1)) (e9 : (z7 : Int32) = 0) (kk : qE d 32 39 [some (.ref r0), some (.int x1), some (.int x2)] [] h1 q): qE d 32 11 [some (.ref r0), some (.int x1), some (.int x2)] [] h q := by
  refine qe_aload_n c32_11 rfl ?_
  refine qe_getfield c32_12 qo32 qF11_69 e2 e4 ?_
  refine qe_iload_n c32_15 rfl ?_
  refine qe_virtual (b := y3) (as := [.int x2]) (r := []) (v := (some (.int z7))) (h2 := h1) c32_16 qo32 qK11_309 rfl rfl rfl (by rw [qo203]; exact e6) (Nat.le_of_ble_eq_true rfl) e8 ?_
  refine qe_if_eq_T (t := 39) c32_19 rfl e9 ?_
  exact kk
theorem b32_22F {d : Nat} {q : Option Value × qH} {h : qH} {r0 : Nat} {x1 : Int32} {x2 : Int32}  (e1 : ¬ ((x1 : Int32) = x2)) (kk : qE d 32 27 [some (.ref r0), some (.int x1), some (.int x2)] [] h q): qE d 32 22 [some (.ref r0), some (.int x1), some (.int x2)] [] h q := by
  refine qe_iload_n c32_22 rfl ?_
  refine qe_iload_n c32_23 rfl ?_
  refine qe_icmp_eq_F (t := 39) c32_24 rfl e1 ?_
  exact kk
theorem b32_22T {d : Nat} {q : Option Value × qH} {h : qH} {r0 : Nat} {x1 : Int32} {x2 : Int32}  (e1 : (x1 : Int32) = x2) (kk : qE d 32 39 [some (.ref r0), some (.int x1), some (.int x2)] [] h q): qE d 32 22 [some (.ref r0), some (.int x1), some (.int x2)] [] h q := by
  refine qe_iload_n c32_22 rfl ?_
  refine qe_iload_n c32_23 rfl ?_
  refine qe_icmp_eq_T (t := 39) c32_24 rfl e1 ?_
  exact kk
theorem b32_27F {d : Nat} {q : Option Value × qH} {h : qH} {r0 : Nat} {x1 : Int32} {x2 : Int32} {fs1 : List Value} {y3 : Nat} {fs5 : List Value} {y7 : Int32}  (e2 : h.2.2 r0 = some (.inr (11, fs1))) (e4 : fs1[9]? = some (.ref y3)) (e6 : h.2.2 y3 = some (.inr (2, fs5))) (e8 : fs5[1]? = some (.int y7)) (e9 : ¬ ((y7 : Int32) < 100)) (kk : qE d 32 39 [some (.ref r0), some (.int x1), some (.int x2)] [] h q): qE d 32 27 [some (.ref r0), some (.int x1), some (.int x2)] [] h q := by
  refine qe_aload_n c32_27 rfl ?_
  refine qe_getfield c32_28 qo32 qF11_69 e2 e4 ?_
  refine qe_getfield c32_31 qo32 qF11_312 e6 e8 ?_
  refine qe_bipush (x := 100) c32_34 (by decide) ?_
  refine qe_icmp_lt_F (t := 41) c32_36 rfl e9 ?_
  exact kk
theorem b32_27T {d : Nat} {q : Option Value × qH} {h : qH} {r0 : Nat} {x1 : Int32} {x2 : Int32} {fs1 : List Value} {y3 : Nat} {fs5 : List Value} {y7 : Int32}  (e2 : h.2.2 r0 = some (.inr (11, fs1))) (e4 : fs1[9]? = some (.ref y3)) (e6 : h.2.2 y3 = some (.inr (2, fs5))) (e8 : fs5[1]? = some (.int y7)) (e9 : (y7 : Int32) < 100) (kk : qE d 32 41 [some (.ref r0), some (.int x1), some (.int x2)] [] h q): qE d 32 27 [some (.ref r0), some (.int x1), some (.int x2)] [] h q := by
  refine qe_aload_n c32_27 rfl ?_
  refine qe_getfield c32_28 qo32 qF11_69 e2 e4 ?_
  refine qe_getfield c32_31 qo32 qF11_312 e6 e8 ?_
  refine qe_bipush (x := 100) c32_34 (by decide) ?_
  refine qe_icmp_lt_T (t := 41) c32_36 rfl e9 ?_
  exact kk
theorem b32_39 {d : Nat} {h : qH} {r0 : Nat} {x1 : Int32} {x2 : Int32}   : qE d 32 39 [some (.ref r0), some (.int x1), some (.int x2)] [] h (some (.int 0), h) := by
  refine qe_iconst (x := 0) c32_39 (by decide) ?_
  exact qe_zret c32_40 qr32 (by decide)
theorem b32_41 {d : Nat} {h : qH} {r0 : Nat} {x1 : Int32} {x2 : Int32} {fs1 : List Value} {y3 : Nat} {fs5 : List Value} {h1 : qH}  (e2 : h.2.2 r0 = some (.inr (11, fs1))) (e4 : fs1[9]? = some (.ref y3)) (e6 : h.2.2 y3 = some (.inr (2, fs5))) (e7 : qCall d 199 [.ref y3, .int x1, .int x2] h (none, h1)) : qE d 32 41 [some (.ref r0), some (.int x1), some (.int x2)] [] h (some (.int 1), h1) := by
  refine qe_aload_n c32_41 rfl ?_
  refine qe_getfield c32_42 qo32 qF11_69 e2 e4 ?_
  refine qe_iload_n c32_45 rfl ?_
  refine qe_iload_n c32_46 rfl ?_
  refine qe_virtual (b := y3) (as := [.int x1, .int x2]) (r := []) (v := none) (h2 := h1) c32_47 qo32 qK11_314 rfl rfl rfl (by rw [qo199]; exact e6) (Nat.le_of_ble_eq_true rfl) e7 ?_
  refine qe_iconst (x := 1) c32_50 (by decide) ?_
  exact qe_zret c32_51 qr32 (by decide)
theorem b33_0F {d : Nat} {q : Option Value × qH} {h : qH} {r0 : Nat} {x1 : Int32} {x2 : Int32} {x3 : Int32} {fs1 : List Value} {y3 : Nat} {fs5 : List Value} {h1 : qH} {z7 : Int32}  (e2 : h.2.2 r0 = some (.inr (11, fs1))) (e4 : fs1[0]? = some (.ref y3)) (e6 : h.2.2 y3 = some (.inr (4, fs5))) (e8 : qCall d 216 [.ref y3, .int x1] h ((some (.int z7)), h1)) (e9 : ¬ ((z7 : Int32) = 0)) (kk : qE d 33 11 [some (.ref r0), some (.int x1), some (.int x2), some (.int x3)] [] h1 q): qE d 33 0 [some (.ref r0), some (.int x1), some (.int x2), some (.int x3)] [] h q := by
  refine qe_aload_n c33_0 rfl ?_
  refine qe_getfield c33_1 qo33 qF11_10 e2 e4 ?_
  refine qe_iload_n c33_4 rfl ?_
  refine qe_virtual (b := y3) (as := [.int x1]) (r := []) (v := (some (.int z7))) (h2 := h1) c33_5 qo33 qK11_152 rfl rfl rfl (by rw [qo216]; exact e6) (Nat.le_of_ble_eq_true rfl) e8 ?_
  refine qe_if_eq_F (t := 21) c33_8 rfl e9 ?_
  exact kk
theorem b33_0T {d : Nat} {q : Option Value × qH} {h : qH} {r0 : Nat} {x1 : Int32} {x2 : Int32} {x3 : Int32} {fs1 : List Value} {y3 : Nat} {fs5 : List Value} {h1 : qH} {z7 : Int32}  (e2 : h.2.2 r0 = some (.inr (11, fs1))) (e4 : fs1[0]? = some (.ref y3)) (e6 : h.2.2 y3 = some (.inr (4, fs5))) (e8 : qCall d 216 [.ref y3, .int x1] h ((some (.int z7)), h1)) (e9 : (z7 : Int32) = 0) (kk : qE d 33 21 [some (.ref r0), some (.int x1), some (.int x2), some (.int x3)] [] h1 q): qE d 33 0 [some (.ref r0), some (.int x1), some (.int x2), some (.int x3)] [] h q := by
  refine qe_aload_n c33_0 rfl ?_
  refine qe_getfield c33_1 qo33 qF11_10 e2 e4 ?_
  refine qe_iload_n c33_4 rfl ?_
  refine qe_virtual (b := y3) (as := [.int x1]) (r := []) (v := (some (.int z7))) (h2 := h1) c33_5 qo33 qK11_152 rfl rfl rfl (by rw [qo216]; exact e6) (Nat.le_of_ble_eq_true rfl) e8 ?_
  refine qe_if_eq_T (t := 21) c33_8 rfl e9 ?_
  exact kk
theorem b33_11F {d : Nat} {q : Option Value × qH} {h : qH} {r0 : Nat} {x1 : Int32} {x2 : Int32} {x3 : Int32} {h1 : qH} {z1 : Int32}  (e2 : qCall d 80 [.int x3, .int 1, .int 100] h ((some (.int z1)), h1)) (e3 : (z1 : Int32) = 0) (kk : qE d 33 21 [some (.ref r0), some (.int x1), some (.int x2), some (.int x3)] [] h1 q): qE d 33 11 [some (.ref r0), some (.int x1), some (.int x2), some (.int x3)] [] h q := by
  refine qe_iload_n c33_11 rfl ?_
  refine qe_iconst (x := 1) c33_12 (by decide) ?_
  refine qe_bipush (x := 100) c33_13 (by decide) ?_
  refine qe_static (as := [.int x3, .int 1, .int 100]) (r := []) (v := (some (.int z1))) (h2 := h1) c33_15 qo33 (by decide) qK11_108 rfl rfl rfl (Nat.le_of_ble_eq_true rfl) e2 ?_
  refine qe_if_ne_F (t := 23) c33_18 rfl e3 ?_
  exact kk
theorem b33_11T {d : Nat} {q : Option Value × qH} {h : qH} {r0 : Nat} {x1 : Int32} {x2 : Int32} {x3 : Int32} {h1 : qH} {z1 : Int32}  (e2 : qCall d 80 [.int x3, .int 1, .int 100] h ((some (.int z1)), h1)) (e3 : ¬ ((z1 : Int32) = 0)) (kk : qE d 33 23 [some (.ref r0), some (.int x1), some (.int x2), some (.int x3)] [] h1 q): qE d 33 11 [some (.ref r0), some (.int x1), some (.int x2), some (.int x3)] [] h q := by
  refine qe_iload_n c33_11 rfl ?_
  refine qe_iconst (x := 1) c33_12 (by decide) ?_
  refine qe_bipush (x := 100) c33_13 (by decide) ?_
  refine qe_static (as := [.int x3, .int 1, .int 100]) (r := []) (v := (some (.int z1))) (h2 := h1) c33_15 qo33 (by decide) qK11_108 rfl rfl rfl (Nat.le_of_ble_eq_true rfl) e2 ?_
  refine qe_if_ne_T (t := 23) c33_18 rfl e3 ?_
  exact kk
theorem b33_21 {d : Nat} {h : qH} {r0 : Nat} {x1 : Int32} {x2 : Int32} {x3 : Int32}   : qE d 33 21 [some (.ref r0), some (.int x1), some (.int x2), some (.int x3)] [] h (some (.int 0), h) := by
  refine qe_iconst (x := 0) c33_21 (by decide) ?_
  exact qe_zret c33_22 qr33 (by decide)
theorem b33_23 {d : Nat} {h : qH} {r0 : Nat} {x1 : Int32} {x2 : Int32} {x3 : Int32} {fs1 : List Value} {y3 : Nat} {fs5 : List Value} {y7 : Nat} {n9 : Nat} {f10 : Nat → Int32} {h1 : qH} {fs15 : List Value} {y17 : Nat} {fs19 : List Value} {y21 : Nat} {n23 : Nat} {f24 : Nat → Int32} {h2 : qH}  (e2 : h.2.2 r0 = some (.inr (11, fs1))) (e4 : fs1[10]? = some (.ref y3)) (e6 : h.2.2 y3 = some (.inr (1, fs5))) (e8 : fs5[0]? = some (.ref y7)) (e11 : h.2.2 y7 = some (.inl (1, n9, .inl f10))) (e12 : 0 ≤ (x1 : Int32).toInt ∧ (x1 : Int32).toInt < (n9 : Nat)) (e13 : (x2 : Int32) = 0 ∨ (x2 : Int32) = 1) (e14 : qset h y7 (.inl (1, n9, .inl (upd f10 ((x1 : Int32).toNatClampNeg) x2))) = h1) (e16 : h1.2.2 r0 = some (.inr (11, fs15))) (e18 : fs15[10]? = some (.ref y17)) (e20 : h1.2.2 y17 = some (.inr (1, fs19))) (e22 : fs19[1]? = some (.ref y21)) (e25 : h1.2.2 y21 = some (.inl (0, n23, .inl f24))) (e26 : 0 ≤ (x1 : Int32).toInt ∧ (x1 : Int32).toInt < (n23 : Nat)) (e27 : qset h1 y21 (.inl (0, n23, .inl (upd f24 ((x1 : Int32).toNatClampNeg) x3))) = h2) : qE d 33 23 [some (.ref r0), some (.int x1), some (.int x2), some (.int x3)] [] h (some (.int 1), h2) := by
  refine qe_aload_n c33_23 rfl ?_
  refine qe_getfield c33_24 qo33 qF11_76 e2 e4 ?_
  refine qe_getfield c33_27 qo33 qF11_321 e6 e8 ?_
  refine qe_iload_n c33_30 rfl ?_
  refine qe_iload_n c33_31 rfl ?_
  refine qe_zastore c33_32 e11 e12 e13 ?_
  rw [e14]
  refine qe_aload_n c33_33 rfl ?_
  refine qe_getfield c33_34 qo33 qF11_76 e16 e18 ?_
  refine qe_getfield c33_37 qo33 qF11_324 e20 e22 ?_
  refine qe_iload_n c33_40 rfl ?_
  refine qe_iload_n c33_41 rfl ?_
  refine qe_iastore c33_42 e25 e26 ?_
  rw [e27]
  refine qe_iconst (x := 1) c33_43 (by decide) ?_
  exact qe_zret c33_44 qr33 (by decide)
theorem b34_0 {d : Nat} {q : Option Value × qH} {h : qH} {r0 : Nat} {x1 : Int32} {x2 : Int32} {x3 : Int32} {fs1 : List Value} {h1 : qH} {z3 : Int32} {fs5 : List Value} {y7 : Nat} {fs10 : List Value} {y12 : Int32} {h2 : qH} {z14 : Int32}  (e2 : h.2.2 r0 = some (.inr (11, fs1))) (e4 : qCall d 47 [.ref r0] h ((some (.int z3)), h1)) (e6 : h1.2.2 r0 = some (.inr (11, fs5))) (e8 : fs5[1]? = some (.ref y7)) (e11 : h1.2.2 y7 = some (.inr (8, fs10))) (e13 : fs10[1]? = some (.int y12)) (e15 : qCall d 244 [.ref y7, .int y12] h1 ((some (.int z14)), h2)) (kk : qE d 34 34 [some (.ref r0), some (.int x1), some (.int x2), some (.int x3), some (.int z3), some (.int z14), some (.int 0), some (.int (-1)), some (.int 0), some (.int 0), none, none, none] [] h2 q): qE d 34 0 [some (.ref r0), some (.int x1), some (.int x2), some (.int x3), none, none, none, none, none, none, none, none, none] [] h q := by
  refine qe_aload_n c34_0 rfl ?_
  refine qe_virtual (b := r0) (as := []) (r := []) (v := (some (.int z3))) (h2 := h1) c34_1 qo34 qK11_372 rfl rfl rfl (by rw [qo47]; exact e2) (Nat.le_of_ble_eq_true rfl) e4 ?_
  refine qe_istore (ls2 := [some (.ref r0), some (.int x1), some (.int x2), some (.int x3), some (.int z3), none, none, none, none, none, none, none, none]) c34_4 (Nat.le_of_ble_eq_true rfl) rfl ?_
  refine qe_aload_n c34_6 rfl ?_
  refine qe_getfield c34_7 qo34 qF11_19 e6 e8 ?_
  refine qe_aload_n c34_10 rfl ?_
  refine qe_getfield c34_11 qo34 qF11_19 e6 e8 ?_
  refine qe_getfield c34_14 qo34 qF11_161 e11 e13 ?_
  refine qe_virtual (b := y7) (as := [.int y12]) (r := []) (v := (some (.int z14))) (h2 := h2) c34_17 qo34 qK11_350 rfl rfl rfl (by rw [qo244]; exact e11) (Nat.le_of_ble_eq_true rfl) e15 ?_
  refine qe_istore (ls2 := [some (.ref r0), some (.int x1), some (.int x2), some (.int x3), some (.int z3), some (.int z14), none, none, none, none, none, none, none]) c34_20 (Nat.le_of_ble_eq_true rfl) rfl ?_
  refine qe_iconst (x := 0) c34_22 (by decide) ?_
  refine qe_istore (ls2 := [some (.ref r0), some (.int x1), some (.int x2), some (.int x3), some (.int z3), some (.int z14), some (.int 0), none, none, none, none, none, none]) c34_23 (Nat.le_of_ble_eq_true rfl) rfl ?_
  refine qe_iconst (x := (-1)) c34_25 (by decide) ?_
  refine qe_istore (ls2 := [some (.ref r0), some (.int x1), some (.int x2), some (.int x3), some (.int z3), some (.int z14), some (.int 0), some (.int (-1)), none, none, none, none, none]) c34_26 (Nat.le_of_ble_eq_true rfl) rfl ?_
  refine qe_iconst (x := 0) c34_28 (by decide) ?_
  refine qe_istore (ls2 := [some (.ref r0), some (.int x1), some (.int x2), some (.int x3), some (.int z3), some (.int z14), some (.int 0), some (.int (-1)), some (.int 0), none, none, none, none]) c34_29 (Nat.le_of_ble_eq_true rfl) rfl ?_
  refine qe_iconst (x := 0) c34_31 (by decide) ?_
  refine qe_istore (ls2 := [some (.ref r0), some (.int x1), some (.int x2), some (.int x3), some (.int z3), some (.int z14), some (.int 0), some (.int (-1)), some (.int 0), some (.int 0), none, none, none]) c34_32 (Nat.le_of_ble_eq_true rfl) rfl ?_
  exact kk
theorem b34_34F {d : Nat} {q : Option Value × qH} {h : qH} {r0 : Nat} {x1 : Int32} {x2 : Int32} {x3 : Int32} {x4 : Int32} {x5 : Int32} {x6 : Int32} {x7 : Int32} {x8 : Int32} {x9 : Int32} {o10 : Option Value} {o11 : Option Value} {o12 : Option Value}  (e1 : ¬ (((1 <<< (x4 &&& 31)) : Int32) ≤ x9)) (kk : qE d 34 43 [some (.ref r0), some (.int x1), some (.int x2), some (.int x3), some (.int x4), some (.int x5), some (.int x6), some (.int x7), some (.int x8), some (.int x9), o10, o11, o12] [] h q): qE d 34 34 [some (.ref r0), some (.int x1), some (.int x2), some (.int x3), some (.int x4), some (.int x5), some (.int x6), some (.int x7), some (.int x8), some (.int x9), o10, o11, o12] [] h q := by
  refine qe_iload c34_34 rfl ?_
  refine qe_iconst (x := 1) c34_36 (by decide) ?_
  refine qe_iload c34_37 rfl ?_
  refine qe_ishl c34_39 ?_
  refine qe_icmp_ge_F (t := 144) c34_40 rfl e1 ?_
  exact kk
theorem b34_34T {d : Nat} {q : Option Value × qH} {h : qH} {r0 : Nat} {x1 : Int32} {x2 : Int32} {x3 : Int32} {x4 : Int32} {x5 : Int32} {x6 : Int32} {x7 : Int32} {x8 : Int32} {x9 : Int32} {o10 : Option Value} {o11 : Option Value} {o12 : Option Value}  (e1 : ((1 <<< (x4 &&& 31)) : Int32) ≤ x9) (kk : qE d 34 144 [some (.ref r0), some (.int x1), some (.int x2), some (.int x3), some (.int x4), some (.int x5), some (.int x6), some (.int x7), some (.int x8), some (.int x9), o10, o11, o12] [] h q): qE d 34 34 [some (.ref r0), some (.int x1), some (.int x2), some (.int x3), some (.int x4), some (.int x5), some (.int x6), some (.int x7), some (.int x8), some (.int x9), o10, o11, o12] [] h q := by
  refine qe_iload c34_34 rfl ?_
  refine qe_iconst (x := 1) c34_36 (by decide) ?_
  refine qe_iload c34_37 rfl ?_
  refine qe_ishl c34_39 ?_
  refine qe_icmp_ge_T (t := 144) c34_40 rfl e1 ?_
  exact kk
theorem b34_43F {d : Nat} {q : Option Value × qH} {h : qH} {r0 : Nat} {x1 : Int32} {x2 : Int32} {x3 : Int32} {x4 : Int32} {x5 : Int32} {x6 : Int32} {x7 : Int32} {x8 : Int32} {x9 : Int32} {o10 : Option Value} {o11 : Option Value} {o12 : Option Value} {fs1 : List Value} {h1 : qH} {z3 : Int32}  (e2 : h.2.2 r0 = some (.inr (11, fs1))) (e4 : qCall d 41 [.ref r0, .int x9, .int x4] h ((some (.int z3)), h1)) (e5 : (x7 : Int32) = x5) (kk : qE d 34 60 [some (.ref r0), some (.int x1), some (.int x2), some (.int x3), some (.int x4), some (.int x5), some (.int x6), some (.int x7), some (.int x8), some (.int x9), some (.int z3), o11, o12] [] h1 q): qE d 34 43 [some (.ref r0), some (.int x1), some (.int x2), some (.int x3), some (.int x4), some (.int x5), some (.int x6), some (.int x7), some (.int x8), some (.int x9), o10, o11, o12] [] h q := by
  refine qe_aload_n c34_43 rfl ?_
  refine qe_iload c34_44 rfl ?_
  refine qe_iload c34_46 rfl ?_
  refine qe_virtual (b := r0) (as := [.int x9, .int x4]) (r := []) (v := (some (.int z3))) (h2 := h1) c34_48 qo34 qK11_376 rfl rfl rfl (by rw [qo41]; exact e2) (Nat.le_of_ble_eq_true rfl) e4 ?_
  refine qe_istore (ls2 := [some (.ref r0), some (.int x1), some (.int x2), some (.int x3), some (.int x4), some (.int x5), some (.int x6), some (.int x7), some (.int x8), some (.int x9), some (.int z3), o11, o12]) c34_51 (Nat.le_of_ble_eq_true rfl) rfl ?_
  refine qe_iload c34_53 rfl ?_
  refine qe_iload c34_55 rfl ?_
  refine qe_icmp_ne_F (t := 71) c34_57 rfl e5 ?_
  exact kk
theorem b34_43T {d : Nat} {q : Option Value × qH} {h : qH} {r0 : Nat} {x1 : Int32} {x2 : Int32} {x3 : Int32} {x4 : Int32} {x5 : Int32} {x6 : Int32} {x7 : Int32} {x8 : Int32} {x9 : Int32} {o10 : Option Value} {o11 : Option Value} {o12 : Option Value} {fs1 : List Value} {h1 : qH} {z3 : Int32}  (e2 : h.2.2 r0 = some (.inr (11, fs1))) (e4 : qCall d 41 [.ref r0, .int x9, .int x4] h ((some (.int z3)), h1)) (e5 : ¬ ((x7 : Int32) = x5)) (kk : qE d 34 71 [some (.ref r0), some (.int x1), some (.int x2), some (.int x3), some (.int x4), some (.int x5), some (.int x6), some (.int x7), some (.int x8), some (.int x9), some (.int z3), o11, o12] [] h1 q): qE d 34 43 [some (.ref r0), some (.int x1), some (.int x2), some (.int x3), some (.int x4), some (.int x5), some (.int x6), some (.int x7), some (.int x8), some (.int x9), o10, o11, o12] [] h q := by
  refine qe_aload_n c34_43 rfl ?_
  refine qe_iload c34_44 rfl ?_
  refine qe_iload c34_46 rfl ?_
  refine qe_virtual (b := r0) (as := [.int x9, .int x4]) (r := []) (v := (some (.int z3))) (h2 := h1) c34_48 qo34 qK11_376 rfl rfl rfl (by rw [qo41]; exact e2) (Nat.le_of_ble_eq_true rfl) e4 ?_
  refine qe_istore (ls2 := [some (.ref r0), some (.int x1), some (.int x2), some (.int x3), some (.int x4), some (.int x5), some (.int x6), some (.int x7), some (.int x8), some (.int x9), some (.int z3), o11, o12]) c34_51 (Nat.le_of_ble_eq_true rfl) rfl ?_
  refine qe_iload c34_53 rfl ?_
  refine qe_iload c34_55 rfl ?_
  refine qe_icmp_ne_T (t := 71) c34_57 rfl e5 ?_
  exact kk
theorem b34_60F {d : Nat} {q : Option Value × qH} {h : qH} {r0 : Nat} {x1 : Int32} {x2 : Int32} {x3 : Int32} {x4 : Int32} {x5 : Int32} {x6 : Int32} {x7 : Int32} {x8 : Int32} {x9 : Int32} {x10 : Int32} {o11 : Option Value} {o12 : Option Value}  (e1 : ¬ ((x10 : Int32) < x8)) (kk : qE d 34 67 [some (.ref r0), some (.int x1), some (.int x2), some (.int x3), some (.int x4), some (.int x5), some (.int x6), some (.int x7), some (.int x8), some (.int x9), some (.int x10), o11, o12] [] h q): qE d 34 60 [some (.ref r0), some (.int x1), some (.int x2), some (.int x3), some (.int x4), some (.int x5), some (.int x6), some (.int x7), some (.int x8), some (.int x9), some (.int x10), o11, o12] [] h q := by
  refine qe_iload c34_60 rfl ?_
  refine qe_iload c34_62 rfl ?_
  refine qe_icmp_lt_F (t := 71) c34_64 rfl e1 ?_
  exact kk
theorem b34_60T {d : Nat} {q : Option Value × qH} {h : qH} {r0 : Nat} {x1 : Int32} {x2 : Int32} {x3 : Int32} {x4 : Int32} {x5 : Int32} {x6 : Int32} {x7 : Int32} {x8 : Int32} {x9 : Int32} {x10 : Int32} {o11 : Option Value} {o12 : Option Value}  (e1 : (x10 : Int32) < x8) (kk : qE d 34 71 [some (.ref r0), some (.int x1), some (.int x2), some (.int x3), some (.int x4), some (.int x5), some (.int x6), some (.int x7), some (.int x8), some (.int x9), some (.int x10), o11, o12] [] h q): qE d 34 60 [some (.ref r0), some (.int x1), some (.int x2), some (.int x3), some (.int x4), some (.int x5), some (.int x6), some (.int x7), some (.int x8), some (.int x9), some (.int x10), o11, o12] [] h q := by
  refine qe_iload c34_60 rfl ?_
  refine qe_iload c34_62 rfl ?_
  refine qe_icmp_lt_T (t := 71) c34_64 rfl e1 ?_
  exact kk
theorem b34_67 {d : Nat} {q : Option Value × qH} {h : qH} {r0 : Nat} {x1 : Int32} {x2 : Int32} {x3 : Int32} {x4 : Int32} {x5 : Int32} {x6 : Int32} {x7 : Int32} {x8 : Int32} {x9 : Int32} {x10 : Int32} {o11 : Option Value} {o12 : Option Value}   (kk : qE d 34 72 [some (.ref r0), some (.int x1), some (.int x2), some (.int x3), some (.int x4), some (.int x5), some (.int x6), some (.int x7), some (.int x8), some (.int x9), some (.int x10), o11, o12] [.int 1] h q): qE d 34 67 [some (.ref r0), some (.int x1), some (.int x2), some (.int x3), some (.int x4), some (.int x5), some (.int x6), some (.int x7), some (.int x8), some (.int x9), some (.int x10), o11, o12] [] h q := by
  refine qe_iconst (x := 1) c34_67 (by decide) ?_
  refine qe_goto (t := 72) c34_68 rfl ?_
  exact kk
theorem b34_71 {d : Nat} {q : Option Value × qH} {h : qH} {r0 : Nat} {x1 : Int32} {x2 : Int32} {x3 : Int32} {x4 : Int32} {x5 : Int32} {x6 : Int32} {x7 : Int32} {x8 : Int32} {x9 : Int32} {x10 : Int32} {o11 : Option Value} {o12 : Option Value}   (kk : qE d 34 72 [some (.ref r0), some (.int x1), some (.int x2), some (.int x3), some (.int x4), some (.int x5), some (.int x6), some (.int x7), some (.int x8), some (.int x9), some (.int x10), o11, o12] [.int 0] h q): qE d 34 71 [some (.ref r0), some (.int x1), some (.int x2), some (.int x3), some (.int x4), some (.int x5), some (.int x6), some (.int x7), some (.int x8), some (.int x9), some (.int x10), o11, o12] [] h q := by
  refine qe_iconst (x := 0) c34_71 (by decide) ?_
  exact kk
theorem b34_72F {d : Nat} {q : Option Value × qH} {h : qH} {r0 : Nat} {x1 : Int32} {x2 : Int32} {x3 : Int32} {x4 : Int32} {x5 : Int32} {x6 : Int32} {x7 : Int32} {x8 : Int32} {x9 : Int32} {x10 : Int32} {o11 : Option Value} {o12 : Option Value} {xs0 : Int32}  (e1 : ¬ ((x1 : Int32) < x10)) (kk : qE d 34 80 [some (.ref r0), some (.int x1), some (.int x2), some (.int x3), some (.int x4), some (.int x5), some (.int x6), some (.int x7), some (.int x8), some (.int x9), some (.int x10), some (.int xs0), o12] [] h q): qE d 34 72 [some (.ref r0), some (.int x1), some (.int x2), some (.int x3), some (.int x4), some (.int x5), some (.int x6), some (.int x7), some (.int x8), some (.int x9), some (.int x10), o11, o12] [.int xs0] h q := by
  refine qe_istore (ls2 := [some (.ref r0), some (.int x1), some (.int x2), some (.int x3), some (.int x4), some (.int x5), some (.int x6), some (.int x7), some (.int x8), some (.int x9), some (.int x10), some (.int xs0), o12]) c34_72 (Nat.le_of_ble_eq_true rfl) rfl ?_
  refine qe_iload c34_74 rfl ?_
  refine qe_iload_n c34_76 rfl ?_
  refine qe_icmp_gt_F (t := 138) c34_77 rfl e1 ?_
  exact kk
theorem b34_72T {d : Nat} {q : Option Value × qH} {h : qH} {r0 : Nat} {x1 : Int32} {x2 : Int32} {x3 : Int32} {x4 : Int32} {x5 : Int32} {x6 : Int32} {x7 : Int32} {x8 : Int32} {x9 : Int32} {x10 : Int32} {o11 : Option Value} {o12 : Option Value} {xs0 : Int32}  (e1 : (x1 : Int32) < x10) (kk : qE d 34 138 [some (.ref r0), some (.int x1), some (.int x2), some (.int x3), some (.int x4), some (.int x5), some (.int x6), some (.int x7), some (.int x8), some (.int x9), some (.int x10), some (.int xs0), o12] [] h q): qE d 34 72 [some (.ref r0), some (.int x1), some (.int x2), some (.int x3), some (.int x4), some (.int x5), some (.int x6), some (.int x7), some (.int x8), some (.int x9), some (.int x10), o11, o12] [.int xs0] h q := by
  refine qe_istore (ls2 := [some (.ref r0), some (.int x1), some (.int x2), some (.int x3), some (.int x4), some (.int x5), some (.int x6), some (.int x7), some (.int x8), some (.int x9), some (.int x10), some (.int xs0), o12]) c34_72 (Nat.le_of_ble_eq_true rfl) rfl ?_
  refine qe_iload c34_74 rfl ?_
  refine qe_iload_n c34_76 rfl ?_
  refine qe_icmp_gt_T (t := 138) c34_77 rfl e1 ?_
  exact kk
theorem b34_80F {d : Nat} {q : Option Value × qH} {h : qH} {r0 : Nat} {x1 : Int32} {x2 : Int32} {x3 : Int32} {x4 : Int32} {x5 : Int32} {x6 : Int32} {x7 : Int32} {x8 : Int32} {x9 : Int32} {x10 : Int32} {x11 : Int32} {o12 : Option Value}  (e1 : ¬ ((x11 : Int32) = 0)) (kk : qE d 34 85 [some (.ref r0), some (.int x1), some (.int x2), some (.int x3), some (.int x4), some (.int x5), some (.int x6), some (.int x7), some (.int x8), some (.int x9), some (.int x10), some (.int x11), o12] [] h q): qE d 34 80 [some (.ref r0), some (.int x1), some (.int x2), some (.int x3), some (.int x4), some (.int x5), some (.int x6), some (.int x7), some (.int x8), some (.int x9), some (.int x10), some (.int x11), o12] [] h q := by
  refine qe_iload c34_80 rfl ?_
  refine qe_if_eq_F (t := 88) c34_82 rfl e1 ?_
  exact kk
theorem b34_80T {d : Nat} {q : Option Value × qH} {h : qH} {r0 : Nat} {x1 : Int32} {x2 : Int32} {x3 : Int32} {x4 : Int32} {x5 : Int32} {x6 : Int32} {x7 : Int32} {x8 : Int32} {x9 : Int32} {x10 : Int32} {x11 : Int32} {o12 : Option Value}  (e1 : (x11 : Int32) = 0) (kk : qE d 34 88 [some (.ref r0), some (.int x1), some (.int x2), some (.int x3), some (.int x4), some (.int x5), some (.int x6), some (.int x7), some (.int x8), some (.int x9), some (.int x10), some (.int x11), o12] [] h q): qE d 34 80 [some (.ref r0), some (.int x1), some (.int x2), some (.int x3), some (.int x4), some (.int x5), some (.int x6), some (.int x7), some (.int x8), some (.int x9), some (.int x10), some (.int x11), o12] [] h q := by
  refine qe_iload c34_80 rfl ?_
  refine qe_if_eq_T (t := 88) c34_82 rfl e1 ?_
  exact kk
theorem b34_85 {d : Nat} {q : Option Value × qH} {h : qH} {r0 : Nat} {x1 : Int32} {x2 : Int32} {x3 : Int32} {x4 : Int32} {x5 : Int32} {x6 : Int32} {x7 : Int32} {x8 : Int32} {x9 : Int32} {x10 : Int32} {x11 : Int32} {o12 : Option Value}   (kk : qE d 34 138 [some (.ref r0), some (.int x1), some (.int x2), some (.int x3), some (.int x4), some (.int x5), some (.int x6), some (.int x7), some (.int x8), some (.int x9), some (.int x10), some (.int x11), o12] [] h q): qE d 34 85 [some (.ref r0), some (.int x1), some (.int x2), some (.int x3), some (.int x4), some (.int x5), some (.int x6), some (.int x7), some (.int x8), some (.int x9), some (.int x10), some (.int x11), o12] [] h q := by
  refine qe_goto (t := 138) c34_85 rfl ?_
  exact kk
theorem b34_88F {d : Nat} {q : Option Value × qH} {h : qH} {r0 : Nat} {x1 : Int32} {x2 : Int32} {x3 : Int32} {x4 : Int32} {x5 : Int32} {x6 : Int32} {x7 : Int32} {x8 : Int32} {x9 : Int32} {x10 : Int32} {x11 : Int32} {o12 : Option Value} {fs1 : List Value} {h1 : qH} {z3 : Int32}  (e2 : h.2.2 r0 = some (.inr (11, fs1))) (e4 : qCall d 44 [.ref r0, .int x9, .int x4, .int x2] h ((some (.int z3)), h1)) (e5 : ¬ ((x7 : Int32) = (-1))) (kk : qE d 34 105 [some (.ref r0), some (.int x1), some (.int x2), some (.int x3), some (.int x4), some (.int x5), some (.int x6), some (.int x7), some (.int x8), some (.int x9), some (.int x10), some (.int x11), some (.int z3)] [] h1 q): qE d 34 88 [some (.ref r0), some (.int x1), some (.int x2), some (.int x3), some (.int x4), some (.int x5), some (.int x6), some (.int x7), some (.int x8), some (.int x9), some (.int x10), some (.int x11), o12] [] h q := by
  refine qe_aload_n c34_88 rfl ?_
  refine qe_iload c34_89 rfl ?_
  refine qe_iload c34_91 rfl ?_
  refine qe_iload_n c34_93 rfl ?_
  refine qe_virtual (b := r0) (as := [.int x9, .int x4, .int x2]) (r := []) (v := (some (.int z3))) (h2 := h1) c34_94 qo34 qK11_379 rfl rfl rfl (by rw [qo44]; exact e2) (Nat.le_of_ble_eq_true rfl) e4 ?_
  refine qe_istore (ls2 := [some (.ref r0), some (.int x1), some (.int x2), some (.int x3), some (.int x4), some (.int x5), some (.int x6), some (.int x7), some (.int x8), some (.int x9), some (.int x10), some (.int x11), some (.int z3)]) c34_97 (Nat.le_of_ble_eq_true rfl) rfl ?_
  refine qe_iload c34_99 rfl ?_
  refine qe_iconst (x := (-1)) c34_101 (by decide) ?_
  refine qe_icmp_eq_F (t := 126) c34_102 rfl e5 ?_
  exact kk
theorem b34_88T {d : Nat} {q : Option Value × qH} {h : qH} {r0 : Nat} {x1 : Int32} {x2 : Int32} {x3 : Int32} {x4 : Int32} {x5 : Int32} {x6 : Int32} {x7 : Int32} {x8 : Int32} {x9 : Int32} {x10 : Int32} {x11 : Int32} {o12 : Option Value} {fs1 : List Value} {h1 : qH} {z3 : Int32}  (e2 : h.2.2 r0 = some (.inr (11, fs1))) (e4 : qCall d 44 [.ref r0, .int x9, .int x4, .int x2] h ((some (.int z3)), h1)) (e5 : (x7 : Int32) = (-1)) (kk : qE d 34 126 [some (.ref r0), some (.int x1), some (.int x2), some (.int x3), some (.int x4), some (.int x5), some (.int x6), some (.int x7), some (.int x8), some (.int x9), some (.int x10), some (.int x11), some (.int z3)] [] h1 q): qE d 34 88 [some (.ref r0), some (.int x1), some (.int x2), some (.int x3), some (.int x4), some (.int x5), some (.int x6), some (.int x7), some (.int x8), some (.int x9), some (.int x10), some (.int x11), o12] [] h q := by
  refine qe_aload_n c34_88 rfl ?_
  refine qe_iload c34_89 rfl ?_
  refine qe_iload c34_91 rfl ?_
  refine qe_iload_n c34_93 rfl ?_
  refine qe_virtual (b := r0) (as := [.int x9, .int x4, .int x2]) (r := []) (v := (some (.int z3))) (h2 := h1) c34_94 qo34 qK11_379 rfl rfl rfl (by rw [qo44]; exact e2) (Nat.le_of_ble_eq_true rfl) e4 ?_
  refine qe_istore (ls2 := [some (.ref r0), some (.int x1), some (.int x2), some (.int x3), some (.int x4), some (.int x5), some (.int x6), some (.int x7), some (.int x8), some (.int x9), some (.int x10), some (.int x11), some (.int z3)]) c34_97 (Nat.le_of_ble_eq_true rfl) rfl ?_
  refine qe_iload c34_99 rfl ?_
  refine qe_iconst (x := (-1)) c34_101 (by decide) ?_
  refine qe_icmp_eq_T (t := 126) c34_102 rfl e5 ?_
  exact kk
theorem b34_105F {d : Nat} {q : Option Value × qH} {h : qH} {r0 : Nat} {x1 : Int32} {x2 : Int32} {x3 : Int32} {x4 : Int32} {x5 : Int32} {x6 : Int32} {x7 : Int32} {x8 : Int32} {x9 : Int32} {x10 : Int32} {x11 : Int32} {x12 : Int32}  (e1 : ¬ ((x12 : Int32) < x7)) (kk : qE d 34 112 [some (.ref r0), some (.int x1), some (.int x2), some (.int x3), some (.int x4), some (.int x5), some (.int x6), some (.int x7), some (.int x8), some (.int x9), some (.int x10), some (.int x11), some (.int x12)] [] h q): qE d 34 105 [some (.ref r0), some (.int x1), some (.int x2), some (.int x3), some (.int x4), some (.int x5), some (.int x6), some (.int x7), some (.int x8), some (.int x9), some (.int x10), some (.int x11), some (.int x12)] [] h q := by
  refine qe_iload c34_105 rfl ?_
  refine qe_iload c34_107 rfl ?_
  refine qe_icmp_lt_F (t := 126) c34_109 rfl e1 ?_
  exact kk
theorem b34_105T {d : Nat} {q : Option Value × qH} {h : qH} {r0 : Nat} {x1 : Int32} {x2 : Int32} {x3 : Int32} {x4 : Int32} {x5 : Int32} {x6 : Int32} {x7 : Int32} {x8 : Int32} {x9 : Int32} {x10 : Int32} {x11 : Int32} {x12 : Int32}  (e1 : (x12 : Int32) < x7) (kk : qE d 34 126 [some (.ref r0), some (.int x1), some (.int x2), some (.int x3), some (.int x4), some (.int x5), some (.int x6), some (.int x7), some (.int x8), some (.int x9), some (.int x10), some (.int x11), some (.int x12)] [] h q): qE d 34 105 [some (.ref r0), some (.int x1), some (.int x2), some (.int x3), some (.int x4), some (.int x5), some (.int x6), some (.int x7), some (.int x8), some (.int x9), some (.int x10), some (.int x11), some (.int x12)] [] h q := by
  refine qe_iload c34_105 rfl ?_
  refine qe_iload c34_107 rfl ?_
  refine qe_icmp_lt_T (t := 126) c34_109 rfl e1 ?_
  exact kk
theorem b34_112F {d : Nat} {q : Option Value × qH} {h : qH} {r0 : Nat} {x1 : Int32} {x2 : Int32} {x3 : Int32} {x4 : Int32} {x5 : Int32} {x6 : Int32} {x7 : Int32} {x8 : Int32} {x9 : Int32} {x10 : Int32} {x11 : Int32} {x12 : Int32}  (e1 : (x12 : Int32) = x7) (kk : qE d 34 119 [some (.ref r0), some (.int x1), some (.int x2), some (.int x3), some (.int x4), some (.int x5), some (.int x6), some (.int x7), some (.int x8), some (.int x9), some (.int x10), some (.int x11), some (.int x12)] [] h q): qE d 34 112 [some (.ref r0), some (.int x1), some (.int x2), some (.int x3), some (.int x4), some (.int x5), some (.int x6), some (.int x7), some (.int x8), some (.int x9), some (.int x10), some (.int x11), some (.int x12)] [] h q := by
  refine qe_iload c34_112 rfl ?_
  refine qe_iload c34_114 rfl ?_
  refine qe_icmp_ne_F (t := 138) c34_116 rfl e1 ?_
  exact kk
theorem b34_112T {d : Nat} {q : Option Value × qH} {h : qH} {r0 : Nat} {x1 : Int32} {x2 : Int32} {x3 : Int32} {x4 : Int32} {x5 : Int32} {x6 : Int32} {x7 : Int32} {x8 : Int32} {x9 : Int32} {x10 : Int32} {x11 : Int32} {x12 : Int32}  (e1 : ¬ ((x12 : Int32) = x7)) (kk : qE d 34 138 [some (.ref r0), some (.int x1), some (.int x2), some (.int x3), some (.int x4), some (.int x5), some (.int x6), some (.int x7), some (.int x8), some (.int x9), some (.int x10), some (.int x11), some (.int x12)] [] h q): qE d 34 112 [some (.ref r0), some (.int x1), some (.int x2), some (.int x3), some (.int x4), some (.int x5), some (.int x6), some (.int x7), some (.int x8), some (.int x9), some (.int x10), some (.int x11), some (.int x12)] [] h q := by
  refine qe_iload c34_112 rfl ?_
  refine qe_iload c34_114 rfl ?_
  refine qe_icmp_ne_T (t := 138) c34_116 rfl e1 ?_
  exact kk
theorem b34_119F {d : Nat} {q : Option Value × qH} {h : qH} {r0 : Nat} {x1 : Int32} {x2 : Int32} {x3 : Int32} {x4 : Int32} {x5 : Int32} {x6 : Int32} {x7 : Int32} {x8 : Int32} {x9 : Int32} {x10 : Int32} {x11 : Int32} {x12 : Int32}  (e1 : ¬ ((x8 : Int32) ≤ x10)) (kk : qE d 34 126 [some (.ref r0), some (.int x1), some (.int x2), some (.int x3), some (.int x4), some (.int x5), some (.int x6), some (.int x7), some (.int x8), some (.int x9), some (.int x10), some (.int x11), some (.int x12)] [] h q): qE d 34 119 [some (.ref r0), some (.int x1), some (.int x2), some (.int x3), some (.int x4), some (.int x5), some (.int x6), some (.int x7), some (.int x8), some (.int x9), some (.int x10), some (.int x11), some (.int x12)] [] h q := by
  refine qe_iload c34_119 rfl ?_
  refine qe_iload c34_121 rfl ?_
  refine qe_icmp_ge_F (t := 138) c34_123 rfl e1 ?_
  exact kk
theorem b34_119T {d : Nat} {q : Option Value × qH} {h : qH} {r0 : Nat} {x1 : Int32} {x2 : Int32} {x3 : Int32} {x4 : Int32} {x5 : Int32} {x6 : Int32} {x7 : Int32} {x8 : Int32} {x9 : Int32} {x10 : Int32} {x11 : Int32} {x12 : Int32}  (e1 : (x8 : Int32) ≤ x10) (kk : qE d 34 138 [some (.ref r0), some (.int x1), some (.int x2), some (.int x3), some (.int x4), some (.int x5), some (.int x6), some (.int x7), some (.int x8), some (.int x9), some (.int x10), some (.int x11), some (.int x12)] [] h q): qE d 34 119 [some (.ref r0), some (.int x1), some (.int x2), some (.int x3), some (.int x4), some (.int x5), some (.int x6), some (.int x7), some (.int x8), some (.int x9), some (.int x10), some (.int x11), some (.int x12)] [] h q := by
  refine qe_iload c34_119 rfl ?_
  refine qe_iload c34_121 rfl ?_
  refine qe_icmp_ge_T (t := 138) c34_123 rfl e1 ?_
  exact kk
theorem b34_126 {d : Nat} {q : Option Value × qH} {h : qH} {r0 : Nat} {x1 : Int32} {x2 : Int32} {x3 : Int32} {x4 : Int32} {x5 : Int32} {x6 : Int32} {x7 : Int32} {x8 : Int32} {x9 : Int32} {x10 : Int32} {x11 : Int32} {x12 : Int32}   (kk : qE d 34 138 [some (.ref r0), some (.int x1), some (.int x2), some (.int x3), some (.int x4), some (.int x5), some (.int x9), some (.int x12), some (.int x10), some (.int x9), some (.int x10), some (.int x11), some (.int x12)] [] h q): qE d 34 126 [some (.ref r0), some (.int x1), some (.int x2), some (.int x3), some (.int x4), some (.int x5), some (.int x6), some (.int x7), some (.int x8), some (.int x9), some (.int x10), some (.int x11), some (.int x12)] [] h q := by
  refine qe_iload c34_126 rfl ?_
  refine qe_istore (ls2 := [some (.ref r0), some (.int x1), some (.int x2), some (.int x3), some (.int x4), some (.int x5), some (.int x9), some (.int x7), some (.int x8), some (.int x9), some (.int x10), some (.int x11), some (.int x12)]) c34_128 (Nat.le_of_ble_eq_true rfl) rfl ?_
  refine qe_iload c34_130 rfl ?_
  refine qe_istore (ls2 := [some (.ref r0), some (.int x1), some (.int x2), some (.int x3), some (.int x4), some (.int x5), some (.int x9), some (.int x12), some (.int x8), some (.int x9), some (.int x10), some (.int x11), some (.int x12)]) c34_132 (Nat.le_of_ble_eq_true rfl) rfl ?_
  refine qe_iload c34_134 rfl ?_
  refine qe_istore (ls2 := [some (.ref r0), some (.int x1), some (.int x2), some (.int x3), some (.int x4), some (.int x5), some (.int x9), some (.int x12), some (.int x10), some (.int x9), some (.int x10), some (.int x11), some (.int x12)]) c34_136 (Nat.le_of_ble_eq_true rfl) rfl ?_
  exact kk
theorem b34_138 {d : Nat} {q : Option Value × qH} {h : qH} {r0 : Nat} {x1 : Int32} {x2 : Int32} {x3 : Int32} {x4 : Int32} {x5 : Int32} {x6 : Int32} {x7 : Int32} {x8 : Int32} {x9 : Int32} {x10 : Int32} {x11 : Int32} {o12 : Option Value}   (kk : qE d 34 34 [some (.ref r0), some (.int x1), some (.int x2), some (.int x3), some (.int x4), some (.int x5), some (.int x6), some (.int x7), some (.int x8), some (.int (x9 + 1)), some (.int x10), some (.int x11), o12] [] h q): qE d 34 138 [some (.ref r0), some (.int x1), some (.int x2), some (.int x3), some (.int x4), some (.int x5), some (.int x6), some (.int x7), some (.int x8), some (.int x9), some (.int x10), some (.int x11), o12] [] h q := by
  refine qe_iinc (y := (x9 + 1)) (ls2 := [some (.ref r0), some (.int x1), some (.int x2), some (.int x3), some (.int x4), some (.int x5), some (.int x6), some (.int x7), some (.int x8), some (.int (x9 + 1)), some (.int x10), some (.int x11), o12]) c34_138 rfl (Nat.le_of_ble_eq_true rfl) rfl rfl ?_
  refine qe_goto (t := 34) c34_141 rfl ?_
  exact kk
theorem b34_144F {d : Nat} {q : Option Value × qH} {h : qH} {r0 : Nat} {x1 : Int32} {x2 : Int32} {x3 : Int32} {x4 : Int32} {x5 : Int32} {x6 : Int32} {x7 : Int32} {x8 : Int32} {x9 : Int32} {o10 : Option Value} {o11 : Option Value} {o12 : Option Value}  (e1 : (x3 : Int32) = 0) (kk : qE d 34 148 [some (.ref r0), some (.int x1), some (.int x2), some (.int x3), some (.int x4), some (.int x5), some (.int x6), some (.int x7), some (.int x8), some (.int x9), o10, o11, o12] [] h q): qE d 34 144 [some (.ref r0), some (.int x1), some (.int x2), some (.int x3), some (.int x4), some (.int x5), some (.int x6), some (.int x7), some (.int x8), some (.int x9), o10, o11, o12] [] h q := by
  refine qe_iload_n c34_144 rfl ?_
  refine qe_if_ne_F (t := 159) c34_145 rfl e1 ?_
  exact kk
theorem b34_144T {d : Nat} {q : Option Value × qH} {h : qH} {r0 : Nat} {x1 : Int32} {x2 : Int32} {x3 : Int32} {x4 : Int32} {x5 : Int32} {x6 : Int32} {x7 : Int32} {x8 : Int32} {x9 : Int32} {o10 : Option Value} {o11 : Option Value} {o12 : Option Value}  (e1 : ¬ ((x3 : Int32) = 0)) (kk : qE d 34 159 [some (.ref r0), some (.int x1), some (.int x2), some (.int x3), some (.int x4), some (.int x5), some (.int x6), some (.int x7), some (.int x8), some (.int x9), o10, o11, o12] [] h q): qE d 34 144 [some (.ref r0), some (.int x1), some (.int x2), some (.int x3), some (.int x4), some (.int x5), some (.int x6), some (.int x7), some (.int x8), some (.int x9), o10, o11, o12] [] h q := by
  refine qe_iload_n c34_144 rfl ?_
  refine qe_if_ne_T (t := 159) c34_145 rfl e1 ?_
  exact kk
theorem b34_148 {d : Nat} {q : Option Value × qH} {h : qH} {r0 : Nat} {x1 : Int32} {x2 : Int32} {x3 : Int32} {x4 : Int32} {x5 : Int32} {x6 : Int32} {x7 : Int32} {x8 : Int32} {x9 : Int32} {o10 : Option Value} {o11 : Option Value} {o12 : Option Value} {fs1 : List Value} {h1 : qH} {z3 : Int32}  (e2 : h.2.2 r0 = some (.inr (11, fs1))) (e4 : qCall d 79 [.ref r0, .int x6, .int x4] h ((some (.int z3)), h1)) (kk : qE d 34 161 [some (.ref r0), some (.int x1), some (.int x2), some (.int x3), some (.int x4), some (.int x5), some (.int x6), some (.int x7), some (.int x8), some (.int x9), o10, o11, o12] [.int z3] h1 q): qE d 34 148 [some (.ref r0), some (.int x1), some (.int x2), some (.int x3), some (.int x4), some (.int x5), some (.int x6), some (.int x7), some (.int x8), some (.int x9), o10, o11, o12] [] h q := by
  refine qe_aload_n c34_148 rfl ?_
  refine qe_iload c34_149 rfl ?_
  refine qe_iload c34_151 rfl ?_
  refine qe_virtual (b := r0) (as := [.int x6, .int x4]) (r := []) (v := (some (.int z3))) (h2 := h1) c34_153 qo34 qK11_382 rfl rfl rfl (by rw [qo79]; exact e2) (Nat.le_of_ble_eq_true rfl) e4 ?_
  refine qe_goto (t := 161) c34_156 rfl ?_
  exact kk
theorem b34_159 {d : Nat} {q : Option Value × qH} {h : qH} {r0 : Nat} {x1 : Int32} {x2 : Int32} {x3 : Int32} {x4 : Int32} {x5 : Int32} {x6 : Int32} {x7 : Int32} {x8 : Int32} {x9 : Int32} {o10 : Option Value} {o11 : Option Value} {o12 : Option Value}   (kk : qE d 34 161 [some (.ref r0), some (.int x1), some (.int x2), some (.int x3), some (.int x4), some (.int x5), some (.int x6), some (.int x7), some (.int x8), some (.int x9), o10, o11, o12] [.int x7] h q): qE d 34 159 [some (.ref r0), some (.int x1), some (.int x2), some (.int x3), some (.int x4), some (.int x5), some (.int x6), some (.int x7), some (.int x8), some (.int x9), o10, o11, o12] [] h q := by
  refine qe_iload c34_159 rfl ?_
  exact kk
theorem b34_161 {d : Nat} {h : qH} {r0 : Nat} {x1 : Int32} {x2 : Int32} {x3 : Int32} {x4 : Int32} {x5 : Int32} {x6 : Int32} {x7 : Int32} {x8 : Int32} {x9 : Int32} {o10 : Option Value} {o11 : Option Value} {o12 : Option Value} {xs0 : Int32}   : qE d 34 161 [some (.ref r0), some (.int x1), some (.int x2), some (.int x3), some (.int x4), some (.int x5), some (.int x6), some (.int x7), some (.int x8), some (.int x9), o10, o11, o12] [.int xs0] h (some (.int xs0), h) := by
  exact qe_iret c34_161 qr34
theorem b35_0F {d : Nat} {q : Option Value × qH} {h : qH} {r0 : Nat} {x1 : Int32} {h1 : qH} {z1 : Int32}  (e2 : qCall d 80 [.int x1, .int 0, .int 200] h ((some (.int z1)), h1)) (e3 : ¬ ((z1 : Int32) = 0)) (kk : qE d 35 11 [some (.ref r0), some (.int x1), none] [] h1 q): qE d 35 0 [some (.ref r0), some (.int x1), none] [] h q := by
  refine qe_iload_n c35_0 rfl ?_
  refine qe_iconst (x := 0) c35_1 (by decide) ?_
  refine qe_sipush (x := 200) c35_2 (by decide) ?_
  refine qe_static (as := [.int x1, .int 0, .int 200]) (r := []) (v := (some (.int z1))) (h2 := h1) c35_5 qo35 (by decide) qK11_108 rfl rfl rfl (Nat.le_of_ble_eq_true rfl) e2 ?_
  refine qe_if_eq_F (t := 25) c35_8 rfl e3 ?_
  exact kk
theorem b35_0T {d : Nat} {q : Option Value × qH} {h : qH} {r0 : Nat} {x1 : Int32} {h1 : qH} {z1 : Int32}  (e2 : qCall d 80 [.int x1, .int 0, .int 200] h ((some (.int z1)), h1)) (e3 : (z1 : Int32) = 0) (kk : qE d 35 25 [some (.ref r0), some (.int x1), none] [] h1 q): qE d 35 0 [some (.ref r0), some (.int x1), none] [] h q := by
  refine qe_iload_n c35_0 rfl ?_
  refine qe_iconst (x := 0) c35_1 (by decide) ?_
  refine qe_sipush (x := 200) c35_2 (by decide) ?_
  refine qe_static (as := [.int x1, .int 0, .int 200]) (r := []) (v := (some (.int z1))) (h2 := h1) c35_5 qo35 (by decide) qK11_108 rfl rfl rfl (Nat.le_of_ble_eq_true rfl) e2 ?_
  refine qe_if_eq_T (t := 25) c35_8 rfl e3 ?_
  exact kk
theorem b35_11F {d : Nat} {q : Option Value × qH} {h : qH} {r0 : Nat} {x1 : Int32} {fs1 : List Value} {y3 : Nat} {fs5 : List Value} {y7 : Int32}  (e2 : h.2.2 r0 = some (.inr (11, fs1))) (e4 : fs1[11]? = some (.ref y3)) (e6 : h.2.2 y3 = some (.inr (9, fs5))) (e8 : fs5[0]? = some (.int y7)) (e9 : ¬ (((x1 * 12) : Int32) ≤ y7)) (kk : qE d 35 25 [some (.ref r0), some (.int x1), none] [] h q): qE d 35 11 [some (.ref r0), some (.int x1), none] [] h q := by
  refine qe_iload_n c35_11 rfl ?_
  refine qe_bipush (x := 12) c35_12 (by decide) ?_
  refine qe_imul c35_14 ?_
  refine qe_aload_n c35_15 rfl ?_
  refine qe_getfield c35_16 qo35 qF11_83 e2 e4 ?_
  refine qe_getfield c35_19 qo35 qF11_172 e6 e8 ?_
  refine qe_icmp_le_F (t := 28) c35_22 rfl e9 ?_
  exact kk
theorem b35_11T {d : Nat} {q : Option Value × qH} {h : qH} {r0 : Nat} {x1 : Int32} {fs1 : List Value} {y3 : Nat} {fs5 : List Value} {y7 : Int32}  (e2 : h.2.2 r0 = some (.inr (11, fs1))) (e4 : fs1[11]? = some (.ref y3)) (e6 : h.2.2 y3 = some (.inr (9, fs5))) (e8 : fs5[0]? = some (.int y7)) (e9 : ((x1 * 12) : Int32) ≤ y7) (kk : qE d 35 28 [some (.ref r0), some (.int x1), none] [] h q): qE d 35 11 [some (.ref r0), some (.int x1), none] [] h q := by
  refine qe_iload_n c35_11 rfl ?_
  refine qe_bipush (x := 12) c35_12 (by decide) ?_
  refine qe_imul c35_14 ?_
  refine qe_aload_n c35_15 rfl ?_
  refine qe_getfield c35_16 qo35 qF11_83 e2 e4 ?_
  refine qe_getfield c35_19 qo35 qF11_172 e6 e8 ?_
  refine qe_icmp_le_T (t := 28) c35_22 rfl e9 ?_
  exact kk
theorem b35_25 {d : Nat} {h : qH} {r0 : Nat} {x1 : Int32}   : qE d 35 25 [some (.ref r0), some (.int x1), none] [] h (some (.int (-2)), h) := by
  refine qe_bipush (x := (-2)) c35_25 (by decide) ?_
  exact qe_iret c35_27 qr35
theorem b35_28 {d : Nat} {q : Option Value × qH} {h : qH} {r0 : Nat} {x1 : Int32} {fs1 : List Value} {y3 : Nat} {fs5 : List Value} {h1 : qH}  (e2 : h.2.2 r0 = some (.inr (11, fs1))) (e4 : fs1[11]? = some (.ref y3)) (e6 : h.2.2 y3 = some (.inr (9, fs5))) (e7 : 0 < fs5.length) (e8 : qset h y3 (.inr (9, fs5.set 0 (.int 0))) = h1) (kk : qE d 35 38 [some (.ref r0), some (.int x1), some (.int 0)] [] h1 q): qE d 35 28 [some (.ref r0), some (.int x1), none] [] h q := by
  refine qe_aload_n c35_28 rfl ?_
  refine qe_getfield c35_29 qo35 qF11_83 e2 e4 ?_
  refine qe_iconst (x := 0) c35_32 (by decide) ?_
  refine qe_putfield c35_33 qo35 qF11_172 qz9_0 e6 e7 (by rw [qy9_0]; rfl) ?_
  rw [e8]
  refine qe_iconst (x := 0) c35_36 (by decide) ?_
  refine qe_istore_n (ls2 := [some (.ref r0), some (.int x1), some (.int 0)]) c35_37 (Nat.le_of_ble_eq_true rfl) rfl ?_
  exact kk
theorem b35_38F {d : Nat} {q : Option Value × qH} {h : qH} {r0 : Nat} {x1 : Int32} {x2 : Int32}  (e1 : ¬ (((3 * x1) : Int32) ≤ x2)) (kk : qE d 35 45 [some (.ref r0), some (.int x1), some (.int x2)] [] h q): qE d 35 38 [some (.ref r0), some (.int x1), some (.int x2)] [] h q := by
  refine qe_iload_n c35_38 rfl ?_
  refine qe_iconst (x := 3) c35_39 (by decide) ?_
  refine qe_iload_n c35_40 rfl ?_
  refine qe_imul c35_41 ?_
  refine qe_icmp_ge_F (t := 61) c35_42 rfl e1 ?_
  exact kk
theorem b35_38T {d : Nat} {q : Option Value × qH} {h : qH} {r0 : Nat} {x1 : Int32} {x2 : Int32}  (e1 : ((3 * x1) : Int32) ≤ x2) (kk : qE d 35 61 [some (.ref r0), some (.int x1), some (.int x2)] [] h q): qE d 35 38 [some (.ref r0), some (.int x1), some (.int x2)] [] h q := by
  refine qe_iload_n c35_38 rfl ?_
  refine qe_iconst (x := 3) c35_39 (by decide) ?_
  refine qe_iload_n c35_40 rfl ?_
  refine qe_imul c35_41 ?_
  refine qe_icmp_ge_T (t := 61) c35_42 rfl e1 ?_
  exact kk
theorem b35_45F {d : Nat} {q : Option Value × qH} {h : qH} {r0 : Nat} {x1 : Int32} {x2 : Int32} {fs1 : List Value} {h1 : qH} {z3 : Int32}  (e2 : h.2.2 r0 = some (.inr (11, fs1))) (e4 : qCall d 58 [.ref r0, .int x2] h ((some (.int z3)), h1)) (e5 : (z3 : Int32) = 0) (kk : qE d 35 53 [some (.ref r0), some (.int x1), some (.int x2)] [] h1 q): qE d 35 45 [some (.ref r0), some (.int x1), some (.int x2)] [] h q := by
  refine qe_aload_n c35_45 rfl ?_
  refine qe_iload_n c35_46 rfl ?_
  refine qe_virtual (b := r0) (as := [.int x2]) (r := []) (v := (some (.int z3))) (h2 := h1) c35_47 qo35 qK11_343 rfl rfl rfl (by rw [qo58]; exact e2) (Nat.le_of_ble_eq_true rfl) e4 ?_
  refine qe_if_ne_F (t := 55) c35_50 rfl e5 ?_
  exact kk
theorem b35_45T {d : Nat} {q : Option Value × qH} {h : qH} {r0 : Nat} {x1 : Int32} {x2 : Int32} {fs1 : List Value} {h1 : qH} {z3 : Int32}  (e2 : h.2.2 r0 = some (.inr (11, fs1))) (e4 : qCall d 58 [.ref r0, .int x2] h ((some (.int z3)), h1)) (e5 : ¬ ((z3 : Int32) = 0)) (kk : qE d 35 55 [some (.ref r0), some (.int x1), some (.int x2)] [] h1 q): qE d 35 45 [some (.ref r0), some (.int x1), some (.int x2)] [] h q := by
  refine qe_aload_n c35_45 rfl ?_
  refine qe_iload_n c35_46 rfl ?_
  refine qe_virtual (b := r0) (as := [.int x2]) (r := []) (v := (some (.int z3))) (h2 := h1) c35_47 qo35 qK11_343 rfl rfl rfl (by rw [qo58]; exact e2) (Nat.le_of_ble_eq_true rfl) e4 ?_
  refine qe_if_ne_T (t := 55) c35_50 rfl e5 ?_
  exact kk
theorem b35_53 {d : Nat} {h : qH} {r0 : Nat} {x1 : Int32} {x2 : Int32}   : qE d 35 53 [some (.ref r0), some (.int x1), some (.int x2)] [] h (some (.int x2), h) := by
  refine qe_iload_n c35_53 rfl ?_
  exact qe_iret c35_54 qr35
theorem b35_55 {d : Nat} {q : Option Value × qH} {h : qH} {r0 : Nat} {x1 : Int32} {x2 : Int32}   (kk : qE d 35 38 [some (.ref r0), some (.int x1), some (.int (x2 + 1))] [] h q): qE d 35 55 [some (.ref r0), some (.int x1), some (.int x2)] [] h q := by
  refine qe_iinc (y := (x2 + 1)) (ls2 := [some (.ref r0), some (.int x1), some (.int (x2 + 1))]) c35_55 rfl (Nat.le_of_ble_eq_true rfl) rfl rfl ?_
  refine qe_goto (t := 38) c35_58 rfl ?_
  exact kk
theorem b35_61F {d : Nat} {q : Option Value × qH} {h : qH} {r0 : Nat} {x1 : Int32} {x2 : Int32} {fs1 : List Value} {y3 : Nat} {fs5 : List Value} {y7 : Int32}  (e2 : h.2.2 r0 = some (.inr (11, fs1))) (e4 : fs1[0]? = some (.ref y3)) (e6 : h.2.2 y3 = some (.inr (4, fs5))) (e8 : fs5[1]? = some (.int y7)) (e9 : ¬ ((y7 : Int32) ≤ x1)) (kk : qE d 35 72 [some (.ref r0), some (.int x1), some (.int x2)] [] h q): qE d 35 61 [some (.ref r0), some (.int x1), some (.int x2)] [] h q := by
  refine qe_iload_n c35_61 rfl ?_
  refine qe_aload_n c35_62 rfl ?_
  refine qe_getfield c35_63 qo35 qF11_10 e2 e4 ?_
  refine qe_getfield c35_66 qo35 qF11_119 e6 e8 ?_
  refine qe_icmp_ge_F (t := 78) c35_69 rfl e9 ?_
  exact kk
theorem b35_61T {d : Nat} {q : Option Value × qH} {h : qH} {r0 : Nat} {x1 : Int32} {x2 : Int32} {fs1 : List Value} {y3 : Nat} {fs5 : List Value} {y7 : Int32}  (e2 : h.2.2 r0 = some (.inr (11, fs1))) (e4 : fs1[0]? = some (.ref y3)) (e6 : h.2.2 y3 = some (.inr (4, fs5))) (e8 : fs5[1]? = some (.int y7)) (e9 : (y7 : Int32) ≤ x1) (kk : qE d 35 78 [some (.ref r0), some (.int x1), some (.int x2)] [] h q): qE d 35 61 [some (.ref r0), some (.int x1), some (.int x2)] [] h q := by
  refine qe_iload_n c35_61 rfl ?_
  refine qe_aload_n c35_62 rfl ?_
  refine qe_getfield c35_63 qo35 qF11_10 e2 e4 ?_
  refine qe_getfield c35_66 qo35 qF11_119 e6 e8 ?_
  refine qe_icmp_ge_T (t := 78) c35_69 rfl e9 ?_
  exact kk
theorem b35_72 {d : Nat} {q : Option Value × qH} {h : qH} {r0 : Nat} {x1 : Int32} {x2 : Int32}   (kk : qE d 35 79 [some (.ref r0), some (.int x1), some (.int x2)] [.int (3 * x1)] h q): qE d 35 72 [some (.ref r0), some (.int x1), some (.int x2)] [] h q := by
  refine qe_iconst (x := 3) c35_72 (by decide) ?_
  refine qe_iload_n c35_73 rfl ?_
  refine qe_imul c35_74 ?_
  refine qe_goto (t := 79) c35_75 rfl ?_
  exact kk
theorem b35_78 {d : Nat} {q : Option Value × qH} {h : qH} {r0 : Nat} {x1 : Int32} {x2 : Int32}   (kk : qE d 35 79 [some (.ref r0), some (.int x1), some (.int x2)] [.int (-1)] h q): qE d 35 78 [some (.ref r0), some (.int x1), some (.int x2)] [] h q := by
  refine qe_iconst (x := (-1)) c35_78 (by decide) ?_
  exact kk
theorem b35_79 {d : Nat} {h : qH} {r0 : Nat} {x1 : Int32} {x2 : Int32} {xs0 : Int32}   : qE d 35 79 [some (.ref r0), some (.int x1), some (.int x2)] [.int xs0] h (some (.int xs0), h) := by
  exact qe_iret c35_79 qr35
theorem b36_0F {d : Nat} {q : Option Value × qH} {h : qH} {r0 : Nat} {x1 : Int32} {x2 : Int32} {x3 : Int32} {h1 : qH} {z1 : Int32}  (e2 : qCall d 56 [.int x1] h ((some (.int z1)), h1)) (e3 : ¬ ((z1 : Int32) = 0)) (kk : qE d 36 7 [some (.ref r0), some (.int x1), some (.int x2), some (.int x3)] [] h1 q): qE d 36 0 [some (.ref r0), some (.int x1), some (.int x2), some (.int x3)] [] h q := by
  refine qe_iload_n c36_0 rfl ?_
  refine qe_static (as := [.int x1]) (r := []) (v := (some (.int z1))) (h2 := h1) c36_1 qo36 (by decide) qK11_104 rfl rfl rfl (Nat.le_of_ble_eq_true rfl) e2 ?_
  refine qe_if_eq_F (t := 34) c36_4 rfl e3 ?_
  exact kk
theorem b36_0T {d : Nat} {q : Option Value × qH} {h : qH} {r0 : Nat} {x1 : Int32} {x2 : Int32} {x3 : Int32} {h1 : qH} {z1 : Int32}  (e2 : qCall d 56 [.int x1] h ((some (.int z1)), h1)) (e3 : (z1 : Int32) = 0) (kk : qE d 36 34 [some (.ref r0), some (.int x1), some (.int x2), some (.int x3)] [] h1 q): qE d 36 0 [some (.ref r0), some (.int x1), some (.int x2), some (.int x3)] [] h q := by
  refine qe_iload_n c36_0 rfl ?_
  refine qe_static (as := [.int x1]) (r := []) (v := (some (.int z1))) (h2 := h1) c36_1 qo36 (by decide) qK11_104 rfl rfl rfl (Nat.le_of_ble_eq_true rfl) e2 ?_
  refine qe_if_eq_T (t := 34) c36_4 rfl e3 ?_
  exact kk
theorem b36_7F {d : Nat} {q : Option Value × qH} {h : qH} {r0 : Nat} {x1 : Int32} {x2 : Int32} {x3 : Int32}  (e1 : ¬ ((x3 : Int32) < x2)) (kk : qE d 36 12 [some (.ref r0), some (.int x1), some (.int x2), some (.int x3)] [] h q): qE d 36 7 [some (.ref r0), some (.int x1), some (.int x2), some (.int x3)] [] h q := by
  refine qe_iload_n c36_7 rfl ?_
  refine qe_iload_n c36_8 rfl ?_
  refine qe_icmp_gt_F (t := 34) c36_9 rfl e1 ?_
  exact kk
theorem b36_7T {d : Nat} {q : Option Value × qH} {h : qH} {r0 : Nat} {x1 : Int32} {x2 : Int32} {x3 : Int32}  (e1 : (x3 : Int32) < x2) (kk : qE d 36 34 [some (.ref r0), some (.int x1), some (.int x2), some (.int x3)] [] h q): qE d 36 7 [some (.ref r0), some (.int x1), some (.int x2), some (.int x3)] [] h q := by
  refine qe_iload_n c36_7 rfl ?_
  refine qe_iload_n c36_8 rfl ?_
  refine qe_icmp_gt_T (t := 34) c36_9 rfl e1 ?_
  exact kk
theorem b36_12F {d : Nat} {q : Option Value × qH} {h : qH} {r0 : Nat} {x1 : Int32} {x2 : Int32} {x3 : Int32} {h1 : qH} {z1 : Int32}  (e2 : qCall d 80 [.int x2, .int (-100), .int 100] h ((some (.int z1)), h1)) (e3 : ¬ ((z1 : Int32) = 0)) (kk : qE d 36 23 [some (.ref r0), some (.int x1), some (.int x2), some (.int x3)] [] h1 q): qE d 36 12 [some (.ref r0), some (.int x1), some (.int x2), some (.int x3)] [] h q := by
  refine qe_iload_n c36_12 rfl ?_
  refine qe_bipush (x := (-100)) c36_13 (by decide) ?_
  refine qe_bipush (x := 100) c36_15 (by decide) ?_
  refine qe_static (as := [.int x2, .int (-100), .int 100]) (r := []) (v := (some (.int z1))) (h2 := h1) c36_17 qo36 (by decide) qK11_108 rfl rfl rfl (Nat.le_of_ble_eq_true rfl) e2 ?_
  refine qe_if_eq_F (t := 34) c36_20 rfl e3 ?_
  exact kk
theorem b36_12T {d : Nat} {q : Option Value × qH} {h : qH} {r0 : Nat} {x1 : Int32} {x2 : Int32} {x3 : Int32} {h1 : qH} {z1 : Int32}  (e2 : qCall d 80 [.int x2, .int (-100), .int 100] h ((some (.int z1)), h1)) (e3 : (z1 : Int32) = 0) (kk : qE d 36 34 [some (.ref r0), some (.int x1), some (.int x2), some (.int x3)] [] h1 q): qE d 36 12 [some (.ref r0), some (.int x1), some (.int x2), some (.int x3)] [] h q := by
  refine qe_iload_n c36_12 rfl ?_
  refine qe_bipush (x := (-100)) c36_13 (by decide) ?_
  refine qe_bipush (x := 100) c36_15 (by decide) ?_
  refine qe_static (as := [.int x2, .int (-100), .int 100]) (r := []) (v := (some (.int z1))) (h2 := h1) c36_17 qo36 (by decide) qK11_108 rfl rfl rfl (Nat.le_of_ble_eq_true rfl) e2 ?_
  refine qe_if_eq_T (t := 34) c36_20 rfl e3 ?_
  exact kk
theorem b36_23F {d : Nat} {q : Option Value × qH} {h : qH} {r0 : Nat} {x1 : Int32} {x2 : Int32} {x3 : Int32} {h1 : qH} {z1 : Int32}  (e2 : qCall d 80 [.int x3, .int (-100), .int 100] h ((some (.int z1)), h1)) (e3 : (z1 : Int32) = 0) (kk : qE d 36 34 [some (.ref r0), some (.int x1), some (.int x2), some (.int x3)] [] h1 q): qE d 36 23 [some (.ref r0), some (.int x1), some (.int x2), some (.int x3)] [] h q := by
  refine qe_iload_n c36_23 rfl ?_
  refine qe_bipush (x := (-100)) c36_24 (by decide) ?_
  refine qe_bipush (x := 100) c36_26 (by decide) ?_
  refine qe_static (as := [.int x3, .int (-100), .int 100]) (r := []) (v := (some (.int z1))) (h2 := h1) c36_28 qo36 (by decide) qK11_108 rfl rfl rfl (Nat.le_of_ble_eq_true rfl) e2 ?_
  refine qe_if_ne_F (t := 36) c36_31 rfl e3 ?_
  exact kk
theorem b36_23T {d : Nat} {q : Option Value × qH} {h : qH} {r0 : Nat} {x1 : Int32} {x2 : Int32} {x3 : Int32} {h1 : qH} {z1 : Int32}  (e2 : qCall d 80 [.int x3, .int (-100), .int 100] h ((some (.int z1)), h1)) (e3 : ¬ ((z1 : Int32) = 0)) (kk : qE d 36 36 [some (.ref r0), some (.int x1), some (.int x2), some (.int x3)] [] h1 q): qE d 36 23 [some (.ref r0), some (.int x1), some (.int x2), some (.int x3)] [] h q := by
  refine qe_iload_n c36_23 rfl ?_
  refine qe_bipush (x := (-100)) c36_24 (by decide) ?_
  refine qe_bipush (x := 100) c36_26 (by decide) ?_
  refine qe_static (as := [.int x3, .int (-100), .int 100]) (r := []) (v := (some (.int z1))) (h2 := h1) c36_28 qo36 (by decide) qK11_108 rfl rfl rfl (Nat.le_of_ble_eq_true rfl) e2 ?_
  refine qe_if_ne_T (t := 36) c36_31 rfl e3 ?_
  exact kk
theorem b36_34 {d : Nat} {h : qH} {r0 : Nat} {x1 : Int32} {x2 : Int32} {x3 : Int32}   : qE d 36 34 [some (.ref r0), some (.int x1), some (.int x2), some (.int x3)] [] h (some (.int 0), h) := by
  refine qe_iconst (x := 0) c36_34 (by decide) ?_
  exact qe_zret c36_35 qr36 (by decide)
theorem b36_36 {d : Nat} {h : qH} {r0 : Nat} {x1 : Int32} {x2 : Int32} {x3 : Int32} {fs1 : List Value} {y3 : Nat} {fs5 : List Value} {y7 : Nat} {n9 : Nat} {f10 : Nat → Int32} {h1 : qH} {fs14 : List Value} {y16 : Nat} {fs18 : List Value} {y20 : Nat} {n22 : Nat} {f23 : Nat → Int32} {h2 : qH}  (e2 : h.2.2 r0 = some (.inr (11, fs1))) (e4 : fs1[9]? = some (.ref y3)) (e6 : h.2.2 y3 = some (.inr (2, fs5))) (e8 : fs5[2]? = some (.ref y7)) (e11 : h.2.2 y7 = some (.inl (0, n9, .inl f10))) (e12 : 0 ≤ (x1 : Int32).toInt ∧ (x1 : Int32).toInt < (n9 : Nat)) (e13 : qset h y7 (.inl (0, n9, .inl (upd f10 ((x1 : Int32).toNatClampNeg) x2))) = h1) (e15 : h1.2.2 r0 = some (.inr (11, fs14))) (e17 : fs14[9]? = some (.ref y16)) (e19 : h1.2.2 y16 = some (.inr (2, fs18))) (e21 : fs18[3]? = some (.ref y20)) (e24 : h1.2.2 y20 = some (.inl (0, n22, .inl f23))) (e25 : 0 ≤ (x1 : Int32).toInt ∧ (x1 : Int32).toInt < (n22 : Nat)) (e26 : qset h1 y20 (.inl (0, n22, .inl (upd f23 ((x1 : Int32).toNatClampNeg) x3))) = h2) : qE d 36 36 [some (.ref r0), some (.int x1), some (.int x2), some (.int x3)] [] h (some (.int 1), h2) := by
  refine qe_aload_n c36_36 rfl ?_
  refine qe_getfield c36_37 qo36 qF11_69 e2 e4 ?_
  refine qe_getfield c36_40 qo36 qF11_297 e6 e8 ?_
  refine qe_iload_n c36_43 rfl ?_
  refine qe_iload_n c36_44 rfl ?_
  refine qe_iastore c36_45 e11 e12 ?_
  rw [e13]
  refine qe_aload_n c36_46 rfl ?_
  refine qe_getfield c36_47 qo36 qF11_69 e15 e17 ?_
  refine qe_getfield c36_50 qo36 qF11_300 e19 e21 ?_
  refine qe_iload_n c36_53 rfl ?_
  refine qe_iload_n c36_54 rfl ?_
  refine qe_iastore c36_55 e24 e25 ?_
  rw [e26]
  refine qe_iconst (x := 1) c36_56 (by decide) ?_
  exact qe_zret c36_57 qr36 (by decide)
theorem b37_0F {d : Nat} {q : Option Value × qH} {h : qH} {r0 : Nat} {x1 : Int32} {x2 : Int32} {r3 : Nat} {fs1 : List Value} {y3 : Nat} {fs5 : List Value} {h1 : qH} {fs8 : List Value} {y10 : Nat} {fs12 : List Value} {y14 : Nat} {n16 : Nat} {f17 : Nat → Int32}  (e2 : h.2.2 r0 = some (.inr (11, fs1))) (e4 : fs1[6]? = some (.ref y3)) (e6 : h.2.2 y3 = some (.inr (5, fs5))) (e7 : qCall d 219 [.ref y3, .ref r3] h (none, h1)) (e9 : h1.2.2 r0 = some (.inr (11, fs8))) (e11 : fs8[7]? = some (.ref y10)) (e13 : h1.2.2 y10 = some (.inr (3, fs12))) (e15 : fs12[1]? = some (.ref y14)) (e18 : h1.2.2 y14 = some (.inl (0, n16, .inl f17))) (e19 : 0 ≤ (x1 : Int32).toInt ∧ (x1 : Int32).toInt < (n16 : Nat)) (e20 : ((f17 (x1 : Int32).toNatClampNeg) : Int32) = 3) (kk : qE d 37 21 [some (.ref r0), some (.int x1), some (.int x2), some (.ref r3)] [] h1 q): qE d 37 0 [some (.ref r0), some (.int x1), some (.int x2), some (.ref r3)] [] h q := by
  refine qe_aload_n c37_0 rfl ?_
  refine qe_getfield c37_1 qo37 qF11_48 e2 e4 ?_
  refine qe_aload_n c37_4 rfl ?_
  refine qe_virtual (b := y3) (as := [.ref r3]) (r := []) (v := none) (h2 := h1) c37_5 qo37 qK11_193 rfl rfl rfl (by rw [qo219]; exact e6) (Nat.le_of_ble_eq_true rfl) e7 ?_
  refine qe_aload_n c37_8 rfl ?_
  refine qe_getfield c37_9 qo37 qF11_55 e9 e11 ?_
  refine qe_getfield c37_12 qo37 qF11_245 e13 e15 ?_
  refine qe_iload_n c37_15 rfl ?_
  refine qe_iaload c37_16 e18 e19 ?_
  refine qe_iconst (x := 3) c37_17 (by decide) ?_
  refine qe_icmp_ne_F (t := 50) c37_18 rfl e20 ?_
  exact kk
theorem b37_0T {d : Nat} {q : Option Value × qH} {h : qH} {r0 : Nat} {x1 : Int32} {x2 : Int32} {r3 : Nat} {fs1 : List Value} {y3 : Nat} {fs5 : List Value} {h1 : qH} {fs8 : List Value} {y10 : Nat} {fs12 : List Value} {y14 : Nat} {n16 : Nat} {f17 : Nat → Int32}  (e2 : h.2.2 r0 = some (.inr (11, fs1))) (e4 : fs1[6]? = some (.ref y3)) (e6 : h.2.2 y3 = some (.inr (5, fs5))) (e7 : qCall d 219 [.ref y3, .ref r3] h (none, h1)) (e9 : h1.2.2 r0 = some (.inr (11, fs8))) (e11 : fs8[7]? = some (.ref y10)) (e13 : h1.2.2 y10 = some (.inr (3, fs12))) (e15 : fs12[1]? = some (.ref y14)) (e18 : h1.2.2 y14 = some (.inl (0, n16, .inl f17))) (e19 : 0 ≤ (x1 : Int32).toInt ∧ (x1 : Int32).toInt < (n16 : Nat)) (e20 : ¬ (((f17 (x1 : Int32).toNatClampNeg) : Int32) = 3)) (kk : qE d 37 50 [some (.ref r0), some (.int x1), some (.int x2), some (.ref r3)] [] h1 q): qE d 37 0 [some (.ref r0), some (.int x1), some (.int x2), some (.ref r3)] [] h q := by
  refine qe_aload_n c37_0 rfl ?_
  refine qe_getfield c37_1 qo37 qF11_48 e2 e4 ?_
  refine qe_aload_n c37_4 rfl ?_
  refine qe_virtual (b := y3) (as := [.ref r3]) (r := []) (v := none) (h2 := h1) c37_5 qo37 qK11_193 rfl rfl rfl (by rw [qo219]; exact e6) (Nat.le_of_ble_eq_true rfl) e7 ?_
  refine qe_aload_n c37_8 rfl ?_
  refine qe_getfield c37_9 qo37 qF11_55 e9 e11 ?_
  refine qe_getfield c37_12 qo37 qF11_245 e13 e15 ?_
  refine qe_iload_n c37_15 rfl ?_
  refine qe_iaload c37_16 e18 e19 ?_
  refine qe_iconst (x := 3) c37_17 (by decide) ?_
  refine qe_icmp_ne_T (t := 50) c37_18 rfl e20 ?_
  exact kk
theorem b37_21 {d : Nat} {q : Option Value × qH} {h : qH} {r0 : Nat} {x1 : Int32} {x2 : Int32} {r3 : Nat} {fs1 : List Value} {y3 : Nat} {fs5 : List Value} {y7 : Nat} {fs9 : List Value} {y11 : Int32} {y13 : Nat} {fs15 : List Value} {y17 : Nat} {n19 : Nat} {f20 : Nat → Int32} {h1 : qH}  (e2 : h.2.2 r0 = some (.inr (11, fs1))) (e4 : fs1[6]? = some (.ref y3)) (e6 : h.2.2 y3 = some (.inr (5, fs5))) (e8 : fs5[0]? = some (.ref y7)) (e10 : h.2.2 y7 = some (.inr (8, fs9))) (e12 : fs9[2]? = some (.int y11)) (e14 : fs1[7]? = some (.ref y13)) (e16 : h.2.2 y13 = some (.inr (3, fs15))) (e18 : fs15[2]? = some (.ref y17)) (e21 : h.2.2 y17 = some (.inl (0, n19, .inl f20))) (e22 : 0 ≤ (x1 : Int32).toInt ∧ (x1 : Int32).toInt < (n19 : Nat)) (e23 : 2 < fs9.length) (e24 : qset h y7 (.inr (8, fs9.set 2 (.int (y11 ||| (1 <<< ((f20 (x1 : Int32).toNatClampNeg) &&& 31)))))) = h1) (kk : qE d 37 71 [some (.ref r0), some (.int x1), some (.int x2), some (.ref r3)] [] h1 q): qE d 37 21 [some (.ref r0), some (.int x1), some (.int x2), some (.ref r3)] [] h q := by
  refine qe_aload_n c37_21 rfl ?_
  refine qe_getfield c37_22 qo37 qF11_48 e2 e4 ?_
  refine qe_getfield c37_25 qo37 qF11_205 e6 e8 ?_
  refine qe_dup c37_28 rfl ?_
  refine qe_getfield c37_29 qo37 qF11_133 e10 e12 ?_
  refine qe_iconst (x := 1) c37_32 (by decide) ?_
  refine qe_aload_n c37_33 rfl ?_
  refine qe_getfield c37_34 qo37 qF11_55 e2 e14 ?_
  refine qe_getfield c37_37 qo37 qF11_248 e16 e18 ?_
  refine qe_iload_n c37_40 rfl ?_
  refine qe_iaload c37_41 e21 e22 ?_
  refine qe_ishl c37_42 ?_
  refine qe_ior c37_43 ?_
  refine qe_putfield c37_44 qo37 qF11_133 qz8_2 e10 e23 (by rw [qy8_2]; rfl) ?_
  rw [e24]
  refine qe_goto (t := 71) c37_47 rfl ?_
  exact kk
theorem b37_50 {d : Nat} {q : Option Value × qH} {h : qH} {r0 : Nat} {x1 : Int32} {x2 : Int32} {r3 : Nat} {fs1 : List Value} {y3 : Nat} {fs5 : List Value} {y7 : Nat} {fs9 : List Value} {y11 : Nat} {y13 : Nat} {fs15 : List Value} {y17 : Nat} {n19 : Nat} {f20 : Nat → Int32} {n23 : Nat} {f24 : Nat → Int32} {h1 : qH}  (e2 : h.2.2 r0 = some (.inr (11, fs1))) (e4 : fs1[6]? = some (.ref y3)) (e6 : h.2.2 y3 = some (.inr (5, fs5))) (e8 : fs5[0]? = some (.ref y7)) (e10 : h.2.2 y7 = some (.inr (8, fs9))) (e12 : fs9[5]? = some (.ref y11)) (e14 : fs1[7]? = some (.ref y13)) (e16 : h.2.2 y13 = some (.inr (3, fs15))) (e18 : fs15[2]? = some (.ref y17)) (e21 : h.2.2 y17 = some (.inl (0, n19, .inl f20))) (e22 : 0 ≤ (x1 : Int32).toInt ∧ (x1 : Int32).toInt < (n19 : Nat)) (e25 : h.2.2 y11 = some (.inl (0, n23, .inl f24))) (e26 : 0 ≤ ((f20 (x1 : Int32).toNatClampNeg) : Int32).toInt ∧ ((f20 (x1 : Int32).toNatClampNeg) : Int32).toInt < (n23 : Nat)) (e27 : qset h y11 (.inl (0, n23, .inl (upd f24 (((f20 (x1 : Int32).toNatClampNeg) : Int32).toNatClampNeg) 0))) = h1) (kk : qE d 37 71 [some (.ref r0), some (.int x1), some (.int x2), some (.ref r3)] [] h1 q): qE d 37 50 [some (.ref r0), some (.int x1), some (.int x2), some (.ref r3)] [] h q := by
  refine qe_aload_n c37_50 rfl ?_
  refine qe_getfield c37_51 qo37 qF11_48 e2 e4 ?_
  refine qe_getfield c37_54 qo37 qF11_205 e6 e8 ?_
  refine qe_getfield c37_57 qo37 qF11_149 e10 e12 ?_
  refine qe_aload_n c37_60 rfl ?_
  refine qe_getfield c37_61 qo37 qF11_55 e2 e14 ?_
  refine qe_getfield c37_64 qo37 qF11_248 e16 e18 ?_
  refine qe_iload_n c37_67 rfl ?_
  refine qe_iaload c37_68 e21 e22 ?_
  refine qe_iconst (x := 0) c37_69 (by decide) ?_
  refine qe_iastore c37_70 e25 e26 ?_
  rw [e27]
  exact kk
theorem b37_71 {d : Nat} {h : qH} {r0 : Nat} {x1 : Int32} {x2 : Int32} {r3 : Nat} {fs1 : List Value} {y3 : Nat} {y5 : Nat} {fs7 : List Value} {h1 : qH} {fs10 : List Value} {y12 : Nat} {y14 : Nat} {fs16 : List Value} {y18 : Nat} {n20 : Nat} {f21 : Nat → Int32} {y25 : Nat} {n27 : Nat} {f28 : Nat → Int32} {fs31 : List Value} {h2 : qH} {z33 : Int32}  (e2 : h.2.2 r0 = some (.inr (11, fs1))) (e4 : fs1[6]? = some (.ref y3)) (e6 : fs1[0]? = some (.ref y5)) (e8 : h.2.2 y3 = some (.inr (5, fs7))) (e9 : qCall d 225 [.ref y3, .ref y5] h (none, h1)) (e11 : h1.2.2 r0 = some (.inr (11, fs10))) (e13 : fs10[6]? = some (.ref y12)) (e15 : fs10[7]? = some (.ref y14)) (e17 : h1.2.2 y14 = some (.inr (3, fs16))) (e19 : fs16[1]? = some (.ref y18)) (e22 : h1.2.2 y18 = some (.inl (0, n20, .inl f21))) (e23 : 0 ≤ (x2 : Int32).toInt ∧ (x2 : Int32).toInt < (n20 : Nat)) (e26 : fs16[2]? = some (.ref y25)) (e29 : h1.2.2 y25 = some (.inl (0, n27, .inl f28))) (e30 : 0 ≤ (x2 : Int32).toInt ∧ (x2 : Int32).toInt < (n27 : Nat)) (e32 : h1.2.2 y12 = some (.inr (5, fs31))) (e34 : qCall d 222 [.ref y12, .int (f21 (x2 : Int32).toNatClampNeg), .int (f28 (x2 : Int32).toNatClampNeg)] h1 ((some (.int z33)), h2)) (e35 : (z33 : Int32) = 0 ∨ (z33 : Int32) = 1) : qE d 37 71 [some (.ref r0), some (.int x1), some (.int x2), some (.ref r3)] [] h (some (.int z33), h2) := by
  refine qe_aload_n c37_71 rfl ?_
  refine qe_getfield c37_72 qo37 qF11_48 e2 e4 ?_
  refine qe_aload_n c37_75 rfl ?_
  refine qe_getfield c37_76 qo37 qF11_10 e2 e6 ?_
  refine qe_virtual (b := y3) (as := [.ref y5]) (r := []) (v := none) (h2 := h1) c37_79 qo37 qK11_196 rfl rfl rfl (by rw [qo225]; exact e8) (Nat.le_of_ble_eq_true rfl) e9 ?_
  refine qe_aload_n c37_82 rfl ?_
  refine qe_getfield c37_83 qo37 qF11_48 e11 e13 ?_
  refine qe_aload_n c37_86 rfl ?_
  refine qe_getfield c37_87 qo37 qF11_55 e11 e15 ?_
  refine qe_getfield c37_90 qo37 qF11_245 e17 e19 ?_
  refine qe_iload_n c37_93 rfl ?_
  refine qe_iaload c37_94 e22 e23 ?_
  refine qe_aload_n c37_95 rfl ?_
  refine qe_getfield c37_96 qo37 qF11_55 e11 e15 ?_
  refine qe_getfield c37_99 qo37 qF11_248 e17 e26 ?_
  refine qe_iload_n c37_102 rfl ?_
  refine qe_iaload c37_103 e29 e30 ?_
  refine qe_virtual (b := y12) (as := [.int (f21 (x2 : Int32).toNatClampNeg), .int (f28 (x2 : Int32).toNatClampNeg)]) (r := []) (v := (some (.int z33))) (h2 := h2) c37_104 qo37 qK11_363 rfl rfl rfl (by rw [qo222]; exact e32) (Nat.le_of_ble_eq_true rfl) e34 ?_
  exact qe_zret c37_107 qr37 e35
theorem b38_0F {d : Nat} {q : Option Value × qH} {h : qH} {r0 : Nat} {x1 : Int32} {h1 : qH} {z1 : Int32}  (e2 : qCall d 80 [.int x1, .int 0, .int 1000] h ((some (.int z1)), h1)) (e3 : (z1 : Int32) = 0) (kk : qE d 38 11 [some (.ref r0), some (.int x1)] [] h1 q): qE d 38 0 [some (.ref r0), some (.int x1)] [] h q := by
  refine qe_iload_n c38_0 rfl ?_
  refine qe_iconst (x := 0) c38_1 (by decide) ?_
  refine qe_sipush (x := 1000) c38_2 (by decide) ?_
  refine qe_static (as := [.int x1, .int 0, .int 1000]) (r := []) (v := (some (.int z1))) (h2 := h1) c38_5 qo38 (by decide) qK11_108 rfl rfl rfl (Nat.le_of_ble_eq_true rfl) e2 ?_
  refine qe_if_ne_F (t := 13) c38_8 rfl e3 ?_
  exact kk
theorem b38_0T {d : Nat} {q : Option Value × qH} {h : qH} {r0 : Nat} {x1 : Int32} {h1 : qH} {z1 : Int32}  (e2 : qCall d 80 [.int x1, .int 0, .int 1000] h ((some (.int z1)), h1)) (e3 : ¬ ((z1 : Int32) = 0)) (kk : qE d 38 13 [some (.ref r0), some (.int x1)] [] h1 q): qE d 38 0 [some (.ref r0), some (.int x1)] [] h q := by
  refine qe_iload_n c38_0 rfl ?_
  refine qe_iconst (x := 0) c38_1 (by decide) ?_
  refine qe_sipush (x := 1000) c38_2 (by decide) ?_
  refine qe_static (as := [.int x1, .int 0, .int 1000]) (r := []) (v := (some (.int z1))) (h2 := h1) c38_5 qo38 (by decide) qK11_108 rfl rfl rfl (Nat.le_of_ble_eq_true rfl) e2 ?_
  refine qe_if_ne_T (t := 13) c38_8 rfl e3 ?_
  exact kk
theorem b38_11 {d : Nat} {h : qH} {r0 : Nat} {x1 : Int32}   : qE d 38 11 [some (.ref r0), some (.int x1)] [] h (some (.int 0), h) := by
  refine qe_iconst (x := 0) c38_11 (by decide) ?_
  exact qe_zret c38_12 qr38 (by decide)
theorem b38_13 {d : Nat} {h : qH} {r0 : Nat} {x1 : Int32} {fs1 : List Value} {y3 : Nat} {fs5 : List Value} {h1 : qH}  (e2 : h.2.2 r0 = some (.inr (11, fs1))) (e4 : fs1[0]? = some (.ref y3)) (e6 : h.2.2 y3 = some (.inr (4, fs5))) (e7 : 3 < fs5.length) (e8 : qset h y3 (.inr (4, fs5.set 3 (.int x1))) = h1) : qE d 38 13 [some (.ref r0), some (.int x1)] [] h (some (.int 1), h1) := by
  refine qe_aload_n c38_13 rfl ?_
  refine qe_getfield c38_14 qo38 qF11_10 e2 e4 ?_
  refine qe_iload_n c38_17 rfl ?_
  refine qe_putfield c38_18 qo38 qF11_146 qz4_3 e6 e7 (by rw [qy4_3]; rfl) ?_
  rw [e8]
  refine qe_iconst (x := 1) c38_21 (by decide) ?_
  exact qe_zret c38_22 qr38 (by decide)
theorem b39_0F {d : Nat} {q : Option Value × qH} {h : qH} {r0 : Nat} {x1 : Int32} {x2 : Int32} {fs1 : List Value} {y3 : Nat} {fs5 : List Value} {h1 : qH} {z7 : Int32}  (e2 : h.2.2 r0 = some (.inr (11, fs1))) (e4 : fs1[0]? = some (.ref y3)) (e6 : h.2.2 y3 = some (.inr (4, fs5))) (e8 : qCall d 215 [.ref y3, .int x1] h ((some (.int z7)), h1)) (e9 : ¬ ((z7 : Int32) = 0)) (kk : qE d 39 11 [some (.ref r0), some (.int x1), some (.int x2)] [] h1 q): qE d 39 0 [some (.ref r0), some (.int x1), some (.int x2)] [] h q := by
  refine qe_aload_n c39_0 rfl ?_
  refine qe_getfield c39_1 qo39 qF11_10 e2 e4 ?_
  refine qe_iload_n c39_4 rfl ?_
  refine qe_virtual (b := y3) (as := [.int x1]) (r := []) (v := (some (.int z7))) (h2 := h1) c39_5 qo39 qK11_140 rfl rfl rfl (by rw [qo215]; exact e6) (Nat.le_of_ble_eq_true rfl) e8 ?_
  refine qe_if_eq_F (t := 22) c39_8 rfl e9 ?_
  exact kk
theorem b39_0T {d : Nat} {q : Option Value × qH} {h : qH} {r0 : Nat} {x1 : Int32} {x2 : Int32} {fs1 : List Value} {y3 : Nat} {fs5 : List Value} {h1 : qH} {z7 : Int32}  (e2 : h.2.2 r0 = some (.inr (11, fs1))) (e4 : fs1[0]? = some (.ref y3)) (e6 : h.2.2 y3 = some (.inr (4, fs5))) (e8 : qCall d 215 [.ref y3, .int x1] h ((some (.int z7)), h1)) (e9 : (z7 : Int32) = 0) (kk : qE d 39 22 [some (.ref r0), some (.int x1), some (.int x2)] [] h1 q): qE d 39 0 [some (.ref r0), some (.int x1), some (.int x2)] [] h q := by
  refine qe_aload_n c39_0 rfl ?_
  refine qe_getfield c39_1 qo39 qF11_10 e2 e4 ?_
  refine qe_iload_n c39_4 rfl ?_
  refine qe_virtual (b := y3) (as := [.int x1]) (r := []) (v := (some (.int z7))) (h2 := h1) c39_5 qo39 qK11_140 rfl rfl rfl (by rw [qo215]; exact e6) (Nat.le_of_ble_eq_true rfl) e8 ?_
  refine qe_if_eq_T (t := 22) c39_8 rfl e9 ?_
  exact kk
theorem b39_11F {d : Nat} {q : Option Value × qH} {h : qH} {r0 : Nat} {x1 : Int32} {x2 : Int32} {h1 : qH} {z1 : Int32}  (e2 : qCall d 80 [.int x2, .int 1, .int 1000] h ((some (.int z1)), h1)) (e3 : (z1 : Int32) = 0) (kk : qE d 39 22 [some (.ref r0), some (.int x1), some (.int x2)] [] h1 q): qE d 39 11 [some (.ref r0), some (.int x1), some (.int x2)] [] h q := by
  refine qe_iload_n c39_11 rfl ?_
  refine qe_iconst (x := 1) c39_12 (by decide) ?_
  refine qe_sipush (x := 1000) c39_13 (by decide) ?_
  refine qe_static (as := [.int x2, .int 1, .int 1000]) (r := []) (v := (some (.int z1))) (h2 := h1) c39_16 qo39 (by decide) qK11_108 rfl rfl rfl (Nat.le_of_ble_eq_true rfl) e2 ?_
  refine qe_if_ne_F (t := 24) c39_19 rfl e3 ?_
  exact kk
theorem b39_11T {d : Nat} {q : Option Value × qH} {h : qH} {r0 : Nat} {x1 : Int32} {x2 : Int32} {h1 : qH} {z1 : Int32}  (e2 : qCall d 80 [.int x2, .int 1, .int 1000] h ((some (.int z1)), h1)) (e3 : ¬ ((z1 : Int32) = 0)) (kk : qE d 39 24 [some (.ref r0), some (.int x1), some (.int x2)] [] h1 q): qE d 39 11 [some (.ref r0), some (.int x1), some (.int x2)] [] h q := by
  refine qe_iload_n c39_11 rfl ?_
  refine qe_iconst (x := 1) c39_12 (by decide) ?_
  refine qe_sipush (x := 1000) c39_13 (by decide) ?_
  refine qe_static (as := [.int x2, .int 1, .int 1000]) (r := []) (v := (some (.int z1))) (h2 := h1) c39_16 qo39 (by decide) qK11_108 rfl rfl rfl (Nat.le_of_ble_eq_true rfl) e2 ?_
  refine qe_if_ne_T (t := 24) c39_19 rfl e3 ?_
  exact kk
theorem b39_22 {d : Nat} {h : qH} {r0 : Nat} {x1 : Int32} {x2 : Int32}   : qE d 39 22 [some (.ref r0), some (.int x1), some (.int x2)] [] h (some (.int 0), h) := by
  refine qe_iconst (x := 0) c39_22 (by decide) ?_
  exact qe_zret c39_23 qr39 (by decide)
theorem b39_24 {d : Nat} {h : qH} {r0 : Nat} {x1 : Int32} {x2 : Int32} {fs1 : List Value} {y3 : Nat} {fs5 : List Value} {y7 : Nat} {n9 : Nat} {f10 : Nat → Int32} {h1 : qH}  (e2 : h.2.2 r0 = some (.inr (11, fs1))) (e4 : fs1[0]? = some (.ref y3)) (e6 : h.2.2 y3 = some (.inr (4, fs5))) (e8 : fs5[13]? = some (.ref y7)) (e11 : h.2.2 y7 = some (.inl (0, n9, .inl f10))) (e12 : 0 ≤ (x1 : Int32).toInt ∧ (x1 : Int32).toInt < (n9 : Nat)) (e13 : qset h y7 (.inl (0, n9, .inl (upd f10 ((x1 : Int32).toNatClampNeg) x2))) = h1) : qE d 39 24 [some (.ref r0), some (.int x1), some (.int x2)] [] h (some (.int 1), h1) := by
  refine qe_aload_n c39_24 rfl ?_
  refine qe_getfield c39_25 qo39 qF11_10 e2 e4 ?_
  refine qe_getfield c39_28 qo39 qF11_337 e6 e8 ?_
  refine qe_iload_n c39_31 rfl ?_
  refine qe_iload_n c39_32 rfl ?_
  refine qe_iastore c39_33 e11 e12 ?_
  rw [e13]
  refine qe_iconst (x := 1) c39_34 (by decide) ?_
  exact qe_zret c39_35 qr39 (by decide)
theorem b40_0F {d : Nat} {q : Option Value × qH} {h : qH} {r0 : Nat} {x1 : Int32}  (e1 : ¬ ((x1 : Int32) < 20)) (kk : qE d 40 6 [some (.ref r0), some (.int x1)] [] h q): qE d 40 0 [some (.ref r0), some (.int x1)] [] h q := by
  refine qe_iload_n c40_0 rfl ?_
  refine qe_bipush (x := 20) c40_1 (by decide) ?_
  refine qe_icmp_lt_F (t := 20) c40_3 rfl e1 ?_
  exact kk
theorem b40_0T {d : Nat} {q : Option Value × qH} {h : qH} {r0 : Nat} {x1 : Int32}  (e1 : (x1 : Int32) < 20) (kk : qE d 40 20 [some (.ref r0), some (.int x1)] [] h q): qE d 40 0 [some (.ref r0), some (.int x1)] [] h q := by
  refine qe_iload_n c40_0 rfl ?_
  refine qe_bipush (x := 20) c40_1 (by decide) ?_
  refine qe_icmp_lt_T (t := 20) c40_3 rfl e1 ?_
  exact kk
theorem b40_6F {d : Nat} {q : Option Value × qH} {h : qH} {r0 : Nat} {x1 : Int32} {fs1 : List Value} {y3 : Nat} {fs5 : List Value} {y7 : Int32}  (e2 : h.2.2 r0 = some (.inr (11, fs1))) (e4 : fs1[0]? = some (.ref y3)) (e6 : h.2.2 y3 = some (.inr (4, fs5))) (e8 : fs5[1]? = some (.int y7)) (e9 : ¬ (((x1 - 20) : Int32) < y7)) (kk : qE d 40 20 [some (.ref r0), some (.int x1)] [] h q): qE d 40 6 [some (.ref r0), some (.int x1)] [] h q := by
  refine qe_iload_n c40_6 rfl ?_
  refine qe_bipush (x := 20) c40_7 (by decide) ?_
  refine qe_isub c40_9 ?_
  refine qe_aload_n c40_10 rfl ?_
  refine qe_getfield c40_11 qo40 qF11_10 e2 e4 ?_
  refine qe_getfield c40_14 qo40 qF11_119 e6 e8 ?_
  refine qe_icmp_lt_F (t := 22) c40_17 rfl e9 ?_
  exact kk
theorem b40_6T {d : Nat} {q : Option Value × qH} {h : qH} {r0 : Nat} {x1 : Int32} {fs1 : List Value} {y3 : Nat} {fs5 : List Value} {y7 : Int32}  (e2 : h.2.2 r0 = some (.inr (11, fs1))) (e4 : fs1[0]? = some (.ref y3)) (e6 : h.2.2 y3 = some (.inr (4, fs5))) (e8 : fs5[1]? = some (.int y7)) (e9 : ((x1 - 20) : Int32) < y7) (kk : qE d 40 22 [some (.ref r0), some (.int x1)] [] h q): qE d 40 6 [some (.ref r0), some (.int x1)] [] h q := by
  refine qe_iload_n c40_6 rfl ?_
  refine qe_bipush (x := 20) c40_7 (by decide) ?_
  refine qe_isub c40_9 ?_
  refine qe_aload_n c40_10 rfl ?_
  refine qe_getfield c40_11 qo40 qF11_10 e2 e4 ?_
  refine qe_getfield c40_14 qo40 qF11_119 e6 e8 ?_
  refine qe_icmp_lt_T (t := 22) c40_17 rfl e9 ?_
  exact kk
theorem b40_20 {d : Nat} {h : qH} {r0 : Nat} {x1 : Int32}   : qE d 40 20 [some (.ref r0), some (.int x1)] [] h (some (.int (-1)), h) := by
  refine qe_iconst (x := (-1)) c40_20 (by decide) ?_
  exact qe_iret c40_21 qr40
theorem b40_22 {d : Nat} {h : qH} {r0 : Nat} {x1 : Int32} {fs1 : List Value} {y3 : Nat} {fs5 : List Value} {y7 : Nat} {n9 : Nat} {f10 : Nat → Int32}  (e2 : h.2.2 r0 = some (.inr (11, fs1))) (e4 : fs1[0]? = some (.ref y3)) (e6 : h.2.2 y3 = some (.inr (4, fs5))) (e8 : fs5[13]? = some (.ref y7)) (e11 : h.2.2 y7 = some (.inl (0, n9, .inl f10))) (e12 : 0 ≤ ((x1 - 20) : Int32).toInt ∧ ((x1 - 20) : Int32).toInt < (n9 : Nat)) : qE d 40 22 [some (.ref r0), some (.int x1)] [] h (some (.int (f10 ((x1 - 20) : Int32).toNatClampNeg)), h) := by
  refine qe_aload_n c40_22 rfl ?_
  refine qe_getfield c40_23 qo40 qF11_10 e2 e4 ?_
  refine qe_getfield c40_26 qo40 qF11_337 e6 e8 ?_
  refine qe_iload_n c40_29 rfl ?_
  refine qe_bipush (x := 20) c40_30 (by decide) ?_
  refine qe_isub c40_32 ?_
  refine qe_iaload c40_33 e11 e12 ?_
  exact qe_iret c40_34 qr40
theorem b41_0 {d : Nat} {q : Option Value × qH} {h : qH} {r0 : Nat} {x1 : Int32} {x2 : Int32}   (kk : qE d 41 5 [some (.ref r0), some (.int x1), some (.int x2), some (.int 0), some (.int 0)] [] h q): qE d 41 0 [some (.ref r0), some (.int x1), some (.int x2), none, none] [] h q := by
  refine qe_iconst (x := 0) c41_0 (by decide) ?_
  refine qe_istore_n (ls2 := [some (.ref r0), some (.int x1), some (.int x2), some (.int 0), none]) c41_1 (Nat.le_of_ble_eq_true rfl) rfl ?_
  refine qe_iconst (x := 0) c41_2 (by decide) ?_
  refine qe_istore (ls2 := [some (.ref r0), some (.int x1), some (.int x2), some (.int 0), some (.int 0)]) c41_3 (Nat.le_of_ble_eq_true rfl) rfl ?_
  exact kk
theorem b41_5F {d : Nat} {q : Option Value × qH} {h : qH} {r0 : Nat} {x1 : Int32} {x2 : Int32} {x3 : Int32} {x4 : Int32}  (e1 : ¬ ((x2 : Int32) ≤ x4)) (kk : qE d 41 11 [some (.ref r0), some (.int x1), some (.int x2), some (.int x3), some (.int x4)] [] h q): qE d 41 5 [some (.ref r0), some (.int x1), some (.int x2), some (.int x3), some (.int x4)] [] h q := by
  refine qe_iload c41_5 rfl ?_
  refine qe_iload_n c41_7 rfl ?_
  refine qe_icmp_ge_F (t := 45) c41_8 rfl e1 ?_
  exact kk
theorem b41_5T {d : Nat} {q : Option Value × qH} {h : qH} {r0 : Nat} {x1 : Int32} {x2 : Int32} {x3 : Int32} {x4 : Int32}  (e1 : (x2 : Int32) ≤ x4) (kk : qE d 41 45 [some (.ref r0), some (.int x1), some (.int x2), some (.int x3), some (.int x4)] [] h q): qE d 41 5 [some (.ref r0), some (.int x1), some (.int x2), some (.int x3), some (.int x4)] [] h q := by
  refine qe_iload c41_5 rfl ?_
  refine qe_iload_n c41_7 rfl ?_
  refine qe_icmp_ge_T (t := 45) c41_8 rfl e1 ?_
  exact kk
theorem b41_11F {d : Nat} {q : Option Value × qH} {h : qH} {r0 : Nat} {x1 : Int32} {x2 : Int32} {x3 : Int32} {x4 : Int32}  (e1 : (((x1 >>> (x4 &&& 31)) &&& 1) : Int32) = 1) (kk : qE d 41 21 [some (.ref r0), some (.int x1), some (.int x2), some (.int x3), some (.int x4)] [] h q): qE d 41 11 [some (.ref r0), some (.int x1), some (.int x2), some (.int x3), some (.int x4)] [] h q := by
  refine qe_iload_n c41_11 rfl ?_
  refine qe_iload c41_12 rfl ?_
  refine qe_ishr c41_14 ?_
  refine qe_iconst (x := 1) c41_15 (by decide) ?_
  refine qe_iand c41_16 ?_
  refine qe_iconst (x := 1) c41_17 (by decide) ?_
  refine qe_icmp_ne_F (t := 39) c41_18 rfl e1 ?_
  exact kk
theorem b41_11T {d : Nat} {q : Option Value × qH} {h : qH} {r0 : Nat} {x1 : Int32} {x2 : Int32} {x3 : Int32} {x4 : Int32}  (e1 : ¬ ((((x1 >>> (x4 &&& 31)) &&& 1) : Int32) = 1)) (kk : qE d 41 39 [some (.ref r0), some (.int x1), some (.int x2), some (.int x3), some (.int x4)] [] h q): qE d 41 11 [some (.ref r0), some (.int x1), some (.int x2), some (.int x3), some (.int x4)] [] h q := by
  refine qe_iload_n c41_11 rfl ?_
  refine qe_iload c41_12 rfl ?_
  refine qe_ishr c41_14 ?_
  refine qe_iconst (x := 1) c41_15 (by decide) ?_
  refine qe_iand c41_16 ?_
  refine qe_iconst (x := 1) c41_17 (by decide) ?_
  refine qe_icmp_ne_T (t := 39) c41_18 rfl e1 ?_
  exact kk
theorem b41_21 {d : Nat} {q : Option Value × qH} {h : qH} {r0 : Nat} {x1 : Int32} {x2 : Int32} {x3 : Int32} {x4 : Int32} {fs1 : List Value} {y3 : Nat} {fs5 : List Value} {y7 : Nat} {y9 : Nat} {n11 : Nat} {f12 : Nat → Int32} {n15 : Nat} {f16 : Nat → Int32}  (e2 : h.2.2 r0 = some (.inr (11, fs1))) (e4 : fs1[0]? = some (.ref y3)) (e6 : h.2.2 y3 = some (.inr (4, fs5))) (e8 : fs5[13]? = some (.ref y7)) (e10 : fs1[12]? = some (.ref y9)) (e13 : h.2.2 y9 = some (.inl (0, n11, .inl f12))) (e14 : 0 ≤ (x4 : Int32).toInt ∧ (x4 : Int32).toInt < (n11 : Nat)) (e17 : h.2.2 y7 = some (.inl (0, n15, .inl f16))) (e18 : 0 ≤ ((f12 (x4 : Int32).toNatClampNeg) : Int32).toInt ∧ ((f12 (x4 : Int32).toNatClampNeg) : Int32).toInt < (n15 : Nat)) (kk : qE d 41 39 [some (.ref r0), some (.int x1), some (.int x2), some (.int (x3 + (f16 ((f12 (x4 : Int32).toNatClampNeg) : Int32).toNatClampNeg))), some (.int x4)] [] h q): qE d 41 21 [some (.ref r0), some (.int x1), some (.int x2), some (.int x3), some (.int x4)] [] h q := by
  refine qe_iload_n c41_21 rfl ?_
  refine qe_aload_n c41_22 rfl ?_
  refine qe_getfield c41_23 qo41 qF11_10 e2 e4 ?_
  refine qe_getfield c41_26 qo41 qF11_337 e6 e8 ?_
  refine qe_aload_n c41_29 rfl ?_
  refine qe_getfield c41_30 qo41 qF11_87 e2 e10 ?_
  refine qe_iload c41_33 rfl ?_
  refine qe_iaload c41_35 e13 e14 ?_
  refine qe_iaload c41_36 e17 e18 ?_
  refine qe_iadd c41_37 ?_
  refine qe_istore_n (ls2 := [some (.ref r0), some (.int x1), some (.int x2), some (.int (x3 + (f16 ((f12 (x4 : Int32).toNatClampNeg) : Int32).toNatClampNeg))), some (.int x4)]) c41_38 (Nat.le_of_ble_eq_true rfl) rfl ?_
  exact kk
theorem b41_39 {d : Nat} {q : Option Value × qH} {h : qH} {r0 : Nat} {x1 : Int32} {x2 : Int32} {x3 : Int32} {x4 : Int32}   (kk : qE d 41 5 [some (.ref r0), some (.int x1), some (.int x2), some (.int x3), some (.int (x4 + 1))] [] h q): qE d 41 39 [some (.ref r0), some (.int x1), some (.int x2), some (.int x3), some (.int x4)] [] h q := by
  refine qe_iinc (y := (x4 + 1)) (ls2 := [some (.ref r0), some (.int x1), some (.int x2), some (.int x3), some (.int (x4 + 1))]) c41_39 rfl (Nat.le_of_ble_eq_true rfl) rfl rfl ?_
  refine qe_goto (t := 5) c41_42 rfl ?_
  exact kk
theorem b41_45 {d : Nat} {h : qH} {r0 : Nat} {x1 : Int32} {x2 : Int32} {x3 : Int32} {x4 : Int32}   : qE d 41 45 [some (.ref r0), some (.int x1), some (.int x2), some (.int x3), some (.int x4)] [] h (some (.int x3), h) := by
  refine qe_iload_n c41_45 rfl ?_
  exact qe_iret c41_46 qr41
theorem b42_0D {d : Nat} {q : Option Value × qH} {h : qH} {r0 : Nat} {x1 : Int32}  (e1 : (x1 : Int32).toInt < 0 ∨ 10 < (x1 : Int32).toInt) (kk : qE d 42 158 [some (.ref r0), some (.int x1)] [] h q): qE d 42 0 [some (.ref r0), some (.int x1)] [] h q := by
  refine qe_iload_n c42_0 rfl ?_
  refine qe_tableD (t := 158) c42_1 e1 rfl ?_
  exact kk
theorem b42_0s10 {d : Nat} {q : Option Value × qH} {h : qH} {r0 : Nat} {x1 : Int32}  (e1 : (x1 : Int32).toInt = 10) (kk : qE d 42 143 [some (.ref r0), some (.int x1)] [] h q): qE d 42 0 [some (.ref r0), some (.int x1)] [] h q := by
  refine qe_iload_n c42_0 rfl ?_
  refine qe_table (off := 142) (t := 143) c42_1 (by rw [e1]; decide) (by rw [e1]; decide) rfl ?_
  exact kk
theorem b42_0s9 {d : Nat} {q : Option Value × qH} {h : qH} {r0 : Nat} {x1 : Int32}  (e1 : (x1 : Int32).toInt = 9) (kk : qE d 42 135 [some (.ref r0), some (.int x1)] [] h q): qE d 42 0 [some (.ref r0), some (.int x1)] [] h q := by
  refine qe_iload_n c42_0 rfl ?_
  refine qe_table (off := 134) (t := 135) c42_1 (by rw [e1]; decide) (by rw [e1]; decide) rfl ?_
  exact kk
theorem b42_0s8 {d : Nat} {q : Option Value × qH} {h : qH} {r0 : Nat} {x1 : Int32}  (e1 : (x1 : Int32).toInt = 8) (kk : qE d 42 127 [some (.ref r0), some (.int x1)] [] h q): qE d 42 0 [some (.ref r0), some (.int x1)] [] h q := by
  refine qe_iload_n c42_0 rfl ?_
  refine qe_table (off := 126) (t := 127) c42_1 (by rw [e1]; decide) (by rw [e1]; decide) rfl ?_
  exact kk
theorem b42_0s7 {d : Nat} {q : Option Value × qH} {h : qH} {r0 : Nat} {x1 : Int32}  (e1 : (x1 : Int32).toInt = 7) (kk : qE d 42 119 [some (.ref r0), some (.int x1)] [] h q): qE d 42 0 [some (.ref r0), some (.int x1)] [] h q := by
  refine qe_iload_n c42_0 rfl ?_
  refine qe_table (off := 118) (t := 119) c42_1 (by rw [e1]; decide) (by rw [e1]; decide) rfl ?_
  exact kk
theorem b42_0s6 {d : Nat} {q : Option Value × qH} {h : qH} {r0 : Nat} {x1 : Int32}  (e1 : (x1 : Int32).toInt = 6) (kk : qE d 42 111 [some (.ref r0), some (.int x1)] [] h q): qE d 42 0 [some (.ref r0), some (.int x1)] [] h q := by
  refine qe_iload_n c42_0 rfl ?_
  refine qe_table (off := 110) (t := 111) c42_1 (by rw [e1]; decide) (by rw [e1]; decide) rfl ?_
  exact kk
theorem b42_0s5 {d : Nat} {q : Option Value × qH} {h : qH} {r0 : Nat} {x1 : Int32}  (e1 : (x1 : Int32).toInt = 5) (kk : qE d 42 100 [some (.ref r0), some (.int x1)] [] h q): qE d 42 0 [some (.ref r0), some (.int x1)] [] h q := by
  refine qe_iload_n c42_0 rfl ?_
  refine qe_table (off := 99) (t := 100) c42_1 (by rw [e1]; decide) (by rw [e1]; decide) rfl ?_
  exact kk
theorem b42_0s4 {d : Nat} {q : Option Value × qH} {h : qH} {r0 : Nat} {x1 : Int32}  (e1 : (x1 : Int32).toInt = 4) (kk : qE d 42 92 [some (.ref r0), some (.int x1)] [] h q): qE d 42 0 [some (.ref r0), some (.int x1)] [] h q := by
  refine qe_iload_n c42_0 rfl ?_
  refine qe_table (off := 91) (t := 92) c42_1 (by rw [e1]; decide) (by rw [e1]; decide) rfl ?_
  exact kk
theorem b42_0s3 {d : Nat} {q : Option Value × qH} {h : qH} {r0 : Nat} {x1 : Int32}  (e1 : (x1 : Int32).toInt = 3) (kk : qE d 42 84 [some (.ref r0), some (.int x1)] [] h q): qE d 42 0 [some (.ref r0), some (.int x1)] [] h q := by
  refine qe_iload_n c42_0 rfl ?_
  refine qe_table (off := 83) (t := 84) c42_1 (by rw [e1]; decide) (by rw [e1]; decide) rfl ?_
  exact kk
theorem b42_0s2 {d : Nat} {q : Option Value × qH} {h : qH} {r0 : Nat} {x1 : Int32}  (e1 : (x1 : Int32).toInt = 2) (kk : qE d 42 76 [some (.ref r0), some (.int x1)] [] h q): qE d 42 0 [some (.ref r0), some (.int x1)] [] h q := by
  refine qe_iload_n c42_0 rfl ?_
  refine qe_table (off := 75) (t := 76) c42_1 (by rw [e1]; decide) (by rw [e1]; decide) rfl ?_
  exact kk
theorem b42_0s1 {d : Nat} {q : Option Value × qH} {h : qH} {r0 : Nat} {x1 : Int32}  (e1 : (x1 : Int32).toInt = 1) (kk : qE d 42 68 [some (.ref r0), some (.int x1)] [] h q): qE d 42 0 [some (.ref r0), some (.int x1)] [] h q := by
  refine qe_iload_n c42_0 rfl ?_
  refine qe_table (off := 67) (t := 68) c42_1 (by rw [e1]; decide) (by rw [e1]; decide) rfl ?_
  exact kk
theorem b42_0s0 {d : Nat} {q : Option Value × qH} {h : qH} {r0 : Nat} {x1 : Int32}  (e1 : (x1 : Int32).toInt = 0) (kk : qE d 42 60 [some (.ref r0), some (.int x1)] [] h q): qE d 42 0 [some (.ref r0), some (.int x1)] [] h q := by
  refine qe_iload_n c42_0 rfl ?_
  refine qe_table (off := 59) (t := 60) c42_1 (by rw [e1]; decide) (by rw [e1]; decide) rfl ?_
  exact kk
theorem b42_60 {d : Nat} {h : qH} {r0 : Nat} {x1 : Int32} {fs1 : List Value} {y3 : Nat} {fs5 : List Value} {y7 : Int32}  (e2 : h.2.2 r0 = some (.inr (11, fs1))) (e4 : fs1[1]? = some (.ref y3)) (e6 : h.2.2 y3 = some (.inr (8, fs5))) (e8 : fs5[0]? = some (.int y7)) : qE d 42 60 [some (.ref r0), some (.int x1)] [] h (some (.int y7), h) := by
  refine qe_aload_n c42_60 rfl ?_
  refine qe_getfield c42_61 qo42 qF11_19 e2 e4 ?_
  refine qe_getfield c42_64 qo42 qF11_97 e6 e8 ?_
  exact qe_iret c42_67 qr42
theorem b42_68 {d : Nat} {h : qH} {r0 : Nat} {x1 : Int32} {fs1 : List Value} {y3 : Nat} {fs5 : List Value} {y7 : Int32}  (e2 : h.2.2 r0 = some (.inr (11, fs1))) (e4 : fs1[0]? = some (.ref y3)) (e6 : h.2.2 y3 = some (.inr (4, fs5))) (e8 : fs5[0]? = some (.int y7)) : qE d 42 68 [some (.ref r0), some (.int x1)] [] h (some (.int y7), h) := by
  refine qe_aload_n c42_68 rfl ?_
  refine qe_getfield c42_69 qo42 qF11_10 e2 e4 ?_
  refine qe_getfield c42_72 qo42 qF11_101 e6 e8 ?_
  exact qe_iret c42_75 qr42
theorem b42_76 {d : Nat} {h : qH} {r0 : Nat} {x1 : Int32} {fs1 : List Value} {y3 : Nat} {fs5 : List Value} {y7 : Int32}  (e2 : h.2.2 r0 = some (.inr (11, fs1))) (e4 : fs1[0]? = some (.ref y3)) (e6 : h.2.2 y3 = some (.inr (4, fs5))) (e8 : fs5[1]? = some (.int y7)) : qE d 42 76 [some (.ref r0), some (.int x1)] [] h (some (.int y7), h) := by
  refine qe_aload_n c42_76 rfl ?_
  refine qe_getfield c42_77 qo42 qF11_10 e2 e4 ?_
  refine qe_getfield c42_80 qo42 qF11_119 e6 e8 ?_
  exact qe_iret c42_83 qr42
theorem b42_84 {d : Nat} {h : qH} {r0 : Nat} {x1 : Int32} {fs1 : List Value} {y3 : Nat} {fs5 : List Value} {y7 : Int32}  (e2 : h.2.2 r0 = some (.inr (11, fs1))) (e4 : fs1[0]? = some (.ref y3)) (e6 : h.2.2 y3 = some (.inr (4, fs5))) (e8 : fs5[2]? = some (.int y7)) : qE d 42 84 [some (.ref r0), some (.int x1)] [] h (some (.int y7), h) := by
  refine qe_aload_n c42_84 rfl ?_
  refine qe_getfield c42_85 qo42 qF11_10 e2 e4 ?_
  refine qe_getfield c42_88 qo42 qF11_130 e6 e8 ?_
  exact qe_iret c42_91 qr42
theorem b42_92 {d : Nat} {h : qH} {r0 : Nat} {x1 : Int32} {fs1 : List Value} {y3 : Nat} {fs5 : List Value} {y7 : Int32}  (e2 : h.2.2 r0 = some (.inr (11, fs1))) (e4 : fs1[7]? = some (.ref y3)) (e6 : h.2.2 y3 = some (.inr (3, fs5))) (e8 : fs5[0]? = some (.int y7)) : qE d 42 92 [some (.ref r0), some (.int x1)] [] h (some (.int y7), h) := by
  refine qe_aload_n c42_92 rfl ?_
  refine qe_getfield c42_93 qo42 qF11_55 e2 e4 ?_
  refine qe_getfield c42_96 qo42 qF11_346 e6 e8 ?_
  exact qe_iret c42_99 qr42
theorem b42_100 {d : Nat} {h : qH} {r0 : Nat} {x1 : Int32} {fs1 : List Value} {y3 : Nat} {fs5 : List Value} {y7 : Nat} {fs9 : List Value} {y11 : Int32}  (e2 : h.2.2 r0 = some (.inr (11, fs1))) (e4 : fs1[0]? = some (.ref y3)) (e6 : h.2.2 y3 = some (.inr (4, fs5))) (e8 : fs5[4]? = some (.ref y7)) (e10 : h.2.2 y7 = some (.inr (10, fs9))) (e12 : fs9[0]? = some (.int y11)) : qE d 42 100 [some (.ref r0), some (.int x1)] [] h (some (.int y11), h) := by
  refine qe_aload_n c42_100 rfl ?_
  refine qe_getfield c42_101 qo42 qF11_10 e2 e4 ?_
  refine qe_getfield c42_104 qo42 qF11_182 e6 e8 ?_
  refine qe_getfield c42_107 qo42 qF11_347 e10 e12 ?_
  exact qe_iret c42_110 qr42
theorem b42_111 {d : Nat} {h : qH} {r0 : Nat} {x1 : Int32} {fs1 : List Value} {y3 : Nat} {fs5 : List Value} {y7 : Int32}  (e2 : h.2.2 r0 = some (.inr (11, fs1))) (e4 : fs1[9]? = some (.ref y3)) (e6 : h.2.2 y3 = some (.inr (2, fs5))) (e8 : fs5[0]? = some (.int y7)) : qE d 42 111 [some (.ref r0), some (.int x1)] [] h (some (.int y7), h) := by
  refine qe_aload_n c42_111 rfl ?_
  refine qe_getfield c42_112 qo42 qF11_69 e2 e4 ?_
  refine qe_getfield c42_115 qo42 qF11_303 e6 e8 ?_
  exact qe_iret c42_118 qr42
theorem b42_119 {d : Nat} {h : qH} {r0 : Nat} {x1 : Int32} {fs1 : List Value} {y3 : Nat} {fs5 : List Value} {y7 : Int32}  (e2 : h.2.2 r0 = some (.inr (11, fs1))) (e4 : fs1[9]? = some (.ref y3)) (e6 : h.2.2 y3 = some (.inr (2, fs5))) (e8 : fs5[1]? = some (.int y7)) : qE d 42 119 [some (.ref r0), some (.int x1)] [] h (some (.int y7), h) := by
  refine qe_aload_n c42_119 rfl ?_
  refine qe_getfield c42_120 qo42 qF11_69 e2 e4 ?_
  refine qe_getfield c42_123 qo42 qF11_312 e6 e8 ?_
  exact qe_iret c42_126 qr42
theorem b42_127 {d : Nat} {h : qH} {r0 : Nat} {x1 : Int32} {fs1 : List Value} {y3 : Nat} {fs5 : List Value} {y7 : Int32}  (e2 : h.2.2 r0 = some (.inr (11, fs1))) (e4 : fs1[11]? = some (.ref y3)) (e6 : h.2.2 y3 = some (.inr (9, fs5))) (e8 : fs5[0]? = some (.int y7)) : qE d 42 127 [some (.ref r0), some (.int x1)] [] h (some (.int y7), h) := by
  refine qe_aload_n c42_127 rfl ?_
  refine qe_getfield c42_128 qo42 qF11_83 e2 e4 ?_
  refine qe_getfield c42_131 qo42 qF11_172 e6 e8 ?_
  exact qe_iret c42_134 qr42
theorem b42_135 {d : Nat} {h : qH} {r0 : Nat} {x1 : Int32} {fs1 : List Value} {y3 : Nat} {fs5 : List Value} {y7 : Int32}  (e2 : h.2.2 r0 = some (.inr (11, fs1))) (e4 : fs1[0]? = some (.ref y3)) (e6 : h.2.2 y3 = some (.inr (4, fs5))) (e8 : fs5[3]? = some (.int y7)) : qE d 42 135 [some (.ref r0), some (.int x1)] [] h (some (.int y7), h) := by
  refine qe_aload_n c42_135 rfl ?_
  refine qe_getfield c42_136 qo42 qF11_10 e2 e4 ?_
  refine qe_getfield c42_139 qo42 qF11_146 e6 e8 ?_
  exact qe_iret c42_142 qr42
theorem b42_143 {d : Nat} {h : qH} {r0 : Nat} {x1 : Int32} {fs1 : List Value} {y3 : Nat} {fs6 : List Value} {y8 : Int32} {h1 : qH} {z10 : Int32}  (e2 : h.2.2 r0 = some (.inr (11, fs1))) (e4 : fs1[1]? = some (.ref y3)) (e7 : h.2.2 y3 = some (.inr (8, fs6))) (e9 : fs6[1]? = some (.int y8)) (e11 : qCall d 244 [.ref y3, .int y8] h ((some (.int z10)), h1)) : qE d 42 143 [some (.ref r0), some (.int x1)] [] h (some (.int z10), h1) := by
  refine qe_aload_n c42_143 rfl ?_
  refine qe_getfield c42_144 qo42 qF11_19 e2 e4 ?_
  refine qe_aload_n c42_147 rfl ?_
  refine qe_getfield c42_148 qo42 qF11_19 e2 e4 ?_
  refine qe_getfield c42_151 qo42 qF11_161 e7 e9 ?_
  refine qe_virtual (b := y3) (as := [.int y8]) (r := []) (v := (some (.int z10))) (h2 := h1) c42_154 qo42 qK11_350 rfl rfl rfl (by rw [qo244]; exact e7) (Nat.le_of_ble_eq_true rfl) e11 ?_
  exact qe_iret c42_157 qr42
theorem b42_158 {d : Nat} {h : qH} {r0 : Nat} {x1 : Int32} {fs1 : List Value} {h1 : qH} {z3 : Int32}  (e2 : h.2.2 r0 = some (.inr (11, fs1))) (e4 : qCall d 40 [.ref r0, .int x1] h ((some (.int z3)), h1)) : qE d 42 158 [some (.ref r0), some (.int x1)] [] h (some (.int z3), h1) := by
  refine qe_aload_n c42_158 rfl ?_
  refine qe_iload_n c42_159 rfl ?_
  refine qe_virtual (b := r0) (as := [.int x1]) (r := []) (v := (some (.int z3))) (h2 := h1) c42_160 qo42 qK11_353 rfl rfl rfl (by rw [qo40]; exact e2) (Nat.le_of_ble_eq_true rfl) e4 ?_
  exact qe_iret c42_163 qr42
theorem b43_0F {d : Nat} {q : Option Value × qH} {h : qH} {r0 : Nat} {x1 : Int32} {x2 : Int32} {x3 : Int32} {h1 : qH} {z1 : Int32}  (e2 : qCall d 80 [.int x1, .int 0, .int 10000] h ((some (.int z1)), h1)) (e3 : ¬ ((z1 : Int32) = 0)) (kk : qE d 43 11 [some (.ref r0), some (.int x1), some (.int x2), some (.int x3)] [] h1 q): qE d 43 0 [some (.ref r0), some (.int x1), some (.int x2), some (.int x3)] [] h q := by
  refine qe_iload_n c43_0 rfl ?_
  refine qe_iconst (x := 0) c43_1 (by decide) ?_
  refine qe_sipush (x := 10000) c43_2 (by decide) ?_
  refine qe_static (as := [.int x1, .int 0, .int 10000]) (r := []) (v := (some (.int z1))) (h2 := h1) c43_5 qo43 (by decide) qK11_108 rfl rfl rfl (Nat.le_of_ble_eq_true rfl) e2 ?_
  refine qe_if_eq_F (t := 30) c43_8 rfl e3 ?_
  exact kk
theorem b43_0T {d : Nat} {q : Option Value × qH} {h : qH} {r0 : Nat} {x1 : Int32} {x2 : Int32} {x3 : Int32} {h1 : qH} {z1 : Int32}  (e2 : qCall d 80 [.int x1, .int 0, .int 10000] h ((some (.int z1)), h1)) (e3 : (z1 : Int32) = 0) (kk : qE d 43 30 [some (.ref r0), some (.int x1), some (.int x2), some (.int x3)] [] h1 q): qE d 43 0 [some (.ref r0), some (.int x1), some (.int x2), some (.int x3)] [] h q := by
  refine qe_iload_n c43_0 rfl ?_
  refine qe_iconst (x := 0) c43_1 (by decide) ?_
  refine qe_sipush (x := 10000) c43_2 (by decide) ?_
  refine qe_static (as := [.int x1, .int 0, .int 10000]) (r := []) (v := (some (.int z1))) (h2 := h1) c43_5 qo43 (by decide) qK11_108 rfl rfl rfl (Nat.le_of_ble_eq_true rfl) e2 ?_
  refine qe_if_eq_T (t := 30) c43_8 rfl e3 ?_
  exact kk
theorem b43_11F {d : Nat} {q : Option Value × qH} {h : qH} {r0 : Nat} {x1 : Int32} {x2 : Int32} {x3 : Int32} {h1 : qH} {z1 : Int32}  (e2 : qCall d 80 [.int x2, .int 1, .int 30] h ((some (.int z1)), h1)) (e3 : ¬ ((z1 : Int32) = 0)) (kk : qE d 43 21 [some (.ref r0), some (.int x1), some (.int x2), some (.int x3)] [] h1 q): qE d 43 11 [some (.ref r0), some (.int x1), some (.int x2), some (.int x3)] [] h q := by
  refine qe_iload_n c43_11 rfl ?_
  refine qe_iconst (x := 1) c43_12 (by decide) ?_
  refine qe_bipush (x := 30) c43_13 (by decide) ?_
  refine qe_static (as := [.int x2, .int 1, .int 30]) (r := []) (v := (some (.int z1))) (h2 := h1) c43_15 qo43 (by decide) qK11_108 rfl rfl rfl (Nat.le_of_ble_eq_true rfl) e2 ?_
  refine qe_if_eq_F (t := 30) c43_18 rfl e3 ?_
  exact kk
theorem b43_11T {d : Nat} {q : Option Value × qH} {h : qH} {r0 : Nat} {x1 : Int32} {x2 : Int32} {x3 : Int32} {h1 : qH} {z1 : Int32}  (e2 : qCall d 80 [.int x2, .int 1, .int 30] h ((some (.int z1)), h1)) (e3 : (z1 : Int32) = 0) (kk : qE d 43 30 [some (.ref r0), some (.int x1), some (.int x2), some (.int x3)] [] h1 q): qE d 43 11 [some (.ref r0), some (.int x1), some (.int x2), some (.int x3)] [] h q := by
  refine qe_iload_n c43_11 rfl ?_
  refine qe_iconst (x := 1) c43_12 (by decide) ?_
  refine qe_bipush (x := 30) c43_13 (by decide) ?_
  refine qe_static (as := [.int x2, .int 1, .int 30]) (r := []) (v := (some (.int z1))) (h2 := h1) c43_15 qo43 (by decide) qK11_108 rfl rfl rfl (Nat.le_of_ble_eq_true rfl) e2 ?_
  refine qe_if_eq_T (t := 30) c43_18 rfl e3 ?_
  exact kk
theorem b43_21F {d : Nat} {q : Option Value × qH} {h : qH} {r0 : Nat} {x1 : Int32} {x2 : Int32} {x3 : Int32} {h1 : qH} {z1 : Int32}  (e2 : qCall d 80 [.int x3, .int 0, .int 1] h ((some (.int z1)), h1)) (e3 : (z1 : Int32) = 0) (kk : qE d 43 30 [some (.ref r0), some (.int x1), some (.int x2), some (.int x3)] [] h1 q): qE d 43 21 [some (.ref r0), some (.int x1), some (.int x2), some (.int x3)] [] h q := by
  refine qe_iload_n c43_21 rfl ?_
  refine qe_iconst (x := 0) c43_22 (by decide) ?_
  refine qe_iconst (x := 1) c43_23 (by decide) ?_
  refine qe_static (as := [.int x3, .int 0, .int 1]) (r := []) (v := (some (.int z1))) (h2 := h1) c43_24 qo43 (by decide) qK11_108 rfl rfl rfl (Nat.le_of_ble_eq_true rfl) e2 ?_
  refine qe_if_ne_F (t := 32) c43_27 rfl e3 ?_
  exact kk
theorem b43_21T {d : Nat} {q : Option Value × qH} {h : qH} {r0 : Nat} {x1 : Int32} {x2 : Int32} {x3 : Int32} {h1 : qH} {z1 : Int32}  (e2 : qCall d 80 [.int x3, .int 0, .int 1] h ((some (.int z1)), h1)) (e3 : ¬ ((z1 : Int32) = 0)) (kk : qE d 43 32 [some (.ref r0), some (.int x1), some (.int x2), some (.int x3)] [] h1 q): qE d 43 21 [some (.ref r0), some (.int x1), some (.int x2), some (.int x3)] [] h q := by
  refine qe_iload_n c43_21 rfl ?_
  refine qe_iconst (x := 0) c43_22 (by decide) ?_
  refine qe_iconst (x := 1) c43_23 (by decide) ?_
  refine qe_static (as := [.int x3, .int 0, .int 1]) (r := []) (v := (some (.int z1))) (h2 := h1) c43_24 qo43 (by decide) qK11_108 rfl rfl rfl (Nat.le_of_ble_eq_true rfl) e2 ?_
  refine qe_if_ne_T (t := 32) c43_27 rfl e3 ?_
  exact kk
theorem b43_30 {d : Nat} {h : qH} {r0 : Nat} {x1 : Int32} {x2 : Int32} {x3 : Int32}   : qE d 43 30 [some (.ref r0), some (.int x1), some (.int x2), some (.int x3)] [] h (some (.int (-1)), h) := by
  refine qe_iconst (x := (-1)) c43_30 (by decide) ?_
  exact qe_iret c43_31 qr43
theorem b43_32 {d : Nat} {h : qH} {r0 : Nat} {x1 : Int32} {x2 : Int32} {x3 : Int32} {fs1 : List Value} {h1 : qH} {z3 : Int32}  (e2 : h.2.2 r0 = some (.inr (11, fs1))) (e4 : qCall d 34 [.ref r0, .int x1, .int x2, .int x3] h ((some (.int z3)), h1)) : qE d 43 32 [some (.ref r0), some (.int x1), some (.int x2), some (.int x3)] [] h (some (.int z3), h1) := by
  refine qe_aload_n c43_32 rfl ?_
  refine qe_iload_n c43_33 rfl ?_
  refine qe_iload_n c43_34 rfl ?_
  refine qe_iload_n c43_35 rfl ?_
  refine qe_virtual (b := r0) (as := [.int x1, .int x2, .int x3]) (r := []) (v := (some (.int z3))) (h2 := h1) c43_36 qo43 qK11_340 rfl rfl rfl (by rw [qo34]; exact e2) (Nat.le_of_ble_eq_true rfl) e4 ?_
  exact qe_iret c43_39 qr43
theorem b44_0 {d : Nat} {q : Option Value × qH} {h : qH} {r0 : Nat} {x1 : Int32} {x2 : Int32} {x3 : Int32} {fs1 : List Value} {y3 : Nat} {y5 : Nat} {fs7 : List Value} {h1 : qH}  (e2 : h.2.2 r0 = some (.inr (11, fs1))) (e4 : fs1[6]? = some (.ref y3)) (e6 : fs1[1]? = some (.ref y5)) (e8 : h.2.2 y3 = some (.inr (5, fs7))) (e9 : qCall d 219 [.ref y3, .ref y5] h (none, h1)) (kk : qE d 44 14 [some (.ref r0), some (.int x1), some (.int x2), some (.int x3), some (.int 0)] [] h1 q): qE d 44 0 [some (.ref r0), some (.int x1), some (.int x2), some (.int x3), none] [] h q := by
  refine qe_aload_n c44_0 rfl ?_
  refine qe_getfield c44_1 qo44 qF11_48 e2 e4 ?_
  refine qe_aload_n c44_4 rfl ?_
  refine qe_getfield c44_5 qo44 qF11_19 e2 e6 ?_
  refine qe_virtual (b := y3) (as := [.ref y5]) (r := []) (v := none) (h2 := h1) c44_8 qo44 qK11_193 rfl rfl rfl (by rw [qo219]; exact e8) (Nat.le_of_ble_eq_true rfl) e9 ?_
  refine qe_iconst (x := 0) c44_11 (by decide) ?_
  refine qe_istore (ls2 := [some (.ref r0), some (.int x1), some (.int x2), some (.int x3), some (.int 0)]) c44_12 (Nat.le_of_ble_eq_true rfl) rfl ?_
  exact kk
theorem b44_14F {d : Nat} {q : Option Value × qH} {h : qH} {r0 : Nat} {x1 : Int32} {x2 : Int32} {x3 : Int32} {x4 : Int32}  (e1 : ¬ ((x2 : Int32) ≤ x4)) (kk : qE d 44 20 [some (.ref r0), some (.int x1), some (.int x2), some (.int x3), some (.int x4)] [] h q): qE d 44 14 [some (.ref r0), some (.int x1), some (.int x2), some (.int x3), some (.int x4)] [] h q := by
  refine qe_iload c44_14 rfl ?_
  refine qe_iload_n c44_16 rfl ?_
  refine qe_icmp_ge_F (t := 55) c44_17 rfl e1 ?_
  exact kk
theorem b44_14T {d : Nat} {q : Option Value × qH} {h : qH} {r0 : Nat} {x1 : Int32} {x2 : Int32} {x3 : Int32} {x4 : Int32}  (e1 : (x2 : Int32) ≤ x4) (kk : qE d 44 55 [some (.ref r0), some (.int x1), some (.int x2), some (.int x3), some (.int x4)] [] h q): qE d 44 14 [some (.ref r0), some (.int x1), some (.int x2), some (.int x3), some (.int x4)] [] h q := by
  refine qe_iload c44_14 rfl ?_
  refine qe_iload_n c44_16 rfl ?_
  refine qe_icmp_ge_T (t := 55) c44_17 rfl e1 ?_
  exact kk
theorem b44_20F {d : Nat} {q : Option Value × qH} {h : qH} {r0 : Nat} {x1 : Int32} {x2 : Int32} {x3 : Int32} {x4 : Int32}  (e1 : (((x1 >>> (x4 &&& 31)) &&& 1) : Int32) = 1) (kk : qE d 44 30 [some (.ref r0), some (.int x1), some (.int x2), some (.int x3), some (.int x4)] [] h q): qE d 44 20 [some (.ref r0), some (.int x1), some (.int x2), some (.int x3), some (.int x4)] [] h q := by
  refine qe_iload_n c44_20 rfl ?_
  refine qe_iload c44_21 rfl ?_
  refine qe_ishr c44_23 ?_
  refine qe_iconst (x := 1) c44_24 (by decide) ?_
  refine qe_iand c44_25 ?_
  refine qe_iconst (x := 1) c44_26 (by decide) ?_
  refine qe_icmp_ne_F (t := 49) c44_27 rfl e1 ?_
  exact kk
theorem b44_20T {d : Nat} {q : Option Value × qH} {h : qH} {r0 : Nat} {x1 : Int32} {x2 : Int32} {x3 : Int32} {x4 : Int32}  (e1 : ¬ ((((x1 >>> (x4 &&& 31)) &&& 1) : Int32) = 1)) (kk : qE d 44 49 [some (.ref r0), some (.int x1), some (.int x2), some (.int x3), some (.int x4)] [] h q): qE d 44 20 [some (.ref r0), some (.int x1), some (.int x2), some (.int x3), some (.int x4)] [] h q := by
  refine qe_iload_n c44_20 rfl ?_
  refine qe_iload c44_21 rfl ?_
  refine qe_ishr c44_23 ?_
  refine qe_iconst (x := 1) c44_24 (by decide) ?_
  refine qe_iand c44_25 ?_
  refine qe_iconst (x := 1) c44_26 (by decide) ?_
  refine qe_icmp_ne_T (t := 49) c44_27 rfl e1 ?_
  exact kk
theorem b44_30 {d : Nat} {q : Option Value × qH} {h : qH} {r0 : Nat} {x1 : Int32} {x2 : Int32} {x3 : Int32} {x4 : Int32} {fs1 : List Value} {y3 : Nat} {fs5 : List Value} {y7 : Nat} {fs9 : List Value} {y11 : Nat} {y13 : Nat} {n15 : Nat} {f16 : Nat → Int32} {n19 : Nat} {f20 : Nat → Int32} {h1 : qH}  (e2 : h.2.2 r0 = some (.inr (11, fs1))) (e4 : fs1[6]? = some (.ref y3)) (e6 : h.2.2 y3 = some (.inr (5, fs5))) (e8 : fs5[0]? = some (.ref y7)) (e10 : h.2.2 y7 = some (.inr (8, fs9))) (e12 : fs9[7]? = some (.ref y11)) (e14 : fs1[12]? = some (.ref y13)) (e17 : h.2.2 y13 = some (.inl (0, n15, .inl f16))) (e18 : 0 ≤ (x4 : Int32).toInt ∧ (x4 : Int32).toInt < (n15 : Nat)) (e21 : h.2.2 y11 = some (.inl (0, n19, .inl f20))) (e22 : 0 ≤ ((f16 (x4 : Int32).toNatClampNeg) : Int32).toInt ∧ ((f16 (x4 : Int32).toNatClampNeg) : Int32).toInt < (n19 : Nat)) (e23 : qset h y11 (.inl (0, n19, .inl (upd f20 (((f16 (x4 : Int32).toNatClampNeg) : Int32).toNatClampNeg) 0))) = h1) (kk : qE d 44 49 [some (.ref r0), some (.int x1), some (.int x2), some (.int x3), some (.int x4)] [] h1 q): qE d 44 30 [some (.ref r0), some (.int x1), some (.int x2), some (.int x3), some (.int x4)] [] h q := by
  refine qe_aload_n c44_30 rfl ?_
  refine qe_getfield c44_31 qo44 qF11_48 e2 e4 ?_
  refine qe_getfield c44_34 qo44 qF11_205 e6 e8 ?_
  refine qe_getfield c44_37 qo44 qF11_143 e10 e12 ?_
  refine qe_aload_n c44_40 rfl ?_
  refine qe_getfield c44_41 qo44 qF11_87 e2 e14 ?_
  refine qe_iload c44_44 rfl ?_
  refine qe_iaload c44_46 e17 e18 ?_
  refine qe_iconst (x := 0) c44_47 (by decide) ?_
  refine qe_iastore c44_48 e21 e22 ?_
  rw [e23]
  exact kk
theorem b44_49 {d : Nat} {q : Option Value × qH} {h : qH} {r0 : Nat} {x1 : Int32} {x2 : Int32} {x3 : Int32} {x4 : Int32}   (kk : qE d 44 14 [some (.ref r0), some (.int x1), some (.int x2), some (.int x3), some (.int (x4 + 1))] [] h q): qE d 44 49 [some (.ref r0), some (.int x1), some (.int x2), some (.int x3), some (.int x4)] [] h q := by
  refine qe_iinc (y := (x4 + 1)) (ls2 := [some (.ref r0), some (.int x1), some (.int x2), some (.int x3), some (.int (x4 + 1))]) c44_49 rfl (Nat.le_of_ble_eq_true rfl) rfl rfl ?_
  refine qe_goto (t := 14) c44_52 rfl ?_
  exact kk
theorem b44_55 {d : Nat} {q : Option Value × qH} {h : qH} {r0 : Nat} {x1 : Int32} {x2 : Int32} {x3 : Int32} {x4 : Int32}   (kk : qE d 44 58 [some (.ref r0), some (.int x1), some (.int x2), some (.int x3), some (.int 0)] [] h q): qE d 44 55 [some (.ref r0), some (.int x1), some (.int x2), some (.int x3), some (.int x4)] [] h q := by
  refine qe_iconst (x := 0) c44_55 (by decide) ?_
  refine qe_istore (ls2 := [some (.ref r0), some (.int x1), some (.int x2), some (.int x3), some (.int 0)]) c44_56 (Nat.le_of_ble_eq_true rfl) rfl ?_
  exact kk
theorem b44_58F {d : Nat} {q : Option Value × qH} {h : qH} {r0 : Nat} {x1 : Int32} {x2 : Int32} {x3 : Int32} {x4 : Int32}  (e1 : ¬ ((x3 : Int32) ≤ x4)) (kk : qE d 44 64 [some (.ref r0), some (.int x1), some (.int x2), some (.int x3), some (.int x4)] [] h q): qE d 44 58 [some (.ref r0), some (.int x1), some (.int x2), some (.int x3), some (.int x4)] [] h q := by
  refine qe_iload c44_58 rfl ?_
  refine qe_iload_n c44_60 rfl ?_
  refine qe_icmp_ge_F (t := 81) c44_61 rfl e1 ?_
  exact kk
theorem b44_58T {d : Nat} {q : Option Value × qH} {h : qH} {r0 : Nat} {x1 : Int32} {x2 : Int32} {x3 : Int32} {x4 : Int32}  (e1 : (x3 : Int32) ≤ x4) (kk : qE d 44 81 [some (.ref r0), some (.int x1), some (.int x2), some (.int x3), some (.int x4)] [] h q): qE d 44 58 [some (.ref r0), some (.int x1), some (.int x2), some (.int x3), some (.int x4)] [] h q := by
  refine qe_iload c44_58 rfl ?_
  refine qe_iload_n c44_60 rfl ?_
  refine qe_icmp_ge_T (t := 81) c44_61 rfl e1 ?_
  exact kk
theorem b44_64 {d : Nat} {q : Option Value × qH} {h : qH} {r0 : Nat} {x1 : Int32} {x2 : Int32} {x3 : Int32} {x4 : Int32} {fs1 : List Value} {y3 : Nat} {y5 : Nat} {fs7 : List Value} {h1 : qH}  (e2 : h.2.2 r0 = some (.inr (11, fs1))) (e4 : fs1[6]? = some (.ref y3)) (e6 : fs1[0]? = some (.ref y5)) (e8 : h.2.2 y3 = some (.inr (5, fs7))) (e9 : qCall d 225 [.ref y3, .ref y5] h (none, h1)) (kk : qE d 44 58 [some (.ref r0), some (.int x1), some (.int x2), some (.int x3), some (.int (x4 + 1))] [] h1 q): qE d 44 64 [some (.ref r0), some (.int x1), some (.int x2), some (.int x3), some (.int x4)] [] h q := by
  refine qe_aload_n c44_64 rfl ?_
  refine qe_getfield c44_65 qo44 qF11_48 e2 e4 ?_
  refine qe_aload_n c44_68 rfl ?_
  refine qe_getfield c44_69 qo44 qF11_10 e2 e6 ?_
  refine qe_virtual (b := y3) (as := [.ref y5]) (r := []) (v := none) (h2 := h1) c44_72 qo44 qK11_196 rfl rfl rfl (by rw [qo225]; exact e8) (Nat.le_of_ble_eq_true rfl) e9 ?_
  refine qe_iinc (y := (x4 + 1)) (ls2 := [some (.ref r0), some (.int x1), some (.int x2), some (.int x3), some (.int (x4 + 1))]) c44_75 rfl (Nat.le_of_ble_eq_true rfl) rfl rfl ?_
  refine qe_goto (t := 58) c44_78 rfl ?_
  exact kk
theorem b44_81 {d : Nat} {h : qH} {r0 : Nat} {x1 : Int32} {x2 : Int32} {x3 : Int32} {x4 : Int32} {fs1 : List Value} {y3 : Nat} {fs5 : List Value} {y7 : Nat} {fs11 : List Value} {y13 : Int32} {h1 : qH} {z15 : Int32}  (e2 : h.2.2 r0 = some (.inr (11, fs1))) (e4 : fs1[6]? = some (.ref y3)) (e6 : h.2.2 y3 = some (.inr (5, fs5))) (e8 : fs5[0]? = some (.ref y7)) (e12 : h.2.2 y7 = some (.inr (8, fs11))) (e14 : fs11[1]? = some (.int y13)) (e16 : qCall d 244 [.ref y7, .int y13] h ((some (.int z15)), h1)) : qE d 44 81 [some (.ref r0), some (.int x1), some (.int x2), some (.int x3), some (.int x4)] [] h (some (.int z15), h1) := by
  refine qe_aload_n c44_81 rfl ?_
  refine qe_getfield c44_82 qo44 qF11_48 e2 e4 ?_
  refine qe_getfield c44_85 qo44 qF11_205 e6 e8 ?_
  refine qe_aload_n c44_88 rfl ?_
  refine qe_getfield c44_89 qo44 qF11_48 e2 e4 ?_
  refine qe_getfield c44_92 qo44 qF11_205 e6 e8 ?_
  refine qe_getfield c44_95 qo44 qF11_161 e12 e14 ?_
  refine qe_virtual (b := y7) (as := [.int y13]) (r := []) (v := (some (.int z15))) (h2 := h1) c44_98 qo44 qK11_350 rfl rfl rfl (by rw [qo244]; exact e12) (Nat.le_of_ble_eq_true rfl) e16 ?_
  exact qe_iret c44_101 qr44
theorem b45_0F {d : Nat} {q : Option Value × qH} {h : qH} {r0 : Nat} {x1 : Int32} {x2 : Int32} {fs1 : List Value} {y3 : Nat} {fs5 : List Value} {h1 : qH} {z7 : Int32}  (e2 : h.2.2 r0 = some (.inr (11, fs1))) (e4 : fs1[7]? = some (.ref y3)) (e6 : h.2.2 y3 = some (.inr (3, fs5))) (e8 : qCall d 206 [.ref y3, .int x1] h ((some (.int z7)), h1)) (e9 : (z7 : Int32) = 0) (kk : qE d 45 11 [some (.ref r0), some (.int x1), some (.int x2)] [] h1 q): qE d 45 0 [some (.ref r0), some (.int x1), some (.int x2)] [] h q := by
  refine qe_aload_n c45_0 rfl ?_
  refine qe_getfield c45_1 qo45 qF11_55 e2 e4 ?_
  refine qe_iload_n c45_4 rfl ?_
  refine qe_virtual (b := y3) (as := [.int x1]) (r := []) (v := (some (.int z7))) (h2 := h1) c45_5 qo45 qK11_242 rfl rfl rfl (by rw [qo206]; exact e6) (Nat.le_of_ble_eq_true rfl) e8 ?_
  refine qe_if_ne_F (t := 13) c45_8 rfl e9 ?_
  exact kk
theorem b45_0T {d : Nat} {q : Option Value × qH} {h : qH} {r0 : Nat} {x1 : Int32} {x2 : Int32} {fs1 : List Value} {y3 : Nat} {fs5 : List Value} {h1 : qH} {z7 : Int32}  (e2 : h.2.2 r0 = some (.inr (11, fs1))) (e4 : fs1[7]? = some (.ref y3)) (e6 : h.2.2 y3 = some (.inr (3, fs5))) (e8 : qCall d 206 [.ref y3, .int x1] h ((some (.int z7)), h1)) (e9 : ¬ ((z7 : Int32) = 0)) (kk : qE d 45 13 [some (.ref r0), some (.int x1), some (.int x2)] [] h1 q): qE d 45 0 [some (.ref r0), some (.int x1), some (.int x2)] [] h q := by
  refine qe_aload_n c45_0 rfl ?_
  refine qe_getfield c45_1 qo45 qF11_55 e2 e4 ?_
  refine qe_iload_n c45_4 rfl ?_
  refine qe_virtual (b := y3) (as := [.int x1]) (r := []) (v := (some (.int z7))) (h2 := h1) c45_5 qo45 qK11_242 rfl rfl rfl (by rw [qo206]; exact e6) (Nat.le_of_ble_eq_true rfl) e8 ?_
  refine qe_if_ne_T (t := 13) c45_8 rfl e9 ?_
  exact kk
theorem b45_11 {d : Nat} {h : qH} {r0 : Nat} {x1 : Int32} {x2 : Int32}   : qE d 45 11 [some (.ref r0), some (.int x1), some (.int x2)] [] h (some (.int (-1)), h) := by
  refine qe_iconst (x := (-1)) c45_11 (by decide) ?_
  exact qe_iret c45_12 qr45
theorem b45_13D {d : Nat} {q : Option Value × qH} {h : qH} {r0 : Nat} {x1 : Int32} {x2 : Int32}  (e1 : (x2 : Int32).toInt < 0 ∨ 3 < (x2 : Int32).toInt) (kk : qE d 45 80 [some (.ref r0), some (.int x1), some (.int x2)] [] h q): qE d 45 13 [some (.ref r0), some (.int x1), some (.int x2)] [] h q := by
  refine qe_iload_n c45_13 rfl ?_
  refine qe_tableD (t := 80) c45_14 e1 rfl ?_
  exact kk
theorem b45_13s3 {d : Nat} {q : Option Value × qH} {h : qH} {r0 : Nat} {x1 : Int32} {x2 : Int32}  (e1 : (x2 : Int32).toInt = 3) (kk : qE d 45 74 [some (.ref r0), some (.int x1), some (.int x2)] [] h q): qE d 45 13 [some (.ref r0), some (.int x1), some (.int x2)] [] h q := by
  refine qe_iload_n c45_13 rfl ?_
  refine qe_table (off := 60) (t := 74) c45_14 (by rw [e1]; decide) (by rw [e1]; decide) rfl ?_
  exact kk
theorem b45_13s2 {d : Nat} {q : Option Value × qH} {h : qH} {r0 : Nat} {x1 : Int32} {x2 : Int32}  (e1 : (x2 : Int32).toInt = 2) (kk : qE d 45 64 [some (.ref r0), some (.int x1), some (.int x2)] [] h q): qE d 45 13 [some (.ref r0), some (.int x1), some (.int x2)] [] h q := by
  refine qe_iload_n c45_13 rfl ?_
  refine qe_table (off := 50) (t := 64) c45_14 (by rw [e1]; decide) (by rw [e1]; decide) rfl ?_
  exact kk
theorem b45_13s1 {d : Nat} {q : Option Value × qH} {h : qH} {r0 : Nat} {x1 : Int32} {x2 : Int32}  (e1 : (x2 : Int32).toInt = 1) (kk : qE d 45 54 [some (.ref r0), some (.int x1), some (.int x2)] [] h q): qE d 45 13 [some (.ref r0), some (.int x1), some (.int x2)] [] h q := by
  refine qe_iload_n c45_13 rfl ?_
  refine qe_table (off := 40) (t := 54) c45_14 (by rw [e1]; decide) (by rw [e1]; decide) rfl ?_
  exact kk
theorem b45_13s0 {d : Nat} {q : Option Value × qH} {h : qH} {r0 : Nat} {x1 : Int32} {x2 : Int32}  (e1 : (x2 : Int32).toInt = 0) (kk : qE d 45 44 [some (.ref r0), some (.int x1), some (.int x2)] [] h q): qE d 45 13 [some (.ref r0), some (.int x1), some (.int x2)] [] h q := by
  refine qe_iload_n c45_13 rfl ?_
  refine qe_table (off := 30) (t := 44) c45_14 (by rw [e1]; decide) (by rw [e1]; decide) rfl ?_
  exact kk
theorem b45_44 {d : Nat} {h : qH} {r0 : Nat} {x1 : Int32} {x2 : Int32} {fs1 : List Value} {y3 : Nat} {fs5 : List Value} {y7 : Nat} {n9 : Nat} {f10 : Nat → Int32}  (e2 : h.2.2 r0 = some (.inr (11, fs1))) (e4 : fs1[7]? = some (.ref y3)) (e6 : h.2.2 y3 = some (.inr (3, fs5))) (e8 : fs5[1]? = some (.ref y7)) (e11 : h.2.2 y7 = some (.inl (0, n9, .inl f10))) (e12 : 0 ≤ (x1 : Int32).toInt ∧ (x1 : Int32).toInt < (n9 : Nat)) : qE d 45 44 [some (.ref r0), some (.int x1), some (.int x2)] [] h (some (.int (f10 (x1 : Int32).toNatClampNeg)), h) := by
  refine qe_aload_n c45_44 rfl ?_
  refine qe_getfield c45_45 qo45 qF11_55 e2 e4 ?_
  refine qe_getfield c45_48 qo45 qF11_245 e6 e8 ?_
  refine qe_iload_n c45_51 rfl ?_
  refine qe_iaload c45_52 e11 e12 ?_
  exact qe_iret c45_53 qr45
theorem b45_54 {d : Nat} {h : qH} {r0 : Nat} {x1 : Int32} {x2 : Int32} {fs1 : List Value} {y3 : Nat} {fs5 : List Value} {y7 : Nat} {n9 : Nat} {f10 : Nat → Int32}  (e2 : h.2.2 r0 = some (.inr (11, fs1))) (e4 : fs1[7]? = some (.ref y3)) (e6 : h.2.2 y3 = some (.inr (3, fs5))) (e8 : fs5[2]? = some (.ref y7)) (e11 : h.2.2 y7 = some (.inl (0, n9, .inl f10))) (e12 : 0 ≤ (x1 : Int32).toInt ∧ (x1 : Int32).toInt < (n9 : Nat)) : qE d 45 54 [some (.ref r0), some (.int x1), some (.int x2)] [] h (some (.int (f10 (x1 : Int32).toNatClampNeg)), h) := by
  refine qe_aload_n c45_54 rfl ?_
  refine qe_getfield c45_55 qo45 qF11_55 e2 e4 ?_
  refine qe_getfield c45_58 qo45 qF11_248 e6 e8 ?_
  refine qe_iload_n c45_61 rfl ?_
  refine qe_iaload c45_62 e11 e12 ?_
  exact qe_iret c45_63 qr45
theorem b45_64 {d : Nat} {h : qH} {r0 : Nat} {x1 : Int32} {x2 : Int32} {fs1 : List Value} {y3 : Nat} {fs5 : List Value} {y7 : Nat} {n9 : Nat} {f10 : Nat → Int32}  (e2 : h.2.2 r0 = some (.inr (11, fs1))) (e4 : fs1[7]? = some (.ref y3)) (e6 : h.2.2 y3 = some (.inr (3, fs5))) (e8 : fs5[3]? = some (.ref y7)) (e11 : h.2.2 y7 = some (.inl (0, n9, .inl f10))) (e12 : 0 ≤ (x1 : Int32).toInt ∧ (x1 : Int32).toInt < (n9 : Nat)) : qE d 45 64 [some (.ref r0), some (.int x1), some (.int x2)] [] h (some (.int (f10 (x1 : Int32).toNatClampNeg)), h) := by
  refine qe_aload_n c45_64 rfl ?_
  refine qe_getfield c45_65 qo45 qF11_55 e2 e4 ?_
  refine qe_getfield c45_68 qo45 qF11_251 e6 e8 ?_
  refine qe_iload_n c45_71 rfl ?_
  refine qe_iaload c45_72 e11 e12 ?_
  exact qe_iret c45_73 qr45
theorem b45_74 {d : Nat} {h : qH} {r0 : Nat} {x1 : Int32} {x2 : Int32} {fs1 : List Value} {h1 : qH} {z3 : Int32}  (e2 : h.2.2 r0 = some (.inr (11, fs1))) (e4 : qCall d 49 [.ref r0, .int x1] h ((some (.int z3)), h1)) : qE d 45 74 [some (.ref r0), some (.int x1), some (.int x2)] [] h (some (.int z3), h1) := by
  refine qe_aload_n c45_74 rfl ?_
  refine qe_iload_n c45_75 rfl ?_
  refine qe_virtual (b := r0) (as := [.int x1]) (r := []) (v := (some (.int z3))) (h2 := h1) c45_76 qo45 qK11_254 rfl rfl rfl (by rw [qo49]; exact e2) (Nat.le_of_ble_eq_true rfl) e4 ?_
  exact qe_iret c45_79 qr45
theorem b45_80 {d : Nat} {h : qH} {r0 : Nat} {x1 : Int32} {x2 : Int32}   : qE d 45 80 [some (.ref r0), some (.int x1), some (.int x2)] [] h (some (.int (-1)), h) := by
  refine qe_iconst (x := (-1)) c45_80 (by decide) ?_
  exact qe_iret c45_81 qr45
