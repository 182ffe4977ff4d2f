/-! What each piece of the code does, from a place to the next. -/
theorem b191_0F {d : Nat} {q : Option Value × qH} {h : qH} {r0 : Nat} {r1 : Nat} {x2 : Int32} {x3 : Int32} {x4 : Int32} {fs1 : List Value} {y3 : Nat} {n5 : Nat} {f6 : Nat → Int32}  (e2 : h.2.2 r0 = some (.inr (1, fs1))) (e4 : fs1[0]? = some (.ref y3)) (e7 : h.2.2 y3 = some (.inl (1, n5, .inl f6))) (e8 : 0 ≤ (x4 : Int32).toInt ∧ (x4 : Int32).toInt < (n5 : Nat)) (e9 : ((f6 (x4 : Int32).toNatClampNeg) : Int32) = 0) (kk : qE d 191 10 [some (.ref r0), some (.ref r1), some (.int x2), some (.int x3), some (.int x4), none, none] [] h q): qE d 191 0 [some (.ref r0), some (.ref r1), some (.int x2), some (.int x3), some (.int x4), none, none] [] h q := by
  refine qe_aload_n c191_0 rfl ?_
  refine qe_getfield c191_1 qo191 qF1_9 e2 e4 ?_
  refine qe_iload c191_4 rfl ?_
  refine qe_zaload c191_6 e7 e8 ?_
  refine qe_if_ne_F (t := 30) c191_7 rfl e9 ?_
  exact kk
theorem b191_0T {d : Nat} {q : Option Value × qH} {h : qH} {r0 : Nat} {r1 : Nat} {x2 : Int32} {x3 : Int32} {x4 : Int32} {fs1 : List Value} {y3 : Nat} {n5 : Nat} {f6 : Nat → Int32}  (e2 : h.2.2 r0 = some (.inr (1, fs1))) (e4 : fs1[0]? = some (.ref y3)) (e7 : h.2.2 y3 = some (.inl (1, n5, .inl f6))) (e8 : 0 ≤ (x4 : Int32).toInt ∧ (x4 : Int32).toInt < (n5 : Nat)) (e9 : ¬ (((f6 (x4 : Int32).toNatClampNeg) : Int32) = 0)) (kk : qE d 191 30 [some (.ref r0), some (.ref r1), some (.int x2), some (.int x3), some (.int x4), none, none] [] h q): qE d 191 0 [some (.ref r0), some (.ref r1), some (.int x2), some (.int x3), some (.int x4), none, none] [] h q := by
  refine qe_aload_n c191_0 rfl ?_
  refine qe_getfield c191_1 qo191 qF1_9 e2 e4 ?_
  refine qe_iload c191_4 rfl ?_
  refine qe_zaload c191_6 e7 e8 ?_
  refine qe_if_ne_T (t := 30) c191_7 rfl e9 ?_
  exact kk
theorem b191_10F {d : Nat} {q : Option Value × qH} {h : qH} {r0 : Nat} {r1 : Nat} {x2 : Int32} {x3 : Int32} {x4 : Int32} {fs1 : List Value} {y3 : Nat} {fs5 : List Value} {y7 : Nat} {n9 : Nat} {f10 : Nat → Int32} {n13 : Nat} {f14 : Nat → Int32}  (e2 : h.2.2 r0 = some (.inr (1, fs1))) (e4 : fs1[5]? = some (.ref y3)) (e6 : h.2.2 r1 = some (.inr (4, fs5))) (e8 : fs5[14]? = some (.ref y7)) (e11 : h.2.2 y7 = some (.inl (0, n9, .inl f10))) (e12 : 0 ≤ (x4 : Int32).toInt ∧ (x4 : Int32).toInt < (n9 : Nat)) (e15 : h.2.2 y3 = some (.inl (0, n13, .inl f14))) (e16 : 0 ≤ ((f10 (x4 : Int32).toNatClampNeg) : Int32).toInt ∧ ((f10 (x4 : Int32).toNatClampNeg) : Int32).toInt < (n13 : Nat)) (e17 : (((x3 >>> ((f14 ((f10 (x4 : Int32).toNatClampNeg) : Int32).toNatClampNeg) &&& 31)) &&& 1) : Int32) = 1) (kk : qE d 191 30 [some (.ref r0), some (.ref r1), some (.int x2), some (.int x3), some (.int x4), none, none] [] h q): qE d 191 10 [some (.ref r0), some (.ref r1), some (.int x2), some (.int x3), some (.int x4), none, none] [] h q := by
  refine qe_iload_n c191_10 rfl ?_
  refine qe_aload_n c191_11 rfl ?_
  refine qe_getfield c191_12 qo191 qF1_28 e2 e4 ?_
  refine qe_aload_n c191_15 rfl ?_
  refine qe_getfield c191_16 qo191 qF1_60 e6 e8 ?_
  refine qe_iload c191_19 rfl ?_
  refine qe_iaload c191_21 e11 e12 ?_
  refine qe_iaload c191_22 e15 e16 ?_
  refine qe_ishr c191_23 ?_
  refine qe_iconst (x := 1) c191_24 (by decide) ?_
  refine qe_iand c191_25 ?_
  refine qe_iconst (x := 1) c191_26 (by decide) ?_
  refine qe_icmp_ne_F (t := 34) c191_27 rfl e17 ?_
  exact kk
theorem b191_10T {d : Nat} {q : Option Value × qH} {h : qH} {r0 : Nat} {r1 : Nat} {x2 : Int32} {x3 : Int32} {x4 : Int32} {fs1 : List Value} {y3 : Nat} {fs5 : List Value} {y7 : Nat} {n9 : Nat} {f10 : Nat → Int32} {n13 : Nat} {f14 : Nat → Int32}  (e2 : h.2.2 r0 = some (.inr (1, fs1))) (e4 : fs1[5]? = some (.ref y3)) (e6 : h.2.2 r1 = some (.inr (4, fs5))) (e8 : fs5[14]? = some (.ref y7)) (e11 : h.2.2 y7 = some (.inl (0, n9, .inl f10))) (e12 : 0 ≤ (x4 : Int32).toInt ∧ (x4 : Int32).toInt < (n9 : Nat)) (e15 : h.2.2 y3 = some (.inl (0, n13, .inl f14))) (e16 : 0 ≤ ((f10 (x4 : Int32).toNatClampNeg) : Int32).toInt ∧ ((f10 (x4 : Int32).toNatClampNeg) : Int32).toInt < (n13 : Nat)) (e17 : ¬ ((((x3 >>> ((f14 ((f10 (x4 : Int32).toNatClampNeg) : Int32).toNatClampNeg) &&& 31)) &&& 1) : Int32) = 1)) (kk : qE d 191 34 [some (.ref r0), some (.ref r1), some (.int x2), some (.int x3), some (.int x4), none, none] [] h q): qE d 191 10 [some (.ref r0), some (.ref r1), some (.int x2), some (.int x3), some (.int x4), none, none] [] h q := by
  refine qe_iload_n c191_10 rfl ?_
  refine qe_aload_n c191_11 rfl ?_
  refine qe_getfield c191_12 qo191 qF1_28 e2 e4 ?_
  refine qe_aload_n c191_15 rfl ?_
  refine qe_getfield c191_16 qo191 qF1_60 e6 e8 ?_
  refine qe_iload c191_19 rfl ?_
  refine qe_iaload c191_21 e11 e12 ?_
  refine qe_iaload c191_22 e15 e16 ?_
  refine qe_ishr c191_23 ?_
  refine qe_iconst (x := 1) c191_24 (by decide) ?_
  refine qe_iand c191_25 ?_
  refine qe_iconst (x := 1) c191_26 (by decide) ?_
  refine qe_icmp_ne_T (t := 34) c191_27 rfl e17 ?_
  exact kk
theorem b191_30 {d : Nat} {q : Option Value × qH} {h : qH} {r0 : Nat} {r1 : Nat} {x2 : Int32} {x3 : Int32} {x4 : Int32}   (kk : qE d 191 35 [some (.ref r0), some (.ref r1), some (.int x2), some (.int x3), some (.int x4), none, none] [.int 1] h q): qE d 191 30 [some (.ref r0), some (.ref r1), some (.int x2), some (.int x3), some (.int x4), none, none] [] h q := by
  refine qe_iconst (x := 1) c191_30 (by decide) ?_
  refine qe_goto (t := 35) c191_31 rfl ?_
  exact kk
theorem b191_34 {d : Nat} {q : Option Value × qH} {h : qH} {r0 : Nat} {r1 : Nat} {x2 : Int32} {x3 : Int32} {x4 : Int32}   (kk : qE d 191 35 [some (.ref r0), some (.ref r1), some (.int x2), some (.int x3), some (.int x4), none, none] [.int 0] h q): qE d 191 34 [some (.ref r0), some (.ref r1), some (.int x2), some (.int x3), some (.int x4), none, none] [] h q := by
  refine qe_iconst (x := 0) c191_34 (by decide) ?_
  exact kk
theorem b191_35F {d : Nat} {q : Option Value × qH} {h : qH} {r0 : Nat} {r1 : Nat} {x2 : Int32} {x3 : Int32} {x4 : Int32} {xs0 : Int32}  (e1 : ¬ (((x2 ||| (1 <<< (x4 &&& 31))) : Int32) = x2)) (kk : qE d 191 51 [some (.ref r0), some (.ref r1), some (.int x2), some (.int x3), some (.int x4), some (.int xs0), some (.int (x2 ||| (1 <<< (x4 &&& 31))))] [] h q): qE d 191 35 [some (.ref r0), some (.ref r1), some (.int x2), some (.int x3), some (.int x4), none, none] [.int xs0] h q := by
  refine qe_istore (ls2 := [some (.ref r0), some (.ref r1), some (.int x2), some (.int x3), some (.int x4), some (.int xs0), none]) c191_35 (Nat.le_of_ble_eq_true rfl) rfl ?_
  refine qe_iload_n c191_37 rfl ?_
  refine qe_iconst (x := 1) c191_38 (by decide) ?_
  refine qe_iload c191_39 rfl ?_
  refine qe_ishl c191_41 ?_
  refine qe_ior c191_42 ?_
  refine qe_istore (ls2 := [some (.ref r0), some (.ref r1), some (.int x2), some (.int x3), some (.int x4), some (.int xs0), some (.int (x2 ||| (1 <<< (x4 &&& 31))))]) c191_43 (Nat.le_of_ble_eq_true rfl) rfl ?_
  refine qe_iload c191_45 rfl ?_
  refine qe_iload_n c191_47 rfl ?_
  refine qe_icmp_eq_F (t := 67) c191_48 rfl e1 ?_
  exact kk
theorem b191_35T {d : Nat} {q : Option Value × qH} {h : qH} {r0 : Nat} {r1 : Nat} {x2 : Int32} {x3 : Int32} {x4 : Int32} {xs0 : Int32}  (e1 : ((x2 ||| (1 <<< (x4 &&& 31))) : Int32) = x2) (kk : qE d 191 67 [some (.ref r0), some (.ref r1), some (.int x2), some (.int x3), some (.int x4), some (.int xs0), some (.int (x2 ||| (1 <<< (x4 &&& 31))))] [] h q): qE d 191 35 [some (.ref r0), some (.ref r1), some (.int x2), some (.int x3), some (.int x4), none, none] [.int xs0] h q := by
  refine qe_istore (ls2 := [some (.ref r0), some (.ref r1), some (.int x2), some (.int x3), some (.int x4), some (.int xs0), none]) c191_35 (Nat.le_of_ble_eq_true rfl) rfl ?_
  refine qe_iload_n c191_37 rfl ?_
  refine qe_iconst (x := 1) c191_38 (by decide) ?_
  refine qe_iload c191_39 rfl ?_
  refine qe_ishl c191_41 ?_
  refine qe_ior c191_42 ?_
  refine qe_istore (ls2 := [some (.ref r0), some (.ref r1), some (.int x2), some (.int x3), some (.int x4), some (.int xs0), some (.int (x2 ||| (1 <<< (x4 &&& 31))))]) c191_43 (Nat.le_of_ble_eq_true rfl) rfl ?_
  refine qe_iload c191_45 rfl ?_
  refine qe_iload_n c191_47 rfl ?_
  refine qe_icmp_eq_T (t := 67) c191_48 rfl e1 ?_
  exact kk
theorem b191_51F {d : Nat} {q : Option Value × qH} {h : qH} {r0 : Nat} {r1 : Nat} {x2 : Int32} {x3 : Int32} {x4 : Int32} {x5 : Int32} {x6 : Int32}  (e1 : ¬ ((x5 : Int32) = 0)) (kk : qE d 191 56 [some (.ref r0), some (.ref r1), some (.int x2), some (.int x3), some (.int x4), some (.int x5), some (.int x6)] [] h q): qE d 191 51 [some (.ref r0), some (.ref r1), some (.int x2), some (.int x3), some (.int x4), some (.int x5), some (.int x6)] [] h q := by
  refine qe_iload c191_51 rfl ?_
  refine qe_if_eq_F (t := 67) c191_53 rfl e1 ?_
  exact kk
theorem b191_51T {d : Nat} {q : Option Value × qH} {h : qH} {r0 : Nat} {r1 : Nat} {x2 : Int32} {x3 : Int32} {x4 : Int32} {x5 : Int32} {x6 : Int32}  (e1 : (x5 : Int32) = 0) (kk : qE d 191 67 [some (.ref r0), some (.ref r1), some (.int x2), some (.int x3), some (.int x4), some (.int x5), some (.int x6)] [] h q): qE d 191 51 [some (.ref r0), some (.ref r1), some (.int x2), some (.int x3), some (.int x4), some (.int x5), some (.int x6)] [] h q := by
  refine qe_iload c191_51 rfl ?_
  refine qe_if_eq_T (t := 67) c191_53 rfl e1 ?_
  exact kk
theorem b191_56F {d : Nat} {q : Option Value × qH} {h : qH} {r0 : Nat} {r1 : Nat} {x2 : Int32} {x3 : Int32} {x4 : Int32} {x5 : Int32} {x6 : Int32} {fs1 : List Value} {y3 : Nat} {n5 : Nat} {f6 : Nat → Int32}  (e2 : h.2.2 r0 = some (.inr (1, fs1))) (e4 : fs1[3]? = some (.ref y3)) (e7 : h.2.2 y3 = some (.inl (0, n5, .inl f6))) (e8 : 0 ≤ (x6 : Int32).toInt ∧ (x6 : Int32).toInt < (n5 : Nat)) (e9 : ((f6 (x6 : Int32).toNatClampNeg) : Int32) = (-1)) (kk : qE d 191 67 [some (.ref r0), some (.ref r1), some (.int x2), some (.int x3), some (.int x4), some (.int x5), some (.int x6)] [] h q): qE d 191 56 [some (.ref r0), some (.ref r1), some (.int x2), some (.int x3), some (.int x4), some (.int x5), some (.int x6)] [] h q := by
  refine qe_aload_n c191_56 rfl ?_
  refine qe_getfield c191_57 qo191 qF1_22 e2 e4 ?_
  refine qe_iload c191_60 rfl ?_
  refine qe_iaload c191_62 e7 e8 ?_
  refine qe_iconst (x := (-1)) c191_63 (by decide) ?_
  refine qe_icmp_ne_F (t := 69) c191_64 rfl e9 ?_
  exact kk
theorem b191_56T {d : Nat} {q : Option Value × qH} {h : qH} {r0 : Nat} {r1 : Nat} {x2 : Int32} {x3 : Int32} {x4 : Int32} {x5 : Int32} {x6 : Int32} {fs1 : List Value} {y3 : Nat} {n5 : Nat} {f6 : Nat → Int32}  (e2 : h.2.2 r0 = some (.inr (1, fs1))) (e4 : fs1[3]? = some (.ref y3)) (e7 : h.2.2 y3 = some (.inl (0, n5, .inl f6))) (e8 : 0 ≤ (x6 : Int32).toInt ∧ (x6 : Int32).toInt < (n5 : Nat)) (e9 : ¬ (((f6 (x6 : Int32).toNatClampNeg) : Int32) = (-1))) (kk : qE d 191 69 [some (.ref r0), some (.ref r1), some (.int x2), some (.int x3), some (.int x4), some (.int x5), some (.int x6)] [] h q): qE d 191 56 [some (.ref r0), some (.ref r1), some (.int x2), some (.int x3), some (.int x4), some (.int x5), some (.int x6)] [] h q := by
  refine qe_aload_n c191_56 rfl ?_
  refine qe_getfield c191_57 qo191 qF1_22 e2 e4 ?_
  refine qe_iload c191_60 rfl ?_
  refine qe_iaload c191_62 e7 e8 ?_
  refine qe_iconst (x := (-1)) c191_63 (by decide) ?_
  refine qe_icmp_ne_T (t := 69) c191_64 rfl e9 ?_
  exact kk
theorem b191_67 {d : Nat} {h : qH} {r0 : Nat} {r1 : Nat} {x2 : Int32} {x3 : Int32} {x4 : Int32} {x5 : Int32} {x6 : Int32}   : qE d 191 67 [some (.ref r0), some (.ref r1), some (.int x2), some (.int x3), some (.int x4), some (.int x5), some (.int x6)] [] h (some (.int (-1)), h) := by
  refine qe_iconst (x := (-1)) c191_67 (by decide) ?_
  exact qe_iret c191_68 qr191
theorem b191_69 {d : Nat} {h : qH} {r0 : Nat} {r1 : Nat} {x2 : Int32} {x3 : Int32} {x4 : Int32} {x5 : Int32} {x6 : Int32} {fs1 : List Value} {y3 : Nat} {n5 : Nat} {f6 : Nat → Int32} {y9 : Nat} {n11 : Nat} {f12 : Nat → Int32} {y15 : Nat} {n17 : Nat} {f18 : Nat → Int32}  (e2 : h.2.2 r0 = some (.inr (1, fs1))) (e4 : fs1[1]? = some (.ref y3)) (e7 : h.2.2 y3 = some (.inl (0, n5, .inl f6))) (e8 : 0 ≤ (x4 : Int32).toInt ∧ (x4 : Int32).toInt < (n5 : Nat)) (e10 : fs1[4]? = some (.ref y9)) (e13 : h.2.2 y9 = some (.inl (0, n11, .inl f12))) (e14 : 0 ≤ (x2 : Int32).toInt ∧ (x2 : Int32).toInt < (n11 : Nat)) (e16 : fs1[3]? = some (.ref y15)) (e19 : h.2.2 y15 = some (.inl (0, n17, .inl f18))) (e20 : 0 ≤ (x6 : Int32).toInt ∧ (x6 : Int32).toInt < (n17 : Nat)) : qE d 191 69 [some (.ref r0), some (.ref r1), some (.int x2), some (.int x3), some (.int x4), some (.int x5), some (.int x6)] [] h (some (.int (((f6 (x4 : Int32).toNatClampNeg) * (f12 (x2 : Int32).toNatClampNeg)) + (f18 (x6 : Int32).toNatClampNeg))), h) := by
  refine qe_aload_n c191_69 rfl ?_
  refine qe_getfield c191_70 qo191 qF1_15 e2 e4 ?_
  refine qe_iload c191_73 rfl ?_
  refine qe_iaload c191_75 e7 e8 ?_
  refine qe_aload_n c191_76 rfl ?_
  refine qe_getfield c191_77 qo191 qF1_25 e2 e10 ?_
  refine qe_iload_n c191_80 rfl ?_
  refine qe_iaload c191_81 e13 e14 ?_
  refine qe_imul c191_82 ?_
  refine qe_aload_n c191_83 rfl ?_
  refine qe_getfield c191_84 qo191 qF1_22 e2 e16 ?_
  refine qe_iload c191_87 rfl ?_
  refine qe_iaload c191_89 e19 e20 ?_
  refine qe_iadd c191_90 ?_
  exact qe_iret c191_91 qr191
theorem b192_0 {d : Nat} {q : Option Value × qH} {h : qH} {r0 : Nat} {r1 : Nat} {r2 : Nat} {fs1 : List Value} {y3 : Nat} {fs5 : List Value} {h1 : qH} {fs8 : List Value} {y10 : Int32} {fs12 : List Value} {y14 : Nat} {n16 : Nat} {f17 : Nat → Int32} {h2 : qH}  (e2 : h.2.2 r0 = some (.inr (1, fs1))) (e4 : fs1[5]? = some (.ref y3)) (e6 : h.2.2 r1 = some (.inr (4, fs5))) (e7 : qCall d 213 [.ref r1, .ref r2, .int 1, .ref y3] h (none, h1)) (e9 : h1.2.2 r1 = some (.inr (4, fs8))) (e11 : fs8[2]? = some (.int y10)) (e13 : h1.2.2 r0 = some (.inr (1, fs12))) (e15 : fs12[3]? = some (.ref y14)) (e18 : h1.2.2 y14 = some (.inl (0, n16, .inl f17))) (e19 : 0 ≤ (((1 <<< (y10 &&& 31)) - 1) : Int32).toInt ∧ (((1 <<< (y10 &&& 31)) - 1) : Int32).toInt < (n16 : Nat)) (e20 : qset h1 y14 (.inl (0, n16, .inl (upd f17 ((((1 <<< (y10 &&& 31)) - 1) : Int32).toNatClampNeg) 0))) = h2) (kk : qE d 192 31 [some (.ref r0), some (.ref r1), some (.ref r2), some (.int ((1 <<< (y10 &&& 31)) - 1)), some (.int (((1 <<< (y10 &&& 31)) - 1) - 1))] [] h2 q): qE d 192 0 [some (.ref r0), some (.ref r1), some (.ref r2), none, none] [] h q := by
  refine qe_aload_n c192_0 rfl ?_
  refine qe_aload_n c192_1 rfl ?_
  refine qe_iconst (x := 1) c192_2 (by decide) ?_
  refine qe_aload_n c192_3 rfl ?_
  refine qe_getfield c192_4 qo192 qF1_28 e2 e4 ?_
  refine qe_virtual (b := r1) (as := [.ref r2, .int 1, .ref y3]) (r := []) (v := none) (h2 := h1) c192_7 qo192 qK1_31 rfl rfl rfl (by rw [qo213]; exact e6) (Nat.le_of_ble_eq_true rfl) e7 ?_
  refine qe_iconst (x := 1) c192_10 (by decide) ?_
  refine qe_aload_n c192_11 rfl ?_
  refine qe_getfield c192_12 qo192 qF1_37 e9 e11 ?_
  refine qe_ishl c192_15 ?_
  refine qe_iconst (x := 1) c192_16 (by decide) ?_
  refine qe_isub c192_17 ?_
  refine qe_istore_n (ls2 := [some (.ref r0), some (.ref r1), some (.ref r2), some (.int ((1 <<< (y10 &&& 31)) - 1)), none]) c192_18 (Nat.le_of_ble_eq_true rfl) rfl ?_
  refine qe_aload_n c192_19 rfl ?_
  refine qe_getfield c192_20 qo192 qF1_22 e13 e15 ?_
  refine qe_iload_n c192_23 rfl ?_
  refine qe_iconst (x := 0) c192_24 (by decide) ?_
  refine qe_iastore c192_25 e18 e19 ?_
  rw [e20]
  refine qe_iload_n c192_26 rfl ?_
  refine qe_iconst (x := 1) c192_27 (by decide) ?_
  refine qe_isub c192_28 ?_
  refine qe_istore (ls2 := [some (.ref r0), some (.ref r1), some (.ref r2), some (.int ((1 <<< (y10 &&& 31)) - 1)), some (.int (((1 <<< (y10 &&& 31)) - 1) - 1))]) c192_29 (Nat.le_of_ble_eq_true rfl) rfl ?_
  exact kk
theorem b192_31F {d : Nat} {q : Option Value × qH} {h : qH} {r0 : Nat} {r1 : Nat} {r2 : Nat} {x3 : Int32} {x4 : Int32}  (e1 : ¬ ((x4 : Int32) < 0)) (kk : qE d 192 36 [some (.ref r0), some (.ref r1), some (.ref r2), some (.int x3), some (.int x4)] [] h q): qE d 192 31 [some (.ref r0), some (.ref r1), some (.ref r2), some (.int x3), some (.int x4)] [] h q := by
  refine qe_iload c192_31 rfl ?_
  refine qe_if_lt_F (t := 71) c192_33 rfl e1 ?_
  exact kk
theorem b192_31T {d : Nat} {q : Option Value × qH} {h : qH} {r0 : Nat} {r1 : Nat} {r2 : Nat} {x3 : Int32} {x4 : Int32}  (e1 : (x4 : Int32) < 0) (kk : qE d 192 71 [some (.ref r0), some (.ref r1), some (.ref r2), some (.int x3), some (.int x4)] [] h q): qE d 192 31 [some (.ref r0), some (.ref r1), some (.ref r2), some (.int x3), some (.int x4)] [] h q := by
  refine qe_iload c192_31 rfl ?_
  refine qe_if_lt_T (t := 71) c192_33 rfl e1 ?_
  exact kk
theorem b192_36 {d : Nat} {q : Option Value × qH} {h : qH} {r0 : Nat} {r1 : Nat} {r2 : Nat} {x3 : Int32} {x4 : Int32} {fs1 : List Value} {y3 : Nat} {h1 : qH} {z5 : Int32} {n7 : Nat} {f8 : Nat → Int32} {h2 : qH} {fs12 : List Value} {y14 : Nat} {h3 : qH} {z16 : Int32} {n18 : Nat} {f19 : Nat → Int32} {h4 : qH}  (e2 : h.2.2 r0 = some (.inr (1, fs1))) (e4 : fs1[4]? = some (.ref y3)) (e6 : qCall d 197 [.ref r0, .ref r1, .ref r2, .int x4] h ((some (.int z5)), h1)) (e9 : h1.2.2 y3 = some (.inl (0, n7, .inl f8))) (e10 : 0 ≤ (x4 : Int32).toInt ∧ (x4 : Int32).toInt < (n7 : Nat)) (e11 : qset h1 y3 (.inl (0, n7, .inl (upd f8 ((x4 : Int32).toNatClampNeg) z5))) = h2) (e13 : h2.2.2 r0 = some (.inr (1, fs12))) (e15 : fs12[3]? = some (.ref y14)) (e17 : qCall d 194 [.ref r0, .ref r1, .int x4] h2 ((some (.int z16)), h3)) (e20 : h3.2.2 y14 = some (.inl (0, n18, .inl f19))) (e21 : 0 ≤ (x4 : Int32).toInt ∧ (x4 : Int32).toInt < (n18 : Nat)) (e22 : qset h3 y14 (.inl (0, n18, .inl (upd f19 ((x4 : Int32).toNatClampNeg) z16))) = h4) (kk : qE d 192 31 [some (.ref r0), some (.ref r1), some (.ref r2), some (.int x3), some (.int (x4 + (-1)))] [] h4 q): qE d 192 36 [some (.ref r0), some (.ref r1), some (.ref r2), some (.int x3), some (.int x4)] [] h q := by
  refine qe_aload_n c192_36 rfl ?_
  refine qe_getfield c192_37 qo192 qF1_25 e2 e4 ?_
  refine qe_iload c192_40 rfl ?_
  refine qe_aload_n c192_42 rfl ?_
  refine qe_aload_n c192_43 rfl ?_
  refine qe_aload_n c192_44 rfl ?_
  refine qe_iload c192_45 rfl ?_
  refine qe_virtual (b := r0) (as := [.ref r1, .ref r2, .int x4]) (r := [.int x4, .ref y3]) (v := (some (.int z5))) (h2 := h1) c192_47 qo192 qK1_41 rfl rfl rfl (by rw [qo197]; exact e2) (Nat.le_of_ble_eq_true rfl) e6 ?_
  refine qe_iastore c192_50 e9 e10 ?_
  rw [e11]
  refine qe_aload_n c192_51 rfl ?_
  refine qe_getfield c192_52 qo192 qF1_22 e13 e15 ?_
  refine qe_iload c192_55 rfl ?_
  refine qe_aload_n c192_57 rfl ?_
  refine qe_aload_n c192_58 rfl ?_
  refine qe_iload c192_59 rfl ?_
  refine qe_virtual (b := r0) (as := [.ref r1, .int x4]) (r := [.int x4, .ref y14]) (v := (some (.int z16))) (h2 := h3) c192_61 qo192 qK1_45 rfl rfl rfl (by rw [qo194]; exact e13) (Nat.le_of_ble_eq_true rfl) e17 ?_
  refine qe_iastore c192_64 e20 e21 ?_
  rw [e22]
  refine qe_iinc (y := (x4 + (-1))) (ls2 := [some (.ref r0), some (.ref r1), some (.ref r2), some (.int x3), some (.int (x4 + (-1)))]) c192_65 rfl (Nat.le_of_ble_eq_true rfl) rfl rfl ?_
  refine qe_goto (t := 31) c192_68 rfl ?_
  exact kk
theorem b192_71F {d : Nat} {q : Option Value × qH} {h : qH} {r0 : Nat} {r1 : Nat} {r2 : Nat} {x3 : Int32} {x4 : Int32} {fs1 : List Value} {y3 : Nat} {n5 : Nat} {f6 : Nat → Int32}  (e2 : h.2.2 r0 = some (.inr (1, fs1))) (e4 : fs1[3]? = some (.ref y3)) (e7 : h.2.2 y3 = some (.inl (0, n5, .inl f6))) (e8 : 0 ≤ (0 : Int32).toInt ∧ (0 : Int32).toInt < (n5 : Nat)) (e9 : ((f6 (0 : Int32).toNatClampNeg) : Int32) = (-1)) (kk : qE d 192 81 [some (.ref r0), some (.ref r1), some (.ref r2), some (.int x3), some (.int x4)] [] h q): qE d 192 71 [some (.ref r0), some (.ref r1), some (.ref r2), some (.int x3), some (.int x4)] [] h q := by
  refine qe_aload_n c192_71 rfl ?_
  refine qe_getfield c192_72 qo192 qF1_22 e2 e4 ?_
  refine qe_iconst (x := 0) c192_75 (by decide) ?_
  refine qe_iaload c192_76 e7 e8 ?_
  refine qe_iconst (x := (-1)) c192_77 (by decide) ?_
  refine qe_icmp_ne_F (t := 83) c192_78 rfl e9 ?_
  exact kk
theorem b192_71T {d : Nat} {q : Option Value × qH} {h : qH} {r0 : Nat} {r1 : Nat} {r2 : Nat} {x3 : Int32} {x4 : Int32} {fs1 : List Value} {y3 : Nat} {n5 : Nat} {f6 : Nat → Int32}  (e2 : h.2.2 r0 = some (.inr (1, fs1))) (e4 : fs1[3]? = some (.ref y3)) (e7 : h.2.2 y3 = some (.inl (0, n5, .inl f6))) (e8 : 0 ≤ (0 : Int32).toInt ∧ (0 : Int32).toInt < (n5 : Nat)) (e9 : ¬ (((f6 (0 : Int32).toNatClampNeg) : Int32) = (-1))) (kk : qE d 192 83 [some (.ref r0), some (.ref r1), some (.ref r2), some (.int x3), some (.int x4)] [] h q): qE d 192 71 [some (.ref r0), some (.ref r1), some (.ref r2), some (.int x3), some (.int x4)] [] h q := by
  refine qe_aload_n c192_71 rfl ?_
  refine qe_getfield c192_72 qo192 qF1_22 e2 e4 ?_
  refine qe_iconst (x := 0) c192_75 (by decide) ?_
  refine qe_iaload c192_76 e7 e8 ?_
  refine qe_iconst (x := (-1)) c192_77 (by decide) ?_
  refine qe_icmp_ne_T (t := 83) c192_78 rfl e9 ?_
  exact kk
theorem b192_81 {d : Nat} {h : qH} {r0 : Nat} {r1 : Nat} {r2 : Nat} {x3 : Int32} {x4 : Int32}   : qE d 192 81 [some (.ref r0), some (.ref r1), some (.ref r2), some (.int x3), some (.int x4)] [] h (some (.int 0), h) := by
  refine qe_iconst (x := 0) c192_81 (by decide) ?_
  exact qe_zret c192_82 qr192 (by decide)
theorem b192_83 {d : Nat} {h : qH} {r0 : Nat} {r1 : Nat} {r2 : Nat} {x3 : Int32} {x4 : Int32} {fs1 : List Value} {h1 : qH}  (e2 : h.2.2 r0 = some (.inr (1, fs1))) (e3 : qCall d 196 [.ref r0, .ref r1] h (none, h1)) : qE d 192 83 [some (.ref r0), some (.ref r1), some (.ref r2), some (.int x3), some (.int x4)] [] h (some (.int 1), h1) := by
  refine qe_aload_n c192_83 rfl ?_
  refine qe_aload_n c192_84 rfl ?_
  refine qe_virtual (b := r0) (as := [.ref r1]) (r := []) (v := none) (h2 := h1) c192_85 qo192 qK1_49 rfl rfl rfl (by rw [qo196]; exact e2) (Nat.le_of_ble_eq_true rfl) e3 ?_
  refine qe_iconst (x := 1) c192_88 (by decide) ?_
  exact qe_zret c192_89 qr192 (by decide)
theorem b193_0 {d : Nat} {h : qH} {r0 : Nat} {h1 : qH} {fs2 : List Value} {h2 : qH} {h3 : qH} {n7 : Nat} {f8 : Nat → Int32} {h4 : qH} {n12 : Nat} {f13 : Nat → Int32} {h5 : qH} {n17 : Nat} {f18 : Nat → Int32} {h6 : qH} {n22 : Nat} {f23 : Nat → Int32} {h7 : qH} {n27 : Nat} {f28 : Nat → Int32} {h8 : qH} {n32 : Nat} {f33 : Nat → Int32} {h9 : qH} {n37 : Nat} {f38 : Nat → Int32} {h10 : qH} {n42 : Nat} {f43 : Nat → Int32} {h11 : qH} {n47 : Nat} {f48 : Nat → Int32} {h12 : qH} {fs52 : List Value} {h13 : qH} {h14 : qH} {fs57 : List Value} {h15 : qH} {h16 : qH} {fs62 : List Value} {h17 : qH} {h18 : qH} {fs67 : List Value} {h19 : qH} {h20 : qH} {fs72 : List Value} {h21 : qH} (hd0 : 0 < d) (e1 : qnew h 9 (.inl (1, 9, .inl fun _ => 0)) = h1) (e3 : h1.2.2 r0 = some (.inr (1, fs2))) (e4 : 0 < fs2.length) (e5 : qset h1 r0 (.inr (1, fs2.set 0 (.ref h.1))) = h2) (e6 : qnew h2 9 (.inl (0, 9, .inl fun _ => 0)) = h3) (e9 : h3.2.2 h2.1 = some (.inl (0, n7, .inl f8))) (e10 : 0 ≤ (0 : Int32).toInt ∧ (0 : Int32).toInt < (n7 : Nat)) (e11 : qset h3 h2.1 (.inl (0, n7, .inl (upd f8 ((0 : Int32).toNatClampNeg) 10))) = h4) (e14 : h4.2.2 h2.1 = some (.inl (0, n12, .inl f13))) (e15 : 0 ≤ (1 : Int32).toInt ∧ (1 : Int32).toInt < (n12 : Nat)) (e16 : qset h4 h2.1 (.inl (0, n12, .inl (upd f13 ((1 : Int32).toNatClampNeg) 10))) = h5) (e19 : h5.2.2 h2.1 = some (.inl (0, n17, .inl f18))) (e20 : 0 ≤ (2 : Int32).toInt ∧ (2 : Int32).toInt < (n17 : Nat)) (e21 : qset h5 h2.1 (.inl (0, n17, .inl (upd f18 ((2 : Int32).toNatClampNeg) 10))) = h6) (e24 : h6.2.2 h2.1 = some (.inl (0, n22, .inl f23))) (e25 : 0 ≤ (3 : Int32).toInt ∧ (3 : Int32).toInt < (n22 : Nat)) (e26 : qset h6 h2.1 (.inl (0, n22, .inl (upd f23 ((3 : Int32).toNatClampNeg) 10))) = h7) (e29 : h7.2.2 h2.1 = some (.inl (0, n27, .inl f28))) (e30 : 0 ≤ (4 : Int32).toInt ∧ (4 : Int32).toInt < (n27 : Nat)) (e31 : qset h7 h2.1 (.inl (0, n27, .inl (upd f28 ((4 : Int32).toNatClampNeg) 10))) = h8) (e34 : h8.2.2 h2.1 = some (.inl (0, n32, .inl f33))) (e35 : 0 ≤ (5 : Int32).toInt ∧ (5 : Int32).toInt < (n32 : Nat)) (e36 : qset h8 h2.1 (.inl (0, n32, .inl (upd f33 ((5 : Int32).toNatClampNeg) 10))) = h9) (e39 : h9.2.2 h2.1 = some (.inl (0, n37, .inl f38))) (e40 : 0 ≤ (6 : Int32).toInt ∧ (6 : Int32).toInt < (n37 : Nat)) (e41 : qset h9 h2.1 (.inl (0, n37, .inl (upd f38 ((6 : Int32).toNatClampNeg) 10))) = h10) (e44 : h10.2.2 h2.1 = some (.inl (0, n42, .inl f43))) (e45 : 0 ≤ (7 : Int32).toInt ∧ (7 : Int32).toInt < (n42 : Nat)) (e46 : qset h10 h2.1 (.inl (0, n42, .inl (upd f43 ((7 : Int32).toNatClampNeg) 10))) = h11) (e49 : h11.2.2 h2.1 = some (.inl (0, n47, .inl f48))) (e50 : 0 ≤ (8 : Int32).toInt ∧ (8 : Int32).toInt < (n47 : Nat)) (e51 : qset h11 h2.1 (.inl (0, n47, .inl (upd f48 ((8 : Int32).toNatClampNeg) 10))) = h12) (e53 : h12.2.2 r0 = some (.inr (1, fs52))) (e54 : 1 < fs52.length) (e55 : qset h12 r0 (.inr (1, fs52.set 1 (.ref h2.1))) = h13) (e56 : qnew h13 9 (.inl (0, 9, .inl fun _ => 0)) = h14) (e58 : h14.2.2 r0 = some (.inr (1, fs57))) (e59 : 2 < fs57.length) (e60 : qset h14 r0 (.inr (1, fs57.set 2 (.ref h13.1))) = h15) (e61 : qnew h15 512 (.inl (0, 512, .inl fun _ => 0)) = h16) (e63 : h16.2.2 r0 = some (.inr (1, fs62))) (e64 : 3 < fs62.length) (e65 : qset h16 r0 (.inr (1, fs62.set 3 (.ref h15.1))) = h17) (e66 : qnew h17 512 (.inl (0, 512, .inl fun _ => 0)) = h18) (e68 : h18.2.2 r0 = some (.inr (1, fs67))) (e69 : 4 < fs67.length) (e70 : qset h18 r0 (.inr (1, fs67.set 4 (.ref h17.1))) = h19) (e71 : qnew h19 8 (.inl (0, 8, .inl fun _ => 0)) = h20) (e73 : h20.2.2 r0 = some (.inr (1, fs72))) (e74 : 5 < fs72.length) (e75 : qset h20 r0 (.inr (1, fs72.set 5 (.ref h19.1))) = h21) : qE d 193 0 [some (.ref r0)] [] h (none, h21) := by
  refine qe_aload_n c193_0 rfl ?_
  refine qe_objinit c193_1 qo193 (by decide +kernel) (by decide) hd0 (Nat.le_of_ble_eq_true rfl) ?_
  refine qe_aload_n c193_4 rfl ?_
  refine qe_bipush (x := 9) c193_5 (by decide) ?_
  refine qe_new_boolean c193_7 (by decide) ?_
  rw [show Int32.toNatClampNeg 9 = 9 from by decide]
  rw [e1]
  refine qe_putfinal c193_9 qo193 qF1_9 (by decide +kernel) e3 e4 (by rw [qy1_0]; rfl) ?_
  rw [e5]
  refine qe_aload_n c193_12 rfl ?_
  refine qe_bipush (x := 9) c193_13 (by decide) ?_
  refine qe_new_int c193_15 (by decide) ?_
  rw [show Int32.toNatClampNeg 9 = 9 from by decide]
  rw [e6]
  refine qe_dup c193_17 rfl ?_
  refine qe_iconst (x := 0) c193_18 (by decide) ?_
  refine qe_bipush (x := 10) c193_19 (by decide) ?_
  refine qe_iastore c193_21 e9 e10 ?_
  rw [e11]
  refine qe_dup c193_22 rfl ?_
  refine qe_iconst (x := 1) c193_23 (by decide) ?_
  refine qe_bipush (x := 10) c193_24 (by decide) ?_
  refine qe_iastore c193_26 e14 e15 ?_
  rw [e16]
  refine qe_dup c193_27 rfl ?_
  refine qe_iconst (x := 2) c193_28 (by decide) ?_
  refine qe_bipush (x := 10) c193_29 (by decide) ?_
  refine qe_iastore c193_31 e19 e20 ?_
  rw [e21]
  refine qe_dup c193_32 rfl ?_
  refine qe_iconst (x := 3) c193_33 (by decide) ?_
  refine qe_bipush (x := 10) c193_34 (by decide) ?_
  refine qe_iastore c193_36 e24 e25 ?_
  rw [e26]
  refine qe_dup c193_37 rfl ?_
  refine qe_iconst (x := 4) c193_38 (by decide) ?_
  refine qe_bipush (x := 10) c193_39 (by decide) ?_
  refine qe_iastore c193_41 e29 e30 ?_
  rw [e31]
  refine qe_dup c193_42 rfl ?_
  refine qe_iconst (x := 5) c193_43 (by decide) ?_
  refine qe_bipush (x := 10) c193_44 (by decide) ?_
  refine qe_iastore c193_46 e34 e35 ?_
  rw [e36]
  refine qe_dup c193_47 rfl ?_
  refine qe_bipush (x := 6) c193_48 (by decide) ?_
  refine qe_bipush (x := 10) c193_50 (by decide) ?_
  refine qe_iastore c193_52 e39 e40 ?_
  rw [e41]
  refine qe_dup c193_53 rfl ?_
  refine qe_bipush (x := 7) c193_54 (by decide) ?_
  refine qe_bipush (x := 10) c193_56 (by decide) ?_
  refine qe_iastore c193_58 e44 e45 ?_
  rw [e46]
  refine qe_dup c193_59 rfl ?_
  refine qe_bipush (x := 8) c193_60 (by decide) ?_
  refine qe_bipush (x := 10) c193_62 (by decide) ?_
  refine qe_iastore c193_64 e49 e50 ?_
  rw [e51]
  refine qe_putfinal c193_65 qo193 qF1_15 (by decide +kernel) e53 e54 (by rw [qy1_1]; rfl) ?_
  rw [e55]
  refine qe_aload_n c193_68 rfl ?_
  refine qe_bipush (x := 9) c193_69 (by decide) ?_
  refine qe_new_int c193_71 (by decide) ?_
  rw [show Int32.toNatClampNeg 9 = 9 from by decide]
  rw [e56]
  refine qe_putfinal c193_73 qo193 qF1_19 (by decide +kernel) e58 e59 (by rw [qy1_2]; rfl) ?_
  rw [e60]
  refine qe_aload_n c193_76 rfl ?_
  refine qe_sipush (x := 512) c193_77 (by decide) ?_
  refine qe_new_int c193_80 (by decide) ?_
  rw [show Int32.toNatClampNeg 512 = 512 from by decide]
  rw [e61]
  refine qe_putfinal c193_82 qo193 qF1_22 (by decide +kernel) e63 e64 (by rw [qy1_3]; rfl) ?_
  rw [e65]
  refine qe_aload_n c193_85 rfl ?_
  refine qe_sipush (x := 512) c193_86 (by decide) ?_
  refine qe_new_int c193_89 (by decide) ?_
  rw [show Int32.toNatClampNeg 512 = 512 from by decide]
  rw [e66]
  refine qe_putfinal c193_91 qo193 qF1_25 (by decide +kernel) e68 e69 (by rw [qy1_4]; rfl) ?_
  rw [e70]
  refine qe_aload_n c193_94 rfl ?_
  refine qe_bipush (x := 8) c193_95 (by decide) ?_
  refine qe_new_int c193_97 (by decide) ?_
  rw [show Int32.toNatClampNeg 8 = 8 from by decide]
  rw [e71]
  refine qe_putfinal c193_99 qo193 qF1_28 (by decide +kernel) e73 e74 (by rw [qy1_5]; rfl) ?_
  rw [e75]
  exact qe_vret c193_102 qr193
theorem b194_0 {d : Nat} {q : Option Value × qH} {h : qH} {r0 : Nat} {r1 : Nat} {x2 : Int32} {fs1 : List Value} {h1 : qH} {z3 : Int32}  (e2 : h.2.2 r0 = some (.inr (1, fs1))) (e4 : qCall d 195 [.ref r0, .ref r1, .int x2] h ((some (.int z3)), h1)) (kk : qE d 194 13 [some (.ref r0), some (.ref r1), some (.int x2), some (.int (-1)), some (.int z3), some (.int 0), none] [] h1 q): qE d 194 0 [some (.ref r0), some (.ref r1), some (.int x2), none, none, none, none] [] h q := by
  refine qe_iconst (x := (-1)) c194_0 (by decide) ?_
  refine qe_istore_n (ls2 := [some (.ref r0), some (.ref r1), some (.int x2), some (.int (-1)), none, none, none]) c194_1 (Nat.le_of_ble_eq_true rfl) rfl ?_
  refine qe_aload_n c194_2 rfl ?_
  refine qe_aload_n c194_3 rfl ?_
  refine qe_iload_n c194_4 rfl ?_
  refine qe_virtual (b := r0) (as := [.ref r1, .int x2]) (r := []) (v := (some (.int z3))) (h2 := h1) c194_5 qo194 qK1_53 rfl rfl rfl (by rw [qo195]; exact e2) (Nat.le_of_ble_eq_true rfl) e4 ?_
  refine qe_istore (ls2 := [some (.ref r0), some (.ref r1), some (.int x2), some (.int (-1)), some (.int z3), none, none]) c194_8 (Nat.le_of_ble_eq_true rfl) rfl ?_
  refine qe_iconst (x := 0) c194_10 (by decide) ?_
  refine qe_istore (ls2 := [some (.ref r0), some (.ref r1), some (.int x2), some (.int (-1)), some (.int z3), some (.int 0), none]) c194_11 (Nat.le_of_ble_eq_true rfl) rfl ?_
  exact kk
theorem b194_13F {d : Nat} {q : Option Value × qH} {h : qH} {r0 : Nat} {r1 : Nat} {x2 : Int32} {x3 : Int32} {x4 : Int32} {x5 : Int32} {o6 : Option Value} {fs1 : List Value} {y3 : Int32}  (e2 : h.2.2 r1 = some (.inr (4, fs1))) (e4 : fs1[2]? = some (.int y3)) (e5 : ¬ ((y3 : Int32) ≤ x5)) (kk : qE d 194 22 [some (.ref r0), some (.ref r1), some (.int x2), some (.int x3), some (.int x4), some (.int x5), o6] [] h q): qE d 194 13 [some (.ref r0), some (.ref r1), some (.int x2), some (.int x3), some (.int x4), some (.int x5), o6] [] h q := by
  refine qe_iload c194_13 rfl ?_
  refine qe_aload_n c194_15 rfl ?_
  refine qe_getfield c194_16 qo194 qF1_37 e2 e4 ?_
  refine qe_icmp_ge_F (t := 60) c194_19 rfl e5 ?_
  exact kk
theorem b194_13T {d : Nat} {q : Option Value × qH} {h : qH} {r0 : Nat} {r1 : Nat} {x2 : Int32} {x3 : Int32} {x4 : Int32} {x5 : Int32} {o6 : Option Value} {fs1 : List Value} {y3 : Int32}  (e2 : h.2.2 r1 = some (.inr (4, fs1))) (e4 : fs1[2]? = some (.int y3)) (e5 : (y3 : Int32) ≤ x5) (kk : qE d 194 60 [some (.ref r0), some (.ref r1), some (.int x2), some (.int x3), some (.int x4), some (.int x5), o6] [] h q): qE d 194 13 [some (.ref r0), some (.ref r1), some (.int x2), some (.int x3), some (.int x4), some (.int x5), o6] [] h q := by
  refine qe_iload c194_13 rfl ?_
  refine qe_aload_n c194_15 rfl ?_
  refine qe_getfield c194_16 qo194 qF1_37 e2 e4 ?_
  refine qe_icmp_ge_T (t := 60) c194_19 rfl e5 ?_
  exact kk
theorem b194_22F {d : Nat} {q : Option Value × qH} {h : qH} {r0 : Nat} {r1 : Nat} {x2 : Int32} {x3 : Int32} {x4 : Int32} {x5 : Int32} {o6 : Option Value} {fs1 : List Value} {h1 : qH} {z3 : Int32}  (e2 : h.2.2 r0 = some (.inr (1, fs1))) (e4 : qCall d 191 [.ref r0, .ref r1, .int x2, .int x4, .int x5] h ((some (.int z3)), h1)) (e5 : ¬ ((z3 : Int32) = (-1))) (kk : qE d 194 40 [some (.ref r0), some (.ref r1), some (.int x2), some (.int x3), some (.int x4), some (.int x5), some (.int z3)] [] h1 q): qE d 194 22 [some (.ref r0), some (.ref r1), some (.int x2), some (.int x3), some (.int x4), some (.int x5), o6] [] h q := by
  refine qe_aload_n c194_22 rfl ?_
  refine qe_aload_n c194_23 rfl ?_
  refine qe_iload_n c194_24 rfl ?_
  refine qe_iload c194_25 rfl ?_
  refine qe_iload c194_27 rfl ?_
  refine qe_virtual (b := r0) (as := [.ref r1, .int x2, .int x4, .int x5]) (r := []) (v := (some (.int z3))) (h2 := h1) c194_29 qo194 qK1_56 rfl rfl rfl (by rw [qo191]; exact e2) (Nat.le_of_ble_eq_true rfl) e4 ?_
  refine qe_istore (ls2 := [some (.ref r0), some (.ref r1), some (.int x2), some (.int x3), some (.int x4), some (.int x5), some (.int z3)]) c194_32 (Nat.le_of_ble_eq_true rfl) rfl ?_
  refine qe_iload c194_34 rfl ?_
  refine qe_iconst (x := (-1)) c194_36 (by decide) ?_
  refine qe_icmp_eq_F (t := 54) c194_37 rfl e5 ?_
  exact kk
theorem b194_22T {d : Nat} {q : Option Value × qH} {h : qH} {r0 : Nat} {r1 : Nat} {x2 : Int32} {x3 : Int32} {x4 : Int32} {x5 : Int32} {o6 : Option Value} {fs1 : List Value} {h1 : qH} {z3 : Int32}  (e2 : h.2.2 r0 = some (.inr (1, fs1))) (e4 : qCall d 191 [.ref r0, .ref r1, .int x2, .int x4, .int x5] h ((some (.int z3)), h1)) (e5 : (z3 : Int32) = (-1)) (kk : qE d 194 54 [some (.ref r0), some (.ref r1), some (.int x2), some (.int x3), some (.int x4), some (.int x5), some (.int z3)] [] h1 q): qE d 194 22 [some (.ref r0), some (.ref r1), some (.int x2), some (.int x3), some (.int x4), some (.int x5), o6] [] h q := by
  refine qe_aload_n c194_22 rfl ?_
  refine qe_aload_n c194_23 rfl ?_
  refine qe_iload_n c194_24 rfl ?_
  refine qe_iload c194_25 rfl ?_
  refine qe_iload c194_27 rfl ?_
  refine qe_virtual (b := r0) (as := [.ref r1, .int x2, .int x4, .int x5]) (r := []) (v := (some (.int z3))) (h2 := h1) c194_29 qo194 qK1_56 rfl rfl rfl (by rw [qo191]; exact e2) (Nat.le_of_ble_eq_true rfl) e4 ?_
  refine qe_istore (ls2 := [some (.ref r0), some (.ref r1), some (.int x2), some (.int x3), some (.int x4), some (.int x5), some (.int z3)]) c194_32 (Nat.le_of_ble_eq_true rfl) rfl ?_
  refine qe_iload c194_34 rfl ?_
  refine qe_iconst (x := (-1)) c194_36 (by decide) ?_
  refine qe_icmp_eq_T (t := 54) c194_37 rfl e5 ?_
  exact kk
theorem b194_40F {d : Nat} {q : Option Value × qH} {h : qH} {r0 : Nat} {r1 : Nat} {x2 : Int32} {x3 : Int32} {x4 : Int32} {x5 : Int32} {x6 : Int32}  (e1 : ¬ ((x3 : Int32) = (-1))) (kk : qE d 194 45 [some (.ref r0), some (.ref r1), some (.int x2), some (.int x3), some (.int x4), some (.int x5), some (.int x6)] [] h q): qE d 194 40 [some (.ref r0), some (.ref r1), some (.int x2), some (.int x3), some (.int x4), some (.int x5), some (.int x6)] [] h q := by
  refine qe_iload_n c194_40 rfl ?_
  refine qe_iconst (x := (-1)) c194_41 (by decide) ?_
  refine qe_icmp_eq_F (t := 51) c194_42 rfl e1 ?_
  exact kk
theorem b194_40T {d : Nat} {q : Option Value × qH} {h : qH} {r0 : Nat} {r1 : Nat} {x2 : Int32} {x3 : Int32} {x4 : Int32} {x5 : Int32} {x6 : Int32}  (e1 : (x3 : Int32) = (-1)) (kk : qE d 194 51 [some (.ref r0), some (.ref r1), some (.int x2), some (.int x3), some (.int x4), some (.int x5), some (.int x6)] [] h q): qE d 194 40 [some (.ref r0), some (.ref r1), some (.int x2), some (.int x3), some (.int x4), some (.int x5), some (.int x6)] [] h q := by
  refine qe_iload_n c194_40 rfl ?_
  refine qe_iconst (x := (-1)) c194_41 (by decide) ?_
  refine qe_icmp_eq_T (t := 51) c194_42 rfl e1 ?_
  exact kk
theorem b194_45F {d : Nat} {q : Option Value × qH} {h : qH} {r0 : Nat} {r1 : Nat} {x2 : Int32} {x3 : Int32} {x4 : Int32} {x5 : Int32} {x6 : Int32}  (e1 : ¬ ((x3 : Int32) ≤ x6)) (kk : qE d 194 51 [some (.ref r0), some (.ref r1), some (.int x2), some (.int x3), some (.int x4), some (.int x5), some (.int x6)] [] h q): qE d 194 45 [some (.ref r0), some (.ref r1), some (.int x2), some (.int x3), some (.int x4), some (.int x5), some (.int x6)] [] h q := by
  refine qe_iload c194_45 rfl ?_
  refine qe_iload_n c194_47 rfl ?_
  refine qe_icmp_ge_F (t := 54) c194_48 rfl e1 ?_
  exact kk
theorem b194_45T {d : Nat} {q : Option Value × qH} {h : qH} {r0 : Nat} {r1 : Nat} {x2 : Int32} {x3 : Int32} {x4 : Int32} {x5 : Int32} {x6 : Int32}  (e1 : (x3 : Int32) ≤ x6) (kk : qE d 194 54 [some (.ref r0), some (.ref r1), some (.int x2), some (.int x3), some (.int x4), some (.int x5), some (.int x6)] [] h q): qE d 194 45 [some (.ref r0), some (.ref r1), some (.int x2), some (.int x3), some (.int x4), some (.int x5), some (.int x6)] [] h q := by
  refine qe_iload c194_45 rfl ?_
  refine qe_iload_n c194_47 rfl ?_
  refine qe_icmp_ge_T (t := 54) c194_48 rfl e1 ?_
  exact kk
theorem b194_51 {d : Nat} {q : Option Value × qH} {h : qH} {r0 : Nat} {r1 : Nat} {x2 : Int32} {x3 : Int32} {x4 : Int32} {x5 : Int32} {x6 : Int32}   (kk : qE d 194 54 [some (.ref r0), some (.ref r1), some (.int x2), some (.int x6), some (.int x4), some (.int x5), some (.int x6)] [] h q): qE d 194 51 [some (.ref r0), some (.ref r1), some (.int x2), some (.int x3), some (.int x4), some (.int x5), some (.int x6)] [] h q := by
  refine qe_iload c194_51 rfl ?_
  refine qe_istore_n (ls2 := [some (.ref r0), some (.ref r1), some (.int x2), some (.int x6), some (.int x4), some (.int x5), some (.int x6)]) c194_53 (Nat.le_of_ble_eq_true rfl) rfl ?_
  exact kk
theorem b194_54 {d : Nat} {q : Option Value × qH} {h : qH} {r0 : Nat} {r1 : Nat} {x2 : Int32} {x3 : Int32} {x4 : Int32} {x5 : Int32} {x6 : Int32}   (kk : qE d 194 13 [some (.ref r0), some (.ref r1), some (.int x2), some (.int x3), some (.int x4), some (.int (x5 + 1)), some (.int x6)] [] h q): qE d 194 54 [some (.ref r0), some (.ref r1), some (.int x2), some (.int x3), some (.int x4), some (.int x5), some (.int x6)] [] h q := by
  refine qe_iinc (y := (x5 + 1)) (ls2 := [some (.ref r0), some (.ref r1), some (.int x2), some (.int x3), some (.int x4), some (.int (x5 + 1)), some (.int x6)]) c194_54 rfl (Nat.le_of_ble_eq_true rfl) rfl rfl ?_
  refine qe_goto (t := 13) c194_57 rfl ?_
  exact kk
theorem b194_60 {d : Nat} {h : qH} {r0 : Nat} {r1 : Nat} {x2 : Int32} {x3 : Int32} {x4 : Int32} {x5 : Int32} {o6 : Option Value}   : qE d 194 60 [some (.ref r0), some (.ref r1), some (.int x2), some (.int x3), some (.int x4), some (.int x5), o6] [] h (some (.int x3), h) := by
  refine qe_iload_n c194_60 rfl ?_
  exact qe_iret c194_61 qr194
theorem b195_0 {d : Nat} {q : Option Value × qH} {h : qH} {r0 : Nat} {r1 : Nat} {x2 : Int32}   (kk : qE d 195 5 [some (.ref r0), some (.ref r1), some (.int x2), some (.int 0), some (.int 0)] [] h q): qE d 195 0 [some (.ref r0), some (.ref r1), some (.int x2), none, none] [] h q := by
  refine qe_iconst (x := 0) c195_0 (by decide) ?_
  refine qe_istore_n (ls2 := [some (.ref r0), some (.ref r1), some (.int x2), some (.int 0), none]) c195_1 (Nat.le_of_ble_eq_true rfl) rfl ?_
  refine qe_iconst (x := 0) c195_2 (by decide) ?_
  refine qe_istore (ls2 := [some (.ref r0), some (.ref r1), some (.int x2), some (.int 0), some (.int 0)]) c195_3 (Nat.le_of_ble_eq_true rfl) rfl ?_
  exact kk
theorem b195_5F {d : Nat} {q : Option Value × qH} {h : qH} {r0 : Nat} {r1 : Nat} {x2 : Int32} {x3 : Int32} {x4 : Int32} {fs1 : List Value} {y3 : Int32}  (e2 : h.2.2 r1 = some (.inr (4, fs1))) (e4 : fs1[2]? = some (.int y3)) (e5 : ¬ ((y3 : Int32) ≤ x4)) (kk : qE d 195 14 [some (.ref r0), some (.ref r1), some (.int x2), some (.int x3), some (.int x4)] [] h q): qE d 195 5 [some (.ref r0), some (.ref r1), some (.int x2), some (.int x3), some (.int x4)] [] h q := by
  refine qe_iload c195_5 rfl ?_
  refine qe_aload_n c195_7 rfl ?_
  refine qe_getfield c195_8 qo195 qF1_37 e2 e4 ?_
  refine qe_icmp_ge_F (t := 47) c195_11 rfl e5 ?_
  exact kk
theorem b195_5T {d : Nat} {q : Option Value × qH} {h : qH} {r0 : Nat} {r1 : Nat} {x2 : Int32} {x3 : Int32} {x4 : Int32} {fs1 : List Value} {y3 : Int32}  (e2 : h.2.2 r1 = some (.inr (4, fs1))) (e4 : fs1[2]? = some (.int y3)) (e5 : (y3 : Int32) ≤ x4) (kk : qE d 195 47 [some (.ref r0), some (.ref r1), some (.int x2), some (.int x3), some (.int x4)] [] h q): qE d 195 5 [some (.ref r0), some (.ref r1), some (.int x2), some (.int x3), some (.int x4)] [] h q := by
  refine qe_iload c195_5 rfl ?_
  refine qe_aload_n c195_7 rfl ?_
  refine qe_getfield c195_8 qo195 qF1_37 e2 e4 ?_
  refine qe_icmp_ge_T (t := 47) c195_11 rfl e5 ?_
  exact kk
theorem b195_14F {d : Nat} {q : Option Value × qH} {h : qH} {r0 : Nat} {r1 : Nat} {x2 : Int32} {x3 : Int32} {x4 : Int32}  (e1 : (((x2 >>> (x4 &&& 31)) &&& 1) : Int32) = 1) (kk : qE d 195 24 [some (.ref r0), some (.ref r1), some (.int x2), some (.int x3), some (.int x4)] [] h q): qE d 195 14 [some (.ref r0), some (.ref r1), some (.int x2), some (.int x3), some (.int x4)] [] h q := by
  refine qe_iload_n c195_14 rfl ?_
  refine qe_iload c195_15 rfl ?_
  refine qe_ishr c195_17 ?_
  refine qe_iconst (x := 1) c195_18 (by decide) ?_
  refine qe_iand c195_19 ?_
  refine qe_iconst (x := 1) c195_20 (by decide) ?_
  refine qe_icmp_ne_F (t := 41) c195_21 rfl e1 ?_
  exact kk
theorem b195_14T {d : Nat} {q : Option Value × qH} {h : qH} {r0 : Nat} {r1 : Nat} {x2 : Int32} {x3 : Int32} {x4 : Int32}  (e1 : ¬ ((((x2 >>> (x4 &&& 31)) &&& 1) : Int32) = 1)) (kk : qE d 195 41 [some (.ref r0), some (.ref r1), some (.int x2), some (.int x3), some (.int x4)] [] h q): qE d 195 14 [some (.ref r0), some (.ref r1), some (.int x2), some (.int x3), some (.int x4)] [] h q := by
  refine qe_iload_n c195_14 rfl ?_
  refine qe_iload c195_15 rfl ?_
  refine qe_ishr c195_17 ?_
  refine qe_iconst (x := 1) c195_18 (by decide) ?_
  refine qe_iand c195_19 ?_
  refine qe_iconst (x := 1) c195_20 (by decide) ?_
  refine qe_icmp_ne_T (t := 41) c195_21 rfl e1 ?_
  exact kk
theorem b195_24 {d : Nat} {q : Option Value × qH} {h : qH} {r0 : Nat} {r1 : Nat} {x2 : Int32} {x3 : Int32} {x4 : Int32} {fs1 : List Value} {y3 : Nat} {fs5 : List Value} {y7 : Nat} {n9 : Nat} {f10 : Nat → Int32} {n13 : Nat} {f14 : Nat → Int32}  (e2 : h.2.2 r0 = some (.inr (1, fs1))) (e4 : fs1[5]? = some (.ref y3)) (e6 : h.2.2 r1 = some (.inr (4, fs5))) (e8 : fs5[14]? = some (.ref y7)) (e11 : h.2.2 y7 = some (.inl (0, n9, .inl f10))) (e12 : 0 ≤ (x4 : Int32).toInt ∧ (x4 : Int32).toInt < (n9 : Nat)) (e15 : h.2.2 y3 = some (.inl (0, n13, .inl f14))) (e16 : 0 ≤ ((f10 (x4 : Int32).toNatClampNeg) : Int32).toInt ∧ ((f10 (x4 : Int32).toNatClampNeg) : Int32).toInt < (n13 : Nat)) (kk : qE d 195 41 [some (.ref r0), some (.ref r1), some (.int x2), some (.int (x3 ||| (1 <<< ((f14 ((f10 (x4 : Int32).toNatClampNeg) : Int32).toNatClampNeg) &&& 31)))), some (.int x4)] [] h q): qE d 195 24 [some (.ref r0), some (.ref r1), some (.int x2), some (.int x3), some (.int x4)] [] h q := by
  refine qe_iload_n c195_24 rfl ?_
  refine qe_iconst (x := 1) c195_25 (by decide) ?_
  refine qe_aload_n c195_26 rfl ?_
  refine qe_getfield c195_27 qo195 qF1_28 e2 e4 ?_
  refine qe_aload_n c195_30 rfl ?_
  refine qe_getfield c195_31 qo195 qF1_60 e6 e8 ?_
  refine qe_iload c195_34 rfl ?_
  refine qe_iaload c195_36 e11 e12 ?_
  refine qe_iaload c195_37 e15 e16 ?_
  refine qe_ishl c195_38 ?_
  refine qe_ior c195_39 ?_
  refine qe_istore_n (ls2 := [some (.ref r0), some (.ref r1), some (.int x2), some (.int (x3 ||| (1 <<< ((f14 ((f10 (x4 : Int32).toNatClampNeg) : Int32).toNatClampNeg) &&& 31)))), some (.int x4)]) c195_40 (Nat.le_of_ble_eq_true rfl) rfl ?_
  exact kk
theorem b195_41 {d : Nat} {q : Option Value × qH} {h : qH} {r0 : Nat} {r1 : Nat} {x2 : Int32} {x3 : Int32} {x4 : Int32}   (kk : qE d 195 5 [some (.ref r0), some (.ref r1), some (.int x2), some (.int x3), some (.int (x4 + 1))] [] h q): qE d 195 41 [some (.ref r0), some (.ref r1), some (.int x2), some (.int x3), some (.int x4)] [] h q := by
  refine qe_iinc (y := (x4 + 1)) (ls2 := [some (.ref r0), some (.ref r1), some (.int x2), some (.int x3), some (.int (x4 + 1))]) c195_41 rfl (Nat.le_of_ble_eq_true rfl) rfl rfl ?_
  refine qe_goto (t := 5) c195_44 rfl ?_
  exact kk
theorem b195_47 {d : Nat} {h : qH} {r0 : Nat} {r1 : Nat} {x2 : Int32} {x3 : Int32} {x4 : Int32}   : qE d 195 47 [some (.ref r0), some (.ref r1), some (.int x2), some (.int x3), some (.int x4)] [] h (some (.int x3), h) := by
  refine qe_iload_n c195_47 rfl ?_
  exact qe_iret c195_48 qr195
theorem b196_0 {d : Nat} {q : Option Value × qH} {h : qH} {r0 : Nat} {r1 : Nat}   (kk : qE d 196 4 [some (.ref r0), some (.ref r1), some (.int 0), some (.int 0), none, none] [] h q): qE d 196 0 [some (.ref r0), some (.ref r1), none, none, none, none] [] h q := by
  refine qe_iconst (x := 0) c196_0 (by decide) ?_
  refine qe_istore_n (ls2 := [some (.ref r0), some (.ref r1), some (.int 0), none, none, none]) c196_1 (Nat.le_of_ble_eq_true rfl) rfl ?_
  refine qe_iconst (x := 0) c196_2 (by decide) ?_
  refine qe_istore_n (ls2 := [some (.ref r0), some (.ref r1), some (.int 0), some (.int 0), none, none]) c196_3 (Nat.le_of_ble_eq_true rfl) rfl ?_
  exact kk
theorem b196_4F {d : Nat} {q : Option Value × qH} {h : qH} {r0 : Nat} {r1 : Nat} {x2 : Int32} {x3 : Int32} {o4 : Option Value} {o5 : Option Value} {fs1 : List Value} {y3 : Int32}  (e2 : h.2.2 r1 = some (.inr (4, fs1))) (e4 : fs1[2]? = some (.int y3)) (e5 : ¬ ((y3 : Int32) ≤ x3)) (kk : qE d 196 12 [some (.ref r0), some (.ref r1), some (.int x2), some (.int x3), o4, o5] [] h q): qE d 196 4 [some (.ref r0), some (.ref r1), some (.int x2), some (.int x3), o4, o5] [] h q := by
  refine qe_iload_n c196_4 rfl ?_
  refine qe_aload_n c196_5 rfl ?_
  refine qe_getfield c196_6 qo196 qF1_37 e2 e4 ?_
  refine qe_icmp_ge_F (t := 81) c196_9 rfl e5 ?_
  exact kk
theorem b196_4T {d : Nat} {q : Option Value × qH} {h : qH} {r0 : Nat} {r1 : Nat} {x2 : Int32} {x3 : Int32} {o4 : Option Value} {o5 : Option Value} {fs1 : List Value} {y3 : Int32}  (e2 : h.2.2 r1 = some (.inr (4, fs1))) (e4 : fs1[2]? = some (.int y3)) (e5 : (y3 : Int32) ≤ x3) (kk : qE d 196 81 [some (.ref r0), some (.ref r1), some (.int x2), some (.int x3), o4, o5] [] h q): qE d 196 4 [some (.ref r0), some (.ref r1), some (.int x2), some (.int x3), o4, o5] [] h q := by
  refine qe_iload_n c196_4 rfl ?_
  refine qe_aload_n c196_5 rfl ?_
  refine qe_getfield c196_6 qo196 qF1_37 e2 e4 ?_
  refine qe_icmp_ge_T (t := 81) c196_9 rfl e5 ?_
  exact kk
theorem b196_12 {d : Nat} {q : Option Value × qH} {h : qH} {r0 : Nat} {r1 : Nat} {x2 : Int32} {x3 : Int32} {o4 : Option Value} {o5 : Option Value} {fs1 : List Value} {h1 : qH} {z3 : Int32}  (e2 : h.2.2 r0 = some (.inr (1, fs1))) (e4 : qCall d 195 [.ref r0, .ref r1, .int x2] h ((some (.int z3)), h1)) (kk : qE d 196 23 [some (.ref r0), some (.ref r1), some (.int x2), some (.int x3), some (.int z3), some (.int 0)] [] h1 q): qE d 196 12 [some (.ref r0), some (.ref r1), some (.int x2), some (.int x3), o4, o5] [] h q := by
  refine qe_aload_n c196_12 rfl ?_
  refine qe_aload_n c196_13 rfl ?_
  refine qe_iload_n c196_14 rfl ?_
  refine qe_virtual (b := r0) (as := [.ref r1, .int x2]) (r := []) (v := (some (.int z3))) (h2 := h1) c196_15 qo196 qK1_53 rfl rfl rfl (by rw [qo195]; exact e2) (Nat.le_of_ble_eq_true rfl) e4 ?_
  refine qe_istore (ls2 := [some (.ref r0), some (.ref r1), some (.int x2), some (.int x3), some (.int z3), o5]) c196_18 (Nat.le_of_ble_eq_true rfl) rfl ?_
  refine qe_iconst (x := 0) c196_20 (by decide) ?_
  refine qe_istore (ls2 := [some (.ref r0), some (.ref r1), some (.int x2), some (.int x3), some (.int z3), some (.int 0)]) c196_21 (Nat.le_of_ble_eq_true rfl) rfl ?_
  exact kk
theorem b196_23F {d : Nat} {q : Option Value × qH} {h : qH} {r0 : Nat} {r1 : Nat} {x2 : Int32} {x3 : Int32} {x4 : Int32} {x5 : Int32} {fs1 : List Value} {y3 : Int32}  (e2 : h.2.2 r1 = some (.inr (4, fs1))) (e4 : fs1[2]? = some (.int y3)) (e5 : ¬ ((y3 : Int32) ≤ x5)) (kk : qE d 196 32 [some (.ref r0), some (.ref r1), some (.int x2), some (.int x3), some (.int x4), some (.int x5)] [] h q): qE d 196 23 [some (.ref r0), some (.ref r1), some (.int x2), some (.int x3), some (.int x4), some (.int x5)] [] h q := by
  refine qe_iload c196_23 rfl ?_
  refine qe_aload_n c196_25 rfl ?_
  refine qe_getfield c196_26 qo196 qF1_37 e2 e4 ?_
  refine qe_icmp_ge_F (t := 75) c196_29 rfl e5 ?_
  exact kk
theorem b196_23T {d : Nat} {q : Option Value × qH} {h : qH} {r0 : Nat} {r1 : Nat} {x2 : Int32} {x3 : Int32} {x4 : Int32} {x5 : Int32} {fs1 : List Value} {y3 : Int32}  (e2 : h.2.2 r1 = some (.inr (4, fs1))) (e4 : fs1[2]? = some (.int y3)) (e5 : (y3 : Int32) ≤ x5) (kk : qE d 196 75 [some (.ref r0), some (.ref r1), some (.int x2), some (.int x3), some (.int x4), some (.int x5)] [] h q): qE d 196 23 [some (.ref r0), some (.ref r1), some (.int x2), some (.int x3), some (.int x4), some (.int x5)] [] h q := by
  refine qe_iload c196_23 rfl ?_
  refine qe_aload_n c196_25 rfl ?_
  refine qe_getfield c196_26 qo196 qF1_37 e2 e4 ?_
  refine qe_icmp_ge_T (t := 75) c196_29 rfl e5 ?_
  exact kk
theorem b196_32F {d : Nat} {q : Option Value × qH} {h : qH} {r0 : Nat} {r1 : Nat} {x2 : Int32} {x3 : Int32} {x4 : Int32} {x5 : Int32} {fs1 : List Value} {h1 : qH} {z3 : Int32} {fs5 : List Value} {y7 : Nat} {n9 : Nat} {f10 : Nat → Int32}  (e2 : h.2.2 r0 = some (.inr (1, fs1))) (e4 : qCall d 191 [.ref r0, .ref r1, .int x2, .int x4, .int x5] h ((some (.int z3)), h1)) (e6 : h1.2.2 r0 = some (.inr (1, fs5))) (e8 : fs5[3]? = some (.ref y7)) (e11 : h1.2.2 y7 = some (.inl (0, n9, .inl f10))) (e12 : 0 ≤ (x2 : Int32).toInt ∧ (x2 : Int32).toInt < (n9 : Nat)) (e13 : (z3 : Int32) = (f10 (x2 : Int32).toNatClampNeg)) (kk : qE d 196 51 [some (.ref r0), some (.ref r1), some (.int x2), some (.int x3), some (.int x4), some (.int x5)] [] h1 q): qE d 196 32 [some (.ref r0), some (.ref r1), some (.int x2), some (.int x3), some (.int x4), some (.int x5)] [] h q := by
  refine qe_aload_n c196_32 rfl ?_
  refine qe_aload_n c196_33 rfl ?_
  refine qe_iload_n c196_34 rfl ?_
  refine qe_iload c196_35 rfl ?_
  refine qe_iload c196_37 rfl ?_
  refine qe_virtual (b := r0) (as := [.ref r1, .int x2, .int x4, .int x5]) (r := []) (v := (some (.int z3))) (h2 := h1) c196_39 qo196 qK1_56 rfl rfl rfl (by rw [qo191]; exact e2) (Nat.le_of_ble_eq_true rfl) e4 ?_
  refine qe_aload_n c196_42 rfl ?_
  refine qe_getfield c196_43 qo196 qF1_22 e6 e8 ?_
  refine qe_iload_n c196_46 rfl ?_
  refine qe_iaload c196_47 e11 e12 ?_
  refine qe_icmp_ne_F (t := 69) c196_48 rfl e13 ?_
  exact kk
theorem b196_32T {d : Nat} {q : Option Value × qH} {h : qH} {r0 : Nat} {r1 : Nat} {x2 : Int32} {x3 : Int32} {x4 : Int32} {x5 : Int32} {fs1 : List Value} {h1 : qH} {z3 : Int32} {fs5 : List Value} {y7 : Nat} {n9 : Nat} {f10 : Nat → Int32}  (e2 : h.2.2 r0 = some (.inr (1, fs1))) (e4 : qCall d 191 [.ref r0, .ref r1, .int x2, .int x4, .int x5] h ((some (.int z3)), h1)) (e6 : h1.2.2 r0 = some (.inr (1, fs5))) (e8 : fs5[3]? = some (.ref y7)) (e11 : h1.2.2 y7 = some (.inl (0, n9, .inl f10))) (e12 : 0 ≤ (x2 : Int32).toInt ∧ (x2 : Int32).toInt < (n9 : Nat)) (e13 : ¬ ((z3 : Int32) = (f10 (x2 : Int32).toNatClampNeg))) (kk : qE d 196 69 [some (.ref r0), some (.ref r1), some (.int x2), some (.int x3), some (.int x4), some (.int x5)] [] h1 q): qE d 196 32 [some (.ref r0), some (.ref r1), some (.int x2), some (.int x3), some (.int x4), some (.int x5)] [] h q := by
  refine qe_aload_n c196_32 rfl ?_
  refine qe_aload_n c196_33 rfl ?_
  refine qe_iload_n c196_34 rfl ?_
  refine qe_iload c196_35 rfl ?_
  refine qe_iload c196_37 rfl ?_
  refine qe_virtual (b := r0) (as := [.ref r1, .int x2, .int x4, .int x5]) (r := []) (v := (some (.int z3))) (h2 := h1) c196_39 qo196 qK1_56 rfl rfl rfl (by rw [qo191]; exact e2) (Nat.le_of_ble_eq_true rfl) e4 ?_
  refine qe_aload_n c196_42 rfl ?_
  refine qe_getfield c196_43 qo196 qF1_22 e6 e8 ?_
  refine qe_iload_n c196_46 rfl ?_
  refine qe_iaload c196_47 e11 e12 ?_
  refine qe_icmp_ne_T (t := 69) c196_48 rfl e13 ?_
  exact kk
theorem b196_51 {d : Nat} {q : Option Value × qH} {h : qH} {r0 : Nat} {r1 : Nat} {x2 : Int32} {x3 : Int32} {x4 : Int32} {x5 : Int32} {fs1 : List Value} {y3 : Nat} {n5 : Nat} {f6 : Nat → Int32} {h1 : qH}  (e2 : h.2.2 r0 = some (.inr (1, fs1))) (e4 : fs1[2]? = some (.ref y3)) (e7 : h.2.2 y3 = some (.inl (0, n5, .inl f6))) (e8 : 0 ≤ (x3 : Int32).toInt ∧ (x3 : Int32).toInt < (n5 : Nat)) (e9 : qset h y3 (.inl (0, n5, .inl (upd f6 ((x3 : Int32).toNatClampNeg) x5))) = h1) (kk : qE d 196 75 [some (.ref r0), some (.ref r1), some (.int (x2 ||| (1 <<< (x5 &&& 31)))), some (.int x3), some (.int x4), some (.int x5)] [] h1 q): qE d 196 51 [some (.ref r0), some (.ref r1), some (.int x2), some (.int x3), some (.int x4), some (.int x5)] [] h q := by
  refine qe_aload_n c196_51 rfl ?_
  refine qe_getfield c196_52 qo196 qF1_19 e2 e4 ?_
  refine qe_iload_n c196_55 rfl ?_
  refine qe_iload c196_56 rfl ?_
  refine qe_iastore c196_58 e7 e8 ?_
  rw [e9]
  refine qe_iload_n c196_59 rfl ?_
  refine qe_iconst (x := 1) c196_60 (by decide) ?_
  refine qe_iload c196_61 rfl ?_
  refine qe_ishl c196_63 ?_
  refine qe_ior c196_64 ?_
  refine qe_istore_n (ls2 := [some (.ref r0), some (.ref r1), some (.int (x2 ||| (1 <<< (x5 &&& 31)))), some (.int x3), some (.int x4), some (.int x5)]) c196_65 (Nat.le_of_ble_eq_true rfl) rfl ?_
  refine qe_goto (t := 75) c196_66 rfl ?_
  exact kk
theorem b196_69 {d : Nat} {q : Option Value × qH} {h : qH} {r0 : Nat} {r1 : Nat} {x2 : Int32} {x3 : Int32} {x4 : Int32} {x5 : Int32}   (kk : qE d 196 23 [some (.ref r0), some (.ref r1), some (.int x2), some (.int x3), some (.int x4), some (.int (x5 + 1))] [] h q): qE d 196 69 [some (.ref r0), some (.ref r1), some (.int x2), some (.int x3), some (.int x4), some (.int x5)] [] h q := by
  refine qe_iinc (y := (x5 + 1)) (ls2 := [some (.ref r0), some (.ref r1), some (.int x2), some (.int x3), some (.int x4), some (.int (x5 + 1))]) c196_69 rfl (Nat.le_of_ble_eq_true rfl) rfl rfl ?_
  refine qe_goto (t := 23) c196_72 rfl ?_
  exact kk
theorem b196_75 {d : Nat} {q : Option Value × qH} {h : qH} {r0 : Nat} {r1 : Nat} {x2 : Int32} {x3 : Int32} {x4 : Int32} {x5 : Int32}   (kk : qE d 196 4 [some (.ref r0), some (.ref r1), some (.int x2), some (.int (x3 + 1)), some (.int x4), some (.int x5)] [] h q): qE d 196 75 [some (.ref r0), some (.ref r1), some (.int x2), some (.int x3), some (.int x4), some (.int x5)] [] h q := by
  refine qe_iinc (y := (x3 + 1)) (ls2 := [some (.ref r0), some (.ref r1), some (.int x2), some (.int (x3 + 1)), some (.int x4), some (.int x5)]) c196_75 rfl (Nat.le_of_ble_eq_true rfl) rfl rfl ?_
  refine qe_goto (t := 4) c196_78 rfl ?_
  exact kk
theorem b196_81 {d : Nat} {h : qH} {r0 : Nat} {r1 : Nat} {x2 : Int32} {x3 : Int32} {o4 : Option Value} {o5 : Option Value}   : qE d 196 81 [some (.ref r0), some (.ref r1), some (.int x2), some (.int x3), o4, o5] [] h (none, h) := by
  exact qe_vret c196_81 qr196
theorem b197_0 {d : Nat} {q : Option Value × qH} {h : qH} {r0 : Nat} {r1 : Nat} {r2 : Nat} {x3 : Int32}   (kk : qE d 197 6 [some (.ref r0), some (.ref r1), some (.ref r2), some (.int x3), some (.int 0), some (.int 0), none, none, none, none, none] [] h q): qE d 197 0 [some (.ref r0), some (.ref r1), some (.ref r2), some (.int x3), none, none, none, none, none, none, none] [] h q := by
  refine qe_iconst (x := 0) c197_0 (by decide) ?_
  refine qe_istore (ls2 := [some (.ref r0), some (.ref r1), some (.ref r2), some (.int x3), some (.int 0), none, none, none, none, none, none]) c197_1 (Nat.le_of_ble_eq_true rfl) rfl ?_
  refine qe_iconst (x := 0) c197_3 (by decide) ?_
  refine qe_istore (ls2 := [some (.ref r0), some (.ref r1), some (.ref r2), some (.int x3), some (.int 0), some (.int 0), none, none, none, none, none]) c197_4 (Nat.le_of_ble_eq_true rfl) rfl ?_
  exact kk
theorem b197_6F {d : Nat} {q : Option Value × qH} {h : qH} {r0 : Nat} {r1 : Nat} {r2 : Nat} {x3 : Int32} {x4 : Int32} {x5 : Int32} {fs1 : List Value} {y3 : Int32}  (e2 : h.2.2 r1 = some (.inr (4, fs1))) (e4 : fs1[2]? = some (.int y3)) (e5 : ¬ ((y3 : Int32) ≤ x5)) (kk : qE d 197 15 [some (.ref r0), some (.ref r1), some (.ref r2), some (.int x3), some (.int x4), some (.int x5), none, none, none, none, none] [] h q): qE d 197 6 [some (.ref r0), some (.ref r1), some (.ref r2), some (.int x3), some (.int x4), some (.int x5), none, none, none, none, none] [] h q := by
  refine qe_iload c197_6 rfl ?_
  refine qe_aload_n c197_8 rfl ?_
  refine qe_getfield c197_9 qo197 qF1_37 e2 e4 ?_
  refine qe_icmp_ge_F (t := 47) c197_12 rfl e5 ?_
  exact kk
theorem b197_6T {d : Nat} {q : Option Value × qH} {h : qH} {r0 : Nat} {r1 : Nat} {r2 : Nat} {x3 : Int32} {x4 : Int32} {x5 : Int32} {fs1 : List Value} {y3 : Int32}  (e2 : h.2.2 r1 = some (.inr (4, fs1))) (e4 : fs1[2]? = some (.int y3)) (e5 : (y3 : Int32) ≤ x5) (kk : qE d 197 47 [some (.ref r0), some (.ref r1), some (.ref r2), some (.int x3), some (.int x4), some (.int x5), none, none, none, none, none] [] h q): qE d 197 6 [some (.ref r0), some (.ref r1), some (.ref r2), some (.int x3), some (.int x4), some (.int x5), none, none, none, none, none] [] h q := by
  refine qe_iload c197_6 rfl ?_
  refine qe_aload_n c197_8 rfl ?_
  refine qe_getfield c197_9 qo197 qF1_37 e2 e4 ?_
  refine qe_icmp_ge_T (t := 47) c197_12 rfl e5 ?_
  exact kk
theorem b197_15F {d : Nat} {q : Option Value × qH} {h : qH} {r0 : Nat} {r1 : Nat} {r2 : Nat} {x3 : Int32} {x4 : Int32} {x5 : Int32}  (e1 : (((x3 >>> (x5 &&& 31)) &&& 1) : Int32) = 1) (kk : qE d 197 27 [some (.ref r0), some (.ref r1), some (.ref r2), some (.int x3), some (.int x4), some (.int x5), none, none, none, none, none] [.int x4] h q): qE d 197 15 [some (.ref r0), some (.ref r1), some (.ref r2), some (.int x3), some (.int x4), some (.int x5), none, none, none, none, none] [] h q := by
  refine qe_iload c197_15 rfl ?_
  refine qe_iload_n c197_17 rfl ?_
  refine qe_iload c197_18 rfl ?_
  refine qe_ishr c197_20 ?_
  refine qe_iconst (x := 1) c197_21 (by decide) ?_
  refine qe_iand c197_22 ?_
  refine qe_iconst (x := 1) c197_23 (by decide) ?_
  refine qe_icmp_ne_F (t := 37) c197_24 rfl e1 ?_
  exact kk
theorem b197_15T {d : Nat} {q : Option Value × qH} {h : qH} {r0 : Nat} {r1 : Nat} {r2 : Nat} {x3 : Int32} {x4 : Int32} {x5 : Int32}  (e1 : ¬ ((((x3 >>> (x5 &&& 31)) &&& 1) : Int32) = 1)) (kk : qE d 197 37 [some (.ref r0), some (.ref r1), some (.ref r2), some (.int x3), some (.int x4), some (.int x5), none, none, none, none, none] [.int x4] h q): qE d 197 15 [some (.ref r0), some (.ref r1), some (.ref r2), some (.int x3), some (.int x4), some (.int x5), none, none, none, none, none] [] h q := by
  refine qe_iload c197_15 rfl ?_
  refine qe_iload_n c197_17 rfl ?_
  refine qe_iload c197_18 rfl ?_
  refine qe_ishr c197_20 ?_
  refine qe_iconst (x := 1) c197_21 (by decide) ?_
  refine qe_iand c197_22 ?_
  refine qe_iconst (x := 1) c197_23 (by decide) ?_
  refine qe_icmp_ne_T (t := 37) c197_24 rfl e1 ?_
  exact kk
theorem b197_27 {d : Nat} {q : Option Value × qH} {h : qH} {r0 : Nat} {r1 : Nat} {r2 : Nat} {x3 : Int32} {x4 : Int32} {x5 : Int32} {xs0 : Int32} {fs1 : List Value} {y3 : Nat} {n5 : Nat} {f6 : Nat → Int32}  (e2 : h.2.2 r1 = some (.inr (4, fs1))) (e4 : fs1[15]? = some (.ref y3)) (e7 : h.2.2 y3 = some (.inl (0, n5, .inl f6))) (e8 : 0 ≤ (x5 : Int32).toInt ∧ (x5 : Int32).toInt < (n5 : Nat)) (kk : qE d 197 38 [some (.ref r0), some (.ref r1), some (.ref r2), some (.int x3), some (.int x4), some (.int x5), none, none, none, none, none] [.int (f6 (x5 : Int32).toNatClampNeg), .int xs0] h q): qE d 197 27 [some (.ref r0), some (.ref r1), some (.ref r2), some (.int x3), some (.int x4), some (.int x5), none, none, none, none, none] [.int xs0] h q := by
  refine qe_aload_n c197_27 rfl ?_
  refine qe_getfield c197_28 qo197 qF1_63 e2 e4 ?_
  refine qe_iload c197_31 rfl ?_
  refine qe_iaload c197_33 e7 e8 ?_
  refine qe_goto (t := 38) c197_34 rfl ?_
  exact kk
theorem b197_37 {d : Nat} {q : Option Value × qH} {h : qH} {r0 : Nat} {r1 : Nat} {r2 : Nat} {x3 : Int32} {x4 : Int32} {x5 : Int32} {xs0 : Int32}   (kk : qE d 197 38 [some (.ref r0), some (.ref r1), some (.ref r2), some (.int x3), some (.int x4), some (.int x5), none, none, none, none, none] [.int 0, .int xs0] h q): qE d 197 37 [some (.ref r0), some (.ref r1), some (.ref r2), some (.int x3), some (.int x4), some (.int x5), none, none, none, none, none] [.int xs0] h q := by
  refine qe_iconst (x := 0) c197_37 (by decide) ?_
  exact kk
theorem b197_38 {d : Nat} {q : Option Value × qH} {h : qH} {r0 : Nat} {r1 : Nat} {r2 : Nat} {x3 : Int32} {x4 : Int32} {x5 : Int32} {xs0 : Int32} {xs1 : Int32}   (kk : qE d 197 6 [some (.ref r0), some (.ref r1), some (.ref r2), some (.int x3), some (.int (xs0 + xs1)), some (.int (x5 + 1)), none, none, none, none, none] [] h q): qE d 197 38 [some (.ref r0), some (.ref r1), some (.ref r2), some (.int x3), some (.int x4), some (.int x5), none, none, none, none, none] [.int xs1, .int xs0] h q := by
  refine qe_iadd c197_38 ?_
  refine qe_istore (ls2 := [some (.ref r0), some (.ref r1), some (.ref r2), some (.int x3), some (.int (xs0 + xs1)), some (.int x5), none, none, none, none, none]) c197_39 (Nat.le_of_ble_eq_true rfl) rfl ?_
  refine qe_iinc (y := (x5 + 1)) (ls2 := [some (.ref r0), some (.ref r1), some (.ref r2), some (.int x3), some (.int (xs0 + xs1)), some (.int (x5 + 1)), none, none, none, none, none]) c197_41 rfl (Nat.le_of_ble_eq_true rfl) rfl rfl ?_
  refine qe_goto (t := 6) c197_44 rfl ?_
  exact kk
theorem b197_47 {d : Nat} {q : Option Value × qH} {h : qH} {r0 : Nat} {r1 : Nat} {r2 : Nat} {x3 : Int32} {x4 : Int32} {x5 : Int32} {fs1 : List Value} {h1 : qH} {z3 : Int32}  (e2 : h.2.2 r0 = some (.inr (1, fs1))) (e4 : qCall d 195 [.ref r0, .ref r1, .int x3] h ((some (.int z3)), h1)) (kk : qE d 197 64 [some (.ref r0), some (.ref r1), some (.ref r2), some (.int x3), some (.int x4), some (.int z3), some (.int 0), some (.int 0), some (.int 0), none, none] [] h1 q): qE d 197 47 [some (.ref r0), some (.ref r1), some (.ref r2), some (.int x3), some (.int x4), some (.int x5), none, none, none, none, none] [] h q := by
  refine qe_aload_n c197_47 rfl ?_
  refine qe_aload_n c197_48 rfl ?_
  refine qe_iload_n c197_49 rfl ?_
  refine qe_virtual (b := r0) (as := [.ref r1, .int x3]) (r := []) (v := (some (.int z3))) (h2 := h1) c197_50 qo197 qK1_53 rfl rfl rfl (by rw [qo195]; exact e2) (Nat.le_of_ble_eq_true rfl) e4 ?_
  refine qe_istore (ls2 := [some (.ref r0), some (.ref r1), some (.ref r2), some (.int x3), some (.int x4), some (.int z3), none, none, none, none, none]) c197_53 (Nat.le_of_ble_eq_true rfl) rfl ?_
  refine qe_iconst (x := 0) c197_55 (by decide) ?_
  refine qe_istore (ls2 := [some (.ref r0), some (.ref r1), some (.ref r2), some (.int x3), some (.int x4), some (.int z3), some (.int 0), none, none, none, none]) c197_56 (Nat.le_of_ble_eq_true rfl) rfl ?_
  refine qe_iconst (x := 0) c197_58 (by decide) ?_
  refine qe_istore (ls2 := [some (.ref r0), some (.ref r1), some (.ref r2), some (.int x3), some (.int x4), some (.int z3), some (.int 0), some (.int 0), none, none, none]) c197_59 (Nat.le_of_ble_eq_true rfl) rfl ?_
  refine qe_iconst (x := 0) c197_61 (by decide) ?_
  refine qe_istore (ls2 := [some (.ref r0), some (.ref r1), some (.ref r2), some (.int x3), some (.int x4), some (.int z3), some (.int 0), some (.int 0), some (.int 0), none, none]) c197_62 (Nat.le_of_ble_eq_true rfl) rfl ?_
  exact kk
theorem b197_64F {d : Nat} {q : Option Value × qH} {h : qH} {r0 : Nat} {r1 : Nat} {r2 : Nat} {x3 : Int32} {x4 : Int32} {x5 : Int32} {x6 : Int32} {x7 : Int32} {x8 : Int32} {o9 : Option Value} {o10 : Option Value} {fs1 : List Value} {y3 : Int32}  (e2 : h.2.2 r1 = some (.inr (4, fs1))) (e4 : fs1[0]? = some (.int y3)) (e5 : ¬ ((y3 : Int32) ≤ x8)) (kk : qE d 197 73 [some (.ref r0), some (.ref r1), some (.ref r2), some (.int x3), some (.int x4), some (.int x5), some (.int x6), some (.int x7), some (.int x8), o9, o10] [] h q): qE d 197 64 [some (.ref r0), some (.ref r1), some (.ref r2), some (.int x3), some (.int x4), some (.int x5), some (.int x6), some (.int x7), some (.int x8), o9, o10] [] h q := by
  refine qe_iload c197_64 rfl ?_
  refine qe_aload_n c197_66 rfl ?_
  refine qe_getfield c197_67 qo197 qF1_66 e2 e4 ?_
  refine qe_icmp_ge_F (t := 137) c197_70 rfl e5 ?_
  exact kk
theorem b197_64T {d : Nat} {q : Option Value × qH} {h : qH} {r0 : Nat} {r1 : Nat} {r2 : Nat} {x3 : Int32} {x4 : Int32} {x5 : Int32} {x6 : Int32} {x7 : Int32} {x8 : Int32} {o9 : Option Value} {o10 : Option Value} {fs1 : List Value} {y3 : Int32}  (e2 : h.2.2 r1 = some (.inr (4, fs1))) (e4 : fs1[0]? = some (.int y3)) (e5 : (y3 : Int32) ≤ x8) (kk : qE d 197 137 [some (.ref r0), some (.ref r1), some (.ref r2), some (.int x3), some (.int x4), some (.int x5), some (.int x6), some (.int x7), some (.int x8), o9, o10] [] h q): qE d 197 64 [some (.ref r0), some (.ref r1), some (.ref r2), some (.int x3), some (.int x4), some (.int x5), some (.int x6), some (.int x7), some (.int x8), o9, o10] [] h q := by
  refine qe_iload c197_64 rfl ?_
  refine qe_aload_n c197_66 rfl ?_
  refine qe_getfield c197_67 qo197 qF1_66 e2 e4 ?_
  refine qe_icmp_ge_T (t := 137) c197_70 rfl e5 ?_
  exact kk
theorem b197_73F {d : Nat} {q : Option Value × qH} {h : qH} {r0 : Nat} {r1 : Nat} {r2 : Nat} {x3 : Int32} {x4 : Int32} {x5 : Int32} {x6 : Int32} {x7 : Int32} {x8 : Int32} {o9 : Option Value} {o10 : Option Value} {fs1 : List Value} {y3 : Nat} {n5 : Nat} {f6 : Nat → Int32} {fs9 : List Value} {y11 : Nat} {n13 : Nat} {f14 : Nat → Int32} {fs17 : List Value} {y19 : Nat} {n21 : Nat} {f22 : Nat → Int32}  (e2 : h.2.2 r1 = some (.inr (4, fs1))) (e4 : fs1[7]? = some (.ref y3)) (e7 : h.2.2 y3 = some (.inl (0, n5, .inl f6))) (e8 : 0 ≤ (x8 : Int32).toInt ∧ (x8 : Int32).toInt < (n5 : Nat)) (e10 : h.2.2 r2 = some (.inr (8, fs9))) (e12 : fs9[4]? = some (.ref y11)) (e15 : h.2.2 y11 = some (.inl (0, n13, .inl f14))) (e16 : 0 ≤ ((f6 (x8 : Int32).toNatClampNeg) : Int32).toInt ∧ ((f6 (x8 : Int32).toNatClampNeg) : Int32).toInt < (n13 : Nat)) (e18 : h.2.2 r0 = some (.inr (1, fs17))) (e20 : fs17[5]? = some (.ref y19)) (e23 : h.2.2 y19 = some (.inl (0, n21, .inl f22))) (e24 : 0 ≤ ((f6 (x8 : Int32).toNatClampNeg) : Int32).toInt ∧ ((f6 (x8 : Int32).toNatClampNeg) : Int32).toInt < (n21 : Nat)) (e25 : (((x5 >>> ((f22 ((f6 (x8 : Int32).toNatClampNeg) : Int32).toNatClampNeg) &&& 31)) &&& 1) : Int32) = 1) (kk : qE d 197 114 [some (.ref r0), some (.ref r1), some (.ref r2), some (.int x3), some (.int x4), some (.int x5), some (.int x6), some (.int (x7 + (f14 ((f6 (x8 : Int32).toNatClampNeg) : Int32).toNatClampNeg))), some (.int x8), some (.int (f6 (x8 : Int32).toNatClampNeg)), some (.int (f14 ((f6 (x8 : Int32).toNatClampNeg) : Int32).toNatClampNeg))] [] h q): qE d 197 73 [some (.ref r0), some (.ref r1), some (.ref r2), some (.int x3), some (.int x4), some (.int x5), some (.int x6), some (.int x7), some (.int x8), o9, o10] [] h q := by
  refine qe_aload_n c197_73 rfl ?_
  refine qe_getfield c197_74 qo197 qF1_69 e2 e4 ?_
  refine qe_iload c197_77 rfl ?_
  refine qe_iaload c197_79 e7 e8 ?_
  refine qe_istore (ls2 := [some (.ref r0), some (.ref r1), some (.ref r2), some (.int x3), some (.int x4), some (.int x5), some (.int x6), some (.int x7), some (.int x8), some (.int (f6 (x8 : Int32).toNatClampNeg)), o10]) c197_80 (Nat.le_of_ble_eq_true rfl) rfl ?_
  refine qe_aload_n c197_82 rfl ?_
  refine qe_getfield c197_83 qo197 qF1_72 e10 e12 ?_
  refine qe_iload c197_86 rfl ?_
  refine qe_iaload c197_88 e15 e16 ?_
  refine qe_istore (ls2 := [some (.ref r0), some (.ref r1), some (.ref r2), some (.int x3), some (.int x4), some (.int x5), some (.int x6), some (.int x7), some (.int x8), some (.int (f6 (x8 : Int32).toNatClampNeg)), some (.int (f14 ((f6 (x8 : Int32).toNatClampNeg) : Int32).toNatClampNeg))]) c197_89 (Nat.le_of_ble_eq_true rfl) rfl ?_
  refine qe_iload c197_91 rfl ?_
  refine qe_iload c197_93 rfl ?_
  refine qe_iadd c197_95 ?_
  refine qe_istore (ls2 := [some (.ref r0), some (.ref r1), some (.ref r2), some (.int x3), some (.int x4), some (.int x5), some (.int x6), some (.int (x7 + (f14 ((f6 (x8 : Int32).toNatClampNeg) : Int32).toNatClampNeg))), some (.int x8), some (.int (f6 (x8 : Int32).toNatClampNeg)), some (.int (f14 ((f6 (x8 : Int32).toNatClampNeg) : Int32).toNatClampNeg))]) c197_96 (Nat.le_of_ble_eq_true rfl) rfl ?_
  refine qe_iload c197_98 rfl ?_
  refine qe_aload_n c197_100 rfl ?_
  refine qe_getfield c197_101 qo197 qF1_28 e18 e20 ?_
  refine qe_iload c197_104 rfl ?_
  refine qe_iaload c197_106 e23 e24 ?_
  refine qe_ishr c197_107 ?_
  refine qe_iconst (x := 1) c197_108 (by decide) ?_
  refine qe_iand c197_109 ?_
  refine qe_iconst (x := 1) c197_110 (by decide) ?_
  refine qe_icmp_ne_F (t := 131) c197_111 rfl e25 ?_
  exact kk
theorem b197_73T {d : Nat} {q : Option Value × qH} {h : qH} {r0 : Nat} {r1 : Nat} {r2 : Nat} {x3 : Int32} {x4 : Int32} {x5 : Int32} {x6 : Int32} {x7 : Int32} {x8 : Int32} {o9 : Option Value} {o10 : Option Value} {fs1 : List Value} {y3 : Nat} {n5 : Nat} {f6 : Nat → Int32} {fs9 : List Value} {y11 : Nat} {n13 : Nat} {f14 : Nat → Int32} {fs17 : List Value} {y19 : Nat} {n21 : Nat} {f22 : Nat → Int32}  (e2 : h.2.2 r1 = some (.inr (4, fs1))) (e4 : fs1[7]? = some (.ref y3)) (e7 : h.2.2 y3 = some (.inl (0, n5, .inl f6))) (e8 : 0 ≤ (x8 : Int32).toInt ∧ (x8 : Int32).toInt < (n5 : Nat)) (e10 : h.2.2 r2 = some (.inr (8, fs9))) (e12 : fs9[4]? = some (.ref y11)) (e15 : h.2.2 y11 = some (.inl (0, n13, .inl f14))) (e16 : 0 ≤ ((f6 (x8 : Int32).toNatClampNeg) : Int32).toInt ∧ ((f6 (x8 : Int32).toNatClampNeg) : Int32).toInt < (n13 : Nat)) (e18 : h.2.2 r0 = some (.inr (1, fs17))) (e20 : fs17[5]? = some (.ref y19)) (e23 : h.2.2 y19 = some (.inl (0, n21, .inl f22))) (e24 : 0 ≤ ((f6 (x8 : Int32).toNatClampNeg) : Int32).toInt ∧ ((f6 (x8 : Int32).toNatClampNeg) : Int32).toInt < (n21 : Nat)) (e25 : ¬ ((((x5 >>> ((f22 ((f6 (x8 : Int32).toNatClampNeg) : Int32).toNatClampNeg) &&& 31)) &&& 1) : Int32) = 1)) (kk : qE d 197 131 [some (.ref r0), some (.ref r1), some (.ref r2), some (.int x3), some (.int x4), some (.int x5), some (.int x6), some (.int (x7 + (f14 ((f6 (x8 : Int32).toNatClampNeg) : Int32).toNatClampNeg))), some (.int x8), some (.int (f6 (x8 : Int32).toNatClampNeg)), some (.int (f14 ((f6 (x8 : Int32).toNatClampNeg) : Int32).toNatClampNeg))] [] h q): qE d 197 73 [some (.ref r0), some (.ref r1), some (.ref r2), some (.int x3), some (.int x4), some (.int x5), some (.int x6), some (.int x7), some (.int x8), o9, o10] [] h q := by
  refine qe_aload_n c197_73 rfl ?_
  refine qe_getfield c197_74 qo197 qF1_69 e2 e4 ?_
  refine qe_iload c197_77 rfl ?_
  refine qe_iaload c197_79 e7 e8 ?_
  refine qe_istore (ls2 := [some (.ref r0), some (.ref r1), some (.ref r2), some (.int x3), some (.int x4), some (.int x5), some (.int x6), some (.int x7), some (.int x8), some (.int (f6 (x8 : Int32).toNatClampNeg)), o10]) c197_80 (Nat.le_of_ble_eq_true rfl) rfl ?_
  refine qe_aload_n c197_82 rfl ?_
  refine qe_getfield c197_83 qo197 qF1_72 e10 e12 ?_
  refine qe_iload c197_86 rfl ?_
  refine qe_iaload c197_88 e15 e16 ?_
  refine qe_istore (ls2 := [some (.ref r0), some (.ref r1), some (.ref r2), some (.int x3), some (.int x4), some (.int x5), some (.int x6), some (.int x7), some (.int x8), some (.int (f6 (x8 : Int32).toNatClampNeg)), some (.int (f14 ((f6 (x8 : Int32).toNatClampNeg) : Int32).toNatClampNeg))]) c197_89 (Nat.le_of_ble_eq_true rfl) rfl ?_
  refine qe_iload c197_91 rfl ?_
  refine qe_iload c197_93 rfl ?_
  refine qe_iadd c197_95 ?_
  refine qe_istore (ls2 := [some (.ref r0), some (.ref r1), some (.ref r2), some (.int x3), some (.int x4), some (.int x5), some (.int x6), some (.int (x7 + (f14 ((f6 (x8 : Int32).toNatClampNeg) : Int32).toNatClampNeg))), some (.int x8), some (.int (f6 (x8 : Int32).toNatClampNeg)), some (.int (f14 ((f6 (x8 : Int32).toNatClampNeg) : Int32).toNatClampNeg))]) c197_96 (Nat.le_of_ble_eq_true rfl) rfl ?_
  refine qe_iload c197_98 rfl ?_
  refine qe_aload_n c197_100 rfl ?_
  refine qe_getfield c197_101 qo197 qF1_28 e18 e20 ?_
  refine qe_iload c197_104 rfl ?_
  refine qe_iaload c197_106 e23 e24 ?_
  refine qe_ishr c197_107 ?_
  refine qe_iconst (x := 1) c197_108 (by decide) ?_
  refine qe_iand c197_109 ?_
  refine qe_iconst (x := 1) c197_110 (by decide) ?_
  refine qe_icmp_ne_T (t := 131) c197_111 rfl e25 ?_
  exact kk
theorem b197_114F {d : Nat} {q : Option Value × qH} {h : qH} {r0 : Nat} {r1 : Nat} {r2 : Nat} {x3 : Int32} {x4 : Int32} {x5 : Int32} {x6 : Int32} {x7 : Int32} {x8 : Int32} {x9 : Int32} {x10 : Int32}  (e1 : ¬ ((x4 : Int32) < (x6 + x10))) (kk : qE d 197 124 [some (.ref r0), some (.ref r1), some (.ref r2), some (.int x3), some (.int x4), some (.int x5), some (.int x6), some (.int x7), some (.int x8), some (.int x9), some (.int x10)] [] h q): qE d 197 114 [some (.ref r0), some (.ref r1), some (.ref r2), some (.int x3), some (.int x4), some (.int x5), some (.int x6), some (.int x7), some (.int x8), some (.int x9), some (.int x10)] [] h q := by
  refine qe_iload c197_114 rfl ?_
  refine qe_iload c197_116 rfl ?_
  refine qe_iadd c197_118 ?_
  refine qe_iload c197_119 rfl ?_
  refine qe_icmp_gt_F (t := 131) c197_121 rfl e1 ?_
  exact kk
theorem b197_114T {d : Nat} {q : Option Value × qH} {h : qH} {r0 : Nat} {r1 : Nat} {r2 : Nat} {x3 : Int32} {x4 : Int32} {x5 : Int32} {x6 : Int32} {x7 : Int32} {x8 : Int32} {x9 : Int32} {x10 : Int32}  (e1 : (x4 : Int32) < (x6 + x10)) (kk : qE d 197 131 [some (.ref r0), some (.ref r1), some (.ref r2), some (.int x3), some (.int x4), some (.int x5), some (.int x6), some (.int x7), some (.int x8), some (.int x9), some (.int x10)] [] h q): qE d 197 114 [some (.ref r0), some (.ref r1), some (.ref r2), some (.int x3), some (.int x4), some (.int x5), some (.int x6), some (.int x7), some (.int x8), some (.int x9), some (.int x10)] [] h q := by
  refine qe_iload c197_114 rfl ?_
  refine qe_iload c197_116 rfl ?_
  refine qe_iadd c197_118 ?_
  refine qe_iload c197_119 rfl ?_
  refine qe_icmp_gt_T (t := 131) c197_121 rfl e1 ?_
  exact kk
theorem b197_124 {d : Nat} {q : Option Value × qH} {h : qH} {r0 : Nat} {r1 : Nat} {r2 : Nat} {x3 : Int32} {x4 : Int32} {x5 : Int32} {x6 : Int32} {x7 : Int32} {x8 : Int32} {x9 : Int32} {x10 : Int32}   (kk : qE d 197 131 [some (.ref r0), some (.ref r1), some (.ref r2), some (.int x3), some (.int x4), some (.int x5), some (.int (x6 + x10)), some (.int x7), some (.int x8), some (.int x9), some (.int x10)] [] h q): qE d 197 124 [some (.ref r0), some (.ref r1), some (.ref r2), some (.int x3), some (.int x4), some (.int x5), some (.int x6), some (.int x7), some (.int x8), some (.int x9), some (.int x10)] [] h q := by
  refine qe_iload c197_124 rfl ?_
  refine qe_iload c197_126 rfl ?_
  refine qe_iadd c197_128 ?_
  refine qe_istore (ls2 := [some (.ref r0), some (.ref r1), some (.ref r2), some (.int x3), some (.int x4), some (.int x5), some (.int (x6 + x10)), some (.int x7), some (.int x8), some (.int x9), some (.int x10)]) c197_129 (Nat.le_of_ble_eq_true rfl) rfl ?_
  exact kk
theorem b197_131 {d : Nat} {q : Option Value × qH} {h : qH} {r0 : Nat} {r1 : Nat} {r2 : Nat} {x3 : Int32} {x4 : Int32} {x5 : Int32} {x6 : Int32} {x7 : Int32} {x8 : Int32} {x9 : Int32} {x10 : Int32}   (kk : qE d 197 64 [some (.ref r0), some (.ref r1), some (.ref r2), some (.int x3), some (.int x4), some (.int x5), some (.int x6), some (.int x7), some (.int (x8 + 1)), some (.int x9), some (.int x10)] [] h q): qE d 197 131 [some (.ref r0), some (.ref r1), some (.ref r2), some (.int x3), some (.int x4), some (.int x5), some (.int x6), some (.int x7), some (.int x8), some (.int x9), some (.int x10)] [] h q := by
  refine qe_iinc (y := (x8 + 1)) (ls2 := [some (.ref r0), some (.ref r1), some (.ref r2), some (.int x3), some (.int x4), some (.int x5), some (.int x6), some (.int x7), some (.int (x8 + 1)), some (.int x9), some (.int x10)]) c197_131 rfl (Nat.le_of_ble_eq_true rfl) rfl rfl ?_
  refine qe_goto (t := 64) c197_134 rfl ?_
  exact kk
theorem b197_137 {d : Nat} {h : qH} {r0 : Nat} {r1 : Nat} {r2 : Nat} {x3 : Int32} {x4 : Int32} {x5 : Int32} {x6 : Int32} {x7 : Int32} {x8 : Int32} {o9 : Option Value} {o10 : Option Value}   : qE d 197 137 [some (.ref r0), some (.ref r1), some (.ref r2), some (.int x3), some (.int x4), some (.int x5), some (.int x6), some (.int x7), some (.int x8), o9, o10] [] h (some (.int (x7 - x6)), h) := by
  refine qe_iload c197_137 rfl ?_
  refine qe_iload c197_139 rfl ?_
  refine qe_isub c197_141 ?_
  exact qe_iret c197_142 qr197
theorem b198_0 {d : Nat} {h : qH} {r0 : Nat} {x1 : Int32} {x2 : Int32} {fs1 : List Value} {y3 : Nat} {y5 : Int32} {n7 : Nat} {f8 : Nat → Int32} {h1 : qH} {fs12 : List Value} {y14 : Nat} {y16 : Int32} {n18 : Nat} {f19 : Nat → Int32} {h2 : qH} {fs23 : List Value} {y25 : Int32} {h3 : qH} {fs29 : List Value} {y31 : Int32}  (e2 : h.2.2 r0 = some (.inr (2, fs1))) (e4 : fs1[4]? = some (.ref y3)) (e6 : fs1[0]? = some (.int y5)) (e9 : h.2.2 y3 = some (.inl (0, n7, .inl f8))) (e10 : 0 ≤ (y5 : Int32).toInt ∧ (y5 : Int32).toInt < (n7 : Nat)) (e11 : qset h y3 (.inl (0, n7, .inl (upd f8 ((y5 : Int32).toNatClampNeg) x1))) = h1) (e13 : h1.2.2 r0 = some (.inr (2, fs12))) (e15 : fs12[5]? = some (.ref y14)) (e17 : fs12[0]? = some (.int y16)) (e20 : h1.2.2 y14 = some (.inl (0, n18, .inl f19))) (e21 : 0 ≤ (y16 : Int32).toInt ∧ (y16 : Int32).toInt < (n18 : Nat)) (e22 : qset h1 y14 (.inl (0, n18, .inl (upd f19 ((y16 : Int32).toNatClampNeg) x2))) = h2) (e24 : h2.2.2 r0 = some (.inr (2, fs23))) (e26 : fs23[0]? = some (.int y25)) (e27 : 0 < fs23.length) (e28 : qset h2 r0 (.inr (2, fs23.set 0 (.int (y25 + 1)))) = h3) (e30 : h3.2.2 r0 = some (.inr (2, fs29))) (e32 : fs29[0]? = some (.int y31)) : qE d 198 0 [some (.ref r0), some (.int x1), some (.int x2)] [] h (some (.int (y31 - 1)), h3) := by
  refine qe_aload_n c198_0 rfl ?_
  refine qe_getfield c198_1 qo198 qF2_18 e2 e4 ?_
  refine qe_aload_n c198_4 rfl ?_
  refine qe_getfield c198_5 qo198 qF2_35 e2 e6 ?_
  refine qe_iload_n c198_8 rfl ?_
  refine qe_iastore c198_9 e9 e10 ?_
  rw [e11]
  refine qe_aload_n c198_10 rfl ?_
  refine qe_getfield c198_11 qo198 qF2_21 e13 e15 ?_
  refine qe_aload_n c198_14 rfl ?_
  refine qe_getfield c198_15 qo198 qF2_35 e13 e17 ?_
  refine qe_iload_n c198_18 rfl ?_
  refine qe_iastore c198_19 e20 e21 ?_
  rw [e22]
  refine qe_aload_n c198_20 rfl ?_
  refine qe_dup c198_21 rfl ?_
  refine qe_getfield c198_22 qo198 qF2_35 e24 e26 ?_
  refine qe_iconst (x := 1) c198_25 (by decide) ?_
  refine qe_iadd c198_26 ?_
  refine qe_putfield c198_27 qo198 qF2_35 qz2_0 e24 e27 (by rw [qy2_0]; rfl) ?_
  rw [e28]
  refine qe_aload_n c198_30 rfl ?_
  refine qe_getfield c198_31 qo198 qF2_35 e30 e32 ?_
  refine qe_iconst (x := 1) c198_34 (by decide) ?_
  refine qe_isub c198_35 ?_
  exact qe_iret c198_36 qr198
theorem b199_0 {d : Nat} {h : qH} {r0 : Nat} {x1 : Int32} {x2 : Int32} {fs1 : List Value} {y3 : Nat} {y5 : Int32} {n7 : Nat} {f8 : Nat → Int32} {h1 : qH} {fs12 : List Value} {y14 : Nat} {y16 : Int32} {n18 : Nat} {f19 : Nat → Int32} {h2 : qH} {fs23 : List Value} {y25 : Int32} {h3 : qH}  (e2 : h.2.2 r0 = some (.inr (2, fs1))) (e4 : fs1[6]? = some (.ref y3)) (e6 : fs1[1]? = some (.int y5)) (e9 : h.2.2 y3 = some (.inl (0, n7, .inl f8))) (e10 : 0 ≤ (y5 : Int32).toInt ∧ (y5 : Int32).toInt < (n7 : Nat)) (e11 : qset h y3 (.inl (0, n7, .inl (upd f8 ((y5 : Int32).toNatClampNeg) x1))) = h1) (e13 : h1.2.2 r0 = some (.inr (2, fs12))) (e15 : fs12[7]? = some (.ref y14)) (e17 : fs12[1]? = some (.int y16)) (e20 : h1.2.2 y14 = some (.inl (0, n18, .inl f19))) (e21 : 0 ≤ (y16 : Int32).toInt ∧ (y16 : Int32).toInt < (n18 : Nat)) (e22 : qset h1 y14 (.inl (0, n18, .inl (upd f19 ((y16 : Int32).toNatClampNeg) x2))) = h2) (e24 : h2.2.2 r0 = some (.inr (2, fs23))) (e26 : fs23[1]? = some (.int y25)) (e27 : 1 < fs23.length) (e28 : qset h2 r0 (.inr (2, fs23.set 1 (.int (y25 + 1)))) = h3) : qE d 199 0 [some (.ref r0), some (.int x1), some (.int x2)] [] h (none, h3) := by
  refine qe_aload_n c199_0 rfl ?_
  refine qe_getfield c199_1 qo199 qF2_24 e2 e4 ?_
  refine qe_aload_n c199_4 rfl ?_
  refine qe_getfield c199_5 qo199 qF2_39 e2 e6 ?_
  refine qe_iload_n c199_8 rfl ?_
  refine qe_iastore c199_9 e9 e10 ?_
  rw [e11]
  refine qe_aload_n c199_10 rfl ?_
  refine qe_getfield c199_11 qo199 qF2_27 e13 e15 ?_
  refine qe_aload_n c199_14 rfl ?_
  refine qe_getfield c199_15 qo199 qF2_39 e13 e17 ?_
  refine qe_iload_n c199_18 rfl ?_
  refine qe_iastore c199_19 e20 e21 ?_
  rw [e22]
  refine qe_aload_n c199_20 rfl ?_
  refine qe_dup c199_21 rfl ?_
  refine qe_getfield c199_22 qo199 qF2_39 e24 e26 ?_
  refine qe_iconst (x := 1) c199_25 (by decide) ?_
  refine qe_iadd c199_26 ?_
  refine qe_putfield c199_27 qo199 qF2_39 qz2_1 e24 e27 (by rw [qy2_1]; rfl) ?_
  rw [e28]
  exact qe_vret c199_30 qr199
theorem b200_0 {d : Nat} {q : Option Value × qH} {h : qH} {r0 : Nat}   (kk : qE d 200 2 [some (.ref r0), some (.int 0), none, none] [] h q): qE d 200 0 [some (.ref r0), none, none, none] [] h q := by
  refine qe_iconst (x := 0) c200_0 (by decide) ?_
  refine qe_istore_n (ls2 := [some (.ref r0), some (.int 0), none, none]) c200_1 (Nat.le_of_ble_eq_true rfl) rfl ?_
  exact kk
theorem b200_2F {d : Nat} {q : Option Value × qH} {h : qH} {r0 : Nat} {x1 : Int32}  (e1 : ¬ ((5 : Int32) ≤ x1)) (kk : qE d 200 7 [some (.ref r0), some (.int x1), none, none] [] h q): qE d 200 2 [some (.ref r0), some (.int x1), none, none] [] h q := by
  refine qe_iload_n c200_2 rfl ?_
  refine qe_iconst (x := 5) c200_3 (by decide) ?_
  refine qe_icmp_ge_F (t := 33) c200_4 rfl e1 ?_
  exact kk
theorem b200_2T {d : Nat} {q : Option Value × qH} {h : qH} {r0 : Nat} {x1 : Int32}  (e1 : (5 : Int32) ≤ x1) (kk : qE d 200 33 [some (.ref r0), some (.int x1), none, none] [] h q): qE d 200 2 [some (.ref r0), some (.int x1), none, none] [] h q := by
  refine qe_iload_n c200_2 rfl ?_
  refine qe_iconst (x := 5) c200_3 (by decide) ?_
  refine qe_icmp_ge_T (t := 33) c200_4 rfl e1 ?_
  exact kk
theorem b200_7 {d : Nat} {q : Option Value × qH} {h : qH} {r0 : Nat} {x1 : Int32} {fs1 : List Value} {y3 : Nat} {n5 : Nat} {f6 : Nat → Option Nat} {r9 : Nat} {h1 : qH} {fs12 : List Value} {y14 : Nat} {n16 : Nat} {f17 : Nat → Option Nat} {r20 : Nat} {n22 : Nat} {f23 : Nat → Int32} {h2 : qH}  (e2 : h.2.2 r0 = some (.inr (2, fs1))) (e4 : fs1[8]? = some (.ref y3)) (e7 : h.2.2 y3 = some (.inl (6, n5, .inr (.inr (.inr (.inr f6)))))) (e8 : 0 ≤ (x1 : Int32).toInt ∧ (x1 : Int32).toInt < (n5 : Nat)) (e10 : (f6 (x1 : Int32).toNatClampNeg) = some r9) (e11 : qCall d 2 [.ref r9, .int 1000000] h (none, h1)) (e13 : h1.2.2 r0 = some (.inr (2, fs12))) (e15 : fs12[8]? = some (.ref y14)) (e18 : h1.2.2 y14 = some (.inl (6, n16, .inr (.inr (.inr (.inr f17)))))) (e19 : 0 ≤ (x1 : Int32).toInt ∧ (x1 : Int32).toInt < (n16 : Nat)) (e21 : (f17 (x1 : Int32).toNatClampNeg) = some r20) (e24 : h1.2.2 r20 = some (.inl (0, n22, .inl f23))) (e25 : 0 ≤ (x1 : Int32).toInt ∧ (x1 : Int32).toInt < (n22 : Nat)) (e26 : qset h1 r20 (.inl (0, n22, .inl (upd f23 ((x1 : Int32).toNatClampNeg) 0))) = h2) (kk : qE d 200 2 [some (.ref r0), some (.int (x1 + 1)), none, none] [] h2 q): qE d 200 7 [some (.ref r0), some (.int x1), none, none] [] h q := by
  refine qe_aload_n c200_7 rfl ?_
  refine qe_getfield c200_8 qo200 qF2_32 e2 e4 ?_
  refine qe_iload_n c200_11 rfl ?_
  refine qe_aaload c200_12 e7 e8 (Or.inr (Or.inl rfl)) e10 ?_
  refine qe_ldc (x := 1000000) c200_13 qo200 qI2_48 ?_
  refine qe_static (as := [.ref r9, .int 1000000]) (r := []) (v := none) (h2 := h1) c200_15 qo200 (by decide) qK2_49 rfl rfl rfl (Nat.le_of_ble_eq_true rfl) e11 ?_
  refine qe_aload_n c200_18 rfl ?_
  refine qe_getfield c200_19 qo200 qF2_32 e13 e15 ?_
  refine qe_iload_n c200_22 rfl ?_
  refine qe_aaload c200_23 e18 e19 (Or.inr (Or.inl rfl)) e21 ?_
  refine qe_iload_n c200_24 rfl ?_
  refine qe_iconst (x := 0) c200_25 (by decide) ?_
  refine qe_iastore c200_26 e24 e25 ?_
  rw [e26]
  refine qe_iinc (y := (x1 + 1)) (ls2 := [some (.ref r0), some (.int (x1 + 1)), none, none]) c200_27 rfl (Nat.le_of_ble_eq_true rfl) rfl rfl ?_
  refine qe_goto (t := 2) c200_30 rfl ?_
  exact kk
theorem b200_33 {d : Nat} {q : Option Value × qH} {h : qH} {r0 : Nat} {x1 : Int32}   (kk : qE d 200 35 [some (.ref r0), some (.int 0), none, none] [] h q): qE d 200 33 [some (.ref r0), some (.int x1), none, none] [] h q := by
  refine qe_iconst (x := 0) c200_33 (by decide) ?_
  refine qe_istore_n (ls2 := [some (.ref r0), some (.int 0), none, none]) c200_34 (Nat.le_of_ble_eq_true rfl) rfl ?_
  exact kk
theorem b200_35F {d : Nat} {q : Option Value × qH} {h : qH} {r0 : Nat} {x1 : Int32}  (e1 : ¬ ((4 : Int32) ≤ x1)) (kk : qE d 200 40 [some (.ref r0), some (.int x1), none, none] [] h q): qE d 200 35 [some (.ref r0), some (.int x1), none, none] [] h q := by
  refine qe_iload_n c200_35 rfl ?_
  refine qe_iconst (x := 4) c200_36 (by decide) ?_
  refine qe_icmp_ge_F (t := 75) c200_37 rfl e1 ?_
  exact kk
theorem b200_35T {d : Nat} {q : Option Value × qH} {h : qH} {r0 : Nat} {x1 : Int32}  (e1 : (4 : Int32) ≤ x1) (kk : qE d 200 75 [some (.ref r0), some (.int x1), none, none] [] h q): qE d 200 35 [some (.ref r0), some (.int x1), none, none] [] h q := by
  refine qe_iload_n c200_35 rfl ?_
  refine qe_iconst (x := 4) c200_36 (by decide) ?_
  refine qe_icmp_ge_T (t := 75) c200_37 rfl e1 ?_
  exact kk
theorem b200_40 {d : Nat} {q : Option Value × qH} {h : qH} {r0 : Nat} {x1 : Int32} {fs1 : List Value} {y3 : Nat} {n5 : Nat} {f6 : Nat → Option Nat} {r9 : Nat} {y11 : Nat} {n13 : Nat} {f14 : Nat → Int32} {n17 : Nat} {f18 : Nat → Int32} {h1 : qH} {fs22 : List Value} {y24 : Nat} {n26 : Nat} {f27 : Nat → Option Nat} {r30 : Nat} {y32 : Nat} {n34 : Nat} {f35 : Nat → Int32} {n38 : Nat} {f39 : Nat → Int32} {h2 : qH}  (e2 : h.2.2 r0 = some (.inr (2, fs1))) (e4 : fs1[8]? = some (.ref y3)) (e7 : h.2.2 y3 = some (.inl (6, n5, .inr (.inr (.inr (.inr f6)))))) (e8 : 0 ≤ (4 : Int32).toInt ∧ (4 : Int32).toInt < (n5 : Nat)) (e10 : (f6 (4 : Int32).toNatClampNeg) = some r9) (e12 : fs1[3]? = some (.ref y11)) (e15 : h.2.2 y11 = some (.inl (0, n13, .inl f14))) (e16 : 0 ≤ (x1 : Int32).toInt ∧ (x1 : Int32).toInt < (n13 : Nat)) (e19 : h.2.2 r9 = some (.inl (0, n17, .inl f18))) (e20 : 0 ≤ (x1 : Int32).toInt ∧ (x1 : Int32).toInt < (n17 : Nat)) (e21 : qset h r9 (.inl (0, n17, .inl (upd f18 ((x1 : Int32).toNatClampNeg) ((f14 (x1 : Int32).toNatClampNeg))))) = h1) (e23 : h1.2.2 r0 = some (.inr (2, fs22))) (e25 : fs22[8]? = some (.ref y24)) (e28 : h1.2.2 y24 = some (.inl (6, n26, .inr (.inr (.inr (.inr f27)))))) (e29 : 0 ≤ (x1 : Int32).toInt ∧ (x1 : Int32).toInt < (n26 : Nat)) (e31 : (f27 (x1 : Int32).toNatClampNeg) = some r30) (e33 : fs22[2]? = some (.ref y32)) (e36 : h1.2.2 y32 = some (.inl (0, n34, .inl f35))) (e37 : 0 ≤ (x1 : Int32).toInt ∧ (x1 : Int32).toInt < (n34 : Nat)) (e40 : h1.2.2 r30 = some (.inl (0, n38, .inl f39))) (e41 : 0 ≤ (4 : Int32).toInt ∧ (4 : Int32).toInt < (n38 : Nat)) (e42 : qset h1 r30 (.inl (0, n38, .inl (upd f39 ((4 : Int32).toNatClampNeg) ((-(f35 (x1 : Int32).toNatClampNeg)))))) = h2) (kk : qE d 200 35 [some (.ref r0), some (.int (x1 + 1)), none, none] [] h2 q): qE d 200 40 [some (.ref r0), some (.int x1), none, none] [] h q := by
  refine qe_aload_n c200_40 rfl ?_
  refine qe_getfield c200_41 qo200 qF2_32 e2 e4 ?_
  refine qe_iconst (x := 4) c200_44 (by decide) ?_
  refine qe_aaload c200_45 e7 e8 (Or.inr (Or.inl rfl)) e10 ?_
  refine qe_iload_n c200_46 rfl ?_
  refine qe_aload_n c200_47 rfl ?_
  refine qe_getfield c200_48 qo200 qF2_15 e2 e12 ?_
  refine qe_iload_n c200_51 rfl ?_
  refine qe_iaload c200_52 e15 e16 ?_
  refine qe_iastore c200_53 e19 e20 ?_
  rw [e21]
  refine qe_aload_n c200_54 rfl ?_
  refine qe_getfield c200_55 qo200 qF2_32 e23 e25 ?_
  refine qe_iload_n c200_58 rfl ?_
  refine qe_aaload c200_59 e28 e29 (Or.inr (Or.inl rfl)) e31 ?_
  refine qe_iconst (x := 4) c200_60 (by decide) ?_
  refine qe_aload_n c200_61 rfl ?_
  refine qe_getfield c200_62 qo200 qF2_9 e23 e33 ?_
  refine qe_iload_n c200_65 rfl ?_
  refine qe_iaload c200_66 e36 e37 ?_
  refine qe_ineg c200_67 ?_
  refine qe_iastore c200_68 e40 e41 ?_
  rw [e42]
  refine qe_iinc (y := (x1 + 1)) (ls2 := [some (.ref r0), some (.int (x1 + 1)), none, none]) c200_69 rfl (Nat.le_of_ble_eq_true rfl) rfl rfl ?_
  refine qe_goto (t := 35) c200_72 rfl ?_
  exact kk
theorem b200_75 {d : Nat} {q : Option Value × qH} {h : qH} {r0 : Nat} {x1 : Int32}   (kk : qE d 200 77 [some (.ref r0), some (.int 0), none, none] [] h q): qE d 200 75 [some (.ref r0), some (.int x1), none, none] [] h q := by
  refine qe_iconst (x := 0) c200_75 (by decide) ?_
  refine qe_istore_n (ls2 := [some (.ref r0), some (.int 0), none, none]) c200_76 (Nat.le_of_ble_eq_true rfl) rfl ?_
  exact kk
theorem b200_77F {d : Nat} {q : Option Value × qH} {h : qH} {r0 : Nat} {x1 : Int32} {o2 : Option Value} {o3 : Option Value} {fs1 : List Value} {y3 : Int32}  (e2 : h.2.2 r0 = some (.inr (2, fs1))) (e4 : fs1[1]? = some (.int y3)) (e5 : ¬ ((y3 : Int32) ≤ x1)) (kk : qE d 200 85 [some (.ref r0), some (.int x1), o2, o3] [] h q): qE d 200 77 [some (.ref r0), some (.int x1), o2, o3] [] h q := by
  refine qe_iload_n c200_77 rfl ?_
  refine qe_aload_n c200_78 rfl ?_
  refine qe_getfield c200_79 qo200 qF2_39 e2 e4 ?_
  refine qe_icmp_ge_F (t := 157) c200_82 rfl e5 ?_
  exact kk
theorem b200_77T {d : Nat} {q : Option Value × qH} {h : qH} {r0 : Nat} {x1 : Int32} {o2 : Option Value} {o3 : Option Value} {fs1 : List Value} {y3 : Int32}  (e2 : h.2.2 r0 = some (.inr (2, fs1))) (e4 : fs1[1]? = some (.int y3)) (e5 : (y3 : Int32) ≤ x1) (kk : qE d 200 157 [some (.ref r0), some (.int x1), o2, o3] [] h q): qE d 200 77 [some (.ref r0), some (.int x1), o2, o3] [] h q := by
  refine qe_iload_n c200_77 rfl ?_
  refine qe_aload_n c200_78 rfl ?_
  refine qe_getfield c200_79 qo200 qF2_39 e2 e4 ?_
  refine qe_icmp_ge_T (t := 157) c200_82 rfl e5 ?_
  exact kk
theorem b200_85 {d : Nat} {q : Option Value × qH} {h : qH} {r0 : Nat} {x1 : Int32} {o2 : Option Value} {o3 : Option Value} {fs1 : List Value} {y3 : Nat} {y5 : Nat} {n7 : Nat} {f8 : Nat → Int32} {n11 : Nat} {f12 : Nat → Int32} {y16 : Nat} {n18 : Nat} {f19 : Nat → Int32} {y23 : Nat} {n25 : Nat} {f26 : Nat → Option Nat} {r29 : Nat} {r33 : Nat} {n35 : Nat} {f36 : Nat → Int32} {y39 : Nat} {n43 : Nat} {f44 : Nat → Int32} {h1 : qH} {z51 : Int32} {n53 : Nat} {f54 : Nat → Int32} {h2 : qH}  (e2 : h.2.2 r0 = some (.inr (2, fs1))) (e4 : fs1[4]? = some (.ref y3)) (e6 : fs1[6]? = some (.ref y5)) (e9 : h.2.2 y5 = some (.inl (0, n7, .inl f8))) (e10 : 0 ≤ (x1 : Int32).toInt ∧ (x1 : Int32).toInt < (n7 : Nat)) (e13 : h.2.2 y3 = some (.inl (0, n11, .inl f12))) (e14 : 0 ≤ ((f8 (x1 : Int32).toNatClampNeg) : Int32).toInt ∧ ((f8 (x1 : Int32).toNatClampNeg) : Int32).toInt < (n11 : Nat)) (e17 : fs1[7]? = some (.ref y16)) (e20 : h.2.2 y16 = some (.inl (0, n18, .inl f19))) (e21 : 0 ≤ (x1 : Int32).toInt ∧ (x1 : Int32).toInt < (n18 : Nat)) (e22 : 0 ≤ ((f19 (x1 : Int32).toNatClampNeg) : Int32).toInt ∧ ((f19 (x1 : Int32).toNatClampNeg) : Int32).toInt < (n11 : Nat)) (e24 : fs1[8]? = some (.ref y23)) (e27 : h.2.2 y23 = some (.inl (6, n25, .inr (.inr (.inr (.inr f26)))))) (e28 : 0 ≤ ((f12 ((f8 (x1 : Int32).toNatClampNeg) : Int32).toNatClampNeg) : Int32).toInt ∧ ((f12 ((f8 (x1 : Int32).toNatClampNeg) : Int32).toNatClampNeg) : Int32).toInt < (n25 : Nat)) (e30 : (f26 ((f12 ((f8 (x1 : Int32).toNatClampNeg) : Int32).toNatClampNeg) : Int32).toNatClampNeg) = some r29) (e32 : 0 ≤ ((f12 ((f8 (x1 : Int32).toNatClampNeg) : Int32).toNatClampNeg) : Int32).toInt ∧ ((f12 ((f8 (x1 : Int32).toNatClampNeg) : Int32).toNatClampNeg) : Int32).toInt < (n25 : Nat)) (e34 : (f26 ((f12 ((f8 (x1 : Int32).toNatClampNeg) : Int32).toNatClampNeg) : Int32).toNatClampNeg) = some r33) (e37 : h.2.2 r33 = some (.inl (0, n35, .inl f36))) (e38 : 0 ≤ ((f12 ((f19 (x1 : Int32).toNatClampNeg) : Int32).toNatClampNeg) : Int32).toInt ∧ ((f12 ((f19 (x1 : Int32).toNatClampNeg) : Int32).toNatClampNeg) : Int32).toInt < (n35 : Nat)) (e40 : fs1[5]? = some (.ref y39)) (e42 : 0 ≤ (x1 : Int32).toInt ∧ (x1 : Int32).toInt < (n18 : Nat)) (e45 : h.2.2 y39 = some (.inl (0, n43, .inl f44))) (e46 : 0 ≤ ((f19 (x1 : Int32).toNatClampNeg) : Int32).toInt ∧ ((f19 (x1 : Int32).toNatClampNeg) : Int32).toInt < (n43 : Nat)) (e49 : 0 ≤ (x1 : Int32).toInt ∧ (x1 : Int32).toInt < (n7 : Nat)) (e50 : 0 ≤ ((f8 (x1 : Int32).toNatClampNeg) : Int32).toInt ∧ ((f8 (x1 : Int32).toNatClampNeg) : Int32).toInt < (n43 : Nat)) (e52 : qCall d 6 [.int (f36 ((f12 ((f19 (x1 : Int32).toNatClampNeg) : Int32).toNatClampNeg) : Int32).toNatClampNeg), .int ((f44 ((f19 (x1 : Int32).toNatClampNeg) : Int32).toNatClampNeg) - (f44 ((f8 (x1 : Int32).toNatClampNeg) : Int32).toNatClampNeg))] h ((some (.int z51)), h1)) (e55 : h1.2.2 r29 = some (.inl (0, n53, .inl f54))) (e56 : 0 ≤ ((f12 ((f19 (x1 : Int32).toNatClampNeg) : Int32).toNatClampNeg) : Int32).toInt ∧ ((f12 ((f19 (x1 : Int32).toNatClampNeg) : Int32).toNatClampNeg) : Int32).toInt < (n53 : Nat)) (e57 : qset h1 r29 (.inl (0, n53, .inl (upd f54 (((f12 ((f19 (x1 : Int32).toNatClampNeg) : Int32).toNatClampNeg) : Int32).toNatClampNeg) z51))) = h2) (kk : qE d 200 77 [some (.ref r0), some (.int (x1 + 1)), some (.int (f12 ((f8 (x1 : Int32).toNatClampNeg) : Int32).toNatClampNeg)), some (.int (f12 ((f19 (x1 : Int32).toNatClampNeg) : Int32).toNatClampNeg))] [] h2 q): qE d 200 85 [some (.ref r0), some (.int x1), o2, o3] [] h q := by
  refine qe_aload_n c200_85 rfl ?_
  refine qe_getfield c200_86 qo200 qF2_18 e2 e4 ?_
  refine qe_aload_n c200_89 rfl ?_
  refine qe_getfield c200_90 qo200 qF2_24 e2 e6 ?_
  refine qe_iload_n c200_93 rfl ?_
  refine qe_iaload c200_94 e9 e10 ?_
  refine qe_iaload c200_95 e13 e14 ?_
  refine qe_istore_n (ls2 := [some (.ref r0), some (.int x1), some (.int (f12 ((f8 (x1 : Int32).toNatClampNeg) : Int32).toNatClampNeg)), o3]) c200_96 (Nat.le_of_ble_eq_true rfl) rfl ?_
  refine qe_aload_n c200_97 rfl ?_
  refine qe_getfield c200_98 qo200 qF2_18 e2 e4 ?_
  refine qe_aload_n c200_101 rfl ?_
  refine qe_getfield c200_102 qo200 qF2_27 e2 e17 ?_
  refine qe_iload_n c200_105 rfl ?_
  refine qe_iaload c200_106 e20 e21 ?_
  refine qe_iaload c200_107 e13 e22 ?_
  refine qe_istore_n (ls2 := [some (.ref r0), some (.int x1), some (.int (f12 ((f8 (x1 : Int32).toNatClampNeg) : Int32).toNatClampNeg)), some (.int (f12 ((f19 (x1 : Int32).toNatClampNeg) : Int32).toNatClampNeg))]) c200_108 (Nat.le_of_ble_eq_true rfl) rfl ?_
  refine qe_aload_n c200_109 rfl ?_
  refine qe_getfield c200_110 qo200 qF2_32 e2 e24 ?_
  refine qe_iload_n c200_113 rfl ?_
  refine qe_aaload c200_114 e27 e28 (Or.inr (Or.inl rfl)) e30 ?_
  refine qe_iload_n c200_115 rfl ?_
  refine qe_aload_n c200_116 rfl ?_
  refine qe_getfield c200_117 qo200 qF2_32 e2 e24 ?_
  refine qe_iload_n c200_120 rfl ?_
  refine qe_aaload c200_121 e27 e32 (Or.inr (Or.inl rfl)) e34 ?_
  refine qe_iload_n c200_122 rfl ?_
  refine qe_iaload c200_123 e37 e38 ?_
  refine qe_aload_n c200_124 rfl ?_
  refine qe_getfield c200_125 qo200 qF2_21 e2 e40 ?_
  refine qe_aload_n c200_128 rfl ?_
  refine qe_getfield c200_129 qo200 qF2_27 e2 e17 ?_
  refine qe_iload_n c200_132 rfl ?_
  refine qe_iaload c200_133 e20 e42 ?_
  refine qe_iaload c200_134 e45 e46 ?_
  refine qe_aload_n c200_135 rfl ?_
  refine qe_getfield c200_136 qo200 qF2_21 e2 e40 ?_
  refine qe_aload_n c200_139 rfl ?_
  refine qe_getfield c200_140 qo200 qF2_24 e2 e6 ?_
  refine qe_iload_n c200_143 rfl ?_
  refine qe_iaload c200_144 e9 e49 ?_
  refine qe_iaload c200_145 e45 e50 ?_
  refine qe_isub c200_146 ?_
  refine qe_static (as := [.int (f36 ((f12 ((f19 (x1 : Int32).toNatClampNeg) : Int32).toNatClampNeg) : Int32).toNatClampNeg), .int ((f44 ((f19 (x1 : Int32).toNatClampNeg) : Int32).toNatClampNeg) - (f44 ((f8 (x1 : Int32).toNatClampNeg) : Int32).toNatClampNeg))]) (r := [.int (f12 ((f19 (x1 : Int32).toNatClampNeg) : Int32).toNatClampNeg), .ref r29]) (v := (some (.int z51))) (h2 := h1) c200_147 qo200 (by decide) qK2_55 rfl rfl rfl (Nat.le_of_ble_eq_true rfl) e52 ?_
  refine qe_iastore c200_150 e55 e56 ?_
  rw [e57]
  refine qe_iinc (y := (x1 + 1)) (ls2 := [some (.ref r0), some (.int (x1 + 1)), some (.int (f12 ((f8 (x1 : Int32).toNatClampNeg) : Int32).toNatClampNeg)), some (.int (f12 ((f19 (x1 : Int32).toNatClampNeg) : Int32).toNatClampNeg))]) c200_151 rfl (Nat.le_of_ble_eq_true rfl) rfl rfl ?_
  refine qe_goto (t := 77) c200_154 rfl ?_
  exact kk
theorem b200_157 {d : Nat} {h : qH} {r0 : Nat} {x1 : Int32} {o2 : Option Value} {o3 : Option Value}   : qE d 200 157 [some (.ref r0), some (.int x1), o2, o3] [] h (none, h) := by
  exact qe_vret c200_157 qr200
theorem b201_0 {d : Nat} {q : Option Value × qH} {h : qH} {r0 : Nat}   (kk : qE d 201 2 [some (.ref r0), some (.int 0), none, none] [] h q): qE d 201 0 [some (.ref r0), none, none, none] [] h q := by
  refine qe_iconst (x := 0) c201_0 (by decide) ?_
  refine qe_istore_n (ls2 := [some (.ref r0), some (.int 0), none, none]) c201_1 (Nat.le_of_ble_eq_true rfl) rfl ?_
  exact kk
theorem b201_2F {d : Nat} {q : Option Value × qH} {h : qH} {r0 : Nat} {x1 : Int32} {o2 : Option Value} {o3 : Option Value}  (e1 : ¬ ((5 : Int32) ≤ x1)) (kk : qE d 201 7 [some (.ref r0), some (.int x1), o2, o3] [] h q): qE d 201 2 [some (.ref r0), some (.int x1), o2, o3] [] h q := by
  refine qe_iload_n c201_2 rfl ?_
  refine qe_iconst (x := 5) c201_3 (by decide) ?_
  refine qe_icmp_ge_F (t := 75) c201_4 rfl e1 ?_
  exact kk
theorem b201_2T {d : Nat} {q : Option Value × qH} {h : qH} {r0 : Nat} {x1 : Int32} {o2 : Option Value} {o3 : Option Value}  (e1 : (5 : Int32) ≤ x1) (kk : qE d 201 75 [some (.ref r0), some (.int x1), o2, o3] [] h q): qE d 201 2 [some (.ref r0), some (.int x1), o2, o3] [] h q := by
  refine qe_iload_n c201_2 rfl ?_
  refine qe_iconst (x := 5) c201_3 (by decide) ?_
  refine qe_icmp_ge_T (t := 75) c201_4 rfl e1 ?_
  exact kk
theorem b201_7 {d : Nat} {q : Option Value × qH} {h : qH} {r0 : Nat} {x1 : Int32} {o2 : Option Value} {o3 : Option Value}   (kk : qE d 201 9 [some (.ref r0), some (.int x1), some (.int 0), o3] [] h q): qE d 201 7 [some (.ref r0), some (.int x1), o2, o3] [] h q := by
  refine qe_iconst (x := 0) c201_7 (by decide) ?_
  refine qe_istore_n (ls2 := [some (.ref r0), some (.int x1), some (.int 0), o3]) c201_8 (Nat.le_of_ble_eq_true rfl) rfl ?_
  exact kk
theorem b201_9F {d : Nat} {q : Option Value × qH} {h : qH} {r0 : Nat} {x1 : Int32} {x2 : Int32} {o3 : Option Value}  (e1 : ¬ ((5 : Int32) ≤ x2)) (kk : qE d 201 14 [some (.ref r0), some (.int x1), some (.int x2), o3] [] h q): qE d 201 9 [some (.ref r0), some (.int x1), some (.int x2), o3] [] h q := by
  refine qe_iload_n c201_9 rfl ?_
  refine qe_iconst (x := 5) c201_10 (by decide) ?_
  refine qe_icmp_ge_F (t := 69) c201_11 rfl e1 ?_
  exact kk
theorem b201_9T {d : Nat} {q : Option Value × qH} {h : qH} {r0 : Nat} {x1 : Int32} {x2 : Int32} {o3 : Option Value}  (e1 : (5 : Int32) ≤ x2) (kk : qE d 201 69 [some (.ref r0), some (.int x1), some (.int x2), o3] [] h q): qE d 201 9 [some (.ref r0), some (.int x1), some (.int x2), o3] [] h q := by
  refine qe_iload_n c201_9 rfl ?_
  refine qe_iconst (x := 5) c201_10 (by decide) ?_
  refine qe_icmp_ge_T (t := 69) c201_11 rfl e1 ?_
  exact kk
theorem b201_14 {d : Nat} {q : Option Value × qH} {h : qH} {r0 : Nat} {x1 : Int32} {x2 : Int32} {o3 : Option Value}   (kk : qE d 201 16 [some (.ref r0), some (.int x1), some (.int x2), some (.int 0)] [] h q): qE d 201 14 [some (.ref r0), some (.int x1), some (.int x2), o3] [] h q := by
  refine qe_iconst (x := 0) c201_14 (by decide) ?_
  refine qe_istore_n (ls2 := [some (.ref r0), some (.int x1), some (.int x2), some (.int 0)]) c201_15 (Nat.le_of_ble_eq_true rfl) rfl ?_
  exact kk
theorem b201_16F {d : Nat} {q : Option Value × qH} {h : qH} {r0 : Nat} {x1 : Int32} {x2 : Int32} {x3 : Int32}  (e1 : ¬ ((5 : Int32) ≤ x3)) (kk : qE d 201 21 [some (.ref r0), some (.int x1), some (.int x2), some (.int x3)] [] h q): qE d 201 16 [some (.ref r0), some (.int x1), some (.int x2), some (.int x3)] [] h q := by
  refine qe_iload_n c201_16 rfl ?_
  refine qe_iconst (x := 5) c201_17 (by decide) ?_
  refine qe_icmp_ge_F (t := 63) c201_18 rfl e1 ?_
  exact kk
theorem b201_16T {d : Nat} {q : Option Value × qH} {h : qH} {r0 : Nat} {x1 : Int32} {x2 : Int32} {x3 : Int32}  (e1 : (5 : Int32) ≤ x3) (kk : qE d 201 63 [some (.ref r0), some (.int x1), some (.int x2), some (.int x3)] [] h q): qE d 201 16 [some (.ref r0), some (.int x1), some (.int x2), some (.int x3)] [] h q := by
  refine qe_iload_n c201_16 rfl ?_
  refine qe_iconst (x := 5) c201_17 (by decide) ?_
  refine qe_icmp_ge_T (t := 63) c201_18 rfl e1 ?_
  exact kk
theorem b201_21 {d : Nat} {q : Option Value × qH} {h : qH} {r0 : Nat} {x1 : Int32} {x2 : Int32} {x3 : Int32} {fs1 : List Value} {y3 : Nat} {n5 : Nat} {f6 : Nat → Option Nat} {r9 : Nat} {r13 : Nat} {n15 : Nat} {f16 : Nat → Int32} {r21 : Nat} {n23 : Nat} {f24 : Nat → Int32} {r29 : Nat} {n31 : Nat} {f32 : Nat → Int32} {h1 : qH} {z35 : Int32} {n37 : Nat} {f38 : Nat → Int32} {h2 : qH}  (e2 : h.2.2 r0 = some (.inr (2, fs1))) (e4 : fs1[8]? = some (.ref y3)) (e7 : h.2.2 y3 = some (.inl (6, n5, .inr (.inr (.inr (.inr f6)))))) (e8 : 0 ≤ (x2 : Int32).toInt ∧ (x2 : Int32).toInt < (n5 : Nat)) (e10 : (f6 (x2 : Int32).toNatClampNeg) = some r9) (e12 : 0 ≤ (x2 : Int32).toInt ∧ (x2 : Int32).toInt < (n5 : Nat)) (e14 : (f6 (x2 : Int32).toNatClampNeg) = some r13) (e17 : h.2.2 r13 = some (.inl (0, n15, .inl f16))) (e18 : 0 ≤ (x3 : Int32).toInt ∧ (x3 : Int32).toInt < (n15 : Nat)) (e20 : 0 ≤ (x2 : Int32).toInt ∧ (x2 : Int32).toInt < (n5 : Nat)) (e22 : (f6 (x2 : Int32).toNatClampNeg) = some r21) (e25 : h.2.2 r21 = some (.inl (0, n23, .inl f24))) (e26 : 0 ≤ (x1 : Int32).toInt ∧ (x1 : Int32).toInt < (n23 : Nat)) (e28 : 0 ≤ (x1 : Int32).toInt ∧ (x1 : Int32).toInt < (n5 : Nat)) (e30 : (f6 (x1 : Int32).toNatClampNeg) = some r29) (e33 : h.2.2 r29 = some (.inl (0, n31, .inl f32))) (e34 : 0 ≤ (x3 : Int32).toInt ∧ (x3 : Int32).toInt < (n31 : Nat)) (e36 : qCall d 6 [.int (f16 (x3 : Int32).toNatClampNeg), .int ((f24 (x1 : Int32).toNatClampNeg) + (f32 (x3 : Int32).toNatClampNeg))] h ((some (.int z35)), h1)) (e39 : h1.2.2 r9 = some (.inl (0, n37, .inl f38))) (e40 : 0 ≤ (x3 : Int32).toInt ∧ (x3 : Int32).toInt < (n37 : Nat)) (e41 : qset h1 r9 (.inl (0, n37, .inl (upd f38 ((x3 : Int32).toNatClampNeg) z35))) = h2) (kk : qE d 201 16 [some (.ref r0), some (.int x1), some (.int x2), some (.int (x3 + 1))] [] h2 q): qE d 201 21 [some (.ref r0), some (.int x1), some (.int x2), some (.int x3)] [] h q := by
  refine qe_aload_n c201_21 rfl ?_
  refine qe_getfield c201_22 qo201 qF2_32 e2 e4 ?_
  refine qe_iload_n c201_25 rfl ?_
  refine qe_aaload c201_26 e7 e8 (Or.inr (Or.inl rfl)) e10 ?_
  refine qe_iload_n c201_27 rfl ?_
  refine qe_aload_n c201_28 rfl ?_
  refine qe_getfield c201_29 qo201 qF2_32 e2 e4 ?_
  refine qe_iload_n c201_32 rfl ?_
  refine qe_aaload c201_33 e7 e12 (Or.inr (Or.inl rfl)) e14 ?_
  refine qe_iload_n c201_34 rfl ?_
  refine qe_iaload c201_35 e17 e18 ?_
  refine qe_aload_n c201_36 rfl ?_
  refine qe_getfield c201_37 qo201 qF2_32 e2 e4 ?_
  refine qe_iload_n c201_40 rfl ?_
  refine qe_aaload c201_41 e7 e20 (Or.inr (Or.inl rfl)) e22 ?_
  refine qe_iload_n c201_42 rfl ?_
  refine qe_iaload c201_43 e25 e26 ?_
  refine qe_aload_n c201_44 rfl ?_
  refine qe_getfield c201_45 qo201 qF2_32 e2 e4 ?_
  refine qe_iload_n c201_48 rfl ?_
  refine qe_aaload c201_49 e7 e28 (Or.inr (Or.inl rfl)) e30 ?_
  refine qe_iload_n c201_50 rfl ?_
  refine qe_iaload c201_51 e33 e34 ?_
  refine qe_iadd c201_52 ?_
  refine qe_static (as := [.int (f16 (x3 : Int32).toNatClampNeg), .int ((f24 (x1 : Int32).toNatClampNeg) + (f32 (x3 : Int32).toNatClampNeg))]) (r := [.int x3, .ref r9]) (v := (some (.int z35))) (h2 := h1) c201_53 qo201 (by decide) qK2_55 rfl rfl rfl (Nat.le_of_ble_eq_true rfl) e36 ?_
  refine qe_iastore c201_56 e39 e40 ?_
  rw [e41]
  refine qe_iinc (y := (x3 + 1)) (ls2 := [some (.ref r0), some (.int x1), some (.int x2), some (.int (x3 + 1))]) c201_57 rfl (Nat.le_of_ble_eq_true rfl) rfl rfl ?_
  refine qe_goto (t := 16) c201_60 rfl ?_
  exact kk
theorem b201_63 {d : Nat} {q : Option Value × qH} {h : qH} {r0 : Nat} {x1 : Int32} {x2 : Int32} {x3 : Int32}   (kk : qE d 201 9 [some (.ref r0), some (.int x1), some (.int (x2 + 1)), some (.int x3)] [] h q): qE d 201 63 [some (.ref r0), some (.int x1), some (.int x2), some (.int x3)] [] h q := by
  refine qe_iinc (y := (x2 + 1)) (ls2 := [some (.ref r0), some (.int x1), some (.int (x2 + 1)), some (.int x3)]) c201_63 rfl (Nat.le_of_ble_eq_true rfl) rfl rfl ?_
  refine qe_goto (t := 9) c201_66 rfl ?_
  exact kk
theorem b201_69 {d : Nat} {q : Option Value × qH} {h : qH} {r0 : Nat} {x1 : Int32} {x2 : Int32} {o3 : Option Value}   (kk : qE d 201 2 [some (.ref r0), some (.int (x1 + 1)), some (.int x2), o3] [] h q): qE d 201 69 [some (.ref r0), some (.int x1), some (.int x2), o3] [] h q := by
  refine qe_iinc (y := (x1 + 1)) (ls2 := [some (.ref r0), some (.int (x1 + 1)), some (.int x2), o3]) c201_69 rfl (Nat.le_of_ble_eq_true rfl) rfl rfl ?_
  refine qe_goto (t := 2) c201_72 rfl ?_
  exact kk
theorem b201_75 {d : Nat} {h : qH} {r0 : Nat} {x1 : Int32} {o2 : Option Value} {o3 : Option Value}   : qE d 201 75 [some (.ref r0), some (.int x1), o2, o3] [] h (none, h) := by
  exact qe_vret c201_75 qr201
theorem b202_0 {d : Nat} {q : Option Value × qH} {h : qH} {r0 : Nat} {x1 : Int32} {x2 : Int32} {fs1 : List Value} {h1 : qH} {fs4 : List Value} {h2 : qH}  (e2 : h.2.2 r0 = some (.inr (2, fs1))) (e3 : qCall d 200 [.ref r0] h (none, h1)) (e5 : h1.2.2 r0 = some (.inr (2, fs4))) (e6 : qCall d 201 [.ref r0] h1 (none, h2)) (kk : qE d 202 10 [some (.ref r0), some (.int x1), some (.int x2), some (.int 0), none, none] [] h2 q): qE d 202 0 [some (.ref r0), some (.int x1), some (.int x2), none, none, none] [] h q := by
  refine qe_aload_n c202_0 rfl ?_
  refine qe_virtual (b := r0) (as := []) (r := []) (v := none) (h2 := h1) c202_1 qo202 qK2_42 rfl rfl rfl (by rw [qo200]; exact e2) (Nat.le_of_ble_eq_true rfl) e3 ?_
  refine qe_aload_n c202_4 rfl ?_
  refine qe_virtual (b := r0) (as := []) (r := []) (v := none) (h2 := h2) c202_5 qo202 qK2_45 rfl rfl rfl (by rw [qo201]; exact e5) (Nat.le_of_ble_eq_true rfl) e6 ?_
  refine qe_iconst (x := 0) c202_8 (by decide) ?_
  refine qe_istore_n (ls2 := [some (.ref r0), some (.int x1), some (.int x2), some (.int 0), none, none]) c202_9 (Nat.le_of_ble_eq_true rfl) rfl ?_
  exact kk
theorem b202_10F {d : Nat} {q : Option Value × qH} {h : qH} {r0 : Nat} {x1 : Int32} {x2 : Int32} {x3 : Int32}  (e1 : ¬ ((5 : Int32) ≤ x3)) (kk : qE d 202 15 [some (.ref r0), some (.int x1), some (.int x2), some (.int x3), none, none] [] h q): qE d 202 10 [some (.ref r0), some (.int x1), some (.int x2), some (.int x3), none, none] [] h q := by
  refine qe_iload_n c202_10 rfl ?_
  refine qe_iconst (x := 5) c202_11 (by decide) ?_
  refine qe_icmp_ge_F (t := 34) c202_12 rfl e1 ?_
  exact kk
theorem b202_10T {d : Nat} {q : Option Value × qH} {h : qH} {r0 : Nat} {x1 : Int32} {x2 : Int32} {x3 : Int32}  (e1 : (5 : Int32) ≤ x3) (kk : qE d 202 34 [some (.ref r0), some (.int x1), some (.int x2), some (.int x3), none, none] [] h q): qE d 202 10 [some (.ref r0), some (.int x1), some (.int x2), some (.int x3), none, none] [] h q := by
  refine qe_iload_n c202_10 rfl ?_
  refine qe_iconst (x := 5) c202_11 (by decide) ?_
  refine qe_icmp_ge_T (t := 34) c202_12 rfl e1 ?_
  exact kk
theorem b202_15F {d : Nat} {q : Option Value × qH} {h : qH} {r0 : Nat} {x1 : Int32} {x2 : Int32} {x3 : Int32} {fs1 : List Value} {y3 : Nat} {n5 : Nat} {f6 : Nat → Option Nat} {r9 : Nat} {n11 : Nat} {f12 : Nat → Int32}  (e2 : h.2.2 r0 = some (.inr (2, fs1))) (e4 : fs1[8]? = some (.ref y3)) (e7 : h.2.2 y3 = some (.inl (6, n5, .inr (.inr (.inr (.inr f6)))))) (e8 : 0 ≤ (x3 : Int32).toInt ∧ (x3 : Int32).toInt < (n5 : Nat)) (e10 : (f6 (x3 : Int32).toNatClampNeg) = some r9) (e13 : h.2.2 r9 = some (.inl (0, n11, .inl f12))) (e14 : 0 ≤ (x3 : Int32).toInt ∧ (x3 : Int32).toInt < (n11 : Nat)) (e15 : ¬ ((0 : Int32) ≤ (f12 (x3 : Int32).toNatClampNeg))) (kk : qE d 202 26 [some (.ref r0), some (.int x1), some (.int x2), some (.int x3), none, none] [] h q): qE d 202 15 [some (.ref r0), some (.int x1), some (.int x2), some (.int x3), none, none] [] h q := by
  refine qe_aload_n c202_15 rfl ?_
  refine qe_getfield c202_16 qo202 qF2_32 e2 e4 ?_
  refine qe_iload_n c202_19 rfl ?_
  refine qe_aaload c202_20 e7 e8 (Or.inr (Or.inl rfl)) e10 ?_
  refine qe_iload_n c202_21 rfl ?_
  refine qe_iaload c202_22 e13 e14 ?_
  refine qe_if_ge_F (t := 28) c202_23 rfl e15 ?_
  exact kk
theorem b202_15T {d : Nat} {q : Option Value × qH} {h : qH} {r0 : Nat} {x1 : Int32} {x2 : Int32} {x3 : Int32} {fs1 : List Value} {y3 : Nat} {n5 : Nat} {f6 : Nat → Option Nat} {r9 : Nat} {n11 : Nat} {f12 : Nat → Int32}  (e2 : h.2.2 r0 = some (.inr (2, fs1))) (e4 : fs1[8]? = some (.ref y3)) (e7 : h.2.2 y3 = some (.inl (6, n5, .inr (.inr (.inr (.inr f6)))))) (e8 : 0 ≤ (x3 : Int32).toInt ∧ (x3 : Int32).toInt < (n5 : Nat)) (e10 : (f6 (x3 : Int32).toNatClampNeg) = some r9) (e13 : h.2.2 r9 = some (.inl (0, n11, .inl f12))) (e14 : 0 ≤ (x3 : Int32).toInt ∧ (x3 : Int32).toInt < (n11 : Nat)) (e15 : (0 : Int32) ≤ (f12 (x3 : Int32).toNatClampNeg)) (kk : qE d 202 28 [some (.ref r0), some (.int x1), some (.int x2), some (.int x3), none, none] [] h q): qE d 202 15 [some (.ref r0), some (.int x1), some (.int x2), some (.int x3), none, none] [] h q := by
  refine qe_aload_n c202_15 rfl ?_
  refine qe_getfield c202_16 qo202 qF2_32 e2 e4 ?_
  refine qe_iload_n c202_19 rfl ?_
  refine qe_aaload c202_20 e7 e8 (Or.inr (Or.inl rfl)) e10 ?_
  refine qe_iload_n c202_21 rfl ?_
  refine qe_iaload c202_22 e13 e14 ?_
  refine qe_if_ge_T (t := 28) c202_23 rfl e15 ?_
  exact kk
theorem b202_26 {d : Nat} {h : qH} {r0 : Nat} {x1 : Int32} {x2 : Int32} {x3 : Int32}   : qE d 202 26 [some (.ref r0), some (.int x1), some (.int x2), some (.int x3), none, none] [] h (some (.int 4), h) := by
  refine qe_iconst (x := 4) c202_26 (by decide) ?_
  exact qe_iret c202_27 qr202
theorem b202_28 {d : Nat} {q : Option Value × qH} {h : qH} {r0 : Nat} {x1 : Int32} {x2 : Int32} {x3 : Int32}   (kk : qE d 202 10 [some (.ref r0), some (.int x1), some (.int x2), some (.int (x3 + 1)), none, none] [] h q): qE d 202 28 [some (.ref r0), some (.int x1), some (.int x2), some (.int x3), none, none] [] h q := by
  refine qe_iinc (y := (x3 + 1)) (ls2 := [some (.ref r0), some (.int x1), some (.int x2), some (.int (x3 + 1)), none, none]) c202_28 rfl (Nat.le_of_ble_eq_true rfl) rfl rfl ?_
  refine qe_goto (t := 10) c202_31 rfl ?_
  exact kk
theorem b202_34F {d : Nat} {q : Option Value × qH} {h : qH} {r0 : Nat} {x1 : Int32} {x2 : Int32} {x3 : Int32} {fs1 : List Value} {y3 : Nat} {n5 : Nat} {f6 : Nat → Int32} {y11 : Nat} {y13 : Nat} {n15 : Nat} {f16 : Nat → Int32} {n19 : Nat} {f20 : Nat → Option Nat} {r23 : Nat} {n27 : Nat} {f28 : Nat → Int32} {r35 : Nat} {n39 : Nat} {f40 : Nat → Int32}  (e2 : h.2.2 r0 = some (.inr (2, fs1))) (e4 : fs1[5]? = some (.ref y3)) (e7 : h.2.2 y3 = some (.inl (0, n5, .inl f6))) (e8 : 0 ≤ (x2 : Int32).toInt ∧ (x2 : Int32).toInt < (n5 : Nat)) (e10 : 0 ≤ (x1 : Int32).toInt ∧ (x1 : Int32).toInt < (n5 : Nat)) (e12 : fs1[8]? = some (.ref y11)) (e14 : fs1[4]? = some (.ref y13)) (e17 : h.2.2 y13 = some (.inl (0, n15, .inl f16))) (e18 : 0 ≤ (x1 : Int32).toInt ∧ (x1 : Int32).toInt < (n15 : Nat)) (e21 : h.2.2 y11 = some (.inl (6, n19, .inr (.inr (.inr (.inr f20)))))) (e22 : 0 ≤ ((f16 (x1 : Int32).toNatClampNeg) : Int32).toInt ∧ ((f16 (x1 : Int32).toNatClampNeg) : Int32).toInt < (n19 : Nat)) (e24 : (f20 ((f16 (x1 : Int32).toNatClampNeg) : Int32).toNatClampNeg) = some r23) (e26 : 0 ≤ (x2 : Int32).toInt ∧ (x2 : Int32).toInt < (n15 : Nat)) (e29 : h.2.2 r23 = some (.inl (0, n27, .inl f28))) (e30 : 0 ≤ ((f16 (x2 : Int32).toNatClampNeg) : Int32).toInt ∧ ((f16 (x2 : Int32).toNatClampNeg) : Int32).toInt < (n27 : Nat)) (e33 : 0 ≤ (x2 : Int32).toInt ∧ (x2 : Int32).toInt < (n15 : Nat)) (e34 : 0 ≤ ((f16 (x2 : Int32).toNatClampNeg) : Int32).toInt ∧ ((f16 (x2 : Int32).toNatClampNeg) : Int32).toInt < (n19 : Nat)) (e36 : (f20 ((f16 (x2 : Int32).toNatClampNeg) : Int32).toNatClampNeg) = some r35) (e38 : 0 ≤ (x1 : Int32).toInt ∧ (x1 : Int32).toInt < (n15 : Nat)) (e41 : h.2.2 r35 = some (.inl (0, n39, .inl f40))) (e42 : 0 ≤ ((f16 (x1 : Int32).toNatClampNeg) : Int32).toInt ∧ ((f16 (x1 : Int32).toNatClampNeg) : Int32).toInt < (n39 : Nat)) (e43 : ¬ ((((f6 (x2 : Int32).toNatClampNeg) - (f6 (x1 : Int32).toNatClampNeg)) : Int32) ≤ (f28 ((f16 (x2 : Int32).toNatClampNeg) : Int32).toNatClampNeg))) (kk : qE d 202 95 [some (.ref r0), some (.int x1), some (.int x2), some (.int ((f6 (x2 : Int32).toNatClampNeg) - (f6 (x1 : Int32).toNatClampNeg))), some (.int (f28 ((f16 (x2 : Int32).toNatClampNeg) : Int32).toNatClampNeg)), some (.int (-(f40 ((f16 (x1 : Int32).toNatClampNeg) : Int32).toNatClampNeg)))] [] h q): qE d 202 34 [some (.ref r0), some (.int x1), some (.int x2), some (.int x3), none, none] [] h q := by
  refine qe_aload_n c202_34 rfl ?_
  refine qe_getfield c202_35 qo202 qF2_21 e2 e4 ?_
  refine qe_iload_n c202_38 rfl ?_
  refine qe_iaload c202_39 e7 e8 ?_
  refine qe_aload_n c202_40 rfl ?_
  refine qe_getfield c202_41 qo202 qF2_21 e2 e4 ?_
  refine qe_iload_n c202_44 rfl ?_
  refine qe_iaload c202_45 e7 e10 ?_
  refine qe_isub c202_46 ?_
  refine qe_istore_n (ls2 := [some (.ref r0), some (.int x1), some (.int x2), some (.int ((f6 (x2 : Int32).toNatClampNeg) - (f6 (x1 : Int32).toNatClampNeg))), none, none]) c202_47 (Nat.le_of_ble_eq_true rfl) rfl ?_
  refine qe_aload_n c202_48 rfl ?_
  refine qe_getfield c202_49 qo202 qF2_32 e2 e12 ?_
  refine qe_aload_n c202_52 rfl ?_
  refine qe_getfield c202_53 qo202 qF2_18 e2 e14 ?_
  refine qe_iload_n c202_56 rfl ?_
  refine qe_iaload c202_57 e17 e18 ?_
  refine qe_aaload c202_58 e21 e22 (Or.inr (Or.inl rfl)) e24 ?_
  refine qe_aload_n c202_59 rfl ?_
  refine qe_getfield c202_60 qo202 qF2_18 e2 e14 ?_
  refine qe_iload_n c202_63 rfl ?_
  refine qe_iaload c202_64 e17 e26 ?_
  refine qe_iaload c202_65 e29 e30 ?_
  refine qe_istore (ls2 := [some (.ref r0), some (.int x1), some (.int x2), some (.int ((f6 (x2 : Int32).toNatClampNeg) - (f6 (x1 : Int32).toNatClampNeg))), some (.int (f28 ((f16 (x2 : Int32).toNatClampNeg) : Int32).toNatClampNeg)), none]) c202_66 (Nat.le_of_ble_eq_true rfl) rfl ?_
  refine qe_aload_n c202_68 rfl ?_
  refine qe_getfield c202_69 qo202 qF2_32 e2 e12 ?_
  refine qe_aload_n c202_72 rfl ?_
  refine qe_getfield c202_73 qo202 qF2_18 e2 e14 ?_
  refine qe_iload_n c202_76 rfl ?_
  refine qe_iaload c202_77 e17 e33 ?_
  refine qe_aaload c202_78 e21 e34 (Or.inr (Or.inl rfl)) e36 ?_
  refine qe_aload_n c202_79 rfl ?_
  refine qe_getfield c202_80 qo202 qF2_18 e2 e14 ?_
  refine qe_iload_n c202_83 rfl ?_
  refine qe_iaload c202_84 e17 e38 ?_
  refine qe_iaload c202_85 e41 e42 ?_
  refine qe_ineg c202_86 ?_
  refine qe_istore (ls2 := [some (.ref r0), some (.int x1), some (.int x2), some (.int ((f6 (x2 : Int32).toNatClampNeg) - (f6 (x1 : Int32).toNatClampNeg))), some (.int (f28 ((f16 (x2 : Int32).toNatClampNeg) : Int32).toNatClampNeg)), some (.int (-(f40 ((f16 (x1 : Int32).toNatClampNeg) : Int32).toNatClampNeg)))]) c202_87 (Nat.le_of_ble_eq_true rfl) rfl ?_
  refine qe_iload c202_89 rfl ?_
  refine qe_iload_n c202_91 rfl ?_
  refine qe_icmp_ge_F (t := 97) c202_92 rfl e43 ?_
  exact kk
theorem b202_34T {d : Nat} {q : Option Value × qH} {h : qH} {r0 : Nat} {x1 : Int32} {x2 : Int32} {x3 : Int32} {fs1 : List Value} {y3 : Nat} {n5 : Nat} {f6 : Nat → Int32} {y11 : Nat} {y13 : Nat} {n15 : Nat} {f16 : Nat → Int32} {n19 : Nat} {f20 : Nat → Option Nat} {r23 : Nat} {n27 : Nat} {f28 : Nat → Int32} {r35 : Nat} {n39 : Nat} {f40 : Nat → Int32}  (e2 : h.2.2 r0 = some (.inr (2, fs1))) (e4 : fs1[5]? = some (.ref y3)) (e7 : h.2.2 y3 = some (.inl (0, n5, .inl f6))) (e8 : 0 ≤ (x2 : Int32).toInt ∧ (x2 : Int32).toInt < (n5 : Nat)) (e10 : 0 ≤ (x1 : Int32).toInt ∧ (x1 : Int32).toInt < (n5 : Nat)) (e12 : fs1[8]? = some (.ref y11)) (e14 : fs1[4]? = some (.ref y13)) (e17 : h.2.2 y13 = some (.inl (0, n15, .inl f16))) (e18 : 0 ≤ (x1 : Int32).toInt ∧ (x1 : Int32).toInt < (n15 : Nat)) (e21 : h.2.2 y11 = some (.inl (6, n19, .inr (.inr (.inr (.inr f20)))))) (e22 : 0 ≤ ((f16 (x1 : Int32).toNatClampNeg) : Int32).toInt ∧ ((f16 (x1 : Int32).toNatClampNeg) : Int32).toInt < (n19 : Nat)) (e24 : (f20 ((f16 (x1 : Int32).toNatClampNeg) : Int32).toNatClampNeg) = some r23) (e26 : 0 ≤ (x2 : Int32).toInt ∧ (x2 : Int32).toInt < (n15 : Nat)) (e29 : h.2.2 r23 = some (.inl (0, n27, .inl f28))) (e30 : 0 ≤ ((f16 (x2 : Int32).toNatClampNeg) : Int32).toInt ∧ ((f16 (x2 : Int32).toNatClampNeg) : Int32).toInt < (n27 : Nat)) (e33 : 0 ≤ (x2 : Int32).toInt ∧ (x2 : Int32).toInt < (n15 : Nat)) (e34 : 0 ≤ ((f16 (x2 : Int32).toNatClampNeg) : Int32).toInt ∧ ((f16 (x2 : Int32).toNatClampNeg) : Int32).toInt < (n19 : Nat)) (e36 : (f20 ((f16 (x2 : Int32).toNatClampNeg) : Int32).toNatClampNeg) = some r35) (e38 : 0 ≤ (x1 : Int32).toInt ∧ (x1 : Int32).toInt < (n15 : Nat)) (e41 : h.2.2 r35 = some (.inl (0, n39, .inl f40))) (e42 : 0 ≤ ((f16 (x1 : Int32).toNatClampNeg) : Int32).toInt ∧ ((f16 (x1 : Int32).toNatClampNeg) : Int32).toInt < (n39 : Nat)) (e43 : (((f6 (x2 : Int32).toNatClampNeg) - (f6 (x1 : Int32).toNatClampNeg)) : Int32) ≤ (f28 ((f16 (x2 : Int32).toNatClampNeg) : Int32).toNatClampNeg)) (kk : qE d 202 97 [some (.ref r0), some (.int x1), some (.int x2), some (.int ((f6 (x2 : Int32).toNatClampNeg) - (f6 (x1 : Int32).toNatClampNeg))), some (.int (f28 ((f16 (x2 : Int32).toNatClampNeg) : Int32).toNatClampNeg)), some (.int (-(f40 ((f16 (x1 : Int32).toNatClampNeg) : Int32).toNatClampNeg)))] [] h q): qE d 202 34 [some (.ref r0), some (.int x1), some (.int x2), some (.int x3), none, none] [] h q := by
  refine qe_aload_n c202_34 rfl ?_
  refine qe_getfield c202_35 qo202 qF2_21 e2 e4 ?_
  refine qe_iload_n c202_38 rfl ?_
  refine qe_iaload c202_39 e7 e8 ?_
  refine qe_aload_n c202_40 rfl ?_
  refine qe_getfield c202_41 qo202 qF2_21 e2 e4 ?_
  refine qe_iload_n c202_44 rfl ?_
  refine qe_iaload c202_45 e7 e10 ?_
  refine qe_isub c202_46 ?_
  refine qe_istore_n (ls2 := [some (.ref r0), some (.int x1), some (.int x2), some (.int ((f6 (x2 : Int32).toNatClampNeg) - (f6 (x1 : Int32).toNatClampNeg))), none, none]) c202_47 (Nat.le_of_ble_eq_true rfl) rfl ?_
  refine qe_aload_n c202_48 rfl ?_
  refine qe_getfield c202_49 qo202 qF2_32 e2 e12 ?_
  refine qe_aload_n c202_52 rfl ?_
  refine qe_getfield c202_53 qo202 qF2_18 e2 e14 ?_
  refine qe_iload_n c202_56 rfl ?_
  refine qe_iaload c202_57 e17 e18 ?_
  refine qe_aaload c202_58 e21 e22 (Or.inr (Or.inl rfl)) e24 ?_
  refine qe_aload_n c202_59 rfl ?_
  refine qe_getfield c202_60 qo202 qF2_18 e2 e14 ?_
  refine qe_iload_n c202_63 rfl ?_
  refine qe_iaload c202_64 e17 e26 ?_
  refine qe_iaload c202_65 e29 e30 ?_
  refine qe_istore (ls2 := [some (.ref r0), some (.int x1), some (.int x2), some (.int ((f6 (x2 : Int32).toNatClampNeg) - (f6 (x1 : Int32).toNatClampNeg))), some (.int (f28 ((f16 (x2 : Int32).toNatClampNeg) : Int32).toNatClampNeg)), none]) c202_66 (Nat.le_of_ble_eq_true rfl) rfl ?_
  refine qe_aload_n c202_68 rfl ?_
  refine qe_getfield c202_69 qo202 qF2_32 e2 e12 ?_
  refine qe_aload_n c202_72 rfl ?_
  refine qe_getfield c202_73 qo202 qF2_18 e2 e14 ?_
  refine qe_iload_n c202_76 rfl ?_
  refine qe_iaload c202_77 e17 e33 ?_
  refine qe_aaload c202_78 e21 e34 (Or.inr (Or.inl rfl)) e36 ?_
  refine qe_aload_n c202_79 rfl ?_
  refine qe_getfield c202_80 qo202 qF2_18 e2 e14 ?_
  refine qe_iload_n c202_83 rfl ?_
  refine qe_iaload c202_84 e17 e38 ?_
  refine qe_iaload c202_85 e41 e42 ?_
  refine qe_ineg c202_86 ?_
  refine qe_istore (ls2 := [some (.ref r0), some (.int x1), some (.int x2), some (.int ((f6 (x2 : Int32).toNatClampNeg) - (f6 (x1 : Int32).toNatClampNeg))), some (.int (f28 ((f16 (x2 : Int32).toNatClampNeg) : Int32).toNatClampNeg)), some (.int (-(f40 ((f16 (x1 : Int32).toNatClampNeg) : Int32).toNatClampNeg)))]) c202_87 (Nat.le_of_ble_eq_true rfl) rfl ?_
  refine qe_iload c202_89 rfl ?_
  refine qe_iload_n c202_91 rfl ?_
  refine qe_icmp_ge_T (t := 97) c202_92 rfl e43 ?_
  exact kk
theorem b202_95 {d : Nat} {h : qH} {r0 : Nat} {x1 : Int32} {x2 : Int32} {x3 : Int32} {x4 : Int32} {x5 : Int32}   : qE d 202 95 [some (.ref r0), some (.int x1), some (.int x2), some (.int x3), some (.int x4), some (.int x5)] [] h (some (.int 0), h) := by
  refine qe_iconst (x := 0) c202_95 (by decide) ?_
  exact qe_iret c202_96 qr202
theorem b202_97F {d : Nat} {q : Option Value × qH} {h : qH} {r0 : Nat} {x1 : Int32} {x2 : Int32} {x3 : Int32} {x4 : Int32} {x5 : Int32}  (e1 : ¬ ((x5 : Int32) ≤ x3)) (kk : qE d 202 103 [some (.ref r0), some (.int x1), some (.int x2), some (.int x3), some (.int x4), some (.int x5)] [] h q): qE d 202 97 [some (.ref r0), some (.int x1), some (.int x2), some (.int x3), some (.int x4), some (.int x5)] [] h q := by
  refine qe_iload c202_97 rfl ?_
  refine qe_iload_n c202_99 rfl ?_
  refine qe_icmp_le_F (t := 105) c202_100 rfl e1 ?_
  exact kk
theorem b202_97T {d : Nat} {q : Option Value × qH} {h : qH} {r0 : Nat} {x1 : Int32} {x2 : Int32} {x3 : Int32} {x4 : Int32} {x5 : Int32}  (e1 : (x5 : Int32) ≤ x3) (kk : qE d 202 105 [some (.ref r0), some (.int x1), some (.int x2), some (.int x3), some (.int x4), some (.int x5)] [] h q): qE d 202 97 [some (.ref r0), some (.int x1), some (.int x2), some (.int x3), some (.int x4), some (.int x5)] [] h q := by
  refine qe_iload c202_97 rfl ?_
  refine qe_iload_n c202_99 rfl ?_
  refine qe_icmp_le_T (t := 105) c202_100 rfl e1 ?_
  exact kk
theorem b202_103 {d : Nat} {h : qH} {r0 : Nat} {x1 : Int32} {x2 : Int32} {x3 : Int32} {x4 : Int32} {x5 : Int32}   : qE d 202 103 [some (.ref r0), some (.int x1), some (.int x2), some (.int x3), some (.int x4), some (.int x5)] [] h (some (.int 1), h) := by
  refine qe_iconst (x := 1) c202_103 (by decide) ?_
  exact qe_iret c202_104 qr202
theorem b202_105F {d : Nat} {q : Option Value × qH} {h : qH} {r0 : Nat} {x1 : Int32} {x2 : Int32} {x3 : Int32} {x4 : Int32} {x5 : Int32}  (e1 : (x4 : Int32) = x3) (kk : qE d 202 111 [some (.ref r0), some (.int x1), some (.int x2), some (.int x3), some (.int x4), some (.int x5)] [] h q): qE d 202 105 [some (.ref r0), some (.int x1), some (.int x2), some (.int x3), some (.int x4), some (.int x5)] [] h q := by
  refine qe_iload c202_105 rfl ?_
  refine qe_iload_n c202_107 rfl ?_
  refine qe_icmp_ne_F (t := 121) c202_108 rfl e1 ?_
  exact kk
theorem b202_105T {d : Nat} {q : Option Value × qH} {h : qH} {r0 : Nat} {x1 : Int32} {x2 : Int32} {x3 : Int32} {x4 : Int32} {x5 : Int32}  (e1 : ¬ ((x4 : Int32) = x3)) (kk : qE d 202 121 [some (.ref r0), some (.int x1), some (.int x2), some (.int x3), some (.int x4), some (.int x5)] [] h q): qE d 202 105 [some (.ref r0), some (.int x1), some (.int x2), some (.int x3), some (.int x4), some (.int x5)] [] h q := by
  refine qe_iload c202_105 rfl ?_
  refine qe_iload_n c202_107 rfl ?_
  refine qe_icmp_ne_T (t := 121) c202_108 rfl e1 ?_
  exact kk
theorem b202_111F {d : Nat} {q : Option Value × qH} {h : qH} {r0 : Nat} {x1 : Int32} {x2 : Int32} {x3 : Int32} {x4 : Int32} {x5 : Int32}  (e1 : (x5 : Int32) = x3) (kk : qE d 202 117 [some (.ref r0), some (.int x1), some (.int x2), some (.int x3), some (.int x4), some (.int x5)] [] h q): qE d 202 111 [some (.ref r0), some (.int x1), some (.int x2), some (.int x3), some (.int x4), some (.int x5)] [] h q := by
  refine qe_iload c202_111 rfl ?_
  refine qe_iload_n c202_113 rfl ?_
  refine qe_icmp_ne_F (t := 121) c202_114 rfl e1 ?_
  exact kk
theorem b202_111T {d : Nat} {q : Option Value × qH} {h : qH} {r0 : Nat} {x1 : Int32} {x2 : Int32} {x3 : Int32} {x4 : Int32} {x5 : Int32}  (e1 : ¬ ((x5 : Int32) = x3)) (kk : qE d 202 121 [some (.ref r0), some (.int x1), some (.int x2), some (.int x3), some (.int x4), some (.int x5)] [] h q): qE d 202 111 [some (.ref r0), some (.int x1), some (.int x2), some (.int x3), some (.int x4), some (.int x5)] [] h q := by
  refine qe_iload c202_111 rfl ?_
  refine qe_iload_n c202_113 rfl ?_
  refine qe_icmp_ne_T (t := 121) c202_114 rfl e1 ?_
  exact kk
theorem b202_117 {d : Nat} {q : Option Value × qH} {h : qH} {r0 : Nat} {x1 : Int32} {x2 : Int32} {x3 : Int32} {x4 : Int32} {x5 : Int32}   (kk : qE d 202 122 [some (.ref r0), some (.int x1), some (.int x2), some (.int x3), some (.int x4), some (.int x5)] [.int 2] h q): qE d 202 117 [some (.ref r0), some (.int x1), some (.int x2), some (.int x3), some (.int x4), some (.int x5)] [] h q := by
  refine qe_iconst (x := 2) c202_117 (by decide) ?_
  refine qe_goto (t := 122) c202_118 rfl ?_
  exact kk
theorem b202_121 {d : Nat} {q : Option Value × qH} {h : qH} {r0 : Nat} {x1 : Int32} {x2 : Int32} {x3 : Int32} {x4 : Int32} {x5 : Int32}   (kk : qE d 202 122 [some (.ref r0), some (.int x1), some (.int x2), some (.int x3), some (.int x4), some (.int x5)] [.int 3] h q): qE d 202 121 [some (.ref r0), some (.int x1), some (.int x2), some (.int x3), some (.int x4), some (.int x5)] [] h q := by
  refine qe_iconst (x := 3) c202_121 (by decide) ?_
  exact kk
theorem b202_122 {d : Nat} {h : qH} {r0 : Nat} {x1 : Int32} {x2 : Int32} {x3 : Int32} {x4 : Int32} {x5 : Int32} {xs0 : Int32}   : qE d 202 122 [some (.ref r0), some (.int x1), some (.int x2), some (.int x3), some (.int x4), some (.int x5)] [.int xs0] h (some (.int xs0), h) := by
  exact qe_iret c202_122 qr202
theorem b203_0F {d : Nat} {q : Option Value × qH} {h : qH} {r0 : Nat} {x1 : Int32}  (e1 : ¬ ((x1 : Int32) < 0)) (kk : qE d 203 4 [some (.ref r0), some (.int x1)] [] h q): qE d 203 0 [some (.ref r0), some (.int x1)] [] h q := by
  refine qe_iload_n c203_0 rfl ?_
  refine qe_if_lt_F (t := 16) c203_1 rfl e1 ?_
  exact kk
theorem b203_0T {d : Nat} {q : Option Value × qH} {h : qH} {r0 : Nat} {x1 : Int32}  (e1 : (x1 : Int32) < 0) (kk : qE d 203 16 [some (.ref r0), some (.int x1)] [] h q): qE d 203 0 [some (.ref r0), some (.int x1)] [] h q := by
  refine qe_iload_n c203_0 rfl ?_
  refine qe_if_lt_T (t := 16) c203_1 rfl e1 ?_
  exact kk
theorem b203_4F {d : Nat} {q : Option Value × qH} {h : qH} {r0 : Nat} {x1 : Int32} {fs1 : List Value} {y3 : Int32}  (e2 : h.2.2 r0 = some (.inr (2, fs1))) (e4 : fs1[0]? = some (.int y3)) (e5 : ¬ ((y3 : Int32) ≤ x1)) (kk : qE d 203 12 [some (.ref r0), some (.int x1)] [] h q): qE d 203 4 [some (.ref r0), some (.int x1)] [] h q := by
  refine qe_iload_n c203_4 rfl ?_
  refine qe_aload_n c203_5 rfl ?_
  refine qe_getfield c203_6 qo203 qF2_35 e2 e4 ?_
  refine qe_icmp_ge_F (t := 16) c203_9 rfl e5 ?_
  exact kk
theorem b203_4T {d : Nat} {q : Option Value × qH} {h : qH} {r0 : Nat} {x1 : Int32} {fs1 : List Value} {y3 : Int32}  (e2 : h.2.2 r0 = some (.inr (2, fs1))) (e4 : fs1[0]? = some (.int y3)) (e5 : (y3 : Int32) ≤ x1) (kk : qE d 203 16 [some (.ref r0), some (.int x1)] [] h q): qE d 203 4 [some (.ref r0), some (.int x1)] [] h q := by
  refine qe_iload_n c203_4 rfl ?_
  refine qe_aload_n c203_5 rfl ?_
  refine qe_getfield c203_6 qo203 qF2_35 e2 e4 ?_
  refine qe_icmp_ge_T (t := 16) c203_9 rfl e5 ?_
  exact kk
theorem b203_12 {d : Nat} {q : Option Value × qH} {h : qH} {r0 : Nat} {x1 : Int32}   (kk : qE d 203 17 [some (.ref r0), some (.int x1)] [.int 1] h q): qE d 203 12 [some (.ref r0), some (.int x1)] [] h q := by
  refine qe_iconst (x := 1) c203_12 (by decide) ?_
  refine qe_goto (t := 17) c203_13 rfl ?_
  exact kk
theorem b203_16 {d : Nat} {q : Option Value × qH} {h : qH} {r0 : Nat} {x1 : Int32}   (kk : qE d 203 17 [some (.ref r0), some (.int x1)] [.int 0] h q): qE d 203 16 [some (.ref r0), some (.int x1)] [] h q := by
  refine qe_iconst (x := 0) c203_16 (by decide) ?_
  exact kk
theorem b203_17 {d : Nat} {h : qH} {r0 : Nat} {x1 : Int32} {xs0 : Int32}  (e1 : (xs0 : Int32) = 0 ∨ (xs0 : Int32) = 1) : qE d 203 17 [some (.ref r0), some (.int x1)] [.int xs0] h (some (.int xs0), h) := by
  exact qe_zret c203_17 qr203 e1
theorem b204_0 {d : Nat} {h : qH} {r0 : Nat} {h1 : qH} {fs2 : List Value} {h2 : qH} {h3 : qH} {fs7 : List Value} {h4 : qH} {h5 : qH} {fs12 : List Value} {h6 : qH} {h7 : qH} {fs17 : List Value} {h8 : qH} {h9 : qH} {fs22 : List Value} {h10 : qH} {h11 : qH} {fs27 : List Value} {h12 : qH} {h13 : qH} {fs32 : List Value} {h14 : qH} (hd0 : 0 < d) (e1 : qnew h 4 (.inl (0, 4, .inl fun _ => 0)) = h1) (e3 : h1.2.2 r0 = some (.inr (2, fs2))) (e4 : 2 < fs2.length) (e5 : qset h1 r0 (.inr (2, fs2.set 2 (.ref h.1))) = h2) (e6 : qnew h2 4 (.inl (0, 4, .inl fun _ => 0)) = h3) (e8 : h3.2.2 r0 = some (.inr (2, fs7))) (e9 : 3 < fs7.length) (e10 : qset h3 r0 (.inr (2, fs7.set 3 (.ref h2.1))) = h4) (e11 : qnew h4 40 (.inl (0, 40, .inl fun _ => 0)) = h5) (e13 : h5.2.2 r0 = some (.inr (2, fs12))) (e14 : 4 < fs12.length) (e15 : qset h5 r0 (.inr (2, fs12.set 4 (.ref h4.1))) = h6) (e16 : qnew h6 40 (.inl (0, 40, .inl fun _ => 0)) = h7) (e18 : h7.2.2 r0 = some (.inr (2, fs17))) (e19 : 5 < fs17.length) (e20 : qset h7 r0 (.inr (2, fs17.set 5 (.ref h6.1))) = h8) (e21 : qnew h8 100 (.inl (0, 100, .inl fun _ => 0)) = h9) (e23 : h9.2.2 r0 = some (.inr (2, fs22))) (e24 : 6 < fs22.length) (e25 : qset h9 r0 (.inr (2, fs22.set 6 (.ref h8.1))) = h10) (e26 : qnew h10 100 (.inl (0, 100, .inl fun _ => 0)) = h11) (e28 : h11.2.2 r0 = some (.inr (2, fs27))) (e29 : 7 < fs27.length) (e30 : qset h11 r0 (.inr (2, fs27.set 7 (.ref h10.1))) = h12) (e31 : qmul h12 6 5 5 = h13) (e33 : h13.2.2 r0 = some (.inr (2, fs32))) (e34 : 8 < fs32.length) (e35 : qset h13 r0 (.inr (2, fs32.set 8 (.ref h12.1))) = h14) : qE d 204 0 [some (.ref r0)] [] h (none, h14) := by
  refine qe_aload_n c204_0 rfl ?_
  refine qe_objinit c204_1 qo204 (by decide +kernel) (by decide) hd0 (Nat.le_of_ble_eq_true rfl) ?_
  refine qe_aload_n c204_4 rfl ?_
  refine qe_iconst (x := 4) c204_5 (by decide) ?_
  refine qe_new_int c204_6 (by decide) ?_
  rw [show Int32.toNatClampNeg 4 = 4 from by decide]
  rw [e1]
  refine qe_putfinal c204_8 qo204 qF2_9 (by decide +kernel) e3 e4 (by rw [qy2_2]; rfl) ?_
  rw [e5]
  refine qe_aload_n c204_11 rfl ?_
  refine qe_iconst (x := 4) c204_12 (by decide) ?_
  refine qe_new_int c204_13 (by decide) ?_
  rw [show Int32.toNatClampNeg 4 = 4 from by decide]
  rw [e6]
  refine qe_putfinal c204_15 qo204 qF2_15 (by decide +kernel) e8 e9 (by rw [qy2_3]; rfl) ?_
  rw [e10]
  refine qe_aload_n c204_18 rfl ?_
  refine qe_bipush (x := 40) c204_19 (by decide) ?_
  refine qe_new_int c204_21 (by decide) ?_
  rw [show Int32.toNatClampNeg 40 = 40 from by decide]
  rw [e11]
  refine qe_putfinal c204_23 qo204 qF2_18 (by decide +kernel) e13 e14 (by rw [qy2_4]; rfl) ?_
  rw [e15]
  refine qe_aload_n c204_26 rfl ?_
  refine qe_bipush (x := 40) c204_27 (by decide) ?_
  refine qe_new_int c204_29 (by decide) ?_
  rw [show Int32.toNatClampNeg 40 = 40 from by decide]
  rw [e16]
  refine qe_putfinal c204_31 qo204 qF2_21 (by decide +kernel) e18 e19 (by rw [qy2_5]; rfl) ?_
  rw [e20]
  refine qe_aload_n c204_34 rfl ?_
  refine qe_bipush (x := 100) c204_35 (by decide) ?_
  refine qe_new_int c204_37 (by decide) ?_
  rw [show Int32.toNatClampNeg 100 = 100 from by decide]
  rw [e21]
  refine qe_putfinal c204_39 qo204 qF2_24 (by decide +kernel) e23 e24 (by rw [qy2_6]; rfl) ?_
  rw [e25]
  refine qe_aload_n c204_42 rfl ?_
  refine qe_bipush (x := 100) c204_43 (by decide) ?_
  refine qe_new_int c204_45 (by decide) ?_
  rw [show Int32.toNatClampNeg 100 = 100 from by decide]
  rw [e26]
  refine qe_putfinal c204_47 qo204 qF2_27 (by decide +kernel) e28 e29 (by rw [qy2_7]; rfl) ?_
  rw [e30]
  refine qe_aload_n c204_50 rfl ?_
  refine qe_iconst (x := 5) c204_51 (by decide) ?_
  refine qe_iconst (x := 5) c204_52 (by decide) ?_
  refine qe_multiI c204_53 qo204 (by decide) ?_
  rw [show Int32.toNatClampNeg 5 = 5 from by decide]
  rw [e31]
  refine qe_putfinal c204_57 qo204 qF2_32 (by decide +kernel) e33 e34 (by rw [qy2_8]; rfl) ?_
  rw [e35]
  exact qe_vret c204_60 qr204
theorem b205_0F {d : Nat} {q : Option Value × qH} {h : qH} {r0 : Nat} {x1 : Int32} {x2 : Int32} {x3 : Int32} {fs1 : List Value} {y3 : Int32}  (e2 : h.2.2 r0 = some (.inr (3, fs1))) (e4 : fs1[0]? = some (.int y3)) (e5 : ¬ ((400 : Int32) ≤ y3)) (kk : qE d 205 10 [some (.ref r0), some (.int x1), some (.int x2), some (.int x3)] [] h q): qE d 205 0 [some (.ref r0), some (.int x1), some (.int x2), some (.int x3)] [] h q := by
  refine qe_aload_n c205_0 rfl ?_
  refine qe_getfield c205_1 qo205 qF3_21 e2 e4 ?_
  refine qe_sipush (x := 400) c205_4 (by decide) ?_
  refine qe_icmp_ge_F (t := 50) c205_7 rfl e5 ?_
  exact kk
theorem b205_0T {d : Nat} {q : Option Value × qH} {h : qH} {r0 : Nat} {x1 : Int32} {x2 : Int32} {x3 : Int32} {fs1 : List Value} {y3 : Int32}  (e2 : h.2.2 r0 = some (.inr (3, fs1))) (e4 : fs1[0]? = some (.int y3)) (e5 : (400 : Int32) ≤ y3) (kk : qE d 205 50 [some (.ref r0), some (.int x1), some (.int x2), some (.int x3)] [] h q): qE d 205 0 [some (.ref r0), some (.int x1), some (.int x2), some (.int x3)] [] h q := by
  refine qe_aload_n c205_0 rfl ?_
  refine qe_getfield c205_1 qo205 qF3_21 e2 e4 ?_
  refine qe_sipush (x := 400) c205_4 (by decide) ?_
  refine qe_icmp_ge_T (t := 50) c205_7 rfl e5 ?_
  exact kk
theorem b205_10 {d : Nat} {q : Option Value × qH} {h : qH} {r0 : Nat} {x1 : Int32} {x2 : Int32} {x3 : Int32} {fs1 : List Value} {y3 : Nat} {y5 : Int32} {n7 : Nat} {f8 : Nat → Int32} {h1 : qH} {fs12 : List Value} {y14 : Nat} {y16 : Int32} {n18 : Nat} {f19 : Nat → Int32} {h2 : qH} {fs23 : List Value} {y25 : Nat} {y27 : Int32} {n29 : Nat} {f30 : Nat → Int32} {h3 : qH} {fs34 : List Value} {y36 : Int32} {h4 : qH}  (e2 : h.2.2 r0 = some (.inr (3, fs1))) (e4 : fs1[1]? = some (.ref y3)) (e6 : fs1[0]? = some (.int y5)) (e9 : h.2.2 y3 = some (.inl (0, n7, .inl f8))) (e10 : 0 ≤ (y5 : Int32).toInt ∧ (y5 : Int32).toInt < (n7 : Nat)) (e11 : qset h y3 (.inl (0, n7, .inl (upd f8 ((y5 : Int32).toNatClampNeg) x1))) = h1) (e13 : h1.2.2 r0 = some (.inr (3, fs12))) (e15 : fs12[2]? = some (.ref y14)) (e17 : fs12[0]? = some (.int y16)) (e20 : h1.2.2 y14 = some (.inl (0, n18, .inl f19))) (e21 : 0 ≤ (y16 : Int32).toInt ∧ (y16 : Int32).toInt < (n18 : Nat)) (e22 : qset h1 y14 (.inl (0, n18, .inl (upd f19 ((y16 : Int32).toNatClampNeg) x2))) = h2) (e24 : h2.2.2 r0 = some (.inr (3, fs23))) (e26 : fs23[3]? = some (.ref y25)) (e28 : fs23[0]? = some (.int y27)) (e31 : h2.2.2 y25 = some (.inl (0, n29, .inl f30))) (e32 : 0 ≤ (y27 : Int32).toInt ∧ (y27 : Int32).toInt < (n29 : Nat)) (e33 : qset h2 y25 (.inl (0, n29, .inl (upd f30 ((y27 : Int32).toNatClampNeg) x3))) = h3) (e35 : h3.2.2 r0 = some (.inr (3, fs34))) (e37 : fs34[0]? = some (.int y36)) (e38 : 0 < fs34.length) (e39 : qset h3 r0 (.inr (3, fs34.set 0 (.int (y36 + 1)))) = h4) (kk : qE d 205 50 [some (.ref r0), some (.int x1), some (.int x2), some (.int x3)] [] h4 q): qE d 205 10 [some (.ref r0), some (.int x1), some (.int x2), some (.int x3)] [] h q := by
  refine qe_aload_n c205_10 rfl ?_
  refine qe_getfield c205_11 qo205 qF3_11 e2 e4 ?_
  refine qe_aload_n c205_14 rfl ?_
  refine qe_getfield c205_15 qo205 qF3_21 e2 e6 ?_
  refine qe_iload_n c205_18 rfl ?_
  refine qe_iastore c205_19 e9 e10 ?_
  rw [e11]
  refine qe_aload_n c205_20 rfl ?_
  refine qe_getfield c205_21 qo205 qF3_15 e13 e15 ?_
  refine qe_aload_n c205_24 rfl ?_
  refine qe_getfield c205_25 qo205 qF3_21 e13 e17 ?_
  refine qe_iload_n c205_28 rfl ?_
  refine qe_iastore c205_29 e20 e21 ?_
  rw [e22]
  refine qe_aload_n c205_30 rfl ?_
  refine qe_getfield c205_31 qo205 qF3_18 e24 e26 ?_
  refine qe_aload_n c205_34 rfl ?_
  refine qe_getfield c205_35 qo205 qF3_21 e24 e28 ?_
  refine qe_iload_n c205_38 rfl ?_
  refine qe_iastore c205_39 e31 e32 ?_
  rw [e33]
  refine qe_aload_n c205_40 rfl ?_
  refine qe_dup c205_41 rfl ?_
  refine qe_getfield c205_42 qo205 qF3_21 e35 e37 ?_
  refine qe_iconst (x := 1) c205_45 (by decide) ?_
  refine qe_iadd c205_46 ?_
  refine qe_putfield c205_47 qo205 qF3_21 qz3_0 e35 e38 (by rw [qy3_0]; rfl) ?_
  rw [e39]
  exact kk
theorem b205_50 {d : Nat} {h : qH} {r0 : Nat} {x1 : Int32} {x2 : Int32} {x3 : Int32}   : qE d 205 50 [some (.ref r0), some (.int x1), some (.int x2), some (.int x3)] [] h (none, h) := by
  exact qe_vret c205_50 qr205
theorem b206_0F {d : Nat} {q : Option Value × qH} {h : qH} {r0 : Nat} {x1 : Int32}  (e1 : ¬ ((x1 : Int32) < 0)) (kk : qE d 206 4 [some (.ref r0), some (.int x1)] [] h q): qE d 206 0 [some (.ref r0), some (.int x1)] [] h q := by
  refine qe_iload_n c206_0 rfl ?_
  refine qe_if_lt_F (t := 16) c206_1 rfl e1 ?_
  exact kk
theorem b206_0T {d : Nat} {q : Option Value × qH} {h : qH} {r0 : Nat} {x1 : Int32}  (e1 : (x1 : Int32) < 0) (kk : qE d 206 16 [some (.ref r0), some (.int x1)] [] h q): qE d 206 0 [some (.ref r0), some (.int x1)] [] h q := by
  refine qe_iload_n c206_0 rfl ?_
  refine qe_if_lt_T (t := 16) c206_1 rfl e1 ?_
  exact kk
theorem b206_4F {d : Nat} {q : Option Value × qH} {h : qH} {r0 : Nat} {x1 : Int32} {fs1 : List Value} {y3 : Int32}  (e2 : h.2.2 r0 = some (.inr (3, fs1))) (e4 : fs1[0]? = some (.int y3)) (e5 : ¬ ((y3 : Int32) ≤ x1)) (kk : qE d 206 12 [some (.ref r0), some (.int x1)] [] h q): qE d 206 4 [some (.ref r0), some (.int x1)] [] h q := by
  refine qe_iload_n c206_4 rfl ?_
  refine qe_aload_n c206_5 rfl ?_
  refine qe_getfield c206_6 qo206 qF3_21 e2 e4 ?_
  refine qe_icmp_ge_F (t := 16) c206_9 rfl e5 ?_
  exact kk
theorem b206_4T {d : Nat} {q : Option Value × qH} {h : qH} {r0 : Nat} {x1 : Int32} {fs1 : List Value} {y3 : Int32}  (e2 : h.2.2 r0 = some (.inr (3, fs1))) (e4 : fs1[0]? = some (.int y3)) (e5 : (y3 : Int32) ≤ x1) (kk : qE d 206 16 [some (.ref r0), some (.int x1)] [] h q): qE d 206 4 [some (.ref r0), some (.int x1)] [] h q := by
  refine qe_iload_n c206_4 rfl ?_
  refine qe_aload_n c206_5 rfl ?_
  refine qe_getfield c206_6 qo206 qF3_21 e2 e4 ?_
  refine qe_icmp_ge_T (t := 16) c206_9 rfl e5 ?_
  exact kk
theorem b206_12 {d : Nat} {q : Option Value × qH} {h : qH} {r0 : Nat} {x1 : Int32}   (kk : qE d 206 17 [some (.ref r0), some (.int x1)] [.int 1] h q): qE d 206 12 [some (.ref r0), some (.int x1)] [] h q := by
  refine qe_iconst (x := 1) c206_12 (by decide) ?_
  refine qe_goto (t := 17) c206_13 rfl ?_
  exact kk
theorem b206_16 {d : Nat} {q : Option Value × qH} {h : qH} {r0 : Nat} {x1 : Int32}   (kk : qE d 206 17 [some (.ref r0), some (.int x1)] [.int 0] h q): qE d 206 16 [some (.ref r0), some (.int x1)] [] h q := by
  refine qe_iconst (x := 0) c206_16 (by decide) ?_
  exact kk
theorem b206_17 {d : Nat} {h : qH} {r0 : Nat} {x1 : Int32} {xs0 : Int32}  (e1 : (xs0 : Int32) = 0 ∨ (xs0 : Int32) = 1) : qE d 206 17 [some (.ref r0), some (.int x1)] [.int xs0] h (some (.int xs0), h) := by
  exact qe_zret c206_17 qr206 e1
theorem b207_0 {d : Nat} {h : qH} {r0 : Nat} {h1 : qH} {fs2 : List Value} {h2 : qH} {h3 : qH} {fs7 : List Value} {h4 : qH} {h5 : qH} {fs12 : List Value} {h6 : qH} (hd0 : 0 < d) (e1 : qnew h 400 (.inl (0, 400, .inl fun _ => 0)) = h1) (e3 : h1.2.2 r0 = some (.inr (3, fs2))) (e4 : 1 < fs2.length) (e5 : qset h1 r0 (.inr (3, fs2.set 1 (.ref h.1))) = h2) (e6 : qnew h2 400 (.inl (0, 400, .inl fun _ => 0)) = h3) (e8 : h3.2.2 r0 = some (.inr (3, fs7))) (e9 : 2 < fs7.length) (e10 : qset h3 r0 (.inr (3, fs7.set 2 (.ref h2.1))) = h4) (e11 : qnew h4 400 (.inl (0, 400, .inl fun _ => 0)) = h5) (e13 : h5.2.2 r0 = some (.inr (3, fs12))) (e14 : 3 < fs12.length) (e15 : qset h5 r0 (.inr (3, fs12.set 3 (.ref h4.1))) = h6) : qE d 207 0 [some (.ref r0)] [] h (none, h6) := by
  refine qe_aload_n c207_0 rfl ?_
  refine qe_objinit c207_1 qo207 (by decide +kernel) (by decide) hd0 (Nat.le_of_ble_eq_true rfl) ?_
  refine qe_aload_n c207_4 rfl ?_
  refine qe_sipush (x := 400) c207_5 (by decide) ?_
  refine qe_new_int c207_8 (by decide) ?_
  rw [show Int32.toNatClampNeg 400 = 400 from by decide]
  rw [e1]
  refine qe_putfinal c207_10 qo207 qF3_11 (by decide +kernel) e3 e4 (by rw [qy3_1]; rfl) ?_
  rw [e5]
  refine qe_aload_n c207_13 rfl ?_
  refine qe_sipush (x := 400) c207_14 (by decide) ?_
  refine qe_new_int c207_17 (by decide) ?_
  rw [show Int32.toNatClampNeg 400 = 400 from by decide]
  rw [e6]
  refine qe_putfinal c207_19 qo207 qF3_15 (by decide +kernel) e8 e9 (by rw [qy3_2]; rfl) ?_
  rw [e10]
  refine qe_aload_n c207_22 rfl ?_
  refine qe_sipush (x := 400) c207_23 (by decide) ?_
  refine qe_new_int c207_26 (by decide) ?_
  rw [show Int32.toNatClampNeg 400 = 400 from by decide]
  rw [e11]
  refine qe_putfinal c207_28 qo207 qF3_18 (by decide +kernel) e13 e14 (by rw [qy3_3]; rfl) ?_
  rw [e15]
  exact qe_vret c207_31 qr207
theorem b208_0 {d : Nat} {q : Option Value × qH} {h : qH} {r0 : Nat} {r1 : Nat} {x2 : Int32}   (kk : qE d 208 2 [some (.ref r0), some (.ref r1), some (.int x2), some (.int 0)] [] h q): qE d 208 0 [some (.ref r0), some (.ref r1), some (.int x2), none] [] h q := by
  refine qe_iconst (x := 0) c208_0 (by decide) ?_
  refine qe_istore_n (ls2 := [some (.ref r0), some (.ref r1), some (.int x2), some (.int 0)]) c208_1 (Nat.le_of_ble_eq_true rfl) rfl ?_
  exact kk
theorem b208_2F {d : Nat} {q : Option Value × qH} {h : qH} {r0 : Nat} {r1 : Nat} {x2 : Int32} {x3 : Int32} {fs1 : List Value} {y3 : Nat} {fs5 : List Value} {y7 : Int32}  (e2 : h.2.2 r1 = some (.inr (5, fs1))) (e4 : fs1[1]? = some (.ref y3)) (e6 : h.2.2 y3 = some (.inr (7, fs5))) (e8 : fs5[1]? = some (.int y7)) (e9 : ¬ ((y7 : Int32) ≤ x3)) (kk : qE d 208 13 [some (.ref r0), some (.ref r1), some (.int x2), some (.int x3)] [] h q): qE d 208 2 [some (.ref r0), some (.ref r1), some (.int x2), some (.int x3)] [] h q := by
  refine qe_iload_n c208_2 rfl ?_
  refine qe_aload_n c208_3 rfl ?_
  refine qe_getfield c208_4 qo208 qF3_25 e2 e4 ?_
  refine qe_getfield c208_7 qo208 qF3_31 e6 e8 ?_
  refine qe_icmp_ge_F (t := 34) c208_10 rfl e9 ?_
  exact kk
theorem b208_2T {d : Nat} {q : Option Value × qH} {h : qH} {r0 : Nat} {r1 : Nat} {x2 : Int32} {x3 : Int32} {fs1 : List Value} {y3 : Nat} {fs5 : List Value} {y7 : Int32}  (e2 : h.2.2 r1 = some (.inr (5, fs1))) (e4 : fs1[1]? = some (.ref y3)) (e6 : h.2.2 y3 = some (.inr (7, fs5))) (e8 : fs5[1]? = some (.int y7)) (e9 : (y7 : Int32) ≤ x3) (kk : qE d 208 34 [some (.ref r0), some (.ref r1), some (.int x2), some (.int x3)] [] h q): qE d 208 2 [some (.ref r0), some (.ref r1), some (.int x2), some (.int x3)] [] h q := by
  refine qe_iload_n c208_2 rfl ?_
  refine qe_aload_n c208_3 rfl ?_
  refine qe_getfield c208_4 qo208 qF3_25 e2 e4 ?_
  refine qe_getfield c208_7 qo208 qF3_31 e6 e8 ?_
  refine qe_icmp_ge_T (t := 34) c208_10 rfl e9 ?_
  exact kk
theorem b208_13 {d : Nat} {q : Option Value × qH} {h : qH} {r0 : Nat} {r1 : Nat} {x2 : Int32} {x3 : Int32} {fs1 : List Value} {y3 : Nat} {fs5 : List Value} {y7 : Nat} {n9 : Nat} {f10 : Nat → Int32} {fs13 : List Value} {h1 : qH}  (e2 : h.2.2 r1 = some (.inr (5, fs1))) (e4 : fs1[1]? = some (.ref y3)) (e6 : h.2.2 y3 = some (.inr (7, fs5))) (e8 : fs5[3]? = some (.ref y7)) (e11 : h.2.2 y7 = some (.inl (0, n9, .inl f10))) (e12 : 0 ≤ (x3 : Int32).toInt ∧ (x3 : Int32).toInt < (n9 : Nat)) (e14 : h.2.2 r0 = some (.inr (3, fs13))) (e15 : qCall d 205 [.ref r0, .int 0, .int (f10 (x3 : Int32).toNatClampNeg), .int x2] h (none, h1)) (kk : qE d 208 2 [some (.ref r0), some (.ref r1), some (.int x2), some (.int (x3 + 1))] [] h1 q): qE d 208 13 [some (.ref r0), some (.ref r1), some (.int x2), some (.int x3)] [] h q := by
  refine qe_aload_n c208_13 rfl ?_
  refine qe_iconst (x := 0) c208_14 (by decide) ?_
  refine qe_aload_n c208_15 rfl ?_
  refine qe_getfield c208_16 qo208 qF3_25 e2 e4 ?_
  refine qe_getfield c208_19 qo208 qF3_36 e6 e8 ?_
  refine qe_iload_n c208_22 rfl ?_
  refine qe_iaload c208_23 e11 e12 ?_
  refine qe_iload_n c208_24 rfl ?_
  refine qe_virtual (b := r0) (as := [.int 0, .int (f10 (x3 : Int32).toNatClampNeg), .int x2]) (r := []) (v := none) (h2 := h1) c208_25 qo208 qK3_39 rfl rfl rfl (by rw [qo205]; exact e14) (Nat.le_of_ble_eq_true rfl) e15 ?_
  refine qe_iinc (y := (x3 + 1)) (ls2 := [some (.ref r0), some (.ref r1), some (.int x2), some (.int (x3 + 1))]) c208_28 rfl (Nat.le_of_ble_eq_true rfl) rfl rfl ?_
  refine qe_goto (t := 2) c208_31 rfl ?_
  exact kk
theorem b208_34 {d : Nat} {h : qH} {r0 : Nat} {r1 : Nat} {x2 : Int32} {x3 : Int32} {fs1 : List Value} {y3 : Int32} {fs5 : List Value} {h1 : qH} {fs8 : List Value} {y10 : Int32} {fs12 : List Value} {h2 : qH} {fs15 : List Value} {y17 : Int32} {fs19 : List Value} {h3 : qH}  (e2 : h.2.2 r1 = some (.inr (5, fs1))) (e4 : fs1[3]? = some (.int y3)) (e6 : h.2.2 r0 = some (.inr (3, fs5))) (e7 : qCall d 209 [.ref r0, .int 1, .int y3, .int x2] h (none, h1)) (e9 : h1.2.2 r1 = some (.inr (5, fs8))) (e11 : fs8[4]? = some (.int y10)) (e13 : h1.2.2 r0 = some (.inr (3, fs12))) (e14 : qCall d 209 [.ref r0, .int 2, .int y10, .int x2] h1 (none, h2)) (e16 : h2.2.2 r1 = some (.inr (5, fs15))) (e18 : fs15[5]? = some (.int y17)) (e20 : h2.2.2 r0 = some (.inr (3, fs19))) (e21 : qCall d 209 [.ref r0, .int 3, .int y17, .int x2] h2 (none, h3)) : qE d 208 34 [some (.ref r0), some (.ref r1), some (.int x2), some (.int x3)] [] h (none, h3) := by
  refine qe_aload_n c208_34 rfl ?_
  refine qe_iconst (x := 1) c208_35 (by decide) ?_
  refine qe_aload_n c208_36 rfl ?_
  refine qe_getfield c208_37 qo208 qF3_43 e2 e4 ?_
  refine qe_iload_n c208_40 rfl ?_
  refine qe_virtual (b := r0) (as := [.int 1, .int y3, .int x2]) (r := []) (v := none) (h2 := h1) c208_41 qo208 qK3_46 rfl rfl rfl (by rw [qo209]; exact e6) (Nat.le_of_ble_eq_true rfl) e7 ?_
  refine qe_aload_n c208_44 rfl ?_
  refine qe_iconst (x := 2) c208_45 (by decide) ?_
  refine qe_aload_n c208_46 rfl ?_
  refine qe_getfield c208_47 qo208 qF3_49 e9 e11 ?_
  refine qe_iload_n c208_50 rfl ?_
  refine qe_virtual (b := r0) (as := [.int 2, .int y10, .int x2]) (r := []) (v := none) (h2 := h2) c208_51 qo208 qK3_46 rfl rfl rfl (by rw [qo209]; exact e13) (Nat.le_of_ble_eq_true rfl) e14 ?_
  refine qe_aload_n c208_54 rfl ?_
  refine qe_iconst (x := 3) c208_55 (by decide) ?_
  refine qe_aload_n c208_56 rfl ?_
  refine qe_getfield c208_57 qo208 qF3_52 e16 e18 ?_
  refine qe_iload_n c208_60 rfl ?_
  refine qe_virtual (b := r0) (as := [.int 3, .int y17, .int x2]) (r := []) (v := none) (h2 := h3) c208_61 qo208 qK3_46 rfl rfl rfl (by rw [qo209]; exact e20) (Nat.le_of_ble_eq_true rfl) e21 ?_
  exact qe_vret c208_64 qr208
theorem b209_0 {d : Nat} {q : Option Value × qH} {h : qH} {r0 : Nat} {x1 : Int32} {x2 : Int32} {x3 : Int32}   (kk : qE d 209 3 [some (.ref r0), some (.int x1), some (.int x2), some (.int x3), some (.int 0)] [] h q): qE d 209 0 [some (.ref r0), some (.int x1), some (.int x2), some (.int x3), none] [] h q := by
  refine qe_iconst (x := 0) c209_0 (by decide) ?_
  refine qe_istore (ls2 := [some (.ref r0), some (.int x1), some (.int x2), some (.int x3), some (.int 0)]) c209_1 (Nat.le_of_ble_eq_true rfl) rfl ?_
  exact kk
theorem b209_3F {d : Nat} {q : Option Value × qH} {h : qH} {r0 : Nat} {x1 : Int32} {x2 : Int32} {x3 : Int32} {x4 : Int32}  (e1 : ¬ ((14 : Int32) ≤ x4)) (kk : qE d 209 10 [some (.ref r0), some (.int x1), some (.int x2), some (.int x3), some (.int x4)] [] h q): qE d 209 3 [some (.ref r0), some (.int x1), some (.int x2), some (.int x3), some (.int x4)] [] h q := by
  refine qe_iload c209_3 rfl ?_
  refine qe_bipush (x := 14) c209_5 (by decide) ?_
  refine qe_icmp_ge_F (t := 34) c209_7 rfl e1 ?_
  exact kk
theorem b209_3T {d : Nat} {q : Option Value × qH} {h : qH} {r0 : Nat} {x1 : Int32} {x2 : Int32} {x3 : Int32} {x4 : Int32}  (e1 : (14 : Int32) ≤ x4) (kk : qE d 209 34 [some (.ref r0), some (.int x1), some (.int x2), some (.int x3), some (.int x4)] [] h q): qE d 209 3 [some (.ref r0), some (.int x1), some (.int x2), some (.int x3), some (.int x4)] [] h q := by
  refine qe_iload c209_3 rfl ?_
  refine qe_bipush (x := 14) c209_5 (by decide) ?_
  refine qe_icmp_ge_T (t := 34) c209_7 rfl e1 ?_
  exact kk
theorem b209_10F {d : Nat} {q : Option Value × qH} {h : qH} {r0 : Nat} {x1 : Int32} {x2 : Int32} {x3 : Int32} {x4 : Int32}  (e1 : (((x2 >>> (x4 &&& 31)) &&& 1) : Int32) = 1) (kk : qE d 209 20 [some (.ref r0), some (.int x1), some (.int x2), some (.int x3), some (.int x4)] [] h q): qE d 209 10 [some (.ref r0), some (.int x1), some (.int x2), some (.int x3), some (.int x4)] [] h q := by
  refine qe_iload_n c209_10 rfl ?_
  refine qe_iload c209_11 rfl ?_
  refine qe_ishr c209_13 ?_
  refine qe_iconst (x := 1) c209_14 (by decide) ?_
  refine qe_iand c209_15 ?_
  refine qe_iconst (x := 1) c209_16 (by decide) ?_
  refine qe_icmp_ne_F (t := 28) c209_17 rfl e1 ?_
  exact kk
theorem b209_10T {d : Nat} {q : Option Value × qH} {h : qH} {r0 : Nat} {x1 : Int32} {x2 : Int32} {x3 : Int32} {x4 : Int32}  (e1 : ¬ ((((x2 >>> (x4 &&& 31)) &&& 1) : Int32) = 1)) (kk : qE d 209 28 [some (.ref r0), some (.int x1), some (.int x2), some (.int x3), some (.int x4)] [] h q): qE d 209 10 [some (.ref r0), some (.int x1), some (.int x2), some (.int x3), some (.int x4)] [] h q := by
  refine qe_iload_n c209_10 rfl ?_
  refine qe_iload c209_11 rfl ?_
  refine qe_ishr c209_13 ?_
  refine qe_iconst (x := 1) c209_14 (by decide) ?_
  refine qe_iand c209_15 ?_
  refine qe_iconst (x := 1) c209_16 (by decide) ?_
  refine qe_icmp_ne_T (t := 28) c209_17 rfl e1 ?_
  exact kk
theorem b209_20 {d : Nat} {q : Option Value × qH} {h : qH} {r0 : Nat} {x1 : Int32} {x2 : Int32} {x3 : Int32} {x4 : Int32} {fs1 : List Value} {h1 : qH}  (e2 : h.2.2 r0 = some (.inr (3, fs1))) (e3 : qCall d 205 [.ref r0, .int x1, .int x4, .int x3] h (none, h1)) (kk : qE d 209 28 [some (.ref r0), some (.int x1), some (.int x2), some (.int x3), some (.int x4)] [] h1 q): qE d 209 20 [some (.ref r0), some (.int x1), some (.int x2), some (.int x3), some (.int x4)] [] h q := by
  refine qe_aload_n c209_20 rfl ?_
  refine qe_iload_n c209_21 rfl ?_
  refine qe_iload c209_22 rfl ?_
  refine qe_iload_n c209_24 rfl ?_
  refine qe_virtual (b := r0) (as := [.int x1, .int x4, .int x3]) (r := []) (v := none) (h2 := h1) c209_25 qo209 qK3_39 rfl rfl rfl (by rw [qo205]; exact e2) (Nat.le_of_ble_eq_true rfl) e3 ?_
  exact kk
theorem b209_28 {d : Nat} {q : Option Value × qH} {h : qH} {r0 : Nat} {x1 : Int32} {x2 : Int32} {x3 : Int32} {x4 : Int32}   (kk : qE d 209 3 [some (.ref r0), some (.int x1), some (.int x2), some (.int x3), some (.int (x4 + 1))] [] h q): qE d 209 28 [some (.ref r0), some (.int x1), some (.int x2), some (.int x3), some (.int x4)] [] h q := by
  refine qe_iinc (y := (x4 + 1)) (ls2 := [some (.ref r0), some (.int x1), some (.int x2), some (.int x3), some (.int (x4 + 1))]) c209_28 rfl (Nat.le_of_ble_eq_true rfl) rfl rfl ?_
  refine qe_goto (t := 3) c209_31 rfl ?_
  exact kk
theorem b209_34 {d : Nat} {h : qH} {r0 : Nat} {x1 : Int32} {x2 : Int32} {x3 : Int32} {x4 : Int32}   : qE d 209 34 [some (.ref r0), some (.int x1), some (.int x2), some (.int x3), some (.int x4)] [] h (none, h) := by
  exact qe_vret c209_34 qr209
theorem b210_0 {d : Nat} {q : Option Value × qH} {h : qH} {r0 : Nat} {x1 : Int32} {x2 : Int32} {fs1 : List Value} {y3 : Int32}  (e2 : h.2.2 r0 = some (.inr (4, fs1))) (e4 : fs1[0]? = some (.int y3)) (kk : qE d 210 8 [some (.ref r0), some (.int x1), some (.int x2), some (.int y3), some (.int y3)] [] h q): qE d 210 0 [some (.ref r0), some (.int x1), some (.int x2), none, none] [] h q := by
  refine qe_aload_n c210_0 rfl ?_
  refine qe_getfield c210_1 qo210 qF4_62 e2 e4 ?_
  refine qe_istore_n (ls2 := [some (.ref r0), some (.int x1), some (.int x2), some (.int y3), none]) c210_4 (Nat.le_of_ble_eq_true rfl) rfl ?_
  refine qe_iload_n c210_5 rfl ?_
  refine qe_istore (ls2 := [some (.ref r0), some (.int x1), some (.int x2), some (.int y3), some (.int y3)]) c210_6 (Nat.le_of_ble_eq_true rfl) rfl ?_
  exact kk
theorem b210_8F {d : Nat} {q : Option Value × qH} {h : qH} {r0 : Nat} {x1 : Int32} {x2 : Int32} {x3 : Int32} {x4 : Int32}  (e1 : ¬ ((x4 : Int32) ≤ 0)) (kk : qE d 210 13 [some (.ref r0), some (.int x1), some (.int x2), some (.int x3), some (.int x4)] [] h q): qE d 210 8 [some (.ref r0), some (.int x1), some (.int x2), some (.int x3), some (.int x4)] [] h q := by
  refine qe_iload c210_8 rfl ?_
  refine qe_if_le_F (t := 53) c210_10 rfl e1 ?_
  exact kk
theorem b210_8T {d : Nat} {q : Option Value × qH} {h : qH} {r0 : Nat} {x1 : Int32} {x2 : Int32} {x3 : Int32} {x4 : Int32}  (e1 : (x4 : Int32) ≤ 0) (kk : qE d 210 53 [some (.ref r0), some (.int x1), some (.int x2), some (.int x3), some (.int x4)] [] h q): qE d 210 8 [some (.ref r0), some (.int x1), some (.int x2), some (.int x3), some (.int x4)] [] h q := by
  refine qe_iload c210_8 rfl ?_
  refine qe_if_le_T (t := 53) c210_10 rfl e1 ?_
  exact kk
theorem b210_13F {d : Nat} {q : Option Value × qH} {h : qH} {r0 : Nat} {x1 : Int32} {x2 : Int32} {x3 : Int32} {x4 : Int32} {fs1 : List Value} {y3 : Nat} {y5 : Nat} {n7 : Nat} {f8 : Nat → Int32} {n11 : Nat} {f12 : Nat → Int32}  (e2 : h.2.2 r0 = some (.inr (4, fs1))) (e4 : fs1[6]? = some (.ref y3)) (e6 : fs1[7]? = some (.ref y5)) (e9 : h.2.2 y5 = some (.inl (0, n7, .inl f8))) (e10 : 0 ≤ ((x4 - 1) : Int32).toInt ∧ ((x4 - 1) : Int32).toInt < (n7 : Nat)) (e13 : h.2.2 y3 = some (.inl (0, n11, .inl f12))) (e14 : 0 ≤ ((f8 ((x4 - 1) : Int32).toNatClampNeg) : Int32).toInt ∧ ((f8 ((x4 - 1) : Int32).toNatClampNeg) : Int32).toInt < (n11 : Nat)) (e15 : ¬ ((x2 : Int32) ≤ (f12 ((f8 ((x4 - 1) : Int32).toNatClampNeg) : Int32).toNatClampNeg))) (kk : qE d 210 31 [some (.ref r0), some (.int x1), some (.int x2), some (.int x3), some (.int x4)] [] h q): qE d 210 13 [some (.ref r0), some (.int x1), some (.int x2), some (.int x3), some (.int x4)] [] h q := by
  refine qe_aload_n c210_13 rfl ?_
  refine qe_getfield c210_14 qo210 qF4_26 e2 e4 ?_
  refine qe_aload_n c210_17 rfl ?_
  refine qe_getfield c210_18 qo210 qF4_29 e2 e6 ?_
  refine qe_iload c210_21 rfl ?_
  refine qe_iconst (x := 1) c210_23 (by decide) ?_
  refine qe_isub c210_24 ?_
  refine qe_iaload c210_25 e9 e10 ?_
  refine qe_iaload c210_26 e13 e14 ?_
  refine qe_iload_n c210_27 rfl ?_
  refine qe_icmp_ge_F (t := 53) c210_28 rfl e15 ?_
  exact kk
theorem b210_13T {d : Nat} {q : Option Value × qH} {h : qH} {r0 : Nat} {x1 : Int32} {x2 : Int32} {x3 : Int32} {x4 : Int32} {fs1 : List Value} {y3 : Nat} {y5 : Nat} {n7 : Nat} {f8 : Nat → Int32} {n11 : Nat} {f12 : Nat → Int32}  (e2 : h.2.2 r0 = some (.inr (4, fs1))) (e4 : fs1[6]? = some (.ref y3)) (e6 : fs1[7]? = some (.ref y5)) (e9 : h.2.2 y5 = some (.inl (0, n7, .inl f8))) (e10 : 0 ≤ ((x4 - 1) : Int32).toInt ∧ ((x4 - 1) : Int32).toInt < (n7 : Nat)) (e13 : h.2.2 y3 = some (.inl (0, n11, .inl f12))) (e14 : 0 ≤ ((f8 ((x4 - 1) : Int32).toNatClampNeg) : Int32).toInt ∧ ((f8 ((x4 - 1) : Int32).toNatClampNeg) : Int32).toInt < (n11 : Nat)) (e15 : (x2 : Int32) ≤ (f12 ((f8 ((x4 - 1) : Int32).toNatClampNeg) : Int32).toNatClampNeg)) (kk : qE d 210 53 [some (.ref r0), some (.int x1), some (.int x2), some (.int x3), some (.int x4)] [] h q): qE d 210 13 [some (.ref r0), some (.int x1), some (.int x2), some (.int x3), some (.int x4)] [] h q := by
  refine qe_aload_n c210_13 rfl ?_
  refine qe_getfield c210_14 qo210 qF4_26 e2 e4 ?_
  refine qe_aload_n c210_17 rfl ?_
  refine qe_getfield c210_18 qo210 qF4_29 e2 e6 ?_
  refine qe_iload c210_21 rfl ?_
  refine qe_iconst (x := 1) c210_23 (by decide) ?_
  refine qe_isub c210_24 ?_
  refine qe_iaload c210_25 e9 e10 ?_
  refine qe_iaload c210_26 e13 e14 ?_
  refine qe_iload_n c210_27 rfl ?_
  refine qe_icmp_ge_T (t := 53) c210_28 rfl e15 ?_
  exact kk
theorem b210_31 {d : Nat} {q : Option Value × qH} {h : qH} {r0 : Nat} {x1 : Int32} {x2 : Int32} {x3 : Int32} {x4 : Int32} {fs1 : List Value} {y3 : Nat} {n6 : Nat} {f7 : Nat → Int32} {h1 : qH}  (e2 : h.2.2 r0 = some (.inr (4, fs1))) (e4 : fs1[7]? = some (.ref y3)) (e8 : h.2.2 y3 = some (.inl (0, n6, .inl f7))) (e9 : 0 ≤ ((x4 - 1) : Int32).toInt ∧ ((x4 - 1) : Int32).toInt < (n6 : Nat)) (e10 : 0 ≤ (x4 : Int32).toInt ∧ (x4 : Int32).toInt < (n6 : Nat)) (e11 : qset h y3 (.inl (0, n6, .inl (upd f7 ((x4 : Int32).toNatClampNeg) ((f7 ((x4 - 1) : Int32).toNatClampNeg))))) = h1) (kk : qE d 210 8 [some (.ref r0), some (.int x1), some (.int x2), some (.int x3), some (.int (x4 + (-1)))] [] h1 q): qE d 210 31 [some (.ref r0), some (.int x1), some (.int x2), some (.int x3), some (.int x4)] [] h q := by
  refine qe_aload_n c210_31 rfl ?_
  refine qe_getfield c210_32 qo210 qF4_29 e2 e4 ?_
  refine qe_iload c210_35 rfl ?_
  refine qe_aload_n c210_37 rfl ?_
  refine qe_getfield c210_38 qo210 qF4_29 e2 e4 ?_
  refine qe_iload c210_41 rfl ?_
  refine qe_iconst (x := 1) c210_43 (by decide) ?_
  refine qe_isub c210_44 ?_
  refine qe_iaload c210_45 e8 e9 ?_
  refine qe_iastore c210_46 e8 e10 ?_
  rw [e11]
  refine qe_iinc (y := (x4 + (-1))) (ls2 := [some (.ref r0), some (.int x1), some (.int x2), some (.int x3), some (.int (x4 + (-1)))]) c210_47 rfl (Nat.le_of_ble_eq_true rfl) rfl rfl ?_
  refine qe_goto (t := 8) c210_50 rfl ?_
  exact kk
theorem b210_53 {d : Nat} {h : qH} {r0 : Nat} {x1 : Int32} {x2 : Int32} {x3 : Int32} {x4 : Int32} {fs1 : List Value} {y3 : Nat} {n5 : Nat} {f6 : Nat → Int32} {h1 : qH} {fs10 : List Value} {y12 : Nat} {n14 : Nat} {f15 : Nat → Int32} {h2 : qH} {fs19 : List Value} {y21 : Nat} {n23 : Nat} {f24 : Nat → Int32} {h3 : qH} {fs28 : List Value} {y30 : Int32} {h4 : qH}  (e2 : h.2.2 r0 = some (.inr (4, fs1))) (e4 : fs1[7]? = some (.ref y3)) (e7 : h.2.2 y3 = some (.inl (0, n5, .inl f6))) (e8 : 0 ≤ (x4 : Int32).toInt ∧ (x4 : Int32).toInt < (n5 : Nat)) (e9 : qset h y3 (.inl (0, n5, .inl (upd f6 ((x4 : Int32).toNatClampNeg) x3))) = h1) (e11 : h1.2.2 r0 = some (.inr (4, fs10))) (e13 : fs10[5]? = some (.ref y12)) (e16 : h1.2.2 y12 = some (.inl (0, n14, .inl f15))) (e17 : 0 ≤ (x3 : Int32).toInt ∧ (x3 : Int32).toInt < (n14 : Nat)) (e18 : qset h1 y12 (.inl (0, n14, .inl (upd f15 ((x3 : Int32).toNatClampNeg) x1))) = h2) (e20 : h2.2.2 r0 = some (.inr (4, fs19))) (e22 : fs19[6]? = some (.ref y21)) (e25 : h2.2.2 y21 = some (.inl (0, n23, .inl f24))) (e26 : 0 ≤ (x3 : Int32).toInt ∧ (x3 : Int32).toInt < (n23 : Nat)) (e27 : qset h2 y21 (.inl (0, n23, .inl (upd f24 ((x3 : Int32).toNatClampNeg) x2))) = h3) (e29 : h3.2.2 r0 = some (.inr (4, fs28))) (e31 : fs28[0]? = some (.int y30)) (e32 : 0 < fs28.length) (e33 : qset h3 r0 (.inr (4, fs28.set 0 (.int (y30 + 1)))) = h4) : qE d 210 53 [some (.ref r0), some (.int x1), some (.int x2), some (.int x3), some (.int x4)] [] h (some (.int x3), h4) := by
  refine qe_aload_n c210_53 rfl ?_
  refine qe_getfield c210_54 qo210 qF4_29 e2 e4 ?_
  refine qe_iload c210_57 rfl ?_
  refine qe_iload_n c210_59 rfl ?_
  refine qe_iastore c210_60 e7 e8 ?_
  rw [e9]
  refine qe_aload_n c210_61 rfl ?_
  refine qe_getfield c210_62 qo210 qF4_22 e11 e13 ?_
  refine qe_iload_n c210_65 rfl ?_
  refine qe_iload_n c210_66 rfl ?_
  refine qe_iastore c210_67 e16 e17 ?_
  rw [e18]
  refine qe_aload_n c210_68 rfl ?_
  refine qe_getfield c210_69 qo210 qF4_26 e20 e22 ?_
  refine qe_iload_n c210_72 rfl ?_
  refine qe_iload_n c210_73 rfl ?_
  refine qe_iastore c210_74 e25 e26 ?_
  rw [e27]
  refine qe_aload_n c210_75 rfl ?_
  refine qe_dup c210_76 rfl ?_
  refine qe_getfield c210_77 qo210 qF4_62 e29 e31 ?_
  refine qe_iconst (x := 1) c210_80 (by decide) ?_
  refine qe_iadd c210_81 ?_
  refine qe_putfield c210_82 qo210 qF4_62 qz4_0 e29 e32 (by rw [qy4_0]; rfl) ?_
  rw [e33]
  refine qe_iload_n c210_85 rfl ?_
  exact qe_iret c210_86 qr210
theorem b211_0 {d : Nat} {h : qH} {r0 : Nat} {x1 : Int32} {x2 : Int32} {x3 : Int32} {x4 : Int32} {x5 : Int32} {fs1 : List Value} {y3 : Int32} {y5 : Nat} {n7 : Nat} {f8 : Nat → Int32} {h1 : qH} {fs12 : List Value} {y14 : Nat} {n16 : Nat} {f17 : Nat → Int32} {h2 : qH} {fs21 : List Value} {y23 : Nat} {n25 : Nat} {f26 : Nat → Int32} {h3 : qH} {fs30 : List Value} {y32 : Nat} {n34 : Nat} {f35 : Nat → Int32} {h4 : qH} {fs39 : List Value} {y41 : Nat} {n43 : Nat} {f44 : Nat → Int32} {h5 : qH} {fs48 : List Value} {y50 : Nat} {n52 : Nat} {f53 : Nat → Int32} {h6 : qH} {fs57 : List Value} {y59 : Int32} {h7 : qH}  (e2 : h.2.2 r0 = some (.inr (4, fs1))) (e4 : fs1[1]? = some (.int y3)) (e6 : fs1[8]? = some (.ref y5)) (e9 : h.2.2 y5 = some (.inl (0, n7, .inl f8))) (e10 : 0 ≤ (y3 : Int32).toInt ∧ (y3 : Int32).toInt < (n7 : Nat)) (e11 : qset h y5 (.inl (0, n7, .inl (upd f8 ((y3 : Int32).toNatClampNeg) x1))) = h1) (e13 : h1.2.2 r0 = some (.inr (4, fs12))) (e15 : fs12[9]? = some (.ref y14)) (e18 : h1.2.2 y14 = some (.inl (0, n16, .inl f17))) (e19 : 0 ≤ (y3 : Int32).toInt ∧ (y3 : Int32).toInt < (n16 : Nat)) (e20 : qset h1 y14 (.inl (0, n16, .inl (upd f17 ((y3 : Int32).toNatClampNeg) x2))) = h2) (e22 : h2.2.2 r0 = some (.inr (4, fs21))) (e24 : fs21[10]? = some (.ref y23)) (e27 : h2.2.2 y23 = some (.inl (0, n25, .inl f26))) (e28 : 0 ≤ (y3 : Int32).toInt ∧ (y3 : Int32).toInt < (n25 : Nat)) (e29 : qset h2 y23 (.inl (0, n25, .inl (upd f26 ((y3 : Int32).toNatClampNeg) x3))) = h3) (e31 : h3.2.2 r0 = some (.inr (4, fs30))) (e33 : fs30[11]? = some (.ref y32)) (e36 : h3.2.2 y32 = some (.inl (0, n34, .inl f35))) (e37 : 0 ≤ (y3 : Int32).toInt ∧ (y3 : Int32).toInt < (n34 : Nat)) (e38 : qset h3 y32 (.inl (0, n34, .inl (upd f35 ((y3 : Int32).toNatClampNeg) x4))) = h4) (e40 : h4.2.2 r0 = some (.inr (4, fs39))) (e42 : fs39[12]? = some (.ref y41)) (e45 : h4.2.2 y41 = some (.inl (0, n43, .inl f44))) (e46 : 0 ≤ (y3 : Int32).toInt ∧ (y3 : Int32).toInt < (n43 : Nat)) (e47 : qset h4 y41 (.inl (0, n43, .inl (upd f44 ((y3 : Int32).toNatClampNeg) x5))) = h5) (e49 : h5.2.2 r0 = some (.inr (4, fs48))) (e51 : fs48[13]? = some (.ref y50)) (e54 : h5.2.2 y50 = some (.inl (0, n52, .inl f53))) (e55 : 0 ≤ (y3 : Int32).toInt ∧ (y3 : Int32).toInt < (n52 : Nat)) (e56 : qset h5 y50 (.inl (0, n52, .inl (upd f53 ((y3 : Int32).toNatClampNeg) 1))) = h6) (e58 : h6.2.2 r0 = some (.inr (4, fs57))) (e60 : fs57[1]? = some (.int y59)) (e61 : 1 < fs57.length) (e62 : qset h6 r0 (.inr (4, fs57.set 1 (.int (y59 + 1)))) = h7) : qE d 211 0 [some (.ref r0), some (.int x1), some (.int x2), some (.int x3), some (.int x4), some (.int x5), none] [] h (some (.int y3), h7) := by
  refine qe_aload_n c211_0 rfl ?_
  refine qe_getfield c211_1 qo211 qF4_65 e2 e4 ?_
  refine qe_istore (ls2 := [some (.ref r0), some (.int x1), some (.int x2), some (.int x3), some (.int x4), some (.int x5), some (.int y3)]) c211_4 (Nat.le_of_ble_eq_true rfl) rfl ?_
  refine qe_aload_n c211_6 rfl ?_
  refine qe_getfield c211_7 qo211 qF4_32 e2 e6 ?_
  refine qe_iload c211_10 rfl ?_
  refine qe_iload_n c211_12 rfl ?_
  refine qe_iastore c211_13 e9 e10 ?_
  rw [e11]
  refine qe_aload_n c211_14 rfl ?_
  refine qe_getfield c211_15 qo211 qF4_35 e13 e15 ?_
  refine qe_iload c211_18 rfl ?_
  refine qe_iload_n c211_20 rfl ?_
  refine qe_iastore c211_21 e18 e19 ?_
  rw [e20]
  refine qe_aload_n c211_22 rfl ?_
  refine qe_getfield c211_23 qo211 qF4_38 e22 e24 ?_
  refine qe_iload c211_26 rfl ?_
  refine qe_iload_n c211_28 rfl ?_
  refine qe_iastore c211_29 e27 e28 ?_
  rw [e29]
  refine qe_aload_n c211_30 rfl ?_
  refine qe_getfield c211_31 qo211 qF4_41 e31 e33 ?_
  refine qe_iload c211_34 rfl ?_
  refine qe_iload c211_36 rfl ?_
  refine qe_iastore c211_38 e36 e37 ?_
  rw [e38]
  refine qe_aload_n c211_39 rfl ?_
  refine qe_getfield c211_40 qo211 qF4_44 e40 e42 ?_
  refine qe_iload c211_43 rfl ?_
  refine qe_iload c211_45 rfl ?_
  refine qe_iastore c211_47 e45 e46 ?_
  rw [e47]
  refine qe_aload_n c211_48 rfl ?_
  refine qe_getfield c211_49 qo211 qF4_47 e49 e51 ?_
  refine qe_iload c211_52 rfl ?_
  refine qe_iconst (x := 1) c211_54 (by decide) ?_
  refine qe_iastore c211_55 e54 e55 ?_
  rw [e56]
  refine qe_aload_n c211_56 rfl ?_
  refine qe_dup c211_57 rfl ?_
  refine qe_getfield c211_58 qo211 qF4_65 e58 e60 ?_
  refine qe_iconst (x := 1) c211_61 (by decide) ?_
  refine qe_iadd c211_62 ?_
  refine qe_putfield c211_63 qo211 qF4_65 qz4_1 e58 e61 (by rw [qy4_1]; rfl) ?_
  rw [e62]
  refine qe_iload c211_66 rfl ?_
  exact qe_iret c211_68 qr211
theorem b212_0 {d : Nat} {q : Option Value × qH} {h : qH} {r0 : Nat} {x1 : Int32} {x2 : Int32} {x3 : Int32} {fs1 : List Value} {y3 : Int32}  (e2 : h.2.2 r0 = some (.inr (4, fs1))) (e4 : fs1[2]? = some (.int y3)) (kk : qE d 212 10 [some (.ref r0), some (.int x1), some (.int x2), some (.int x3), some (.int y3), some (.int y3)] [] h q): qE d 212 0 [some (.ref r0), some (.int x1), some (.int x2), some (.int x3), none, none] [] h q := by
  refine qe_aload_n c212_0 rfl ?_
  refine qe_getfield c212_1 qo212 qF4_68 e2 e4 ?_
  refine qe_istore (ls2 := [some (.ref r0), some (.int x1), some (.int x2), some (.int x3), some (.int y3), none]) c212_4 (Nat.le_of_ble_eq_true rfl) rfl ?_
  refine qe_iload c212_6 rfl ?_
  refine qe_istore (ls2 := [some (.ref r0), some (.int x1), some (.int x2), some (.int x3), some (.int y3), some (.int y3)]) c212_8 (Nat.le_of_ble_eq_true rfl) rfl ?_
  exact kk
theorem b212_10F {d : Nat} {q : Option Value × qH} {h : qH} {r0 : Nat} {x1 : Int32} {x2 : Int32} {x3 : Int32} {x4 : Int32} {x5 : Int32}  (e1 : ¬ ((x5 : Int32) ≤ 0)) (kk : qE d 212 15 [some (.ref r0), some (.int x1), some (.int x2), some (.int x3), some (.int x4), some (.int x5)] [] h q): qE d 212 10 [some (.ref r0), some (.int x1), some (.int x2), some (.int x3), some (.int x4), some (.int x5)] [] h q := by
  refine qe_iload c212_10 rfl ?_
  refine qe_if_le_F (t := 55) c212_12 rfl e1 ?_
  exact kk
theorem b212_10T {d : Nat} {q : Option Value × qH} {h : qH} {r0 : Nat} {x1 : Int32} {x2 : Int32} {x3 : Int32} {x4 : Int32} {x5 : Int32}  (e1 : (x5 : Int32) ≤ 0) (kk : qE d 212 55 [some (.ref r0), some (.int x1), some (.int x2), some (.int x3), some (.int x4), some (.int x5)] [] h q): qE d 212 10 [some (.ref r0), some (.int x1), some (.int x2), some (.int x3), some (.int x4), some (.int x5)] [] h q := by
  refine qe_iload c212_10 rfl ?_
  refine qe_if_le_T (t := 55) c212_12 rfl e1 ?_
  exact kk
theorem b212_15F {d : Nat} {q : Option Value × qH} {h : qH} {r0 : Nat} {x1 : Int32} {x2 : Int32} {x3 : Int32} {x4 : Int32} {x5 : Int32} {fs1 : List Value} {y3 : Nat} {y5 : Nat} {n7 : Nat} {f8 : Nat → Int32} {n11 : Nat} {f12 : Nat → Int32}  (e2 : h.2.2 r0 = some (.inr (4, fs1))) (e4 : fs1[16]? = some (.ref y3)) (e6 : fs1[17]? = some (.ref y5)) (e9 : h.2.2 y5 = some (.inl (0, n7, .inl f8))) (e10 : 0 ≤ ((x5 - 1) : Int32).toInt ∧ ((x5 - 1) : Int32).toInt < (n7 : Nat)) (e13 : h.2.2 y3 = some (.inl (0, n11, .inl f12))) (e14 : 0 ≤ ((f8 ((x5 - 1) : Int32).toNatClampNeg) : Int32).toInt ∧ ((f8 ((x5 - 1) : Int32).toNatClampNeg) : Int32).toInt < (n11 : Nat)) (e15 : ¬ (((f12 ((f8 ((x5 - 1) : Int32).toNatClampNeg) : Int32).toNatClampNeg) : Int32) ≤ x3)) (kk : qE d 212 33 [some (.ref r0), some (.int x1), some (.int x2), some (.int x3), some (.int x4), some (.int x5)] [] h q): qE d 212 15 [some (.ref r0), some (.int x1), some (.int x2), some (.int x3), some (.int x4), some (.int x5)] [] h q := by
  refine qe_aload_n c212_15 rfl ?_
  refine qe_getfield c212_16 qo212 qF4_56 e2 e4 ?_
  refine qe_aload_n c212_19 rfl ?_
  refine qe_getfield c212_20 qo212 qF4_59 e2 e6 ?_
  refine qe_iload c212_23 rfl ?_
  refine qe_iconst (x := 1) c212_25 (by decide) ?_
  refine qe_isub c212_26 ?_
  refine qe_iaload c212_27 e9 e10 ?_
  refine qe_iaload c212_28 e13 e14 ?_
  refine qe_iload_n c212_29 rfl ?_
  refine qe_icmp_le_F (t := 55) c212_30 rfl e15 ?_
  exact kk
theorem b212_15T {d : Nat} {q : Option Value × qH} {h : qH} {r0 : Nat} {x1 : Int32} {x2 : Int32} {x3 : Int32} {x4 : Int32} {x5 : Int32} {fs1 : List Value} {y3 : Nat} {y5 : Nat} {n7 : Nat} {f8 : Nat → Int32} {n11 : Nat} {f12 : Nat → Int32}  (e2 : h.2.2 r0 = some (.inr (4, fs1))) (e4 : fs1[16]? = some (.ref y3)) (e6 : fs1[17]? = some (.ref y5)) (e9 : h.2.2 y5 = some (.inl (0, n7, .inl f8))) (e10 : 0 ≤ ((x5 - 1) : Int32).toInt ∧ ((x5 - 1) : Int32).toInt < (n7 : Nat)) (e13 : h.2.2 y3 = some (.inl (0, n11, .inl f12))) (e14 : 0 ≤ ((f8 ((x5 - 1) : Int32).toNatClampNeg) : Int32).toInt ∧ ((f8 ((x5 - 1) : Int32).toNatClampNeg) : Int32).toInt < (n11 : Nat)) (e15 : ((f12 ((f8 ((x5 - 1) : Int32).toNatClampNeg) : Int32).toNatClampNeg) : Int32) ≤ x3) (kk : qE d 212 55 [some (.ref r0), some (.int x1), some (.int x2), some (.int x3), some (.int x4), some (.int x5)] [] h q): qE d 212 15 [some (.ref r0), some (.int x1), some (.int x2), some (.int x3), some (.int x4), some (.int x5)] [] h q := by
  refine qe_aload_n c212_15 rfl ?_
  refine qe_getfield c212_16 qo212 qF4_56 e2 e4 ?_
  refine qe_aload_n c212_19 rfl ?_
  refine qe_getfield c212_20 qo212 qF4_59 e2 e6 ?_
  refine qe_iload c212_23 rfl ?_
  refine qe_iconst (x := 1) c212_25 (by decide) ?_
  refine qe_isub c212_26 ?_
  refine qe_iaload c212_27 e9 e10 ?_
  refine qe_iaload c212_28 e13 e14 ?_
  refine qe_iload_n c212_29 rfl ?_
  refine qe_icmp_le_T (t := 55) c212_30 rfl e15 ?_
  exact kk
theorem b212_33 {d : Nat} {q : Option Value × qH} {h : qH} {r0 : Nat} {x1 : Int32} {x2 : Int32} {x3 : Int32} {x4 : Int32} {x5 : Int32} {fs1 : List Value} {y3 : Nat} {n6 : Nat} {f7 : Nat → Int32} {h1 : qH}  (e2 : h.2.2 r0 = some (.inr (4, fs1))) (e4 : fs1[17]? = some (.ref y3)) (e8 : h.2.2 y3 = some (.inl (0, n6, .inl f7))) (e9 : 0 ≤ ((x5 - 1) : Int32).toInt ∧ ((x5 - 1) : Int32).toInt < (n6 : Nat)) (e10 : 0 ≤ (x5 : Int32).toInt ∧ (x5 : Int32).toInt < (n6 : Nat)) (e11 : qset h y3 (.inl (0, n6, .inl (upd f7 ((x5 : Int32).toNatClampNeg) ((f7 ((x5 - 1) : Int32).toNatClampNeg))))) = h1) (kk : qE d 212 10 [some (.ref r0), some (.int x1), some (.int x2), some (.int x3), some (.int x4), some (.int (x5 + (-1)))] [] h1 q): qE d 212 33 [some (.ref r0), some (.int x1), some (.int x2), some (.int x3), some (.int x4), some (.int x5)] [] h q := by
  refine qe_aload_n c212_33 rfl ?_
  refine qe_getfield c212_34 qo212 qF4_59 e2 e4 ?_
  refine qe_iload c212_37 rfl ?_
  refine qe_aload_n c212_39 rfl ?_
  refine qe_getfield c212_40 qo212 qF4_59 e2 e4 ?_
  refine qe_iload c212_43 rfl ?_
  refine qe_iconst (x := 1) c212_45 (by decide) ?_
  refine qe_isub c212_46 ?_
  refine qe_iaload c212_47 e8 e9 ?_
  refine qe_iastore c212_48 e8 e10 ?_
  rw [e11]
  refine qe_iinc (y := (x5 + (-1))) (ls2 := [some (.ref r0), some (.int x1), some (.int x2), some (.int x3), some (.int x4), some (.int (x5 + (-1)))]) c212_49 rfl (Nat.le_of_ble_eq_true rfl) rfl rfl ?_
  refine qe_goto (t := 10) c212_52 rfl ?_
  exact kk
theorem b212_55 {d : Nat} {h : qH} {r0 : Nat} {x1 : Int32} {x2 : Int32} {x3 : Int32} {x4 : Int32} {x5 : Int32} {fs1 : List Value} {y3 : Nat} {n5 : Nat} {f6 : Nat → Int32} {h1 : qH} {fs10 : List Value} {y12 : Nat} {n14 : Nat} {f15 : Nat → Int32} {h2 : qH} {fs19 : List Value} {y21 : Nat} {n23 : Nat} {f24 : Nat → Int32} {h3 : qH} {fs28 : List Value} {y30 : Nat} {n32 : Nat} {f33 : Nat → Int32} {h4 : qH} {fs37 : List Value} {y39 : Int32} {h5 : qH}  (e2 : h.2.2 r0 = some (.inr (4, fs1))) (e4 : fs1[17]? = some (.ref y3)) (e7 : h.2.2 y3 = some (.inl (0, n5, .inl f6))) (e8 : 0 ≤ (x5 : Int32).toInt ∧ (x5 : Int32).toInt < (n5 : Nat)) (e9 : qset h y3 (.inl (0, n5, .inl (upd f6 ((x5 : Int32).toNatClampNeg) x4))) = h1) (e11 : h1.2.2 r0 = some (.inr (4, fs10))) (e13 : fs10[14]? = some (.ref y12)) (e16 : h1.2.2 y12 = some (.inl (0, n14, .inl f15))) (e17 : 0 ≤ (x4 : Int32).toInt ∧ (x4 : Int32).toInt < (n14 : Nat)) (e18 : qset h1 y12 (.inl (0, n14, .inl (upd f15 ((x4 : Int32).toNatClampNeg) x1))) = h2) (e20 : h2.2.2 r0 = some (.inr (4, fs19))) (e22 : fs19[15]? = some (.ref y21)) (e25 : h2.2.2 y21 = some (.inl (0, n23, .inl f24))) (e26 : 0 ≤ (x4 : Int32).toInt ∧ (x4 : Int32).toInt < (n23 : Nat)) (e27 : qset h2 y21 (.inl (0, n23, .inl (upd f24 ((x4 : Int32).toNatClampNeg) x2))) = h3) (e29 : h3.2.2 r0 = some (.inr (4, fs28))) (e31 : fs28[16]? = some (.ref y30)) (e34 : h3.2.2 y30 = some (.inl (0, n32, .inl f33))) (e35 : 0 ≤ (x4 : Int32).toInt ∧ (x4 : Int32).toInt < (n32 : Nat)) (e36 : qset h3 y30 (.inl (0, n32, .inl (upd f33 ((x4 : Int32).toNatClampNeg) x3))) = h4) (e38 : h4.2.2 r0 = some (.inr (4, fs37))) (e40 : fs37[2]? = some (.int y39)) (e41 : 2 < fs37.length) (e42 : qset h4 r0 (.inr (4, fs37.set 2 (.int (y39 + 1)))) = h5) : qE d 212 55 [some (.ref r0), some (.int x1), some (.int x2), some (.int x3), some (.int x4), some (.int x5)] [] h (some (.int x4), h5) := by
  refine qe_aload_n c212_55 rfl ?_
  refine qe_getfield c212_56 qo212 qF4_59 e2 e4 ?_
  refine qe_iload c212_59 rfl ?_
  refine qe_iload c212_61 rfl ?_
  refine qe_iastore c212_63 e7 e8 ?_
  rw [e9]
  refine qe_aload_n c212_64 rfl ?_
  refine qe_getfield c212_65 qo212 qF4_50 e11 e13 ?_
  refine qe_iload c212_68 rfl ?_
  refine qe_iload_n c212_70 rfl ?_
  refine qe_iastore c212_71 e16 e17 ?_
  rw [e18]
  refine qe_aload_n c212_72 rfl ?_
  refine qe_getfield c212_73 qo212 qF4_53 e20 e22 ?_
  refine qe_iload c212_76 rfl ?_
  refine qe_iload_n c212_78 rfl ?_
  refine qe_iastore c212_79 e25 e26 ?_
  rw [e27]
  refine qe_aload_n c212_80 rfl ?_
  refine qe_getfield c212_81 qo212 qF4_56 e29 e31 ?_
  refine qe_iload c212_84 rfl ?_
  refine qe_iload_n c212_86 rfl ?_
  refine qe_iastore c212_87 e34 e35 ?_
  rw [e36]
  refine qe_aload_n c212_88 rfl ?_
  refine qe_dup c212_89 rfl ?_
  refine qe_getfield c212_90 qo212 qF4_68 e38 e40 ?_
  refine qe_iconst (x := 1) c212_93 (by decide) ?_
  refine qe_iadd c212_94 ?_
  refine qe_putfield c212_95 qo212 qF4_68 qz4_2 e38 e41 (by rw [qy4_2]; rfl) ?_
  rw [e42]
  refine qe_iload c212_98 rfl ?_
  exact qe_iret c212_100 qr212
theorem b213_0 {d : Nat} {q : Option Value × qH} {h : qH} {r0 : Nat} {r1 : Nat} {x2 : Int32} {r3 : Nat}   (kk : qE d 213 3 [some (.ref r0), some (.ref r1), some (.int x2), some (.ref r3), some (.int 0), none, none, none, none] [] h q): qE d 213 0 [some (.ref r0), some (.ref r1), some (.int x2), some (.ref r3), none, none, none, none, none] [] h q := by
  refine qe_iconst (x := 0) c213_0 (by decide) ?_
  refine qe_istore (ls2 := [some (.ref r0), some (.ref r1), some (.int x2), some (.ref r3), some (.int 0), none, none, none, none]) c213_1 (Nat.le_of_ble_eq_true rfl) rfl ?_
  exact kk
theorem b213_3F {d : Nat} {q : Option Value × qH} {h : qH} {r0 : Nat} {r1 : Nat} {x2 : Int32} {r3 : Nat} {x4 : Int32} {fs1 : List Value} {y3 : Int32}  (e2 : h.2.2 r0 = some (.inr (4, fs1))) (e4 : fs1[0]? = some (.int y3)) (e5 : ¬ ((y3 : Int32) ≤ x4)) (kk : qE d 213 12 [some (.ref r0), some (.ref r1), some (.int x2), some (.ref r3), some (.int x4), none, none, none, none] [] h q): qE d 213 3 [some (.ref r0), some (.ref r1), some (.int x2), some (.ref r3), some (.int x4), none, none, none, none] [] h q := by
  refine qe_iload c213_3 rfl ?_
  refine qe_aload_n c213_5 rfl ?_
  refine qe_getfield c213_6 qo213 qF4_62 e2 e4 ?_
  refine qe_icmp_ge_F (t := 24) c213_9 rfl e5 ?_
  exact kk
theorem b213_3T {d : Nat} {q : Option Value × qH} {h : qH} {r0 : Nat} {r1 : Nat} {x2 : Int32} {r3 : Nat} {x4 : Int32} {fs1 : List Value} {y3 : Int32}  (e2 : h.2.2 r0 = some (.inr (4, fs1))) (e4 : fs1[0]? = some (.int y3)) (e5 : (y3 : Int32) ≤ x4) (kk : qE d 213 24 [some (.ref r0), some (.ref r1), some (.int x2), some (.ref r3), some (.int x4), none, none, none, none] [] h q): qE d 213 3 [some (.ref r0), some (.ref r1), some (.int x2), some (.ref r3), some (.int x4), none, none, none, none] [] h q := by
  refine qe_iload c213_3 rfl ?_
  refine qe_aload_n c213_5 rfl ?_
  refine qe_getfield c213_6 qo213 qF4_62 e2 e4 ?_
  refine qe_icmp_ge_T (t := 24) c213_9 rfl e5 ?_
  exact kk
theorem b213_12 {d : Nat} {q : Option Value × qH} {h : qH} {r0 : Nat} {r1 : Nat} {x2 : Int32} {r3 : Nat} {x4 : Int32} {n1 : Nat} {f2 : Nat → Int32} {h1 : qH}  (e3 : h.2.2 r3 = some (.inl (0, n1, .inl f2))) (e4 : 0 ≤ (x4 : Int32).toInt ∧ (x4 : Int32).toInt < (n1 : Nat)) (e5 : qset h r3 (.inl (0, n1, .inl (upd f2 ((x4 : Int32).toNatClampNeg) x4))) = h1) (kk : qE d 213 3 [some (.ref r0), some (.ref r1), some (.int x2), some (.ref r3), some (.int (x4 + 1)), none, none, none, none] [] h1 q): qE d 213 12 [some (.ref r0), some (.ref r1), some (.int x2), some (.ref r3), some (.int x4), none, none, none, none] [] h q := by
  refine qe_aload_n c213_12 rfl ?_
  refine qe_iload c213_13 rfl ?_
  refine qe_iload c213_15 rfl ?_
  refine qe_iastore c213_17 e3 e4 ?_
  rw [e5]
  refine qe_iinc (y := (x4 + 1)) (ls2 := [some (.ref r0), some (.ref r1), some (.int x2), some (.ref r3), some (.int (x4 + 1)), none, none, none, none]) c213_18 rfl (Nat.le_of_ble_eq_true rfl) rfl rfl ?_
  refine qe_goto (t := 3) c213_21 rfl ?_
  exact kk
theorem b213_24 {d : Nat} {q : Option Value × qH} {h : qH} {r0 : Nat} {r1 : Nat} {x2 : Int32} {r3 : Nat} {x4 : Int32}   (kk : qE d 213 30 [some (.ref r0), some (.ref r1), some (.int x2), some (.ref r3), some (.int 1), some (.int 0), none, none, none] [] h q): qE d 213 24 [some (.ref r0), some (.ref r1), some (.int x2), some (.ref r3), some (.int x4), none, none, none, none] [] h q := by
  refine qe_iconst (x := 1) c213_24 (by decide) ?_
  refine qe_istore (ls2 := [some (.ref r0), some (.ref r1), some (.int x2), some (.ref r3), some (.int 1), none, none, none, none]) c213_25 (Nat.le_of_ble_eq_true rfl) rfl ?_
  refine qe_iconst (x := 0) c213_27 (by decide) ?_
  refine qe_istore (ls2 := [some (.ref r0), some (.ref r1), some (.int x2), some (.ref r3), some (.int 1), some (.int 0), none, none, none]) c213_28 (Nat.le_of_ble_eq_true rfl) rfl ?_
  exact kk
theorem b213_30F {d : Nat} {q : Option Value × qH} {h : qH} {r0 : Nat} {r1 : Nat} {x2 : Int32} {r3 : Nat} {x4 : Int32} {x5 : Int32} {o6 : Option Value} {o7 : Option Value} {o8 : Option Value} {fs1 : List Value} {y3 : Int32}  (e2 : h.2.2 r0 = some (.inr (4, fs1))) (e4 : fs1[0]? = some (.int y3)) (e5 : ¬ ((y3 : Int32) ≤ x5)) (kk : qE d 213 39 [some (.ref r0), some (.ref r1), some (.int x2), some (.ref r3), some (.int x4), some (.int x5), o6, o7, o8] [] h q): qE d 213 30 [some (.ref r0), some (.ref r1), some (.int x2), some (.ref r3), some (.int x4), some (.int x5), o6, o7, o8] [] h q := by
  refine qe_iload c213_30 rfl ?_
  refine qe_aload_n c213_32 rfl ?_
  refine qe_getfield c213_33 qo213 qF4_62 e2 e4 ?_
  refine qe_icmp_ge_F (t := 177) c213_36 rfl e5 ?_
  exact kk
theorem b213_30T {d : Nat} {q : Option Value × qH} {h : qH} {r0 : Nat} {r1 : Nat} {x2 : Int32} {r3 : Nat} {x4 : Int32} {x5 : Int32} {o6 : Option Value} {o7 : Option Value} {o8 : Option Value} {fs1 : List Value} {y3 : Int32}  (e2 : h.2.2 r0 = some (.inr (4, fs1))) (e4 : fs1[0]? = some (.int y3)) (e5 : (y3 : Int32) ≤ x5) (kk : qE d 213 177 [some (.ref r0), some (.ref r1), some (.int x2), some (.ref r3), some (.int x4), some (.int x5), o6, o7, o8] [] h q): qE d 213 30 [some (.ref r0), some (.ref r1), some (.int x2), some (.ref r3), some (.int x4), some (.int x5), o6, o7, o8] [] h q := by
  refine qe_iload c213_30 rfl ?_
  refine qe_aload_n c213_32 rfl ?_
  refine qe_getfield c213_33 qo213 qF4_62 e2 e4 ?_
  refine qe_icmp_ge_T (t := 177) c213_36 rfl e5 ?_
  exact kk
theorem b213_39F {d : Nat} {q : Option Value × qH} {h : qH} {r0 : Nat} {r1 : Nat} {x2 : Int32} {r3 : Nat} {x4 : Int32} {x5 : Int32} {o6 : Option Value} {o7 : Option Value} {o8 : Option Value}  (e1 : ¬ ((x4 : Int32) = 0)) (kk : qE d 213 44 [some (.ref r0), some (.ref r1), some (.int x2), some (.ref r3), some (.int x4), some (.int x5), o6, o7, o8] [] h q): qE d 213 39 [some (.ref r0), some (.ref r1), some (.int x2), some (.ref r3), some (.int x4), some (.int x5), o6, o7, o8] [] h q := by
  refine qe_iload c213_39 rfl ?_
  refine qe_if_eq_F (t := 177) c213_41 rfl e1 ?_
  exact kk
theorem b213_39T {d : Nat} {q : Option Value × qH} {h : qH} {r0 : Nat} {r1 : Nat} {x2 : Int32} {r3 : Nat} {x4 : Int32} {x5 : Int32} {o6 : Option Value} {o7 : Option Value} {o8 : Option Value}  (e1 : (x4 : Int32) = 0) (kk : qE d 213 177 [some (.ref r0), some (.ref r1), some (.int x2), some (.ref r3), some (.int x4), some (.int x5), o6, o7, o8] [] h q): qE d 213 39 [some (.ref r0), some (.ref r1), some (.int x2), some (.ref r3), some (.int x4), some (.int x5), o6, o7, o8] [] h q := by
  refine qe_iload c213_39 rfl ?_
  refine qe_if_eq_T (t := 177) c213_41 rfl e1 ?_
  exact kk
theorem b213_44 {d : Nat} {q : Option Value × qH} {h : qH} {r0 : Nat} {r1 : Nat} {x2 : Int32} {r3 : Nat} {x4 : Int32} {x5 : Int32} {o6 : Option Value} {o7 : Option Value} {o8 : Option Value}   (kk : qE d 213 50 [some (.ref r0), some (.ref r1), some (.int x2), some (.ref r3), some (.int 0), some (.int x5), some (.int 0), o7, o8] [] h q): qE d 213 44 [some (.ref r0), some (.ref r1), some (.int x2), some (.ref r3), some (.int x4), some (.int x5), o6, o7, o8] [] h q := by
  refine qe_iconst (x := 0) c213_44 (by decide) ?_
  refine qe_istore (ls2 := [some (.ref r0), some (.ref r1), some (.int x2), some (.ref r3), some (.int 0), some (.int x5), o6, o7, o8]) c213_45 (Nat.le_of_ble_eq_true rfl) rfl ?_
  refine qe_iconst (x := 0) c213_47 (by decide) ?_
  refine qe_istore (ls2 := [some (.ref r0), some (.ref r1), some (.int x2), some (.ref r3), some (.int 0), some (.int x5), some (.int 0), o7, o8]) c213_48 (Nat.le_of_ble_eq_true rfl) rfl ?_
  exact kk
theorem b213_50F {d : Nat} {q : Option Value × qH} {h : qH} {r0 : Nat} {r1 : Nat} {x2 : Int32} {r3 : Nat} {x4 : Int32} {x5 : Int32} {x6 : Int32} {o7 : Option Value} {o8 : Option Value} {fs1 : List Value} {y3 : Int32}  (e2 : h.2.2 r0 = some (.inr (4, fs1))) (e4 : fs1[1]? = some (.int y3)) (e5 : ¬ ((y3 : Int32) ≤ x6)) (kk : qE d 213 59 [some (.ref r0), some (.ref r1), some (.int x2), some (.ref r3), some (.int x4), some (.int x5), some (.int x6), o7, o8] [] h q): qE d 213 50 [some (.ref r0), some (.ref r1), some (.int x2), some (.ref r3), some (.int x4), some (.int x5), some (.int x6), o7, o8] [] h q := by
  refine qe_iload c213_50 rfl ?_
  refine qe_aload_n c213_52 rfl ?_
  refine qe_getfield c213_53 qo213 qF4_65 e2 e4 ?_
  refine qe_icmp_ge_F (t := 171) c213_56 rfl e5 ?_
  exact kk
theorem b213_50T {d : Nat} {q : Option Value × qH} {h : qH} {r0 : Nat} {r1 : Nat} {x2 : Int32} {r3 : Nat} {x4 : Int32} {x5 : Int32} {x6 : Int32} {o7 : Option Value} {o8 : Option Value} {fs1 : List Value} {y3 : Int32}  (e2 : h.2.2 r0 = some (.inr (4, fs1))) (e4 : fs1[1]? = some (.int y3)) (e5 : (y3 : Int32) ≤ x6) (kk : qE d 213 171 [some (.ref r0), some (.ref r1), some (.int x2), some (.ref r3), some (.int x4), some (.int x5), some (.int x6), o7, o8] [] h q): qE d 213 50 [some (.ref r0), some (.ref r1), some (.int x2), some (.ref r3), some (.int x4), some (.int x5), some (.int x6), o7, o8] [] h q := by
  refine qe_iload c213_50 rfl ?_
  refine qe_aload_n c213_52 rfl ?_
  refine qe_getfield c213_53 qo213 qF4_65 e2 e4 ?_
  refine qe_icmp_ge_T (t := 171) c213_56 rfl e5 ?_
  exact kk
theorem b213_59F {d : Nat} {q : Option Value × qH} {h : qH} {r0 : Nat} {r1 : Nat} {x2 : Int32} {r3 : Nat} {x4 : Int32} {x5 : Int32} {x6 : Int32} {o7 : Option Value} {o8 : Option Value} {fs1 : List Value} {y3 : Nat} {n5 : Nat} {f6 : Nat → Int32}  (e2 : h.2.2 r1 = some (.inr (8, fs1))) (e4 : fs1[5]? = some (.ref y3)) (e7 : h.2.2 y3 = some (.inl (0, n5, .inl f6))) (e8 : 0 ≤ (x6 : Int32).toInt ∧ (x6 : Int32).toInt < (n5 : Nat)) (e9 : ¬ (((f6 (x6 : Int32).toNatClampNeg) : Int32) = 0)) (kk : qE d 213 69 [some (.ref r0), some (.ref r1), some (.int x2), some (.ref r3), some (.int x4), some (.int x5), some (.int x6), o7, o8] [] h q): qE d 213 59 [some (.ref r0), some (.ref r1), some (.int x2), some (.ref r3), some (.int x4), some (.int x5), some (.int x6), o7, o8] [] h q := by
  refine qe_aload_n c213_59 rfl ?_
  refine qe_getfield c213_60 qo213 qF4_71 e2 e4 ?_
  refine qe_iload c213_63 rfl ?_
  refine qe_iaload c213_65 e7 e8 ?_
  refine qe_if_eq_F (t := 84) c213_66 rfl e9 ?_
  exact kk
theorem b213_59T {d : Nat} {q : Option Value × qH} {h : qH} {r0 : Nat} {r1 : Nat} {x2 : Int32} {r3 : Nat} {x4 : Int32} {x5 : Int32} {x6 : Int32} {o7 : Option Value} {o8 : Option Value} {fs1 : List Value} {y3 : Nat} {n5 : Nat} {f6 : Nat → Int32}  (e2 : h.2.2 r1 = some (.inr (8, fs1))) (e4 : fs1[5]? = some (.ref y3)) (e7 : h.2.2 y3 = some (.inl (0, n5, .inl f6))) (e8 : 0 ≤ (x6 : Int32).toInt ∧ (x6 : Int32).toInt < (n5 : Nat)) (e9 : ((f6 (x6 : Int32).toNatClampNeg) : Int32) = 0) (kk : qE d 213 84 [some (.ref r0), some (.ref r1), some (.int x2), some (.ref r3), some (.int x4), some (.int x5), some (.int x6), o7, o8] [] h q): qE d 213 59 [some (.ref r0), some (.ref r1), some (.int x2), some (.ref r3), some (.int x4), some (.int x5), some (.int x6), o7, o8] [] h q := by
  refine qe_aload_n c213_59 rfl ?_
  refine qe_getfield c213_60 qo213 qF4_71 e2 e4 ?_
  refine qe_iload c213_63 rfl ?_
  refine qe_iaload c213_65 e7 e8 ?_
  refine qe_if_eq_T (t := 84) c213_66 rfl e9 ?_
  exact kk
theorem b213_69F {d : Nat} {q : Option Value × qH} {h : qH} {r0 : Nat} {r1 : Nat} {x2 : Int32} {r3 : Nat} {x4 : Int32} {x5 : Int32} {x6 : Int32} {o7 : Option Value} {o8 : Option Value}  (e1 : ¬ ((x2 : Int32) = 0)) (kk : qE d 213 73 [some (.ref r0), some (.ref r1), some (.int x2), some (.ref r3), some (.int x4), some (.int x5), some (.int x6), o7, o8] [] h q): qE d 213 69 [some (.ref r0), some (.ref r1), some (.int x2), some (.ref r3), some (.int x4), some (.int x5), some (.int x6), o7, o8] [] h q := by
  refine qe_iload_n c213_69 rfl ?_
  refine qe_if_eq_F (t := 88) c213_70 rfl e1 ?_
  exact kk
theorem b213_69T {d : Nat} {q : Option Value × qH} {h : qH} {r0 : Nat} {r1 : Nat} {x2 : Int32} {r3 : Nat} {x4 : Int32} {x5 : Int32} {x6 : Int32} {o7 : Option Value} {o8 : Option Value}  (e1 : (x2 : Int32) = 0) (kk : qE d 213 88 [some (.ref r0), some (.ref r1), some (.int x2), some (.ref r3), some (.int x4), some (.int x5), some (.int x6), o7, o8] [] h q): qE d 213 69 [some (.ref r0), some (.ref r1), some (.int x2), some (.ref r3), some (.int x4), some (.int x5), some (.int x6), o7, o8] [] h q := by
  refine qe_iload_n c213_69 rfl ?_
  refine qe_if_eq_T (t := 88) c213_70 rfl e1 ?_
  exact kk
theorem b213_73F {d : Nat} {q : Option Value × qH} {h : qH} {r0 : Nat} {r1 : Nat} {x2 : Int32} {r3 : Nat} {x4 : Int32} {x5 : Int32} {x6 : Int32} {o7 : Option Value} {o8 : Option Value} {fs1 : List Value} {y3 : Nat} {n5 : Nat} {f6 : Nat → Int32}  (e2 : h.2.2 r1 = some (.inr (8, fs1))) (e4 : fs1[5]? = some (.ref y3)) (e7 : h.2.2 y3 = some (.inl (0, n5, .inl f6))) (e8 : 0 ≤ (x6 : Int32).toInt ∧ (x6 : Int32).toInt < (n5 : Nat)) (e9 : ¬ (((f6 (x6 : Int32).toNatClampNeg) : Int32) = 3)) (kk : qE d 213 84 [some (.ref r0), some (.ref r1), some (.int x2), some (.ref r3), some (.int x4), some (.int x5), some (.int x6), o7, o8] [] h q): qE d 213 73 [some (.ref r0), some (.ref r1), some (.int x2), some (.ref r3), some (.int x4), some (.int x5), some (.int x6), o7, o8] [] h q := by
  refine qe_aload_n c213_73 rfl ?_
  refine qe_getfield c213_74 qo213 qF4_71 e2 e4 ?_
  refine qe_iload c213_77 rfl ?_
  refine qe_iaload c213_79 e7 e8 ?_
  refine qe_iconst (x := 3) c213_80 (by decide) ?_
  refine qe_icmp_eq_F (t := 88) c213_81 rfl e9 ?_
  exact kk
theorem b213_73T {d : Nat} {q : Option Value × qH} {h : qH} {r0 : Nat} {r1 : Nat} {x2 : Int32} {r3 : Nat} {x4 : Int32} {x5 : Int32} {x6 : Int32} {o7 : Option Value} {o8 : Option Value} {fs1 : List Value} {y3 : Nat} {n5 : Nat} {f6 : Nat → Int32}  (e2 : h.2.2 r1 = some (.inr (8, fs1))) (e4 : fs1[5]? = some (.ref y3)) (e7 : h.2.2 y3 = some (.inl (0, n5, .inl f6))) (e8 : 0 ≤ (x6 : Int32).toInt ∧ (x6 : Int32).toInt < (n5 : Nat)) (e9 : ((f6 (x6 : Int32).toNatClampNeg) : Int32) = 3) (kk : qE d 213 88 [some (.ref r0), some (.ref r1), some (.int x2), some (.ref r3), some (.int x4), some (.int x5), some (.int x6), o7, o8] [] h q): qE d 213 73 [some (.ref r0), some (.ref r1), some (.int x2), some (.ref r3), some (.int x4), some (.int x5), some (.int x6), o7, o8] [] h q := by
  refine qe_aload_n c213_73 rfl ?_
  refine qe_getfield c213_74 qo213 qF4_71 e2 e4 ?_
  refine qe_iload c213_77 rfl ?_
  refine qe_iaload c213_79 e7 e8 ?_
  refine qe_iconst (x := 3) c213_80 (by decide) ?_
  refine qe_icmp_eq_T (t := 88) c213_81 rfl e9 ?_
  exact kk
theorem b213_84 {d : Nat} {q : Option Value × qH} {h : qH} {r0 : Nat} {r1 : Nat} {x2 : Int32} {r3 : Nat} {x4 : Int32} {x5 : Int32} {x6 : Int32} {o7 : Option Value} {o8 : Option Value}   (kk : qE d 213 89 [some (.ref r0), some (.ref r1), some (.int x2), some (.ref r3), some (.int x4), some (.int x5), some (.int x6), o7, o8] [.int 1] h q): qE d 213 84 [some (.ref r0), some (.ref r1), some (.int x2), some (.ref r3), some (.int x4), some (.int x5), some (.int x6), o7, o8] [] h q := by
  refine qe_iconst (x := 1) c213_84 (by decide) ?_
  refine qe_goto (t := 89) c213_85 rfl ?_
  exact kk
theorem b213_88 {d : Nat} {q : Option Value × qH} {h : qH} {r0 : Nat} {r1 : Nat} {x2 : Int32} {r3 : Nat} {x4 : Int32} {x5 : Int32} {x6 : Int32} {o7 : Option Value} {o8 : Option Value}   (kk : qE d 213 89 [some (.ref r0), some (.ref r1), some (.int x2), some (.ref r3), some (.int x4), some (.int x5), some (.int x6), o7, o8] [.int 0] h q): qE d 213 88 [some (.ref r0), some (.ref r1), some (.int x2), some (.ref r3), some (.int x4), some (.int x5), some (.int x6), o7, o8] [] h q := by
  refine qe_iconst (x := 0) c213_88 (by decide) ?_
  exact kk
theorem b213_89F {d : Nat} {q : Option Value × qH} {h : qH} {r0 : Nat} {r1 : Nat} {x2 : Int32} {r3 : Nat} {x4 : Int32} {x5 : Int32} {x6 : Int32} {o7 : Option Value} {o8 : Option Value} {xs0 : Int32}  (e1 : ¬ ((xs0 : Int32) = 0)) (kk : qE d 213 96 [some (.ref r0), some (.ref r1), some (.int x2), some (.ref r3), some (.int x4), some (.int x5), some (.int x6), some (.int xs0), o8] [] h q): qE d 213 89 [some (.ref r0), some (.ref r1), some (.int x2), some (.ref r3), some (.int x4), some (.int x5), some (.int x6), o7, o8] [.int xs0] h q := by
  refine qe_istore (ls2 := [some (.ref r0), some (.ref r1), some (.int x2), some (.ref r3), some (.int x4), some (.int x5), some (.int x6), some (.int xs0), o8]) c213_89 (Nat.le_of_ble_eq_true rfl) rfl ?_
  refine qe_iload c213_91 rfl ?_
  refine qe_if_eq_F (t := 165) c213_93 rfl e1 ?_
  exact kk
theorem b213_89T {d : Nat} {q : Option Value × qH} {h : qH} {r0 : Nat} {r1 : Nat} {x2 : Int32} {r3 : Nat} {x4 : Int32} {x5 : Int32} {x6 : Int32} {o7 : Option Value} {o8 : Option Value} {xs0 : Int32}  (e1 : (xs0 : Int32) = 0) (kk : qE d 213 165 [some (.ref r0), some (.ref r1), some (.int x2), some (.ref r3), some (.int x4), some (.int x5), some (.int x6), some (.int xs0), o8] [] h q): qE d 213 89 [some (.ref r0), some (.ref r1), some (.int x2), some (.ref r3), some (.int x4), some (.int x5), some (.int x6), o7, o8] [.int xs0] h q := by
  refine qe_istore (ls2 := [some (.ref r0), some (.ref r1), some (.int x2), some (.ref r3), some (.int x4), some (.int x5), some (.int x6), some (.int xs0), o8]) c213_89 (Nat.le_of_ble_eq_true rfl) rfl ?_
  refine qe_iload c213_91 rfl ?_
  refine qe_if_eq_T (t := 165) c213_93 rfl e1 ?_
  exact kk
theorem b213_96F {d : Nat} {q : Option Value × qH} {h : qH} {r0 : Nat} {r1 : Nat} {x2 : Int32} {r3 : Nat} {x4 : Int32} {x5 : Int32} {x6 : Int32} {x7 : Int32} {o8 : Option Value} {fs1 : List Value} {y3 : Nat} {n5 : Nat} {f6 : Nat → Int32} {n9 : Nat} {f10 : Nat → Int32} {y13 : Nat} {n15 : Nat} {f16 : Nat → Int32}  (e2 : h.2.2 r0 = some (.inr (4, fs1))) (e4 : fs1[8]? = some (.ref y3)) (e7 : h.2.2 y3 = some (.inl (0, n5, .inl f6))) (e8 : 0 ≤ (x6 : Int32).toInt ∧ (x6 : Int32).toInt < (n5 : Nat)) (e11 : h.2.2 r3 = some (.inl (0, n9, .inl f10))) (e12 : 0 ≤ ((f6 (x6 : Int32).toNatClampNeg) : Int32).toInt ∧ ((f6 (x6 : Int32).toNatClampNeg) : Int32).toInt < (n9 : Nat)) (e14 : fs1[9]? = some (.ref y13)) (e17 : h.2.2 y13 = some (.inl (0, n15, .inl f16))) (e18 : 0 ≤ (x6 : Int32).toInt ∧ (x6 : Int32).toInt < (n15 : Nat)) (e19 : 0 ≤ ((f16 (x6 : Int32).toNatClampNeg) : Int32).toInt ∧ ((f16 (x6 : Int32).toNatClampNeg) : Int32).toInt < (n9 : Nat)) (e20 : ¬ (((f10 ((f6 (x6 : Int32).toNatClampNeg) : Int32).toNatClampNeg) : Int32) = (f10 ((f16 (x6 : Int32).toNatClampNeg) : Int32).toNatClampNeg))) (kk : qE d 213 117 [some (.ref r0), some (.ref r1), some (.int x2), some (.ref r3), some (.int x4), some (.int x5), some (.int x6), some (.int x7), o8] [] h q): qE d 213 96 [some (.ref r0), some (.ref r1), some (.int x2), some (.ref r3), some (.int x4), some (.int x5), some (.int x6), some (.int x7), o8] [] h q := by
  refine qe_aload_n c213_96 rfl ?_
  refine qe_aload_n c213_97 rfl ?_
  refine qe_getfield c213_98 qo213 qF4_32 e2 e4 ?_
  refine qe_iload c213_101 rfl ?_
  refine qe_iaload c213_103 e7 e8 ?_
  refine qe_iaload c213_104 e11 e12 ?_
  refine qe_aload_n c213_105 rfl ?_
  refine qe_aload_n c213_106 rfl ?_
  refine qe_getfield c213_107 qo213 qF4_35 e2 e14 ?_
  refine qe_iload c213_110 rfl ?_
  refine qe_iaload c213_112 e17 e18 ?_
  refine qe_iaload c213_113 e11 e19 ?_
  refine qe_icmp_eq_F (t := 165) c213_114 rfl e20 ?_
  exact kk
theorem b213_96T {d : Nat} {q : Option Value × qH} {h : qH} {r0 : Nat} {r1 : Nat} {x2 : Int32} {r3 : Nat} {x4 : Int32} {x5 : Int32} {x6 : Int32} {x7 : Int32} {o8 : Option Value} {fs1 : List Value} {y3 : Nat} {n5 : Nat} {f6 : Nat → Int32} {n9 : Nat} {f10 : Nat → Int32} {y13 : Nat} {n15 : Nat} {f16 : Nat → Int32}  (e2 : h.2.2 r0 = some (.inr (4, fs1))) (e4 : fs1[8]? = some (.ref y3)) (e7 : h.2.2 y3 = some (.inl (0, n5, .inl f6))) (e8 : 0 ≤ (x6 : Int32).toInt ∧ (x6 : Int32).toInt < (n5 : Nat)) (e11 : h.2.2 r3 = some (.inl (0, n9, .inl f10))) (e12 : 0 ≤ ((f6 (x6 : Int32).toNatClampNeg) : Int32).toInt ∧ ((f6 (x6 : Int32).toNatClampNeg) : Int32).toInt < (n9 : Nat)) (e14 : fs1[9]? = some (.ref y13)) (e17 : h.2.2 y13 = some (.inl (0, n15, .inl f16))) (e18 : 0 ≤ (x6 : Int32).toInt ∧ (x6 : Int32).toInt < (n15 : Nat)) (e19 : 0 ≤ ((f16 (x6 : Int32).toNatClampNeg) : Int32).toInt ∧ ((f16 (x6 : Int32).toNatClampNeg) : Int32).toInt < (n9 : Nat)) (e20 : ((f10 ((f6 (x6 : Int32).toNatClampNeg) : Int32).toNatClampNeg) : Int32) = (f10 ((f16 (x6 : Int32).toNatClampNeg) : Int32).toNatClampNeg)) (kk : qE d 213 165 [some (.ref r0), some (.ref r1), some (.int x2), some (.ref r3), some (.int x4), some (.int x5), some (.int x6), some (.int x7), o8] [] h q): qE d 213 96 [some (.ref r0), some (.ref r1), some (.int x2), some (.ref r3), some (.int x4), some (.int x5), some (.int x6), some (.int x7), o8] [] h q := by
  refine qe_aload_n c213_96 rfl ?_
  refine qe_aload_n c213_97 rfl ?_
  refine qe_getfield c213_98 qo213 qF4_32 e2 e4 ?_
  refine qe_iload c213_101 rfl ?_
  refine qe_iaload c213_103 e7 e8 ?_
  refine qe_iaload c213_104 e11 e12 ?_
  refine qe_aload_n c213_105 rfl ?_
  refine qe_aload_n c213_106 rfl ?_
  refine qe_getfield c213_107 qo213 qF4_35 e2 e14 ?_
  refine qe_iload c213_110 rfl ?_
  refine qe_iaload c213_112 e17 e18 ?_
  refine qe_iaload c213_113 e11 e19 ?_
  refine qe_icmp_eq_T (t := 165) c213_114 rfl e20 ?_
  exact kk
theorem b213_117 {d : Nat} {q : Option Value × qH} {h : qH} {r0 : Nat} {r1 : Nat} {x2 : Int32} {r3 : Nat} {x4 : Int32} {x5 : Int32} {x6 : Int32} {x7 : Int32} {o8 : Option Value} {fs1 : List Value} {y3 : Nat} {n5 : Nat} {f6 : Nat → Int32} {n9 : Nat} {f10 : Nat → Int32} {y13 : Nat} {n15 : Nat} {f16 : Nat → Int32} {h1 : qH} {z20 : Int32} {fs22 : List Value} {y24 : Nat} {n26 : Nat} {f27 : Nat → Int32} {n30 : Nat} {f31 : Nat → Int32} {h2 : qH} {fs35 : List Value} {y37 : Nat} {n39 : Nat} {f40 : Nat → Int32} {n43 : Nat} {f44 : Nat → Int32} {h3 : qH}  (e2 : h.2.2 r0 = some (.inr (4, fs1))) (e4 : fs1[8]? = some (.ref y3)) (e7 : h.2.2 y3 = some (.inl (0, n5, .inl f6))) (e8 : 0 ≤ (x6 : Int32).toInt ∧ (x6 : Int32).toInt < (n5 : Nat)) (e11 : h.2.2 r3 = some (.inl (0, n9, .inl f10))) (e12 : 0 ≤ ((f6 (x6 : Int32).toNatClampNeg) : Int32).toInt ∧ ((f6 (x6 : Int32).toNatClampNeg) : Int32).toInt < (n9 : Nat)) (e14 : fs1[9]? = some (.ref y13)) (e17 : h.2.2 y13 = some (.inl (0, n15, .inl f16))) (e18 : 0 ≤ (x6 : Int32).toInt ∧ (x6 : Int32).toInt < (n15 : Nat)) (e19 : 0 ≤ ((f16 (x6 : Int32).toNatClampNeg) : Int32).toInt ∧ ((f16 (x6 : Int32).toNatClampNeg) : Int32).toInt < (n9 : Nat)) (e21 : qCall d 6 [.int (f10 ((f6 (x6 : Int32).toNatClampNeg) : Int32).toNatClampNeg), .int (f10 ((f16 (x6 : Int32).toNatClampNeg) : Int32).toNatClampNeg)] h ((some (.int z20)), h1)) (e23 : h1.2.2 r0 = some (.inr (4, fs22))) (e25 : fs22[8]? = some (.ref y24)) (e28 : h1.2.2 y24 = some (.inl (0, n26, .inl f27))) (e29 : 0 ≤ (x6 : Int32).toInt ∧ (x6 : Int32).toInt < (n26 : Nat)) (e32 : h1.2.2 r3 = some (.inl (0, n30, .inl f31))) (e33 : 0 ≤ ((f27 (x6 : Int32).toNatClampNeg) : Int32).toInt ∧ ((f27 (x6 : Int32).toNatClampNeg) : Int32).toInt < (n30 : Nat)) (e34 : qset h1 r3 (.inl (0, n30, .inl (upd f31 (((f27 (x6 : Int32).toNatClampNeg) : Int32).toNatClampNeg) z20))) = h2) (e36 : h2.2.2 r0 = some (.inr (4, fs35))) (e38 : fs35[9]? = some (.ref y37)) (e41 : h2.2.2 y37 = some (.inl (0, n39, .inl f40))) (e42 : 0 ≤ (x6 : Int32).toInt ∧ (x6 : Int32).toInt < (n39 : Nat)) (e45 : h2.2.2 r3 = some (.inl (0, n43, .inl f44))) (e46 : 0 ≤ ((f40 (x6 : Int32).toNatClampNeg) : Int32).toInt ∧ ((f40 (x6 : Int32).toNatClampNeg) : Int32).toInt < (n43 : Nat)) (e47 : qset h2 r3 (.inl (0, n43, .inl (upd f44 (((f40 (x6 : Int32).toNatClampNeg) : Int32).toNatClampNeg) z20))) = h3) (kk : qE d 213 165 [some (.ref r0), some (.ref r1), some (.int x2), some (.ref r3), some (.int 1), some (.int x5), some (.int x6), some (.int x7), some (.int z20)] [] h3 q): qE d 213 117 [some (.ref r0), some (.ref r1), some (.int x2), some (.ref r3), some (.int x4), some (.int x5), some (.int x6), some (.int x7), o8] [] h q := by
  refine qe_aload_n c213_117 rfl ?_
  refine qe_aload_n c213_118 rfl ?_
  refine qe_getfield c213_119 qo213 qF4_32 e2 e4 ?_
  refine qe_iload c213_122 rfl ?_
  refine qe_iaload c213_124 e7 e8 ?_
  refine qe_iaload c213_125 e11 e12 ?_
  refine qe_aload_n c213_126 rfl ?_
  refine qe_aload_n c213_127 rfl ?_
  refine qe_getfield c213_128 qo213 qF4_35 e2 e14 ?_
  refine qe_iload c213_131 rfl ?_
  refine qe_iaload c213_133 e17 e18 ?_
  refine qe_iaload c213_134 e11 e19 ?_
  refine qe_static (as := [.int (f10 ((f6 (x6 : Int32).toNatClampNeg) : Int32).toNatClampNeg), .int (f10 ((f16 (x6 : Int32).toNatClampNeg) : Int32).toNatClampNeg)]) (r := []) (v := (some (.int z20))) (h2 := h1) c213_135 qo213 (by decide) qK4_76 rfl rfl rfl (Nat.le_of_ble_eq_true rfl) e21 ?_
  refine qe_istore (ls2 := [some (.ref r0), some (.ref r1), some (.int x2), some (.ref r3), some (.int x4), some (.int x5), some (.int x6), some (.int x7), some (.int z20)]) c213_138 (Nat.le_of_ble_eq_true rfl) rfl ?_
  refine qe_aload_n c213_140 rfl ?_
  refine qe_aload_n c213_141 rfl ?_
  refine qe_getfield c213_142 qo213 qF4_32 e23 e25 ?_
  refine qe_iload c213_145 rfl ?_
  refine qe_iaload c213_147 e28 e29 ?_
  refine qe_iload c213_148 rfl ?_
  refine qe_iastore c213_150 e32 e33 ?_
  rw [e34]
  refine qe_aload_n c213_151 rfl ?_
  refine qe_aload_n c213_152 rfl ?_
  refine qe_getfield c213_153 qo213 qF4_35 e36 e38 ?_
  refine qe_iload c213_156 rfl ?_
  refine qe_iaload c213_158 e41 e42 ?_
  refine qe_iload c213_159 rfl ?_
  refine qe_iastore c213_161 e45 e46 ?_
  rw [e47]
  refine qe_iconst (x := 1) c213_162 (by decide) ?_
  refine qe_istore (ls2 := [some (.ref r0), some (.ref r1), some (.int x2), some (.ref r3), some (.int 1), some (.int x5), some (.int x6), some (.int x7), some (.int z20)]) c213_163 (Nat.le_of_ble_eq_true rfl) rfl ?_
  exact kk
theorem b213_165 {d : Nat} {q : Option Value × qH} {h : qH} {r0 : Nat} {r1 : Nat} {x2 : Int32} {r3 : Nat} {x4 : Int32} {x5 : Int32} {x6 : Int32} {x7 : Int32} {o8 : Option Value}   (kk : qE d 213 50 [some (.ref r0), some (.ref r1), some (.int x2), some (.ref r3), some (.int x4), some (.int x5), some (.int (x6 + 1)), some (.int x7), o8] [] h q): qE d 213 165 [some (.ref r0), some (.ref r1), some (.int x2), some (.ref r3), some (.int x4), some (.int x5), some (.int x6), some (.int x7), o8] [] h q := by
  refine qe_iinc (y := (x6 + 1)) (ls2 := [some (.ref r0), some (.ref r1), some (.int x2), some (.ref r3), some (.int x4), some (.int x5), some (.int (x6 + 1)), some (.int x7), o8]) c213_165 rfl (Nat.le_of_ble_eq_true rfl) rfl rfl ?_
  refine qe_goto (t := 50) c213_168 rfl ?_
  exact kk
theorem b213_171 {d : Nat} {q : Option Value × qH} {h : qH} {r0 : Nat} {r1 : Nat} {x2 : Int32} {r3 : Nat} {x4 : Int32} {x5 : Int32} {x6 : Int32} {o7 : Option Value} {o8 : Option Value}   (kk : qE d 213 30 [some (.ref r0), some (.ref r1), some (.int x2), some (.ref r3), some (.int x4), some (.int (x5 + 1)), some (.int x6), o7, o8] [] h q): qE d 213 171 [some (.ref r0), some (.ref r1), some (.int x2), some (.ref r3), some (.int x4), some (.int x5), some (.int x6), o7, o8] [] h q := by
  refine qe_iinc (y := (x5 + 1)) (ls2 := [some (.ref r0), some (.ref r1), some (.int x2), some (.ref r3), some (.int x4), some (.int (x5 + 1)), some (.int x6), o7, o8]) c213_171 rfl (Nat.le_of_ble_eq_true rfl) rfl rfl ?_
  refine qe_goto (t := 30) c213_174 rfl ?_
  exact kk
theorem b213_177 {d : Nat} {h : qH} {r0 : Nat} {r1 : Nat} {x2 : Int32} {r3 : Nat} {x4 : Int32} {x5 : Int32} {o6 : Option Value} {o7 : Option Value} {o8 : Option Value}   : qE d 213 177 [some (.ref r0), some (.ref r1), some (.int x2), some (.ref r3), some (.int x4), some (.int x5), o6, o7, o8] [] h (none, h) := by
  exact qe_vret c213_177 qr213
theorem b214_0F {d : Nat} {q : Option Value × qH} {h : qH} {r0 : Nat} {x1 : Int32}  (e1 : ¬ ((x1 : Int32) < 0)) (kk : qE d 214 4 [some (.ref r0), some (.int x1)] [] h q): qE d 214 0 [some (.ref r0), some (.int x1)] [] h q := by
  refine qe_iload_n c214_0 rfl ?_
  refine qe_if_lt_F (t := 16) c214_1 rfl e1 ?_
  exact kk
theorem b214_0T {d : Nat} {q : Option Value × qH} {h : qH} {r0 : Nat} {x1 : Int32}  (e1 : (x1 : Int32) < 0) (kk : qE d 214 16 [some (.ref r0), some (.int x1)] [] h q): qE d 214 0 [some (.ref r0), some (.int x1)] [] h q := by
  refine qe_iload_n c214_0 rfl ?_
  refine qe_if_lt_T (t := 16) c214_1 rfl e1 ?_
  exact kk
theorem b214_4F {d : Nat} {q : Option Value × qH} {h : qH} {r0 : Nat} {x1 : Int32} {fs1 : List Value} {y3 : Int32}  (e2 : h.2.2 r0 = some (.inr (4, fs1))) (e4 : fs1[0]? = some (.int y3)) (e5 : ¬ ((y3 : Int32) ≤ x1)) (kk : qE d 214 12 [some (.ref r0), some (.int x1)] [] h q): qE d 214 4 [some (.ref r0), some (.int x1)] [] h q := by
  refine qe_iload_n c214_4 rfl ?_
  refine qe_aload_n c214_5 rfl ?_
  refine qe_getfield c214_6 qo214 qF4_62 e2 e4 ?_
  refine qe_icmp_ge_F (t := 16) c214_9 rfl e5 ?_
  exact kk
theorem b214_4T {d : Nat} {q : Option Value × qH} {h : qH} {r0 : Nat} {x1 : Int32} {fs1 : List Value} {y3 : Int32}  (e2 : h.2.2 r0 = some (.inr (4, fs1))) (e4 : fs1[0]? = some (.int y3)) (e5 : (y3 : Int32) ≤ x1) (kk : qE d 214 16 [some (.ref r0), some (.int x1)] [] h q): qE d 214 4 [some (.ref r0), some (.int x1)] [] h q := by
  refine qe_iload_n c214_4 rfl ?_
  refine qe_aload_n c214_5 rfl ?_
  refine qe_getfield c214_6 qo214 qF4_62 e2 e4 ?_
  refine qe_icmp_ge_T (t := 16) c214_9 rfl e5 ?_
  exact kk
theorem b214_12 {d : Nat} {q : Option Value × qH} {h : qH} {r0 : Nat} {x1 : Int32}   (kk : qE d 214 17 [some (.ref r0), some (.int x1)] [.int 1] h q): qE d 214 12 [some (.ref r0), some (.int x1)] [] h q := by
  refine qe_iconst (x := 1) c214_12 (by decide) ?_
  refine qe_goto (t := 17) c214_13 rfl ?_
  exact kk
theorem b214_16 {d : Nat} {q : Option Value × qH} {h : qH} {r0 : Nat} {x1 : Int32}   (kk : qE d 214 17 [some (.ref r0), some (.int x1)] [.int 0] h q): qE d 214 16 [some (.ref r0), some (.int x1)] [] h q := by
  refine qe_iconst (x := 0) c214_16 (by decide) ?_
  exact kk
theorem b214_17 {d : Nat} {h : qH} {r0 : Nat} {x1 : Int32} {xs0 : Int32}  (e1 : (xs0 : Int32) = 0 ∨ (xs0 : Int32) = 1) : qE d 214 17 [some (.ref r0), some (.int x1)] [.int xs0] h (some (.int xs0), h) := by
  exact qe_zret c214_17 qr214 e1
theorem b215_0F {d : Nat} {q : Option Value × qH} {h : qH} {r0 : Nat} {x1 : Int32}  (e1 : ¬ ((x1 : Int32) < 0)) (kk : qE d 215 4 [some (.ref r0), some (.int x1)] [] h q): qE d 215 0 [some (.ref r0), some (.int x1)] [] h q := by
  refine qe_iload_n c215_0 rfl ?_
  refine qe_if_lt_F (t := 16) c215_1 rfl e1 ?_
  exact kk
theorem b215_0T {d : Nat} {q : Option Value × qH} {h : qH} {r0 : Nat} {x1 : Int32}  (e1 : (x1 : Int32) < 0) (kk : qE d 215 16 [some (.ref r0), some (.int x1)] [] h q): qE d 215 0 [some (.ref r0), some (.int x1)] [] h q := by
  refine qe_iload_n c215_0 rfl ?_
  refine qe_if_lt_T (t := 16) c215_1 rfl e1 ?_
  exact kk
theorem b215_4F {d : Nat} {q : Option Value × qH} {h : qH} {r0 : Nat} {x1 : Int32} {fs1 : List Value} {y3 : Int32}  (e2 : h.2.2 r0 = some (.inr (4, fs1))) (e4 : fs1[1]? = some (.int y3)) (e5 : ¬ ((y3 : Int32) ≤ x1)) (kk : qE d 215 12 [some (.ref r0), some (.int x1)] [] h q): qE d 215 4 [some (.ref r0), some (.int x1)] [] h q := by
  refine qe_iload_n c215_4 rfl ?_
  refine qe_aload_n c215_5 rfl ?_
  refine qe_getfield c215_6 qo215 qF4_65 e2 e4 ?_
  refine qe_icmp_ge_F (t := 16) c215_9 rfl e5 ?_
  exact kk
theorem b215_4T {d : Nat} {q : Option Value × qH} {h : qH} {r0 : Nat} {x1 : Int32} {fs1 : List Value} {y3 : Int32}  (e2 : h.2.2 r0 = some (.inr (4, fs1))) (e4 : fs1[1]? = some (.int y3)) (e5 : (y3 : Int32) ≤ x1) (kk : qE d 215 16 [some (.ref r0), some (.int x1)] [] h q): qE d 215 4 [some (.ref r0), some (.int x1)] [] h q := by
  refine qe_iload_n c215_4 rfl ?_
  refine qe_aload_n c215_5 rfl ?_
  refine qe_getfield c215_6 qo215 qF4_65 e2 e4 ?_
  refine qe_icmp_ge_T (t := 16) c215_9 rfl e5 ?_
  exact kk
theorem b215_12 {d : Nat} {q : Option Value × qH} {h : qH} {r0 : Nat} {x1 : Int32}   (kk : qE d 215 17 [some (.ref r0), some (.int x1)] [.int 1] h q): qE d 215 12 [some (.ref r0), some (.int x1)] [] h q := by
  refine qe_iconst (x := 1) c215_12 (by decide) ?_
  refine qe_goto (t := 17) c215_13 rfl ?_
  exact kk
theorem b215_16 {d : Nat} {q : Option Value × qH} {h : qH} {r0 : Nat} {x1 : Int32}   (kk : qE d 215 17 [some (.ref r0), some (.int x1)] [.int 0] h q): qE d 215 16 [some (.ref r0), some (.int x1)] [] h q := by
  refine qe_iconst (x := 0) c215_16 (by decide) ?_
  exact kk
theorem b215_17 {d : Nat} {h : qH} {r0 : Nat} {x1 : Int32} {xs0 : Int32}  (e1 : (xs0 : Int32) = 0 ∨ (xs0 : Int32) = 1) : qE d 215 17 [some (.ref r0), some (.int x1)] [.int xs0] h (some (.int xs0), h) := by
  exact qe_zret c215_17 qr215 e1
theorem b216_0F {d : Nat} {q : Option Value × qH} {h : qH} {r0 : Nat} {x1 : Int32}  (e1 : ¬ ((x1 : Int32) < 0)) (kk : qE d 216 4 [some (.ref r0), some (.int x1)] [] h q): qE d 216 0 [some (.ref r0), some (.int x1)] [] h q := by
  refine qe_iload_n c216_0 rfl ?_
  refine qe_if_lt_F (t := 16) c216_1 rfl e1 ?_
  exact kk
theorem b216_0T {d : Nat} {q : Option Value × qH} {h : qH} {r0 : Nat} {x1 : Int32}  (e1 : (x1 : Int32) < 0) (kk : qE d 216 16 [some (.ref r0), some (.int x1)] [] h q): qE d 216 0 [some (.ref r0), some (.int x1)] [] h q := by
  refine qe_iload_n c216_0 rfl ?_
  refine qe_if_lt_T (t := 16) c216_1 rfl e1 ?_
  exact kk
theorem b216_4F {d : Nat} {q : Option Value × qH} {h : qH} {r0 : Nat} {x1 : Int32} {fs1 : List Value} {y3 : Int32}  (e2 : h.2.2 r0 = some (.inr (4, fs1))) (e4 : fs1[2]? = some (.int y3)) (e5 : ¬ ((y3 : Int32) ≤ x1)) (kk : qE d 216 12 [some (.ref r0), some (.int x1)] [] h q): qE d 216 4 [some (.ref r0), some (.int x1)] [] h q := by
  refine qe_iload_n c216_4 rfl ?_
  refine qe_aload_n c216_5 rfl ?_
  refine qe_getfield c216_6 qo216 qF4_68 e2 e4 ?_
  refine qe_icmp_ge_F (t := 16) c216_9 rfl e5 ?_
  exact kk
theorem b216_4T {d : Nat} {q : Option Value × qH} {h : qH} {r0 : Nat} {x1 : Int32} {fs1 : List Value} {y3 : Int32}  (e2 : h.2.2 r0 = some (.inr (4, fs1))) (e4 : fs1[2]? = some (.int y3)) (e5 : (y3 : Int32) ≤ x1) (kk : qE d 216 16 [some (.ref r0), some (.int x1)] [] h q): qE d 216 4 [some (.ref r0), some (.int x1)] [] h q := by
  refine qe_iload_n c216_4 rfl ?_
  refine qe_aload_n c216_5 rfl ?_
  refine qe_getfield c216_6 qo216 qF4_68 e2 e4 ?_
  refine qe_icmp_ge_T (t := 16) c216_9 rfl e5 ?_
  exact kk
theorem b216_12 {d : Nat} {q : Option Value × qH} {h : qH} {r0 : Nat} {x1 : Int32}   (kk : qE d 216 17 [some (.ref r0), some (.int x1)] [.int 1] h q): qE d 216 12 [some (.ref r0), some (.int x1)] [] h q := by
  refine qe_iconst (x := 1) c216_12 (by decide) ?_
  refine qe_goto (t := 17) c216_13 rfl ?_
  exact kk
theorem b216_16 {d : Nat} {q : Option Value × qH} {h : qH} {r0 : Nat} {x1 : Int32}   (kk : qE d 216 17 [some (.ref r0), some (.int x1)] [.int 0] h q): qE d 216 16 [some (.ref r0), some (.int x1)] [] h q := by
  refine qe_iconst (x := 0) c216_16 (by decide) ?_
  exact kk
theorem b216_17 {d : Nat} {h : qH} {r0 : Nat} {x1 : Int32} {xs0 : Int32}  (e1 : (xs0 : Int32) = 0 ∨ (xs0 : Int32) = 1) : qE d 216 17 [some (.ref r0), some (.int x1)] [.int xs0] h (some (.int xs0), h) := by
  exact qe_zret c216_17 qr216 e1
theorem b217_0 {d : Nat} {h : qH} {r0 : Nat} {fs1 : List Value} {h1 : qH} {h2 : qH} {h3 : qH} {fs7 : List Value} {h4 : qH} {h5 : qH} {fs12 : List Value} {h6 : qH} {h7 : qH} {fs17 : List Value} {h8 : qH} {h9 : qH} {fs22 : List Value} {h10 : qH} {h11 : qH} {fs27 : List Value} {h12 : qH} {h13 : qH} {fs32 : List Value} {h14 : qH} {h15 : qH} {fs37 : List Value} {h16 : qH} {h17 : qH} {fs42 : List Value} {h18 : qH} {h19 : qH} {fs47 : List Value} {h20 : qH} {h21 : qH} {fs52 : List Value} {h22 : qH} {h23 : qH} {fs57 : List Value} {h24 : qH} {h25 : qH} {fs62 : List Value} {h26 : qH} {h27 : qH} {fs67 : List Value} {h28 : qH} {h29 : qH} {fs72 : List Value} {h30 : qH} (hd0 : 0 < d) (e2 : h.2.2 r0 = some (.inr (4, fs1))) (e3 : 3 < fs1.length) (e4 : qset h r0 (.inr (4, fs1.set 3 (.int 100))) = h1) (e5 : qnew h1 12 (.inr (10, [.int 0, .int 0, .int 0, .int 0, .int 0, .int 0, .null, .null, .null, .null, .null, .null])) = h2) (e6 : qCall d 18 [.ref h1.1] h2 (none, h3)) (e8 : h3.2.2 r0 = some (.inr (4, fs7))) (e9 : 4 < fs7.length) (e10 : qset h3 r0 (.inr (4, fs7.set 4 (.ref h1.1))) = h4) (e11 : qnew h4 8 (.inl (0, 8, .inl fun _ => 0)) = h5) (e13 : h5.2.2 r0 = some (.inr (4, fs12))) (e14 : 5 < fs12.length) (e15 : qset h5 r0 (.inr (4, fs12.set 5 (.ref h4.1))) = h6) (e16 : qnew h6 8 (.inl (0, 8, .inl fun _ => 0)) = h7) (e18 : h7.2.2 r0 = some (.inr (4, fs17))) (e19 : 6 < fs17.length) (e20 : qset h7 r0 (.inr (4, fs17.set 6 (.ref h6.1))) = h8) (e21 : qnew h8 8 (.inl (0, 8, .inl fun _ => 0)) = h9) (e23 : h9.2.2 r0 = some (.inr (4, fs22))) (e24 : 7 < fs22.length) (e25 : qset h9 r0 (.inr (4, fs22.set 7 (.ref h8.1))) = h10) (e26 : qnew h10 14 (.inl (0, 14, .inl fun _ => 0)) = h11) (e28 : h11.2.2 r0 = some (.inr (4, fs27))) (e29 : 8 < fs27.length) (e30 : qset h11 r0 (.inr (4, fs27.set 8 (.ref h10.1))) = h12) (e31 : qnew h12 14 (.inl (0, 14, .inl fun _ => 0)) = h13) (e33 : h13.2.2 r0 = some (.inr (4, fs32))) (e34 : 9 < fs32.length) (e35 : qset h13 r0 (.inr (4, fs32.set 9 (.ref h12.1))) = h14) (e36 : qnew h14 14 (.inl (0, 14, .inl fun _ => 0)) = h15) (e38 : h15.2.2 r0 = some (.inr (4, fs37))) (e39 : 10 < fs37.length) (e40 : qset h15 r0 (.inr (4, fs37.set 10 (.ref h14.1))) = h16) (e41 : qnew h16 14 (.inl (0, 14, .inl fun _ => 0)) = h17) (e43 : h17.2.2 r0 = some (.inr (4, fs42))) (e44 : 11 < fs42.length) (e45 : qset h17 r0 (.inr (4, fs42.set 11 (.ref h16.1))) = h18) (e46 : qnew h18 14 (.inl (0, 14, .inl fun _ => 0)) = h19) (e48 : h19.2.2 r0 = some (.inr (4, fs47))) (e49 : 12 < fs47.length) (e50 : qset h19 r0 (.inr (4, fs47.set 12 (.ref h18.1))) = h20) (e51 : qnew h20 14 (.inl (0, 14, .inl fun _ => 0)) = h21) (e53 : h21.2.2 r0 = some (.inr (4, fs52))) (e54 : 13 < fs52.length) (e55 : qset h21 r0 (.inr (4, fs52.set 13 (.ref h20.1))) = h22) (e56 : qnew h22 9 (.inl (0, 9, .inl fun _ => 0)) = h23) (e58 : h23.2.2 r0 = some (.inr (4, fs57))) (e59 : 14 < fs57.length) (e60 : qset h23 r0 (.inr (4, fs57.set 14 (.ref h22.1))) = h24) (e61 : qnew h24 9 (.inl (0, 9, .inl fun _ => 0)) = h25) (e63 : h25.2.2 r0 = some (.inr (4, fs62))) (e64 : 15 < fs62.length) (e65 : qset h25 r0 (.inr (4, fs62.set 15 (.ref h24.1))) = h26) (e66 : qnew h26 9 (.inl (0, 9, .inl fun _ => 0)) = h27) (e68 : h27.2.2 r0 = some (.inr (4, fs67))) (e69 : 16 < fs67.length) (e70 : qset h27 r0 (.inr (4, fs67.set 16 (.ref h26.1))) = h28) (e71 : qnew h28 9 (.inl (0, 9, .inl fun _ => 0)) = h29) (e73 : h29.2.2 r0 = some (.inr (4, fs72))) (e74 : 17 < fs72.length) (e75 : qset h29 r0 (.inr (4, fs72.set 17 (.ref h28.1))) = h30) : qE d 217 0 [some (.ref r0)] [] h (none, h30) := by
  refine qe_aload_n c217_0 rfl ?_
  refine qe_objinit c217_1 qo217 (by decide +kernel) (by decide) hd0 (Nat.le_of_ble_eq_true rfl) ?_
  refine qe_aload_n c217_4 rfl ?_
  refine qe_bipush (x := 100) c217_5 (by decide) ?_
  refine qe_putfield c217_7 qo217 qF4_9 qz4_3 e2 e3 (by rw [qy4_3]; rfl) ?_
  rw [e4]
  refine qe_aload_n c217_10 rfl ?_
  refine qe_new (fs := [.int 0, .int 0, .int 0, .int 0, .int 0, .int 0, .null, .null, .null, .null, .null, .null]) (N := 12) c217_11 qo217 qN4_15 (by decide +kernel) (by decide +kernel) ?_
  rw [e5]
  refine qe_dup c217_14 rfl ?_
  refine qe_special (b := h1.1) (as := []) (r := [.ref h1.1, .ref r0]) (v := none) (h2 := h3) c217_15 qo217 (by decide +kernel) qK4_17 rfl ⟨rfl, Or.inr rfl⟩ rfl (Nat.le_of_ble_eq_true rfl) e6 ?_
  refine qe_putfield c217_18 qo217 qF4_18 qz4_4 e8 e9 (by rw [qy4_4]; rfl) ?_
  rw [e10]
  refine qe_aload_n c217_21 rfl ?_
  refine qe_bipush (x := 8) c217_22 (by decide) ?_
  refine qe_new_int c217_24 (by decide) ?_
  rw [show Int32.toNatClampNeg 8 = 8 from by decide]
  rw [e11]
  refine qe_putfinal c217_26 qo217 qF4_22 (by decide +kernel) e13 e14 (by rw [qy4_5]; rfl) ?_
  rw [e15]
  refine qe_aload_n c217_29 rfl ?_
  refine qe_bipush (x := 8) c217_30 (by decide) ?_
  refine qe_new_int c217_32 (by decide) ?_
  rw [show Int32.toNatClampNeg 8 = 8 from by decide]
  rw [e16]
  refine qe_putfinal c217_34 qo217 qF4_26 (by decide +kernel) e18 e19 (by rw [qy4_6]; rfl) ?_
  rw [e20]
  refine qe_aload_n c217_37 rfl ?_
  refine qe_bipush (x := 8) c217_38 (by decide) ?_
  refine qe_new_int c217_40 (by decide) ?_
  rw [show Int32.toNatClampNeg 8 = 8 from by decide]
  rw [e21]
  refine qe_putfinal c217_42 qo217 qF4_29 (by decide +kernel) e23 e24 (by rw [qy4_7]; rfl) ?_
  rw [e25]
  refine qe_aload_n c217_45 rfl ?_
  refine qe_bipush (x := 14) c217_46 (by decide) ?_
  refine qe_new_int c217_48 (by decide) ?_
  rw [show Int32.toNatClampNeg 14 = 14 from by decide]
  rw [e26]
  refine qe_putfinal c217_50 qo217 qF4_32 (by decide +kernel) e28 e29 (by rw [qy4_8]; rfl) ?_
  rw [e30]
  refine qe_aload_n c217_53 rfl ?_
  refine qe_bipush (x := 14) c217_54 (by decide) ?_
  refine qe_new_int c217_56 (by decide) ?_
  rw [show Int32.toNatClampNeg 14 = 14 from by decide]
  rw [e31]
  refine qe_putfinal c217_58 qo217 qF4_35 (by decide +kernel) e33 e34 (by rw [qy4_9]; rfl) ?_
  rw [e35]
  refine qe_aload_n c217_61 rfl ?_
  refine qe_bipush (x := 14) c217_62 (by decide) ?_
  refine qe_new_int c217_64 (by decide) ?_
  rw [show Int32.toNatClampNeg 14 = 14 from by decide]
  rw [e36]
  refine qe_putfinal c217_66 qo217 qF4_38 (by decide +kernel) e38 e39 (by rw [qy4_10]; rfl) ?_
  rw [e40]
  refine qe_aload_n c217_69 rfl ?_
  refine qe_bipush (x := 14) c217_70 (by decide) ?_
  refine qe_new_int c217_72 (by decide) ?_
  rw [show Int32.toNatClampNeg 14 = 14 from by decide]
  rw [e41]
  refine qe_putfinal c217_74 qo217 qF4_41 (by decide +kernel) e43 e44 (by rw [qy4_11]; rfl) ?_
  rw [e45]
  refine qe_aload_n c217_77 rfl ?_
  refine qe_bipush (x := 14) c217_78 (by decide) ?_
  refine qe_new_int c217_80 (by decide) ?_
  rw [show Int32.toNatClampNeg 14 = 14 from by decide]
  rw [e46]
  refine qe_putfinal c217_82 qo217 qF4_44 (by decide +kernel) e48 e49 (by rw [qy4_12]; rfl) ?_
  rw [e50]
  refine qe_aload_n c217_85 rfl ?_
  refine qe_bipush (x := 14) c217_86 (by decide) ?_
  refine qe_new_int c217_88 (by decide) ?_
  rw [show Int32.toNatClampNeg 14 = 14 from by decide]
  rw [e51]
  refine qe_putfinal c217_90 qo217 qF4_47 (by decide +kernel) e53 e54 (by rw [qy4_13]; rfl) ?_
  rw [e55]
  refine qe_aload_n c217_93 rfl ?_
  refine qe_bipush (x := 9) c217_94 (by decide) ?_
  refine qe_new_int c217_96 (by decide) ?_
  rw [show Int32.toNatClampNeg 9 = 9 from by decide]
  rw [e56]
  refine qe_putfinal c217_98 qo217 qF4_50 (by decide +kernel) e58 e59 (by rw [qy4_14]; rfl) ?_
  rw [e60]
  refine qe_aload_n c217_101 rfl ?_
  refine qe_bipush (x := 9) c217_102 (by decide) ?_
  refine qe_new_int c217_104 (by decide) ?_
  rw [show Int32.toNatClampNeg 9 = 9 from by decide]
  rw [e61]
  refine qe_putfinal c217_106 qo217 qF4_53 (by decide +kernel) e63 e64 (by rw [qy4_15]; rfl) ?_
  rw [e65]
  refine qe_aload_n c217_109 rfl ?_
  refine qe_bipush (x := 9) c217_110 (by decide) ?_
  refine qe_new_int c217_112 (by decide) ?_
  rw [show Int32.toNatClampNeg 9 = 9 from by decide]
  rw [e66]
  refine qe_putfinal c217_114 qo217 qF4_56 (by decide +kernel) e68 e69 (by rw [qy4_16]; rfl) ?_
  rw [e70]
  refine qe_aload_n c217_117 rfl ?_
  refine qe_bipush (x := 9) c217_118 (by decide) ?_
  refine qe_new_int c217_120 (by decide) ?_
  rw [show Int32.toNatClampNeg 9 = 9 from by decide]
  rw [e71]
  refine qe_putfinal c217_122 qo217 qF4_59 (by decide +kernel) e73 e74 (by rw [qy4_17]; rfl) ?_
  rw [e75]
  exact qe_vret c217_125 qr217
theorem b218_0F {d : Nat} {q : Option Value × qH} {h : qH} {r0 : Nat} {x1 : Int32} {x2 : Int32} {fs1 : List Value} {y3 : Nat} {y5 : Nat} {n7 : Nat} {f8 : Nat → Int32} {n11 : Nat} {f12 : Nat → Int32}  (e2 : h.2.2 r0 = some (.inr (4, fs1))) (e4 : fs1[5]? = some (.ref y3)) (e6 : fs1[8]? = some (.ref y5)) (e9 : h.2.2 y5 = some (.inl (0, n7, .inl f8))) (e10 : 0 ≤ (x1 : Int32).toInt ∧ (x1 : Int32).toInt < (n7 : Nat)) (e13 : h.2.2 y3 = some (.inl (0, n11, .inl f12))) (e14 : 0 ≤ ((f8 (x1 : Int32).toNatClampNeg) : Int32).toInt ∧ ((f8 (x1 : Int32).toNatClampNeg) : Int32).toInt < (n11 : Nat)) (e15 : ¬ (((f12 ((f8 (x1 : Int32).toNatClampNeg) : Int32).toNatClampNeg) : Int32) = x2)) (kk : qE d 218 15 [some (.ref r0), some (.int x1), some (.int x2)] [] h q): qE d 218 0 [some (.ref r0), some (.int x1), some (.int x2)] [] h q := by
  refine qe_aload_n c218_0 rfl ?_
  refine qe_getfield c218_1 qo218 qF4_22 e2 e4 ?_
  refine qe_aload_n c218_4 rfl ?_
  refine qe_getfield c218_5 qo218 qF4_32 e2 e6 ?_
  refine qe_iload_n c218_8 rfl ?_
  refine qe_iaload c218_9 e9 e10 ?_
  refine qe_iaload c218_10 e13 e14 ?_
  refine qe_iload_n c218_11 rfl ?_
  refine qe_icmp_eq_F (t := 30) c218_12 rfl e15 ?_
  exact kk
theorem b218_0T {d : Nat} {q : Option Value × qH} {h : qH} {r0 : Nat} {x1 : Int32} {x2 : Int32} {fs1 : List Value} {y3 : Nat} {y5 : Nat} {n7 : Nat} {f8 : Nat → Int32} {n11 : Nat} {f12 : Nat → Int32}  (e2 : h.2.2 r0 = some (.inr (4, fs1))) (e4 : fs1[5]? = some (.ref y3)) (e6 : fs1[8]? = some (.ref y5)) (e9 : h.2.2 y5 = some (.inl (0, n7, .inl f8))) (e10 : 0 ≤ (x1 : Int32).toInt ∧ (x1 : Int32).toInt < (n7 : Nat)) (e13 : h.2.2 y3 = some (.inl (0, n11, .inl f12))) (e14 : 0 ≤ ((f8 (x1 : Int32).toNatClampNeg) : Int32).toInt ∧ ((f8 (x1 : Int32).toNatClampNeg) : Int32).toInt < (n11 : Nat)) (e15 : ((f12 ((f8 (x1 : Int32).toNatClampNeg) : Int32).toNatClampNeg) : Int32) = x2) (kk : qE d 218 30 [some (.ref r0), some (.int x1), some (.int x2)] [] h q): qE d 218 0 [some (.ref r0), some (.int x1), some (.int x2)] [] h q := by
  refine qe_aload_n c218_0 rfl ?_
  refine qe_getfield c218_1 qo218 qF4_22 e2 e4 ?_
  refine qe_aload_n c218_4 rfl ?_
  refine qe_getfield c218_5 qo218 qF4_32 e2 e6 ?_
  refine qe_iload_n c218_8 rfl ?_
  refine qe_iaload c218_9 e9 e10 ?_
  refine qe_iaload c218_10 e13 e14 ?_
  refine qe_iload_n c218_11 rfl ?_
  refine qe_icmp_eq_T (t := 30) c218_12 rfl e15 ?_
  exact kk
theorem b218_15F {d : Nat} {q : Option Value × qH} {h : qH} {r0 : Nat} {x1 : Int32} {x2 : Int32} {fs1 : List Value} {y3 : Nat} {y5 : Nat} {n7 : Nat} {f8 : Nat → Int32} {n11 : Nat} {f12 : Nat → Int32}  (e2 : h.2.2 r0 = some (.inr (4, fs1))) (e4 : fs1[5]? = some (.ref y3)) (e6 : fs1[9]? = some (.ref y5)) (e9 : h.2.2 y5 = some (.inl (0, n7, .inl f8))) (e10 : 0 ≤ (x1 : Int32).toInt ∧ (x1 : Int32).toInt < (n7 : Nat)) (e13 : h.2.2 y3 = some (.inl (0, n11, .inl f12))) (e14 : 0 ≤ ((f8 (x1 : Int32).toNatClampNeg) : Int32).toInt ∧ ((f8 (x1 : Int32).toNatClampNeg) : Int32).toInt < (n11 : Nat)) (e15 : ((f12 ((f8 (x1 : Int32).toNatClampNeg) : Int32).toNatClampNeg) : Int32) = x2) (kk : qE d 218 30 [some (.ref r0), some (.int x1), some (.int x2)] [] h q): qE d 218 15 [some (.ref r0), some (.int x1), some (.int x2)] [] h q := by
  refine qe_aload_n c218_15 rfl ?_
  refine qe_getfield c218_16 qo218 qF4_22 e2 e4 ?_
  refine qe_aload_n c218_19 rfl ?_
  refine qe_getfield c218_20 qo218 qF4_35 e2 e6 ?_
  refine qe_iload_n c218_23 rfl ?_
  refine qe_iaload c218_24 e9 e10 ?_
  refine qe_iaload c218_25 e13 e14 ?_
  refine qe_iload_n c218_26 rfl ?_
  refine qe_icmp_ne_F (t := 34) c218_27 rfl e15 ?_
  exact kk
theorem b218_15T {d : Nat} {q : Option Value × qH} {h : qH} {r0 : Nat} {x1 : Int32} {x2 : Int32} {fs1 : List Value} {y3 : Nat} {y5 : Nat} {n7 : Nat} {f8 : Nat → Int32} {n11 : Nat} {f12 : Nat → Int32}  (e2 : h.2.2 r0 = some (.inr (4, fs1))) (e4 : fs1[5]? = some (.ref y3)) (e6 : fs1[9]? = some (.ref y5)) (e9 : h.2.2 y5 = some (.inl (0, n7, .inl f8))) (e10 : 0 ≤ (x1 : Int32).toInt ∧ (x1 : Int32).toInt < (n7 : Nat)) (e13 : h.2.2 y3 = some (.inl (0, n11, .inl f12))) (e14 : 0 ≤ ((f8 (x1 : Int32).toNatClampNeg) : Int32).toInt ∧ ((f8 (x1 : Int32).toNatClampNeg) : Int32).toInt < (n11 : Nat)) (e15 : ¬ (((f12 ((f8 (x1 : Int32).toNatClampNeg) : Int32).toNatClampNeg) : Int32) = x2)) (kk : qE d 218 34 [some (.ref r0), some (.int x1), some (.int x2)] [] h q): qE d 218 15 [some (.ref r0), some (.int x1), some (.int x2)] [] h q := by
  refine qe_aload_n c218_15 rfl ?_
  refine qe_getfield c218_16 qo218 qF4_22 e2 e4 ?_
  refine qe_aload_n c218_19 rfl ?_
  refine qe_getfield c218_20 qo218 qF4_35 e2 e6 ?_
  refine qe_iload_n c218_23 rfl ?_
  refine qe_iaload c218_24 e9 e10 ?_
  refine qe_iaload c218_25 e13 e14 ?_
  refine qe_iload_n c218_26 rfl ?_
  refine qe_icmp_ne_T (t := 34) c218_27 rfl e15 ?_
  exact kk
theorem b218_30 {d : Nat} {q : Option Value × qH} {h : qH} {r0 : Nat} {x1 : Int32} {x2 : Int32}   (kk : qE d 218 35 [some (.ref r0), some (.int x1), some (.int x2)] [.int 1] h q): qE d 218 30 [some (.ref r0), some (.int x1), some (.int x2)] [] h q := by
  refine qe_iconst (x := 1) c218_30 (by decide) ?_
  refine qe_goto (t := 35) c218_31 rfl ?_
  exact kk
theorem b218_34 {d : Nat} {q : Option Value × qH} {h : qH} {r0 : Nat} {x1 : Int32} {x2 : Int32}   (kk : qE d 218 35 [some (.ref r0), some (.int x1), some (.int x2)] [.int 0] h q): qE d 218 34 [some (.ref r0), some (.int x1), some (.int x2)] [] h q := by
  refine qe_iconst (x := 0) c218_34 (by decide) ?_
  exact kk
theorem b218_35 {d : Nat} {h : qH} {r0 : Nat} {x1 : Int32} {x2 : Int32} {xs0 : Int32}  (e1 : (xs0 : Int32) = 0 ∨ (xs0 : Int32) = 1) : qE d 218 35 [some (.ref r0), some (.int x1), some (.int x2)] [.int xs0] h (some (.int xs0), h) := by
  exact qe_zret c218_35 qr218 e1
theorem b219_0 {d : Nat} {h : qH} {r0 : Nat} {r1 : Nat} {fs1 : List Value} {y3 : Nat} {fs5 : List Value} {h1 : qH} {fs8 : List Value} {h2 : qH}  (e2 : h.2.2 r0 = some (.inr (5, fs1))) (e4 : fs1[0]? = some (.ref y3)) (e6 : h.2.2 y3 = some (.inr (8, fs5))) (e7 : qCall d 241 [.ref y3, .ref r1] h (none, h1)) (e9 : h1.2.2 r0 = some (.inr (5, fs8))) (e10 : 6 < fs8.length) (e11 : qset h1 r0 (.inr (5, fs8.set 6 (.int 1))) = h2) : qE d 219 0 [some (.ref r0), some (.ref r1)] [] h (none, h2) := by
  refine qe_aload_n c219_0 rfl ?_
  refine qe_getfield c219_1 qo219 qF5_12 e2 e4 ?_
  refine qe_aload_n c219_4 rfl ?_
  refine qe_virtual (b := y3) (as := [.ref r1]) (r := []) (v := none) (h2 := h1) c219_5 qo219 qK5_31 rfl rfl rfl (by rw [qo241]; exact e6) (Nat.le_of_ble_eq_true rfl) e7 ?_
  refine qe_aload_n c219_8 rfl ?_
  refine qe_iconst (x := 1) c219_9 (by decide) ?_
  refine qe_putfield c219_10 qo219 qF5_35 qz5_6 e9 e10 (by rw [qy5_6]; exact decide_eq_true (p := (1 : Int32) = 0 ∨ (1 : Int32) = 1) (by decide)) ?_
  rw [e11]
  exact qe_vret c219_13 qr219
theorem b220_0 {d : Nat} {q : Option Value × qH} {h : qH} {r0 : Nat} {r1 : Nat}   (kk : qE d 220 2 [some (.ref r0), some (.ref r1), some (.int 0)] [] h q): qE d 220 0 [some (.ref r0), some (.ref r1), none] [] h q := by
  refine qe_iconst (x := 0) c220_0 (by decide) ?_
  refine qe_istore_n (ls2 := [some (.ref r0), some (.ref r1), some (.int 0)]) c220_1 (Nat.le_of_ble_eq_true rfl) rfl ?_
  exact kk
theorem b220_2F {d : Nat} {q : Option Value × qH} {h : qH} {r0 : Nat} {r1 : Nat} {x2 : Int32} {fs1 : List Value} {y3 : Int32}  (e2 : h.2.2 r1 = some (.inr (4, fs1))) (e4 : fs1[1]? = some (.int y3)) (e5 : ¬ ((y3 : Int32) ≤ x2)) (kk : qE d 220 10 [some (.ref r0), some (.ref r1), some (.int x2)] [] h q): qE d 220 2 [some (.ref r0), some (.ref r1), some (.int x2)] [] h q := by
  refine qe_iload_n c220_2 rfl ?_
  refine qe_aload_n c220_3 rfl ?_
  refine qe_getfield c220_4 qo220 qF5_95 e2 e4 ?_
  refine qe_icmp_ge_F (t := 165) c220_7 rfl e5 ?_
  exact kk
theorem b220_2T {d : Nat} {q : Option Value × qH} {h : qH} {r0 : Nat} {r1 : Nat} {x2 : Int32} {fs1 : List Value} {y3 : Int32}  (e2 : h.2.2 r1 = some (.inr (4, fs1))) (e4 : fs1[1]? = some (.int y3)) (e5 : (y3 : Int32) ≤ x2) (kk : qE d 220 165 [some (.ref r0), some (.ref r1), some (.int x2)] [] h q): qE d 220 2 [some (.ref r0), some (.ref r1), some (.int x2)] [] h q := by
  refine qe_iload_n c220_2 rfl ?_
  refine qe_aload_n c220_3 rfl ?_
  refine qe_getfield c220_4 qo220 qF5_95 e2 e4 ?_
  refine qe_icmp_ge_T (t := 165) c220_7 rfl e5 ?_
  exact kk
theorem b220_10F {d : Nat} {q : Option Value × qH} {h : qH} {r0 : Nat} {r1 : Nat} {x2 : Int32} {fs1 : List Value} {y3 : Nat} {fs5 : List Value} {y7 : Nat} {n9 : Nat} {f10 : Nat → Int32}  (e2 : h.2.2 r0 = some (.inr (5, fs1))) (e4 : fs1[0]? = some (.ref y3)) (e6 : h.2.2 y3 = some (.inr (8, fs5))) (e8 : fs5[5]? = some (.ref y7)) (e11 : h.2.2 y7 = some (.inl (0, n9, .inl f10))) (e12 : 0 ≤ (x2 : Int32).toInt ∧ (x2 : Int32).toInt < (n9 : Nat)) (e13 : ¬ (((f10 (x2 : Int32).toNatClampNeg) : Int32) = 0)) (kk : qE d 220 22 [some (.ref r0), some (.ref r1), some (.int x2)] [] h q): qE d 220 10 [some (.ref r0), some (.ref r1), some (.int x2)] [] h q := by
  refine qe_aload_n c220_10 rfl ?_
  refine qe_getfield c220_11 qo220 qF5_12 e2 e4 ?_
  refine qe_getfield c220_14 qo220 qF5_100 e6 e8 ?_
  refine qe_iload_n c220_17 rfl ?_
  refine qe_iaload c220_18 e11 e12 ?_
  refine qe_if_eq_F (t := 25) c220_19 rfl e13 ?_
  exact kk
theorem b220_10T {d : Nat} {q : Option Value × qH} {h : qH} {r0 : Nat} {r1 : Nat} {x2 : Int32} {fs1 : List Value} {y3 : Nat} {fs5 : List Value} {y7 : Nat} {n9 : Nat} {f10 : Nat → Int32}  (e2 : h.2.2 r0 = some (.inr (5, fs1))) (e4 : fs1[0]? = some (.ref y3)) (e6 : h.2.2 y3 = some (.inr (8, fs5))) (e8 : fs5[5]? = some (.ref y7)) (e11 : h.2.2 y7 = some (.inl (0, n9, .inl f10))) (e12 : 0 ≤ (x2 : Int32).toInt ∧ (x2 : Int32).toInt < (n9 : Nat)) (e13 : ((f10 (x2 : Int32).toNatClampNeg) : Int32) = 0) (kk : qE d 220 25 [some (.ref r0), some (.ref r1), some (.int x2)] [] h q): qE d 220 10 [some (.ref r0), some (.ref r1), some (.int x2)] [] h q := by
  refine qe_aload_n c220_10 rfl ?_
  refine qe_getfield c220_11 qo220 qF5_12 e2 e4 ?_
  refine qe_getfield c220_14 qo220 qF5_100 e6 e8 ?_
  refine qe_iload_n c220_17 rfl ?_
  refine qe_iaload c220_18 e11 e12 ?_
  refine qe_if_eq_T (t := 25) c220_19 rfl e13 ?_
  exact kk
theorem b220_22 {d : Nat} {q : Option Value × qH} {h : qH} {r0 : Nat} {r1 : Nat} {x2 : Int32}   (kk : qE d 220 159 [some (.ref r0), some (.ref r1), some (.int x2)] [] h q): qE d 220 22 [some (.ref r0), some (.ref r1), some (.int x2)] [] h q := by
  refine qe_goto (t := 159) c220_22 rfl ?_
  exact kk
theorem b220_25F {d : Nat} {q : Option Value × qH} {h : qH} {r0 : Nat} {r1 : Nat} {x2 : Int32} {fs1 : List Value} {y3 : Nat} {n5 : Nat} {f6 : Nat → Int64} {h1 : qH} {fs10 : List Value} {y12 : Nat} {fs14 : List Value} {y16 : Nat} {y18 : Nat} {n20 : Nat} {f21 : Nat → Int32} {n24 : Nat} {f25 : Nat → Int32} {n28 : Nat} {f29 : Nat → Int64} {h2 : qH} {fs33 : List Value} {y35 : Nat} {y37 : Nat} {fs39 : List Value} {y41 : Nat} {fs43 : List Value} {y45 : Nat} {n47 : Nat} {f48 : Nat → Int32} {n51 : Nat} {f52 : Nat → Int32} {n55 : Nat} {f56 : Nat → Int64} {h3 : qH} {fs60 : List Value} {y62 : Nat} {y64 : Nat} {fs66 : List Value} {y68 : Nat} {n70 : Nat} {f71 : Nat → Int64} {h4 : qH} {z74 : Int64} {n76 : Nat} {f77 : Nat → Int64} {h5 : qH} {fs81 : List Value} {y83 : Nat} {fs85 : List Value} {y87 : Nat} {n89 : Nat} {f90 : Nat → Int32} {n93 : Nat} {f94 : Nat → Int64} {h6 : qH} {fs98 : List Value} {y100 : Nat} {y102 : Nat} {fs104 : List Value} {y106 : Nat} {n108 : Nat} {f109 : Nat → Int32} {n112 : Nat} {f113 : Nat → Int64} {h7 : qH} {fs117 : List Value} {y119 : Nat} {fs121 : List Value} {y123 : Nat} {fs125 : List Value} {h8 : qH} {z127 : Int32}  (e2 : h.2.2 r0 = some (.inr (5, fs1))) (e4 : fs1[7]? = some (.ref y3)) (e7 : h.2.2 y3 = some (.inl (2, n5, .inr (.inl f6)))) (e8 : 0 ≤ (1 : Int32).toInt ∧ (1 : Int32).toInt < (n5 : Nat)) (e9 : qset h y3 (.inl (2, n5, .inr (.inl (vp_updL f6 ((1 : Int32).toNatClampNeg) ((x2 : Int32).toInt64))))) = h1) (e11 : h1.2.2 r0 = some (.inr (5, fs10))) (e13 : fs10[7]? = some (.ref y12)) (e15 : h1.2.2 r1 = some (.inr (4, fs14))) (e17 : fs14[5]? = some (.ref y16)) (e19 : fs14[8]? = some (.ref y18)) (e22 : h1.2.2 y18 = some (.inl (0, n20, .inl f21))) (e23 : 0 ≤ (x2 : Int32).toInt ∧ (x2 : Int32).toInt < (n20 : Nat)) (e26 : h1.2.2 y16 = some (.inl (0, n24, .inl f25))) (e27 : 0 ≤ ((f21 (x2 : Int32).toNatClampNeg) : Int32).toInt ∧ ((f21 (x2 : Int32).toNatClampNeg) : Int32).toInt < (n24 : Nat)) (e30 : h1.2.2 y12 = some (.inl (2, n28, .inr (.inl f29)))) (e31 : 0 ≤ (2 : Int32).toInt ∧ (2 : Int32).toInt < (n28 : Nat)) (e32 : qset h1 y12 (.inl (2, n28, .inr (.inl (vp_updL f29 ((2 : Int32).toNatClampNeg) (((f25 ((f21 (x2 : Int32).toNatClampNeg) : Int32).toNatClampNeg) : Int32).toInt64))))) = h2) (e34 : h2.2.2 r0 = some (.inr (5, fs33))) (e36 : fs33[7]? = some (.ref y35)) (e38 : fs33[1]? = some (.ref y37)) (e40 : h2.2.2 y37 = some (.inr (7, fs39))) (e42 : fs39[5]? = some (.ref y41)) (e44 : h2.2.2 r1 = some (.inr (4, fs43))) (e46 : fs43[8]? = some (.ref y45)) (e49 : h2.2.2 y45 = some (.inl (0, n47, .inl f48))) (e50 : 0 ≤ (x2 : Int32).toInt ∧ (x2 : Int32).toInt < (n47 : Nat)) (e53 : h2.2.2 y41 = some (.inl (0, n51, .inl f52))) (e54 : 0 ≤ ((f48 (x2 : Int32).toNatClampNeg) : Int32).toInt ∧ ((f48 (x2 : Int32).toNatClampNeg) : Int32).toInt < (n51 : Nat)) (e57 : h2.2.2 y35 = some (.inl (2, n55, .inr (.inl f56)))) (e58 : 0 ≤ (3 : Int32).toInt ∧ (3 : Int32).toInt < (n55 : Nat)) (e59 : qset h2 y35 (.inl (2, n55, .inr (.inl (vp_updL f56 ((3 : Int32).toNatClampNeg) (((f52 ((f48 (x2 : Int32).toNatClampNeg) : Int32).toNatClampNeg) : Int32).toInt64))))) = h3) (e61 : h3.2.2 r0 = some (.inr (5, fs60))) (e63 : fs60[7]? = some (.ref y62)) (e65 : fs60[1]? = some (.ref y64)) (e67 : h3.2.2 y64 = some (.inr (7, fs66))) (e69 : fs66[7]? = some (.ref y68)) (e72 : h3.2.2 y68 = some (.inl (2, n70, .inr (.inl f71)))) (e73 : 0 ≤ (x2 : Int32).toInt ∧ (x2 : Int32).toInt < (n70 : Nat)) (e75 : qCall d 4 [.long (f71 (x2 : Int32).toNatClampNeg)] h3 ((some (.long z74)), h4)) (e78 : h4.2.2 y62 = some (.inl (2, n76, .inr (.inl f77)))) (e79 : 0 ≤ (6 : Int32).toInt ∧ (6 : Int32).toInt < (n76 : Nat)) (e80 : qset h4 y62 (.inl (2, n76, .inr (.inl (vp_updL f77 ((6 : Int32).toNatClampNeg) z74)))) = h5) (e82 : h5.2.2 r0 = some (.inr (5, fs81))) (e84 : fs81[7]? = some (.ref y83)) (e86 : h5.2.2 r1 = some (.inr (4, fs85))) (e88 : fs85[11]? = some (.ref y87)) (e91 : h5.2.2 y87 = some (.inl (0, n89, .inl f90))) (e92 : 0 ≤ (x2 : Int32).toInt ∧ (x2 : Int32).toInt < (n89 : Nat)) (e95 : h5.2.2 y83 = some (.inl (2, n93, .inr (.inl f94)))) (e96 : 0 ≤ (7 : Int32).toInt ∧ (7 : Int32).toInt < (n93 : Nat)) (e97 : qset h5 y83 (.inl (2, n93, .inr (.inl (vp_updL f94 ((7 : Int32).toNatClampNeg) (((f90 (x2 : Int32).toNatClampNeg) : Int32).toInt64))))) = h6) (e99 : h6.2.2 r0 = some (.inr (5, fs98))) (e101 : fs98[7]? = some (.ref y100)) (e103 : fs98[0]? = some (.ref y102)) (e105 : h6.2.2 y102 = some (.inr (8, fs104))) (e107 : fs104[6]? = some (.ref y106)) (e110 : h6.2.2 y106 = some (.inl (0, n108, .inl f109))) (e111 : 0 ≤ (x2 : Int32).toInt ∧ (x2 : Int32).toInt < (n108 : Nat)) (e114 : h6.2.2 y100 = some (.inl (2, n112, .inr (.inl f113)))) (e115 : 0 ≤ (8 : Int32).toInt ∧ (8 : Int32).toInt < (n112 : Nat)) (e116 : qset h6 y100 (.inl (2, n112, .inr (.inl (vp_updL f113 ((8 : Int32).toNatClampNeg) (((f109 (x2 : Int32).toNatClampNeg) : Int32).toInt64))))) = h7) (e118 : h7.2.2 r1 = some (.inr (4, fs117))) (e120 : fs117[4]? = some (.ref y119)) (e122 : h7.2.2 r0 = some (.inr (5, fs121))) (e124 : fs121[7]? = some (.ref y123)) (e126 : h7.2.2 y119 = some (.inr (10, fs125))) (e128 : qCall d 16 [.ref y119, .int 0, .ref y123] h7 ((some (.int z127)), h8)) (e129 : ¬ ((z127 : Int32) = 0)) (kk : qE d 220 137 [some (.ref r0), some (.ref r1), some (.int x2)] [] h8 q): qE d 220 25 [some (.ref r0), some (.ref r1), some (.int x2)] [] h q := by
  refine qe_aload_n c220_25 rfl ?_
  refine qe_getfield c220_26 qo220 qF5_27 e2 e4 ?_
  refine qe_iconst (x := 1) c220_29 (by decide) ?_
  refine qe_iload_n c220_30 rfl ?_
  refine qe_i2l c220_31 ?_
  refine qe_lastore c220_32 e7 e8 ?_
  rw [e9]
  refine qe_aload_n c220_33 rfl ?_
  refine qe_getfield c220_34 qo220 qF5_27 e11 e13 ?_
  refine qe_iconst (x := 2) c220_37 (by decide) ?_
  refine qe_aload_n c220_38 rfl ?_
  refine qe_getfield c220_39 qo220 qF5_139 e15 e17 ?_
  refine qe_aload_n c220_42 rfl ?_
  refine qe_getfield c220_43 qo220 qF5_142 e15 e19 ?_
  refine qe_iload_n c220_46 rfl ?_
  refine qe_iaload c220_47 e22 e23 ?_
  refine qe_iaload c220_48 e26 e27 ?_
  refine qe_i2l c220_49 ?_
  refine qe_lastore c220_50 e30 e31 ?_
  rw [e32]
  refine qe_aload_n c220_51 rfl ?_
  refine qe_getfield c220_52 qo220 qF5_27 e34 e36 ?_
  refine qe_iconst (x := 3) c220_55 (by decide) ?_
  refine qe_aload_n c220_56 rfl ?_
  refine qe_getfield c220_57 qo220 qF5_21 e34 e38 ?_
  refine qe_getfield c220_60 qo220 qF5_145 e40 e42 ?_
  refine qe_aload_n c220_63 rfl ?_
  refine qe_getfield c220_64 qo220 qF5_142 e44 e46 ?_
  refine qe_iload_n c220_67 rfl ?_
  refine qe_iaload c220_68 e49 e50 ?_
  refine qe_iaload c220_69 e53 e54 ?_
  refine qe_i2l c220_70 ?_
  refine qe_lastore c220_71 e57 e58 ?_
  rw [e59]
  refine qe_aload_n c220_72 rfl ?_
  refine qe_getfield c220_73 qo220 qF5_27 e61 e63 ?_
  refine qe_bipush (x := 6) c220_76 (by decide) ?_
  refine qe_aload_n c220_78 rfl ?_
  refine qe_getfield c220_79 qo220 qF5_21 e61 e65 ?_
  refine qe_getfield c220_82 qo220 qF5_106 e67 e69 ?_
  refine qe_iload_n c220_85 rfl ?_
  refine qe_laload c220_86 e72 e73 ?_
  refine qe_static (as := [.long (f71 (x2 : Int32).toNatClampNeg)]) (r := [.int 6, .ref y62]) (v := (some (.long z74))) (h2 := h4) c220_87 qo220 (by decide) qK5_109 rfl rfl rfl (Nat.le_of_ble_eq_true rfl) e75 ?_
  refine qe_lastore c220_90 e78 e79 ?_
  rw [e80]
  refine qe_aload_n c220_91 rfl ?_
  refine qe_getfield c220_92 qo220 qF5_27 e82 e84 ?_
  refine qe_bipush (x := 7) c220_95 (by decide) ?_
  refine qe_aload_n c220_97 rfl ?_
  refine qe_getfield c220_98 qo220 qF5_103 e86 e88 ?_
  refine qe_iload_n c220_101 rfl ?_
  refine qe_iaload c220_102 e91 e92 ?_
  refine qe_i2l c220_103 ?_
  refine qe_lastore c220_104 e95 e96 ?_
  rw [e97]
  refine qe_aload_n c220_105 rfl ?_
  refine qe_getfield c220_106 qo220 qF5_27 e99 e101 ?_
  refine qe_bipush (x := 8) c220_109 (by decide) ?_
  refine qe_aload_n c220_111 rfl ?_
  refine qe_getfield c220_112 qo220 qF5_12 e99 e103 ?_
  refine qe_getfield c220_115 qo220 qF5_115 e105 e107 ?_
  refine qe_iload_n c220_118 rfl ?_
  refine qe_iaload c220_119 e110 e111 ?_
  refine qe_i2l c220_120 ?_
  refine qe_lastore c220_121 e114 e115 ?_
  rw [e116]
  refine qe_aload_n c220_122 rfl ?_
  refine qe_getfield c220_123 qo220 qF5_148 e118 e120 ?_
  refine qe_iconst (x := 0) c220_126 (by decide) ?_
  refine qe_aload_n c220_127 rfl ?_
  refine qe_getfield c220_128 qo220 qF5_27 e122 e124 ?_
  refine qe_virtual (b := y119) (as := [.int 0, .ref y123]) (r := []) (v := (some (.int z127))) (h2 := h8) c220_131 qo220 qK5_152 rfl rfl rfl (by rw [qo16]; exact e126) (Nat.le_of_ble_eq_true rfl) e128 ?_
  refine qe_if_eq_F (t := 159) c220_134 rfl e129 ?_
  exact kk
theorem b220_25T {d : Nat} {q : Option Value × qH} {h : qH} {r0 : Nat} {r1 : Nat} {x2 : Int32} {fs1 : List Value} {y3 : Nat} {n5 : Nat} {f6 : Nat → Int64} {h1 : qH} {fs10 : List Value} {y12 : Nat} {fs14 : List Value} {y16 : Nat} {y18 : Nat} {n20 : Nat} {f21 : Nat → Int32} {n24 : Nat} {f25 : Nat → Int32} {n28 : Nat} {f29 : Nat → Int64} {h2 : qH} {fs33 : List Value} {y35 : Nat} {y37 : Nat} {fs39 : List Value} {y41 : Nat} {fs43 : List Value} {y45 : Nat} {n47 : Nat} {f48 : Nat → Int32} {n51 : Nat} {f52 : Nat → Int32} {n55 : Nat} {f56 : Nat → Int64} {h3 : qH} {fs60 : List Value} {y62 : Nat} {y64 : Nat} {fs66 : List Value} {y68 : Nat} {n70 : Nat} {f71 : Nat → Int64} {h4 : qH} {z74 : Int64} {n76 : Nat} {f77 : Nat → Int64} {h5 : qH} {fs81 : List Value} {y83 : Nat} {fs85 : List Value} {y87 : Nat} {n89 : Nat} {f90 : Nat → Int32} {n93 : Nat} {f94 : Nat → Int64} {h6 : qH} {fs98 : List Value} {y100 : Nat} {y102 : Nat} {fs104 : List Value} {y106 : Nat} {n108 : Nat} {f109 : Nat → Int32} {n112 : Nat} {f113 : Nat → Int64} {h7 : qH} {fs117 : List Value} {y119 : Nat} {fs121 : List Value} {y123 : Nat} {fs125 : List Value} {h8 : qH} {z127 : Int32}  (e2 : h.2.2 r0 = some (.inr (5, fs1))) (e4 : fs1[7]? = some (.ref y3)) (e7 : h.2.2 y3 = some (.inl (2, n5, .inr (.inl f6)))) (e8 : 0 ≤ (1 : Int32).toInt ∧ (1 : Int32).toInt < (n5 : Nat)) (e9 : qset h y3 (.inl (2, n5, .inr (.inl (vp_updL f6 ((1 : Int32).toNatClampNeg) ((x2 : Int32).toInt64))))) = h1) (e11 : h1.2.2 r0 = some (.inr (5, fs10))) (e13 : fs10[7]? = some (.ref y12)) (e15 : h1.2.2 r1 = some (.inr (4, fs14))) (e17 : fs14[5]? = some (.ref y16)) (e19 : fs14[8]? = some (.ref y18)) (e22 : h1.2.2 y18 = some (.inl (0, n20, .inl f21))) (e23 : 0 ≤ (x2 : Int32).toInt ∧ (x2 : Int32).toInt < (n20 : Nat)) (e26 : h1.2.2 y16 = some (.inl (0, n24, .inl f25))) (e27 : 0 ≤ ((f21 (x2 : Int32).toNatClampNeg) : Int32).toInt ∧ ((f21 (x2 : Int32).toNatClampNeg) : Int32).toInt < (n24 : Nat)) (e30 : h1.2.2 y12 = some (.inl (2, n28, .inr (.inl f29)))) (e31 : 0 ≤ (2 : Int32).toInt ∧ (2 : Int32).toInt < (n28 : Nat)) (e32 : qset h1 y12 (.inl (2, n28, .inr (.inl (vp_updL f29 ((2 : Int32).toNatClampNeg) (((f25 ((f21 (x2 : Int32).toNatClampNeg) : Int32).toNatClampNeg) : Int32).toInt64))))) = h2) (e34 : h2.2.2 r0 = some (.inr (5, fs33))) (e36 : fs33[7]? = some (.ref y35)) (e38 : fs33[1]? = some (.ref y37)) (e40 : h2.2.2 y37 = some (.inr (7, fs39))) (e42 : fs39[5]? = some (.ref y41)) (e44 : h2.2.2 r1 = some (.inr (4, fs43))) (e46 : fs43[8]? = some (.ref y45)) (e49 : h2.2.2 y45 = some (.inl (0, n47, .inl f48))) (e50 : 0 ≤ (x2 : Int32).toInt ∧ (x2 : Int32).toInt < (n47 : Nat)) (e53 : h2.2.2 y41 = some (.inl (0, n51, .inl f52))) (e54 : 0 ≤ ((f48 (x2 : Int32).toNatClampNeg) : Int32).toInt ∧ ((f48 (x2 : Int32).toNatClampNeg) : Int32).toInt < (n51 : Nat)) (e57 : h2.2.2 y35 = some (.inl (2, n55, .inr (.inl f56)))) (e58 : 0 ≤ (3 : Int32).toInt ∧ (3 : Int32).toInt < (n55 : Nat)) (e59 : qset h2 y35 (.inl (2, n55, .inr (.inl (vp_updL f56 ((3 : Int32).toNatClampNeg) (((f52 ((f48 (x2 : Int32).toNatClampNeg) : Int32).toNatClampNeg) : Int32).toInt64))))) = h3) (e61 : h3.2.2 r0 = some (.inr (5, fs60))) (e63 : fs60[7]? = some (.ref y62)) (e65 : fs60[1]? = some (.ref y64)) (e67 : h3.2.2 y64 = some (.inr (7, fs66))) (e69 : fs66[7]? = some (.ref y68)) (e72 : h3.2.2 y68 = some (.inl (2, n70, .inr (.inl f71)))) (e73 : 0 ≤ (x2 : Int32).toInt ∧ (x2 : Int32).toInt < (n70 : Nat)) (e75 : qCall d 4 [.long (f71 (x2 : Int32).toNatClampNeg)] h3 ((some (.long z74)), h4)) (e78 : h4.2.2 y62 = some (.inl (2, n76, .inr (.inl f77)))) (e79 : 0 ≤ (6 : Int32).toInt ∧ (6 : Int32).toInt < (n76 : Nat)) (e80 : qset h4 y62 (.inl (2, n76, .inr (.inl (vp_updL f77 ((6 : Int32).toNatClampNeg) z74)))) = h5) (e82 : h5.2.2 r0 = some (.inr (5, fs81))) (e84 : fs81[7]? = some (.ref y83)) (e86 : h5.2.2 r1 = some (.inr (4, fs85))) (e88 : fs85[11]? = some (.ref y87)) (e91 : h5.2.2 y87 = some (.inl (0, n89, .inl f90))) (e92 : 0 ≤ (x2 : Int32).toInt ∧ (x2 : Int32).toInt < (n89 : Nat)) (e95 : h5.2.2 y83 = some (.inl (2, n93, .inr (.inl f94)))) (e96 : 0 ≤ (7 : Int32).toInt ∧ (7 : Int32).toInt < (n93 : Nat)) (e97 : qset h5 y83 (.inl (2, n93, .inr (.inl (vp_updL f94 ((7 : Int32).toNatClampNeg) (((f90 (x2 : Int32).toNatClampNeg) : Int32).toInt64))))) = h6) (e99 : h6.2.2 r0 = some (.inr (5, fs98))) (e101 : fs98[7]? = some (.ref y100)) (e103 : fs98[0]? = some (.ref y102)) (e105 : h6.2.2 y102 = some (.inr (8, fs104))) (e107 : fs104[6]? = some (.ref y106)) (e110 : h6.2.2 y106 = some (.inl (0, n108, .inl f109))) (e111 : 0 ≤ (x2 : Int32).toInt ∧ (x2 : Int32).toInt < (n108 : Nat)) (e114 : h6.2.2 y100 = some (.inl (2, n112, .inr (.inl f113)))) (e115 : 0 ≤ (8 : Int32).toInt ∧ (8 : Int32).toInt < (n112 : Nat)) (e116 : qset h6 y100 (.inl (2, n112, .inr (.inl (vp_updL f113 ((8 : Int32).toNatClampNeg) (((f109 (x2 : Int32).toNatClampNeg) : Int32).toInt64))))) = h7) (e118 : h7.2.2 r1 = some (.inr (4, fs117))) (e120 : fs117[4]? = some (.ref y119)) (e122 : h7.2.2 r0 = some (.inr (5, fs121))) (e124 : fs121[7]? = some (.ref y123)) (e126 : h7.2.2 y119 = some (.inr (10, fs125))) (e128 : qCall d 16 [.ref y119, .int 0, .ref y123] h7 ((some (.int z127)), h8)) (e129 : (z127 : Int32) = 0) (kk : qE d 220 159 [some (.ref r0), some (.ref r1), some (.int x2)] [] h8 q): qE d 220 25 [some (.ref r0), some (.ref r1), some (.int x2)] [] h q := by
  refine qe_aload_n c220_25 rfl ?_
  refine qe_getfield c220_26 qo220 qF5_27 e2 e4 ?_
  refine qe_iconst (x := 1) c220_29 (by decide) ?_
  refine qe_iload_n c220_30 rfl ?_
  refine qe_i2l c220_31 ?_
  refine qe_lastore c220_32 e7 e8 ?_
  rw [e9]
  refine qe_aload_n c220_33 rfl ?_
  refine qe_getfield c220_34 qo220 qF5_27 e11 e13 ?_
  refine qe_iconst (x := 2) c220_37 (by decide) ?_
  refine qe_aload_n c220_38 rfl ?_
  refine qe_getfield c220_39 qo220 qF5_139 e15 e17 ?_
  refine qe_aload_n c220_42 rfl ?_
  refine qe_getfield c220_43 qo220 qF5_142 e15 e19 ?_
  refine qe_iload_n c220_46 rfl ?_
  refine qe_iaload c220_47 e22 e23 ?_
  refine qe_iaload c220_48 e26 e27 ?_
  refine qe_i2l c220_49 ?_
  refine qe_lastore c220_50 e30 e31 ?_
  rw [e32]
  refine qe_aload_n c220_51 rfl ?_
  refine qe_getfield c220_52 qo220 qF5_27 e34 e36 ?_
  refine qe_iconst (x := 3) c220_55 (by decide) ?_
  refine qe_aload_n c220_56 rfl ?_
  refine qe_getfield c220_57 qo220 qF5_21 e34 e38 ?_
  refine qe_getfield c220_60 qo220 qF5_145 e40 e42 ?_
  refine qe_aload_n c220_63 rfl ?_
  refine qe_getfield c220_64 qo220 qF5_142 e44 e46 ?_
  refine qe_iload_n c220_67 rfl ?_
  refine qe_iaload c220_68 e49 e50 ?_
  refine qe_iaload c220_69 e53 e54 ?_
  refine qe_i2l c220_70 ?_
  refine qe_lastore c220_71 e57 e58 ?_
  rw [e59]
  refine qe_aload_n c220_72 rfl ?_
  refine qe_getfield c220_73 qo220 qF5_27 e61 e63 ?_
  refine qe_bipush (x := 6) c220_76 (by decide) ?_
  refine qe_aload_n c220_78 rfl ?_
  refine qe_getfield c220_79 qo220 qF5_21 e61 e65 ?_
  refine qe_getfield c220_82 qo220 qF5_106 e67 e69 ?_
  refine qe_iload_n c220_85 rfl ?_
  refine qe_laload c220_86 e72 e73 ?_
  refine qe_static (as := [.long (f71 (x2 : Int32).toNatClampNeg)]) (r := [.int 6, .ref y62]) (v := (some (.long z74))) (h2 := h4) c220_87 qo220 (by decide) qK5_109 rfl rfl rfl (Nat.le_of_ble_eq_true rfl) e75 ?_
  refine qe_lastore c220_90 e78 e79 ?_
  rw [e80]
  refine qe_aload_n c220_91 rfl ?_
  refine qe_getfield c220_92 qo220 qF5_27 e82 e84 ?_
  refine qe_bipush (x := 7) c220_95 (by decide) ?_
  refine qe_aload_n c220_97 rfl ?_
  refine qe_getfield c220_98 qo220 qF5_103 e86 e88 ?_
  refine qe_iload_n c220_101 rfl ?_
  refine qe_iaload c220_102 e91 e92 ?_
  refine qe_i2l c220_103 ?_
  refine qe_lastore c220_104 e95 e96 ?_
  rw [e97]
  refine qe_aload_n c220_105 rfl ?_
  refine qe_getfield c220_106 qo220 qF5_27 e99 e101 ?_
  refine qe_bipush (x := 8) c220_109 (by decide) ?_
  refine qe_aload_n c220_111 rfl ?_
  refine qe_getfield c220_112 qo220 qF5_12 e99 e103 ?_
  refine qe_getfield c220_115 qo220 qF5_115 e105 e107 ?_
  refine qe_iload_n c220_118 rfl ?_
  refine qe_iaload c220_119 e110 e111 ?_
  refine qe_i2l c220_120 ?_
  refine qe_lastore c220_121 e114 e115 ?_
  rw [e116]
  refine qe_aload_n c220_122 rfl ?_
  refine qe_getfield c220_123 qo220 qF5_148 e118 e120 ?_
  refine qe_iconst (x := 0) c220_126 (by decide) ?_
  refine qe_aload_n c220_127 rfl ?_
  refine qe_getfield c220_128 qo220 qF5_27 e122 e124 ?_
  refine qe_virtual (b := y119) (as := [.int 0, .ref y123]) (r := []) (v := (some (.int z127))) (h2 := h8) c220_131 qo220 qK5_152 rfl rfl rfl (by rw [qo16]; exact e126) (Nat.le_of_ble_eq_true rfl) e128 ?_
  refine qe_if_eq_T (t := 159) c220_134 rfl e129 ?_
  exact kk
theorem b220_137 {d : Nat} {q : Option Value × qH} {h : qH} {r0 : Nat} {r1 : Nat} {x2 : Int32} {fs1 : List Value} {y3 : Nat} {fs5 : List Value} {y7 : Nat} {n9 : Nat} {f10 : Nat → Int32} {h1 : qH} {fs14 : List Value} {y16 : Int32} {h2 : qH}  (e2 : h.2.2 r0 = some (.inr (5, fs1))) (e4 : fs1[0]? = some (.ref y3)) (e6 : h.2.2 y3 = some (.inr (8, fs5))) (e8 : fs5[5]? = some (.ref y7)) (e11 : h.2.2 y7 = some (.inl (0, n9, .inl f10))) (e12 : 0 ≤ (x2 : Int32).toInt ∧ (x2 : Int32).toInt < (n9 : Nat)) (e13 : qset h y7 (.inl (0, n9, .inl (upd f10 ((x2 : Int32).toNatClampNeg) 2))) = h1) (e15 : h1.2.2 r0 = some (.inr (5, fs14))) (e17 : fs14[4]? = some (.int y16)) (e18 : 4 < fs14.length) (e19 : qset h1 r0 (.inr (5, fs14.set 4 (.int (y16 ||| (1 <<< (x2 &&& 31)))))) = h2) (kk : qE d 220 159 [some (.ref r0), some (.ref r1), some (.int x2)] [] h2 q): qE d 220 137 [some (.ref r0), some (.ref r1), some (.int x2)] [] h q := by
  refine qe_aload_n c220_137 rfl ?_
  refine qe_getfield c220_138 qo220 qF5_12 e2 e4 ?_
  refine qe_getfield c220_141 qo220 qF5_100 e6 e8 ?_
  refine qe_iload_n c220_144 rfl ?_
  refine qe_iconst (x := 2) c220_145 (by decide) ?_
  refine qe_iastore c220_146 e11 e12 ?_
  rw [e13]
  refine qe_aload_n c220_147 rfl ?_
  refine qe_dup c220_148 rfl ?_
  refine qe_getfield c220_149 qo220 qF5_51 e15 e17 ?_
  refine qe_iconst (x := 1) c220_152 (by decide) ?_
  refine qe_iload_n c220_153 rfl ?_
  refine qe_ishl c220_154 ?_
  refine qe_ior c220_155 ?_
  refine qe_putfield c220_156 qo220 qF5_51 qz5_4 e15 e18 (by rw [qy5_4]; rfl) ?_
  rw [e19]
  exact kk
theorem b220_159 {d : Nat} {q : Option Value × qH} {h : qH} {r0 : Nat} {r1 : Nat} {x2 : Int32}   (kk : qE d 220 2 [some (.ref r0), some (.ref r1), some (.int (x2 + 1))] [] h q): qE d 220 159 [some (.ref r0), some (.ref r1), some (.int x2)] [] h q := by
  refine qe_iinc (y := (x2 + 1)) (ls2 := [some (.ref r0), some (.ref r1), some (.int (x2 + 1))]) c220_159 rfl (Nat.le_of_ble_eq_true rfl) rfl rfl ?_
  refine qe_goto (t := 2) c220_162 rfl ?_
  exact kk
theorem b220_165 {d : Nat} {h : qH} {r0 : Nat} {r1 : Nat} {x2 : Int32}   : qE d 220 165 [some (.ref r0), some (.ref r1), some (.int x2)] [] h (none, h) := by
  exact qe_vret c220_165 qr220
theorem b221_0 {d : Nat} {q : Option Value × qH} {h : qH} {r0 : Nat} {r1 : Nat}   (kk : qE d 221 2 [some (.ref r0), some (.ref r1), some (.int 0)] [] h q): qE d 221 0 [some (.ref r0), some (.ref r1), none] [] h q := by
  refine qe_iconst (x := 0) c221_0 (by decide) ?_
  refine qe_istore_n (ls2 := [some (.ref r0), some (.ref r1), some (.int 0)]) c221_1 (Nat.le_of_ble_eq_true rfl) rfl ?_
  exact kk
theorem b221_2F {d : Nat} {q : Option Value × qH} {h : qH} {r0 : Nat} {r1 : Nat} {x2 : Int32} {fs1 : List Value} {y3 : Int32}  (e2 : h.2.2 r1 = some (.inr (4, fs1))) (e4 : fs1[2]? = some (.int y3)) (e5 : ¬ ((y3 : Int32) ≤ x2)) (kk : qE d 221 10 [some (.ref r0), some (.ref r1), some (.int x2)] [] h q): qE d 221 2 [some (.ref r0), some (.ref r1), some (.int x2)] [] h q := by
  refine qe_iload_n c221_2 rfl ?_
  refine qe_aload_n c221_3 rfl ?_
  refine qe_getfield c221_4 qo221 qF5_156 e2 e4 ?_
  refine qe_icmp_ge_F (t := 152) c221_7 rfl e5 ?_
  exact kk
theorem b221_2T {d : Nat} {q : Option Value × qH} {h : qH} {r0 : Nat} {r1 : Nat} {x2 : Int32} {fs1 : List Value} {y3 : Int32}  (e2 : h.2.2 r1 = some (.inr (4, fs1))) (e4 : fs1[2]? = some (.int y3)) (e5 : (y3 : Int32) ≤ x2) (kk : qE d 221 152 [some (.ref r0), some (.ref r1), some (.int x2)] [] h q): qE d 221 2 [some (.ref r0), some (.ref r1), some (.int x2)] [] h q := by
  refine qe_iload_n c221_2 rfl ?_
  refine qe_aload_n c221_3 rfl ?_
  refine qe_getfield c221_4 qo221 qF5_156 e2 e4 ?_
  refine qe_icmp_ge_T (t := 152) c221_7 rfl e5 ?_
  exact kk
theorem b221_10F {d : Nat} {q : Option Value × qH} {h : qH} {r0 : Nat} {r1 : Nat} {x2 : Int32} {fs1 : List Value} {y3 : Nat} {fs5 : List Value} {h1 : qH} {z7 : Int32}  (e2 : h.2.2 r0 = some (.inr (5, fs1))) (e4 : fs1[0]? = some (.ref y3)) (e6 : h.2.2 y3 = some (.inr (8, fs5))) (e8 : qCall d 245 [.ref y3, .int x2] h ((some (.int z7)), h1)) (e9 : (z7 : Int32) = 0) (kk : qE d 221 21 [some (.ref r0), some (.ref r1), some (.int x2)] [] h1 q): qE d 221 10 [some (.ref r0), some (.ref r1), some (.int x2)] [] h q := by
  refine qe_aload_n c221_10 rfl ?_
  refine qe_getfield c221_11 qo221 qF5_12 e2 e4 ?_
  refine qe_iload_n c221_14 rfl ?_
  refine qe_virtual (b := y3) (as := [.int x2]) (r := []) (v := (some (.int z7))) (h2 := h1) c221_15 qo221 qK5_159 rfl rfl rfl (by rw [qo245]; exact e6) (Nat.le_of_ble_eq_true rfl) e8 ?_
  refine qe_if_ne_F (t := 24) c221_18 rfl e9 ?_
  exact kk
theorem b221_10T {d : Nat} {q : Option Value × qH} {h : qH} {r0 : Nat} {r1 : Nat} {x2 : Int32} {fs1 : List Value} {y3 : Nat} {fs5 : List Value} {h1 : qH} {z7 : Int32}  (e2 : h.2.2 r0 = some (.inr (5, fs1))) (e4 : fs1[0]? = some (.ref y3)) (e6 : h.2.2 y3 = some (.inr (8, fs5))) (e8 : qCall d 245 [.ref y3, .int x2] h ((some (.int z7)), h1)) (e9 : ¬ ((z7 : Int32) = 0)) (kk : qE d 221 24 [some (.ref r0), some (.ref r1), some (.int x2)] [] h1 q): qE d 221 10 [some (.ref r0), some (.ref r1), some (.int x2)] [] h q := by
  refine qe_aload_n c221_10 rfl ?_
  refine qe_getfield c221_11 qo221 qF5_12 e2 e4 ?_
  refine qe_iload_n c221_14 rfl ?_
  refine qe_virtual (b := y3) (as := [.int x2]) (r := []) (v := (some (.int z7))) (h2 := h1) c221_15 qo221 qK5_159 rfl rfl rfl (by rw [qo245]; exact e6) (Nat.le_of_ble_eq_true rfl) e8 ?_
  refine qe_if_ne_T (t := 24) c221_18 rfl e9 ?_
  exact kk
theorem b221_21 {d : Nat} {q : Option Value × qH} {h : qH} {r0 : Nat} {r1 : Nat} {x2 : Int32}   (kk : qE d 221 146 [some (.ref r0), some (.ref r1), some (.int x2)] [] h q): qE d 221 21 [some (.ref r0), some (.ref r1), some (.int x2)] [] h q := by
  refine qe_goto (t := 146) c221_21 rfl ?_
  exact kk
theorem b221_24F {d : Nat} {q : Option Value × qH} {h : qH} {r0 : Nat} {r1 : Nat} {x2 : Int32} {fs1 : List Value} {y3 : Nat} {n5 : Nat} {f6 : Nat → Int64} {h1 : qH} {fs10 : List Value} {y12 : Nat} {fs14 : List Value} {y16 : Nat} {y18 : Nat} {n20 : Nat} {f21 : Nat → Int32} {n24 : Nat} {f25 : Nat → Int32} {n28 : Nat} {f29 : Nat → Int64} {h2 : qH} {fs33 : List Value} {y35 : Nat} {y37 : Nat} {fs39 : List Value} {y41 : Nat} {fs43 : List Value} {y45 : Nat} {n47 : Nat} {f48 : Nat → Int32} {n51 : Nat} {f52 : Nat → Int32} {n55 : Nat} {f56 : Nat → Int64} {h3 : qH} {fs60 : List Value} {y62 : Nat} {y64 : Nat} {fs66 : List Value} {y68 : Nat} {n70 : Nat} {f71 : Nat → Int32} {n74 : Nat} {f75 : Nat → Int64} {h4 : qH} {fs79 : List Value} {y81 : Nat} {fs83 : List Value} {y85 : Nat} {n87 : Nat} {f88 : Nat → Int32} {n91 : Nat} {f92 : Nat → Int64} {h5 : qH} {fs96 : List Value} {y98 : Nat} {fs100 : List Value} {y102 : Nat} {fs104 : List Value} {h6 : qH} {z106 : Int32}  (e2 : h.2.2 r0 = some (.inr (5, fs1))) (e4 : fs1[7]? = some (.ref y3)) (e7 : h.2.2 y3 = some (.inl (2, n5, .inr (.inl f6)))) (e8 : 0 ≤ (1 : Int32).toInt ∧ (1 : Int32).toInt < (n5 : Nat)) (e9 : qset h y3 (.inl (2, n5, .inr (.inl (vp_updL f6 ((1 : Int32).toNatClampNeg) ((x2 : Int32).toInt64))))) = h1) (e11 : h1.2.2 r0 = some (.inr (5, fs10))) (e13 : fs10[7]? = some (.ref y12)) (e15 : h1.2.2 r1 = some (.inr (4, fs14))) (e17 : fs14[5]? = some (.ref y16)) (e19 : fs14[14]? = some (.ref y18)) (e22 : h1.2.2 y18 = some (.inl (0, n20, .inl f21))) (e23 : 0 ≤ (x2 : Int32).toInt ∧ (x2 : Int32).toInt < (n20 : Nat)) (e26 : h1.2.2 y16 = some (.inl (0, n24, .inl f25))) (e27 : 0 ≤ ((f21 (x2 : Int32).toNatClampNeg) : Int32).toInt ∧ ((f21 (x2 : Int32).toNatClampNeg) : Int32).toInt < (n24 : Nat)) (e30 : h1.2.2 y12 = some (.inl (2, n28, .inr (.inl f29)))) (e31 : 0 ≤ (2 : Int32).toInt ∧ (2 : Int32).toInt < (n28 : Nat)) (e32 : qset h1 y12 (.inl (2, n28, .inr (.inl (vp_updL f29 ((2 : Int32).toNatClampNeg) (((f25 ((f21 (x2 : Int32).toNatClampNeg) : Int32).toNatClampNeg) : Int32).toInt64))))) = h2) (e34 : h2.2.2 r0 = some (.inr (5, fs33))) (e36 : fs33[7]? = some (.ref y35)) (e38 : fs33[1]? = some (.ref y37)) (e40 : h2.2.2 y37 = some (.inr (7, fs39))) (e42 : fs39[5]? = some (.ref y41)) (e44 : h2.2.2 r1 = some (.inr (4, fs43))) (e46 : fs43[14]? = some (.ref y45)) (e49 : h2.2.2 y45 = some (.inl (0, n47, .inl f48))) (e50 : 0 ≤ (x2 : Int32).toInt ∧ (x2 : Int32).toInt < (n47 : Nat)) (e53 : h2.2.2 y41 = some (.inl (0, n51, .inl f52))) (e54 : 0 ≤ ((f48 (x2 : Int32).toNatClampNeg) : Int32).toInt ∧ ((f48 (x2 : Int32).toNatClampNeg) : Int32).toInt < (n51 : Nat)) (e57 : h2.2.2 y35 = some (.inl (2, n55, .inr (.inl f56)))) (e58 : 0 ≤ (3 : Int32).toInt ∧ (3 : Int32).toInt < (n55 : Nat)) (e59 : qset h2 y35 (.inl (2, n55, .inr (.inl (vp_updL f56 ((3 : Int32).toNatClampNeg) (((f52 ((f48 (x2 : Int32).toNatClampNeg) : Int32).toNatClampNeg) : Int32).toInt64))))) = h3) (e61 : h3.2.2 r0 = some (.inr (5, fs60))) (e63 : fs60[7]? = some (.ref y62)) (e65 : fs60[1]? = some (.ref y64)) (e67 : h3.2.2 y64 = some (.inr (7, fs66))) (e69 : fs66[6]? = some (.ref y68)) (e72 : h3.2.2 y68 = some (.inl (0, n70, .inl f71))) (e73 : 0 ≤ (x2 : Int32).toInt ∧ (x2 : Int32).toInt < (n70 : Nat)) (e76 : h3.2.2 y62 = some (.inl (2, n74, .inr (.inl f75)))) (e77 : 0 ≤ (9 : Int32).toInt ∧ (9 : Int32).toInt < (n74 : Nat)) (e78 : qset h3 y62 (.inl (2, n74, .inr (.inl (vp_updL f75 ((9 : Int32).toNatClampNeg) (((f71 (x2 : Int32).toNatClampNeg) : Int32).toInt64))))) = h4) (e80 : h4.2.2 r0 = some (.inr (5, fs79))) (e82 : fs79[7]? = some (.ref y81)) (e84 : h4.2.2 r1 = some (.inr (4, fs83))) (e86 : fs83[15]? = some (.ref y85)) (e89 : h4.2.2 y85 = some (.inl (0, n87, .inl f88))) (e90 : 0 ≤ (x2 : Int32).toInt ∧ (x2 : Int32).toInt < (n87 : Nat)) (e93 : h4.2.2 y81 = some (.inl (2, n91, .inr (.inl f92)))) (e94 : 0 ≤ (10 : Int32).toInt ∧ (10 : Int32).toInt < (n91 : Nat)) (e95 : qset h4 y81 (.inl (2, n91, .inr (.inl (vp_updL f92 ((10 : Int32).toNatClampNeg) (((f88 (x2 : Int32).toNatClampNeg) : Int32).toInt64))))) = h5) (e97 : h5.2.2 r1 = some (.inr (4, fs96))) (e99 : fs96[4]? = some (.ref y98)) (e101 : h5.2.2 r0 = some (.inr (5, fs100))) (e103 : fs100[7]? = some (.ref y102)) (e105 : h5.2.2 y98 = some (.inr (10, fs104))) (e107 : qCall d 16 [.ref y98, .int 1, .ref y102] h5 ((some (.int z106)), h6)) (e108 : ¬ ((z106 : Int32) = 0)) (kk : qE d 221 117 [some (.ref r0), some (.ref r1), some (.int x2)] [] h6 q): qE d 221 24 [some (.ref r0), some (.ref r1), some (.int x2)] [] h q := by
  refine qe_aload_n c221_24 rfl ?_
  refine qe_getfield c221_25 qo221 qF5_27 e2 e4 ?_
  refine qe_iconst (x := 1) c221_28 (by decide) ?_
  refine qe_iload_n c221_29 rfl ?_
  refine qe_i2l c221_30 ?_
  refine qe_lastore c221_31 e7 e8 ?_
  rw [e9]
  refine qe_aload_n c221_32 rfl ?_
  refine qe_getfield c221_33 qo221 qF5_27 e11 e13 ?_
  refine qe_iconst (x := 2) c221_36 (by decide) ?_
  refine qe_aload_n c221_37 rfl ?_
  refine qe_getfield c221_38 qo221 qF5_139 e15 e17 ?_
  refine qe_aload_n c221_41 rfl ?_
  refine qe_getfield c221_42 qo221 qF5_163 e15 e19 ?_
  refine qe_iload_n c221_45 rfl ?_
  refine qe_iaload c221_46 e22 e23 ?_
  refine qe_iaload c221_47 e26 e27 ?_
  refine qe_i2l c221_48 ?_
  refine qe_lastore c221_49 e30 e31 ?_
  rw [e32]
  refine qe_aload_n c221_50 rfl ?_
  refine qe_getfield c221_51 qo221 qF5_27 e34 e36 ?_
  refine qe_iconst (x := 3) c221_54 (by decide) ?_
  refine qe_aload_n c221_55 rfl ?_
  refine qe_getfield c221_56 qo221 qF5_21 e34 e38 ?_
  refine qe_getfield c221_59 qo221 qF5_145 e40 e42 ?_
  refine qe_aload_n c221_62 rfl ?_
  refine qe_getfield c221_63 qo221 qF5_163 e44 e46 ?_
  refine qe_iload_n c221_66 rfl ?_
  refine qe_iaload c221_67 e49 e50 ?_
  refine qe_iaload c221_68 e53 e54 ?_
  refine qe_i2l c221_69 ?_
  refine qe_lastore c221_70 e57 e58 ?_
  rw [e59]
  refine qe_aload_n c221_71 rfl ?_
  refine qe_getfield c221_72 qo221 qF5_27 e61 e63 ?_
  refine qe_bipush (x := 9) c221_75 (by decide) ?_
  refine qe_aload_n c221_77 rfl ?_
  refine qe_getfield c221_78 qo221 qF5_21 e61 e65 ?_
  refine qe_getfield c221_81 qo221 qF5_166 e67 e69 ?_
  refine qe_iload_n c221_84 rfl ?_
  refine qe_iaload c221_85 e72 e73 ?_
  refine qe_i2l c221_86 ?_
  refine qe_lastore c221_87 e76 e77 ?_
  rw [e78]
  refine qe_aload_n c221_88 rfl ?_
  refine qe_getfield c221_89 qo221 qF5_27 e80 e82 ?_
  refine qe_bipush (x := 10) c221_92 (by decide) ?_
  refine qe_aload_n c221_94 rfl ?_
  refine qe_getfield c221_95 qo221 qF5_169 e84 e86 ?_
  refine qe_iload_n c221_98 rfl ?_
  refine qe_iaload c221_99 e89 e90 ?_
  refine qe_i2l c221_100 ?_
  refine qe_lastore c221_101 e93 e94 ?_
  rw [e95]
  refine qe_aload_n c221_102 rfl ?_
  refine qe_getfield c221_103 qo221 qF5_148 e97 e99 ?_
  refine qe_iconst (x := 1) c221_106 (by decide) ?_
  refine qe_aload_n c221_107 rfl ?_
  refine qe_getfield c221_108 qo221 qF5_27 e101 e103 ?_
  refine qe_virtual (b := y98) (as := [.int 1, .ref y102]) (r := []) (v := (some (.int z106))) (h2 := h6) c221_111 qo221 qK5_152 rfl rfl rfl (by rw [qo16]; exact e105) (Nat.le_of_ble_eq_true rfl) e107 ?_
  refine qe_if_eq_F (t := 146) c221_114 rfl e108 ?_
  exact kk
theorem b221_24T {d : Nat} {q : Option Value × qH} {h : qH} {r0 : Nat} {r1 : Nat} {x2 : Int32} {fs1 : List Value} {y3 : Nat} {n5 : Nat} {f6 : Nat → Int64} {h1 : qH} {fs10 : List Value} {y12 : Nat} {fs14 : List Value} {y16 : Nat} {y18 : Nat} {n20 : Nat} {f21 : Nat → Int32} {n24 : Nat} {f25 : Nat → Int32} {n28 : Nat} {f29 : Nat → Int64} {h2 : qH} {fs33 : List Value} {y35 : Nat} {y37 : Nat} {fs39 : List Value} {y41 : Nat} {fs43 : List Value} {y45 : Nat} {n47 : Nat} {f48 : Nat → Int32} {n51 : Nat} {f52 : Nat → Int32} {n55 : Nat} {f56 : Nat → Int64} {h3 : qH} {fs60 : List Value} {y62 : Nat} {y64 : Nat} {fs66 : List Value} {y68 : Nat} {n70 : Nat} {f71 : Nat → Int32} {n74 : Nat} {f75 : Nat → Int64} {h4 : qH} {fs79 : List Value} {y81 : Nat} {fs83 : List Value} {y85 : Nat} {n87 : Nat} {f88 : Nat → Int32} {n91 : Nat} {f92 : Nat → Int64} {h5 : qH} {fs96 : List Value} {y98 : Nat} {fs100 : List Value} {y102 : Nat} {fs104 : List Value} {h6 : qH} {z106 : Int32}  (e2 : h.2.2 r0 = some (.inr (5, fs1))) (e4 : fs1[7]? = some (.ref y3)) (e7 : h.2.2 y3 = some (.inl (2, n5, .inr (.inl f6)))) (e8 : 0 ≤ (1 : Int32).toInt ∧ (1 : Int32).toInt < (n5 : Nat)) (e9 : qset h y3 (.inl (2, n5, .inr (.inl (vp_updL f6 ((1 : Int32).toNatClampNeg) ((x2 : Int32).toInt64))))) = h1) (e11 : h1.2.2 r0 = some (.inr (5, fs10))) (e13 : fs10[7]? = some (.ref y12)) (e15 : h1.2.2 r1 = some (.inr (4, fs14))) (e17 : fs14[5]? = some (.ref y16)) (e19 : fs14[14]? = some (.ref y18)) (e22 : h1.2.2 y18 = some (.inl (0, n20, .inl f21))) (e23 : 0 ≤ (x2 : Int32).toInt ∧ (x2 : Int32).toInt < (n20 : Nat)) (e26 : h1.2.2 y16 = some (.inl (0, n24, .inl f25))) (e27 : 0 ≤ ((f21 (x2 : Int32).toNatClampNeg) : Int32).toInt ∧ ((f21 (x2 : Int32).toNatClampNeg) : Int32).toInt < (n24 : Nat)) (e30 : h1.2.2 y12 = some (.inl (2, n28, .inr (.inl f29)))) (e31 : 0 ≤ (2 : Int32).toInt ∧ (2 : Int32).toInt < (n28 : Nat)) (e32 : qset h1 y12 (.inl (2, n28, .inr (.inl (vp_updL f29 ((2 : Int32).toNatClampNeg) (((f25 ((f21 (x2 : Int32).toNatClampNeg) : Int32).toNatClampNeg) : Int32).toInt64))))) = h2) (e34 : h2.2.2 r0 = some (.inr (5, fs33))) (e36 : fs33[7]? = some (.ref y35)) (e38 : fs33[1]? = some (.ref y37)) (e40 : h2.2.2 y37 = some (.inr (7, fs39))) (e42 : fs39[5]? = some (.ref y41)) (e44 : h2.2.2 r1 = some (.inr (4, fs43))) (e46 : fs43[14]? = some (.ref y45)) (e49 : h2.2.2 y45 = some (.inl (0, n47, .inl f48))) (e50 : 0 ≤ (x2 : Int32).toInt ∧ (x2 : Int32).toInt < (n47 : Nat)) (e53 : h2.2.2 y41 = some (.inl (0, n51, .inl f52))) (e54 : 0 ≤ ((f48 (x2 : Int32).toNatClampNeg) : Int32).toInt ∧ ((f48 (x2 : Int32).toNatClampNeg) : Int32).toInt < (n51 : Nat)) (e57 : h2.2.2 y35 = some (.inl (2, n55, .inr (.inl f56)))) (e58 : 0 ≤ (3 : Int32).toInt ∧ (3 : Int32).toInt < (n55 : Nat)) (e59 : qset h2 y35 (.inl (2, n55, .inr (.inl (vp_updL f56 ((3 : Int32).toNatClampNeg) (((f52 ((f48 (x2 : Int32).toNatClampNeg) : Int32).toNatClampNeg) : Int32).toInt64))))) = h3) (e61 : h3.2.2 r0 = some (.inr (5, fs60))) (e63 : fs60[7]? = some (.ref y62)) (e65 : fs60[1]? = some (.ref y64)) (e67 : h3.2.2 y64 = some (.inr (7, fs66))) (e69 : fs66[6]? = some (.ref y68)) (e72 : h3.2.2 y68 = some (.inl (0, n70, .inl f71))) (e73 : 0 ≤ (x2 : Int32).toInt ∧ (x2 : Int32).toInt < (n70 : Nat)) (e76 : h3.2.2 y62 = some (.inl (2, n74, .inr (.inl f75)))) (e77 : 0 ≤ (9 : Int32).toInt ∧ (9 : Int32).toInt < (n74 : Nat)) (e78 : qset h3 y62 (.inl (2, n74, .inr (.inl (vp_updL f75 ((9 : Int32).toNatClampNeg) (((f71 (x2 : Int32).toNatClampNeg) : Int32).toInt64))))) = h4) (e80 : h4.2.2 r0 = some (.inr (5, fs79))) (e82 : fs79[7]? = some (.ref y81)) (e84 : h4.2.2 r1 = some (.inr (4, fs83))) (e86 : fs83[15]? = some (.ref y85)) (e89 : h4.2.2 y85 = some (.inl (0, n87, .inl f88))) (e90 : 0 ≤ (x2 : Int32).toInt ∧ (x2 : Int32).toInt < (n87 : Nat)) (e93 : h4.2.2 y81 = some (.inl (2, n91, .inr (.inl f92)))) (e94 : 0 ≤ (10 : Int32).toInt ∧ (10 : Int32).toInt < (n91 : Nat)) (e95 : qset h4 y81 (.inl (2, n91, .inr (.inl (vp_updL f92 ((10 : Int32).toNatClampNeg) (((f88 (x2 : Int32).toNatClampNeg) : Int32).toInt64))))) = h5) (e97 : h5.2.2 r1 = some (.inr (4, fs96))) (e99 : fs96[4]? = some (.ref y98)) (e101 : h5.2.2 r0 = some (.inr (5, fs100))) (e103 : fs100[7]? = some (.ref y102)) (e105 : h5.2.2 y98 = some (.inr (10, fs104))) (e107 : qCall d 16 [.ref y98, .int 1, .ref y102] h5 ((some (.int z106)), h6)) (e108 : (z106 : Int32) = 0) (kk : qE d 221 146 [some (.ref r0), some (.ref r1), some (.int x2)] [] h6 q): qE d 221 24 [some (.ref r0), some (.ref r1), some (.int x2)] [] h q := by
  refine qe_aload_n c221_24 rfl ?_
  refine qe_getfield c221_25 qo221 qF5_27 e2 e4 ?_
  refine qe_iconst (x := 1) c221_28 (by decide) ?_
  refine qe_iload_n c221_29 rfl ?_
  refine qe_i2l c221_30 ?_
  refine qe_lastore c221_31 e7 e8 ?_
  rw [e9]
  refine qe_aload_n c221_32 rfl ?_
  refine qe_getfield c221_33 qo221 qF5_27 e11 e13 ?_
  refine qe_iconst (x := 2) c221_36 (by decide) ?_
  refine qe_aload_n c221_37 rfl ?_
  refine qe_getfield c221_38 qo221 qF5_139 e15 e17 ?_
  refine qe_aload_n c221_41 rfl ?_
  refine qe_getfield c221_42 qo221 qF5_163 e15 e19 ?_
  refine qe_iload_n c221_45 rfl ?_
  refine qe_iaload c221_46 e22 e23 ?_
  refine qe_iaload c221_47 e26 e27 ?_
  refine qe_i2l c221_48 ?_
  refine qe_lastore c221_49 e30 e31 ?_
  rw [e32]
  refine qe_aload_n c221_50 rfl ?_
  refine qe_getfield c221_51 qo221 qF5_27 e34 e36 ?_
  refine qe_iconst (x := 3) c221_54 (by decide) ?_
  refine qe_aload_n c221_55 rfl ?_
  refine qe_getfield c221_56 qo221 qF5_21 e34 e38 ?_
  refine qe_getfield c221_59 qo221 qF5_145 e40 e42 ?_
  refine qe_aload_n c221_62 rfl ?_
  refine qe_getfield c221_63 qo221 qF5_163 e44 e46 ?_
  refine qe_iload_n c221_66 rfl ?_
  refine qe_iaload c221_67 e49 e50 ?_
  refine qe_iaload c221_68 e53 e54 ?_
  refine qe_i2l c221_69 ?_
  refine qe_lastore c221_70 e57 e58 ?_
  rw [e59]
  refine qe_aload_n c221_71 rfl ?_
  refine qe_getfield c221_72 qo221 qF5_27 e61 e63 ?_
  refine qe_bipush (x := 9) c221_75 (by decide) ?_
  refine qe_aload_n c221_77 rfl ?_
  refine qe_getfield c221_78 qo221 qF5_21 e61 e65 ?_
  refine qe_getfield c221_81 qo221 qF5_166 e67 e69 ?_
  refine qe_iload_n c221_84 rfl ?_
  refine qe_iaload c221_85 e72 e73 ?_
  refine qe_i2l c221_86 ?_
  refine qe_lastore c221_87 e76 e77 ?_
  rw [e78]
  refine qe_aload_n c221_88 rfl ?_
  refine qe_getfield c221_89 qo221 qF5_27 e80 e82 ?_
  refine qe_bipush (x := 10) c221_92 (by decide) ?_
  refine qe_aload_n c221_94 rfl ?_
  refine qe_getfield c221_95 qo221 qF5_169 e84 e86 ?_
  refine qe_iload_n c221_98 rfl ?_
  refine qe_iaload c221_99 e89 e90 ?_
  refine qe_i2l c221_100 ?_
  refine qe_lastore c221_101 e93 e94 ?_
  rw [e95]
  refine qe_aload_n c221_102 rfl ?_
  refine qe_getfield c221_103 qo221 qF5_148 e97 e99 ?_
  refine qe_iconst (x := 1) c221_106 (by decide) ?_
  refine qe_aload_n c221_107 rfl ?_
  refine qe_getfield c221_108 qo221 qF5_27 e101 e103 ?_
  refine qe_virtual (b := y98) (as := [.int 1, .ref y102]) (r := []) (v := (some (.int z106))) (h2 := h6) c221_111 qo221 qK5_152 rfl rfl rfl (by rw [qo16]; exact e105) (Nat.le_of_ble_eq_true rfl) e107 ?_
  refine qe_if_eq_T (t := 146) c221_114 rfl e108 ?_
  exact kk
theorem b221_117 {d : Nat} {q : Option Value × qH} {h : qH} {r0 : Nat} {r1 : Nat} {x2 : Int32} {fs1 : List Value} {y3 : Nat} {fs5 : List Value} {y7 : Int32} {h1 : qH} {fs11 : List Value} {y13 : Int32} {h2 : qH}  (e2 : h.2.2 r0 = some (.inr (5, fs1))) (e4 : fs1[0]? = some (.ref y3)) (e6 : h.2.2 y3 = some (.inr (8, fs5))) (e8 : fs5[2]? = some (.int y7)) (e9 : 2 < fs5.length) (e10 : qset h y3 (.inr (8, fs5.set 2 (.int (y7 &&& ((1 <<< (x2 &&& 31)) ^^^ (-1)))))) = h1) (e12 : h1.2.2 r0 = some (.inr (5, fs11))) (e14 : fs11[5]? = some (.int y13)) (e15 : 5 < fs11.length) (e16 : qset h1 r0 (.inr (5, fs11.set 5 (.int (y13 ||| (1 <<< (x2 &&& 31)))))) = h2) (kk : qE d 221 146 [some (.ref r0), some (.ref r1), some (.int x2)] [] h2 q): qE d 221 117 [some (.ref r0), some (.ref r1), some (.int x2)] [] h q := by
  refine qe_aload_n c221_117 rfl ?_
  refine qe_getfield c221_118 qo221 qF5_12 e2 e4 ?_
  refine qe_dup c221_121 rfl ?_
  refine qe_getfield c221_122 qo221 qF5_172 e6 e8 ?_
  refine qe_iconst (x := 1) c221_125 (by decide) ?_
  refine qe_iload_n c221_126 rfl ?_
  refine qe_ishl c221_127 ?_
  refine qe_iconst (x := (-1)) c221_128 (by decide) ?_
  refine qe_ixor c221_129 ?_
  refine qe_iand c221_130 ?_
  refine qe_putfield c221_131 qo221 qF5_172 qz8_2 e6 e9 (by rw [qy8_2]; rfl) ?_
  rw [e10]
  refine qe_aload_n c221_134 rfl ?_
  refine qe_dup c221_135 rfl ?_
  refine qe_getfield c221_136 qo221 qF5_54 e12 e14 ?_
  refine qe_iconst (x := 1) c221_139 (by decide) ?_
  refine qe_iload_n c221_140 rfl ?_
  refine qe_ishl c221_141 ?_
  refine qe_ior c221_142 ?_
  refine qe_putfield c221_143 qo221 qF5_54 qz5_5 e12 e15 (by rw [qy5_5]; rfl) ?_
  rw [e16]
  exact kk
theorem b221_146 {d : Nat} {q : Option Value × qH} {h : qH} {r0 : Nat} {r1 : Nat} {x2 : Int32}   (kk : qE d 221 2 [some (.ref r0), some (.ref r1), some (.int (x2 + 1))] [] h q): qE d 221 146 [some (.ref r0), some (.ref r1), some (.int x2)] [] h q := by
  refine qe_iinc (y := (x2 + 1)) (ls2 := [some (.ref r0), some (.ref r1), some (.int (x2 + 1))]) c221_146 rfl (Nat.le_of_ble_eq_true rfl) rfl rfl ?_
  refine qe_goto (t := 2) c221_149 rfl ?_
  exact kk
theorem b221_152 {d : Nat} {h : qH} {r0 : Nat} {r1 : Nat} {x2 : Int32}   : qE d 221 152 [some (.ref r0), some (.ref r1), some (.int x2)] [] h (none, h) := by
  exact qe_vret c221_152 qr221
theorem b222_0F {d : Nat} {q : Option Value × qH} {h : qH} {r0 : Nat} {x1 : Int32} {x2 : Int32}  (e1 : (x1 : Int32) = 1) (kk : qE d 222 5 [some (.ref r0), some (.int x1), some (.int x2), none] [] h q): qE d 222 0 [some (.ref r0), some (.int x1), some (.int x2), none] [] h q := by
  refine qe_iload_n c222_0 rfl ?_
  refine qe_iconst (x := 1) c222_1 (by decide) ?_
  refine qe_icmp_ne_F (t := 23) c222_2 rfl e1 ?_
  exact kk
theorem b222_0T {d : Nat} {q : Option Value × qH} {h : qH} {r0 : Nat} {x1 : Int32} {x2 : Int32}  (e1 : ¬ ((x1 : Int32) = 1)) (kk : qE d 222 23 [some (.ref r0), some (.int x1), some (.int x2), none] [] h q): qE d 222 0 [some (.ref r0), some (.int x1), some (.int x2), none] [] h q := by
  refine qe_iload_n c222_0 rfl ?_
  refine qe_iconst (x := 1) c222_1 (by decide) ?_
  refine qe_icmp_ne_T (t := 23) c222_2 rfl e1 ?_
  exact kk
theorem b222_5F {d : Nat} {q : Option Value × qH} {h : qH} {r0 : Nat} {x1 : Int32} {x2 : Int32} {fs1 : List Value} {y3 : Int32}  (e2 : h.2.2 r0 = some (.inr (5, fs1))) (e4 : fs1[3]? = some (.int y3)) (e5 : (((y3 >>> (x2 &&& 31)) &&& 1) : Int32) = 1) (kk : qE d 222 17 [some (.ref r0), some (.int x1), some (.int x2), none] [] h q): qE d 222 5 [some (.ref r0), some (.int x1), some (.int x2), none] [] h q := by
  refine qe_aload_n c222_5 rfl ?_
  refine qe_getfield c222_6 qo222 qF5_48 e2 e4 ?_
  refine qe_iload_n c222_9 rfl ?_
  refine qe_ishr c222_10 ?_
  refine qe_iconst (x := 1) c222_11 (by decide) ?_
  refine qe_iand c222_12 ?_
  refine qe_iconst (x := 1) c222_13 (by decide) ?_
  refine qe_icmp_ne_F (t := 21) c222_14 rfl e5 ?_
  exact kk
theorem b222_5T {d : Nat} {q : Option Value × qH} {h : qH} {r0 : Nat} {x1 : Int32} {x2 : Int32} {fs1 : List Value} {y3 : Int32}  (e2 : h.2.2 r0 = some (.inr (5, fs1))) (e4 : fs1[3]? = some (.int y3)) (e5 : ¬ ((((y3 >>> (x2 &&& 31)) &&& 1) : Int32) = 1)) (kk : qE d 222 21 [some (.ref r0), some (.int x1), some (.int x2), none] [] h q): qE d 222 5 [some (.ref r0), some (.int x1), some (.int x2), none] [] h q := by
  refine qe_aload_n c222_5 rfl ?_
  refine qe_getfield c222_6 qo222 qF5_48 e2 e4 ?_
  refine qe_iload_n c222_9 rfl ?_
  refine qe_ishr c222_10 ?_
  refine qe_iconst (x := 1) c222_11 (by decide) ?_
  refine qe_iand c222_12 ?_
  refine qe_iconst (x := 1) c222_13 (by decide) ?_
  refine qe_icmp_ne_T (t := 21) c222_14 rfl e5 ?_
  exact kk
theorem b222_17 {d : Nat} {q : Option Value × qH} {h : qH} {r0 : Nat} {x1 : Int32} {x2 : Int32}   (kk : qE d 222 22 [some (.ref r0), some (.int x1), some (.int x2), none] [.int 1] h q): qE d 222 17 [some (.ref r0), some (.int x1), some (.int x2), none] [] h q := by
  refine qe_iconst (x := 1) c222_17 (by decide) ?_
  refine qe_goto (t := 22) c222_18 rfl ?_
  exact kk
theorem b222_21 {d : Nat} {q : Option Value × qH} {h : qH} {r0 : Nat} {x1 : Int32} {x2 : Int32}   (kk : qE d 222 22 [some (.ref r0), some (.int x1), some (.int x2), none] [.int 0] h q): qE d 222 21 [some (.ref r0), some (.int x1), some (.int x2), none] [] h q := by
  refine qe_iconst (x := 0) c222_21 (by decide) ?_
  exact kk
theorem b222_22 {d : Nat} {h : qH} {r0 : Nat} {x1 : Int32} {x2 : Int32} {xs0 : Int32}  (e1 : (xs0 : Int32) = 0 ∨ (xs0 : Int32) = 1) : qE d 222 22 [some (.ref r0), some (.int x1), some (.int x2), none] [.int xs0] h (some (.int xs0), h) := by
  exact qe_zret c222_22 qr222 e1
theorem b222_23F {d : Nat} {q : Option Value × qH} {h : qH} {r0 : Nat} {x1 : Int32} {x2 : Int32}  (e1 : (x1 : Int32) = 2) (kk : qE d 222 28 [some (.ref r0), some (.int x1), some (.int x2), none] [] h q): qE d 222 23 [some (.ref r0), some (.int x1), some (.int x2), none] [] h q := by
  refine qe_iload_n c222_23 rfl ?_
  refine qe_iconst (x := 2) c222_24 (by decide) ?_
  refine qe_icmp_ne_F (t := 46) c222_25 rfl e1 ?_
  exact kk
theorem b222_23T {d : Nat} {q : Option Value × qH} {h : qH} {r0 : Nat} {x1 : Int32} {x2 : Int32}  (e1 : ¬ ((x1 : Int32) = 2)) (kk : qE d 222 46 [some (.ref r0), some (.int x1), some (.int x2), none] [] h q): qE d 222 23 [some (.ref r0), some (.int x1), some (.int x2), none] [] h q := by
  refine qe_iload_n c222_23 rfl ?_
  refine qe_iconst (x := 2) c222_24 (by decide) ?_
  refine qe_icmp_ne_T (t := 46) c222_25 rfl e1 ?_
  exact kk
theorem b222_28F {d : Nat} {q : Option Value × qH} {h : qH} {r0 : Nat} {x1 : Int32} {x2 : Int32} {fs1 : List Value} {y3 : Int32}  (e2 : h.2.2 r0 = some (.inr (5, fs1))) (e4 : fs1[4]? = some (.int y3)) (e5 : (((y3 >>> (x2 &&& 31)) &&& 1) : Int32) = 1) (kk : qE d 222 40 [some (.ref r0), some (.int x1), some (.int x2), none] [] h q): qE d 222 28 [some (.ref r0), some (.int x1), some (.int x2), none] [] h q := by
  refine qe_aload_n c222_28 rfl ?_
  refine qe_getfield c222_29 qo222 qF5_51 e2 e4 ?_
  refine qe_iload_n c222_32 rfl ?_
  refine qe_ishr c222_33 ?_
  refine qe_iconst (x := 1) c222_34 (by decide) ?_
  refine qe_iand c222_35 ?_
  refine qe_iconst (x := 1) c222_36 (by decide) ?_
  refine qe_icmp_ne_F (t := 44) c222_37 rfl e5 ?_
  exact kk
theorem b222_28T {d : Nat} {q : Option Value × qH} {h : qH} {r0 : Nat} {x1 : Int32} {x2 : Int32} {fs1 : List Value} {y3 : Int32}  (e2 : h.2.2 r0 = some (.inr (5, fs1))) (e4 : fs1[4]? = some (.int y3)) (e5 : ¬ ((((y3 >>> (x2 &&& 31)) &&& 1) : Int32) = 1)) (kk : qE d 222 44 [some (.ref r0), some (.int x1), some (.int x2), none] [] h q): qE d 222 28 [some (.ref r0), some (.int x1), some (.int x2), none] [] h q := by
  refine qe_aload_n c222_28 rfl ?_
  refine qe_getfield c222_29 qo222 qF5_51 e2 e4 ?_
  refine qe_iload_n c222_32 rfl ?_
  refine qe_ishr c222_33 ?_
  refine qe_iconst (x := 1) c222_34 (by decide) ?_
  refine qe_iand c222_35 ?_
  refine qe_iconst (x := 1) c222_36 (by decide) ?_
  refine qe_icmp_ne_T (t := 44) c222_37 rfl e5 ?_
  exact kk
theorem b222_40 {d : Nat} {q : Option Value × qH} {h : qH} {r0 : Nat} {x1 : Int32} {x2 : Int32}   (kk : qE d 222 45 [some (.ref r0), some (.int x1), some (.int x2), none] [.int 1] h q): qE d 222 40 [some (.ref r0), some (.int x1), some (.int x2), none] [] h q := by
  refine qe_iconst (x := 1) c222_40 (by decide) ?_
  refine qe_goto (t := 45) c222_41 rfl ?_
  exact kk
theorem b222_44 {d : Nat} {q : Option Value × qH} {h : qH} {r0 : Nat} {x1 : Int32} {x2 : Int32}   (kk : qE d 222 45 [some (.ref r0), some (.int x1), some (.int x2), none] [.int 0] h q): qE d 222 44 [some (.ref r0), some (.int x1), some (.int x2), none] [] h q := by
  refine qe_iconst (x := 0) c222_44 (by decide) ?_
  exact kk
theorem b222_45 {d : Nat} {h : qH} {r0 : Nat} {x1 : Int32} {x2 : Int32} {xs0 : Int32}  (e1 : (xs0 : Int32) = 0 ∨ (xs0 : Int32) = 1) : qE d 222 45 [some (.ref r0), some (.int x1), some (.int x2), none] [.int xs0] h (some (.int xs0), h) := by
  exact qe_zret c222_45 qr222 e1
theorem b222_46F {d : Nat} {q : Option Value × qH} {h : qH} {r0 : Nat} {x1 : Int32} {x2 : Int32}  (e1 : (x1 : Int32) = 3) (kk : qE d 222 51 [some (.ref r0), some (.int x1), some (.int x2), none] [] h q): qE d 222 46 [some (.ref r0), some (.int x1), some (.int x2), none] [] h q := by
  refine qe_iload_n c222_46 rfl ?_
  refine qe_iconst (x := 3) c222_47 (by decide) ?_
  refine qe_icmp_ne_F (t := 69) c222_48 rfl e1 ?_
  exact kk
theorem b222_46T {d : Nat} {q : Option Value × qH} {h : qH} {r0 : Nat} {x1 : Int32} {x2 : Int32}  (e1 : ¬ ((x1 : Int32) = 3)) (kk : qE d 222 69 [some (.ref r0), some (.int x1), some (.int x2), none] [] h q): qE d 222 46 [some (.ref r0), some (.int x1), some (.int x2), none] [] h q := by
  refine qe_iload_n c222_46 rfl ?_
  refine qe_iconst (x := 3) c222_47 (by decide) ?_
  refine qe_icmp_ne_T (t := 69) c222_48 rfl e1 ?_
  exact kk
theorem b222_51F {d : Nat} {q : Option Value × qH} {h : qH} {r0 : Nat} {x1 : Int32} {x2 : Int32} {fs1 : List Value} {y3 : Int32}  (e2 : h.2.2 r0 = some (.inr (5, fs1))) (e4 : fs1[5]? = some (.int y3)) (e5 : (((y3 >>> (x2 &&& 31)) &&& 1) : Int32) = 1) (kk : qE d 222 63 [some (.ref r0), some (.int x1), some (.int x2), none] [] h q): qE d 222 51 [some (.ref r0), some (.int x1), some (.int x2), none] [] h q := by
  refine qe_aload_n c222_51 rfl ?_
  refine qe_getfield c222_52 qo222 qF5_54 e2 e4 ?_
  refine qe_iload_n c222_55 rfl ?_
  refine qe_ishr c222_56 ?_
  refine qe_iconst (x := 1) c222_57 (by decide) ?_
  refine qe_iand c222_58 ?_
  refine qe_iconst (x := 1) c222_59 (by decide) ?_
  refine qe_icmp_ne_F (t := 67) c222_60 rfl e5 ?_
  exact kk
theorem b222_51T {d : Nat} {q : Option Value × qH} {h : qH} {r0 : Nat} {x1 : Int32} {x2 : Int32} {fs1 : List Value} {y3 : Int32}  (e2 : h.2.2 r0 = some (.inr (5, fs1))) (e4 : fs1[5]? = some (.int y3)) (e5 : ¬ ((((y3 >>> (x2 &&& 31)) &&& 1) : Int32) = 1)) (kk : qE d 222 67 [some (.ref r0), some (.int x1), some (.int x2), none] [] h q): qE d 222 51 [some (.ref r0), some (.int x1), some (.int x2), none] [] h q := by
  refine qe_aload_n c222_51 rfl ?_
  refine qe_getfield c222_52 qo222 qF5_54 e2 e4 ?_
  refine qe_iload_n c222_55 rfl ?_
  refine qe_ishr c222_56 ?_
  refine qe_iconst (x := 1) c222_57 (by decide) ?_
  refine qe_iand c222_58 ?_
  refine qe_iconst (x := 1) c222_59 (by decide) ?_
  refine qe_icmp_ne_T (t := 67) c222_60 rfl e5 ?_
  exact kk
theorem b222_63 {d : Nat} {q : Option Value × qH} {h : qH} {r0 : Nat} {x1 : Int32} {x2 : Int32}   (kk : qE d 222 68 [some (.ref r0), some (.int x1), some (.int x2), none] [.int 1] h q): qE d 222 63 [some (.ref r0), some (.int x1), some (.int x2), none] [] h q := by
  refine qe_iconst (x := 1) c222_63 (by decide) ?_
  refine qe_goto (t := 68) c222_64 rfl ?_
  exact kk
theorem b222_67 {d : Nat} {q : Option Value × qH} {h : qH} {r0 : Nat} {x1 : Int32} {x2 : Int32}   (kk : qE d 222 68 [some (.ref r0), some (.int x1), some (.int x2), none] [.int 0] h q): qE d 222 67 [some (.ref r0), some (.int x1), some (.int x2), none] [] h q := by
  refine qe_iconst (x := 0) c222_67 (by decide) ?_
  exact kk
theorem b222_68 {d : Nat} {h : qH} {r0 : Nat} {x1 : Int32} {x2 : Int32} {xs0 : Int32}  (e1 : (xs0 : Int32) = 0 ∨ (xs0 : Int32) = 1) : qE d 222 68 [some (.ref r0), some (.int x1), some (.int x2), none] [.int xs0] h (some (.int xs0), h) := by
  exact qe_zret c222_68 qr222 e1
theorem b222_69 {d : Nat} {q : Option Value × qH} {h : qH} {r0 : Nat} {x1 : Int32} {x2 : Int32}   (kk : qE d 222 71 [some (.ref r0), some (.int x1), some (.int x2), some (.int 0)] [] h q): qE d 222 69 [some (.ref r0), some (.int x1), some (.int x2), none] [] h q := by
  refine qe_iconst (x := 0) c222_69 (by decide) ?_
  refine qe_istore_n (ls2 := [some (.ref r0), some (.int x1), some (.int x2), some (.int 0)]) c222_70 (Nat.le_of_ble_eq_true rfl) rfl ?_
  exact kk
theorem b222_71F {d : Nat} {q : Option Value × qH} {h : qH} {r0 : Nat} {x1 : Int32} {x2 : Int32} {x3 : Int32} {fs1 : List Value} {y3 : Nat} {fs5 : List Value} {y7 : Int32}  (e2 : h.2.2 r0 = some (.inr (5, fs1))) (e4 : fs1[1]? = some (.ref y3)) (e6 : h.2.2 y3 = some (.inr (7, fs5))) (e8 : fs5[1]? = some (.int y7)) (e9 : ¬ ((y7 : Int32) ≤ x3)) (kk : qE d 222 82 [some (.ref r0), some (.int x1), some (.int x2), some (.int x3)] [] h q): qE d 222 71 [some (.ref r0), some (.int x1), some (.int x2), some (.int x3)] [] h q := by
  refine qe_iload_n c222_71 rfl ?_
  refine qe_aload_n c222_72 rfl ?_
  refine qe_getfield c222_73 qo222 qF5_21 e2 e4 ?_
  refine qe_getfield c222_76 qo222 qF5_85 e6 e8 ?_
  refine qe_icmp_ge_F (t := 103) c222_79 rfl e9 ?_
  exact kk
theorem b222_71T {d : Nat} {q : Option Value × qH} {h : qH} {r0 : Nat} {x1 : Int32} {x2 : Int32} {x3 : Int32} {fs1 : List Value} {y3 : Nat} {fs5 : List Value} {y7 : Int32}  (e2 : h.2.2 r0 = some (.inr (5, fs1))) (e4 : fs1[1]? = some (.ref y3)) (e6 : h.2.2 y3 = some (.inr (7, fs5))) (e8 : fs5[1]? = some (.int y7)) (e9 : (y7 : Int32) ≤ x3) (kk : qE d 222 103 [some (.ref r0), some (.int x1), some (.int x2), some (.int x3)] [] h q): qE d 222 71 [some (.ref r0), some (.int x1), some (.int x2), some (.int x3)] [] h q := by
  refine qe_iload_n c222_71 rfl ?_
  refine qe_aload_n c222_72 rfl ?_
  refine qe_getfield c222_73 qo222 qF5_21 e2 e4 ?_
  refine qe_getfield c222_76 qo222 qF5_85 e6 e8 ?_
  refine qe_icmp_ge_T (t := 103) c222_79 rfl e9 ?_
  exact kk
theorem b222_82F {d : Nat} {q : Option Value × qH} {h : qH} {r0 : Nat} {x1 : Int32} {x2 : Int32} {x3 : Int32} {fs1 : List Value} {y3 : Nat} {fs5 : List Value} {y7 : Nat} {n9 : Nat} {f10 : Nat → Int32}  (e2 : h.2.2 r0 = some (.inr (5, fs1))) (e4 : fs1[1]? = some (.ref y3)) (e6 : h.2.2 y3 = some (.inr (7, fs5))) (e8 : fs5[3]? = some (.ref y7)) (e11 : h.2.2 y7 = some (.inl (0, n9, .inl f10))) (e12 : 0 ≤ (x3 : Int32).toInt ∧ (x3 : Int32).toInt < (n9 : Nat)) (e13 : ((f10 (x3 : Int32).toNatClampNeg) : Int32) = x2) (kk : qE d 222 95 [some (.ref r0), some (.int x1), some (.int x2), some (.int x3)] [] h q): qE d 222 82 [some (.ref r0), some (.int x1), some (.int x2), some (.int x3)] [] h q := by
  refine qe_aload_n c222_82 rfl ?_
  refine qe_getfield c222_83 qo222 qF5_21 e2 e4 ?_
  refine qe_getfield c222_86 qo222 qF5_91 e6 e8 ?_
  refine qe_iload_n c222_89 rfl ?_
  refine qe_iaload c222_90 e11 e12 ?_
  refine qe_iload_n c222_91 rfl ?_
  refine qe_icmp_ne_F (t := 97) c222_92 rfl e13 ?_
  exact kk
theorem b222_82T {d : Nat} {q : Option Value × qH} {h : qH} {r0 : Nat} {x1 : Int32} {x2 : Int32} {x3 : Int32} {fs1 : List Value} {y3 : Nat} {fs5 : List Value} {y7 : Nat} {n9 : Nat} {f10 : Nat → Int32}  (e2 : h.2.2 r0 = some (.inr (5, fs1))) (e4 : fs1[1]? = some (.ref y3)) (e6 : h.2.2 y3 = some (.inr (7, fs5))) (e8 : fs5[3]? = some (.ref y7)) (e11 : h.2.2 y7 = some (.inl (0, n9, .inl f10))) (e12 : 0 ≤ (x3 : Int32).toInt ∧ (x3 : Int32).toInt < (n9 : Nat)) (e13 : ¬ (((f10 (x3 : Int32).toNatClampNeg) : Int32) = x2)) (kk : qE d 222 97 [some (.ref r0), some (.int x1), some (.int x2), some (.int x3)] [] h q): qE d 222 82 [some (.ref r0), some (.int x1), some (.int x2), some (.int x3)] [] h q := by
  refine qe_aload_n c222_82 rfl ?_
  refine qe_getfield c222_83 qo222 qF5_21 e2 e4 ?_
  refine qe_getfield c222_86 qo222 qF5_91 e6 e8 ?_
  refine qe_iload_n c222_89 rfl ?_
  refine qe_iaload c222_90 e11 e12 ?_
  refine qe_iload_n c222_91 rfl ?_
  refine qe_icmp_ne_T (t := 97) c222_92 rfl e13 ?_
  exact kk
theorem b222_95 {d : Nat} {h : qH} {r0 : Nat} {x1 : Int32} {x2 : Int32} {x3 : Int32}   : qE d 222 95 [some (.ref r0), some (.int x1), some (.int x2), some (.int x3)] [] h (some (.int 1), h) := by
  refine qe_iconst (x := 1) c222_95 (by decide) ?_
  exact qe_zret c222_96 qr222 (by decide)
theorem b222_97 {d : Nat} {q : Option Value × qH} {h : qH} {r0 : Nat} {x1 : Int32} {x2 : Int32} {x3 : Int32}   (kk : qE d 222 71 [some (.ref r0), some (.int x1), some (.int x2), some (.int (x3 + 1))] [] h q): qE d 222 97 [some (.ref r0), some (.int x1), some (.int x2), some (.int x3)] [] h q := by
  refine qe_iinc (y := (x3 + 1)) (ls2 := [some (.ref r0), some (.int x1), some (.int x2), some (.int (x3 + 1))]) c222_97 rfl (Nat.le_of_ble_eq_true rfl) rfl rfl ?_
  refine qe_goto (t := 71) c222_100 rfl ?_
  exact kk
theorem b222_103 {d : Nat} {h : qH} {r0 : Nat} {x1 : Int32} {x2 : Int32} {x3 : Int32}   : qE d 222 103 [some (.ref r0), some (.int x1), some (.int x2), some (.int x3)] [] h (some (.int 0), h) := by
  refine qe_iconst (x := 0) c222_103 (by decide) ?_
  exact qe_zret c222_104 qr222 (by decide)
theorem b223_0 {d : Nat} {h : qH} {r0 : Nat} {h1 : qH} {h2 : qH} {fs3 : List Value} {h3 : qH} {h4 : qH} {h5 : qH} {fs9 : List Value} {h6 : qH} {h7 : qH} {fs14 : List Value} {h8 : qH} (hd0 : 0 < d) (e1 : qnew h 8 (.inr (8, [.int 0, .int 0, .int 0, .int 0, .null, .null, .null, .null])) = h1) (e2 : qCall d 242 [.ref h.1] h1 (none, h2)) (e4 : h2.2.2 r0 = some (.inr (5, fs3))) (e5 : 0 < fs3.length) (e6 : qset h2 r0 (.inr (5, fs3.set 0 (.ref h.1))) = h3) (e7 : qnew h3 12 (.inr (7, [.int 0, .int 0, .int 0, .null, .null, .null, .null, .null, .null, .null, .null, .null])) = h4) (e8 : qCall d 236 [.ref h3.1] h4 (none, h5)) (e10 : h5.2.2 r0 = some (.inr (5, fs9))) (e11 : 1 < fs9.length) (e12 : qset h5 r0 (.inr (5, fs9.set 1 (.ref h3.1))) = h6) (e13 : qnew h6 11 (.inl (2, 11, .inr (.inl fun _ => 0))) = h7) (e15 : h7.2.2 r0 = some (.inr (5, fs14))) (e16 : 7 < fs14.length) (e17 : qset h7 r0 (.inr (5, fs14.set 7 (.ref h6.1))) = h8) : qE d 223 0 [some (.ref r0)] [] h (none, h8) := by
  refine qe_aload_n c223_0 rfl ?_
  refine qe_objinit c223_1 qo223 (by decide +kernel) (by decide) hd0 (Nat.le_of_ble_eq_true rfl) ?_
  refine qe_aload_n c223_4 rfl ?_
  refine qe_new (fs := [.int 0, .int 0, .int 0, .int 0, .null, .null, .null, .null]) (N := 8) c223_5 qo223 qN5_9 (by decide +kernel) (by decide +kernel) ?_
  rw [e1]
  refine qe_dup c223_8 rfl ?_
  refine qe_special (b := h.1) (as := []) (r := [.ref h.1, .ref r0]) (v := none) (h2 := h2) c223_9 qo223 (by decide +kernel) qK5_11 rfl ⟨rfl, Or.inr rfl⟩ rfl (Nat.le_of_ble_eq_true rfl) e2 ?_
  refine qe_putfinal c223_12 qo223 qF5_12 (by decide +kernel) e4 e5 (by rw [qy5_0]; rfl) ?_
  rw [e6]
  refine qe_aload_n c223_15 rfl ?_
  refine qe_new (fs := [.int 0, .int 0, .int 0, .null, .null, .null, .null, .null, .null, .null, .null, .null]) (N := 12) c223_16 qo223 qN5_18 (by decide +kernel) (by decide +kernel) ?_
  rw [e7]
  refine qe_dup c223_19 rfl ?_
  refine qe_special (b := h3.1) (as := []) (r := [.ref h3.1, .ref r0]) (v := none) (h2 := h5) c223_20 qo223 (by decide +kernel) qK5_20 rfl ⟨rfl, Or.inr rfl⟩ rfl (Nat.le_of_ble_eq_true rfl) e8 ?_
  refine qe_putfinal c223_23 qo223 qF5_21 (by decide +kernel) e10 e11 (by rw [qy5_1]; rfl) ?_
  rw [e12]
  refine qe_aload_n c223_26 rfl ?_
  refine qe_bipush (x := 11) c223_27 (by decide) ?_
  refine qe_new_long c223_29 (by decide) ?_
  rw [show Int32.toNatClampNeg 11 = 11 from by decide]
  rw [e13]
  refine qe_putfinal c223_31 qo223 qF5_27 (by decide +kernel) e15 e16 (by rw [qy5_7]; rfl) ?_
  rw [e17]
  exact qe_vret c223_34 qr223
theorem b224_0 {d : Nat} {q : Option Value × qH} {h : qH} {r0 : Nat} {r1 : Nat}   (kk : qE d 224 2 [some (.ref r0), some (.ref r1), some (.int 0), none] [] h q): qE d 224 0 [some (.ref r0), some (.ref r1), none, none] [] h q := by
  refine qe_iconst (x := 0) c224_0 (by decide) ?_
  refine qe_istore_n (ls2 := [some (.ref r0), some (.ref r1), some (.int 0), none]) c224_1 (Nat.le_of_ble_eq_true rfl) rfl ?_
  exact kk
theorem b224_2F {d : Nat} {q : Option Value × qH} {h : qH} {r0 : Nat} {r1 : Nat} {x2 : Int32} {o3 : Option Value} {fs1 : List Value} {y3 : Int32}  (e2 : h.2.2 r1 = some (.inr (4, fs1))) (e4 : fs1[1]? = some (.int y3)) (e5 : ¬ ((y3 : Int32) ≤ x2)) (kk : qE d 224 10 [some (.ref r0), some (.ref r1), some (.int x2), o3] [] h q): qE d 224 2 [some (.ref r0), some (.ref r1), some (.int x2), o3] [] h q := by
  refine qe_iload_n c224_2 rfl ?_
  refine qe_aload_n c224_3 rfl ?_
  refine qe_getfield c224_4 qo224 qF5_95 e2 e4 ?_
  refine qe_icmp_ge_F (t := 100) c224_7 rfl e5 ?_
  exact kk
theorem b224_2T {d : Nat} {q : Option Value × qH} {h : qH} {r0 : Nat} {r1 : Nat} {x2 : Int32} {o3 : Option Value} {fs1 : List Value} {y3 : Int32}  (e2 : h.2.2 r1 = some (.inr (4, fs1))) (e4 : fs1[1]? = some (.int y3)) (e5 : (y3 : Int32) ≤ x2) (kk : qE d 224 100 [some (.ref r0), some (.ref r1), some (.int x2), o3] [] h q): qE d 224 2 [some (.ref r0), some (.ref r1), some (.int x2), o3] [] h q := by
  refine qe_iload_n c224_2 rfl ?_
  refine qe_aload_n c224_3 rfl ?_
  refine qe_getfield c224_4 qo224 qF5_95 e2 e4 ?_
  refine qe_icmp_ge_T (t := 100) c224_7 rfl e5 ?_
  exact kk
theorem b224_10F {d : Nat} {q : Option Value × qH} {h : qH} {r0 : Nat} {r1 : Nat} {x2 : Int32} {o3 : Option Value} {fs1 : List Value} {y3 : Nat} {fs5 : List Value} {y7 : Nat} {n9 : Nat} {f10 : Nat → Int32}  (e2 : h.2.2 r0 = some (.inr (5, fs1))) (e4 : fs1[0]? = some (.ref y3)) (e6 : h.2.2 y3 = some (.inr (8, fs5))) (e8 : fs5[7]? = some (.ref y7)) (e11 : h.2.2 y7 = some (.inl (0, n9, .inl f10))) (e12 : 0 ≤ (x2 : Int32).toInt ∧ (x2 : Int32).toInt < (n9 : Nat)) (e13 : ¬ (((f10 (x2 : Int32).toNatClampNeg) : Int32) ≤ 0)) (kk : qE d 224 22 [some (.ref r0), some (.ref r1), some (.int x2), o3] [] h q): qE d 224 10 [some (.ref r0), some (.ref r1), some (.int x2), o3] [] h q := by
  refine qe_aload_n c224_10 rfl ?_
  refine qe_getfield c224_11 qo224 qF5_12 e2 e4 ?_
  refine qe_getfield c224_14 qo224 qF5_130 e6 e8 ?_
  refine qe_iload_n c224_17 rfl ?_
  refine qe_iaload c224_18 e11 e12 ?_
  refine qe_if_le_F (t := 54) c224_19 rfl e13 ?_
  exact kk
theorem b224_10T {d : Nat} {q : Option Value × qH} {h : qH} {r0 : Nat} {r1 : Nat} {x2 : Int32} {o3 : Option Value} {fs1 : List Value} {y3 : Nat} {fs5 : List Value} {y7 : Nat} {n9 : Nat} {f10 : Nat → Int32}  (e2 : h.2.2 r0 = some (.inr (5, fs1))) (e4 : fs1[0]? = some (.ref y3)) (e6 : h.2.2 y3 = some (.inr (8, fs5))) (e8 : fs5[7]? = some (.ref y7)) (e11 : h.2.2 y7 = some (.inl (0, n9, .inl f10))) (e12 : 0 ≤ (x2 : Int32).toInt ∧ (x2 : Int32).toInt < (n9 : Nat)) (e13 : ((f10 (x2 : Int32).toNatClampNeg) : Int32) ≤ 0) (kk : qE d 224 54 [some (.ref r0), some (.ref r1), some (.int x2), o3] [] h q): qE d 224 10 [some (.ref r0), some (.ref r1), some (.int x2), o3] [] h q := by
  refine qe_aload_n c224_10 rfl ?_
  refine qe_getfield c224_11 qo224 qF5_12 e2 e4 ?_
  refine qe_getfield c224_14 qo224 qF5_130 e6 e8 ?_
  refine qe_iload_n c224_17 rfl ?_
  refine qe_iaload c224_18 e11 e12 ?_
  refine qe_if_le_T (t := 54) c224_19 rfl e13 ?_
  exact kk
theorem b224_22F {d : Nat} {q : Option Value × qH} {h : qH} {r0 : Nat} {r1 : Nat} {x2 : Int32} {o3 : Option Value} {fs1 : List Value} {y3 : Nat} {fs5 : List Value} {y7 : Nat} {n9 : Nat} {f10 : Nat → Int32} {y14 : Nat} {n16 : Nat} {f17 : Nat → Int32} {fs20 : List Value} {y22 : Nat} {n24 : Nat} {f25 : Nat → Int32}  (e2 : h.2.2 r0 = some (.inr (5, fs1))) (e4 : fs1[0]? = some (.ref y3)) (e6 : h.2.2 y3 = some (.inr (8, fs5))) (e8 : fs5[6]? = some (.ref y7)) (e11 : h.2.2 y7 = some (.inl (0, n9, .inl f10))) (e12 : 0 ≤ (x2 : Int32).toInt ∧ (x2 : Int32).toInt < (n9 : Nat)) (e15 : fs5[7]? = some (.ref y14)) (e18 : h.2.2 y14 = some (.inl (0, n16, .inl f17))) (e19 : 0 ≤ (x2 : Int32).toInt ∧ (x2 : Int32).toInt < (n16 : Nat)) (e21 : h.2.2 r1 = some (.inr (4, fs20))) (e23 : fs20[12]? = some (.ref y22)) (e26 : h.2.2 y22 = some (.inl (0, n24, .inl f25))) (e27 : 0 ≤ (x2 : Int32).toInt ∧ (x2 : Int32).toInt < (n24 : Nat)) (e28 : ¬ ((((f10 (x2 : Int32).toNatClampNeg) + (f17 (x2 : Int32).toNatClampNeg)) : Int32) < (f25 (x2 : Int32).toNatClampNeg))) (kk : qE d 224 50 [some (.ref r0), some (.ref r1), some (.int x2), o3] [] h q): qE d 224 22 [some (.ref r0), some (.ref r1), some (.int x2), o3] [] h q := by
  refine qe_aload_n c224_22 rfl ?_
  refine qe_getfield c224_23 qo224 qF5_12 e2 e4 ?_
  refine qe_getfield c224_26 qo224 qF5_115 e6 e8 ?_
  refine qe_iload_n c224_29 rfl ?_
  refine qe_iaload c224_30 e11 e12 ?_
  refine qe_aload_n c224_31 rfl ?_
  refine qe_getfield c224_32 qo224 qF5_12 e2 e4 ?_
  refine qe_getfield c224_35 qo224 qF5_130 e6 e15 ?_
  refine qe_iload_n c224_38 rfl ?_
  refine qe_iaload c224_39 e18 e19 ?_
  refine qe_iadd c224_40 ?_
  refine qe_aload_n c224_41 rfl ?_
  refine qe_getfield c224_42 qo224 qF5_133 e21 e23 ?_
  refine qe_iload_n c224_45 rfl ?_
  refine qe_iaload c224_46 e26 e27 ?_
  refine qe_icmp_lt_F (t := 54) c224_47 rfl e28 ?_
  exact kk
theorem b224_22T {d : Nat} {q : Option Value × qH} {h : qH} {r0 : Nat} {r1 : Nat} {x2 : Int32} {o3 : Option Value} {fs1 : List Value} {y3 : Nat} {fs5 : List Value} {y7 : Nat} {n9 : Nat} {f10 : Nat → Int32} {y14 : Nat} {n16 : Nat} {f17 : Nat → Int32} {fs20 : List Value} {y22 : Nat} {n24 : Nat} {f25 : Nat → Int32}  (e2 : h.2.2 r0 = some (.inr (5, fs1))) (e4 : fs1[0]? = some (.ref y3)) (e6 : h.2.2 y3 = some (.inr (8, fs5))) (e8 : fs5[6]? = some (.ref y7)) (e11 : h.2.2 y7 = some (.inl (0, n9, .inl f10))) (e12 : 0 ≤ (x2 : Int32).toInt ∧ (x2 : Int32).toInt < (n9 : Nat)) (e15 : fs5[7]? = some (.ref y14)) (e18 : h.2.2 y14 = some (.inl (0, n16, .inl f17))) (e19 : 0 ≤ (x2 : Int32).toInt ∧ (x2 : Int32).toInt < (n16 : Nat)) (e21 : h.2.2 r1 = some (.inr (4, fs20))) (e23 : fs20[12]? = some (.ref y22)) (e26 : h.2.2 y22 = some (.inl (0, n24, .inl f25))) (e27 : 0 ≤ (x2 : Int32).toInt ∧ (x2 : Int32).toInt < (n24 : Nat)) (e28 : (((f10 (x2 : Int32).toNatClampNeg) + (f17 (x2 : Int32).toNatClampNeg)) : Int32) < (f25 (x2 : Int32).toNatClampNeg)) (kk : qE d 224 54 [some (.ref r0), some (.ref r1), some (.int x2), o3] [] h q): qE d 224 22 [some (.ref r0), some (.ref r1), some (.int x2), o3] [] h q := by
  refine qe_aload_n c224_22 rfl ?_
  refine qe_getfield c224_23 qo224 qF5_12 e2 e4 ?_
  refine qe_getfield c224_26 qo224 qF5_115 e6 e8 ?_
  refine qe_iload_n c224_29 rfl ?_
  refine qe_iaload c224_30 e11 e12 ?_
  refine qe_aload_n c224_31 rfl ?_
  refine qe_getfield c224_32 qo224 qF5_12 e2 e4 ?_
  refine qe_getfield c224_35 qo224 qF5_130 e6 e15 ?_
  refine qe_iload_n c224_38 rfl ?_
  refine qe_iaload c224_39 e18 e19 ?_
  refine qe_iadd c224_40 ?_
  refine qe_aload_n c224_41 rfl ?_
  refine qe_getfield c224_42 qo224 qF5_133 e21 e23 ?_
  refine qe_iload_n c224_45 rfl ?_
  refine qe_iaload c224_46 e26 e27 ?_
  refine qe_icmp_lt_T (t := 54) c224_47 rfl e28 ?_
  exact kk
theorem b224_50 {d : Nat} {q : Option Value × qH} {h : qH} {r0 : Nat} {r1 : Nat} {x2 : Int32} {o3 : Option Value}   (kk : qE d 224 55 [some (.ref r0), some (.ref r1), some (.int x2), o3] [.int 1] h q): qE d 224 50 [some (.ref r0), some (.ref r1), some (.int x2), o3] [] h q := by
  refine qe_iconst (x := 1) c224_50 (by decide) ?_
  refine qe_goto (t := 55) c224_51 rfl ?_
  exact kk
theorem b224_54 {d : Nat} {q : Option Value × qH} {h : qH} {r0 : Nat} {r1 : Nat} {x2 : Int32} {o3 : Option Value}   (kk : qE d 224 55 [some (.ref r0), some (.ref r1), some (.int x2), o3] [.int 0] h q): qE d 224 54 [some (.ref r0), some (.ref r1), some (.int x2), o3] [] h q := by
  refine qe_iconst (x := 0) c224_54 (by decide) ?_
  exact kk
theorem b224_55F {d : Nat} {q : Option Value × qH} {h : qH} {r0 : Nat} {r1 : Nat} {x2 : Int32} {o3 : Option Value} {xs0 : Int32} {fs1 : List Value} {y3 : Nat} {fs5 : List Value} {y7 : Nat} {n9 : Nat} {f10 : Nat → Int32}  (e2 : h.2.2 r0 = some (.inr (5, fs1))) (e4 : fs1[0]? = some (.ref y3)) (e6 : h.2.2 y3 = some (.inr (8, fs5))) (e8 : fs5[5]? = some (.ref y7)) (e11 : h.2.2 y7 = some (.inl (0, n9, .inl f10))) (e12 : 0 ≤ (x2 : Int32).toInt ∧ (x2 : Int32).toInt < (n9 : Nat)) (e13 : ((f10 (x2 : Int32).toNatClampNeg) : Int32) = 0) (kk : qE d 224 68 [some (.ref r0), some (.ref r1), some (.int x2), some (.int xs0)] [] h q): qE d 224 55 [some (.ref r0), some (.ref r1), some (.int x2), o3] [.int xs0] h q := by
  refine qe_istore_n (ls2 := [some (.ref r0), some (.ref r1), some (.int x2), some (.int xs0)]) c224_55 (Nat.le_of_ble_eq_true rfl) rfl ?_
  refine qe_aload_n c224_56 rfl ?_
  refine qe_getfield c224_57 qo224 qF5_12 e2 e4 ?_
  refine qe_getfield c224_60 qo224 qF5_100 e6 e8 ?_
  refine qe_iload_n c224_63 rfl ?_
  refine qe_iaload c224_64 e11 e12 ?_
  refine qe_if_ne_F (t := 94) c224_65 rfl e13 ?_
  exact kk
theorem b224_55T {d : Nat} {q : Option Value × qH} {h : qH} {r0 : Nat} {r1 : Nat} {x2 : Int32} {o3 : Option Value} {xs0 : Int32} {fs1 : List Value} {y3 : Nat} {fs5 : List Value} {y7 : Nat} {n9 : Nat} {f10 : Nat → Int32}  (e2 : h.2.2 r0 = some (.inr (5, fs1))) (e4 : fs1[0]? = some (.ref y3)) (e6 : h.2.2 y3 = some (.inr (8, fs5))) (e8 : fs5[5]? = some (.ref y7)) (e11 : h.2.2 y7 = some (.inl (0, n9, .inl f10))) (e12 : 0 ≤ (x2 : Int32).toInt ∧ (x2 : Int32).toInt < (n9 : Nat)) (e13 : ¬ (((f10 (x2 : Int32).toNatClampNeg) : Int32) = 0)) (kk : qE d 224 94 [some (.ref r0), some (.ref r1), some (.int x2), some (.int xs0)] [] h q): qE d 224 55 [some (.ref r0), some (.ref r1), some (.int x2), o3] [.int xs0] h q := by
  refine qe_istore_n (ls2 := [some (.ref r0), some (.ref r1), some (.int x2), some (.int xs0)]) c224_55 (Nat.le_of_ble_eq_true rfl) rfl ?_
  refine qe_aload_n c224_56 rfl ?_
  refine qe_getfield c224_57 qo224 qF5_12 e2 e4 ?_
  refine qe_getfield c224_60 qo224 qF5_100 e6 e8 ?_
  refine qe_iload_n c224_63 rfl ?_
  refine qe_iaload c224_64 e11 e12 ?_
  refine qe_if_ne_T (t := 94) c224_65 rfl e13 ?_
  exact kk
theorem b224_68F {d : Nat} {q : Option Value × qH} {h : qH} {r0 : Nat} {r1 : Nat} {x2 : Int32} {x3 : Int32}  (e1 : ¬ ((x3 : Int32) = 0)) (kk : qE d 224 72 [some (.ref r0), some (.ref r1), some (.int x2), some (.int x3)] [] h q): qE d 224 68 [some (.ref r0), some (.ref r1), some (.int x2), some (.int x3)] [] h q := by
  refine qe_iload_n c224_68 rfl ?_
  refine qe_if_eq_F (t := 94) c224_69 rfl e1 ?_
  exact kk
theorem b224_68T {d : Nat} {q : Option Value × qH} {h : qH} {r0 : Nat} {r1 : Nat} {x2 : Int32} {x3 : Int32}  (e1 : (x3 : Int32) = 0) (kk : qE d 224 94 [some (.ref r0), some (.ref r1), some (.int x2), some (.int x3)] [] h q): qE d 224 68 [some (.ref r0), some (.ref r1), some (.int x2), some (.int x3)] [] h q := by
  refine qe_iload_n c224_68 rfl ?_
  refine qe_if_eq_T (t := 94) c224_69 rfl e1 ?_
  exact kk
theorem b224_72 {d : Nat} {q : Option Value × qH} {h : qH} {r0 : Nat} {r1 : Nat} {x2 : Int32} {x3 : Int32} {fs1 : List Value} {y3 : Nat} {fs5 : List Value} {y7 : Nat} {n9 : Nat} {f10 : Nat → Int32} {h1 : qH} {fs14 : List Value} {y16 : Int32} {h2 : qH}  (e2 : h.2.2 r0 = some (.inr (5, fs1))) (e4 : fs1[0]? = some (.ref y3)) (e6 : h.2.2 y3 = some (.inr (8, fs5))) (e8 : fs5[5]? = some (.ref y7)) (e11 : h.2.2 y7 = some (.inl (0, n9, .inl f10))) (e12 : 0 ≤ (x2 : Int32).toInt ∧ (x2 : Int32).toInt < (n9 : Nat)) (e13 : qset h y7 (.inl (0, n9, .inl (upd f10 ((x2 : Int32).toNatClampNeg) 3))) = h1) (e15 : h1.2.2 r0 = some (.inr (5, fs14))) (e17 : fs14[3]? = some (.int y16)) (e18 : 3 < fs14.length) (e19 : qset h1 r0 (.inr (5, fs14.set 3 (.int (y16 ||| (1 <<< (x2 &&& 31)))))) = h2) (kk : qE d 224 94 [some (.ref r0), some (.ref r1), some (.int x2), some (.int x3)] [] h2 q): qE d 224 72 [some (.ref r0), some (.ref r1), some (.int x2), some (.int x3)] [] h q := by
  refine qe_aload_n c224_72 rfl ?_
  refine qe_getfield c224_73 qo224 qF5_12 e2 e4 ?_
  refine qe_getfield c224_76 qo224 qF5_100 e6 e8 ?_
  refine qe_iload_n c224_79 rfl ?_
  refine qe_iconst (x := 3) c224_80 (by decide) ?_
  refine qe_iastore c224_81 e11 e12 ?_
  rw [e13]
  refine qe_aload_n c224_82 rfl ?_
  refine qe_dup c224_83 rfl ?_
  refine qe_getfield c224_84 qo224 qF5_48 e15 e17 ?_
  refine qe_iconst (x := 1) c224_87 (by decide) ?_
  refine qe_iload_n c224_88 rfl ?_
  refine qe_ishl c224_89 ?_
  refine qe_ior c224_90 ?_
  refine qe_putfield c224_91 qo224 qF5_48 qz5_3 e15 e18 (by rw [qy5_3]; rfl) ?_
  rw [e19]
  exact kk
theorem b224_94 {d : Nat} {q : Option Value × qH} {h : qH} {r0 : Nat} {r1 : Nat} {x2 : Int32} {x3 : Int32}   (kk : qE d 224 2 [some (.ref r0), some (.ref r1), some (.int (x2 + 1)), some (.int x3)] [] h q): qE d 224 94 [some (.ref r0), some (.ref r1), some (.int x2), some (.int x3)] [] h q := by
  refine qe_iinc (y := (x2 + 1)) (ls2 := [some (.ref r0), some (.ref r1), some (.int (x2 + 1)), some (.int x3)]) c224_94 rfl (Nat.le_of_ble_eq_true rfl) rfl rfl ?_
  refine qe_goto (t := 2) c224_97 rfl ?_
  exact kk
theorem b224_100 {d : Nat} {h : qH} {r0 : Nat} {r1 : Nat} {x2 : Int32} {o3 : Option Value}   : qE d 224 100 [some (.ref r0), some (.ref r1), some (.int x2), o3] [] h (none, h) := by
  exact qe_vret c224_100 qr224
theorem b225_0F {d : Nat} {q : Option Value × qH} {h : qH} {r0 : Nat} {r1 : Nat} {fs1 : List Value} {y3 : Int32}  (e2 : h.2.2 r0 = some (.inr (5, fs1))) (e4 : fs1[6]? = some (.int y3)) (e5 : ¬ ((y3 : Int32) = 0)) (kk : qE d 225 7 [some (.ref r0), some (.ref r1)] [] h q): qE d 225 0 [some (.ref r0), some (.ref r1)] [] h q := by
  refine qe_aload_n c225_0 rfl ?_
  refine qe_getfield c225_1 qo225 qF5_35 e2 e4 ?_
  refine qe_if_eq_F (t := 19) c225_4 rfl e5 ?_
  exact kk
theorem b225_0T {d : Nat} {q : Option Value × qH} {h : qH} {r0 : Nat} {r1 : Nat} {fs1 : List Value} {y3 : Int32}  (e2 : h.2.2 r0 = some (.inr (5, fs1))) (e4 : fs1[6]? = some (.int y3)) (e5 : (y3 : Int32) = 0) (kk : qE d 225 19 [some (.ref r0), some (.ref r1)] [] h q): qE d 225 0 [some (.ref r0), some (.ref r1)] [] h q := by
  refine qe_aload_n c225_0 rfl ?_
  refine qe_getfield c225_1 qo225 qF5_35 e2 e4 ?_
  refine qe_if_eq_T (t := 19) c225_4 rfl e5 ?_
  exact kk
theorem b225_7 {d : Nat} {q : Option Value × qH} {h : qH} {r0 : Nat} {r1 : Nat} {fs1 : List Value} {y3 : Nat} {y5 : Nat} {fs7 : List Value} {h1 : qH}  (e2 : h.2.2 r0 = some (.inr (5, fs1))) (e4 : fs1[1]? = some (.ref y3)) (e6 : fs1[0]? = some (.ref y5)) (e8 : h.2.2 y3 = some (.inr (7, fs7))) (e9 : qCall d 238 [.ref y3, .ref r1, .ref y5] h (none, h1)) (kk : qE d 225 19 [some (.ref r0), some (.ref r1)] [] h1 q): qE d 225 7 [some (.ref r0), some (.ref r1)] [] h q := by
  refine qe_aload_n c225_7 rfl ?_
  refine qe_getfield c225_8 qo225 qF5_21 e2 e4 ?_
  refine qe_aload_n c225_11 rfl ?_
  refine qe_aload_n c225_12 rfl ?_
  refine qe_getfield c225_13 qo225 qF5_12 e2 e6 ?_
  refine qe_virtual (b := y3) (as := [.ref r1, .ref y5]) (r := []) (v := none) (h2 := h1) c225_16 qo225 qK5_39 rfl rfl rfl (by rw [qo238]; exact e8) (Nat.le_of_ble_eq_true rfl) e9 ?_
  exact kk
theorem b225_19F {d : Nat} {q : Option Value × qH} {h : qH} {r0 : Nat} {r1 : Nat} {fs1 : List Value} {y3 : Nat} {y5 : Nat} {fs7 : List Value} {y9 : Int32} {fs11 : List Value} {h1 : qH} {fs15 : List Value} {h2 : qH} {fs19 : List Value} {h3 : qH} {fs23 : List Value} {h4 : qH} {fs27 : List Value} {h5 : qH} {fs30 : List Value} {h6 : qH} {fs33 : List Value} {h7 : qH} {fs36 : List Value} {h8 : qH} {fs39 : List Value} {h9 : qH} {fs42 : List Value} {y44 : Nat} {y46 : Int32} {y48 : Int32} {h10 : qH} {z50 : Int32} {fs52 : List Value} {h11 : qH} {fs56 : List Value} {y58 : Nat} {fs60 : List Value} {y62 : Int32} {h12 : qH} {fs66 : List Value} {y68 : Nat} {fs70 : List Value} {y72 : Int32} {y74 : Nat} {fs76 : List Value} {y78 : Int32} {y80 : Int32} {h13 : qH} {z82 : Int32} {fs84 : List Value} {h14 : qH} {fs88 : List Value} {y90 : Int32}  (e2 : h.2.2 r0 = some (.inr (5, fs1))) (e4 : fs1[0]? = some (.ref y3)) (e6 : fs1[1]? = some (.ref y5)) (e8 : h.2.2 y5 = some (.inr (7, fs7))) (e10 : fs7[0]? = some (.int y9)) (e12 : h.2.2 y3 = some (.inr (8, fs11))) (e13 : 1 < fs11.length) (e14 : qset h y3 (.inr (8, fs11.set 1 (.int y9))) = h1) (e16 : h1.2.2 r0 = some (.inr (5, fs15))) (e17 : 3 < fs15.length) (e18 : qset h1 r0 (.inr (5, fs15.set 3 (.int 0))) = h2) (e20 : h2.2.2 r0 = some (.inr (5, fs19))) (e21 : 4 < fs19.length) (e22 : qset h2 r0 (.inr (5, fs19.set 4 (.int 0))) = h3) (e24 : h3.2.2 r0 = some (.inr (5, fs23))) (e25 : 5 < fs23.length) (e26 : qset h3 r0 (.inr (5, fs23.set 5 (.int 0))) = h4) (e28 : h4.2.2 r0 = some (.inr (5, fs27))) (e29 : qCall d 227 [.ref r0, .ref r1] h4 (none, h5)) (e31 : h5.2.2 r0 = some (.inr (5, fs30))) (e32 : qCall d 224 [.ref r0, .ref r1] h5 (none, h6)) (e34 : h6.2.2 r0 = some (.inr (5, fs33))) (e35 : qCall d 226 [.ref r0] h6 (none, h7)) (e37 : h7.2.2 r0 = some (.inr (5, fs36))) (e38 : qCall d 220 [.ref r0, .ref r1] h7 (none, h8)) (e40 : h8.2.2 r0 = some (.inr (5, fs39))) (e41 : qCall d 221 [.ref r0, .ref r1] h8 (none, h9)) (e43 : h9.2.2 r0 = some (.inr (5, fs42))) (e45 : fs42[0]? = some (.ref y44)) (e47 : fs42[3]? = some (.int y46)) (e49 : fs42[4]? = some (.int y48)) (e51 : qCall d 1 [.int (y46 ||| y48)] h9 ((some (.int z50)), h10)) (e53 : h10.2.2 y44 = some (.inr (8, fs52))) (e54 : 3 < fs52.length) (e55 : qset h10 y44 (.inr (8, fs52.set 3 (.int z50))) = h11) (e57 : h11.2.2 r0 = some (.inr (5, fs56))) (e59 : fs56[0]? = some (.ref y58)) (e61 : h11.2.2 y58 = some (.inr (8, fs60))) (e63 : fs60[0]? = some (.int y62)) (e64 : 0 < fs60.length) (e65 : qset h11 y58 (.inr (8, fs60.set 0 (.int (y62 + 1)))) = h12) (e67 : h12.2.2 r0 = some (.inr (5, fs66))) (e69 : fs66[1]? = some (.ref y68)) (e71 : h12.2.2 y68 = some (.inr (7, fs70))) (e73 : fs70[1]? = some (.int y72)) (e75 : fs66[0]? = some (.ref y74)) (e77 : h12.2.2 y74 = some (.inr (8, fs76))) (e79 : fs76[3]? = some (.int y78)) (e81 : fs66[5]? = some (.int y80)) (e83 : qCall d 1 [.int y80] h12 ((some (.int z82)), h13)) (e85 : h13.2.2 r0 = some (.inr (5, fs84))) (e86 : 2 < fs84.length) (e87 : qset h13 r0 (.inr (5, fs84.set 2 (.int ((y72 + y78) + z82)))) = h14) (e89 : h14.2.2 r0 = some (.inr (5, fs88))) (e91 : fs88[2]? = some (.int y90)) (e92 : ¬ ((y90 : Int32) ≤ 0)) (kk : qE d 225 139 [some (.ref r0), some (.ref r1)] [.ref r0] h14 q): qE d 225 19 [some (.ref r0), some (.ref r1)] [] h q := by
  refine qe_aload_n c225_19 rfl ?_
  refine qe_getfield c225_20 qo225 qF5_12 e2 e4 ?_
  refine qe_aload_n c225_23 rfl ?_
  refine qe_getfield c225_24 qo225 qF5_21 e2 e6 ?_
  refine qe_getfield c225_27 qo225 qF5_43 e8 e10 ?_
  refine qe_putfield c225_30 qo225 qF5_47 qz8_1 e12 e13 (by rw [qy8_1]; rfl) ?_
  rw [e14]
  refine qe_aload_n c225_33 rfl ?_
  refine qe_iconst (x := 0) c225_34 (by decide) ?_
  refine qe_putfield c225_35 qo225 qF5_48 qz5_3 e16 e17 (by rw [qy5_3]; rfl) ?_
  rw [e18]
  refine qe_aload_n c225_38 rfl ?_
  refine qe_iconst (x := 0) c225_39 (by decide) ?_
  refine qe_putfield c225_40 qo225 qF5_51 qz5_4 e20 e21 (by rw [qy5_4]; rfl) ?_
  rw [e22]
  refine qe_aload_n c225_43 rfl ?_
  refine qe_iconst (x := 0) c225_44 (by decide) ?_
  refine qe_putfield c225_45 qo225 qF5_54 qz5_5 e24 e25 (by rw [qy5_5]; rfl) ?_
  rw [e26]
  refine qe_aload_n c225_48 rfl ?_
  refine qe_aload_n c225_49 rfl ?_
  refine qe_virtual (b := r0) (as := [.ref r1]) (r := []) (v := none) (h2 := h5) c225_50 qo225 qK5_57 rfl rfl rfl (by rw [qo227]; exact e28) (Nat.le_of_ble_eq_true rfl) e29 ?_
  refine qe_aload_n c225_53 rfl ?_
  refine qe_aload_n c225_54 rfl ?_
  refine qe_virtual (b := r0) (as := [.ref r1]) (r := []) (v := none) (h2 := h6) c225_55 qo225 qK5_61 rfl rfl rfl (by rw [qo224]; exact e31) (Nat.le_of_ble_eq_true rfl) e32 ?_
  refine qe_aload_n c225_58 rfl ?_
  refine qe_virtual (b := r0) (as := []) (r := []) (v := none) (h2 := h7) c225_59 qo225 qK5_64 rfl rfl rfl (by rw [qo226]; exact e34) (Nat.le_of_ble_eq_true rfl) e35 ?_
  refine qe_aload_n c225_62 rfl ?_
  refine qe_aload_n c225_63 rfl ?_
  refine qe_virtual (b := r0) (as := [.ref r1]) (r := []) (v := none) (h2 := h8) c225_64 qo225 qK5_67 rfl rfl rfl (by rw [qo220]; exact e37) (Nat.le_of_ble_eq_true rfl) e38 ?_
  refine qe_aload_n c225_67 rfl ?_
  refine qe_aload_n c225_68 rfl ?_
  refine qe_virtual (b := r0) (as := [.ref r1]) (r := []) (v := none) (h2 := h9) c225_69 qo225 qK5_70 rfl rfl rfl (by rw [qo221]; exact e40) (Nat.le_of_ble_eq_true rfl) e41 ?_
  refine qe_aload_n c225_72 rfl ?_
  refine qe_getfield c225_73 qo225 qF5_12 e43 e45 ?_
  refine qe_aload_n c225_76 rfl ?_
  refine qe_getfield c225_77 qo225 qF5_48 e43 e47 ?_
  refine qe_aload_n c225_80 rfl ?_
  refine qe_getfield c225_81 qo225 qF5_51 e43 e49 ?_
  refine qe_ior c225_84 ?_
  refine qe_static (as := [.int (y46 ||| y48)]) (r := [.ref y44]) (v := (some (.int z50))) (h2 := h10) c225_85 qo225 (by decide) qK5_73 rfl rfl rfl (Nat.le_of_ble_eq_true rfl) e51 ?_
  refine qe_putfield c225_88 qo225 qF5_79 qz8_3 e53 e54 (by rw [qy8_3]; rfl) ?_
  rw [e55]
  refine qe_aload_n c225_91 rfl ?_
  refine qe_getfield c225_92 qo225 qF5_12 e57 e59 ?_
  refine qe_dup c225_95 rfl ?_
  refine qe_getfield c225_96 qo225 qF5_82 e61 e63 ?_
  refine qe_iconst (x := 1) c225_99 (by decide) ?_
  refine qe_iadd c225_100 ?_
  refine qe_putfield c225_101 qo225 qF5_82 qz8_0 e61 e64 (by rw [qy8_0]; rfl) ?_
  rw [e65]
  refine qe_aload_n c225_104 rfl ?_
  refine qe_aload_n c225_105 rfl ?_
  refine qe_getfield c225_106 qo225 qF5_21 e67 e69 ?_
  refine qe_getfield c225_109 qo225 qF5_85 e71 e73 ?_
  refine qe_aload_n c225_112 rfl ?_
  refine qe_getfield c225_113 qo225 qF5_12 e67 e75 ?_
  refine qe_getfield c225_116 qo225 qF5_79 e77 e79 ?_
  refine qe_iadd c225_119 ?_
  refine qe_aload_n c225_120 rfl ?_
  refine qe_getfield c225_121 qo225 qF5_54 e67 e81 ?_
  refine qe_static (as := [.int y80]) (r := [.int (y72 + y78), .ref r0]) (v := (some (.int z82))) (h2 := h13) c225_124 qo225 (by decide) qK5_73 rfl rfl rfl (Nat.le_of_ble_eq_true rfl) e83 ?_
  refine qe_iadd c225_127 ?_
  refine qe_putfield c225_128 qo225 qF5_88 qz5_2 e85 e86 (by rw [qy5_2]; rfl) ?_
  rw [e87]
  refine qe_aload_n c225_131 rfl ?_
  refine qe_aload_n c225_132 rfl ?_
  refine qe_getfield c225_133 qo225 qF5_88 e89 e91 ?_
  refine qe_if_le_F (t := 143) c225_136 rfl e92 ?_
  exact kk
theorem b225_19T {d : Nat} {q : Option Value × qH} {h : qH} {r0 : Nat} {r1 : Nat} {fs1 : List Value} {y3 : Nat} {y5 : Nat} {fs7 : List Value} {y9 : Int32} {fs11 : List Value} {h1 : qH} {fs15 : List Value} {h2 : qH} {fs19 : List Value} {h3 : qH} {fs23 : List Value} {h4 : qH} {fs27 : List Value} {h5 : qH} {fs30 : List Value} {h6 : qH} {fs33 : List Value} {h7 : qH} {fs36 : List Value} {h8 : qH} {fs39 : List Value} {h9 : qH} {fs42 : List Value} {y44 : Nat} {y46 : Int32} {y48 : Int32} {h10 : qH} {z50 : Int32} {fs52 : List Value} {h11 : qH} {fs56 : List Value} {y58 : Nat} {fs60 : List Value} {y62 : Int32} {h12 : qH} {fs66 : List Value} {y68 : Nat} {fs70 : List Value} {y72 : Int32} {y74 : Nat} {fs76 : List Value} {y78 : Int32} {y80 : Int32} {h13 : qH} {z82 : Int32} {fs84 : List Value} {h14 : qH} {fs88 : List Value} {y90 : Int32}  (e2 : h.2.2 r0 = some (.inr (5, fs1))) (e4 : fs1[0]? = some (.ref y3)) (e6 : fs1[1]? = some (.ref y5)) (e8 : h.2.2 y5 = some (.inr (7, fs7))) (e10 : fs7[0]? = some (.int y9)) (e12 : h.2.2 y3 = some (.inr (8, fs11))) (e13 : 1 < fs11.length) (e14 : qset h y3 (.inr (8, fs11.set 1 (.int y9))) = h1) (e16 : h1.2.2 r0 = some (.inr (5, fs15))) (e17 : 3 < fs15.length) (e18 : qset h1 r0 (.inr (5, fs15.set 3 (.int 0))) = h2) (e20 : h2.2.2 r0 = some (.inr (5, fs19))) (e21 : 4 < fs19.length) (e22 : qset h2 r0 (.inr (5, fs19.set 4 (.int 0))) = h3) (e24 : h3.2.2 r0 = some (.inr (5, fs23))) (e25 : 5 < fs23.length) (e26 : qset h3 r0 (.inr (5, fs23.set 5 (.int 0))) = h4) (e28 : h4.2.2 r0 = some (.inr (5, fs27))) (e29 : qCall d 227 [.ref r0, .ref r1] h4 (none, h5)) (e31 : h5.2.2 r0 = some (.inr (5, fs30))) (e32 : qCall d 224 [.ref r0, .ref r1] h5 (none, h6)) (e34 : h6.2.2 r0 = some (.inr (5, fs33))) (e35 : qCall d 226 [.ref r0] h6 (none, h7)) (e37 : h7.2.2 r0 = some (.inr (5, fs36))) (e38 : qCall d 220 [.ref r0, .ref r1] h7 (none, h8)) (e40 : h8.2.2 r0 = some (.inr (5, fs39))) (e41 : qCall d 221 [.ref r0, .ref r1] h8 (none, h9)) (e43 : h9.2.2 r0 = some (.inr (5, fs42))) (e45 : fs42[0]? = some (.ref y44)) (e47 : fs42[3]? = some (.int y46)) (e49 : fs42[4]? = some (.int y48)) (e51 : qCall d 1 [.int (y46 ||| y48)] h9 ((some (.int z50)), h10)) (e53 : h10.2.2 y44 = some (.inr (8, fs52))) (e54 : 3 < fs52.length) (e55 : qset h10 y44 (.inr (8, fs52.set 3 (.int z50))) = h11) (e57 : h11.2.2 r0 = some (.inr (5, fs56))) (e59 : fs56[0]? = some (.ref y58)) (e61 : h11.2.2 y58 = some (.inr (8, fs60))) (e63 : fs60[0]? = some (.int y62)) (e64 : 0 < fs60.length) (e65 : qset h11 y58 (.inr (8, fs60.set 0 (.int (y62 + 1)))) = h12) (e67 : h12.2.2 r0 = some (.inr (5, fs66))) (e69 : fs66[1]? = some (.ref y68)) (e71 : h12.2.2 y68 = some (.inr (7, fs70))) (e73 : fs70[1]? = some (.int y72)) (e75 : fs66[0]? = some (.ref y74)) (e77 : h12.2.2 y74 = some (.inr (8, fs76))) (e79 : fs76[3]? = some (.int y78)) (e81 : fs66[5]? = some (.int y80)) (e83 : qCall d 1 [.int y80] h12 ((some (.int z82)), h13)) (e85 : h13.2.2 r0 = some (.inr (5, fs84))) (e86 : 2 < fs84.length) (e87 : qset h13 r0 (.inr (5, fs84.set 2 (.int ((y72 + y78) + z82)))) = h14) (e89 : h14.2.2 r0 = some (.inr (5, fs88))) (e91 : fs88[2]? = some (.int y90)) (e92 : (y90 : Int32) ≤ 0) (kk : qE d 225 143 [some (.ref r0), some (.ref r1)] [.ref r0] h14 q): qE d 225 19 [some (.ref r0), some (.ref r1)] [] h q := by
  refine qe_aload_n c225_19 rfl ?_
  refine qe_getfield c225_20 qo225 qF5_12 e2 e4 ?_
  refine qe_aload_n c225_23 rfl ?_
  refine qe_getfield c225_24 qo225 qF5_21 e2 e6 ?_
  refine qe_getfield c225_27 qo225 qF5_43 e8 e10 ?_
  refine qe_putfield c225_30 qo225 qF5_47 qz8_1 e12 e13 (by rw [qy8_1]; rfl) ?_
  rw [e14]
  refine qe_aload_n c225_33 rfl ?_
  refine qe_iconst (x := 0) c225_34 (by decide) ?_
  refine qe_putfield c225_35 qo225 qF5_48 qz5_3 e16 e17 (by rw [qy5_3]; rfl) ?_
  rw [e18]
  refine qe_aload_n c225_38 rfl ?_
  refine qe_iconst (x := 0) c225_39 (by decide) ?_
  refine qe_putfield c225_40 qo225 qF5_51 qz5_4 e20 e21 (by rw [qy5_4]; rfl) ?_
  rw [e22]
  refine qe_aload_n c225_43 rfl ?_
  refine qe_iconst (x := 0) c225_44 (by decide) ?_
  refine qe_putfield c225_45 qo225 qF5_54 qz5_5 e24 e25 (by rw [qy5_5]; rfl) ?_
  rw [e26]
  refine qe_aload_n c225_48 rfl ?_
  refine qe_aload_n c225_49 rfl ?_
  refine qe_virtual (b := r0) (as := [.ref r1]) (r := []) (v := none) (h2 := h5) c225_50 qo225 qK5_57 rfl rfl rfl (by rw [qo227]; exact e28) (Nat.le_of_ble_eq_true rfl) e29 ?_
  refine qe_aload_n c225_53 rfl ?_
  refine qe_aload_n c225_54 rfl ?_
  refine qe_virtual (b := r0) (as := [.ref r1]) (r := []) (v := none) (h2 := h6) c225_55 qo225 qK5_61 rfl rfl rfl (by rw [qo224]; exact e31) (Nat.le_of_ble_eq_true rfl) e32 ?_
  refine qe_aload_n c225_58 rfl ?_
  refine qe_virtual (b := r0) (as := []) (r := []) (v := none) (h2 := h7) c225_59 qo225 qK5_64 rfl rfl rfl (by rw [qo226]; exact e34) (Nat.le_of_ble_eq_true rfl) e35 ?_
  refine qe_aload_n c225_62 rfl ?_
  refine qe_aload_n c225_63 rfl ?_
  refine qe_virtual (b := r0) (as := [.ref r1]) (r := []) (v := none) (h2 := h8) c225_64 qo225 qK5_67 rfl rfl rfl (by rw [qo220]; exact e37) (Nat.le_of_ble_eq_true rfl) e38 ?_
  refine qe_aload_n c225_67 rfl ?_
  refine qe_aload_n c225_68 rfl ?_
  refine qe_virtual (b := r0) (as := [.ref r1]) (r := []) (v := none) (h2 := h9) c225_69 qo225 qK5_70 rfl rfl rfl (by rw [qo221]; exact e40) (Nat.le_of_ble_eq_true rfl) e41 ?_
  refine qe_aload_n c225_72 rfl ?_
  refine qe_getfield c225_73 qo225 qF5_12 e43 e45 ?_
  refine qe_aload_n c225_76 rfl ?_
  refine qe_getfield c225_77 qo225 qF5_48 e43 e47 ?_
  refine qe_aload_n c225_80 rfl ?_
  refine qe_getfield c225_81 qo225 qF5_51 e43 e49 ?_
  refine qe_ior c225_84 ?_
  refine qe_static (as := [.int (y46 ||| y48)]) (r := [.ref y44]) (v := (some (.int z50))) (h2 := h10) c225_85 qo225 (by decide) qK5_73 rfl rfl rfl (Nat.le_of_ble_eq_true rfl) e51 ?_
  refine qe_putfield c225_88 qo225 qF5_79 qz8_3 e53 e54 (by rw [qy8_3]; rfl) ?_
  rw [e55]
  refine qe_aload_n c225_91 rfl ?_
  refine qe_getfield c225_92 qo225 qF5_12 e57 e59 ?_
  refine qe_dup c225_95 rfl ?_
  refine qe_getfield c225_96 qo225 qF5_82 e61 e63 ?_
  refine qe_iconst (x := 1) c225_99 (by decide) ?_
  refine qe_iadd c225_100 ?_
  refine qe_putfield c225_101 qo225 qF5_82 qz8_0 e61 e64 (by rw [qy8_0]; rfl) ?_
  rw [e65]
  refine qe_aload_n c225_104 rfl ?_
  refine qe_aload_n c225_105 rfl ?_
  refine qe_getfield c225_106 qo225 qF5_21 e67 e69 ?_
  refine qe_getfield c225_109 qo225 qF5_85 e71 e73 ?_
  refine qe_aload_n c225_112 rfl ?_
  refine qe_getfield c225_113 qo225 qF5_12 e67 e75 ?_
  refine qe_getfield c225_116 qo225 qF5_79 e77 e79 ?_
  refine qe_iadd c225_119 ?_
  refine qe_aload_n c225_120 rfl ?_
  refine qe_getfield c225_121 qo225 qF5_54 e67 e81 ?_
  refine qe_static (as := [.int y80]) (r := [.int (y72 + y78), .ref r0]) (v := (some (.int z82))) (h2 := h13) c225_124 qo225 (by decide) qK5_73 rfl rfl rfl (Nat.le_of_ble_eq_true rfl) e83 ?_
  refine qe_iadd c225_127 ?_
  refine qe_putfield c225_128 qo225 qF5_88 qz5_2 e85 e86 (by rw [qy5_2]; rfl) ?_
  rw [e87]
  refine qe_aload_n c225_131 rfl ?_
  refine qe_aload_n c225_132 rfl ?_
  refine qe_getfield c225_133 qo225 qF5_88 e89 e91 ?_
  refine qe_if_le_T (t := 143) c225_136 rfl e92 ?_
  exact kk
theorem b225_139 {d : Nat} {q : Option Value × qH} {h : qH} {r0 : Nat} {r1 : Nat} {rs0 : Nat}   (kk : qE d 225 144 [some (.ref r0), some (.ref r1)] [.int 1, .ref rs0] h q): qE d 225 139 [some (.ref r0), some (.ref r1)] [.ref rs0] h q := by
  refine qe_iconst (x := 1) c225_139 (by decide) ?_
  refine qe_goto (t := 144) c225_140 rfl ?_
  exact kk
theorem b225_143 {d : Nat} {q : Option Value × qH} {h : qH} {r0 : Nat} {r1 : Nat} {rs0 : Nat}   (kk : qE d 225 144 [some (.ref r0), some (.ref r1)] [.int 0, .ref rs0] h q): qE d 225 143 [some (.ref r0), some (.ref r1)] [.ref rs0] h q := by
  refine qe_iconst (x := 0) c225_143 (by decide) ?_
  exact kk
theorem b225_144 {d : Nat} {h : qH} {r0 : Nat} {r1 : Nat} {rs0 : Nat} {xs1 : Int32} {fs1 : List Value} {h1 : qH}  (e2 : h.2.2 rs0 = some (.inr (5, fs1))) (e3 : 6 < fs1.length) (e4 : (xs1 : Int32) = 0 ∨ (xs1 : Int32) = 1) (e5 : qset h rs0 (.inr (5, fs1.set 6 (.int xs1))) = h1) : qE d 225 144 [some (.ref r0), some (.ref r1)] [.int xs1, .ref rs0] h (none, h1) := by
  refine qe_putfield c225_144 qo225 qF5_35 qz5_6 e2 e3 (by rw [qy5_6]; exact decide_eq_true e4) ?_
  rw [e5]
  exact qe_vret c225_147 qr225
theorem b226_0 {d : Nat} {h : qH} {r0 : Nat} {fs1 : List Value} {y3 : Nat} {y5 : Nat} {fs7 : List Value} {y9 : Int32} {n11 : Nat} {f12 : Nat → Int64} {h1 : qH} {fs16 : List Value} {y18 : Nat} {y20 : Nat} {fs23 : List Value} {y25 : Int32} {h2 : qH} {z27 : Int32} {n29 : Nat} {f30 : Nat → Int64} {h3 : qH} {fs34 : List Value} {y36 : Nat} {y38 : Nat} {fs40 : List Value} {y42 : Int32} {n44 : Nat} {f45 : Nat → Int64} {h4 : qH}  (e2 : h.2.2 r0 = some (.inr (5, fs1))) (e4 : fs1[7]? = some (.ref y3)) (e6 : fs1[0]? = some (.ref y5)) (e8 : h.2.2 y5 = some (.inr (8, fs7))) (e10 : fs7[0]? = some (.int y9)) (e13 : h.2.2 y3 = some (.inl (2, n11, .inr (.inl f12)))) (e14 : 0 ≤ (0 : Int32).toInt ∧ (0 : Int32).toInt < (n11 : Nat)) (e15 : qset h y3 (.inl (2, n11, .inr (.inl (vp_updL f12 ((0 : Int32).toNatClampNeg) ((y9 : Int32).toInt64))))) = h1) (e17 : h1.2.2 r0 = some (.inr (5, fs16))) (e19 : fs16[7]? = some (.ref y18)) (e21 : fs16[0]? = some (.ref y20)) (e24 : h1.2.2 y20 = some (.inr (8, fs23))) (e26 : fs23[1]? = some (.int y25)) (e28 : qCall d 244 [.ref y20, .int y25] h1 ((some (.int z27)), h2)) (e31 : h2.2.2 y18 = some (.inl (2, n29, .inr (.inl f30)))) (e32 : 0 ≤ (4 : Int32).toInt ∧ (4 : Int32).toInt < (n29 : Nat)) (e33 : qset h2 y18 (.inl (2, n29, .inr (.inl (vp_updL f30 ((4 : Int32).toNatClampNeg) ((z27 : Int32).toInt64))))) = h3) (e35 : h3.2.2 r0 = some (.inr (5, fs34))) (e37 : fs34[7]? = some (.ref y36)) (e39 : fs34[0]? = some (.ref y38)) (e41 : h3.2.2 y38 = some (.inr (8, fs40))) (e43 : fs40[3]? = some (.int y42)) (e46 : h3.2.2 y36 = some (.inl (2, n44, .inr (.inl f45)))) (e47 : 0 ≤ (5 : Int32).toInt ∧ (5 : Int32).toInt < (n44 : Nat)) (e48 : qset h3 y36 (.inl (2, n44, .inr (.inl (vp_updL f45 ((5 : Int32).toNatClampNeg) ((y42 : Int32).toInt64))))) = h4) : qE d 226 0 [some (.ref r0)] [] h (none, h4) := by
  refine qe_aload_n c226_0 rfl ?_
  refine qe_getfield c226_1 qo226 qF5_27 e2 e4 ?_
  refine qe_iconst (x := 0) c226_4 (by decide) ?_
  refine qe_aload_n c226_5 rfl ?_
  refine qe_getfield c226_6 qo226 qF5_12 e2 e6 ?_
  refine qe_getfield c226_9 qo226 qF5_82 e8 e10 ?_
  refine qe_i2l c226_12 ?_
  refine qe_lastore c226_13 e13 e14 ?_
  rw [e15]
  refine qe_aload_n c226_14 rfl ?_
  refine qe_getfield c226_15 qo226 qF5_27 e17 e19 ?_
  refine qe_iconst (x := 4) c226_18 (by decide) ?_
  refine qe_aload_n c226_19 rfl ?_
  refine qe_getfield c226_20 qo226 qF5_12 e17 e21 ?_
  refine qe_aload_n c226_23 rfl ?_
  refine qe_getfield c226_24 qo226 qF5_12 e17 e21 ?_
  refine qe_getfield c226_27 qo226 qF5_47 e24 e26 ?_
  refine qe_virtual (b := y20) (as := [.int y25]) (r := [.int 4, .ref y18]) (v := (some (.int z27))) (h2 := h2) c226_30 qo226 qK5_136 rfl rfl rfl (by rw [qo244]; exact e24) (Nat.le_of_ble_eq_true rfl) e28 ?_
  refine qe_i2l c226_33 ?_
  refine qe_lastore c226_34 e31 e32 ?_
  rw [e33]
  refine qe_aload_n c226_35 rfl ?_
  refine qe_getfield c226_36 qo226 qF5_27 e35 e37 ?_
  refine qe_iconst (x := 5) c226_39 (by decide) ?_
  refine qe_aload_n c226_40 rfl ?_
  refine qe_getfield c226_41 qo226 qF5_12 e35 e39 ?_
  refine qe_getfield c226_44 qo226 qF5_79 e41 e43 ?_
  refine qe_i2l c226_47 ?_
  refine qe_lastore c226_48 e46 e47 ?_
  rw [e48]
  exact qe_vret c226_49 qr226
theorem b227_0 {d : Nat} {q : Option Value × qH} {h : qH} {r0 : Nat} {r1 : Nat}   (kk : qE d 227 2 [some (.ref r0), some (.ref r1), some (.int 0), none, none, none, none] [] h q): qE d 227 0 [some (.ref r0), some (.ref r1), none, none, none, none, none] [] h q := by
  refine qe_iconst (x := 0) c227_0 (by decide) ?_
  refine qe_istore_n (ls2 := [some (.ref r0), some (.ref r1), some (.int 0), none, none, none, none]) c227_1 (Nat.le_of_ble_eq_true rfl) rfl ?_
  exact kk
theorem b227_2F {d : Nat} {q : Option Value × qH} {h : qH} {r0 : Nat} {r1 : Nat} {x2 : Int32} {o3 : Option Value} {o5 : Option Value} {fs1 : List Value} {y3 : Int32}  (e2 : h.2.2 r1 = some (.inr (4, fs1))) (e4 : fs1[1]? = some (.int y3)) (e5 : ¬ ((y3 : Int32) ≤ x2)) (kk : qE d 227 10 [some (.ref r0), some (.ref r1), some (.int x2), o3, none, o5, none] [] h q): qE d 227 2 [some (.ref r0), some (.ref r1), some (.int x2), o3, none, o5, none] [] h q := by
  refine qe_iload_n c227_2 rfl ?_
  refine qe_aload_n c227_3 rfl ?_
  refine qe_getfield c227_4 qo227 qF5_95 e2 e4 ?_
  refine qe_icmp_ge_F (t := 102) c227_7 rfl e5 ?_
  exact kk
theorem b227_2T {d : Nat} {q : Option Value × qH} {h : qH} {r0 : Nat} {r1 : Nat} {x2 : Int32} {o3 : Option Value} {o5 : Option Value} {fs1 : List Value} {y3 : Int32}  (e2 : h.2.2 r1 = some (.inr (4, fs1))) (e4 : fs1[1]? = some (.int y3)) (e5 : (y3 : Int32) ≤ x2) (kk : qE d 227 102 [some (.ref r0), some (.ref r1), some (.int x2), o3, none, o5, none] [] h q): qE d 227 2 [some (.ref r0), some (.ref r1), some (.int x2), o3, none, o5, none] [] h q := by
  refine qe_iload_n c227_2 rfl ?_
  refine qe_aload_n c227_3 rfl ?_
  refine qe_getfield c227_4 qo227 qF5_95 e2 e4 ?_
  refine qe_icmp_ge_T (t := 102) c227_7 rfl e5 ?_
  exact kk
theorem b227_10F {d : Nat} {q : Option Value × qH} {h : qH} {r0 : Nat} {r1 : Nat} {x2 : Int32} {o3 : Option Value} {o5 : Option Value} {fs1 : List Value} {y3 : Nat} {fs5 : List Value} {y7 : Nat} {n9 : Nat} {f10 : Nat → Int32}  (e2 : h.2.2 r0 = some (.inr (5, fs1))) (e4 : fs1[0]? = some (.ref y3)) (e6 : h.2.2 y3 = some (.inr (8, fs5))) (e8 : fs5[5]? = some (.ref y7)) (e11 : h.2.2 y7 = some (.inl (0, n9, .inl f10))) (e12 : 0 ≤ (x2 : Int32).toInt ∧ (x2 : Int32).toInt < (n9 : Nat)) (e13 : ((f10 (x2 : Int32).toNatClampNeg) : Int32) = 0) (kk : qE d 227 24 [some (.ref r0), some (.ref r1), some (.int x2), some (.long 0), none, o5, none] [] h q): qE d 227 10 [some (.ref r0), some (.ref r1), some (.int x2), o3, none, o5, none] [] h q := by
  refine qe_lconst (x := 0) c227_10 (by decide) ?_
  refine qe_lstore_n (ls2 := [some (.ref r0), some (.ref r1), some (.int x2), some (.long 0), none, o5, none]) c227_11 (Nat.le_of_ble_eq_true rfl) rfl ?_
  refine qe_aload_n c227_12 rfl ?_
  refine qe_getfield c227_13 qo227 qF5_12 e2 e4 ?_
  refine qe_getfield c227_16 qo227 qF5_100 e6 e8 ?_
  refine qe_iload_n c227_19 rfl ?_
  refine qe_iaload c227_20 e11 e12 ?_
  refine qe_if_ne_F (t := 54) c227_21 rfl e13 ?_
  exact kk
theorem b227_10T {d : Nat} {q : Option Value × qH} {h : qH} {r0 : Nat} {r1 : Nat} {x2 : Int32} {o3 : Option Value} {o5 : Option Value} {fs1 : List Value} {y3 : Nat} {fs5 : List Value} {y7 : Nat} {n9 : Nat} {f10 : Nat → Int32}  (e2 : h.2.2 r0 = some (.inr (5, fs1))) (e4 : fs1[0]? = some (.ref y3)) (e6 : h.2.2 y3 = some (.inr (8, fs5))) (e8 : fs5[5]? = some (.ref y7)) (e11 : h.2.2 y7 = some (.inl (0, n9, .inl f10))) (e12 : 0 ≤ (x2 : Int32).toInt ∧ (x2 : Int32).toInt < (n9 : Nat)) (e13 : ¬ (((f10 (x2 : Int32).toNatClampNeg) : Int32) = 0)) (kk : qE d 227 54 [some (.ref r0), some (.ref r1), some (.int x2), some (.long 0), none, o5, none] [] h q): qE d 227 10 [some (.ref r0), some (.ref r1), some (.int x2), o3, none, o5, none] [] h q := by
  refine qe_lconst (x := 0) c227_10 (by decide) ?_
  refine qe_lstore_n (ls2 := [some (.ref r0), some (.ref r1), some (.int x2), some (.long 0), none, o5, none]) c227_11 (Nat.le_of_ble_eq_true rfl) rfl ?_
  refine qe_aload_n c227_12 rfl ?_
  refine qe_getfield c227_13 qo227 qF5_12 e2 e4 ?_
  refine qe_getfield c227_16 qo227 qF5_100 e6 e8 ?_
  refine qe_iload_n c227_19 rfl ?_
  refine qe_iaload c227_20 e11 e12 ?_
  refine qe_if_ne_T (t := 54) c227_21 rfl e13 ?_
  exact kk
theorem b227_24F {d : Nat} {q : Option Value × qH} {h : qH} {r0 : Nat} {r1 : Nat} {x2 : Int32} {l3 : Int64} {o5 : Option Value} {fs1 : List Value} {y3 : Nat} {n5 : Nat} {f6 : Nat → Int32}  (e2 : h.2.2 r1 = some (.inr (4, fs1))) (e4 : fs1[11]? = some (.ref y3)) (e7 : h.2.2 y3 = some (.inl (0, n5, .inl f6))) (e8 : 0 ≤ (x2 : Int32).toInt ∧ (x2 : Int32).toInt < (n5 : Nat)) (e9 : ¬ (((f6 (x2 : Int32).toNatClampNeg) : Int32) ≤ 0)) (kk : qE d 227 33 [some (.ref r0), some (.ref r1), some (.int x2), some (.long l3), none, o5, none] [] h q): qE d 227 24 [some (.ref r0), some (.ref r1), some (.int x2), some (.long l3), none, o5, none] [] h q := by
  refine qe_aload_n c227_24 rfl ?_
  refine qe_getfield c227_25 qo227 qF5_103 e2 e4 ?_
  refine qe_iload_n c227_28 rfl ?_
  refine qe_iaload c227_29 e7 e8 ?_
  refine qe_if_le_F (t := 54) c227_30 rfl e9 ?_
  exact kk
theorem b227_24T {d : Nat} {q : Option Value × qH} {h : qH} {r0 : Nat} {r1 : Nat} {x2 : Int32} {l3 : Int64} {o5 : Option Value} {fs1 : List Value} {y3 : Nat} {n5 : Nat} {f6 : Nat → Int32}  (e2 : h.2.2 r1 = some (.inr (4, fs1))) (e4 : fs1[11]? = some (.ref y3)) (e7 : h.2.2 y3 = some (.inl (0, n5, .inl f6))) (e8 : 0 ≤ (x2 : Int32).toInt ∧ (x2 : Int32).toInt < (n5 : Nat)) (e9 : ((f6 (x2 : Int32).toNatClampNeg) : Int32) ≤ 0) (kk : qE d 227 54 [some (.ref r0), some (.ref r1), some (.int x2), some (.long l3), none, o5, none] [] h q): qE d 227 24 [some (.ref r0), some (.ref r1), some (.int x2), some (.long l3), none, o5, none] [] h q := by
  refine qe_aload_n c227_24 rfl ?_
  refine qe_getfield c227_25 qo227 qF5_103 e2 e4 ?_
  refine qe_iload_n c227_28 rfl ?_
  refine qe_iaload c227_29 e7 e8 ?_
  refine qe_if_le_T (t := 54) c227_30 rfl e9 ?_
  exact kk
theorem b227_33 {d : Nat} {q : Option Value × qH} {h : qH} {r0 : Nat} {r1 : Nat} {x2 : Int32} {l3 : Int64} {o5 : Option Value} {fs1 : List Value} {y3 : Nat} {fs5 : List Value} {y7 : Nat} {n9 : Nat} {f10 : Nat → Int64} {h1 : qH} {z13 : Int64} {fs15 : List Value} {y17 : Nat} {n19 : Nat} {f20 : Nat → Int32}  (e2 : h.2.2 r0 = some (.inr (5, fs1))) (e4 : fs1[1]? = some (.ref y3)) (e6 : h.2.2 y3 = some (.inr (7, fs5))) (e8 : fs5[7]? = some (.ref y7)) (e11 : h.2.2 y7 = some (.inl (2, n9, .inr (.inl f10)))) (e12 : 0 ≤ (x2 : Int32).toInt ∧ (x2 : Int32).toInt < (n9 : Nat)) (e14 : qCall d 4 [.long (f10 (x2 : Int32).toNatClampNeg)] h ((some (.long z13)), h1)) (e16 : h1.2.2 r1 = some (.inr (4, fs15))) (e18 : fs15[11]? = some (.ref y17)) (e21 : h1.2.2 y17 = some (.inl (0, n19, .inl f20))) (e22 : 0 ≤ (x2 : Int32).toInt ∧ (x2 : Int32).toInt < (n19 : Nat)) (e23 : ¬ (((f20 (x2 : Int32).toNatClampNeg) : Int32).toInt64 : Int64) = 0) (kk : qE d 227 54 [some (.ref r0), some (.ref r1), some (.int x2), some (.long (z13 / ((f20 (x2 : Int32).toNatClampNeg) : Int32).toInt64)), none, o5, none] [] h1 q): qE d 227 33 [some (.ref r0), some (.ref r1), some (.int x2), some (.long l3), none, o5, none] [] h q := by
  refine qe_aload_n c227_33 rfl ?_
  refine qe_getfield c227_34 qo227 qF5_21 e2 e4 ?_
  refine qe_getfield c227_37 qo227 qF5_106 e6 e8 ?_
  refine qe_iload_n c227_40 rfl ?_
  refine qe_laload c227_41 e11 e12 ?_
  refine qe_static (as := [.long (f10 (x2 : Int32).toNatClampNeg)]) (r := []) (v := (some (.long z13))) (h2 := h1) c227_42 qo227 (by decide) qK5_109 rfl rfl rfl (Nat.le_of_ble_eq_true rfl) e14 ?_
  refine qe_aload_n c227_45 rfl ?_
  refine qe_getfield c227_46 qo227 qF5_103 e16 e18 ?_
  refine qe_iload_n c227_49 rfl ?_
  refine qe_iaload c227_50 e21 e22 ?_
  refine qe_i2l c227_51 ?_
  refine qe_ldiv c227_52 e23 ?_
  refine qe_lstore_n (ls2 := [some (.ref r0), some (.ref r1), some (.int x2), some (.long (z13 / ((f20 (x2 : Int32).toNatClampNeg) : Int32).toInt64)), none, o5, none]) c227_53 (Nat.le_of_ble_eq_true rfl) rfl ?_
  exact kk
theorem b227_54 {d : Nat} {q : Option Value × qH} {h : qH} {r0 : Nat} {r1 : Nat} {x2 : Int32} {l3 : Int64} {o5 : Option Value} {fs1 : List Value} {y3 : Nat} {fs5 : List Value} {y7 : Nat} {n9 : Nat} {f10 : Nat → Int32} {fs13 : List Value} {y15 : Int32} {h1 : qH} {z19 : Int64} {h2 : qH} {z21 : Int64} {n23 : Nat} {f24 : Nat → Int32} {h3 : qH}  (e2 : h.2.2 r0 = some (.inr (5, fs1))) (e4 : fs1[0]? = some (.ref y3)) (e6 : h.2.2 y3 = some (.inr (8, fs5))) (e8 : fs5[6]? = some (.ref y7)) (e11 : h.2.2 y7 = some (.inl (0, n9, .inl f10))) (e12 : 0 ≤ (x2 : Int32).toInt ∧ (x2 : Int32).toInt < (n9 : Nat)) (e14 : h.2.2 r1 = some (.inr (4, fs13))) (e16 : fs13[3]? = some (.int y15)) (e20 : qCall d 7 [.long 1000000, .long ((((f10 (x2 : Int32).toNatClampNeg) : Int32).toInt64 + l3) - (y15 : Int32).toInt64)] h ((some (.long z19)), h1)) (e22 : qCall d 5 [.long 0, .long z19] h1 ((some (.long z21)), h2)) (e25 : h2.2.2 y7 = some (.inl (0, n23, .inl f24))) (e26 : 0 ≤ (x2 : Int32).toInt ∧ (x2 : Int32).toInt < (n23 : Nat)) (e27 : qset h2 y7 (.inl (0, n23, .inl (upd f24 ((x2 : Int32).toNatClampNeg) ((z21 : Int64).toInt32)))) = h3) (kk : qE d 227 2 [some (.ref r0), some (.ref r1), some (.int (x2 + 1)), some (.long l3), none, some (.long ((((f10 (x2 : Int32).toNatClampNeg) : Int32).toInt64 + l3) - (y15 : Int32).toInt64)), none] [] h3 q): qE d 227 54 [some (.ref r0), some (.ref r1), some (.int x2), some (.long l3), none, o5, none] [] h q := by
  refine qe_aload_n c227_54 rfl ?_
  refine qe_getfield c227_55 qo227 qF5_12 e2 e4 ?_
  refine qe_getfield c227_58 qo227 qF5_115 e6 e8 ?_
  refine qe_iload_n c227_61 rfl ?_
  refine qe_iaload c227_62 e11 e12 ?_
  refine qe_i2l c227_63 ?_
  refine qe_lload_n c227_64 rfl ?_
  refine qe_ladd c227_65 ?_
  refine qe_aload_n c227_66 rfl ?_
  refine qe_getfield c227_67 qo227 qF5_118 e14 e16 ?_
  refine qe_i2l c227_70 ?_
  refine qe_lsub c227_71 ?_
  refine qe_lstore (ls2 := [some (.ref r0), some (.ref r1), some (.int x2), some (.long l3), none, some (.long ((((f10 (x2 : Int32).toNatClampNeg) : Int32).toInt64 + l3) - (y15 : Int32).toInt64)), none]) c227_72 (Nat.le_of_ble_eq_true rfl) rfl ?_
  refine qe_aload_n c227_74 rfl ?_
  refine qe_getfield c227_75 qo227 qF5_12 e2 e4 ?_
  refine qe_getfield c227_78 qo227 qF5_115 e6 e8 ?_
  refine qe_iload_n c227_81 rfl ?_
  refine qe_lconst (x := 0) c227_82 (by decide) ?_
  refine qe_ldc2_w (x := 1000000) c227_83 qo227 qJ5_121 ?_
  refine qe_lload c227_86 rfl ?_
  refine qe_static (as := [.long 1000000, .long ((((f10 (x2 : Int32).toNatClampNeg) : Int32).toInt64 + l3) - (y15 : Int32).toInt64)]) (r := [.long 0, .int x2, .ref y7]) (v := (some (.long z19))) (h2 := h1) c227_88 qo227 (by decide) qK5_123 rfl rfl rfl (Nat.le_of_ble_eq_true rfl) e20 ?_
  refine qe_static (as := [.long 0, .long z19]) (r := [.int x2, .ref y7]) (v := (some (.long z21))) (h2 := h2) c227_91 qo227 (by decide) qK5_127 rfl rfl rfl (Nat.le_of_ble_eq_true rfl) e22 ?_
  refine qe_l2i c227_94 ?_
  refine qe_iastore c227_95 e25 e26 ?_
  rw [e27]
  refine qe_iinc (y := (x2 + 1)) (ls2 := [some (.ref r0), some (.ref r1), some (.int (x2 + 1)), some (.long l3), none, some (.long ((((f10 (x2 : Int32).toNatClampNeg) : Int32).toInt64 + l3) - (y15 : Int32).toInt64)), none]) c227_96 rfl (Nat.le_of_ble_eq_true rfl) rfl rfl ?_
  refine qe_goto (t := 2) c227_99 rfl ?_
  exact kk
theorem b227_102 {d : Nat} {h : qH} {r0 : Nat} {r1 : Nat} {x2 : Int32} {o3 : Option Value} {o5 : Option Value}   : qE d 227 102 [some (.ref r0), some (.ref r1), some (.int x2), o3, none, o5, none] [] h (none, h) := by
  exact qe_vret c227_102 qr227
theorem b228_0 {d : Nat} {q : Option Value × qH} {h : qH} {r0 : Nat} {r1 : Nat} {x2 : Int32} {r3 : Nat} {r4 : Nat}   (kk : qE d 228 3 [some (.ref r0), some (.ref r1), some (.int x2), some (.ref r3), some (.ref r4), some (.int 0), none, none] [] h q): qE d 228 0 [some (.ref r0), some (.ref r1), some (.int x2), some (.ref r3), some (.ref r4), none, none, none] [] h q := by
  refine qe_iconst (x := 0) c228_0 (by decide) ?_
  refine qe_istore (ls2 := [some (.ref r0), some (.ref r1), some (.int x2), some (.ref r3), some (.ref r4), some (.int 0), none, none]) c228_1 (Nat.le_of_ble_eq_true rfl) rfl ?_
  exact kk
theorem b228_3F {d : Nat} {q : Option Value × qH} {h : qH} {r0 : Nat} {r1 : Nat} {x2 : Int32} {r3 : Nat} {r4 : Nat} {x5 : Int32} {o6 : Option Value} {o7 : Option Value} {fs1 : List Value} {y3 : Int32}  (e2 : h.2.2 r1 = some (.inr (4, fs1))) (e4 : fs1[1]? = some (.int y3)) (e5 : ¬ ((y3 : Int32) ≤ x5)) (kk : qE d 228 12 [some (.ref r0), some (.ref r1), some (.int x2), some (.ref r3), some (.ref r4), some (.int x5), o6, o7] [] h q): qE d 228 3 [some (.ref r0), some (.ref r1), some (.int x2), some (.ref r3), some (.ref r4), some (.int x5), o6, o7] [] h q := by
  refine qe_iload c228_3 rfl ?_
  refine qe_aload_n c228_5 rfl ?_
  refine qe_getfield c228_6 qo228 qF6_50 e2 e4 ?_
  refine qe_icmp_ge_F (t := 106) c228_9 rfl e5 ?_
  exact kk
theorem b228_3T {d : Nat} {q : Option Value × qH} {h : qH} {r0 : Nat} {r1 : Nat} {x2 : Int32} {r3 : Nat} {r4 : Nat} {x5 : Int32} {o6 : Option Value} {o7 : Option Value} {fs1 : List Value} {y3 : Int32}  (e2 : h.2.2 r1 = some (.inr (4, fs1))) (e4 : fs1[1]? = some (.int y3)) (e5 : (y3 : Int32) ≤ x5) (kk : qE d 228 106 [some (.ref r0), some (.ref r1), some (.int x2), some (.ref r3), some (.ref r4), some (.int x5), o6, o7] [] h q): qE d 228 3 [some (.ref r0), some (.ref r1), some (.int x2), some (.ref r3), some (.ref r4), some (.int x5), o6, o7] [] h q := by
  refine qe_iload c228_3 rfl ?_
  refine qe_aload_n c228_5 rfl ?_
  refine qe_getfield c228_6 qo228 qF6_50 e2 e4 ?_
  refine qe_icmp_ge_T (t := 106) c228_9 rfl e5 ?_
  exact kk
theorem b228_12F {d : Nat} {q : Option Value × qH} {h : qH} {r0 : Nat} {r1 : Nat} {x2 : Int32} {r3 : Nat} {r4 : Nat} {x5 : Int32} {o6 : Option Value} {o7 : Option Value} {fs1 : List Value} {y3 : Nat} {n5 : Nat} {f6 : Nat → Int32}  (e2 : h.2.2 r0 = some (.inr (6, fs1))) (e4 : fs1[3]? = some (.ref y3)) (e7 : h.2.2 y3 = some (.inl (0, n5, .inl f6))) (e8 : 0 ≤ (x2 : Int32).toInt ∧ (x2 : Int32).toInt < (n5 : Nat)) (e9 : ((((f6 (x2 : Int32).toNatClampNeg) >>> (x5 &&& 31)) &&& 1) : Int32) = 1) (kk : qE d 228 27 [some (.ref r0), some (.ref r1), some (.int x2), some (.ref r3), some (.ref r4), some (.int x5), o6, o7] [] h q): qE d 228 12 [some (.ref r0), some (.ref r1), some (.int x2), some (.ref r3), some (.ref r4), some (.int x5), o6, o7] [] h q := by
  refine qe_aload_n c228_12 rfl ?_
  refine qe_getfield c228_13 qo228 qF6_22 e2 e4 ?_
  refine qe_iload_n c228_16 rfl ?_
  refine qe_iaload c228_17 e7 e8 ?_
  refine qe_iload c228_18 rfl ?_
  refine qe_ishr c228_20 ?_
  refine qe_iconst (x := 1) c228_21 (by decide) ?_
  refine qe_iand c228_22 ?_
  refine qe_iconst (x := 1) c228_23 (by decide) ?_
  refine qe_icmp_ne_F (t := 31) c228_24 rfl e9 ?_
  exact kk
theorem b228_12T {d : Nat} {q : Option Value × qH} {h : qH} {r0 : Nat} {r1 : Nat} {x2 : Int32} {r3 : Nat} {r4 : Nat} {x5 : Int32} {o6 : Option Value} {o7 : Option Value} {fs1 : List Value} {y3 : Nat} {n5 : Nat} {f6 : Nat → Int32}  (e2 : h.2.2 r0 = some (.inr (6, fs1))) (e4 : fs1[3]? = some (.ref y3)) (e7 : h.2.2 y3 = some (.inl (0, n5, .inl f6))) (e8 : 0 ≤ (x2 : Int32).toInt ∧ (x2 : Int32).toInt < (n5 : Nat)) (e9 : ¬ (((((f6 (x2 : Int32).toNatClampNeg) >>> (x5 &&& 31)) &&& 1) : Int32) = 1)) (kk : qE d 228 31 [some (.ref r0), some (.ref r1), some (.int x2), some (.ref r3), some (.ref r4), some (.int x5), o6, o7] [] h q): qE d 228 12 [some (.ref r0), some (.ref r1), some (.int x2), some (.ref r3), some (.ref r4), some (.int x5), o6, o7] [] h q := by
  refine qe_aload_n c228_12 rfl ?_
  refine qe_getfield c228_13 qo228 qF6_22 e2 e4 ?_
  refine qe_iload_n c228_16 rfl ?_
  refine qe_iaload c228_17 e7 e8 ?_
  refine qe_iload c228_18 rfl ?_
  refine qe_ishr c228_20 ?_
  refine qe_iconst (x := 1) c228_21 (by decide) ?_
  refine qe_iand c228_22 ?_
  refine qe_iconst (x := 1) c228_23 (by decide) ?_
  refine qe_icmp_ne_T (t := 31) c228_24 rfl e9 ?_
  exact kk
theorem b228_27 {d : Nat} {q : Option Value × qH} {h : qH} {r0 : Nat} {r1 : Nat} {x2 : Int32} {r3 : Nat} {r4 : Nat} {x5 : Int32} {o6 : Option Value} {o7 : Option Value}   (kk : qE d 228 32 [some (.ref r0), some (.ref r1), some (.int x2), some (.ref r3), some (.ref r4), some (.int x5), o6, o7] [.int 1] h q): qE d 228 27 [some (.ref r0), some (.ref r1), some (.int x2), some (.ref r3), some (.ref r4), some (.int x5), o6, o7] [] h q := by
  refine qe_iconst (x := 1) c228_27 (by decide) ?_
  refine qe_goto (t := 32) c228_28 rfl ?_
  exact kk
theorem b228_31 {d : Nat} {q : Option Value × qH} {h : qH} {r0 : Nat} {r1 : Nat} {x2 : Int32} {r3 : Nat} {r4 : Nat} {x5 : Int32} {o6 : Option Value} {o7 : Option Value}   (kk : qE d 228 32 [some (.ref r0), some (.ref r1), some (.int x2), some (.ref r3), some (.ref r4), some (.int x5), o6, o7] [.int 0] h q): qE d 228 31 [some (.ref r0), some (.ref r1), some (.int x2), some (.ref r3), some (.ref r4), some (.int x5), o6, o7] [] h q := by
  refine qe_iconst (x := 0) c228_31 (by decide) ?_
  exact kk
theorem b228_32F {d : Nat} {q : Option Value × qH} {h : qH} {r0 : Nat} {r1 : Nat} {x2 : Int32} {r3 : Nat} {r4 : Nat} {x5 : Int32} {o6 : Option Value} {o7 : Option Value} {xs0 : Int32} {fs1 : List Value} {y3 : Nat} {n5 : Nat} {f6 : Nat → Int32}  (e2 : h.2.2 r3 = some (.inr (8, fs1))) (e4 : fs1[5]? = some (.ref y3)) (e7 : h.2.2 y3 = some (.inl (0, n5, .inl f6))) (e8 : 0 ≤ (x5 : Int32).toInt ∧ (x5 : Int32).toInt < (n5 : Nat)) (e9 : ((f6 (x5 : Int32).toNatClampNeg) : Int32) = 0) (kk : qE d 228 46 [some (.ref r0), some (.ref r1), some (.int x2), some (.ref r3), some (.ref r4), some (.int x5), some (.int xs0), o7] [.int xs0] h q): qE d 228 32 [some (.ref r0), some (.ref r1), some (.int x2), some (.ref r3), some (.ref r4), some (.int x5), o6, o7] [.int xs0] h q := by
  refine qe_istore (ls2 := [some (.ref r0), some (.ref r1), some (.int x2), some (.ref r3), some (.ref r4), some (.int x5), some (.int xs0), o7]) c228_32 (Nat.le_of_ble_eq_true rfl) rfl ?_
  refine qe_iload c228_34 rfl ?_
  refine qe_aload_n c228_36 rfl ?_
  refine qe_getfield c228_37 qo228 qF6_53 e2 e4 ?_
  refine qe_iload c228_40 rfl ?_
  refine qe_iaload c228_42 e7 e8 ?_
  refine qe_if_ne_F (t := 50) c228_43 rfl e9 ?_
  exact kk
theorem b228_32T {d : Nat} {q : Option Value × qH} {h : qH} {r0 : Nat} {r1 : Nat} {x2 : Int32} {r3 : Nat} {r4 : Nat} {x5 : Int32} {o6 : Option Value} {o7 : Option Value} {xs0 : Int32} {fs1 : List Value} {y3 : Nat} {n5 : Nat} {f6 : Nat → Int32}  (e2 : h.2.2 r3 = some (.inr (8, fs1))) (e4 : fs1[5]? = some (.ref y3)) (e7 : h.2.2 y3 = some (.inl (0, n5, .inl f6))) (e8 : 0 ≤ (x5 : Int32).toInt ∧ (x5 : Int32).toInt < (n5 : Nat)) (e9 : ¬ (((f6 (x5 : Int32).toNatClampNeg) : Int32) = 0)) (kk : qE d 228 50 [some (.ref r0), some (.ref r1), some (.int x2), some (.ref r3), some (.ref r4), some (.int x5), some (.int xs0), o7] [.int xs0] h q): qE d 228 32 [some (.ref r0), some (.ref r1), some (.int x2), some (.ref r3), some (.ref r4), some (.int x5), o6, o7] [.int xs0] h q := by
  refine qe_istore (ls2 := [some (.ref r0), some (.ref r1), some (.int x2), some (.ref r3), some (.ref r4), some (.int x5), some (.int xs0), o7]) c228_32 (Nat.le_of_ble_eq_true rfl) rfl ?_
  refine qe_iload c228_34 rfl ?_
  refine qe_aload_n c228_36 rfl ?_
  refine qe_getfield c228_37 qo228 qF6_53 e2 e4 ?_
  refine qe_iload c228_40 rfl ?_
  refine qe_iaload c228_42 e7 e8 ?_
  refine qe_if_ne_T (t := 50) c228_43 rfl e9 ?_
  exact kk
theorem b228_46 {d : Nat} {q : Option Value × qH} {h : qH} {r0 : Nat} {r1 : Nat} {x2 : Int32} {r3 : Nat} {r4 : Nat} {x5 : Int32} {x6 : Int32} {o7 : Option Value} {xs0 : Int32}   (kk : qE d 228 51 [some (.ref r0), some (.ref r1), some (.int x2), some (.ref r3), some (.ref r4), some (.int x5), some (.int x6), o7] [.int 1, .int xs0] h q): qE d 228 46 [some (.ref r0), some (.ref r1), some (.int x2), some (.ref r3), some (.ref r4), some (.int x5), some (.int x6), o7] [.int xs0] h q := by
  refine qe_iconst (x := 1) c228_46 (by decide) ?_
  refine qe_goto (t := 51) c228_47 rfl ?_
  exact kk
theorem b228_50 {d : Nat} {q : Option Value × qH} {h : qH} {r0 : Nat} {r1 : Nat} {x2 : Int32} {r3 : Nat} {r4 : Nat} {x5 : Int32} {x6 : Int32} {o7 : Option Value} {xs0 : Int32}   (kk : qE d 228 51 [some (.ref r0), some (.ref r1), some (.int x2), some (.ref r3), some (.ref r4), some (.int x5), some (.int x6), o7] [.int 0, .int xs0] h q): qE d 228 50 [some (.ref r0), some (.ref r1), some (.int x2), some (.ref r3), some (.ref r4), some (.int x5), some (.int x6), o7] [.int xs0] h q := by
  refine qe_iconst (x := 0) c228_50 (by decide) ?_
  exact kk
theorem b228_51F {d : Nat} {q : Option Value × qH} {h : qH} {r0 : Nat} {r1 : Nat} {x2 : Int32} {r3 : Nat} {r4 : Nat} {x5 : Int32} {x6 : Int32} {o7 : Option Value} {xs0 : Int32} {xs1 : Int32}  (e1 : (xs0 : Int32) = xs1) (kk : qE d 228 54 [some (.ref r0), some (.ref r1), some (.int x2), some (.ref r3), some (.ref r4), some (.int x5), some (.int x6), o7] [] h q): qE d 228 51 [some (.ref r0), some (.ref r1), some (.int x2), some (.ref r3), some (.ref r4), some (.int x5), some (.int x6), o7] [.int xs1, .int xs0] h q := by
  refine qe_icmp_ne_F (t := 79) c228_51 rfl e1 ?_
  exact kk
theorem b228_51T {d : Nat} {q : Option Value × qH} {h : qH} {r0 : Nat} {r1 : Nat} {x2 : Int32} {r3 : Nat} {r4 : Nat} {x5 : Int32} {x6 : Int32} {o7 : Option Value} {xs0 : Int32} {xs1 : Int32}  (e1 : ¬ ((xs0 : Int32) = xs1)) (kk : qE d 228 79 [some (.ref r0), some (.ref r1), some (.int x2), some (.ref r3), some (.ref r4), some (.int x5), some (.int x6), o7] [] h q): qE d 228 51 [some (.ref r0), some (.ref r1), some (.int x2), some (.ref r3), some (.ref r4), some (.int x5), some (.int x6), o7] [.int xs1, .int xs0] h q := by
  refine qe_icmp_ne_T (t := 79) c228_51 rfl e1 ?_
  exact kk
theorem b228_54F {d : Nat} {q : Option Value × qH} {h : qH} {r0 : Nat} {r1 : Nat} {x2 : Int32} {r3 : Nat} {r4 : Nat} {x5 : Int32} {x6 : Int32} {o7 : Option Value} {fs1 : List Value} {y3 : Nat} {n5 : Nat} {f6 : Nat → Option Nat} {r9 : Nat} {n11 : Nat} {f12 : Nat → Int64} {fs15 : List Value} {y17 : Nat} {n19 : Nat} {f20 : Nat → Int64}  (e2 : h.2.2 r0 = some (.inr (6, fs1))) (e4 : fs1[4]? = some (.ref y3)) (e7 : h.2.2 y3 = some (.inl (7, n5, .inr (.inr (.inr (.inr f6)))))) (e8 : 0 ≤ (x2 : Int32).toInt ∧ (x2 : Int32).toInt < (n5 : Nat)) (e10 : (f6 (x2 : Int32).toNatClampNeg) = some r9) (e13 : h.2.2 r9 = some (.inl (2, n11, .inr (.inl f12)))) (e14 : 0 ≤ (x5 : Int32).toInt ∧ (x5 : Int32).toInt < (n11 : Nat)) (e16 : h.2.2 r4 = some (.inr (7, fs15))) (e18 : fs15[7]? = some (.ref y17)) (e21 : h.2.2 y17 = some (.inl (2, n19, .inr (.inl f20)))) (e22 : 0 ≤ (x5 : Int32).toInt ∧ (x5 : Int32).toInt < (n19 : Nat)) (e23 : ((lg_cmp ((f12 (x5 : Int32).toNatClampNeg)) ((f20 (x5 : Int32).toNatClampNeg))) : Int32) = 0) (kk : qE d 228 75 [some (.ref r0), some (.ref r1), some (.int x2), some (.ref r3), some (.ref r4), some (.int x5), some (.int x6), o7] [] h q): qE d 228 54 [some (.ref r0), some (.ref r1), some (.int x2), some (.ref r3), some (.ref r4), some (.int x5), some (.int x6), o7] [] h q := by
  refine qe_aload_n c228_54 rfl ?_
  refine qe_getfield c228_55 qo228 qF6_27 e2 e4 ?_
  refine qe_iload_n c228_58 rfl ?_
  refine qe_aaload c228_59 e7 e8 (Or.inr (Or.inr rfl)) e10 ?_
  refine qe_iload c228_60 rfl ?_
  refine qe_laload c228_62 e13 e14 ?_
  refine qe_aload c228_63 rfl ?_
  refine qe_getfield c228_65 qo228 qF6_56 e16 e18 ?_
  refine qe_iload c228_68 rfl ?_
  refine qe_laload c228_70 e21 e22 ?_
  refine qe_lcmp c228_71 ?_
  refine qe_if_ne_F (t := 79) c228_72 rfl e23 ?_
  exact kk
theorem b228_54T {d : Nat} {q : Option Value × qH} {h : qH} {r0 : Nat} {r1 : Nat} {x2 : Int32} {r3 : Nat} {r4 : Nat} {x5 : Int32} {x6 : Int32} {o7 : Option Value} {fs1 : List Value} {y3 : Nat} {n5 : Nat} {f6 : Nat → Option Nat} {r9 : Nat} {n11 : Nat} {f12 : Nat → Int64} {fs15 : List Value} {y17 : Nat} {n19 : Nat} {f20 : Nat → Int64}  (e2 : h.2.2 r0 = some (.inr (6, fs1))) (e4 : fs1[4]? = some (.ref y3)) (e7 : h.2.2 y3 = some (.inl (7, n5, .inr (.inr (.inr (.inr f6)))))) (e8 : 0 ≤ (x2 : Int32).toInt ∧ (x2 : Int32).toInt < (n5 : Nat)) (e10 : (f6 (x2 : Int32).toNatClampNeg) = some r9) (e13 : h.2.2 r9 = some (.inl (2, n11, .inr (.inl f12)))) (e14 : 0 ≤ (x5 : Int32).toInt ∧ (x5 : Int32).toInt < (n11 : Nat)) (e16 : h.2.2 r4 = some (.inr (7, fs15))) (e18 : fs15[7]? = some (.ref y17)) (e21 : h.2.2 y17 = some (.inl (2, n19, .inr (.inl f20)))) (e22 : 0 ≤ (x5 : Int32).toInt ∧ (x5 : Int32).toInt < (n19 : Nat)) (e23 : ¬ (((lg_cmp ((f12 (x5 : Int32).toNatClampNeg)) ((f20 (x5 : Int32).toNatClampNeg))) : Int32) = 0)) (kk : qE d 228 79 [some (.ref r0), some (.ref r1), some (.int x2), some (.ref r3), some (.ref r4), some (.int x5), some (.int x6), o7] [] h q): qE d 228 54 [some (.ref r0), some (.ref r1), some (.int x2), some (.ref r3), some (.ref r4), some (.int x5), some (.int x6), o7] [] h q := by
  refine qe_aload_n c228_54 rfl ?_
  refine qe_getfield c228_55 qo228 qF6_27 e2 e4 ?_
  refine qe_iload_n c228_58 rfl ?_
  refine qe_aaload c228_59 e7 e8 (Or.inr (Or.inr rfl)) e10 ?_
  refine qe_iload c228_60 rfl ?_
  refine qe_laload c228_62 e13 e14 ?_
  refine qe_aload c228_63 rfl ?_
  refine qe_getfield c228_65 qo228 qF6_56 e16 e18 ?_
  refine qe_iload c228_68 rfl ?_
  refine qe_laload c228_70 e21 e22 ?_
  refine qe_lcmp c228_71 ?_
  refine qe_if_ne_T (t := 79) c228_72 rfl e23 ?_
  exact kk
theorem b228_75 {d : Nat} {q : Option Value × qH} {h : qH} {r0 : Nat} {r1 : Nat} {x2 : Int32} {r3 : Nat} {r4 : Nat} {x5 : Int32} {x6 : Int32} {o7 : Option Value}   (kk : qE d 228 80 [some (.ref r0), some (.ref r1), some (.int x2), some (.ref r3), some (.ref r4), some (.int x5), some (.int x6), o7] [.int 1] h q): qE d 228 75 [some (.ref r0), some (.ref r1), some (.int x2), some (.ref r3), some (.ref r4), some (.int x5), some (.int x6), o7] [] h q := by
  refine qe_iconst (x := 1) c228_75 (by decide) ?_
  refine qe_goto (t := 80) c228_76 rfl ?_
  exact kk
theorem b228_79 {d : Nat} {q : Option Value × qH} {h : qH} {r0 : Nat} {r1 : Nat} {x2 : Int32} {r3 : Nat} {r4 : Nat} {x5 : Int32} {x6 : Int32} {o7 : Option Value}   (kk : qE d 228 80 [some (.ref r0), some (.ref r1), some (.int x2), some (.ref r3), some (.ref r4), some (.int x5), some (.int x6), o7] [.int 0] h q): qE d 228 79 [some (.ref r0), some (.ref r1), some (.int x2), some (.ref r3), some (.ref r4), some (.int x5), some (.int x6), o7] [] h q := by
  refine qe_iconst (x := 0) c228_79 (by decide) ?_
  exact kk
theorem b228_80F {d : Nat} {q : Option Value × qH} {h : qH} {r0 : Nat} {r1 : Nat} {x2 : Int32} {r3 : Nat} {r4 : Nat} {x5 : Int32} {x6 : Int32} {o7 : Option Value} {xs0 : Int32} {fs1 : List Value} {h1 : qH} {z3 : Int32}  (e2 : h.2.2 r0 = some (.inr (6, fs1))) (e4 : qCall d 230 [.ref r0, .ref r1, .int x2, .int x5] h ((some (.int z3)), h1)) (e5 : ¬ ((z3 : Int32) = 0)) (kk : qE d 228 93 [some (.ref r0), some (.ref r1), some (.int x2), some (.ref r3), some (.ref r4), some (.int x5), some (.int x6), some (.int xs0)] [] h1 q): qE d 228 80 [some (.ref r0), some (.ref r1), some (.int x2), some (.ref r3), some (.ref r4), some (.int x5), some (.int x6), o7] [.int xs0] h q := by
  refine qe_istore (ls2 := [some (.ref r0), some (.ref r1), some (.int x2), some (.ref r3), some (.ref r4), some (.int x5), some (.int x6), some (.int xs0)]) c228_80 (Nat.le_of_ble_eq_true rfl) rfl ?_
  refine qe_aload_n c228_82 rfl ?_
  refine qe_aload_n c228_83 rfl ?_
  refine qe_iload_n c228_84 rfl ?_
  refine qe_iload c228_85 rfl ?_
  refine qe_virtual (b := r0) (as := [.ref r1, .int x2, .int x5]) (r := []) (v := (some (.int z3))) (h2 := h1) c228_87 qo228 qK6_62 rfl rfl rfl (by rw [qo230]; exact e2) (Nat.le_of_ble_eq_true rfl) e4 ?_
  refine qe_if_eq_F (t := 100) c228_90 rfl e5 ?_
  exact kk
theorem b228_80T {d : Nat} {q : Option Value × qH} {h : qH} {r0 : Nat} {r1 : Nat} {x2 : Int32} {r3 : Nat} {r4 : Nat} {x5 : Int32} {x6 : Int32} {o7 : Option Value} {xs0 : Int32} {fs1 : List Value} {h1 : qH} {z3 : Int32}  (e2 : h.2.2 r0 = some (.inr (6, fs1))) (e4 : qCall d 230 [.ref r0, .ref r1, .int x2, .int x5] h ((some (.int z3)), h1)) (e5 : (z3 : Int32) = 0) (kk : qE d 228 100 [some (.ref r0), some (.ref r1), some (.int x2), some (.ref r3), some (.ref r4), some (.int x5), some (.int x6), some (.int xs0)] [] h1 q): qE d 228 80 [some (.ref r0), some (.ref r1), some (.int x2), some (.ref r3), some (.ref r4), some (.int x5), some (.int x6), o7] [.int xs0] h q := by
  refine qe_istore (ls2 := [some (.ref r0), some (.ref r1), some (.int x2), some (.ref r3), some (.ref r4), some (.int x5), some (.int x6), some (.int xs0)]) c228_80 (Nat.le_of_ble_eq_true rfl) rfl ?_
  refine qe_aload_n c228_82 rfl ?_
  refine qe_aload_n c228_83 rfl ?_
  refine qe_iload_n c228_84 rfl ?_
  refine qe_iload c228_85 rfl ?_
  refine qe_virtual (b := r0) (as := [.ref r1, .int x2, .int x5]) (r := []) (v := (some (.int z3))) (h2 := h1) c228_87 qo228 qK6_62 rfl rfl rfl (by rw [qo230]; exact e2) (Nat.le_of_ble_eq_true rfl) e4 ?_
  refine qe_if_eq_T (t := 100) c228_90 rfl e5 ?_
  exact kk
theorem b228_93F {d : Nat} {q : Option Value × qH} {h : qH} {r0 : Nat} {r1 : Nat} {x2 : Int32} {r3 : Nat} {r4 : Nat} {x5 : Int32} {x6 : Int32} {x7 : Int32}  (e1 : (x7 : Int32) = 0) (kk : qE d 228 98 [some (.ref r0), some (.ref r1), some (.int x2), some (.ref r3), some (.ref r4), some (.int x5), some (.int x6), some (.int x7)] [] h q): qE d 228 93 [some (.ref r0), some (.ref r1), some (.int x2), some (.ref r3), some (.ref r4), some (.int x5), some (.int x6), some (.int x7)] [] h q := by
  refine qe_iload c228_93 rfl ?_
  refine qe_if_ne_F (t := 100) c228_95 rfl e1 ?_
  exact kk
theorem b228_93T {d : Nat} {q : Option Value × qH} {h : qH} {r0 : Nat} {r1 : Nat} {x2 : Int32} {r3 : Nat} {r4 : Nat} {x5 : Int32} {x6 : Int32} {x7 : Int32}  (e1 : ¬ ((x7 : Int32) = 0)) (kk : qE d 228 100 [some (.ref r0), some (.ref r1), some (.int x2), some (.ref r3), some (.ref r4), some (.int x5), some (.int x6), some (.int x7)] [] h q): qE d 228 93 [some (.ref r0), some (.ref r1), some (.int x2), some (.ref r3), some (.ref r4), some (.int x5), some (.int x6), some (.int x7)] [] h q := by
  refine qe_iload c228_93 rfl ?_
  refine qe_if_ne_T (t := 100) c228_95 rfl e1 ?_
  exact kk
theorem b228_98 {d : Nat} {h : qH} {r0 : Nat} {r1 : Nat} {x2 : Int32} {r3 : Nat} {r4 : Nat} {x5 : Int32} {x6 : Int32} {x7 : Int32}   : qE d 228 98 [some (.ref r0), some (.ref r1), some (.int x2), some (.ref r3), some (.ref r4), some (.int x5), some (.int x6), some (.int x7)] [] h (some (.int 1), h) := by
  refine qe_iconst (x := 1) c228_98 (by decide) ?_
  exact qe_zret c228_99 qr228 (by decide)
theorem b228_100 {d : Nat} {q : Option Value × qH} {h : qH} {r0 : Nat} {r1 : Nat} {x2 : Int32} {r3 : Nat} {r4 : Nat} {x5 : Int32} {x6 : Int32} {x7 : Int32}   (kk : qE d 228 3 [some (.ref r0), some (.ref r1), some (.int x2), some (.ref r3), some (.ref r4), some (.int (x5 + 1)), some (.int x6), some (.int x7)] [] h q): qE d 228 100 [some (.ref r0), some (.ref r1), some (.int x2), some (.ref r3), some (.ref r4), some (.int x5), some (.int x6), some (.int x7)] [] h q := by
  refine qe_iinc (y := (x5 + 1)) (ls2 := [some (.ref r0), some (.ref r1), some (.int x2), some (.ref r3), some (.ref r4), some (.int (x5 + 1)), some (.int x6), some (.int x7)]) c228_100 rfl (Nat.le_of_ble_eq_true rfl) rfl rfl ?_
  refine qe_goto (t := 3) c228_103 rfl ?_
  exact kk
theorem b228_106 {d : Nat} {h : qH} {r0 : Nat} {r1 : Nat} {x2 : Int32} {r3 : Nat} {r4 : Nat} {x5 : Int32} {o6 : Option Value} {o7 : Option Value}   : qE d 228 106 [some (.ref r0), some (.ref r1), some (.int x2), some (.ref r3), some (.ref r4), some (.int x5), o6, o7] [] h (some (.int 0), h) := by
  refine qe_iconst (x := 0) c228_106 (by decide) ?_
  exact qe_zret c228_107 qr228 (by decide)
theorem b229_0 {d : Nat} {h : qH} {r0 : Nat} {h1 : qH} {fs2 : List Value} {h2 : qH} {h3 : qH} {n7 : Nat} {f8 : Nat → Int32} {h4 : qH} {n12 : Nat} {f13 : Nat → Int32} {h5 : qH} {n17 : Nat} {f18 : Nat → Int32} {h6 : qH} {n22 : Nat} {f23 : Nat → Int32} {h7 : qH} {fs27 : List Value} {h8 : qH} {h9 : qH} {n32 : Nat} {f33 : Nat → Int32} {h10 : qH} {n37 : Nat} {f38 : Nat → Int32} {h11 : qH} {n42 : Nat} {f43 : Nat → Int32} {h12 : qH} {n47 : Nat} {f48 : Nat → Int32} {h13 : qH} {fs52 : List Value} {h14 : qH} {h15 : qH} {fs57 : List Value} {h16 : qH} {h17 : qH} {fs62 : List Value} {h18 : qH} (hd0 : 0 < d) (e1 : qnew h 4 (.inl (1, 4, .inl fun _ => 0)) = h1) (e3 : h1.2.2 r0 = some (.inr (6, fs2))) (e4 : 0 < fs2.length) (e5 : qset h1 r0 (.inr (6, fs2.set 0 (.ref h.1))) = h2) (e6 : qnew h2 4 (.inl (0, 4, .inl fun _ => 0)) = h3) (e9 : h3.2.2 h2.1 = some (.inl (0, n7, .inl f8))) (e10 : 0 ≤ (0 : Int32).toInt ∧ (0 : Int32).toInt < (n7 : Nat)) (e11 : qset h3 h2.1 (.inl (0, n7, .inl (upd f8 ((0 : Int32).toNatClampNeg) ((-1))))) = h4) (e14 : h4.2.2 h2.1 = some (.inl (0, n12, .inl f13))) (e15 : 0 ≤ (1 : Int32).toInt ∧ (1 : Int32).toInt < (n12 : Nat)) (e16 : qset h4 h2.1 (.inl (0, n12, .inl (upd f13 ((1 : Int32).toNatClampNeg) ((-1))))) = h5) (e19 : h5.2.2 h2.1 = some (.inl (0, n17, .inl f18))) (e20 : 0 ≤ (2 : Int32).toInt ∧ (2 : Int32).toInt < (n17 : Nat)) (e21 : qset h5 h2.1 (.inl (0, n17, .inl (upd f18 ((2 : Int32).toNatClampNeg) ((-1))))) = h6) (e24 : h6.2.2 h2.1 = some (.inl (0, n22, .inl f23))) (e25 : 0 ≤ (3 : Int32).toInt ∧ (3 : Int32).toInt < (n22 : Nat)) (e26 : qset h6 h2.1 (.inl (0, n22, .inl (upd f23 ((3 : Int32).toNatClampNeg) ((-1))))) = h7) (e28 : h7.2.2 r0 = some (.inr (6, fs27))) (e29 : 1 < fs27.length) (e30 : qset h7 r0 (.inr (6, fs27.set 1 (.ref h2.1))) = h8) (e31 : qnew h8 4 (.inl (0, 4, .inl fun _ => 0)) = h9) (e34 : h9.2.2 h8.1 = some (.inl (0, n32, .inl f33))) (e35 : 0 ≤ (0 : Int32).toInt ∧ (0 : Int32).toInt < (n32 : Nat)) (e36 : qset h9 h8.1 (.inl (0, n32, .inl (upd f33 ((0 : Int32).toNatClampNeg) ((-1))))) = h10) (e39 : h10.2.2 h8.1 = some (.inl (0, n37, .inl f38))) (e40 : 0 ≤ (1 : Int32).toInt ∧ (1 : Int32).toInt < (n37 : Nat)) (e41 : qset h10 h8.1 (.inl (0, n37, .inl (upd f38 ((1 : Int32).toNatClampNeg) ((-1))))) = h11) (e44 : h11.2.2 h8.1 = some (.inl (0, n42, .inl f43))) (e45 : 0 ≤ (2 : Int32).toInt ∧ (2 : Int32).toInt < (n42 : Nat)) (e46 : qset h11 h8.1 (.inl (0, n42, .inl (upd f43 ((2 : Int32).toNatClampNeg) ((-1))))) = h12) (e49 : h12.2.2 h8.1 = some (.inl (0, n47, .inl f48))) (e50 : 0 ≤ (3 : Int32).toInt ∧ (3 : Int32).toInt < (n47 : Nat)) (e51 : qset h12 h8.1 (.inl (0, n47, .inl (upd f48 ((3 : Int32).toNatClampNeg) ((-1))))) = h13) (e53 : h13.2.2 r0 = some (.inr (6, fs52))) (e54 : 2 < fs52.length) (e55 : qset h13 r0 (.inr (6, fs52.set 2 (.ref h8.1))) = h14) (e56 : qnew h14 4 (.inl (0, 4, .inl fun _ => 0)) = h15) (e58 : h15.2.2 r0 = some (.inr (6, fs57))) (e59 : 3 < fs57.length) (e60 : qset h15 r0 (.inr (6, fs57.set 3 (.ref h14.1))) = h16) (e61 : qmul h16 7 4 14 = h17) (e63 : h17.2.2 r0 = some (.inr (6, fs62))) (e64 : 4 < fs62.length) (e65 : qset h17 r0 (.inr (6, fs62.set 4 (.ref h16.1))) = h18) : qE d 229 0 [some (.ref r0)] [] h (none, h18) := by
  refine qe_aload_n c229_0 rfl ?_
  refine qe_objinit c229_1 qo229 (by decide +kernel) (by decide) hd0 (Nat.le_of_ble_eq_true rfl) ?_
  refine qe_aload_n c229_4 rfl ?_
  refine qe_iconst (x := 4) c229_5 (by decide) ?_
  refine qe_new_boolean c229_6 (by decide) ?_
  rw [show Int32.toNatClampNeg 4 = 4 from by decide]
  rw [e1]
  refine qe_putfinal c229_8 qo229 qF6_9 (by decide +kernel) e3 e4 (by rw [qy6_0]; rfl) ?_
  rw [e5]
  refine qe_aload_n c229_11 rfl ?_
  refine qe_iconst (x := 4) c229_12 (by decide) ?_
  refine qe_new_int c229_13 (by decide) ?_
  rw [show Int32.toNatClampNeg 4 = 4 from by decide]
  rw [e6]
  refine qe_dup c229_15 rfl ?_
  refine qe_iconst (x := 0) c229_16 (by decide) ?_
  refine qe_iconst (x := (-1)) c229_17 (by decide) ?_
  refine qe_iastore c229_18 e9 e10 ?_
  rw [e11]
  refine qe_dup c229_19 rfl ?_
  refine qe_iconst (x := 1) c229_20 (by decide) ?_
  refine qe_iconst (x := (-1)) c229_21 (by decide) ?_
  refine qe_iastore c229_22 e14 e15 ?_
  rw [e16]
  refine qe_dup c229_23 rfl ?_
  refine qe_iconst (x := 2) c229_24 (by decide) ?_
  refine qe_iconst (x := (-1)) c229_25 (by decide) ?_
  refine qe_iastore c229_26 e19 e20 ?_
  rw [e21]
  refine qe_dup c229_27 rfl ?_
  refine qe_iconst (x := 3) c229_28 (by decide) ?_
  refine qe_iconst (x := (-1)) c229_29 (by decide) ?_
  refine qe_iastore c229_30 e24 e25 ?_
  rw [e26]
  refine qe_putfinal c229_31 qo229 qF6_15 (by decide +kernel) e28 e29 (by rw [qy6_1]; rfl) ?_
  rw [e30]
  refine qe_aload_n c229_34 rfl ?_
  refine qe_iconst (x := 4) c229_35 (by decide) ?_
  refine qe_new_int c229_36 (by decide) ?_
  rw [show Int32.toNatClampNeg 4 = 4 from by decide]
  rw [e31]
  refine qe_dup c229_38 rfl ?_
  refine qe_iconst (x := 0) c229_39 (by decide) ?_
  refine qe_iconst (x := (-1)) c229_40 (by decide) ?_
  refine qe_iastore c229_41 e34 e35 ?_
  rw [e36]
  refine qe_dup c229_42 rfl ?_
  refine qe_iconst (x := 1) c229_43 (by decide) ?_
  refine qe_iconst (x := (-1)) c229_44 (by decide) ?_
  refine qe_iastore c229_45 e39 e40 ?_
  rw [e41]
  refine qe_dup c229_46 rfl ?_
  refine qe_iconst (x := 2) c229_47 (by decide) ?_
  refine qe_iconst (x := (-1)) c229_48 (by decide) ?_
  refine qe_iastore c229_49 e44 e45 ?_
  rw [e46]
  refine qe_dup c229_50 rfl ?_
  refine qe_iconst (x := 3) c229_51 (by decide) ?_
  refine qe_iconst (x := (-1)) c229_52 (by decide) ?_
  refine qe_iastore c229_53 e49 e50 ?_
  rw [e51]
  refine qe_putfinal c229_54 qo229 qF6_19 (by decide +kernel) e53 e54 (by rw [qy6_2]; rfl) ?_
  rw [e55]
  refine qe_aload_n c229_57 rfl ?_
  refine qe_iconst (x := 4) c229_58 (by decide) ?_
  refine qe_new_int c229_59 (by decide) ?_
  rw [show Int32.toNatClampNeg 4 = 4 from by decide]
  rw [e56]
  refine qe_putfinal c229_61 qo229 qF6_22 (by decide +kernel) e58 e59 (by rw [qy6_3]; rfl) ?_
  rw [e60]
  refine qe_aload_n c229_64 rfl ?_
  refine qe_iconst (x := 4) c229_65 (by decide) ?_
  refine qe_bipush (x := 14) c229_66 (by decide) ?_
  refine qe_multiL c229_68 (by rw [qo229]; decide) (by rw [qo229]; decide) (by decide) ?_
  rw [show Int32.toNatClampNeg 4 = 4 from by decide, show Int32.toNatClampNeg 14 = 14 from by decide]
  rw [e61]
  refine qe_putfinal c229_72 qo229 qF6_27 (by decide +kernel) e63 e64 (by rw [qy6_4]; rfl) ?_
  rw [e65]
  exact qe_vret c229_75 qr229
theorem b230_0F {d : Nat} {q : Option Value × qH} {h : qH} {r0 : Nat} {r1 : Nat} {x2 : Int32} {x3 : Int32} {fs1 : List Value} {y3 : Nat} {n5 : Nat} {f6 : Nat → Int32}  (e2 : h.2.2 r0 = some (.inr (6, fs1))) (e4 : fs1[1]? = some (.ref y3)) (e7 : h.2.2 y3 = some (.inl (0, n5, .inl f6))) (e8 : 0 ≤ (x2 : Int32).toInt ∧ (x2 : Int32).toInt < (n5 : Nat)) (e9 : ¬ (((f6 (x2 : Int32).toNatClampNeg) : Int32) = (-1))) (kk : qE d 230 10 [some (.ref r0), some (.ref r1), some (.int x2), some (.int x3)] [] h q): qE d 230 0 [some (.ref r0), some (.ref r1), some (.int x2), some (.int x3)] [] h q := by
  refine qe_aload_n c230_0 rfl ?_
  refine qe_getfield c230_1 qo230 qF6_15 e2 e4 ?_
  refine qe_iload_n c230_4 rfl ?_
  refine qe_iaload c230_5 e7 e8 ?_
  refine qe_iconst (x := (-1)) c230_6 (by decide) ?_
  refine qe_icmp_eq_F (t := 23) c230_7 rfl e9 ?_
  exact kk
theorem b230_0T {d : Nat} {q : Option Value × qH} {h : qH} {r0 : Nat} {r1 : Nat} {x2 : Int32} {x3 : Int32} {fs1 : List Value} {y3 : Nat} {n5 : Nat} {f6 : Nat → Int32}  (e2 : h.2.2 r0 = some (.inr (6, fs1))) (e4 : fs1[1]? = some (.ref y3)) (e7 : h.2.2 y3 = some (.inl (0, n5, .inl f6))) (e8 : 0 ≤ (x2 : Int32).toInt ∧ (x2 : Int32).toInt < (n5 : Nat)) (e9 : ((f6 (x2 : Int32).toNatClampNeg) : Int32) = (-1)) (kk : qE d 230 23 [some (.ref r0), some (.ref r1), some (.int x2), some (.int x3)] [] h q): qE d 230 0 [some (.ref r0), some (.ref r1), some (.int x2), some (.int x3)] [] h q := by
  refine qe_aload_n c230_0 rfl ?_
  refine qe_getfield c230_1 qo230 qF6_15 e2 e4 ?_
  refine qe_iload_n c230_4 rfl ?_
  refine qe_iaload c230_5 e7 e8 ?_
  refine qe_iconst (x := (-1)) c230_6 (by decide) ?_
  refine qe_icmp_eq_T (t := 23) c230_7 rfl e9 ?_
  exact kk
theorem b230_10F {d : Nat} {q : Option Value × qH} {h : qH} {r0 : Nat} {r1 : Nat} {x2 : Int32} {x3 : Int32} {fs1 : List Value} {h1 : qH} {z3 : Int32}  (e2 : h.2.2 r1 = some (.inr (4, fs1))) (e4 : qCall d 218 [.ref r1, .int x3, .int x2] h ((some (.int z3)), h1)) (e5 : ¬ ((z3 : Int32) = 0)) (kk : qE d 230 19 [some (.ref r0), some (.ref r1), some (.int x2), some (.int x3)] [] h1 q): qE d 230 10 [some (.ref r0), some (.ref r1), some (.int x2), some (.int x3)] [] h q := by
  refine qe_aload_n c230_10 rfl ?_
  refine qe_iload_n c230_11 rfl ?_
  refine qe_iload_n c230_12 rfl ?_
  refine qe_virtual (b := r1) (as := [.int x3, .int x2]) (r := []) (v := (some (.int z3))) (h2 := h1) c230_13 qo230 qK6_30 rfl rfl rfl (by rw [qo218]; exact e2) (Nat.le_of_ble_eq_true rfl) e4 ?_
  refine qe_if_eq_F (t := 23) c230_16 rfl e5 ?_
  exact kk
theorem b230_10T {d : Nat} {q : Option Value × qH} {h : qH} {r0 : Nat} {r1 : Nat} {x2 : Int32} {x3 : Int32} {fs1 : List Value} {h1 : qH} {z3 : Int32}  (e2 : h.2.2 r1 = some (.inr (4, fs1))) (e4 : qCall d 218 [.ref r1, .int x3, .int x2] h ((some (.int z3)), h1)) (e5 : (z3 : Int32) = 0) (kk : qE d 230 23 [some (.ref r0), some (.ref r1), some (.int x2), some (.int x3)] [] h1 q): qE d 230 10 [some (.ref r0), some (.ref r1), some (.int x2), some (.int x3)] [] h q := by
  refine qe_aload_n c230_10 rfl ?_
  refine qe_iload_n c230_11 rfl ?_
  refine qe_iload_n c230_12 rfl ?_
  refine qe_virtual (b := r1) (as := [.int x3, .int x2]) (r := []) (v := (some (.int z3))) (h2 := h1) c230_13 qo230 qK6_30 rfl rfl rfl (by rw [qo218]; exact e2) (Nat.le_of_ble_eq_true rfl) e4 ?_
  refine qe_if_eq_T (t := 23) c230_16 rfl e5 ?_
  exact kk
theorem b230_19 {d : Nat} {q : Option Value × qH} {h : qH} {r0 : Nat} {r1 : Nat} {x2 : Int32} {x3 : Int32}   (kk : qE d 230 24 [some (.ref r0), some (.ref r1), some (.int x2), some (.int x3)] [.int 1] h q): qE d 230 19 [some (.ref r0), some (.ref r1), some (.int x2), some (.int x3)] [] h q := by
  refine qe_iconst (x := 1) c230_19 (by decide) ?_
  refine qe_goto (t := 24) c230_20 rfl ?_
  exact kk
theorem b230_23 {d : Nat} {q : Option Value × qH} {h : qH} {r0 : Nat} {r1 : Nat} {x2 : Int32} {x3 : Int32}   (kk : qE d 230 24 [some (.ref r0), some (.ref r1), some (.int x2), some (.int x3)] [.int 0] h q): qE d 230 23 [some (.ref r0), some (.ref r1), some (.int x2), some (.int x3)] [] h q := by
  refine qe_iconst (x := 0) c230_23 (by decide) ?_
  exact kk
theorem b230_24 {d : Nat} {h : qH} {r0 : Nat} {r1 : Nat} {x2 : Int32} {x3 : Int32} {xs0 : Int32}  (e1 : (xs0 : Int32) = 0 ∨ (xs0 : Int32) = 1) : qE d 230 24 [some (.ref r0), some (.ref r1), some (.int x2), some (.int x3)] [.int xs0] h (some (.int xs0), h) := by
  exact qe_zret c230_24 qr230 e1
theorem b231_0 {d : Nat} {q : Option Value × qH} {h : qH} {r0 : Nat} {r1 : Nat} {x2 : Int32} {r3 : Nat} {r4 : Nat} {fs1 : List Value} {y3 : Nat} {fs5 : List Value} {y7 : Int32} {n9 : Nat} {f10 : Nat → Int32} {h1 : qH} {fs14 : List Value} {y16 : Nat} {n18 : Nat} {f19 : Nat → Int32} {h2 : qH}  (e2 : h.2.2 r0 = some (.inr (6, fs1))) (e4 : fs1[1]? = some (.ref y3)) (e6 : h.2.2 r3 = some (.inr (8, fs5))) (e8 : fs5[0]? = some (.int y7)) (e11 : h.2.2 y3 = some (.inl (0, n9, .inl f10))) (e12 : 0 ≤ (x2 : Int32).toInt ∧ (x2 : Int32).toInt < (n9 : Nat)) (e13 : qset h y3 (.inl (0, n9, .inl (upd f10 ((x2 : Int32).toNatClampNeg) y7))) = h1) (e15 : h1.2.2 r0 = some (.inr (6, fs14))) (e17 : fs14[3]? = some (.ref y16)) (e20 : h1.2.2 y16 = some (.inl (0, n18, .inl f19))) (e21 : 0 ≤ (x2 : Int32).toInt ∧ (x2 : Int32).toInt < (n18 : Nat)) (e22 : qset h1 y16 (.inl (0, n18, .inl (upd f19 ((x2 : Int32).toNatClampNeg) 0))) = h2) (kk : qE d 231 20 [some (.ref r0), some (.ref r1), some (.int x2), some (.ref r3), some (.ref r4), some (.int 0)] [] h2 q): qE d 231 0 [some (.ref r0), some (.ref r1), some (.int x2), some (.ref r3), some (.ref r4), none] [] h q := by
  refine qe_aload_n c231_0 rfl ?_
  refine qe_getfield c231_1 qo231 qF6_15 e2 e4 ?_
  refine qe_iload_n c231_4 rfl ?_
  refine qe_aload_n c231_5 rfl ?_
  refine qe_getfield c231_6 qo231 qF6_44 e6 e8 ?_
  refine qe_iastore c231_9 e11 e12 ?_
  rw [e13]
  refine qe_aload_n c231_10 rfl ?_
  refine qe_getfield c231_11 qo231 qF6_22 e15 e17 ?_
  refine qe_iload_n c231_14 rfl ?_
  refine qe_iconst (x := 0) c231_15 (by decide) ?_
  refine qe_iastore c231_16 e20 e21 ?_
  rw [e22]
  refine qe_iconst (x := 0) c231_17 (by decide) ?_
  refine qe_istore (ls2 := [some (.ref r0), some (.ref r1), some (.int x2), some (.ref r3), some (.ref r4), some (.int 0)]) c231_18 (Nat.le_of_ble_eq_true rfl) rfl ?_
  exact kk
theorem b231_20F {d : Nat} {q : Option Value × qH} {h : qH} {r0 : Nat} {r1 : Nat} {x2 : Int32} {r3 : Nat} {r4 : Nat} {x5 : Int32} {fs1 : List Value} {y3 : Int32}  (e2 : h.2.2 r1 = some (.inr (4, fs1))) (e4 : fs1[1]? = some (.int y3)) (e5 : ¬ ((y3 : Int32) ≤ x5)) (kk : qE d 231 29 [some (.ref r0), some (.ref r1), some (.int x2), some (.ref r3), some (.ref r4), some (.int x5)] [] h q): qE d 231 20 [some (.ref r0), some (.ref r1), some (.int x2), some (.ref r3), some (.ref r4), some (.int x5)] [] h q := by
  refine qe_iload c231_20 rfl ?_
  refine qe_aload_n c231_22 rfl ?_
  refine qe_getfield c231_23 qo231 qF6_50 e2 e4 ?_
  refine qe_icmp_ge_F (t := 79) c231_26 rfl e5 ?_
  exact kk
theorem b231_20T {d : Nat} {q : Option Value × qH} {h : qH} {r0 : Nat} {r1 : Nat} {x2 : Int32} {r3 : Nat} {r4 : Nat} {x5 : Int32} {fs1 : List Value} {y3 : Int32}  (e2 : h.2.2 r1 = some (.inr (4, fs1))) (e4 : fs1[1]? = some (.int y3)) (e5 : (y3 : Int32) ≤ x5) (kk : qE d 231 79 [some (.ref r0), some (.ref r1), some (.int x2), some (.ref r3), some (.ref r4), some (.int x5)] [] h q): qE d 231 20 [some (.ref r0), some (.ref r1), some (.int x2), some (.ref r3), some (.ref r4), some (.int x5)] [] h q := by
  refine qe_iload c231_20 rfl ?_
  refine qe_aload_n c231_22 rfl ?_
  refine qe_getfield c231_23 qo231 qF6_50 e2 e4 ?_
  refine qe_icmp_ge_T (t := 79) c231_26 rfl e5 ?_
  exact kk
theorem b231_29F {d : Nat} {q : Option Value × qH} {h : qH} {r0 : Nat} {r1 : Nat} {x2 : Int32} {r3 : Nat} {r4 : Nat} {x5 : Int32} {fs1 : List Value} {y3 : Nat} {n5 : Nat} {f6 : Nat → Int32} {fs9 : List Value} {y11 : Nat} {n13 : Nat} {f14 : Nat → Int32}  (e2 : h.2.2 r0 = some (.inr (6, fs1))) (e4 : fs1[3]? = some (.ref y3)) (e7 : h.2.2 y3 = some (.inl (0, n5, .inl f6))) (e8 : 0 ≤ (x2 : Int32).toInt ∧ (x2 : Int32).toInt < (n5 : Nat)) (e10 : h.2.2 r3 = some (.inr (8, fs9))) (e12 : fs9[5]? = some (.ref y11)) (e15 : h.2.2 y11 = some (.inl (0, n13, .inl f14))) (e16 : 0 ≤ (x5 : Int32).toInt ∧ (x5 : Int32).toInt < (n13 : Nat)) (e17 : ((f14 (x5 : Int32).toNatClampNeg) : Int32) = 0) (kk : qE d 231 46 [some (.ref r0), some (.ref r1), some (.int x2), some (.ref r3), some (.ref r4), some (.int x5)] [.int (f6 (x2 : Int32).toNatClampNeg), .int x2, .ref y3] h q): qE d 231 29 [some (.ref r0), some (.ref r1), some (.int x2), some (.ref r3), some (.ref r4), some (.int x5)] [] h q := by
  refine qe_aload_n c231_29 rfl ?_
  refine qe_getfield c231_30 qo231 qF6_22 e2 e4 ?_
  refine qe_iload_n c231_33 rfl ?_
  refine qe_dup2 c231_34 (Nat.ne_of_beq_eq_false rfl) rfl ?_
  refine qe_iaload c231_35 e7 e8 ?_
  refine qe_aload_n c231_36 rfl ?_
  refine qe_getfield c231_37 qo231 qF6_53 e10 e12 ?_
  refine qe_iload c231_40 rfl ?_
  refine qe_iaload c231_42 e15 e16 ?_
  refine qe_if_ne_F (t := 53) c231_43 rfl e17 ?_
  exact kk
theorem b231_29T {d : Nat} {q : Option Value × qH} {h : qH} {r0 : Nat} {r1 : Nat} {x2 : Int32} {r3 : Nat} {r4 : Nat} {x5 : Int32} {fs1 : List Value} {y3 : Nat} {n5 : Nat} {f6 : Nat → Int32} {fs9 : List Value} {y11 : Nat} {n13 : Nat} {f14 : Nat → Int32}  (e2 : h.2.2 r0 = some (.inr (6, fs1))) (e4 : fs1[3]? = some (.ref y3)) (e7 : h.2.2 y3 = some (.inl (0, n5, .inl f6))) (e8 : 0 ≤ (x2 : Int32).toInt ∧ (x2 : Int32).toInt < (n5 : Nat)) (e10 : h.2.2 r3 = some (.inr (8, fs9))) (e12 : fs9[5]? = some (.ref y11)) (e15 : h.2.2 y11 = some (.inl (0, n13, .inl f14))) (e16 : 0 ≤ (x5 : Int32).toInt ∧ (x5 : Int32).toInt < (n13 : Nat)) (e17 : ¬ (((f14 (x5 : Int32).toNatClampNeg) : Int32) = 0)) (kk : qE d 231 53 [some (.ref r0), some (.ref r1), some (.int x2), some (.ref r3), some (.ref r4), some (.int x5)] [.int (f6 (x2 : Int32).toNatClampNeg), .int x2, .ref y3] h q): qE d 231 29 [some (.ref r0), some (.ref r1), some (.int x2), some (.ref r3), some (.ref r4), some (.int x5)] [] h q := by
  refine qe_aload_n c231_29 rfl ?_
  refine qe_getfield c231_30 qo231 qF6_22 e2 e4 ?_
  refine qe_iload_n c231_33 rfl ?_
  refine qe_dup2 c231_34 (Nat.ne_of_beq_eq_false rfl) rfl ?_
  refine qe_iaload c231_35 e7 e8 ?_
  refine qe_aload_n c231_36 rfl ?_
  refine qe_getfield c231_37 qo231 qF6_53 e10 e12 ?_
  refine qe_iload c231_40 rfl ?_
  refine qe_iaload c231_42 e15 e16 ?_
  refine qe_if_ne_T (t := 53) c231_43 rfl e17 ?_
  exact kk
theorem b231_46 {d : Nat} {q : Option Value × qH} {h : qH} {r0 : Nat} {r1 : Nat} {x2 : Int32} {r3 : Nat} {r4 : Nat} {x5 : Int32} {rs0 : Nat} {xs1 : Int32} {xs2 : Int32}   (kk : qE d 231 54 [some (.ref r0), some (.ref r1), some (.int x2), some (.ref r3), some (.ref r4), some (.int x5)] [.int (1 <<< (x5 &&& 31)), .int xs2, .int xs1, .ref rs0] h q): qE d 231 46 [some (.ref r0), some (.ref r1), some (.int x2), some (.ref r3), some (.ref r4), some (.int x5)] [.int xs2, .int xs1, .ref rs0] h q := by
  refine qe_iconst (x := 1) c231_46 (by decide) ?_
  refine qe_iload c231_47 rfl ?_
  refine qe_ishl c231_49 ?_
  refine qe_goto (t := 54) c231_50 rfl ?_
  exact kk
theorem b231_53 {d : Nat} {q : Option Value × qH} {h : qH} {r0 : Nat} {r1 : Nat} {x2 : Int32} {r3 : Nat} {r4 : Nat} {x5 : Int32} {rs0 : Nat} {xs1 : Int32} {xs2 : Int32}   (kk : qE d 231 54 [some (.ref r0), some (.ref r1), some (.int x2), some (.ref r3), some (.ref r4), some (.int x5)] [.int 0, .int xs2, .int xs1, .ref rs0] h q): qE d 231 53 [some (.ref r0), some (.ref r1), some (.int x2), some (.ref r3), some (.ref r4), some (.int x5)] [.int xs2, .int xs1, .ref rs0] h q := by
  refine qe_iconst (x := 0) c231_53 (by decide) ?_
  exact kk
theorem b231_54 {d : Nat} {q : Option Value × qH} {h : qH} {r0 : Nat} {r1 : Nat} {x2 : Int32} {r3 : Nat} {r4 : Nat} {x5 : Int32} {rs0 : Nat} {xs1 : Int32} {xs2 : Int32} {xs3 : Int32} {n1 : Nat} {f2 : Nat → Int32} {h1 : qH} {fs6 : List Value} {y8 : Nat} {n10 : Nat} {f11 : Nat → Option Nat} {r14 : Nat} {fs16 : List Value} {y18 : Nat} {n20 : Nat} {f21 : Nat → Int64} {n24 : Nat} {f25 : Nat → Int64} {h2 : qH}  (e3 : h.2.2 rs0 = some (.inl (0, n1, .inl f2))) (e4 : 0 ≤ (xs1 : Int32).toInt ∧ (xs1 : Int32).toInt < (n1 : Nat)) (e5 : qset h rs0 (.inl (0, n1, .inl (upd f2 ((xs1 : Int32).toNatClampNeg) ((xs2 ||| xs3))))) = h1) (e7 : h1.2.2 r0 = some (.inr (6, fs6))) (e9 : fs6[4]? = some (.ref y8)) (e12 : h1.2.2 y8 = some (.inl (7, n10, .inr (.inr (.inr (.inr f11)))))) (e13 : 0 ≤ (x2 : Int32).toInt ∧ (x2 : Int32).toInt < (n10 : Nat)) (e15 : (f11 (x2 : Int32).toNatClampNeg) = some r14) (e17 : h1.2.2 r4 = some (.inr (7, fs16))) (e19 : fs16[7]? = some (.ref y18)) (e22 : h1.2.2 y18 = some (.inl (2, n20, .inr (.inl f21)))) (e23 : 0 ≤ (x5 : Int32).toInt ∧ (x5 : Int32).toInt < (n20 : Nat)) (e26 : h1.2.2 r14 = some (.inl (2, n24, .inr (.inl f25)))) (e27 : 0 ≤ (x5 : Int32).toInt ∧ (x5 : Int32).toInt < (n24 : Nat)) (e28 : qset h1 r14 (.inl (2, n24, .inr (.inl (vp_updL f25 ((x5 : Int32).toNatClampNeg) ((f21 (x5 : Int32).toNatClampNeg)))))) = h2) (kk : qE d 231 20 [some (.ref r0), some (.ref r1), some (.int x2), some (.ref r3), some (.ref r4), some (.int (x5 + 1))] [] h2 q): qE d 231 54 [some (.ref r0), some (.ref r1), some (.int x2), some (.ref r3), some (.ref r4), some (.int x5)] [.int xs3, .int xs2, .int xs1, .ref rs0] h q := by
  refine qe_ior c231_54 ?_
  refine qe_iastore c231_55 e3 e4 ?_
  rw [e5]
  refine qe_aload_n c231_56 rfl ?_
  refine qe_getfield c231_57 qo231 qF6_27 e7 e9 ?_
  refine qe_iload_n c231_60 rfl ?_
  refine qe_aaload c231_61 e12 e13 (Or.inr (Or.inr rfl)) e15 ?_
  refine qe_iload c231_62 rfl ?_
  refine qe_aload c231_64 rfl ?_
  refine qe_getfield c231_66 qo231 qF6_56 e17 e19 ?_
  refine qe_iload c231_69 rfl ?_
  refine qe_laload c231_71 e22 e23 ?_
  refine qe_lastore c231_72 e26 e27 ?_
  rw [e28]
  refine qe_iinc (y := (x5 + 1)) (ls2 := [some (.ref r0), some (.ref r1), some (.int x2), some (.ref r3), some (.ref r4), some (.int (x5 + 1))]) c231_73 rfl (Nat.le_of_ble_eq_true rfl) rfl rfl ?_
  refine qe_goto (t := 20) c231_76 rfl ?_
  exact kk
theorem b231_79 {d : Nat} {h : qH} {r0 : Nat} {r1 : Nat} {x2 : Int32} {r3 : Nat} {r4 : Nat} {x5 : Int32}   : qE d 231 79 [some (.ref r0), some (.ref r1), some (.int x2), some (.ref r3), some (.ref r4), some (.int x5)] [] h (none, h) := by
  exact qe_vret c231_79 qr231
theorem b232_0 {d : Nat} {q : Option Value × qH} {h : qH} {r0 : Nat} {r1 : Nat} {r2 : Nat} {r3 : Nat}   (kk : qE d 232 3 [some (.ref r0), some (.ref r1), some (.ref r2), some (.ref r3), some (.int 0)] [] h q): qE d 232 0 [some (.ref r0), some (.ref r1), some (.ref r2), some (.ref r3), none] [] h q := by
  refine qe_iconst (x := 0) c232_0 (by decide) ?_
  refine qe_istore (ls2 := [some (.ref r0), some (.ref r1), some (.ref r2), some (.ref r3), some (.int 0)]) c232_1 (Nat.le_of_ble_eq_true rfl) rfl ?_
  exact kk
theorem b232_3F {d : Nat} {q : Option Value × qH} {h : qH} {r0 : Nat} {r1 : Nat} {r2 : Nat} {r3 : Nat} {x4 : Int32}  (e1 : ¬ ((4 : Int32) ≤ x4)) (kk : qE d 232 9 [some (.ref r0), some (.ref r1), some (.ref r2), some (.ref r3), some (.int x4)] [] h q): qE d 232 3 [some (.ref r0), some (.ref r1), some (.ref r2), some (.ref r3), some (.int x4)] [] h q := by
  refine qe_iload c232_3 rfl ?_
  refine qe_iconst (x := 4) c232_5 (by decide) ?_
  refine qe_icmp_ge_F (t := 71) c232_6 rfl e1 ?_
  exact kk
theorem b232_3T {d : Nat} {q : Option Value × qH} {h : qH} {r0 : Nat} {r1 : Nat} {r2 : Nat} {r3 : Nat} {x4 : Int32}  (e1 : (4 : Int32) ≤ x4) (kk : qE d 232 71 [some (.ref r0), some (.ref r1), some (.ref r2), some (.ref r3), some (.int x4)] [] h q): qE d 232 3 [some (.ref r0), some (.ref r1), some (.ref r2), some (.ref r3), some (.int x4)] [] h q := by
  refine qe_iload c232_3 rfl ?_
  refine qe_iconst (x := 4) c232_5 (by decide) ?_
  refine qe_icmp_ge_T (t := 71) c232_6 rfl e1 ?_
  exact kk
theorem b232_9F {d : Nat} {q : Option Value × qH} {h : qH} {r0 : Nat} {r1 : Nat} {r2 : Nat} {r3 : Nat} {x4 : Int32} {fs1 : List Value} {y3 : Nat} {n5 : Nat} {f6 : Nat → Int32}  (e2 : h.2.2 r0 = some (.inr (6, fs1))) (e4 : fs1[0]? = some (.ref y3)) (e7 : h.2.2 y3 = some (.inl (1, n5, .inl f6))) (e8 : 0 ≤ (x4 : Int32).toInt ∧ (x4 : Int32).toInt < (n5 : Nat)) (e9 : ((f6 (x4 : Int32).toNatClampNeg) : Int32) = 0) (kk : qE d 232 19 [some (.ref r0), some (.ref r1), some (.ref r2), some (.ref r3), some (.int x4)] [] h q): qE d 232 9 [some (.ref r0), some (.ref r1), some (.ref r2), some (.ref r3), some (.int x4)] [] h q := by
  refine qe_aload_n c232_9 rfl ?_
  refine qe_getfield c232_10 qo232 qF6_9 e2 e4 ?_
  refine qe_iload c232_13 rfl ?_
  refine qe_zaload c232_15 e7 e8 ?_
  refine qe_if_ne_F (t := 31) c232_16 rfl e9 ?_
  exact kk
theorem b232_9T {d : Nat} {q : Option Value × qH} {h : qH} {r0 : Nat} {r1 : Nat} {r2 : Nat} {r3 : Nat} {x4 : Int32} {fs1 : List Value} {y3 : Nat} {n5 : Nat} {f6 : Nat → Int32}  (e2 : h.2.2 r0 = some (.inr (6, fs1))) (e4 : fs1[0]? = some (.ref y3)) (e7 : h.2.2 y3 = some (.inl (1, n5, .inl f6))) (e8 : 0 ≤ (x4 : Int32).toInt ∧ (x4 : Int32).toInt < (n5 : Nat)) (e9 : ¬ (((f6 (x4 : Int32).toNatClampNeg) : Int32) = 0)) (kk : qE d 232 31 [some (.ref r0), some (.ref r1), some (.ref r2), some (.ref r3), some (.int x4)] [] h q): qE d 232 9 [some (.ref r0), some (.ref r1), some (.ref r2), some (.ref r3), some (.int x4)] [] h q := by
  refine qe_aload_n c232_9 rfl ?_
  refine qe_getfield c232_10 qo232 qF6_9 e2 e4 ?_
  refine qe_iload c232_13 rfl ?_
  refine qe_zaload c232_15 e7 e8 ?_
  refine qe_if_ne_T (t := 31) c232_16 rfl e9 ?_
  exact kk
theorem b232_19 {d : Nat} {q : Option Value × qH} {h : qH} {r0 : Nat} {r1 : Nat} {r2 : Nat} {r3 : Nat} {x4 : Int32} {fs1 : List Value} {h1 : qH}  (e2 : h.2.2 r0 = some (.inr (6, fs1))) (e3 : qCall d 231 [.ref r0, .ref r1, .int x4, .ref r2, .ref r3] h (none, h1)) (kk : qE d 232 65 [some (.ref r0), some (.ref r1), some (.ref r2), some (.ref r3), some (.int x4)] [] h1 q): qE d 232 19 [some (.ref r0), some (.ref r1), some (.ref r2), some (.ref r3), some (.int x4)] [] h q := by
  refine qe_aload_n c232_19 rfl ?_
  refine qe_aload_n c232_20 rfl ?_
  refine qe_iload c232_21 rfl ?_
  refine qe_aload_n c232_23 rfl ?_
  refine qe_aload_n c232_24 rfl ?_
  refine qe_virtual (b := r0) (as := [.ref r1, .int x4, .ref r2, .ref r3]) (r := []) (v := none) (h2 := h1) c232_25 qo232 qK6_36 rfl rfl rfl (by rw [qo231]; exact e2) (Nat.le_of_ble_eq_true rfl) e3 ?_
  refine qe_goto (t := 65) c232_28 rfl ?_
  exact kk
theorem b232_31F {d : Nat} {q : Option Value × qH} {h : qH} {r0 : Nat} {r1 : Nat} {r2 : Nat} {r3 : Nat} {x4 : Int32} {fs1 : List Value} {y3 : Nat} {n5 : Nat} {f6 : Nat → Int32}  (e2 : h.2.2 r0 = some (.inr (6, fs1))) (e4 : fs1[2]? = some (.ref y3)) (e7 : h.2.2 y3 = some (.inl (0, n5, .inl f6))) (e8 : 0 ≤ (x4 : Int32).toInt ∧ (x4 : Int32).toInt < (n5 : Nat)) (e9 : ((f6 (x4 : Int32).toNatClampNeg) : Int32) = (-1)) (kk : qE d 232 42 [some (.ref r0), some (.ref r1), some (.ref r2), some (.ref r3), some (.int x4)] [] h q): qE d 232 31 [some (.ref r0), some (.ref r1), some (.ref r2), some (.ref r3), some (.int x4)] [] h q := by
  refine qe_aload_n c232_31 rfl ?_
  refine qe_getfield c232_32 qo232 qF6_19 e2 e4 ?_
  refine qe_iload c232_35 rfl ?_
  refine qe_iaload c232_37 e7 e8 ?_
  refine qe_iconst (x := (-1)) c232_38 (by decide) ?_
  refine qe_icmp_ne_F (t := 65) c232_39 rfl e9 ?_
  exact kk
theorem b232_31T {d : Nat} {q : Option Value × qH} {h : qH} {r0 : Nat} {r1 : Nat} {r2 : Nat} {r3 : Nat} {x4 : Int32} {fs1 : List Value} {y3 : Nat} {n5 : Nat} {f6 : Nat → Int32}  (e2 : h.2.2 r0 = some (.inr (6, fs1))) (e4 : fs1[2]? = some (.ref y3)) (e7 : h.2.2 y3 = some (.inl (0, n5, .inl f6))) (e8 : 0 ≤ (x4 : Int32).toInt ∧ (x4 : Int32).toInt < (n5 : Nat)) (e9 : ¬ (((f6 (x4 : Int32).toNatClampNeg) : Int32) = (-1))) (kk : qE d 232 65 [some (.ref r0), some (.ref r1), some (.ref r2), some (.ref r3), some (.int x4)] [] h q): qE d 232 31 [some (.ref r0), some (.ref r1), some (.ref r2), some (.ref r3), some (.int x4)] [] h q := by
  refine qe_aload_n c232_31 rfl ?_
  refine qe_getfield c232_32 qo232 qF6_19 e2 e4 ?_
  refine qe_iload c232_35 rfl ?_
  refine qe_iaload c232_37 e7 e8 ?_
  refine qe_iconst (x := (-1)) c232_38 (by decide) ?_
  refine qe_icmp_ne_T (t := 65) c232_39 rfl e9 ?_
  exact kk
theorem b232_42F {d : Nat} {q : Option Value × qH} {h : qH} {r0 : Nat} {r1 : Nat} {r2 : Nat} {r3 : Nat} {x4 : Int32} {fs1 : List Value} {h1 : qH} {z3 : Int32}  (e2 : h.2.2 r0 = some (.inr (6, fs1))) (e4 : qCall d 228 [.ref r0, .ref r1, .int x4, .ref r2, .ref r3] h ((some (.int z3)), h1)) (e5 : ¬ ((z3 : Int32) = 0)) (kk : qE d 232 54 [some (.ref r0), some (.ref r1), some (.ref r2), some (.ref r3), some (.int x4)] [] h1 q): qE d 232 42 [some (.ref r0), some (.ref r1), some (.ref r2), some (.ref r3), some (.int x4)] [] h q := by
  refine qe_aload_n c232_42 rfl ?_
  refine qe_aload_n c232_43 rfl ?_
  refine qe_iload c232_44 rfl ?_
  refine qe_aload_n c232_46 rfl ?_
  refine qe_aload_n c232_47 rfl ?_
  refine qe_virtual (b := r0) (as := [.ref r1, .int x4, .ref r2, .ref r3]) (r := []) (v := (some (.int z3))) (h2 := h1) c232_48 qo232 qK6_40 rfl rfl rfl (by rw [qo228]; exact e2) (Nat.le_of_ble_eq_true rfl) e4 ?_
  refine qe_if_eq_F (t := 65) c232_51 rfl e5 ?_
  exact kk
theorem b232_42T {d : Nat} {q : Option Value × qH} {h : qH} {r0 : Nat} {r1 : Nat} {r2 : Nat} {r3 : Nat} {x4 : Int32} {fs1 : List Value} {h1 : qH} {z3 : Int32}  (e2 : h.2.2 r0 = some (.inr (6, fs1))) (e4 : qCall d 228 [.ref r0, .ref r1, .int x4, .ref r2, .ref r3] h ((some (.int z3)), h1)) (e5 : (z3 : Int32) = 0) (kk : qE d 232 65 [some (.ref r0), some (.ref r1), some (.ref r2), some (.ref r3), some (.int x4)] [] h1 q): qE d 232 42 [some (.ref r0), some (.ref r1), some (.ref r2), some (.ref r3), some (.int x4)] [] h q := by
  refine qe_aload_n c232_42 rfl ?_
  refine qe_aload_n c232_43 rfl ?_
  refine qe_iload c232_44 rfl ?_
  refine qe_aload_n c232_46 rfl ?_
  refine qe_aload_n c232_47 rfl ?_
  refine qe_virtual (b := r0) (as := [.ref r1, .int x4, .ref r2, .ref r3]) (r := []) (v := (some (.int z3))) (h2 := h1) c232_48 qo232 qK6_40 rfl rfl rfl (by rw [qo228]; exact e2) (Nat.le_of_ble_eq_true rfl) e4 ?_
  refine qe_if_eq_T (t := 65) c232_51 rfl e5 ?_
  exact kk
theorem b232_54 {d : Nat} {q : Option Value × qH} {h : qH} {r0 : Nat} {r1 : Nat} {r2 : Nat} {r3 : Nat} {x4 : Int32} {fs1 : List Value} {y3 : Nat} {fs5 : List Value} {y7 : Int32} {n9 : Nat} {f10 : Nat → Int32} {h1 : qH}  (e2 : h.2.2 r0 = some (.inr (6, fs1))) (e4 : fs1[2]? = some (.ref y3)) (e6 : h.2.2 r2 = some (.inr (8, fs5))) (e8 : fs5[0]? = some (.int y7)) (e11 : h.2.2 y3 = some (.inl (0, n9, .inl f10))) (e12 : 0 ≤ (x4 : Int32).toInt ∧ (x4 : Int32).toInt < (n9 : Nat)) (e13 : qset h y3 (.inl (0, n9, .inl (upd f10 ((x4 : Int32).toNatClampNeg) y7))) = h1) (kk : qE d 232 65 [some (.ref r0), some (.ref r1), some (.ref r2), some (.ref r3), some (.int x4)] [] h1 q): qE d 232 54 [some (.ref r0), some (.ref r1), some (.ref r2), some (.ref r3), some (.int x4)] [] h q := by
  refine qe_aload_n c232_54 rfl ?_
  refine qe_getfield c232_55 qo232 qF6_19 e2 e4 ?_
  refine qe_iload c232_58 rfl ?_
  refine qe_aload_n c232_60 rfl ?_
  refine qe_getfield c232_61 qo232 qF6_44 e6 e8 ?_
  refine qe_iastore c232_64 e11 e12 ?_
  rw [e13]
  exact kk
theorem b232_65 {d : Nat} {q : Option Value × qH} {h : qH} {r0 : Nat} {r1 : Nat} {r2 : Nat} {r3 : Nat} {x4 : Int32}   (kk : qE d 232 3 [some (.ref r0), some (.ref r1), some (.ref r2), some (.ref r3), some (.int (x4 + 1))] [] h q): qE d 232 65 [some (.ref r0), some (.ref r1), some (.ref r2), some (.ref r3), some (.int x4)] [] h q := by
  refine qe_iinc (y := (x4 + 1)) (ls2 := [some (.ref r0), some (.ref r1), some (.ref r2), some (.ref r3), some (.int (x4 + 1))]) c232_65 rfl (Nat.le_of_ble_eq_true rfl) rfl rfl ?_
  refine qe_goto (t := 3) c232_68 rfl ?_
  exact kk
theorem b232_71 {d : Nat} {h : qH} {r0 : Nat} {r1 : Nat} {r2 : Nat} {r3 : Nat} {x4 : Int32}   : qE d 232 71 [some (.ref r0), some (.ref r1), some (.ref r2), some (.ref r3), some (.int x4)] [] h (none, h) := by
  exact qe_vret c232_71 qr232
theorem b233_0 {d : Nat} {q : Option Value × qH} {h : qH} {r0 : Nat} {r1 : Nat} {r2 : Nat} {x3 : Int32} {x4 : Int32} {x5 : Int32}   (kk : qE d 233 3 [some (.ref r0), some (.ref r1), some (.ref r2), some (.int x3), some (.int x4), some (.int x5), some (.int 0), none, none] [] h q): qE d 233 0 [some (.ref r0), some (.ref r1), some (.ref r2), some (.int x3), some (.int x4), some (.int x5), none, none, none] [] h q := by
  refine qe_iconst (x := 0) c233_0 (by decide) ?_
  refine qe_istore (ls2 := [some (.ref r0), some (.ref r1), some (.ref r2), some (.int x3), some (.int x4), some (.int x5), some (.int 0), none, none]) c233_1 (Nat.le_of_ble_eq_true rfl) rfl ?_
  exact kk
theorem b233_3F {d : Nat} {q : Option Value × qH} {h : qH} {r0 : Nat} {r1 : Nat} {r2 : Nat} {x3 : Int32} {x4 : Int32} {x5 : Int32} {x6 : Int32} {fs1 : List Value} {y3 : Int32}  (e2 : h.2.2 r1 = some (.inr (4, fs1))) (e4 : fs1[0]? = some (.int y3)) (e5 : ¬ ((y3 : Int32) ≤ x6)) (kk : qE d 233 12 [some (.ref r0), some (.ref r1), some (.ref r2), some (.int x3), some (.int x4), some (.int x5), some (.int x6), none, none] [] h q): qE d 233 3 [some (.ref r0), some (.ref r1), some (.ref r2), some (.int x3), some (.int x4), some (.int x5), some (.int x6), none, none] [] h q := by
  refine qe_iload c233_3 rfl ?_
  refine qe_aload_n c233_5 rfl ?_
  refine qe_getfield c233_6 qo233 qF7_68 e2 e4 ?_
  refine qe_icmp_ge_F (t := 73) c233_9 rfl e5 ?_
  exact kk
theorem b233_3T {d : Nat} {q : Option Value × qH} {h : qH} {r0 : Nat} {r1 : Nat} {r2 : Nat} {x3 : Int32} {x4 : Int32} {x5 : Int32} {x6 : Int32} {fs1 : List Value} {y3 : Int32}  (e2 : h.2.2 r1 = some (.inr (4, fs1))) (e4 : fs1[0]? = some (.int y3)) (e5 : (y3 : Int32) ≤ x6) (kk : qE d 233 73 [some (.ref r0), some (.ref r1), some (.ref r2), some (.int x3), some (.int x4), some (.int x5), some (.int x6), none, none] [] h q): qE d 233 3 [some (.ref r0), some (.ref r1), some (.ref r2), some (.int x3), some (.int x4), some (.int x5), some (.int x6), none, none] [] h q := by
  refine qe_iload c233_3 rfl ?_
  refine qe_aload_n c233_5 rfl ?_
  refine qe_getfield c233_6 qo233 qF7_68 e2 e4 ?_
  refine qe_icmp_ge_T (t := 73) c233_9 rfl e5 ?_
  exact kk
theorem b233_12F {d : Nat} {q : Option Value × qH} {h : qH} {r0 : Nat} {r1 : Nat} {r2 : Nat} {x3 : Int32} {x4 : Int32} {x5 : Int32} {x6 : Int32} {fs1 : List Value} {y3 : Nat} {n5 : Nat} {f6 : Nat → Int32}  (e2 : h.2.2 r0 = some (.inr (7, fs1))) (e4 : fs1[4]? = some (.ref y3)) (e7 : h.2.2 y3 = some (.inl (0, n5, .inl f6))) (e8 : 0 ≤ (x6 : Int32).toInt ∧ (x6 : Int32).toInt < (n5 : Nat)) (e9 : ((f6 (x6 : Int32).toNatClampNeg) : Int32) = x3) (kk : qE d 233 23 [some (.ref r0), some (.ref r1), some (.ref r2), some (.int x3), some (.int x4), some (.int x5), some (.int x6), none, none] [] h q): qE d 233 12 [some (.ref r0), some (.ref r1), some (.ref r2), some (.int x3), some (.int x4), some (.int x5), some (.int x6), none, none] [] h q := by
  refine qe_aload_n c233_12 rfl ?_
  refine qe_getfield c233_13 qo233 qF7_15 e2 e4 ?_
  refine qe_iload c233_16 rfl ?_
  refine qe_iaload c233_18 e7 e8 ?_
  refine qe_iload_n c233_19 rfl ?_
  refine qe_icmp_ne_F (t := 67) c233_20 rfl e9 ?_
  exact kk
theorem b233_12T {d : Nat} {q : Option Value × qH} {h : qH} {r0 : Nat} {r1 : Nat} {r2 : Nat} {x3 : Int32} {x4 : Int32} {x5 : Int32} {x6 : Int32} {fs1 : List Value} {y3 : Nat} {n5 : Nat} {f6 : Nat → Int32}  (e2 : h.2.2 r0 = some (.inr (7, fs1))) (e4 : fs1[4]? = some (.ref y3)) (e7 : h.2.2 y3 = some (.inl (0, n5, .inl f6))) (e8 : 0 ≤ (x6 : Int32).toInt ∧ (x6 : Int32).toInt < (n5 : Nat)) (e9 : ¬ (((f6 (x6 : Int32).toNatClampNeg) : Int32) = x3)) (kk : qE d 233 67 [some (.ref r0), some (.ref r1), some (.ref r2), some (.int x3), some (.int x4), some (.int x5), some (.int x6), none, none] [] h q): qE d 233 12 [some (.ref r0), some (.ref r1), some (.ref r2), some (.int x3), some (.int x4), some (.int x5), some (.int x6), none, none] [] h q := by
  refine qe_aload_n c233_12 rfl ?_
  refine qe_getfield c233_13 qo233 qF7_15 e2 e4 ?_
  refine qe_iload c233_16 rfl ?_
  refine qe_iaload c233_18 e7 e8 ?_
  refine qe_iload_n c233_19 rfl ?_
  refine qe_icmp_ne_T (t := 67) c233_20 rfl e9 ?_
  exact kk
theorem b233_23F {d : Nat} {q : Option Value × qH} {h : qH} {r0 : Nat} {r1 : Nat} {r2 : Nat} {x3 : Int32} {x4 : Int32} {x5 : Int32} {x6 : Int32} {fs1 : List Value} {y3 : Nat} {n5 : Nat} {f6 : Nat → Int32} {h1 : qH} {fs10 : List Value} {y12 : Nat} {y14 : Int32}  (e2 : h.2.2 r0 = some (.inr (7, fs1))) (e4 : fs1[5]? = some (.ref y3)) (e7 : h.2.2 y3 = some (.inl (0, n5, .inl f6))) (e8 : 0 ≤ (x6 : Int32).toInt ∧ (x6 : Int32).toInt < (n5 : Nat)) (e9 : qset h y3 (.inl (0, n5, .inl (upd f6 ((x6 : Int32).toNatClampNeg) ((x4 - x5))))) = h1) (e11 : h1.2.2 r0 = some (.inr (7, fs10))) (e13 : fs10[8]? = some (.ref y12)) (e15 : fs10[0]? = some (.int y14)) (e16 : (((y14 >>> (x6 &&& 31)) &&& 1) : Int32) = 1) (kk : qE d 233 54 [some (.ref r0), some (.ref r1), some (.ref r2), some (.int x3), some (.int x4), some (.int x5), some (.int x6), none, none] [.int x6, .ref y12] h1 q): qE d 233 23 [some (.ref r0), some (.ref r1), some (.ref r2), some (.int x3), some (.int x4), some (.int x5), some (.int x6), none, none] [] h q := by
  refine qe_aload_n c233_23 rfl ?_
  refine qe_getfield c233_24 qo233 qF7_18 e2 e4 ?_
  refine qe_iload c233_27 rfl ?_
  refine qe_iload c233_29 rfl ?_
  refine qe_iload c233_31 rfl ?_
  refine qe_isub c233_33 ?_
  refine qe_iastore c233_34 e7 e8 ?_
  rw [e9]
  refine qe_aload_n c233_35 rfl ?_
  refine qe_getfield c233_36 qo233 qF7_28 e11 e13 ?_
  refine qe_iload c233_39 rfl ?_
  refine qe_aload_n c233_41 rfl ?_
  refine qe_getfield c233_42 qo233 qF7_48 e11 e15 ?_
  refine qe_iload c233_45 rfl ?_
  refine qe_ishr c233_47 ?_
  refine qe_iconst (x := 1) c233_48 (by decide) ?_
  refine qe_iand c233_49 ?_
  refine qe_iconst (x := 1) c233_50 (by decide) ?_
  refine qe_icmp_ne_F (t := 58) c233_51 rfl e16 ?_
  exact kk
theorem b233_23T {d : Nat} {q : Option Value × qH} {h : qH} {r0 : Nat} {r1 : Nat} {r2 : Nat} {x3 : Int32} {x4 : Int32} {x5 : Int32} {x6 : Int32} {fs1 : List Value} {y3 : Nat} {n5 : Nat} {f6 : Nat → Int32} {h1 : qH} {fs10 : List Value} {y12 : Nat} {y14 : Int32}  (e2 : h.2.2 r0 = some (.inr (7, fs1))) (e4 : fs1[5]? = some (.ref y3)) (e7 : h.2.2 y3 = some (.inl (0, n5, .inl f6))) (e8 : 0 ≤ (x6 : Int32).toInt ∧ (x6 : Int32).toInt < (n5 : Nat)) (e9 : qset h y3 (.inl (0, n5, .inl (upd f6 ((x6 : Int32).toNatClampNeg) ((x4 - x5))))) = h1) (e11 : h1.2.2 r0 = some (.inr (7, fs10))) (e13 : fs10[8]? = some (.ref y12)) (e15 : fs10[0]? = some (.int y14)) (e16 : ¬ ((((y14 >>> (x6 &&& 31)) &&& 1) : Int32) = 1)) (kk : qE d 233 58 [some (.ref r0), some (.ref r1), some (.ref r2), some (.int x3), some (.int x4), some (.int x5), some (.int x6), none, none] [.int x6, .ref y12] h1 q): qE d 233 23 [some (.ref r0), some (.ref r1), some (.ref r2), some (.int x3), some (.int x4), some (.int x5), some (.int x6), none, none] [] h q := by
  refine qe_aload_n c233_23 rfl ?_
  refine qe_getfield c233_24 qo233 qF7_18 e2 e4 ?_
  refine qe_iload c233_27 rfl ?_
  refine qe_iload c233_29 rfl ?_
  refine qe_iload c233_31 rfl ?_
  refine qe_isub c233_33 ?_
  refine qe_iastore c233_34 e7 e8 ?_
  rw [e9]
  refine qe_aload_n c233_35 rfl ?_
  refine qe_getfield c233_36 qo233 qF7_28 e11 e13 ?_
  refine qe_iload c233_39 rfl ?_
  refine qe_aload_n c233_41 rfl ?_
  refine qe_getfield c233_42 qo233 qF7_48 e11 e15 ?_
  refine qe_iload c233_45 rfl ?_
  refine qe_ishr c233_47 ?_
  refine qe_iconst (x := 1) c233_48 (by decide) ?_
  refine qe_iand c233_49 ?_
  refine qe_iconst (x := 1) c233_50 (by decide) ?_
  refine qe_icmp_ne_T (t := 58) c233_51 rfl e16 ?_
  exact kk
theorem b233_54 {d : Nat} {q : Option Value × qH} {h : qH} {r0 : Nat} {r1 : Nat} {r2 : Nat} {x3 : Int32} {x4 : Int32} {x5 : Int32} {x6 : Int32} {rs0 : Nat} {xs1 : Int32}   (kk : qE d 233 66 [some (.ref r0), some (.ref r1), some (.ref r2), some (.int x3), some (.int x4), some (.int x5), some (.int x6), none, none] [.int 0, .int xs1, .ref rs0] h q): qE d 233 54 [some (.ref r0), some (.ref r1), some (.ref r2), some (.int x3), some (.int x4), some (.int x5), some (.int x6), none, none] [.int xs1, .ref rs0] h q := by
  refine qe_iconst (x := 0) c233_54 (by decide) ?_
  refine qe_goto (t := 66) c233_55 rfl ?_
  exact kk
theorem b233_58 {d : Nat} {q : Option Value × qH} {h : qH} {r0 : Nat} {r1 : Nat} {r2 : Nat} {x3 : Int32} {x4 : Int32} {x5 : Int32} {x6 : Int32} {rs0 : Nat} {xs1 : Int32} {fs1 : List Value} {y3 : Nat} {n5 : Nat} {f6 : Nat → Int32}  (e2 : h.2.2 r2 = some (.inr (8, fs1))) (e4 : fs1[4]? = some (.ref y3)) (e7 : h.2.2 y3 = some (.inl (0, n5, .inl f6))) (e8 : 0 ≤ (x6 : Int32).toInt ∧ (x6 : Int32).toInt < (n5 : Nat)) (kk : qE d 233 66 [some (.ref r0), some (.ref r1), some (.ref r2), some (.int x3), some (.int x4), some (.int x5), some (.int x6), none, none] [.int (-(f6 (x6 : Int32).toNatClampNeg)), .int xs1, .ref rs0] h q): qE d 233 58 [some (.ref r0), some (.ref r1), some (.ref r2), some (.int x3), some (.int x4), some (.int x5), some (.int x6), none, none] [.int xs1, .ref rs0] h q := by
  refine qe_aload_n c233_58 rfl ?_
  refine qe_getfield c233_59 qo233 qF7_91 e2 e4 ?_
  refine qe_iload c233_62 rfl ?_
  refine qe_iaload c233_64 e7 e8 ?_
  refine qe_ineg c233_65 ?_
  exact kk
theorem b233_66 {d : Nat} {q : Option Value × qH} {h : qH} {r0 : Nat} {r1 : Nat} {r2 : Nat} {x3 : Int32} {x4 : Int32} {x5 : Int32} {x6 : Int32} {rs0 : Nat} {xs1 : Int32} {xs2 : Int32} {n1 : Nat} {f2 : Nat → Int32} {h1 : qH}  (e3 : h.2.2 rs0 = some (.inl (0, n1, .inl f2))) (e4 : 0 ≤ (xs1 : Int32).toInt ∧ (xs1 : Int32).toInt < (n1 : Nat)) (e5 : qset h rs0 (.inl (0, n1, .inl (upd f2 ((xs1 : Int32).toNatClampNeg) xs2))) = h1) (kk : qE d 233 67 [some (.ref r0), some (.ref r1), some (.ref r2), some (.int x3), some (.int x4), some (.int x5), some (.int x6), none, none] [] h1 q): qE d 233 66 [some (.ref r0), some (.ref r1), some (.ref r2), some (.int x3), some (.int x4), some (.int x5), some (.int x6), none, none] [.int xs2, .int xs1, .ref rs0] h q := by
  refine qe_iastore c233_66 e3 e4 ?_
  rw [e5]
  exact kk
theorem b233_67 {d : Nat} {q : Option Value × qH} {h : qH} {r0 : Nat} {r1 : Nat} {r2 : Nat} {x3 : Int32} {x4 : Int32} {x5 : Int32} {x6 : Int32}   (kk : qE d 233 3 [some (.ref r0), some (.ref r1), some (.ref r2), some (.int x3), some (.int x4), some (.int x5), some (.int (x6 + 1)), none, none] [] h q): qE d 233 67 [some (.ref r0), some (.ref r1), some (.ref r2), some (.int x3), some (.int x4), some (.int x5), some (.int x6), none, none] [] h q := by
  refine qe_iinc (y := (x6 + 1)) (ls2 := [some (.ref r0), some (.ref r1), some (.ref r2), some (.int x3), some (.int x4), some (.int x5), some (.int (x6 + 1)), none, none]) c233_67 rfl (Nat.le_of_ble_eq_true rfl) rfl rfl ?_
  refine qe_goto (t := 3) c233_70 rfl ?_
  exact kk
theorem b233_73 {d : Nat} {q : Option Value × qH} {h : qH} {r0 : Nat} {r1 : Nat} {r2 : Nat} {x3 : Int32} {x4 : Int32} {x5 : Int32} {x6 : Int32}   (kk : qE d 233 80 [some (.ref r0), some (.ref r1), some (.ref r2), some (.int x3), some (.int x4), some (.int x5), some (.int x5), some (.int 0), none] [] h q): qE d 233 73 [some (.ref r0), some (.ref r1), some (.ref r2), some (.int x3), some (.int x4), some (.int x5), some (.int x6), none, none] [] h q := by
  refine qe_iload c233_73 rfl ?_
  refine qe_istore (ls2 := [some (.ref r0), some (.ref r1), some (.ref r2), some (.int x3), some (.int x4), some (.int x5), some (.int x5), none, none]) c233_75 (Nat.le_of_ble_eq_true rfl) rfl ?_
  refine qe_iconst (x := 0) c233_77 (by decide) ?_
  refine qe_istore (ls2 := [some (.ref r0), some (.ref r1), some (.ref r2), some (.int x3), some (.int x4), some (.int x5), some (.int x5), some (.int 0), none]) c233_78 (Nat.le_of_ble_eq_true rfl) rfl ?_
  exact kk
theorem b233_80F {d : Nat} {q : Option Value × qH} {h : qH} {r0 : Nat} {r1 : Nat} {r2 : Nat} {x3 : Int32} {x4 : Int32} {x5 : Int32} {x6 : Int32} {x7 : Int32} {o8 : Option Value} {fs1 : List Value} {y3 : Int32}  (e2 : h.2.2 r1 = some (.inr (4, fs1))) (e4 : fs1[2]? = some (.int y3)) (e5 : ¬ ((y3 : Int32) ≤ x7)) (kk : qE d 233 89 [some (.ref r0), some (.ref r1), some (.ref r2), some (.int x3), some (.int x4), some (.int x5), some (.int x6), some (.int x7), o8] [] h q): qE d 233 80 [some (.ref r0), some (.ref r1), some (.ref r2), some (.int x3), some (.int x4), some (.int x5), some (.int x6), some (.int x7), o8] [] h q := by
  refine qe_iload c233_80 rfl ?_
  refine qe_aload_n c233_82 rfl ?_
  refine qe_getfield c233_83 qo233 qF7_78 e2 e4 ?_
  refine qe_icmp_ge_F (t := 186) c233_86 rfl e5 ?_
  exact kk
theorem b233_80T {d : Nat} {q : Option Value × qH} {h : qH} {r0 : Nat} {r1 : Nat} {r2 : Nat} {x3 : Int32} {x4 : Int32} {x5 : Int32} {x6 : Int32} {x7 : Int32} {o8 : Option Value} {fs1 : List Value} {y3 : Int32}  (e2 : h.2.2 r1 = some (.inr (4, fs1))) (e4 : fs1[2]? = some (.int y3)) (e5 : (y3 : Int32) ≤ x7) (kk : qE d 233 186 [some (.ref r0), some (.ref r1), some (.ref r2), some (.int x3), some (.int x4), some (.int x5), some (.int x6), some (.int x7), o8] [] h q): qE d 233 80 [some (.ref r0), some (.ref r1), some (.ref r2), some (.int x3), some (.int x4), some (.int x5), some (.int x6), some (.int x7), o8] [] h q := by
  refine qe_iload c233_80 rfl ?_
  refine qe_aload_n c233_82 rfl ?_
  refine qe_getfield c233_83 qo233 qF7_78 e2 e4 ?_
  refine qe_icmp_ge_T (t := 186) c233_86 rfl e5 ?_
  exact kk
theorem b233_89F {d : Nat} {q : Option Value × qH} {h : qH} {r0 : Nat} {r1 : Nat} {r2 : Nat} {x3 : Int32} {x4 : Int32} {x5 : Int32} {x6 : Int32} {x7 : Int32} {o8 : Option Value} {fs1 : List Value} {y3 : Nat} {n5 : Nat} {f6 : Nat → Int32} {fs9 : List Value} {y11 : Nat} {y13 : Nat} {n15 : Nat} {f16 : Nat → Int32} {n19 : Nat} {f20 : Nat → Int32}  (e2 : h.2.2 r1 = some (.inr (4, fs1))) (e4 : fs1[17]? = some (.ref y3)) (e7 : h.2.2 y3 = some (.inl (0, n5, .inl f6))) (e8 : 0 ≤ (x7 : Int32).toInt ∧ (x7 : Int32).toInt < (n5 : Nat)) (e10 : h.2.2 r0 = some (.inr (7, fs9))) (e12 : fs9[4]? = some (.ref y11)) (e14 : fs1[14]? = some (.ref y13)) (e17 : h.2.2 y13 = some (.inl (0, n15, .inl f16))) (e18 : 0 ≤ ((f6 (x7 : Int32).toNatClampNeg) : Int32).toInt ∧ ((f6 (x7 : Int32).toNatClampNeg) : Int32).toInt < (n15 : Nat)) (e21 : h.2.2 y11 = some (.inl (0, n19, .inl f20))) (e22 : 0 ≤ ((f16 ((f6 (x7 : Int32).toNatClampNeg) : Int32).toNatClampNeg) : Int32).toInt ∧ ((f16 ((f6 (x7 : Int32).toNatClampNeg) : Int32).toNatClampNeg) : Int32).toInt < (n19 : Nat)) (e23 : ((f20 ((f16 ((f6 (x7 : Int32).toNatClampNeg) : Int32).toNatClampNeg) : Int32).toNatClampNeg) : Int32) = x3) (kk : qE d 233 114 [some (.ref r0), some (.ref r1), some (.ref r2), some (.int x3), some (.int x4), some (.int x5), some (.int x6), some (.int x7), some (.int (f6 (x7 : Int32).toNatClampNeg))] [] h q): qE d 233 89 [some (.ref r0), some (.ref r1), some (.ref r2), some (.int x3), some (.int x4), some (.int x5), some (.int x6), some (.int x7), o8] [] h q := by
  refine qe_aload_n c233_89 rfl ?_
  refine qe_getfield c233_90 qo233 qF7_101 e2 e4 ?_
  refine qe_iload c233_93 rfl ?_
  refine qe_iaload c233_95 e7 e8 ?_
  refine qe_istore (ls2 := [some (.ref r0), some (.ref r1), some (.ref r2), some (.int x3), some (.int x4), some (.int x5), some (.int x6), some (.int x7), some (.int (f6 (x7 : Int32).toNatClampNeg))]) c233_96 (Nat.le_of_ble_eq_true rfl) rfl ?_
  refine qe_aload_n c233_98 rfl ?_
  refine qe_getfield c233_99 qo233 qF7_15 e10 e12 ?_
  refine qe_aload_n c233_102 rfl ?_
  refine qe_getfield c233_103 qo233 qF7_85 e2 e14 ?_
  refine qe_iload c233_106 rfl ?_
  refine qe_iaload c233_108 e17 e18 ?_
  refine qe_iaload c233_109 e21 e22 ?_
  refine qe_iload_n c233_110 rfl ?_
  refine qe_icmp_ne_F (t := 180) c233_111 rfl e23 ?_
  exact kk
theorem b233_89T {d : Nat} {q : Option Value × qH} {h : qH} {r0 : Nat} {r1 : Nat} {r2 : Nat} {x3 : Int32} {x4 : Int32} {x5 : Int32} {x6 : Int32} {x7 : Int32} {o8 : Option Value} {fs1 : List Value} {y3 : Nat} {n5 : Nat} {f6 : Nat → Int32} {fs9 : List Value} {y11 : Nat} {y13 : Nat} {n15 : Nat} {f16 : Nat → Int32} {n19 : Nat} {f20 : Nat → Int32}  (e2 : h.2.2 r1 = some (.inr (4, fs1))) (e4 : fs1[17]? = some (.ref y3)) (e7 : h.2.2 y3 = some (.inl (0, n5, .inl f6))) (e8 : 0 ≤ (x7 : Int32).toInt ∧ (x7 : Int32).toInt < (n5 : Nat)) (e10 : h.2.2 r0 = some (.inr (7, fs9))) (e12 : fs9[4]? = some (.ref y11)) (e14 : fs1[14]? = some (.ref y13)) (e17 : h.2.2 y13 = some (.inl (0, n15, .inl f16))) (e18 : 0 ≤ ((f6 (x7 : Int32).toNatClampNeg) : Int32).toInt ∧ ((f6 (x7 : Int32).toNatClampNeg) : Int32).toInt < (n15 : Nat)) (e21 : h.2.2 y11 = some (.inl (0, n19, .inl f20))) (e22 : 0 ≤ ((f16 ((f6 (x7 : Int32).toNatClampNeg) : Int32).toNatClampNeg) : Int32).toInt ∧ ((f16 ((f6 (x7 : Int32).toNatClampNeg) : Int32).toNatClampNeg) : Int32).toInt < (n19 : Nat)) (e23 : ¬ (((f20 ((f16 ((f6 (x7 : Int32).toNatClampNeg) : Int32).toNatClampNeg) : Int32).toNatClampNeg) : Int32) = x3)) (kk : qE d 233 180 [some (.ref r0), some (.ref r1), some (.ref r2), some (.int x3), some (.int x4), some (.int x5), some (.int x6), some (.int x7), some (.int (f6 (x7 : Int32).toNatClampNeg))] [] h q): qE d 233 89 [some (.ref r0), some (.ref r1), some (.ref r2), some (.int x3), some (.int x4), some (.int x5), some (.int x6), some (.int x7), o8] [] h q := by
  refine qe_aload_n c233_89 rfl ?_
  refine qe_getfield c233_90 qo233 qF7_101 e2 e4 ?_
  refine qe_iload c233_93 rfl ?_
  refine qe_iaload c233_95 e7 e8 ?_
  refine qe_istore (ls2 := [some (.ref r0), some (.ref r1), some (.ref r2), some (.int x3), some (.int x4), some (.int x5), some (.int x6), some (.int x7), some (.int (f6 (x7 : Int32).toNatClampNeg))]) c233_96 (Nat.le_of_ble_eq_true rfl) rfl ?_
  refine qe_aload_n c233_98 rfl ?_
  refine qe_getfield c233_99 qo233 qF7_15 e10 e12 ?_
  refine qe_aload_n c233_102 rfl ?_
  refine qe_getfield c233_103 qo233 qF7_85 e2 e14 ?_
  refine qe_iload c233_106 rfl ?_
  refine qe_iaload c233_108 e17 e18 ?_
  refine qe_iaload c233_109 e21 e22 ?_
  refine qe_iload_n c233_110 rfl ?_
  refine qe_icmp_ne_T (t := 180) c233_111 rfl e23 ?_
  exact kk
theorem b233_114F {d : Nat} {q : Option Value × qH} {h : qH} {r0 : Nat} {r1 : Nat} {r2 : Nat} {x3 : Int32} {x4 : Int32} {x5 : Int32} {x6 : Int32} {x7 : Int32} {x8 : Int32} {fs1 : List Value} {y3 : Nat} {fs5 : List Value} {h1 : qH} {z7 : Int32}  (e2 : h.2.2 r0 = some (.inr (7, fs1))) (e4 : fs1[6]? = some (.ref y3)) (e6 : h.2.2 r2 = some (.inr (8, fs5))) (e8 : qCall d 245 [.ref r2, .int x8] h ((some (.int z7)), h1)) (e9 : ¬ ((z7 : Int32) = 0)) (kk : qE d 233 129 [some (.ref r0), some (.ref r1), some (.ref r2), some (.int x3), some (.int x4), some (.int x5), some (.int x6), some (.int x7), some (.int x8)] [.int x8, .ref y3] h1 q): qE d 233 114 [some (.ref r0), some (.ref r1), some (.ref r2), some (.int x3), some (.int x4), some (.int x5), some (.int x6), some (.int x7), some (.int x8)] [] h q := by
  refine qe_aload_n c233_114 rfl ?_
  refine qe_getfield c233_115 qo233 qF7_21 e2 e4 ?_
  refine qe_iload c233_118 rfl ?_
  refine qe_aload_n c233_120 rfl ?_
  refine qe_iload c233_121 rfl ?_
  refine qe_virtual (b := r2) (as := [.int x8]) (r := [.int x8, .ref y3]) (v := (some (.int z7))) (h2 := h1) c233_123 qo233 qK7_81 rfl rfl rfl (by rw [qo245]; exact e6) (Nat.le_of_ble_eq_true rfl) e8 ?_
  refine qe_if_eq_F (t := 144) c233_126 rfl e9 ?_
  exact kk
theorem b233_114T {d : Nat} {q : Option Value × qH} {h : qH} {r0 : Nat} {r1 : Nat} {r2 : Nat} {x3 : Int32} {x4 : Int32} {x5 : Int32} {x6 : Int32} {x7 : Int32} {x8 : Int32} {fs1 : List Value} {y3 : Nat} {fs5 : List Value} {h1 : qH} {z7 : Int32}  (e2 : h.2.2 r0 = some (.inr (7, fs1))) (e4 : fs1[6]? = some (.ref y3)) (e6 : h.2.2 r2 = some (.inr (8, fs5))) (e8 : qCall d 245 [.ref r2, .int x8] h ((some (.int z7)), h1)) (e9 : (z7 : Int32) = 0) (kk : qE d 233 144 [some (.ref r0), some (.ref r1), some (.ref r2), some (.int x3), some (.int x4), some (.int x5), some (.int x6), some (.int x7), some (.int x8)] [.int x8, .ref y3] h1 q): qE d 233 114 [some (.ref r0), some (.ref r1), some (.ref r2), some (.int x3), some (.int x4), some (.int x5), some (.int x6), some (.int x7), some (.int x8)] [] h q := by
  refine qe_aload_n c233_114 rfl ?_
  refine qe_getfield c233_115 qo233 qF7_21 e2 e4 ?_
  refine qe_iload c233_118 rfl ?_
  refine qe_aload_n c233_120 rfl ?_
  refine qe_iload c233_121 rfl ?_
  refine qe_virtual (b := r2) (as := [.int x8]) (r := [.int x8, .ref y3]) (v := (some (.int z7))) (h2 := h1) c233_123 qo233 qK7_81 rfl rfl rfl (by rw [qo245]; exact e6) (Nat.le_of_ble_eq_true rfl) e8 ?_
  refine qe_if_eq_T (t := 144) c233_126 rfl e9 ?_
  exact kk
theorem b233_129 {d : Nat} {q : Option Value × qH} {h : qH} {r0 : Nat} {r1 : Nat} {r2 : Nat} {x3 : Int32} {x4 : Int32} {x5 : Int32} {x6 : Int32} {x7 : Int32} {x8 : Int32} {rs0 : Nat} {xs1 : Int32} {fs1 : List Value} {y3 : Nat} {n5 : Nat} {f6 : Nat → Int32} {h1 : qH} {z9 : Int32}  (e2 : h.2.2 r1 = some (.inr (4, fs1))) (e4 : fs1[15]? = some (.ref y3)) (e7 : h.2.2 y3 = some (.inl (0, n5, .inl f6))) (e8 : 0 ≤ (x8 : Int32).toInt ∧ (x8 : Int32).toInt < (n5 : Nat)) (e10 : qCall d 6 [.int (f6 (x8 : Int32).toNatClampNeg), .int x6] h ((some (.int z9)), h1)) (kk : qE d 233 145 [some (.ref r0), some (.ref r1), some (.ref r2), some (.int x3), some (.int x4), some (.int x5), some (.int x6), some (.int x7), some (.int x8)] [.int z9, .int xs1, .ref rs0] h1 q): qE d 233 129 [some (.ref r0), some (.ref r1), some (.ref r2), some (.int x3), some (.int x4), some (.int x5), some (.int x6), some (.int x7), some (.int x8)] [.int xs1, .ref rs0] h q := by
  refine qe_aload_n c233_129 rfl ?_
  refine qe_getfield c233_130 qo233 qF7_88 e2 e4 ?_
  refine qe_iload c233_133 rfl ?_
  refine qe_iaload c233_135 e7 e8 ?_
  refine qe_iload c233_136 rfl ?_
  refine qe_static (as := [.int (f6 (x8 : Int32).toNatClampNeg), .int x6]) (r := [.int xs1, .ref rs0]) (v := (some (.int z9))) (h2 := h1) c233_138 qo233 (by decide) qK7_104 rfl rfl rfl (Nat.le_of_ble_eq_true rfl) e10 ?_
  refine qe_goto (t := 145) c233_141 rfl ?_
  exact kk
theorem b233_144 {d : Nat} {q : Option Value × qH} {h : qH} {r0 : Nat} {r1 : Nat} {r2 : Nat} {x3 : Int32} {x4 : Int32} {x5 : Int32} {x6 : Int32} {x7 : Int32} {x8 : Int32} {rs0 : Nat} {xs1 : Int32}   (kk : qE d 233 145 [some (.ref r0), some (.ref r1), some (.ref r2), some (.int x3), some (.int x4), some (.int x5), some (.int x6), some (.int x7), some (.int x8)] [.int 0, .int xs1, .ref rs0] h q): qE d 233 144 [some (.ref r0), some (.ref r1), some (.ref r2), some (.int x3), some (.int x4), some (.int x5), some (.int x6), some (.int x7), some (.int x8)] [.int xs1, .ref rs0] h q := by
  refine qe_iconst (x := 0) c233_144 (by decide) ?_
  exact kk
theorem b233_145 {d : Nat} {q : Option Value × qH} {h : qH} {r0 : Nat} {r1 : Nat} {r2 : Nat} {x3 : Int32} {x4 : Int32} {x5 : Int32} {x6 : Int32} {x7 : Int32} {x8 : Int32} {rs0 : Nat} {xs1 : Int32} {xs2 : Int32} {n1 : Nat} {f2 : Nat → Int32} {h1 : qH} {fs6 : List Value} {y8 : Nat} {fs10 : List Value} {y12 : Nat} {n14 : Nat} {f15 : Nat → Int32} {n18 : Nat} {f19 : Nat → Int32} {y22 : Nat} {n24 : Nat} {f25 : Nat → Int32} {h2 : qH} {fs30 : List Value} {y32 : Nat} {n34 : Nat} {f35 : Nat → Int32}  (e3 : h.2.2 rs0 = some (.inl (0, n1, .inl f2))) (e4 : 0 ≤ (xs1 : Int32).toInt ∧ (xs1 : Int32).toInt < (n1 : Nat)) (e5 : qset h rs0 (.inl (0, n1, .inl (upd f2 ((xs1 : Int32).toNatClampNeg) xs2))) = h1) (e7 : h1.2.2 r0 = some (.inr (7, fs6))) (e9 : fs6[8]? = some (.ref y8)) (e11 : h1.2.2 r1 = some (.inr (4, fs10))) (e13 : fs10[14]? = some (.ref y12)) (e16 : h1.2.2 y12 = some (.inl (0, n14, .inl f15))) (e17 : 0 ≤ (x8 : Int32).toInt ∧ (x8 : Int32).toInt < (n14 : Nat)) (e20 : h1.2.2 y8 = some (.inl (0, n18, .inl f19))) (e21 : 0 ≤ ((f15 (x8 : Int32).toNatClampNeg) : Int32).toInt ∧ ((f15 (x8 : Int32).toNatClampNeg) : Int32).toInt < (n18 : Nat)) (e23 : fs6[6]? = some (.ref y22)) (e26 : h1.2.2 y22 = some (.inl (0, n24, .inl f25))) (e27 : 0 ≤ (x8 : Int32).toInt ∧ (x8 : Int32).toInt < (n24 : Nat)) (e28 : 0 ≤ ((f15 (x8 : Int32).toNatClampNeg) : Int32).toInt ∧ ((f15 (x8 : Int32).toNatClampNeg) : Int32).toInt < (n18 : Nat)) (e29 : qset h1 y8 (.inl (0, n18, .inl (upd f19 (((f15 (x8 : Int32).toNatClampNeg) : Int32).toNatClampNeg) (((f19 ((f15 (x8 : Int32).toNatClampNeg) : Int32).toNatClampNeg) + (f25 (x8 : Int32).toNatClampNeg)))))) = h2) (e31 : h2.2.2 r0 = some (.inr (7, fs30))) (e33 : fs30[6]? = some (.ref y32)) (e36 : h2.2.2 y32 = some (.inl (0, n34, .inl f35))) (e37 : 0 ≤ (x8 : Int32).toInt ∧ (x8 : Int32).toInt < (n34 : Nat)) (kk : qE d 233 180 [some (.ref r0), some (.ref r1), some (.ref r2), some (.int x3), some (.int x4), some (.int x5), some (.int (x6 - (f35 (x8 : Int32).toNatClampNeg))), some (.int x7), some (.int x8)] [] h2 q): qE d 233 145 [some (.ref r0), some (.ref r1), some (.ref r2), some (.int x3), some (.int x4), some (.int x5), some (.int x6), some (.int x7), some (.int x8)] [.int xs2, .int xs1, .ref rs0] h q := by
  refine qe_iastore c233_145 e3 e4 ?_
  rw [e5]
  refine qe_aload_n c233_146 rfl ?_
  refine qe_getfield c233_147 qo233 qF7_28 e7 e9 ?_
  refine qe_aload_n c233_150 rfl ?_
  refine qe_getfield c233_151 qo233 qF7_85 e11 e13 ?_
  refine qe_iload c233_154 rfl ?_
  refine qe_iaload c233_156 e16 e17 ?_
  refine qe_dup2 c233_157 (Nat.ne_of_beq_eq_false rfl) rfl ?_
  refine qe_iaload c233_158 e20 e21 ?_
  refine qe_aload_n c233_159 rfl ?_
  refine qe_getfield c233_160 qo233 qF7_21 e7 e23 ?_
  refine qe_iload c233_163 rfl ?_
  refine qe_iaload c233_165 e26 e27 ?_
  refine qe_iadd c233_166 ?_
  refine qe_iastore c233_167 e20 e28 ?_
  rw [e29]
  refine qe_iload c233_168 rfl ?_
  refine qe_aload_n c233_170 rfl ?_
  refine qe_getfield c233_171 qo233 qF7_21 e31 e33 ?_
  refine qe_iload c233_174 rfl ?_
  refine qe_iaload c233_176 e36 e37 ?_
  refine qe_isub c233_177 ?_
  refine qe_istore (ls2 := [some (.ref r0), some (.ref r1), some (.ref r2), some (.int x3), some (.int x4), some (.int x5), some (.int (x6 - (f35 (x8 : Int32).toNatClampNeg))), some (.int x7), some (.int x8)]) c233_178 (Nat.le_of_ble_eq_true rfl) rfl ?_
  exact kk
theorem b233_180 {d : Nat} {q : Option Value × qH} {h : qH} {r0 : Nat} {r1 : Nat} {r2 : Nat} {x3 : Int32} {x4 : Int32} {x5 : Int32} {x6 : Int32} {x7 : Int32} {x8 : Int32}   (kk : qE d 233 80 [some (.ref r0), some (.ref r1), some (.ref r2), some (.int x3), some (.int x4), some (.int x5), some (.int x6), some (.int (x7 + 1)), some (.int x8)] [] h q): qE d 233 180 [some (.ref r0), some (.ref r1), some (.ref r2), some (.int x3), some (.int x4), some (.int x5), some (.int x6), some (.int x7), some (.int x8)] [] h q := by
  refine qe_iinc (y := (x7 + 1)) (ls2 := [some (.ref r0), some (.ref r1), some (.ref r2), some (.int x3), some (.int x4), some (.int x5), some (.int x6), some (.int (x7 + 1)), some (.int x8)]) c233_180 rfl (Nat.le_of_ble_eq_true rfl) rfl rfl ?_
  refine qe_goto (t := 80) c233_183 rfl ?_
  exact kk
theorem b233_186 {d : Nat} {h : qH} {r0 : Nat} {r1 : Nat} {r2 : Nat} {x3 : Int32} {x4 : Int32} {x5 : Int32} {x6 : Int32} {x7 : Int32} {o8 : Option Value}   : qE d 233 186 [some (.ref r0), some (.ref r1), some (.ref r2), some (.int x3), some (.int x4), some (.int x5), some (.int x6), some (.int x7), o8] [] h (none, h) := by
  exact qe_vret c233_186 qr233
theorem b234_0 {d : Nat} {q : Option Value × qH} {h : qH} {r0 : Nat} {x1 : Int32}   (kk : qE d 234 5 [some (.ref r0), some (.int x1), some (.long 1), none, some (.int 0), none, none, none, none, none, none] [] h q): qE d 234 0 [some (.ref r0), some (.int x1), none, none, none, none, none, none, none, none, none] [] h q := by
  refine qe_lconst (x := 1) c234_0 (by decide) ?_
  refine qe_lstore_n (ls2 := [some (.ref r0), some (.int x1), some (.long 1), none, none, none, none, none, none, none, none]) c234_1 (Nat.le_of_ble_eq_true rfl) rfl ?_
  refine qe_iconst (x := 0) c234_2 (by decide) ?_
  refine qe_istore (ls2 := [some (.ref r0), some (.int x1), some (.long 1), none, some (.int 0), none, none, none, none, none, none]) c234_3 (Nat.le_of_ble_eq_true rfl) rfl ?_
  exact kk
theorem b234_5F {d : Nat} {q : Option Value × qH} {h : qH} {r0 : Nat} {x1 : Int32} {l2 : Int64} {x4 : Int32} {o5 : Option Value} {o7 : Option Value} {o8 : Option Value} {o10 : Option Value}  (e1 : ¬ ((x1 : Int32) ≤ x4)) (kk : qE d 234 11 [some (.ref r0), some (.int x1), some (.long l2), none, some (.int x4), o5, none, o7, o8, none, o10] [] h q): qE d 234 5 [some (.ref r0), some (.int x1), some (.long l2), none, some (.int x4), o5, none, o7, o8, none, o10] [] h q := by
  refine qe_iload c234_5 rfl ?_
  refine qe_iload_n c234_7 rfl ?_
  refine qe_icmp_ge_F (t := 138) c234_8 rfl e1 ?_
  exact kk
theorem b234_5T {d : Nat} {q : Option Value × qH} {h : qH} {r0 : Nat} {x1 : Int32} {l2 : Int64} {x4 : Int32} {o5 : Option Value} {o7 : Option Value} {o8 : Option Value} {o10 : Option Value}  (e1 : (x1 : Int32) ≤ x4) (kk : qE d 234 138 [some (.ref r0), some (.int x1), some (.long l2), none, some (.int x4), o5, none, o7, o8, none, o10] [] h q): qE d 234 5 [some (.ref r0), some (.int x1), some (.long l2), none, some (.int x4), o5, none, o7, o8, none, o10] [] h q := by
  refine qe_iload c234_5 rfl ?_
  refine qe_iload_n c234_7 rfl ?_
  refine qe_icmp_ge_T (t := 138) c234_8 rfl e1 ?_
  exact kk
theorem b234_11F {d : Nat} {q : Option Value × qH} {h : qH} {r0 : Nat} {x1 : Int32} {l2 : Int64} {x4 : Int32} {o5 : Option Value} {o7 : Option Value} {o8 : Option Value} {o10 : Option Value} {fs1 : List Value} {y3 : Nat} {n5 : Nat} {f6 : Nat → Option Nat} {r9 : Nat} {n11 : Nat} {f12 : Nat → Int64}  (e2 : h.2.2 r0 = some (.inr (7, fs1))) (e4 : fs1[11]? = some (.ref y3)) (e7 : h.2.2 y3 = some (.inl (7, n5, .inr (.inr (.inr (.inr f6)))))) (e8 : 0 ≤ (x4 : Int32).toInt ∧ (x4 : Int32).toInt < (n5 : Nat)) (e10 : (f6 (x4 : Int32).toNatClampNeg) = some r9) (e13 : h.2.2 r9 = some (.inl (2, n11, .inr (.inl f12)))) (e14 : 0 ≤ (x4 : Int32).toInt ∧ (x4 : Int32).toInt < (n11 : Nat)) (e15 : ¬ (((lg_cmp ((f12 (x4 : Int32).toNatClampNeg)) 0) : Int32) = 0)) (kk : qE d 234 30 [some (.ref r0), some (.int x1), some (.long l2), none, some (.int x4), some (.long (f12 (x4 : Int32).toNatClampNeg)), none, o7, o8, none, o10] [] h q): qE d 234 11 [some (.ref r0), some (.int x1), some (.long l2), none, some (.int x4), o5, none, o7, o8, none, o10] [] h q := by
  refine qe_aload_n c234_11 rfl ?_
  refine qe_getfield c234_12 qo234 qF7_39 e2 e4 ?_
  refine qe_iload c234_15 rfl ?_
  refine qe_aaload c234_17 e7 e8 (Or.inr (Or.inr rfl)) e10 ?_
  refine qe_iload c234_18 rfl ?_
  refine qe_laload c234_20 e13 e14 ?_
  refine qe_lstore (ls2 := [some (.ref r0), some (.int x1), some (.long l2), none, some (.int x4), some (.long (f12 (x4 : Int32).toNatClampNeg)), none, o7, o8, none, o10]) c234_21 (Nat.le_of_ble_eq_true rfl) rfl ?_
  refine qe_lload c234_23 rfl ?_
  refine qe_lconst (x := 0) c234_25 (by decide) ?_
  refine qe_lcmp c234_26 ?_
  refine qe_if_eq_F (t := 36) c234_27 rfl e15 ?_
  exact kk
theorem b234_11T {d : Nat} {q : Option Value × qH} {h : qH} {r0 : Nat} {x1 : Int32} {l2 : Int64} {x4 : Int32} {o5 : Option Value} {o7 : Option Value} {o8 : Option Value} {o10 : Option Value} {fs1 : List Value} {y3 : Nat} {n5 : Nat} {f6 : Nat → Option Nat} {r9 : Nat} {n11 : Nat} {f12 : Nat → Int64}  (e2 : h.2.2 r0 = some (.inr (7, fs1))) (e4 : fs1[11]? = some (.ref y3)) (e7 : h.2.2 y3 = some (.inl (7, n5, .inr (.inr (.inr (.inr f6)))))) (e8 : 0 ≤ (x4 : Int32).toInt ∧ (x4 : Int32).toInt < (n5 : Nat)) (e10 : (f6 (x4 : Int32).toNatClampNeg) = some r9) (e13 : h.2.2 r9 = some (.inl (2, n11, .inr (.inl f12)))) (e14 : 0 ≤ (x4 : Int32).toInt ∧ (x4 : Int32).toInt < (n11 : Nat)) (e15 : ((lg_cmp ((f12 (x4 : Int32).toNatClampNeg)) 0) : Int32) = 0) (kk : qE d 234 36 [some (.ref r0), some (.int x1), some (.long l2), none, some (.int x4), some (.long (f12 (x4 : Int32).toNatClampNeg)), none, o7, o8, none, o10] [] h q): qE d 234 11 [some (.ref r0), some (.int x1), some (.long l2), none, some (.int x4), o5, none, o7, o8, none, o10] [] h q := by
  refine qe_aload_n c234_11 rfl ?_
  refine qe_getfield c234_12 qo234 qF7_39 e2 e4 ?_
  refine qe_iload c234_15 rfl ?_
  refine qe_aaload c234_17 e7 e8 (Or.inr (Or.inr rfl)) e10 ?_
  refine qe_iload c234_18 rfl ?_
  refine qe_laload c234_20 e13 e14 ?_
  refine qe_lstore (ls2 := [some (.ref r0), some (.int x1), some (.long l2), none, some (.int x4), some (.long (f12 (x4 : Int32).toNatClampNeg)), none, o7, o8, none, o10]) c234_21 (Nat.le_of_ble_eq_true rfl) rfl ?_
  refine qe_lload c234_23 rfl ?_
  refine qe_lconst (x := 0) c234_25 (by decide) ?_
  refine qe_lcmp c234_26 ?_
  refine qe_if_eq_T (t := 36) c234_27 rfl e15 ?_
  exact kk
theorem b234_30F {d : Nat} {q : Option Value × qH} {h : qH} {r0 : Nat} {x1 : Int32} {l2 : Int64} {x4 : Int32} {l5 : Int64} {o7 : Option Value} {o8 : Option Value} {o10 : Option Value}  (e1 : ((lg_cmp l2 0) : Int32) = 0) (kk : qE d 234 36 [some (.ref r0), some (.int x1), some (.long l2), none, some (.int x4), some (.long l5), none, o7, o8, none, o10] [] h q): qE d 234 30 [some (.ref r0), some (.int x1), some (.long l2), none, some (.int x4), some (.long l5), none, o7, o8, none, o10] [] h q := by
  refine qe_lload_n c234_30 rfl ?_
  refine qe_lconst (x := 0) c234_31 (by decide) ?_
  refine qe_lcmp c234_32 ?_
  refine qe_if_ne_F (t := 38) c234_33 rfl e1 ?_
  exact kk
theorem b234_30T {d : Nat} {q : Option Value × qH} {h : qH} {r0 : Nat} {x1 : Int32} {l2 : Int64} {x4 : Int32} {l5 : Int64} {o7 : Option Value} {o8 : Option Value} {o10 : Option Value}  (e1 : ¬ (((lg_cmp l2 0) : Int32) = 0)) (kk : qE d 234 38 [some (.ref r0), some (.int x1), some (.long l2), none, some (.int x4), some (.long l5), none, o7, o8, none, o10] [] h q): qE d 234 30 [some (.ref r0), some (.int x1), some (.long l2), none, some (.int x4), some (.long l5), none, o7, o8, none, o10] [] h q := by
  refine qe_lload_n c234_30 rfl ?_
  refine qe_lconst (x := 0) c234_31 (by decide) ?_
  refine qe_lcmp c234_32 ?_
  refine qe_if_ne_T (t := 38) c234_33 rfl e1 ?_
  exact kk
theorem b234_36 {d : Nat} {h : qH} {r0 : Nat} {x1 : Int32} {l2 : Int64} {x4 : Int32} {l5 : Int64} {o7 : Option Value} {o8 : Option Value} {o10 : Option Value}   : qE d 234 36 [some (.ref r0), some (.int x1), some (.long l2), none, some (.int x4), some (.long l5), none, o7, o8, none, o10] [] h (some (.long 0), h) := by
  refine qe_lconst (x := 0) c234_36 (by decide) ?_
  exact qe_lret c234_37 qr234
theorem b234_38 {d : Nat} {q : Option Value × qH} {h : qH} {r0 : Nat} {x1 : Int32} {l2 : Int64} {x4 : Int32} {l5 : Int64} {o7 : Option Value} {o8 : Option Value} {o10 : Option Value}   (kk : qE d 234 41 [some (.ref r0), some (.int x1), some (.long l2), none, some (.int x4), some (.long l5), none, some (.int 0), o8, none, o10] [] h q): qE d 234 38 [some (.ref r0), some (.int x1), some (.long l2), none, some (.int x4), some (.long l5), none, o7, o8, none, o10] [] h q := by
  refine qe_iconst (x := 0) c234_38 (by decide) ?_
  refine qe_istore (ls2 := [some (.ref r0), some (.int x1), some (.long l2), none, some (.int x4), some (.long l5), none, some (.int 0), o8, none, o10]) c234_39 (Nat.le_of_ble_eq_true rfl) rfl ?_
  exact kk
theorem b234_41F {d : Nat} {q : Option Value × qH} {h : qH} {r0 : Nat} {x1 : Int32} {l2 : Int64} {x4 : Int32} {l5 : Int64} {x7 : Int32} {o8 : Option Value} {o10 : Option Value}  (e1 : ¬ ((x1 : Int32) ≤ x7)) (kk : qE d 234 47 [some (.ref r0), some (.int x1), some (.long l2), none, some (.int x4), some (.long l5), none, some (.int x7), o8, none, o10] [] h q): qE d 234 41 [some (.ref r0), some (.int x1), some (.long l2), none, some (.int x4), some (.long l5), none, some (.int x7), o8, none, o10] [] h q := by
  refine qe_iload c234_41 rfl ?_
  refine qe_iload_n c234_43 rfl ?_
  refine qe_icmp_ge_F (t := 129) c234_44 rfl e1 ?_
  exact kk
theorem b234_41T {d : Nat} {q : Option Value × qH} {h : qH} {r0 : Nat} {x1 : Int32} {l2 : Int64} {x4 : Int32} {l5 : Int64} {x7 : Int32} {o8 : Option Value} {o10 : Option Value}  (e1 : (x1 : Int32) ≤ x7) (kk : qE d 234 129 [some (.ref r0), some (.int x1), some (.long l2), none, some (.int x4), some (.long l5), none, some (.int x7), o8, none, o10] [] h q): qE d 234 41 [some (.ref r0), some (.int x1), some (.long l2), none, some (.int x4), some (.long l5), none, some (.int x7), o8, none, o10] [] h q := by
  refine qe_iload c234_41 rfl ?_
  refine qe_iload_n c234_43 rfl ?_
  refine qe_icmp_ge_T (t := 129) c234_44 rfl e1 ?_
  exact kk
theorem b234_47 {d : Nat} {q : Option Value × qH} {h : qH} {r0 : Nat} {x1 : Int32} {l2 : Int64} {x4 : Int32} {l5 : Int64} {x7 : Int32} {o8 : Option Value} {o10 : Option Value} {fs1 : List Value} {y3 : Nat} {n5 : Nat} {f6 : Nat → Option Nat} {r9 : Nat} {n11 : Nat} {f12 : Nat → Int64}  (e2 : h.2.2 r0 = some (.inr (7, fs1))) (e4 : fs1[11]? = some (.ref y3)) (e7 : h.2.2 y3 = some (.inl (7, n5, .inr (.inr (.inr (.inr f6)))))) (e8 : 0 ≤ (x7 : Int32).toInt ∧ (x7 : Int32).toInt < (n5 : Nat)) (e10 : (f6 (x7 : Int32).toNatClampNeg) = some r9) (e13 : h.2.2 r9 = some (.inl (2, n11, .inr (.inl f12)))) (e14 : 0 ≤ (x4 : Int32).toInt ∧ (x4 : Int32).toInt < (n11 : Nat)) (kk : qE d 234 65 [some (.ref r0), some (.int x1), some (.long l2), none, some (.int x4), some (.long l5), none, some (.int x7), some (.long (f12 (x4 : Int32).toNatClampNeg)), none, some (.int (x4 + 1))] [] h q): qE d 234 47 [some (.ref r0), some (.int x1), some (.long l2), none, some (.int x4), some (.long l5), none, some (.int x7), o8, none, o10] [] h q := by
  refine qe_aload_n c234_47 rfl ?_
  refine qe_getfield c234_48 qo234 qF7_39 e2 e4 ?_
  refine qe_iload c234_51 rfl ?_
  refine qe_aaload c234_53 e7 e8 (Or.inr (Or.inr rfl)) e10 ?_
  refine qe_iload c234_54 rfl ?_
  refine qe_laload c234_56 e13 e14 ?_
  refine qe_lstore (ls2 := [some (.ref r0), some (.int x1), some (.long l2), none, some (.int x4), some (.long l5), none, some (.int x7), some (.long (f12 (x4 : Int32).toNatClampNeg)), none, o10]) c234_57 (Nat.le_of_ble_eq_true rfl) rfl ?_
  refine qe_iload c234_59 rfl ?_
  refine qe_iconst (x := 1) c234_61 (by decide) ?_
  refine qe_iadd c234_62 ?_
  refine qe_istore (ls2 := [some (.ref r0), some (.int x1), some (.long l2), none, some (.int x4), some (.long l5), none, some (.int x7), some (.long (f12 (x4 : Int32).toNatClampNeg)), none, some (.int (x4 + 1))]) c234_63 (Nat.le_of_ble_eq_true rfl) rfl ?_
  exact kk
theorem b234_65F {d : Nat} {q : Option Value × qH} {h : qH} {r0 : Nat} {x1 : Int32} {l2 : Int64} {x4 : Int32} {l5 : Int64} {x7 : Int32} {l8 : Int64} {x10 : Int32}  (e1 : ¬ ((x1 : Int32) < x10)) (kk : qE d 234 71 [some (.ref r0), some (.int x1), some (.long l2), none, some (.int x4), some (.long l5), none, some (.int x7), some (.long l8), none, some (.int x10)] [] h q): qE d 234 65 [some (.ref r0), some (.int x1), some (.long l2), none, some (.int x4), some (.long l5), none, some (.int x7), some (.long l8), none, some (.int x10)] [] h q := by
  refine qe_iload c234_65 rfl ?_
  refine qe_iload_n c234_67 rfl ?_
  refine qe_icmp_gt_F (t := 123) c234_68 rfl e1 ?_
  exact kk
theorem b234_65T {d : Nat} {q : Option Value × qH} {h : qH} {r0 : Nat} {x1 : Int32} {l2 : Int64} {x4 : Int32} {l5 : Int64} {x7 : Int32} {l8 : Int64} {x10 : Int32}  (e1 : (x1 : Int32) < x10) (kk : qE d 234 123 [some (.ref r0), some (.int x1), some (.long l2), none, some (.int x4), some (.long l5), none, some (.int x7), some (.long l8), none, some (.int x10)] [] h q): qE d 234 65 [some (.ref r0), some (.int x1), some (.long l2), none, some (.int x4), some (.long l5), none, some (.int x7), some (.long l8), none, some (.int x10)] [] h q := by
  refine qe_iload c234_65 rfl ?_
  refine qe_iload_n c234_67 rfl ?_
  refine qe_icmp_gt_T (t := 123) c234_68 rfl e1 ?_
  exact kk
theorem b234_71F {d : Nat} {q : Option Value × qH} {h : qH} {r0 : Nat} {x1 : Int32} {l2 : Int64} {x4 : Int32} {l5 : Int64} {x7 : Int32} {l8 : Int64} {x10 : Int32}  (e1 : ¬ ((x7 : Int32) = x4)) (kk : qE d 234 78 [some (.ref r0), some (.int x1), some (.long l2), none, some (.int x4), some (.long l5), none, some (.int x7), some (.long l8), none, some (.int x10)] [] h q): qE d 234 71 [some (.ref r0), some (.int x1), some (.long l2), none, some (.int x4), some (.long l5), none, some (.int x7), some (.long l8), none, some (.int x10)] [] h q := by
  refine qe_iload c234_71 rfl ?_
  refine qe_iload c234_73 rfl ?_
  refine qe_icmp_eq_F (t := 123) c234_75 rfl e1 ?_
  exact kk
theorem b234_71T {d : Nat} {q : Option Value × qH} {h : qH} {r0 : Nat} {x1 : Int32} {l2 : Int64} {x4 : Int32} {l5 : Int64} {x7 : Int32} {l8 : Int64} {x10 : Int32}  (e1 : (x7 : Int32) = x4) (kk : qE d 234 123 [some (.ref r0), some (.int x1), some (.long l2), none, some (.int x4), some (.long l5), none, some (.int x7), some (.long l8), none, some (.int x10)] [] h q): qE d 234 71 [some (.ref r0), some (.int x1), some (.long l2), none, some (.int x4), some (.long l5), none, some (.int x7), some (.long l8), none, some (.int x10)] [] h q := by
  refine qe_iload c234_71 rfl ?_
  refine qe_iload c234_73 rfl ?_
  refine qe_icmp_eq_T (t := 123) c234_75 rfl e1 ?_
  exact kk
theorem b234_78 {d : Nat} {q : Option Value × qH} {h : qH} {r0 : Nat} {x1 : Int32} {l2 : Int64} {x4 : Int32} {l5 : Int64} {x7 : Int32} {l8 : Int64} {x10 : Int32} {fs1 : List Value} {y3 : Nat} {n5 : Nat} {f6 : Nat → Option Nat} {r9 : Nat} {r13 : Nat} {n15 : Nat} {f16 : Nat → Int64} {r21 : Nat} {n23 : Nat} {f24 : Nat → Int64} {n28 : Nat} {f29 : Nat → Int64} {h1 : qH}  (e2 : h.2.2 r0 = some (.inr (7, fs1))) (e4 : fs1[11]? = some (.ref y3)) (e7 : h.2.2 y3 = some (.inl (7, n5, .inr (.inr (.inr (.inr f6)))))) (e8 : 0 ≤ (x7 : Int32).toInt ∧ (x7 : Int32).toInt < (n5 : Nat)) (e10 : (f6 (x7 : Int32).toNatClampNeg) = some r9) (e12 : 0 ≤ (x7 : Int32).toInt ∧ (x7 : Int32).toInt < (n5 : Nat)) (e14 : (f6 (x7 : Int32).toNatClampNeg) = some r13) (e17 : h.2.2 r13 = some (.inl (2, n15, .inr (.inl f16)))) (e18 : 0 ≤ (x10 : Int32).toInt ∧ (x10 : Int32).toInt < (n15 : Nat)) (e20 : 0 ≤ (x4 : Int32).toInt ∧ (x4 : Int32).toInt < (n5 : Nat)) (e22 : (f6 (x4 : Int32).toNatClampNeg) = some r21) (e25 : h.2.2 r21 = some (.inl (2, n23, .inr (.inl f24)))) (e26 : 0 ≤ (x10 : Int32).toInt ∧ (x10 : Int32).toInt < (n23 : Nat)) (e27 : ¬ (l2 : Int64) = 0) (e30 : h.2.2 r9 = some (.inl (2, n28, .inr (.inl f29)))) (e31 : 0 ≤ (x10 : Int32).toInt ∧ (x10 : Int32).toInt < (n28 : Nat)) (e32 : qset h r9 (.inl (2, n28, .inr (.inl (vp_updL f29 ((x10 : Int32).toNatClampNeg) ((((l5 * (f16 (x10 : Int32).toNatClampNeg)) - (l8 * (f24 (x10 : Int32).toNatClampNeg))) / l2)))))) = h1) (kk : qE d 234 65 [some (.ref r0), some (.int x1), some (.long l2), none, some (.int x4), some (.long l5), none, some (.int x7), some (.long l8), none, some (.int (x10 + 1))] [] h1 q): qE d 234 78 [some (.ref r0), some (.int x1), some (.long l2), none, some (.int x4), some (.long l5), none, some (.int x7), some (.long l8), none, some (.int x10)] [] h q := by
  refine qe_aload_n c234_78 rfl ?_
  refine qe_getfield c234_79 qo234 qF7_39 e2 e4 ?_
  refine qe_iload c234_82 rfl ?_
  refine qe_aaload c234_84 e7 e8 (Or.inr (Or.inr rfl)) e10 ?_
  refine qe_iload c234_85 rfl ?_
  refine qe_lload c234_87 rfl ?_
  refine qe_aload_n c234_89 rfl ?_
  refine qe_getfield c234_90 qo234 qF7_39 e2 e4 ?_
  refine qe_iload c234_93 rfl ?_
  refine qe_aaload c234_95 e7 e12 (Or.inr (Or.inr rfl)) e14 ?_
  refine qe_iload c234_96 rfl ?_
  refine qe_laload c234_98 e17 e18 ?_
  refine qe_lmul c234_99 ?_
  refine qe_lload c234_100 rfl ?_
  refine qe_aload_n c234_102 rfl ?_
  refine qe_getfield c234_103 qo234 qF7_39 e2 e4 ?_
  refine qe_iload c234_106 rfl ?_
  refine qe_aaload c234_108 e7 e20 (Or.inr (Or.inr rfl)) e22 ?_
  refine qe_iload c234_109 rfl ?_
  refine qe_laload c234_111 e25 e26 ?_
  refine qe_lmul c234_112 ?_
  refine qe_lsub c234_113 ?_
  refine qe_lload_n c234_114 rfl ?_
  refine qe_ldiv c234_115 e27 ?_
  refine qe_lastore c234_116 e30 e31 ?_
  rw [e32]
  refine qe_iinc (y := (x10 + 1)) (ls2 := [some (.ref r0), some (.int x1), some (.long l2), none, some (.int x4), some (.long l5), none, some (.int x7), some (.long l8), none, some (.int (x10 + 1))]) c234_117 rfl (Nat.le_of_ble_eq_true rfl) rfl rfl ?_
  refine qe_goto (t := 65) c234_120 rfl ?_
  exact kk
theorem b234_123 {d : Nat} {q : Option Value × qH} {h : qH} {r0 : Nat} {x1 : Int32} {l2 : Int64} {x4 : Int32} {l5 : Int64} {x7 : Int32} {l8 : Int64} {x10 : Int32}   (kk : qE d 234 41 [some (.ref r0), some (.int x1), some (.long l2), none, some (.int x4), some (.long l5), none, some (.int (x7 + 1)), some (.long l8), none, some (.int x10)] [] h q): qE d 234 123 [some (.ref r0), some (.int x1), some (.long l2), none, some (.int x4), some (.long l5), none, some (.int x7), some (.long l8), none, some (.int x10)] [] h q := by
  refine qe_iinc (y := (x7 + 1)) (ls2 := [some (.ref r0), some (.int x1), some (.long l2), none, some (.int x4), some (.long l5), none, some (.int (x7 + 1)), some (.long l8), none, some (.int x10)]) c234_123 rfl (Nat.le_of_ble_eq_true rfl) rfl rfl ?_
  refine qe_goto (t := 41) c234_126 rfl ?_
  exact kk
theorem b234_129 {d : Nat} {q : Option Value × qH} {h : qH} {r0 : Nat} {x1 : Int32} {l2 : Int64} {x4 : Int32} {l5 : Int64} {x7 : Int32} {o8 : Option Value} {o10 : Option Value}   (kk : qE d 234 5 [some (.ref r0), some (.int x1), some (.long l5), none, some (.int (x4 + 1)), some (.long l5), none, some (.int x7), o8, none, o10] [] h q): qE d 234 129 [some (.ref r0), some (.int x1), some (.long l2), none, some (.int x4), some (.long l5), none, some (.int x7), o8, none, o10] [] h q := by
  refine qe_lload c234_129 rfl ?_
  refine qe_lstore_n (ls2 := [some (.ref r0), some (.int x1), some (.long l5), none, some (.int x4), some (.long l5), none, some (.int x7), o8, none, o10]) c234_131 (Nat.le_of_ble_eq_true rfl) rfl ?_
  refine qe_iinc (y := (x4 + 1)) (ls2 := [some (.ref r0), some (.int x1), some (.long l5), none, some (.int (x4 + 1)), some (.long l5), none, some (.int x7), o8, none, o10]) c234_132 rfl (Nat.le_of_ble_eq_true rfl) rfl rfl ?_
  refine qe_goto (t := 5) c234_135 rfl ?_
  exact kk
theorem b234_138 {d : Nat} {h : qH} {r0 : Nat} {x1 : Int32} {l2 : Int64} {x4 : Int32} {o5 : Option Value} {o7 : Option Value} {o8 : Option Value} {o10 : Option Value}   : qE d 234 138 [some (.ref r0), some (.int x1), some (.long l2), none, some (.int x4), o5, none, o7, o8, none, o10] [] h (some (.long l2), h) := by
  refine qe_lload_n c234_138 rfl ?_
  exact qe_lret c234_139 qr234
theorem b235_0 {d : Nat} {q : Option Value × qH} {h : qH} {r0 : Nat} {r1 : Nat} {r2 : Nat} {x3 : Int32}   (kk : qE d 235 6 [some (.ref r0), some (.ref r1), some (.ref r2), some (.int x3), some (.int 0), some (.int 0)] [] h q): qE d 235 0 [some (.ref r0), some (.ref r1), some (.ref r2), some (.int x3), none, none] [] h q := by
  refine qe_iconst (x := 0) c235_0 (by decide) ?_
  refine qe_istore (ls2 := [some (.ref r0), some (.ref r1), some (.ref r2), some (.int x3), some (.int 0), none]) c235_1 (Nat.le_of_ble_eq_true rfl) rfl ?_
  refine qe_iconst (x := 0) c235_3 (by decide) ?_
  refine qe_istore (ls2 := [some (.ref r0), some (.ref r1), some (.ref r2), some (.int x3), some (.int 0), some (.int 0)]) c235_4 (Nat.le_of_ble_eq_true rfl) rfl ?_
  exact kk
theorem b235_6F {d : Nat} {q : Option Value × qH} {h : qH} {r0 : Nat} {r1 : Nat} {r2 : Nat} {x3 : Int32} {x4 : Int32} {x5 : Int32} {fs1 : List Value} {y3 : Int32}  (e2 : h.2.2 r1 = some (.inr (4, fs1))) (e4 : fs1[0]? = some (.int y3)) (e5 : ¬ ((y3 : Int32) ≤ x5)) (kk : qE d 235 15 [some (.ref r0), some (.ref r1), some (.ref r2), some (.int x3), some (.int x4), some (.int x5)] [] h q): qE d 235 6 [some (.ref r0), some (.ref r1), some (.ref r2), some (.int x3), some (.int x4), some (.int x5)] [] h q := by
  refine qe_iload c235_6 rfl ?_
  refine qe_aload_n c235_8 rfl ?_
  refine qe_getfield c235_9 qo235 qF7_68 e2 e4 ?_
  refine qe_icmp_ge_F (t := 50) c235_12 rfl e5 ?_
  exact kk
theorem b235_6T {d : Nat} {q : Option Value × qH} {h : qH} {r0 : Nat} {r1 : Nat} {r2 : Nat} {x3 : Int32} {x4 : Int32} {x5 : Int32} {fs1 : List Value} {y3 : Int32}  (e2 : h.2.2 r1 = some (.inr (4, fs1))) (e4 : fs1[0]? = some (.int y3)) (e5 : (y3 : Int32) ≤ x5) (kk : qE d 235 50 [some (.ref r0), some (.ref r1), some (.ref r2), some (.int x3), some (.int x4), some (.int x5)] [] h q): qE d 235 6 [some (.ref r0), some (.ref r1), some (.ref r2), some (.int x3), some (.int x4), some (.int x5)] [] h q := by
  refine qe_iload c235_6 rfl ?_
  refine qe_aload_n c235_8 rfl ?_
  refine qe_getfield c235_9 qo235 qF7_68 e2 e4 ?_
  refine qe_icmp_ge_T (t := 50) c235_12 rfl e5 ?_
  exact kk
theorem b235_15F {d : Nat} {q : Option Value × qH} {h : qH} {r0 : Nat} {r1 : Nat} {r2 : Nat} {x3 : Int32} {x4 : Int32} {x5 : Int32} {fs1 : List Value} {y3 : Nat} {n5 : Nat} {f6 : Nat → Int32}  (e2 : h.2.2 r0 = some (.inr (7, fs1))) (e4 : fs1[4]? = some (.ref y3)) (e7 : h.2.2 y3 = some (.inl (0, n5, .inl f6))) (e8 : 0 ≤ (x5 : Int32).toInt ∧ (x5 : Int32).toInt < (n5 : Nat)) (e9 : ((f6 (x5 : Int32).toNatClampNeg) : Int32) = x3) (kk : qE d 235 26 [some (.ref r0), some (.ref r1), some (.ref r2), some (.int x3), some (.int x4), some (.int x5)] [] h q): qE d 235 15 [some (.ref r0), some (.ref r1), some (.ref r2), some (.int x3), some (.int x4), some (.int x5)] [] h q := by
  refine qe_aload_n c235_15 rfl ?_
  refine qe_getfield c235_16 qo235 qF7_15 e2 e4 ?_
  refine qe_iload c235_19 rfl ?_
  refine qe_iaload c235_21 e7 e8 ?_
  refine qe_iload_n c235_22 rfl ?_
  refine qe_icmp_ne_F (t := 44) c235_23 rfl e9 ?_
  exact kk
theorem b235_15T {d : Nat} {q : Option Value × qH} {h : qH} {r0 : Nat} {r1 : Nat} {r2 : Nat} {x3 : Int32} {x4 : Int32} {x5 : Int32} {fs1 : List Value} {y3 : Nat} {n5 : Nat} {f6 : Nat → Int32}  (e2 : h.2.2 r0 = some (.inr (7, fs1))) (e4 : fs1[4]? = some (.ref y3)) (e7 : h.2.2 y3 = some (.inl (0, n5, .inl f6))) (e8 : 0 ≤ (x5 : Int32).toInt ∧ (x5 : Int32).toInt < (n5 : Nat)) (e9 : ¬ (((f6 (x5 : Int32).toNatClampNeg) : Int32) = x3)) (kk : qE d 235 44 [some (.ref r0), some (.ref r1), some (.ref r2), some (.int x3), some (.int x4), some (.int x5)] [] h q): qE d 235 15 [some (.ref r0), some (.ref r1), some (.ref r2), some (.int x3), some (.int x4), some (.int x5)] [] h q := by
  refine qe_aload_n c235_15 rfl ?_
  refine qe_getfield c235_16 qo235 qF7_15 e2 e4 ?_
  refine qe_iload c235_19 rfl ?_
  refine qe_iaload c235_21 e7 e8 ?_
  refine qe_iload_n c235_22 rfl ?_
  refine qe_icmp_ne_T (t := 44) c235_23 rfl e9 ?_
  exact kk
theorem b235_26F {d : Nat} {q : Option Value × qH} {h : qH} {r0 : Nat} {r1 : Nat} {r2 : Nat} {x3 : Int32} {x4 : Int32} {x5 : Int32}  (e1 : ¬ ((x5 : Int32) = x3)) (kk : qE d 235 32 [some (.ref r0), some (.ref r1), some (.ref r2), some (.int x3), some (.int x4), some (.int x5)] [] h q): qE d 235 26 [some (.ref r0), some (.ref r1), some (.ref r2), some (.int x3), some (.int x4), some (.int x5)] [] h q := by
  refine qe_iload c235_26 rfl ?_
  refine qe_iload_n c235_28 rfl ?_
  refine qe_icmp_eq_F (t := 44) c235_29 rfl e1 ?_
  exact kk
theorem b235_26T {d : Nat} {q : Option Value × qH} {h : qH} {r0 : Nat} {r1 : Nat} {r2 : Nat} {x3 : Int32} {x4 : Int32} {x5 : Int32}  (e1 : (x5 : Int32) = x3) (kk : qE d 235 44 [some (.ref r0), some (.ref r1), some (.ref r2), some (.int x3), some (.int x4), some (.int x5)] [] h q): qE d 235 26 [some (.ref r0), some (.ref r1), some (.ref r2), some (.int x3), some (.int x4), some (.int x5)] [] h q := by
  refine qe_iload c235_26 rfl ?_
  refine qe_iload_n c235_28 rfl ?_
  refine qe_icmp_eq_T (t := 44) c235_29 rfl e1 ?_
  exact kk
theorem b235_32 {d : Nat} {q : Option Value × qH} {h : qH} {r0 : Nat} {r1 : Nat} {r2 : Nat} {x3 : Int32} {x4 : Int32} {x5 : Int32} {fs1 : List Value} {y3 : Nat} {n5 : Nat} {f6 : Nat → Int32} {h1 : qH}  (e2 : h.2.2 r0 = some (.inr (7, fs1))) (e4 : fs1[9]? = some (.ref y3)) (e7 : h.2.2 y3 = some (.inl (0, n5, .inl f6))) (e8 : 0 ≤ (x5 : Int32).toInt ∧ (x5 : Int32).toInt < (n5 : Nat)) (e9 : qset h y3 (.inl (0, n5, .inl (upd f6 ((x5 : Int32).toNatClampNeg) x4))) = h1) (kk : qE d 235 44 [some (.ref r0), some (.ref r1), some (.ref r2), some (.int x3), some (.int (x4 + 1)), some (.int x5)] [] h1 q): qE d 235 32 [some (.ref r0), some (.ref r1), some (.ref r2), some (.int x3), some (.int x4), some (.int x5)] [] h q := by
  refine qe_aload_n c235_32 rfl ?_
  refine qe_getfield c235_33 qo235 qF7_31 e2 e4 ?_
  refine qe_iload c235_36 rfl ?_
  refine qe_iload c235_38 rfl ?_
  refine qe_iastore c235_40 e7 e8 ?_
  rw [e9]
  refine qe_iinc (y := (x4 + 1)) (ls2 := [some (.ref r0), some (.ref r1), some (.ref r2), some (.int x3), some (.int (x4 + 1)), some (.int x5)]) c235_41 rfl (Nat.le_of_ble_eq_true rfl) rfl rfl ?_
  exact kk
theorem b235_44 {d : Nat} {q : Option Value × qH} {h : qH} {r0 : Nat} {r1 : Nat} {r2 : Nat} {x3 : Int32} {x4 : Int32} {x5 : Int32}   (kk : qE d 235 6 [some (.ref r0), some (.ref r1), some (.ref r2), some (.int x3), some (.int x4), some (.int (x5 + 1))] [] h q): qE d 235 44 [some (.ref r0), some (.ref r1), some (.ref r2), some (.int x3), some (.int x4), some (.int x5)] [] h q := by
  refine qe_iinc (y := (x5 + 1)) (ls2 := [some (.ref r0), some (.ref r1), some (.ref r2), some (.int x3), some (.int x4), some (.int (x5 + 1))]) c235_44 rfl (Nat.le_of_ble_eq_true rfl) rfl rfl ?_
  refine qe_goto (t := 6) c235_47 rfl ?_
  exact kk
theorem b235_50 {d : Nat} {q : Option Value × qH} {h : qH} {r0 : Nat} {r1 : Nat} {r2 : Nat} {x3 : Int32} {x4 : Int32} {x5 : Int32}   (kk : qE d 235 53 [some (.ref r0), some (.ref r1), some (.ref r2), some (.int x3), some (.int x4), some (.int 0)] [] h q): qE d 235 50 [some (.ref r0), some (.ref r1), some (.ref r2), some (.int x3), some (.int x4), some (.int x5)] [] h q := by
  refine qe_iconst (x := 0) c235_50 (by decide) ?_
  refine qe_istore (ls2 := [some (.ref r0), some (.ref r1), some (.ref r2), some (.int x3), some (.int x4), some (.int 0)]) c235_51 (Nat.le_of_ble_eq_true rfl) rfl ?_
  exact kk
theorem b235_53F {d : Nat} {q : Option Value × qH} {h : qH} {r0 : Nat} {r1 : Nat} {r2 : Nat} {x3 : Int32} {x4 : Int32} {x5 : Int32} {fs1 : List Value} {y3 : Int32}  (e2 : h.2.2 r1 = some (.inr (4, fs1))) (e4 : fs1[0]? = some (.int y3)) (e5 : ¬ ((y3 : Int32) ≤ x5)) (kk : qE d 235 62 [some (.ref r0), some (.ref r1), some (.ref r2), some (.int x3), some (.int x4), some (.int x5)] [] h q): qE d 235 53 [some (.ref r0), some (.ref r1), some (.ref r2), some (.int x3), some (.int x4), some (.int x5)] [] h q := by
  refine qe_iload c235_53 rfl ?_
  refine qe_aload_n c235_55 rfl ?_
  refine qe_getfield c235_56 qo235 qF7_68 e2 e4 ?_
  refine qe_icmp_ge_F (t := 124) c235_59 rfl e5 ?_
  exact kk
theorem b235_53T {d : Nat} {q : Option Value × qH} {h : qH} {r0 : Nat} {r1 : Nat} {r2 : Nat} {x3 : Int32} {x4 : Int32} {x5 : Int32} {fs1 : List Value} {y3 : Int32}  (e2 : h.2.2 r1 = some (.inr (4, fs1))) (e4 : fs1[0]? = some (.int y3)) (e5 : (y3 : Int32) ≤ x5) (kk : qE d 235 124 [some (.ref r0), some (.ref r1), some (.ref r2), some (.int x3), some (.int x4), some (.int x5)] [] h q): qE d 235 53 [some (.ref r0), some (.ref r1), some (.ref r2), some (.int x3), some (.int x4), some (.int x5)] [] h q := by
  refine qe_iload c235_53 rfl ?_
  refine qe_aload_n c235_55 rfl ?_
  refine qe_getfield c235_56 qo235 qF7_68 e2 e4 ?_
  refine qe_icmp_ge_T (t := 124) c235_59 rfl e5 ?_
  exact kk
theorem b235_62F {d : Nat} {q : Option Value × qH} {h : qH} {r0 : Nat} {r1 : Nat} {r2 : Nat} {x3 : Int32} {x4 : Int32} {x5 : Int32} {fs1 : List Value} {y3 : Nat} {n5 : Nat} {f6 : Nat → Int32}  (e2 : h.2.2 r0 = some (.inr (7, fs1))) (e4 : fs1[4]? = some (.ref y3)) (e7 : h.2.2 y3 = some (.inl (0, n5, .inl f6))) (e8 : 0 ≤ (x5 : Int32).toInt ∧ (x5 : Int32).toInt < (n5 : Nat)) (e9 : ((f6 (x5 : Int32).toNatClampNeg) : Int32) = x3) (kk : qE d 235 73 [some (.ref r0), some (.ref r1), some (.ref r2), some (.int x3), some (.int x4), some (.int x5)] [] h q): qE d 235 62 [some (.ref r0), some (.ref r1), some (.ref r2), some (.int x3), some (.int x4), some (.int x5)] [] h q := by
  refine qe_aload_n c235_62 rfl ?_
  refine qe_getfield c235_63 qo235 qF7_15 e2 e4 ?_
  refine qe_iload c235_66 rfl ?_
  refine qe_iaload c235_68 e7 e8 ?_
  refine qe_iload_n c235_69 rfl ?_
  refine qe_icmp_ne_F (t := 118) c235_70 rfl e9 ?_
  exact kk
theorem b235_62T {d : Nat} {q : Option Value × qH} {h : qH} {r0 : Nat} {r1 : Nat} {r2 : Nat} {x3 : Int32} {x4 : Int32} {x5 : Int32} {fs1 : List Value} {y3 : Nat} {n5 : Nat} {f6 : Nat → Int32}  (e2 : h.2.2 r0 = some (.inr (7, fs1))) (e4 : fs1[4]? = some (.ref y3)) (e7 : h.2.2 y3 = some (.inl (0, n5, .inl f6))) (e8 : 0 ≤ (x5 : Int32).toInt ∧ (x5 : Int32).toInt < (n5 : Nat)) (e9 : ¬ (((f6 (x5 : Int32).toNatClampNeg) : Int32) = x3)) (kk : qE d 235 118 [some (.ref r0), some (.ref r1), some (.ref r2), some (.int x3), some (.int x4), some (.int x5)] [] h q): qE d 235 62 [some (.ref r0), some (.ref r1), some (.ref r2), some (.int x3), some (.int x4), some (.int x5)] [] h q := by
  refine qe_aload_n c235_62 rfl ?_
  refine qe_getfield c235_63 qo235 qF7_15 e2 e4 ?_
  refine qe_iload c235_66 rfl ?_
  refine qe_iaload c235_68 e7 e8 ?_
  refine qe_iload_n c235_69 rfl ?_
  refine qe_icmp_ne_T (t := 118) c235_70 rfl e9 ?_
  exact kk
theorem b235_73F {d : Nat} {q : Option Value × qH} {h : qH} {r0 : Nat} {r1 : Nat} {r2 : Nat} {x3 : Int32} {x4 : Int32} {x5 : Int32}  (e1 : ¬ ((x5 : Int32) = x3)) (kk : qE d 235 79 [some (.ref r0), some (.ref r1), some (.ref r2), some (.int x3), some (.int x4), some (.int x5)] [] h q): qE d 235 73 [some (.ref r0), some (.ref r1), some (.ref r2), some (.int x3), some (.int x4), some (.int x5)] [] h q := by
  refine qe_iload c235_73 rfl ?_
  refine qe_iload_n c235_75 rfl ?_
  refine qe_icmp_eq_F (t := 118) c235_76 rfl e1 ?_
  exact kk
theorem b235_73T {d : Nat} {q : Option Value × qH} {h : qH} {r0 : Nat} {r1 : Nat} {r2 : Nat} {x3 : Int32} {x4 : Int32} {x5 : Int32}  (e1 : (x5 : Int32) = x3) (kk : qE d 235 118 [some (.ref r0), some (.ref r1), some (.ref r2), some (.int x3), some (.int x4), some (.int x5)] [] h q): qE d 235 73 [some (.ref r0), some (.ref r1), some (.ref r2), some (.int x3), some (.int x4), some (.int x5)] [] h q := by
  refine qe_iload c235_73 rfl ?_
  refine qe_iload_n c235_75 rfl ?_
  refine qe_icmp_eq_T (t := 118) c235_76 rfl e1 ?_
  exact kk
theorem b235_79 {d : Nat} {q : Option Value × qH} {h : qH} {r0 : Nat} {r1 : Nat} {r2 : Nat} {x3 : Int32} {x4 : Int32} {x5 : Int32} {fs1 : List Value} {y3 : Nat} {y5 : Nat} {n7 : Nat} {f8 : Nat → Int32} {n11 : Nat} {f12 : Nat → Option Nat} {r15 : Nat} {h1 : qH} {fs18 : List Value} {y20 : Nat} {y22 : Nat} {n24 : Nat} {f25 : Nat → Int32} {n28 : Nat} {f29 : Nat → Option Nat} {r32 : Nat} {y34 : Nat} {n36 : Nat} {f37 : Nat → Int32} {n40 : Nat} {f41 : Nat → Int64} {h2 : qH}  (e2 : h.2.2 r0 = some (.inr (7, fs1))) (e4 : fs1[11]? = some (.ref y3)) (e6 : fs1[9]? = some (.ref y5)) (e9 : h.2.2 y5 = some (.inl (0, n7, .inl f8))) (e10 : 0 ≤ (x5 : Int32).toInt ∧ (x5 : Int32).toInt < (n7 : Nat)) (e13 : h.2.2 y3 = some (.inl (7, n11, .inr (.inr (.inr (.inr f12)))))) (e14 : 0 ≤ ((f8 (x5 : Int32).toNatClampNeg) : Int32).toInt ∧ ((f8 (x5 : Int32).toNatClampNeg) : Int32).toInt < (n11 : Nat)) (e16 : (f12 ((f8 (x5 : Int32).toNatClampNeg) : Int32).toNatClampNeg) = some r15) (e17 : qCall d 3 [.ref r15, .long 0] h (none, h1)) (e19 : h1.2.2 r0 = some (.inr (7, fs18))) (e21 : fs18[11]? = some (.ref y20)) (e23 : fs18[9]? = some (.ref y22)) (e26 : h1.2.2 y22 = some (.inl (0, n24, .inl f25))) (e27 : 0 ≤ (x5 : Int32).toInt ∧ (x5 : Int32).toInt < (n24 : Nat)) (e30 : h1.2.2 y20 = some (.inl (7, n28, .inr (.inr (.inr (.inr f29)))))) (e31 : 0 ≤ ((f25 (x5 : Int32).toNatClampNeg) : Int32).toInt ∧ ((f25 (x5 : Int32).toNatClampNeg) : Int32).toInt < (n28 : Nat)) (e33 : (f29 ((f25 (x5 : Int32).toNatClampNeg) : Int32).toNatClampNeg) = some r32) (e35 : fs18[8]? = some (.ref y34)) (e38 : h1.2.2 y34 = some (.inl (0, n36, .inl f37))) (e39 : 0 ≤ (x5 : Int32).toInt ∧ (x5 : Int32).toInt < (n36 : Nat)) (e42 : h1.2.2 r32 = some (.inl (2, n40, .inr (.inl f41)))) (e43 : 0 ≤ (x4 : Int32).toInt ∧ (x4 : Int32).toInt < (n40 : Nat)) (e44 : qset h1 r32 (.inl (2, n40, .inr (.inl (vp_updL f41 ((x4 : Int32).toNatClampNeg) (((f37 (x5 : Int32).toNatClampNeg) : Int32).toInt64))))) = h2) (kk : qE d 235 118 [some (.ref r0), some (.ref r1), some (.ref r2), some (.int x3), some (.int x4), some (.int x5)] [] h2 q): qE d 235 79 [some (.ref r0), some (.ref r1), some (.ref r2), some (.int x3), some (.int x4), some (.int x5)] [] h q := by
  refine qe_aload_n c235_79 rfl ?_
  refine qe_getfield c235_80 qo235 qF7_39 e2 e4 ?_
  refine qe_aload_n c235_83 rfl ?_
  refine qe_getfield c235_84 qo235 qF7_31 e2 e6 ?_
  refine qe_iload c235_87 rfl ?_
  refine qe_iaload c235_89 e9 e10 ?_
  refine qe_aaload c235_90 e13 e14 (Or.inr (Or.inr rfl)) e16 ?_
  refine qe_lconst (x := 0) c235_91 (by decide) ?_
  refine qe_static (as := [.ref r15, .long 0]) (r := []) (v := none) (h2 := h1) c235_92 qo235 (by decide) qK7_56 rfl rfl rfl (Nat.le_of_ble_eq_true rfl) e17 ?_
  refine qe_aload_n c235_95 rfl ?_
  refine qe_getfield c235_96 qo235 qF7_39 e19 e21 ?_
  refine qe_aload_n c235_99 rfl ?_
  refine qe_getfield c235_100 qo235 qF7_31 e19 e23 ?_
  refine qe_iload c235_103 rfl ?_
  refine qe_iaload c235_105 e26 e27 ?_
  refine qe_aaload c235_106 e30 e31 (Or.inr (Or.inr rfl)) e33 ?_
  refine qe_iload c235_107 rfl ?_
  refine qe_aload_n c235_109 rfl ?_
  refine qe_getfield c235_110 qo235 qF7_28 e19 e35 ?_
  refine qe_iload c235_113 rfl ?_
  refine qe_iaload c235_115 e38 e39 ?_
  refine qe_i2l c235_116 ?_
  refine qe_lastore c235_117 e42 e43 ?_
  rw [e44]
  exact kk
theorem b235_118 {d : Nat} {q : Option Value × qH} {h : qH} {r0 : Nat} {r1 : Nat} {r2 : Nat} {x3 : Int32} {x4 : Int32} {x5 : Int32}   (kk : qE d 235 53 [some (.ref r0), some (.ref r1), some (.ref r2), some (.int x3), some (.int x4), some (.int (x5 + 1))] [] h q): qE d 235 118 [some (.ref r0), some (.ref r1), some (.ref r2), some (.int x3), some (.int x4), some (.int x5)] [] h q := by
  refine qe_iinc (y := (x5 + 1)) (ls2 := [some (.ref r0), some (.ref r1), some (.ref r2), some (.int x3), some (.int x4), some (.int (x5 + 1))]) c235_118 rfl (Nat.le_of_ble_eq_true rfl) rfl rfl ?_
  refine qe_goto (t := 53) c235_121 rfl ?_
  exact kk
theorem b235_124 {d : Nat} {q : Option Value × qH} {h : qH} {r0 : Nat} {r1 : Nat} {r2 : Nat} {x3 : Int32} {x4 : Int32} {x5 : Int32}   (kk : qE d 235 127 [some (.ref r0), some (.ref r1), some (.ref r2), some (.int x3), some (.int x4), some (.int 0)] [] h q): qE d 235 124 [some (.ref r0), some (.ref r1), some (.ref r2), some (.int x3), some (.int x4), some (.int x5)] [] h q := by
  refine qe_iconst (x := 0) c235_124 (by decide) ?_
  refine qe_istore (ls2 := [some (.ref r0), some (.ref r1), some (.ref r2), some (.int x3), some (.int x4), some (.int 0)]) c235_125 (Nat.le_of_ble_eq_true rfl) rfl ?_
  exact kk
theorem b235_127F {d : Nat} {q : Option Value × qH} {h : qH} {r0 : Nat} {r1 : Nat} {r2 : Nat} {x3 : Int32} {x4 : Int32} {x5 : Int32} {fs1 : List Value} {y3 : Int32}  (e2 : h.2.2 r1 = some (.inr (4, fs1))) (e4 : fs1[1]? = some (.int y3)) (e5 : ¬ ((y3 : Int32) ≤ x5)) (kk : qE d 235 136 [some (.ref r0), some (.ref r1), some (.ref r2), some (.int x3), some (.int x4), some (.int x5)] [] h q): qE d 235 127 [some (.ref r0), some (.ref r1), some (.ref r2), some (.int x3), some (.int x4), some (.int x5)] [] h q := by
  refine qe_iload c235_127 rfl ?_
  refine qe_aload_n c235_129 rfl ?_
  refine qe_getfield c235_130 qo235 qF7_118 e2 e4 ?_
  refine qe_icmp_ge_F (t := 194) c235_133 rfl e5 ?_
  exact kk
theorem b235_127T {d : Nat} {q : Option Value × qH} {h : qH} {r0 : Nat} {r1 : Nat} {r2 : Nat} {x3 : Int32} {x4 : Int32} {x5 : Int32} {fs1 : List Value} {y3 : Int32}  (e2 : h.2.2 r1 = some (.inr (4, fs1))) (e4 : fs1[1]? = some (.int y3)) (e5 : (y3 : Int32) ≤ x5) (kk : qE d 235 194 [some (.ref r0), some (.ref r1), some (.ref r2), some (.int x3), some (.int x4), some (.int x5)] [] h q): qE d 235 127 [some (.ref r0), some (.ref r1), some (.ref r2), some (.int x3), some (.int x4), some (.int x5)] [] h q := by
  refine qe_iload c235_127 rfl ?_
  refine qe_aload_n c235_129 rfl ?_
  refine qe_getfield c235_130 qo235 qF7_118 e2 e4 ?_
  refine qe_icmp_ge_T (t := 194) c235_133 rfl e5 ?_
  exact kk
theorem b235_136F {d : Nat} {q : Option Value × qH} {h : qH} {r0 : Nat} {r1 : Nat} {r2 : Nat} {x3 : Int32} {x4 : Int32} {x5 : Int32} {fs1 : List Value} {y3 : Nat} {n5 : Nat} {f6 : Nat → Int32}  (e2 : h.2.2 r2 = some (.inr (8, fs1))) (e4 : fs1[5]? = some (.ref y3)) (e7 : h.2.2 y3 = some (.inl (0, n5, .inl f6))) (e8 : 0 ≤ (x5 : Int32).toInt ∧ (x5 : Int32).toInt < (n5 : Nat)) (e9 : ((f6 (x5 : Int32).toNatClampNeg) : Int32) = 0) (kk : qE d 235 146 [some (.ref r0), some (.ref r1), some (.ref r2), some (.int x3), some (.int x4), some (.int x5)] [] h q): qE d 235 136 [some (.ref r0), some (.ref r1), some (.ref r2), some (.int x3), some (.int x4), some (.int x5)] [] h q := by
  refine qe_aload_n c235_136 rfl ?_
  refine qe_getfield c235_137 qo235 qF7_121 e2 e4 ?_
  refine qe_iload c235_140 rfl ?_
  refine qe_iaload c235_142 e7 e8 ?_
  refine qe_if_ne_F (t := 188) c235_143 rfl e9 ?_
  exact kk
theorem b235_136T {d : Nat} {q : Option Value × qH} {h : qH} {r0 : Nat} {r1 : Nat} {r2 : Nat} {x3 : Int32} {x4 : Int32} {x5 : Int32} {fs1 : List Value} {y3 : Nat} {n5 : Nat} {f6 : Nat → Int32}  (e2 : h.2.2 r2 = some (.inr (8, fs1))) (e4 : fs1[5]? = some (.ref y3)) (e7 : h.2.2 y3 = some (.inl (0, n5, .inl f6))) (e8 : 0 ≤ (x5 : Int32).toInt ∧ (x5 : Int32).toInt < (n5 : Nat)) (e9 : ¬ (((f6 (x5 : Int32).toNatClampNeg) : Int32) = 0)) (kk : qE d 235 188 [some (.ref r0), some (.ref r1), some (.ref r2), some (.int x3), some (.int x4), some (.int x5)] [] h q): qE d 235 136 [some (.ref r0), some (.ref r1), some (.ref r2), some (.int x3), some (.int x4), some (.int x5)] [] h q := by
  refine qe_aload_n c235_136 rfl ?_
  refine qe_getfield c235_137 qo235 qF7_121 e2 e4 ?_
  refine qe_iload c235_140 rfl ?_
  refine qe_iaload c235_142 e7 e8 ?_
  refine qe_if_ne_T (t := 188) c235_143 rfl e9 ?_
  exact kk
theorem b235_146F {d : Nat} {q : Option Value × qH} {h : qH} {r0 : Nat} {r1 : Nat} {r2 : Nat} {x3 : Int32} {x4 : Int32} {x5 : Int32} {fs1 : List Value} {y3 : Nat} {fs5 : List Value} {y7 : Nat} {n9 : Nat} {f10 : Nat → Int32} {n13 : Nat} {f14 : Nat → Int32}  (e2 : h.2.2 r0 = some (.inr (7, fs1))) (e4 : fs1[4]? = some (.ref y3)) (e6 : h.2.2 r1 = some (.inr (4, fs5))) (e8 : fs5[8]? = some (.ref y7)) (e11 : h.2.2 y7 = some (.inl (0, n9, .inl f10))) (e12 : 0 ≤ (x5 : Int32).toInt ∧ (x5 : Int32).toInt < (n9 : Nat)) (e15 : h.2.2 y3 = some (.inl (0, n13, .inl f14))) (e16 : 0 ≤ ((f10 (x5 : Int32).toNatClampNeg) : Int32).toInt ∧ ((f10 (x5 : Int32).toNatClampNeg) : Int32).toInt < (n13 : Nat)) (e17 : ((f14 ((f10 (x5 : Int32).toNatClampNeg) : Int32).toNatClampNeg) : Int32) = x3) (kk : qE d 235 162 [some (.ref r0), some (.ref r1), some (.ref r2), some (.int x3), some (.int x4), some (.int x5)] [] h q): qE d 235 146 [some (.ref r0), some (.ref r1), some (.ref r2), some (.int x3), some (.int x4), some (.int x5)] [] h q := by
  refine qe_aload_n c235_146 rfl ?_
  refine qe_getfield c235_147 qo235 qF7_15 e2 e4 ?_
  refine qe_aload_n c235_150 rfl ?_
  refine qe_getfield c235_151 qo235 qF7_124 e6 e8 ?_
  refine qe_iload c235_154 rfl ?_
  refine qe_iaload c235_156 e11 e12 ?_
  refine qe_iaload c235_157 e15 e16 ?_
  refine qe_iload_n c235_158 rfl ?_
  refine qe_icmp_ne_F (t := 188) c235_159 rfl e17 ?_
  exact kk
theorem b235_146T {d : Nat} {q : Option Value × qH} {h : qH} {r0 : Nat} {r1 : Nat} {r2 : Nat} {x3 : Int32} {x4 : Int32} {x5 : Int32} {fs1 : List Value} {y3 : Nat} {fs5 : List Value} {y7 : Nat} {n9 : Nat} {f10 : Nat → Int32} {n13 : Nat} {f14 : Nat → Int32}  (e2 : h.2.2 r0 = some (.inr (7, fs1))) (e4 : fs1[4]? = some (.ref y3)) (e6 : h.2.2 r1 = some (.inr (4, fs5))) (e8 : fs5[8]? = some (.ref y7)) (e11 : h.2.2 y7 = some (.inl (0, n9, .inl f10))) (e12 : 0 ≤ (x5 : Int32).toInt ∧ (x5 : Int32).toInt < (n9 : Nat)) (e15 : h.2.2 y3 = some (.inl (0, n13, .inl f14))) (e16 : 0 ≤ ((f10 (x5 : Int32).toNatClampNeg) : Int32).toInt ∧ ((f10 (x5 : Int32).toNatClampNeg) : Int32).toInt < (n13 : Nat)) (e17 : ¬ (((f14 ((f10 (x5 : Int32).toNatClampNeg) : Int32).toNatClampNeg) : Int32) = x3)) (kk : qE d 235 188 [some (.ref r0), some (.ref r1), some (.ref r2), some (.int x3), some (.int x4), some (.int x5)] [] h q): qE d 235 146 [some (.ref r0), some (.ref r1), some (.ref r2), some (.int x3), some (.int x4), some (.int x5)] [] h q := by
  refine qe_aload_n c235_146 rfl ?_
  refine qe_getfield c235_147 qo235 qF7_15 e2 e4 ?_
  refine qe_aload_n c235_150 rfl ?_
  refine qe_getfield c235_151 qo235 qF7_124 e6 e8 ?_
  refine qe_iload c235_154 rfl ?_
  refine qe_iaload c235_156 e11 e12 ?_
  refine qe_iaload c235_157 e15 e16 ?_
  refine qe_iload_n c235_158 rfl ?_
  refine qe_icmp_ne_T (t := 188) c235_159 rfl e17 ?_
  exact kk
theorem b235_162 {d : Nat} {q : Option Value × qH} {h : qH} {r0 : Nat} {r1 : Nat} {r2 : Nat} {x3 : Int32} {x4 : Int32} {x5 : Int32} {fs1 : List Value} {y3 : Nat} {n5 : Nat} {f6 : Nat → Int32} {y9 : Nat} {n11 : Nat} {f12 : Nat → Int32} {y15 : Nat} {n17 : Nat} {f18 : Nat → Int32} {fs21 : List Value} {h1 : qH}  (e2 : h.2.2 r1 = some (.inr (4, fs1))) (e4 : fs1[8]? = some (.ref y3)) (e7 : h.2.2 y3 = some (.inl (0, n5, .inl f6))) (e8 : 0 ≤ (x5 : Int32).toInt ∧ (x5 : Int32).toInt < (n5 : Nat)) (e10 : fs1[9]? = some (.ref y9)) (e13 : h.2.2 y9 = some (.inl (0, n11, .inl f12))) (e14 : 0 ≤ (x5 : Int32).toInt ∧ (x5 : Int32).toInt < (n11 : Nat)) (e16 : fs1[10]? = some (.ref y15)) (e19 : h.2.2 y15 = some (.inl (0, n17, .inl f18))) (e20 : 0 ≤ (x5 : Int32).toInt ∧ (x5 : Int32).toInt < (n17 : Nat)) (e22 : h.2.2 r0 = some (.inr (7, fs21))) (e23 : qCall d 237 [.ref r0, .int (f6 (x5 : Int32).toNatClampNeg), .int (f12 (x5 : Int32).toNatClampNeg), .int (f18 (x5 : Int32).toNatClampNeg), .int x3] h (none, h1)) (kk : qE d 235 188 [some (.ref r0), some (.ref r1), some (.ref r2), some (.int x3), some (.int x4), some (.int x5)] [] h1 q): qE d 235 162 [some (.ref r0), some (.ref r1), some (.ref r2), some (.int x3), some (.int x4), some (.int x5)] [] h q := by
  refine qe_aload_n c235_162 rfl ?_
  refine qe_aload_n c235_163 rfl ?_
  refine qe_getfield c235_164 qo235 qF7_124 e2 e4 ?_
  refine qe_iload c235_167 rfl ?_
  refine qe_iaload c235_169 e7 e8 ?_
  refine qe_aload_n c235_170 rfl ?_
  refine qe_getfield c235_171 qo235 qF7_130 e2 e10 ?_
  refine qe_iload c235_174 rfl ?_
  refine qe_iaload c235_176 e13 e14 ?_
  refine qe_aload_n c235_177 rfl ?_
  refine qe_getfield c235_178 qo235 qF7_127 e2 e16 ?_
  refine qe_iload c235_181 rfl ?_
  refine qe_iaload c235_183 e19 e20 ?_
  refine qe_iload_n c235_184 rfl ?_
  refine qe_virtual (b := r0) (as := [.int (f6 (x5 : Int32).toNatClampNeg), .int (f12 (x5 : Int32).toNatClampNeg), .int (f18 (x5 : Int32).toNatClampNeg), .int x3]) (r := []) (v := none) (h2 := h1) c235_185 qo235 qK7_142 rfl rfl rfl (by rw [qo237]; exact e22) (Nat.le_of_ble_eq_true rfl) e23 ?_
  exact kk
theorem b235_188 {d : Nat} {q : Option Value × qH} {h : qH} {r0 : Nat} {r1 : Nat} {r2 : Nat} {x3 : Int32} {x4 : Int32} {x5 : Int32}   (kk : qE d 235 127 [some (.ref r0), some (.ref r1), some (.ref r2), some (.int x3), some (.int x4), some (.int (x5 + 1))] [] h q): qE d 235 188 [some (.ref r0), some (.ref r1), some (.ref r2), some (.int x3), some (.int x4), some (.int x5)] [] h q := by
  refine qe_iinc (y := (x5 + 1)) (ls2 := [some (.ref r0), some (.ref r1), some (.ref r2), some (.int x3), some (.int x4), some (.int (x5 + 1))]) c235_188 rfl (Nat.le_of_ble_eq_true rfl) rfl rfl ?_
  refine qe_goto (t := 127) c235_191 rfl ?_
  exact kk
theorem b235_194 {d : Nat} {h : qH} {r0 : Nat} {r1 : Nat} {r2 : Nat} {x3 : Int32} {x4 : Int32} {x5 : Int32}   : qE d 235 194 [some (.ref r0), some (.ref r1), some (.ref r2), some (.int x3), some (.int x4), some (.int x5)] [] h (some (.int x4), h) := by
  refine qe_iload c235_194 rfl ?_
  exact qe_iret c235_196 qr235
theorem b236_0 {d : Nat} {h : qH} {r0 : Nat} {h1 : qH} {fs2 : List Value} {h2 : qH} {h3 : qH} {fs7 : List Value} {h4 : qH} {h5 : qH} {fs12 : List Value} {h6 : qH} {h7 : qH} {fs17 : List Value} {h8 : qH} {h9 : qH} {fs22 : List Value} {h10 : qH} {h11 : qH} {fs27 : List Value} {h12 : qH} {h13 : qH} {fs32 : List Value} {h14 : qH} {h15 : qH} {fs37 : List Value} {h16 : qH} {h17 : qH} {fs42 : List Value} {h18 : qH} (hd0 : 0 < d) (e1 : qnew h 8 (.inl (0, 8, .inl fun _ => 0)) = h1) (e3 : h1.2.2 r0 = some (.inr (7, fs2))) (e4 : 3 < fs2.length) (e5 : qset h1 r0 (.inr (7, fs2.set 3 (.ref h.1))) = h2) (e6 : qnew h2 8 (.inl (0, 8, .inl fun _ => 0)) = h3) (e8 : h3.2.2 r0 = some (.inr (7, fs7))) (e9 : 4 < fs7.length) (e10 : qset h3 r0 (.inr (7, fs7.set 4 (.ref h2.1))) = h4) (e11 : qnew h4 8 (.inl (0, 8, .inl fun _ => 0)) = h5) (e13 : h5.2.2 r0 = some (.inr (7, fs12))) (e14 : 5 < fs12.length) (e15 : qset h5 r0 (.inr (7, fs12.set 5 (.ref h4.1))) = h6) (e16 : qnew h6 9 (.inl (0, 9, .inl fun _ => 0)) = h7) (e18 : h7.2.2 r0 = some (.inr (7, fs17))) (e19 : 6 < fs17.length) (e20 : qset h7 r0 (.inr (7, fs17.set 6 (.ref h6.1))) = h8) (e21 : qnew h8 14 (.inl (2, 14, .inr (.inl fun _ => 0))) = h9) (e23 : h9.2.2 r0 = some (.inr (7, fs22))) (e24 : 7 < fs22.length) (e25 : qset h9 r0 (.inr (7, fs22.set 7 (.ref h8.1))) = h10) (e26 : qnew h10 8 (.inl (0, 8, .inl fun _ => 0)) = h11) (e28 : h11.2.2 r0 = some (.inr (7, fs27))) (e29 : 8 < fs27.length) (e30 : qset h11 r0 (.inr (7, fs27.set 8 (.ref h10.1))) = h12) (e31 : qnew h12 8 (.inl (0, 8, .inl fun _ => 0)) = h13) (e33 : h13.2.2 r0 = some (.inr (7, fs32))) (e34 : 9 < fs32.length) (e35 : qset h13 r0 (.inr (7, fs32.set 9 (.ref h12.1))) = h14) (e36 : qnew h14 8 (.inl (2, 8, .inr (.inl fun _ => 0))) = h15) (e38 : h15.2.2 r0 = some (.inr (7, fs37))) (e39 : 10 < fs37.length) (e40 : qset h15 r0 (.inr (7, fs37.set 10 (.ref h14.1))) = h16) (e41 : qmul h16 7 8 8 = h17) (e43 : h17.2.2 r0 = some (.inr (7, fs42))) (e44 : 11 < fs42.length) (e45 : qset h17 r0 (.inr (7, fs42.set 11 (.ref h16.1))) = h18) : qE d 236 0 [some (.ref r0)] [] h (none, h18) := by
  refine qe_aload_n c236_0 rfl ?_
  refine qe_objinit c236_1 qo236 (by decide +kernel) (by decide) hd0 (Nat.le_of_ble_eq_true rfl) ?_
  refine qe_aload_n c236_4 rfl ?_
  refine qe_bipush (x := 8) c236_5 (by decide) ?_
  refine qe_new_int c236_7 (by decide) ?_
  rw [show Int32.toNatClampNeg 8 = 8 from by decide]
  rw [e1]
  refine qe_putfinal c236_9 qo236 qF7_9 (by decide +kernel) e3 e4 (by rw [qy7_3]; rfl) ?_
  rw [e5]
  refine qe_aload_n c236_12 rfl ?_
  refine qe_bipush (x := 8) c236_13 (by decide) ?_
  refine qe_new_int c236_15 (by decide) ?_
  rw [show Int32.toNatClampNeg 8 = 8 from by decide]
  rw [e6]
  refine qe_putfinal c236_17 qo236 qF7_15 (by decide +kernel) e8 e9 (by rw [qy7_4]; rfl) ?_
  rw [e10]
  refine qe_aload_n c236_20 rfl ?_
  refine qe_bipush (x := 8) c236_21 (by decide) ?_
  refine qe_new_int c236_23 (by decide) ?_
  rw [show Int32.toNatClampNeg 8 = 8 from by decide]
  rw [e11]
  refine qe_putfinal c236_25 qo236 qF7_18 (by decide +kernel) e13 e14 (by rw [qy7_5]; rfl) ?_
  rw [e15]
  refine qe_aload_n c236_28 rfl ?_
  refine qe_bipush (x := 9) c236_29 (by decide) ?_
  refine qe_new_int c236_31 (by decide) ?_
  rw [show Int32.toNatClampNeg 9 = 9 from by decide]
  rw [e16]
  refine qe_putfinal c236_33 qo236 qF7_21 (by decide +kernel) e18 e19 (by rw [qy7_6]; rfl) ?_
  rw [e20]
  refine qe_aload_n c236_36 rfl ?_
  refine qe_bipush (x := 14) c236_37 (by decide) ?_
  refine qe_new_long c236_39 (by decide) ?_
  rw [show Int32.toNatClampNeg 14 = 14 from by decide]
  rw [e21]
  refine qe_putfinal c236_41 qo236 qF7_24 (by decide +kernel) e23 e24 (by rw [qy7_7]; rfl) ?_
  rw [e25]
  refine qe_aload_n c236_44 rfl ?_
  refine qe_bipush (x := 8) c236_45 (by decide) ?_
  refine qe_new_int c236_47 (by decide) ?_
  rw [show Int32.toNatClampNeg 8 = 8 from by decide]
  rw [e26]
  refine qe_putfinal c236_49 qo236 qF7_28 (by decide +kernel) e28 e29 (by rw [qy7_8]; rfl) ?_
  rw [e30]
  refine qe_aload_n c236_52 rfl ?_
  refine qe_bipush (x := 8) c236_53 (by decide) ?_
  refine qe_new_int c236_55 (by decide) ?_
  rw [show Int32.toNatClampNeg 8 = 8 from by decide]
  rw [e31]
  refine qe_putfinal c236_57 qo236 qF7_31 (by decide +kernel) e33 e34 (by rw [qy7_9]; rfl) ?_
  rw [e35]
  refine qe_aload_n c236_60 rfl ?_
  refine qe_bipush (x := 8) c236_61 (by decide) ?_
  refine qe_new_long c236_63 (by decide) ?_
  rw [show Int32.toNatClampNeg 8 = 8 from by decide]
  rw [e36]
  refine qe_putfinal c236_65 qo236 qF7_34 (by decide +kernel) e38 e39 (by rw [qy7_10]; rfl) ?_
  rw [e40]
  refine qe_aload_n c236_68 rfl ?_
  refine qe_bipush (x := 8) c236_69 (by decide) ?_
  refine qe_bipush (x := 8) c236_71 (by decide) ?_
  refine qe_multiL c236_73 (by rw [qo236]; decide) (by rw [qo236]; decide) (by decide) ?_
  rw [show Int32.toNatClampNeg 8 = 8 from by decide]
  rw [e41]
  refine qe_putfinal c236_77 qo236 qF7_39 (by decide +kernel) e43 e44 (by rw [qy7_11]; rfl) ?_
  rw [e45]
  exact qe_vret c236_80 qr236
theorem b237_0F {d : Nat} {q : Option Value × qH} {h : qH} {r0 : Nat} {x1 : Int32} {x2 : Int32} {x3 : Int32} {x4 : Int32}  (e1 : ¬ ((x1 : Int32) = x4)) (kk : qE d 237 6 [some (.ref r0), some (.int x1), some (.int x2), some (.int x3), some (.int x4)] [] h q): qE d 237 0 [some (.ref r0), some (.int x1), some (.int x2), some (.int x3), some (.int x4)] [] h q := by
  refine qe_iload_n c237_0 rfl ?_
  refine qe_iload c237_1 rfl ?_
  refine qe_icmp_eq_F (t := 29) c237_3 rfl e1 ?_
  exact kk
theorem b237_0T {d : Nat} {q : Option Value × qH} {h : qH} {r0 : Nat} {x1 : Int32} {x2 : Int32} {x3 : Int32} {x4 : Int32}  (e1 : (x1 : Int32) = x4) (kk : qE d 237 29 [some (.ref r0), some (.int x1), some (.int x2), some (.int x3), some (.int x4)] [] h q): qE d 237 0 [some (.ref r0), some (.int x1), some (.int x2), some (.int x3), some (.int x4)] [] h q := by
  refine qe_iload_n c237_0 rfl ?_
  refine qe_iload c237_1 rfl ?_
  refine qe_icmp_eq_T (t := 29) c237_3 rfl e1 ?_
  exact kk
theorem b237_6 {d : Nat} {q : Option Value × qH} {h : qH} {r0 : Nat} {x1 : Int32} {x2 : Int32} {x3 : Int32} {x4 : Int32} {fs1 : List Value} {y3 : Nat} {y5 : Nat} {n7 : Nat} {f8 : Nat → Int32} {n11 : Nat} {f12 : Nat → Option Nat} {r15 : Nat} {n19 : Nat} {f20 : Nat → Int64} {h1 : qH}  (e2 : h.2.2 r0 = some (.inr (7, fs1))) (e4 : fs1[11]? = some (.ref y3)) (e6 : fs1[9]? = some (.ref y5)) (e9 : h.2.2 y5 = some (.inl (0, n7, .inl f8))) (e10 : 0 ≤ (x1 : Int32).toInt ∧ (x1 : Int32).toInt < (n7 : Nat)) (e13 : h.2.2 y3 = some (.inl (7, n11, .inr (.inr (.inr (.inr f12)))))) (e14 : 0 ≤ ((f8 (x1 : Int32).toNatClampNeg) : Int32).toInt ∧ ((f8 (x1 : Int32).toNatClampNeg) : Int32).toInt < (n11 : Nat)) (e16 : (f12 ((f8 (x1 : Int32).toNatClampNeg) : Int32).toNatClampNeg) = some r15) (e18 : 0 ≤ (x1 : Int32).toInt ∧ (x1 : Int32).toInt < (n7 : Nat)) (e21 : h.2.2 r15 = some (.inl (2, n19, .inr (.inl f20)))) (e22 : 0 ≤ ((f8 (x1 : Int32).toNatClampNeg) : Int32).toInt ∧ ((f8 (x1 : Int32).toNatClampNeg) : Int32).toInt < (n19 : Nat)) (e23 : 0 ≤ ((f8 (x1 : Int32).toNatClampNeg) : Int32).toInt ∧ ((f8 (x1 : Int32).toNatClampNeg) : Int32).toInt < (n19 : Nat)) (e24 : qset h r15 (.inl (2, n19, .inr (.inl (vp_updL f20 (((f8 (x1 : Int32).toNatClampNeg) : Int32).toNatClampNeg) (((f20 ((f8 (x1 : Int32).toNatClampNeg) : Int32).toNatClampNeg) + (x3 : Int32).toInt64)))))) = h1) (kk : qE d 237 29 [some (.ref r0), some (.int x1), some (.int x2), some (.int x3), some (.int x4)] [] h1 q): qE d 237 6 [some (.ref r0), some (.int x1), some (.int x2), some (.int x3), some (.int x4)] [] h q := by
  refine qe_aload_n c237_6 rfl ?_
  refine qe_getfield c237_7 qo237 qF7_39 e2 e4 ?_
  refine qe_aload_n c237_10 rfl ?_
  refine qe_getfield c237_11 qo237 qF7_31 e2 e6 ?_
  refine qe_iload_n c237_14 rfl ?_
  refine qe_iaload c237_15 e9 e10 ?_
  refine qe_aaload c237_16 e13 e14 (Or.inr (Or.inr rfl)) e16 ?_
  refine qe_aload_n c237_17 rfl ?_
  refine qe_getfield c237_18 qo237 qF7_31 e2 e6 ?_
  refine qe_iload_n c237_21 rfl ?_
  refine qe_iaload c237_22 e9 e18 ?_
  refine qe_dup2 c237_23 (Nat.ne_of_beq_eq_false rfl) rfl ?_
  refine qe_laload c237_24 e21 e22 ?_
  refine qe_iload_n c237_25 rfl ?_
  refine qe_i2l c237_26 ?_
  refine qe_ladd c237_27 ?_
  refine qe_lastore c237_28 e21 e23 ?_
  rw [e24]
  exact kk
theorem b237_29F {d : Nat} {q : Option Value × qH} {h : qH} {r0 : Nat} {x1 : Int32} {x2 : Int32} {x3 : Int32} {x4 : Int32}  (e1 : ¬ ((x2 : Int32) = x4)) (kk : qE d 237 35 [some (.ref r0), some (.int x1), some (.int x2), some (.int x3), some (.int x4)] [] h q): qE d 237 29 [some (.ref r0), some (.int x1), some (.int x2), some (.int x3), some (.int x4)] [] h q := by
  refine qe_iload_n c237_29 rfl ?_
  refine qe_iload c237_30 rfl ?_
  refine qe_icmp_eq_F (t := 58) c237_32 rfl e1 ?_
  exact kk
theorem b237_29T {d : Nat} {q : Option Value × qH} {h : qH} {r0 : Nat} {x1 : Int32} {x2 : Int32} {x3 : Int32} {x4 : Int32}  (e1 : (x2 : Int32) = x4) (kk : qE d 237 58 [some (.ref r0), some (.int x1), some (.int x2), some (.int x3), some (.int x4)] [] h q): qE d 237 29 [some (.ref r0), some (.int x1), some (.int x2), some (.int x3), some (.int x4)] [] h q := by
  refine qe_iload_n c237_29 rfl ?_
  refine qe_iload c237_30 rfl ?_
  refine qe_icmp_eq_T (t := 58) c237_32 rfl e1 ?_
  exact kk
theorem b237_35 {d : Nat} {q : Option Value × qH} {h : qH} {r0 : Nat} {x1 : Int32} {x2 : Int32} {x3 : Int32} {x4 : Int32} {fs1 : List Value} {y3 : Nat} {y5 : Nat} {n7 : Nat} {f8 : Nat → Int32} {n11 : Nat} {f12 : Nat → Option Nat} {r15 : Nat} {n19 : Nat} {f20 : Nat → Int64} {h1 : qH}  (e2 : h.2.2 r0 = some (.inr (7, fs1))) (e4 : fs1[11]? = some (.ref y3)) (e6 : fs1[9]? = some (.ref y5)) (e9 : h.2.2 y5 = some (.inl (0, n7, .inl f8))) (e10 : 0 ≤ (x2 : Int32).toInt ∧ (x2 : Int32).toInt < (n7 : Nat)) (e13 : h.2.2 y3 = some (.inl (7, n11, .inr (.inr (.inr (.inr f12)))))) (e14 : 0 ≤ ((f8 (x2 : Int32).toNatClampNeg) : Int32).toInt ∧ ((f8 (x2 : Int32).toNatClampNeg) : Int32).toInt < (n11 : Nat)) (e16 : (f12 ((f8 (x2 : Int32).toNatClampNeg) : Int32).toNatClampNeg) = some r15) (e18 : 0 ≤ (x2 : Int32).toInt ∧ (x2 : Int32).toInt < (n7 : Nat)) (e21 : h.2.2 r15 = some (.inl (2, n19, .inr (.inl f20)))) (e22 : 0 ≤ ((f8 (x2 : Int32).toNatClampNeg) : Int32).toInt ∧ ((f8 (x2 : Int32).toNatClampNeg) : Int32).toInt < (n19 : Nat)) (e23 : 0 ≤ ((f8 (x2 : Int32).toNatClampNeg) : Int32).toInt ∧ ((f8 (x2 : Int32).toNatClampNeg) : Int32).toInt < (n19 : Nat)) (e24 : qset h r15 (.inl (2, n19, .inr (.inl (vp_updL f20 (((f8 (x2 : Int32).toNatClampNeg) : Int32).toNatClampNeg) (((f20 ((f8 (x2 : Int32).toNatClampNeg) : Int32).toNatClampNeg) + (x3 : Int32).toInt64)))))) = h1) (kk : qE d 237 58 [some (.ref r0), some (.int x1), some (.int x2), some (.int x3), some (.int x4)] [] h1 q): qE d 237 35 [some (.ref r0), some (.int x1), some (.int x2), some (.int x3), some (.int x4)] [] h q := by
  refine qe_aload_n c237_35 rfl ?_
  refine qe_getfield c237_36 qo237 qF7_39 e2 e4 ?_
  refine qe_aload_n c237_39 rfl ?_
  refine qe_getfield c237_40 qo237 qF7_31 e2 e6 ?_
  refine qe_iload_n c237_43 rfl ?_
  refine qe_iaload c237_44 e9 e10 ?_
  refine qe_aaload c237_45 e13 e14 (Or.inr (Or.inr rfl)) e16 ?_
  refine qe_aload_n c237_46 rfl ?_
  refine qe_getfield c237_47 qo237 qF7_31 e2 e6 ?_
  refine qe_iload_n c237_50 rfl ?_
  refine qe_iaload c237_51 e9 e18 ?_
  refine qe_dup2 c237_52 (Nat.ne_of_beq_eq_false rfl) rfl ?_
  refine qe_laload c237_53 e21 e22 ?_
  refine qe_iload_n c237_54 rfl ?_
  refine qe_i2l c237_55 ?_
  refine qe_ladd c237_56 ?_
  refine qe_lastore c237_57 e21 e23 ?_
  rw [e24]
  exact kk
theorem b237_58F {d : Nat} {q : Option Value × qH} {h : qH} {r0 : Nat} {x1 : Int32} {x2 : Int32} {x3 : Int32} {x4 : Int32}  (e1 : ¬ ((x1 : Int32) = x4)) (kk : qE d 237 64 [some (.ref r0), some (.int x1), some (.int x2), some (.int x3), some (.int x4)] [] h q): qE d 237 58 [some (.ref r0), some (.int x1), some (.int x2), some (.int x3), some (.int x4)] [] h q := by
  refine qe_iload_n c237_58 rfl ?_
  refine qe_iload c237_59 rfl ?_
  refine qe_icmp_eq_F (t := 116) c237_61 rfl e1 ?_
  exact kk
theorem b237_58T {d : Nat} {q : Option Value × qH} {h : qH} {r0 : Nat} {x1 : Int32} {x2 : Int32} {x3 : Int32} {x4 : Int32}  (e1 : (x1 : Int32) = x4) (kk : qE d 237 116 [some (.ref r0), some (.int x1), some (.int x2), some (.int x3), some (.int x4)] [] h q): qE d 237 58 [some (.ref r0), some (.int x1), some (.int x2), some (.int x3), some (.int x4)] [] h q := by
  refine qe_iload_n c237_58 rfl ?_
  refine qe_iload c237_59 rfl ?_
  refine qe_icmp_eq_T (t := 116) c237_61 rfl e1 ?_
  exact kk
theorem b237_64F {d : Nat} {q : Option Value × qH} {h : qH} {r0 : Nat} {x1 : Int32} {x2 : Int32} {x3 : Int32} {x4 : Int32}  (e1 : ¬ ((x2 : Int32) = x4)) (kk : qE d 237 70 [some (.ref r0), some (.int x1), some (.int x2), some (.int x3), some (.int x4)] [] h q): qE d 237 64 [some (.ref r0), some (.int x1), some (.int x2), some (.int x3), some (.int x4)] [] h q := by
  refine qe_iload_n c237_64 rfl ?_
  refine qe_iload c237_65 rfl ?_
  refine qe_icmp_eq_F (t := 116) c237_67 rfl e1 ?_
  exact kk
theorem b237_64T {d : Nat} {q : Option Value × qH} {h : qH} {r0 : Nat} {x1 : Int32} {x2 : Int32} {x3 : Int32} {x4 : Int32}  (e1 : (x2 : Int32) = x4) (kk : qE d 237 116 [some (.ref r0), some (.int x1), some (.int x2), some (.int x3), some (.int x4)] [] h q): qE d 237 64 [some (.ref r0), some (.int x1), some (.int x2), some (.int x3), some (.int x4)] [] h q := by
  refine qe_iload_n c237_64 rfl ?_
  refine qe_iload c237_65 rfl ?_
  refine qe_icmp_eq_T (t := 116) c237_67 rfl e1 ?_
  exact kk
theorem b237_70 {d : Nat} {q : Option Value × qH} {h : qH} {r0 : Nat} {x1 : Int32} {x2 : Int32} {x3 : Int32} {x4 : Int32} {fs1 : List Value} {y3 : Nat} {y5 : Nat} {n7 : Nat} {f8 : Nat → Int32} {n11 : Nat} {f12 : Nat → Option Nat} {r15 : Nat} {n19 : Nat} {f20 : Nat → Int64} {h1 : qH} {fs25 : List Value} {y27 : Nat} {y29 : Nat} {n31 : Nat} {f32 : Nat → Int32} {n35 : Nat} {f36 : Nat → Option Nat} {r39 : Nat} {n43 : Nat} {f44 : Nat → Int64} {h2 : qH}  (e2 : h.2.2 r0 = some (.inr (7, fs1))) (e4 : fs1[11]? = some (.ref y3)) (e6 : fs1[9]? = some (.ref y5)) (e9 : h.2.2 y5 = some (.inl (0, n7, .inl f8))) (e10 : 0 ≤ (x1 : Int32).toInt ∧ (x1 : Int32).toInt < (n7 : Nat)) (e13 : h.2.2 y3 = some (.inl (7, n11, .inr (.inr (.inr (.inr f12)))))) (e14 : 0 ≤ ((f8 (x1 : Int32).toNatClampNeg) : Int32).toInt ∧ ((f8 (x1 : Int32).toNatClampNeg) : Int32).toInt < (n11 : Nat)) (e16 : (f12 ((f8 (x1 : Int32).toNatClampNeg) : Int32).toNatClampNeg) = some r15) (e18 : 0 ≤ (x2 : Int32).toInt ∧ (x2 : Int32).toInt < (n7 : Nat)) (e21 : h.2.2 r15 = some (.inl (2, n19, .inr (.inl f20)))) (e22 : 0 ≤ ((f8 (x2 : Int32).toNatClampNeg) : Int32).toInt ∧ ((f8 (x2 : Int32).toNatClampNeg) : Int32).toInt < (n19 : Nat)) (e23 : 0 ≤ ((f8 (x2 : Int32).toNatClampNeg) : Int32).toInt ∧ ((f8 (x2 : Int32).toNatClampNeg) : Int32).toInt < (n19 : Nat)) (e24 : qset h r15 (.inl (2, n19, .inr (.inl (vp_updL f20 (((f8 (x2 : Int32).toNatClampNeg) : Int32).toNatClampNeg) (((f20 ((f8 (x2 : Int32).toNatClampNeg) : Int32).toNatClampNeg) - (x3 : Int32).toInt64)))))) = h1) (e26 : h1.2.2 r0 = some (.inr (7, fs25))) (e28 : fs25[11]? = some (.ref y27)) (e30 : fs25[9]? = some (.ref y29)) (e33 : h1.2.2 y29 = some (.inl (0, n31, .inl f32))) (e34 : 0 ≤ (x2 : Int32).toInt ∧ (x2 : Int32).toInt < (n31 : Nat)) (e37 : h1.2.2 y27 = some (.inl (7, n35, .inr (.inr (.inr (.inr f36)))))) (e38 : 0 ≤ ((f32 (x2 : Int32).toNatClampNeg) : Int32).toInt ∧ ((f32 (x2 : Int32).toNatClampNeg) : Int32).toInt < (n35 : Nat)) (e40 : (f36 ((f32 (x2 : Int32).toNatClampNeg) : Int32).toNatClampNeg) = some r39) (e42 : 0 ≤ (x1 : Int32).toInt ∧ (x1 : Int32).toInt < (n31 : Nat)) (e45 : h1.2.2 r39 = some (.inl (2, n43, .inr (.inl f44)))) (e46 : 0 ≤ ((f32 (x1 : Int32).toNatClampNeg) : Int32).toInt ∧ ((f32 (x1 : Int32).toNatClampNeg) : Int32).toInt < (n43 : Nat)) (e47 : 0 ≤ ((f32 (x1 : Int32).toNatClampNeg) : Int32).toInt ∧ ((f32 (x1 : Int32).toNatClampNeg) : Int32).toInt < (n43 : Nat)) (e48 : qset h1 r39 (.inl (2, n43, .inr (.inl (vp_updL f44 (((f32 (x1 : Int32).toNatClampNeg) : Int32).toNatClampNeg) (((f44 ((f32 (x1 : Int32).toNatClampNeg) : Int32).toNatClampNeg) - (x3 : Int32).toInt64)))))) = h2) (kk : qE d 237 116 [some (.ref r0), some (.int x1), some (.int x2), some (.int x3), some (.int x4)] [] h2 q): qE d 237 70 [some (.ref r0), some (.int x1), some (.int x2), some (.int x3), some (.int x4)] [] h q := by
  refine qe_aload_n c237_70 rfl ?_
  refine qe_getfield c237_71 qo237 qF7_39 e2 e4 ?_
  refine qe_aload_n c237_74 rfl ?_
  refine qe_getfield c237_75 qo237 qF7_31 e2 e6 ?_
  refine qe_iload_n c237_78 rfl ?_
  refine qe_iaload c237_79 e9 e10 ?_
  refine qe_aaload c237_80 e13 e14 (Or.inr (Or.inr rfl)) e16 ?_
  refine qe_aload_n c237_81 rfl ?_
  refine qe_getfield c237_82 qo237 qF7_31 e2 e6 ?_
  refine qe_iload_n c237_85 rfl ?_
  refine qe_iaload c237_86 e9 e18 ?_
  refine qe_dup2 c237_87 (Nat.ne_of_beq_eq_false rfl) rfl ?_
  refine qe_laload c237_88 e21 e22 ?_
  refine qe_iload_n c237_89 rfl ?_
  refine qe_i2l c237_90 ?_
  refine qe_lsub c237_91 ?_
  refine qe_lastore c237_92 e21 e23 ?_
  rw [e24]
  refine qe_aload_n c237_93 rfl ?_
  refine qe_getfield c237_94 qo237 qF7_39 e26 e28 ?_
  refine qe_aload_n c237_97 rfl ?_
  refine qe_getfield c237_98 qo237 qF7_31 e26 e30 ?_
  refine qe_iload_n c237_101 rfl ?_
  refine qe_iaload c237_102 e33 e34 ?_
  refine qe_aaload c237_103 e37 e38 (Or.inr (Or.inr rfl)) e40 ?_
  refine qe_aload_n c237_104 rfl ?_
  refine qe_getfield c237_105 qo237 qF7_31 e26 e30 ?_
  refine qe_iload_n c237_108 rfl ?_
  refine qe_iaload c237_109 e33 e42 ?_
  refine qe_dup2 c237_110 (Nat.ne_of_beq_eq_false rfl) rfl ?_
  refine qe_laload c237_111 e45 e46 ?_
  refine qe_iload_n c237_112 rfl ?_
  refine qe_i2l c237_113 ?_
  refine qe_lsub c237_114 ?_
  refine qe_lastore c237_115 e45 e47 ?_
  rw [e48]
  exact kk
theorem b237_116 {d : Nat} {h : qH} {r0 : Nat} {x1 : Int32} {x2 : Int32} {x3 : Int32} {x4 : Int32}   : qE d 237 116 [some (.ref r0), some (.int x1), some (.int x2), some (.int x3), some (.int x4)] [] h (none, h) := by
  exact qe_vret c237_116 qr237
theorem b238_0 {d : Nat} {q : Option Value × qH} {h : qH} {r0 : Nat} {r1 : Nat} {r2 : Nat} {fs1 : List Value} {y3 : Int32} {fs5 : List Value} {h1 : qH} {fs9 : List Value} {h2 : qH} {fs13 : List Value} {h3 : qH} {fs17 : List Value} {y19 : Nat} {h4 : qH} {fs22 : List Value} {y24 : Nat} {fs26 : List Value} {h5 : qH}  (e2 : h.2.2 r2 = some (.inr (8, fs1))) (e4 : fs1[1]? = some (.int y3)) (e6 : h.2.2 r0 = some (.inr (7, fs5))) (e7 : 0 < fs5.length) (e8 : qset h r0 (.inr (7, fs5.set 0 (.int y3))) = h1) (e10 : h1.2.2 r0 = some (.inr (7, fs9))) (e11 : 1 < fs9.length) (e12 : qset h1 r0 (.inr (7, fs9.set 1 (.int 0))) = h2) (e14 : h2.2.2 r0 = some (.inr (7, fs13))) (e15 : 2 < fs13.length) (e16 : qset h2 r0 (.inr (7, fs13.set 2 (.int 0))) = h3) (e18 : h3.2.2 r0 = some (.inr (7, fs17))) (e20 : fs17[7]? = some (.ref y19)) (e21 : qCall d 3 [.ref y19, .long 0] h3 (none, h4)) (e23 : h4.2.2 r0 = some (.inr (7, fs22))) (e25 : fs22[4]? = some (.ref y24)) (e27 : h4.2.2 r1 = some (.inr (4, fs26))) (e28 : qCall d 213 [.ref r1, .ref r2, .int 0, .ref y24] h4 (none, h5)) (kk : qE d 238 38 [some (.ref r0), some (.ref r1), some (.ref r2), some (.int 0)] [] h5 q): qE d 238 0 [some (.ref r0), some (.ref r1), some (.ref r2), none] [] h q := by
  refine qe_aload_n c238_0 rfl ?_
  refine qe_aload_n c238_1 rfl ?_
  refine qe_getfield c238_2 qo238 qF7_42 e2 e4 ?_
  refine qe_putfield c238_5 qo238 qF7_48 qz7_0 e6 e7 (by rw [qy7_0]; rfl) ?_
  rw [e8]
  refine qe_aload_n c238_8 rfl ?_
  refine qe_iconst (x := 0) c238_9 (by decide) ?_
  refine qe_putfield c238_10 qo238 qF7_49 qz7_1 e10 e11 (by rw [qy7_1]; rfl) ?_
  rw [e12]
  refine qe_aload_n c238_13 rfl ?_
  refine qe_iconst (x := 0) c238_14 (by decide) ?_
  refine qe_putfield c238_15 qo238 qF7_52 qz7_2 e14 e15 (by rw [qy7_2]; exact decide_eq_true (p := (0 : Int32) = 0 ∨ (0 : Int32) = 1) (by decide)) ?_
  rw [e16]
  refine qe_aload_n c238_18 rfl ?_
  refine qe_getfield c238_19 qo238 qF7_24 e18 e20 ?_
  refine qe_lconst (x := 0) c238_22 (by decide) ?_
  refine qe_static (as := [.ref y19, .long 0]) (r := []) (v := none) (h2 := h4) c238_23 qo238 (by decide) qK7_56 rfl rfl rfl (Nat.le_of_ble_eq_true rfl) e21 ?_
  refine qe_aload_n c238_26 rfl ?_
  refine qe_aload_n c238_27 rfl ?_
  refine qe_iconst (x := 0) c238_28 (by decide) ?_
  refine qe_aload_n c238_29 rfl ?_
  refine qe_getfield c238_30 qo238 qF7_15 e23 e25 ?_
  refine qe_virtual (b := r1) (as := [.ref r2, .int 0, .ref y24]) (r := []) (v := none) (h2 := h5) c238_33 qo238 qK7_62 rfl rfl rfl (by rw [qo213]; exact e27) (Nat.le_of_ble_eq_true rfl) e28 ?_
  refine qe_iconst (x := 0) c238_36 (by decide) ?_
  refine qe_istore_n (ls2 := [some (.ref r0), some (.ref r1), some (.ref r2), some (.int 0)]) c238_37 (Nat.le_of_ble_eq_true rfl) rfl ?_
  exact kk
theorem b238_38F {d : Nat} {q : Option Value × qH} {h : qH} {r0 : Nat} {r1 : Nat} {r2 : Nat} {x3 : Int32} {fs1 : List Value} {y3 : Int32}  (e2 : h.2.2 r1 = some (.inr (4, fs1))) (e4 : fs1[0]? = some (.int y3)) (e5 : ¬ ((y3 : Int32) ≤ x3)) (kk : qE d 238 46 [some (.ref r0), some (.ref r1), some (.ref r2), some (.int x3)] [] h q): qE d 238 38 [some (.ref r0), some (.ref r1), some (.ref r2), some (.int x3)] [] h q := by
  refine qe_iload_n c238_38 rfl ?_
  refine qe_aload_n c238_39 rfl ?_
  refine qe_getfield c238_40 qo238 qF7_68 e2 e4 ?_
  refine qe_icmp_ge_F (t := 76) c238_43 rfl e5 ?_
  exact kk
theorem b238_38T {d : Nat} {q : Option Value × qH} {h : qH} {r0 : Nat} {r1 : Nat} {r2 : Nat} {x3 : Int32} {fs1 : List Value} {y3 : Int32}  (e2 : h.2.2 r1 = some (.inr (4, fs1))) (e4 : fs1[0]? = some (.int y3)) (e5 : (y3 : Int32) ≤ x3) (kk : qE d 238 76 [some (.ref r0), some (.ref r1), some (.ref r2), some (.int x3)] [] h q): qE d 238 38 [some (.ref r0), some (.ref r1), some (.ref r2), some (.int x3)] [] h q := by
  refine qe_iload_n c238_38 rfl ?_
  refine qe_aload_n c238_39 rfl ?_
  refine qe_getfield c238_40 qo238 qF7_68 e2 e4 ?_
  refine qe_icmp_ge_T (t := 76) c238_43 rfl e5 ?_
  exact kk
theorem b238_46F {d : Nat} {q : Option Value × qH} {h : qH} {r0 : Nat} {r1 : Nat} {r2 : Nat} {x3 : Int32} {fs1 : List Value} {y3 : Nat} {n5 : Nat} {f6 : Nat → Int32}  (e2 : h.2.2 r0 = some (.inr (7, fs1))) (e4 : fs1[4]? = some (.ref y3)) (e7 : h.2.2 y3 = some (.inl (0, n5, .inl f6))) (e8 : 0 ≤ (x3 : Int32).toInt ∧ (x3 : Int32).toInt < (n5 : Nat)) (e9 : ((f6 (x3 : Int32).toNatClampNeg) : Int32) = x3) (kk : qE d 238 56 [some (.ref r0), some (.ref r1), some (.ref r2), some (.int x3)] [] h q): qE d 238 46 [some (.ref r0), some (.ref r1), some (.ref r2), some (.int x3)] [] h q := by
  refine qe_aload_n c238_46 rfl ?_
  refine qe_getfield c238_47 qo238 qF7_15 e2 e4 ?_
  refine qe_iload_n c238_50 rfl ?_
  refine qe_iaload c238_51 e7 e8 ?_
  refine qe_iload_n c238_52 rfl ?_
  refine qe_icmp_ne_F (t := 70) c238_53 rfl e9 ?_
  exact kk
theorem b238_46T {d : Nat} {q : Option Value × qH} {h : qH} {r0 : Nat} {r1 : Nat} {r2 : Nat} {x3 : Int32} {fs1 : List Value} {y3 : Nat} {n5 : Nat} {f6 : Nat → Int32}  (e2 : h.2.2 r0 = some (.inr (7, fs1))) (e4 : fs1[4]? = some (.ref y3)) (e7 : h.2.2 y3 = some (.inl (0, n5, .inl f6))) (e8 : 0 ≤ (x3 : Int32).toInt ∧ (x3 : Int32).toInt < (n5 : Nat)) (e9 : ¬ (((f6 (x3 : Int32).toNatClampNeg) : Int32) = x3)) (kk : qE d 238 70 [some (.ref r0), some (.ref r1), some (.ref r2), some (.int x3)] [] h q): qE d 238 46 [some (.ref r0), some (.ref r1), some (.ref r2), some (.int x3)] [] h q := by
  refine qe_aload_n c238_46 rfl ?_
  refine qe_getfield c238_47 qo238 qF7_15 e2 e4 ?_
  refine qe_iload_n c238_50 rfl ?_
  refine qe_iaload c238_51 e7 e8 ?_
  refine qe_iload_n c238_52 rfl ?_
  refine qe_icmp_ne_T (t := 70) c238_53 rfl e9 ?_
  exact kk
theorem b238_56 {d : Nat} {q : Option Value × qH} {h : qH} {r0 : Nat} {r1 : Nat} {r2 : Nat} {x3 : Int32} {fs1 : List Value} {h1 : qH} {fs4 : List Value} {h2 : qH}  (e2 : h.2.2 r0 = some (.inr (7, fs1))) (e3 : qCall d 239 [.ref r0, .ref r1, .ref r2, .int x3] h (none, h1)) (e5 : h1.2.2 r0 = some (.inr (7, fs4))) (e6 : qCall d 240 [.ref r0, .ref r1, .ref r2, .int x3] h1 (none, h2)) (kk : qE d 238 70 [some (.ref r0), some (.ref r1), some (.ref r2), some (.int x3)] [] h2 q): qE d 238 56 [some (.ref r0), some (.ref r1), some (.ref r2), some (.int x3)] [] h q := by
  refine qe_aload_n c238_56 rfl ?_
  refine qe_aload_n c238_57 rfl ?_
  refine qe_aload_n c238_58 rfl ?_
  refine qe_iload_n c238_59 rfl ?_
  refine qe_virtual (b := r0) (as := [.ref r1, .ref r2, .int x3]) (r := []) (v := none) (h2 := h1) c238_60 qo238 qK7_71 rfl rfl rfl (by rw [qo239]; exact e2) (Nat.le_of_ble_eq_true rfl) e3 ?_
  refine qe_aload_n c238_63 rfl ?_
  refine qe_aload_n c238_64 rfl ?_
  refine qe_aload_n c238_65 rfl ?_
  refine qe_iload_n c238_66 rfl ?_
  refine qe_virtual (b := r0) (as := [.ref r1, .ref r2, .int x3]) (r := []) (v := none) (h2 := h2) c238_67 qo238 qK7_75 rfl rfl rfl (by rw [qo240]; exact e5) (Nat.le_of_ble_eq_true rfl) e6 ?_
  exact kk
theorem b238_70 {d : Nat} {q : Option Value × qH} {h : qH} {r0 : Nat} {r1 : Nat} {r2 : Nat} {x3 : Int32}   (kk : qE d 238 38 [some (.ref r0), some (.ref r1), some (.ref r2), some (.int (x3 + 1))] [] h q): qE d 238 70 [some (.ref r0), some (.ref r1), some (.ref r2), some (.int x3)] [] h q := by
  refine qe_iinc (y := (x3 + 1)) (ls2 := [some (.ref r0), some (.ref r1), some (.ref r2), some (.int (x3 + 1))]) c238_70 rfl (Nat.le_of_ble_eq_true rfl) rfl rfl ?_
  refine qe_goto (t := 38) c238_73 rfl ?_
  exact kk
theorem b238_76 {d : Nat} {h : qH} {r0 : Nat} {r1 : Nat} {r2 : Nat} {x3 : Int32}   : qE d 238 76 [some (.ref r0), some (.ref r1), some (.ref r2), some (.int x3)] [] h (none, h) := by
  exact qe_vret c238_76 qr238
theorem b239_0 {d : Nat} {q : Option Value × qH} {h : qH} {r0 : Nat} {r1 : Nat} {r2 : Nat} {x3 : Int32}   (kk : qE d 239 6 [some (.ref r0), some (.ref r1), some (.ref r2), some (.int x3), some (.int 0), some (.int 0), none, none] [] h q): qE d 239 0 [some (.ref r0), some (.ref r1), some (.ref r2), some (.int x3), none, none, none, none] [] h q := by
  refine qe_iconst (x := 0) c239_0 (by decide) ?_
  refine qe_istore (ls2 := [some (.ref r0), some (.ref r1), some (.ref r2), some (.int x3), some (.int 0), none, none, none]) c239_1 (Nat.le_of_ble_eq_true rfl) rfl ?_
  refine qe_iconst (x := 0) c239_3 (by decide) ?_
  refine qe_istore (ls2 := [some (.ref r0), some (.ref r1), some (.ref r2), some (.int x3), some (.int 0), some (.int 0), none, none]) c239_4 (Nat.le_of_ble_eq_true rfl) rfl ?_
  exact kk
theorem b239_6F {d : Nat} {q : Option Value × qH} {h : qH} {r0 : Nat} {r1 : Nat} {r2 : Nat} {x3 : Int32} {x4 : Int32} {x5 : Int32} {fs1 : List Value} {y3 : Int32}  (e2 : h.2.2 r1 = some (.inr (4, fs1))) (e4 : fs1[2]? = some (.int y3)) (e5 : ¬ ((y3 : Int32) ≤ x5)) (kk : qE d 239 15 [some (.ref r0), some (.ref r1), some (.ref r2), some (.int x3), some (.int x4), some (.int x5), none, none] [] h q): qE d 239 6 [some (.ref r0), some (.ref r1), some (.ref r2), some (.int x3), some (.int x4), some (.int x5), none, none] [] h q := by
  refine qe_iload c239_6 rfl ?_
  refine qe_aload_n c239_8 rfl ?_
  refine qe_getfield c239_9 qo239 qF7_78 e2 e4 ?_
  refine qe_icmp_ge_F (t := 58) c239_12 rfl e5 ?_
  exact kk
theorem b239_6T {d : Nat} {q : Option Value × qH} {h : qH} {r0 : Nat} {r1 : Nat} {r2 : Nat} {x3 : Int32} {x4 : Int32} {x5 : Int32} {fs1 : List Value} {y3 : Int32}  (e2 : h.2.2 r1 = some (.inr (4, fs1))) (e4 : fs1[2]? = some (.int y3)) (e5 : (y3 : Int32) ≤ x5) (kk : qE d 239 58 [some (.ref r0), some (.ref r1), some (.ref r2), some (.int x3), some (.int x4), some (.int x5), none, none] [] h q): qE d 239 6 [some (.ref r0), some (.ref r1), some (.ref r2), some (.int x3), some (.int x4), some (.int x5), none, none] [] h q := by
  refine qe_iload c239_6 rfl ?_
  refine qe_aload_n c239_8 rfl ?_
  refine qe_getfield c239_9 qo239 qF7_78 e2 e4 ?_
  refine qe_icmp_ge_T (t := 58) c239_12 rfl e5 ?_
  exact kk
theorem b239_15F {d : Nat} {q : Option Value × qH} {h : qH} {r0 : Nat} {r1 : Nat} {r2 : Nat} {x3 : Int32} {x4 : Int32} {x5 : Int32} {fs1 : List Value} {h1 : qH} {z3 : Int32}  (e2 : h.2.2 r2 = some (.inr (8, fs1))) (e4 : qCall d 245 [.ref r2, .int x5] h ((some (.int z3)), h1)) (e5 : ¬ ((z3 : Int32) = 0)) (kk : qE d 239 24 [some (.ref r0), some (.ref r1), some (.ref r2), some (.int x3), some (.int x4), some (.int x5), none, none] [] h1 q): qE d 239 15 [some (.ref r0), some (.ref r1), some (.ref r2), some (.int x3), some (.int x4), some (.int x5), none, none] [] h q := by
  refine qe_aload_n c239_15 rfl ?_
  refine qe_iload c239_16 rfl ?_
  refine qe_virtual (b := r2) (as := [.int x5]) (r := []) (v := (some (.int z3))) (h2 := h1) c239_18 qo239 qK7_81 rfl rfl rfl (by rw [qo245]; exact e2) (Nat.le_of_ble_eq_true rfl) e4 ?_
  refine qe_if_eq_F (t := 52) c239_21 rfl e5 ?_
  exact kk
theorem b239_15T {d : Nat} {q : Option Value × qH} {h : qH} {r0 : Nat} {r1 : Nat} {r2 : Nat} {x3 : Int32} {x4 : Int32} {x5 : Int32} {fs1 : List Value} {h1 : qH} {z3 : Int32}  (e2 : h.2.2 r2 = some (.inr (8, fs1))) (e4 : qCall d 245 [.ref r2, .int x5] h ((some (.int z3)), h1)) (e5 : (z3 : Int32) = 0) (kk : qE d 239 52 [some (.ref r0), some (.ref r1), some (.ref r2), some (.int x3), some (.int x4), some (.int x5), none, none] [] h1 q): qE d 239 15 [some (.ref r0), some (.ref r1), some (.ref r2), some (.int x3), some (.int x4), some (.int x5), none, none] [] h q := by
  refine qe_aload_n c239_15 rfl ?_
  refine qe_iload c239_16 rfl ?_
  refine qe_virtual (b := r2) (as := [.int x5]) (r := []) (v := (some (.int z3))) (h2 := h1) c239_18 qo239 qK7_81 rfl rfl rfl (by rw [qo245]; exact e2) (Nat.le_of_ble_eq_true rfl) e4 ?_
  refine qe_if_eq_T (t := 52) c239_21 rfl e5 ?_
  exact kk
theorem b239_24F {d : Nat} {q : Option Value × qH} {h : qH} {r0 : Nat} {r1 : Nat} {r2 : Nat} {x3 : Int32} {x4 : Int32} {x5 : Int32} {fs1 : List Value} {y3 : Nat} {fs5 : List Value} {y7 : Nat} {n9 : Nat} {f10 : Nat → Int32} {n13 : Nat} {f14 : Nat → Int32}  (e2 : h.2.2 r0 = some (.inr (7, fs1))) (e4 : fs1[4]? = some (.ref y3)) (e6 : h.2.2 r1 = some (.inr (4, fs5))) (e8 : fs5[14]? = some (.ref y7)) (e11 : h.2.2 y7 = some (.inl (0, n9, .inl f10))) (e12 : 0 ≤ (x5 : Int32).toInt ∧ (x5 : Int32).toInt < (n9 : Nat)) (e15 : h.2.2 y3 = some (.inl (0, n13, .inl f14))) (e16 : 0 ≤ ((f10 (x5 : Int32).toNatClampNeg) : Int32).toInt ∧ ((f10 (x5 : Int32).toNatClampNeg) : Int32).toInt < (n13 : Nat)) (e17 : ((f14 ((f10 (x5 : Int32).toNatClampNeg) : Int32).toNatClampNeg) : Int32) = x3) (kk : qE d 239 40 [some (.ref r0), some (.ref r1), some (.ref r2), some (.int x3), some (.int x4), some (.int x5), none, none] [] h q): qE d 239 24 [some (.ref r0), some (.ref r1), some (.ref r2), some (.int x3), some (.int x4), some (.int x5), none, none] [] h q := by
  refine qe_aload_n c239_24 rfl ?_
  refine qe_getfield c239_25 qo239 qF7_15 e2 e4 ?_
  refine qe_aload_n c239_28 rfl ?_
  refine qe_getfield c239_29 qo239 qF7_85 e6 e8 ?_
  refine qe_iload c239_32 rfl ?_
  refine qe_iaload c239_34 e11 e12 ?_
  refine qe_iaload c239_35 e15 e16 ?_
  refine qe_iload_n c239_36 rfl ?_
  refine qe_icmp_ne_F (t := 52) c239_37 rfl e17 ?_
  exact kk
theorem b239_24T {d : Nat} {q : Option Value × qH} {h : qH} {r0 : Nat} {r1 : Nat} {r2 : Nat} {x3 : Int32} {x4 : Int32} {x5 : Int32} {fs1 : List Value} {y3 : Nat} {fs5 : List Value} {y7 : Nat} {n9 : Nat} {f10 : Nat → Int32} {n13 : Nat} {f14 : Nat → Int32}  (e2 : h.2.2 r0 = some (.inr (7, fs1))) (e4 : fs1[4]? = some (.ref y3)) (e6 : h.2.2 r1 = some (.inr (4, fs5))) (e8 : fs5[14]? = some (.ref y7)) (e11 : h.2.2 y7 = some (.inl (0, n9, .inl f10))) (e12 : 0 ≤ (x5 : Int32).toInt ∧ (x5 : Int32).toInt < (n9 : Nat)) (e15 : h.2.2 y3 = some (.inl (0, n13, .inl f14))) (e16 : 0 ≤ ((f10 (x5 : Int32).toNatClampNeg) : Int32).toInt ∧ ((f10 (x5 : Int32).toNatClampNeg) : Int32).toInt < (n13 : Nat)) (e17 : ¬ (((f14 ((f10 (x5 : Int32).toNatClampNeg) : Int32).toNatClampNeg) : Int32) = x3)) (kk : qE d 239 52 [some (.ref r0), some (.ref r1), some (.ref r2), some (.int x3), some (.int x4), some (.int x5), none, none] [] h q): qE d 239 24 [some (.ref r0), some (.ref r1), some (.ref r2), some (.int x3), some (.int x4), some (.int x5), none, none] [] h q := by
  refine qe_aload_n c239_24 rfl ?_
  refine qe_getfield c239_25 qo239 qF7_15 e2 e4 ?_
  refine qe_aload_n c239_28 rfl ?_
  refine qe_getfield c239_29 qo239 qF7_85 e6 e8 ?_
  refine qe_iload c239_32 rfl ?_
  refine qe_iaload c239_34 e11 e12 ?_
  refine qe_iaload c239_35 e15 e16 ?_
  refine qe_iload_n c239_36 rfl ?_
  refine qe_icmp_ne_T (t := 52) c239_37 rfl e17 ?_
  exact kk
theorem b239_40 {d : Nat} {q : Option Value × qH} {h : qH} {r0 : Nat} {r1 : Nat} {r2 : Nat} {x3 : Int32} {x4 : Int32} {x5 : Int32} {fs1 : List Value} {y3 : Nat} {n5 : Nat} {f6 : Nat → Int32}  (e2 : h.2.2 r1 = some (.inr (4, fs1))) (e4 : fs1[15]? = some (.ref y3)) (e7 : h.2.2 y3 = some (.inl (0, n5, .inl f6))) (e8 : 0 ≤ (x5 : Int32).toInt ∧ (x5 : Int32).toInt < (n5 : Nat)) (kk : qE d 239 52 [some (.ref r0), some (.ref r1), some (.ref r2), some (.int x3), some (.int (x4 + (f6 (x5 : Int32).toNatClampNeg))), some (.int x5), none, none] [] h q): qE d 239 40 [some (.ref r0), some (.ref r1), some (.ref r2), some (.int x3), some (.int x4), some (.int x5), none, none] [] h q := by
  refine qe_iload c239_40 rfl ?_
  refine qe_aload_n c239_42 rfl ?_
  refine qe_getfield c239_43 qo239 qF7_88 e2 e4 ?_
  refine qe_iload c239_46 rfl ?_
  refine qe_iaload c239_48 e7 e8 ?_
  refine qe_iadd c239_49 ?_
  refine qe_istore (ls2 := [some (.ref r0), some (.ref r1), some (.ref r2), some (.int x3), some (.int (x4 + (f6 (x5 : Int32).toNatClampNeg))), some (.int x5), none, none]) c239_50 (Nat.le_of_ble_eq_true rfl) rfl ?_
  exact kk
theorem b239_52 {d : Nat} {q : Option Value × qH} {h : qH} {r0 : Nat} {r1 : Nat} {r2 : Nat} {x3 : Int32} {x4 : Int32} {x5 : Int32}   (kk : qE d 239 6 [some (.ref r0), some (.ref r1), some (.ref r2), some (.int x3), some (.int x4), some (.int (x5 + 1)), none, none] [] h q): qE d 239 52 [some (.ref r0), some (.ref r1), some (.ref r2), some (.int x3), some (.int x4), some (.int x5), none, none] [] h q := by
  refine qe_iinc (y := (x5 + 1)) (ls2 := [some (.ref r0), some (.ref r1), some (.ref r2), some (.int x3), some (.int x4), some (.int (x5 + 1)), none, none]) c239_52 rfl (Nat.le_of_ble_eq_true rfl) rfl rfl ?_
  refine qe_goto (t := 6) c239_55 rfl ?_
  exact kk
theorem b239_58 {d : Nat} {q : Option Value × qH} {h : qH} {r0 : Nat} {r1 : Nat} {r2 : Nat} {x3 : Int32} {x4 : Int32} {x5 : Int32}   (kk : qE d 239 64 [some (.ref r0), some (.ref r1), some (.ref r2), some (.int x3), some (.int x4), some (.int 0), some (.int 0), none] [] h q): qE d 239 58 [some (.ref r0), some (.ref r1), some (.ref r2), some (.int x3), some (.int x4), some (.int x5), none, none] [] h q := by
  refine qe_iconst (x := 0) c239_58 (by decide) ?_
  refine qe_istore (ls2 := [some (.ref r0), some (.ref r1), some (.ref r2), some (.int x3), some (.int x4), some (.int 0), none, none]) c239_59 (Nat.le_of_ble_eq_true rfl) rfl ?_
  refine qe_iconst (x := 0) c239_61 (by decide) ?_
  refine qe_istore (ls2 := [some (.ref r0), some (.ref r1), some (.ref r2), some (.int x3), some (.int x4), some (.int 0), some (.int 0), none]) c239_62 (Nat.le_of_ble_eq_true rfl) rfl ?_
  exact kk
theorem b239_64F {d : Nat} {q : Option Value × qH} {h : qH} {r0 : Nat} {r1 : Nat} {r2 : Nat} {x3 : Int32} {x4 : Int32} {x5 : Int32} {x6 : Int32} {fs1 : List Value} {y3 : Int32}  (e2 : h.2.2 r1 = some (.inr (4, fs1))) (e4 : fs1[0]? = some (.int y3)) (e5 : ¬ ((y3 : Int32) ≤ x6)) (kk : qE d 239 73 [some (.ref r0), some (.ref r1), some (.ref r2), some (.int x3), some (.int x4), some (.int x5), some (.int x6), none] [] h q): qE d 239 64 [some (.ref r0), some (.ref r1), some (.ref r2), some (.int x3), some (.int x4), some (.int x5), some (.int x6), none] [] h q := by
  refine qe_iload c239_64 rfl ?_
  refine qe_aload_n c239_66 rfl ?_
  refine qe_getfield c239_67 qo239 qF7_68 e2 e4 ?_
  refine qe_icmp_ge_F (t := 114) c239_70 rfl e5 ?_
  exact kk
theorem b239_64T {d : Nat} {q : Option Value × qH} {h : qH} {r0 : Nat} {r1 : Nat} {r2 : Nat} {x3 : Int32} {x4 : Int32} {x5 : Int32} {x6 : Int32} {fs1 : List Value} {y3 : Int32}  (e2 : h.2.2 r1 = some (.inr (4, fs1))) (e4 : fs1[0]? = some (.int y3)) (e5 : (y3 : Int32) ≤ x6) (kk : qE d 239 114 [some (.ref r0), some (.ref r1), some (.ref r2), some (.int x3), some (.int x4), some (.int x5), some (.int x6), none] [] h q): qE d 239 64 [some (.ref r0), some (.ref r1), some (.ref r2), some (.int x3), some (.int x4), some (.int x5), some (.int x6), none] [] h q := by
  refine qe_iload c239_64 rfl ?_
  refine qe_aload_n c239_66 rfl ?_
  refine qe_getfield c239_67 qo239 qF7_68 e2 e4 ?_
  refine qe_icmp_ge_T (t := 114) c239_70 rfl e5 ?_
  exact kk
theorem b239_73F {d : Nat} {q : Option Value × qH} {h : qH} {r0 : Nat} {r1 : Nat} {r2 : Nat} {x3 : Int32} {x4 : Int32} {x5 : Int32} {x6 : Int32} {fs1 : List Value} {y3 : Nat} {n5 : Nat} {f6 : Nat → Int32}  (e2 : h.2.2 r0 = some (.inr (7, fs1))) (e4 : fs1[4]? = some (.ref y3)) (e7 : h.2.2 y3 = some (.inl (0, n5, .inl f6))) (e8 : 0 ≤ (x6 : Int32).toInt ∧ (x6 : Int32).toInt < (n5 : Nat)) (e9 : ((f6 (x6 : Int32).toNatClampNeg) : Int32) = x3) (kk : qE d 239 84 [some (.ref r0), some (.ref r1), some (.ref r2), some (.int x3), some (.int x4), some (.int x5), some (.int x6), none] [] h q): qE d 239 73 [some (.ref r0), some (.ref r1), some (.ref r2), some (.int x3), some (.int x4), some (.int x5), some (.int x6), none] [] h q := by
  refine qe_aload_n c239_73 rfl ?_
  refine qe_getfield c239_74 qo239 qF7_15 e2 e4 ?_
  refine qe_iload c239_77 rfl ?_
  refine qe_iaload c239_79 e7 e8 ?_
  refine qe_iload_n c239_80 rfl ?_
  refine qe_icmp_ne_F (t := 108) c239_81 rfl e9 ?_
  exact kk
theorem b239_73T {d : Nat} {q : Option Value × qH} {h : qH} {r0 : Nat} {r1 : Nat} {r2 : Nat} {x3 : Int32} {x4 : Int32} {x5 : Int32} {x6 : Int32} {fs1 : List Value} {y3 : Nat} {n5 : Nat} {f6 : Nat → Int32}  (e2 : h.2.2 r0 = some (.inr (7, fs1))) (e4 : fs1[4]? = some (.ref y3)) (e7 : h.2.2 y3 = some (.inl (0, n5, .inl f6))) (e8 : 0 ≤ (x6 : Int32).toInt ∧ (x6 : Int32).toInt < (n5 : Nat)) (e9 : ¬ (((f6 (x6 : Int32).toNatClampNeg) : Int32) = x3)) (kk : qE d 239 108 [some (.ref r0), some (.ref r1), some (.ref r2), some (.int x3), some (.int x4), some (.int x5), some (.int x6), none] [] h q): qE d 239 73 [some (.ref r0), some (.ref r1), some (.ref r2), some (.int x3), some (.int x4), some (.int x5), some (.int x6), none] [] h q := by
  refine qe_aload_n c239_73 rfl ?_
  refine qe_getfield c239_74 qo239 qF7_15 e2 e4 ?_
  refine qe_iload c239_77 rfl ?_
  refine qe_iaload c239_79 e7 e8 ?_
  refine qe_iload_n c239_80 rfl ?_
  refine qe_icmp_ne_T (t := 108) c239_81 rfl e9 ?_
  exact kk
theorem b239_84F {d : Nat} {q : Option Value × qH} {h : qH} {r0 : Nat} {r1 : Nat} {r2 : Nat} {x3 : Int32} {x4 : Int32} {x5 : Int32} {x6 : Int32} {fs1 : List Value} {y3 : Int32}  (e2 : h.2.2 r0 = some (.inr (7, fs1))) (e4 : fs1[0]? = some (.int y3)) (e5 : (((y3 >>> (x6 &&& 31)) &&& 1) : Int32) = 0) (kk : qE d 239 96 [some (.ref r0), some (.ref r1), some (.ref r2), some (.int x3), some (.int x4), some (.int x5), some (.int x6), none] [] h q): qE d 239 84 [some (.ref r0), some (.ref r1), some (.ref r2), some (.int x3), some (.int x4), some (.int x5), some (.int x6), none] [] h q := by
  refine qe_aload_n c239_84 rfl ?_
  refine qe_getfield c239_85 qo239 qF7_48 e2 e4 ?_
  refine qe_iload c239_88 rfl ?_
  refine qe_ishr c239_90 ?_
  refine qe_iconst (x := 1) c239_91 (by decide) ?_
  refine qe_iand c239_92 ?_
  refine qe_if_ne_F (t := 108) c239_93 rfl e5 ?_
  exact kk
theorem b239_84T {d : Nat} {q : Option Value × qH} {h : qH} {r0 : Nat} {r1 : Nat} {r2 : Nat} {x3 : Int32} {x4 : Int32} {x5 : Int32} {x6 : Int32} {fs1 : List Value} {y3 : Int32}  (e2 : h.2.2 r0 = some (.inr (7, fs1))) (e4 : fs1[0]? = some (.int y3)) (e5 : ¬ ((((y3 >>> (x6 &&& 31)) &&& 1) : Int32) = 0)) (kk : qE d 239 108 [some (.ref r0), some (.ref r1), some (.ref r2), some (.int x3), some (.int x4), some (.int x5), some (.int x6), none] [] h q): qE d 239 84 [some (.ref r0), some (.ref r1), some (.ref r2), some (.int x3), some (.int x4), some (.int x5), some (.int x6), none] [] h q := by
  refine qe_aload_n c239_84 rfl ?_
  refine qe_getfield c239_85 qo239 qF7_48 e2 e4 ?_
  refine qe_iload c239_88 rfl ?_
  refine qe_ishr c239_90 ?_
  refine qe_iconst (x := 1) c239_91 (by decide) ?_
  refine qe_iand c239_92 ?_
  refine qe_if_ne_T (t := 108) c239_93 rfl e5 ?_
  exact kk
theorem b239_96 {d : Nat} {q : Option Value × qH} {h : qH} {r0 : Nat} {r1 : Nat} {r2 : Nat} {x3 : Int32} {x4 : Int32} {x5 : Int32} {x6 : Int32} {fs1 : List Value} {y3 : Nat} {n5 : Nat} {f6 : Nat → Int32}  (e2 : h.2.2 r2 = some (.inr (8, fs1))) (e4 : fs1[4]? = some (.ref y3)) (e7 : h.2.2 y3 = some (.inl (0, n5, .inl f6))) (e8 : 0 ≤ (x6 : Int32).toInt ∧ (x6 : Int32).toInt < (n5 : Nat)) (kk : qE d 239 108 [some (.ref r0), some (.ref r1), some (.ref r2), some (.int x3), some (.int x4), some (.int (x5 + (f6 (x6 : Int32).toNatClampNeg))), some (.int x6), none] [] h q): qE d 239 96 [some (.ref r0), some (.ref r1), some (.ref r2), some (.int x3), some (.int x4), some (.int x5), some (.int x6), none] [] h q := by
  refine qe_iload c239_96 rfl ?_
  refine qe_aload_n c239_98 rfl ?_
  refine qe_getfield c239_99 qo239 qF7_91 e2 e4 ?_
  refine qe_iload c239_102 rfl ?_
  refine qe_iaload c239_104 e7 e8 ?_
  refine qe_iadd c239_105 ?_
  refine qe_istore (ls2 := [some (.ref r0), some (.ref r1), some (.ref r2), some (.int x3), some (.int x4), some (.int (x5 + (f6 (x6 : Int32).toNatClampNeg))), some (.int x6), none]) c239_106 (Nat.le_of_ble_eq_true rfl) rfl ?_
  exact kk
theorem b239_108 {d : Nat} {q : Option Value × qH} {h : qH} {r0 : Nat} {r1 : Nat} {r2 : Nat} {x3 : Int32} {x4 : Int32} {x5 : Int32} {x6 : Int32}   (kk : qE d 239 64 [some (.ref r0), some (.ref r1), some (.ref r2), some (.int x3), some (.int x4), some (.int x5), some (.int (x6 + 1)), none] [] h q): qE d 239 108 [some (.ref r0), some (.ref r1), some (.ref r2), some (.int x3), some (.int x4), some (.int x5), some (.int x6), none] [] h q := by
  refine qe_iinc (y := (x6 + 1)) (ls2 := [some (.ref r0), some (.ref r1), some (.ref r2), some (.int x3), some (.int x4), some (.int x5), some (.int (x6 + 1)), none]) c239_108 rfl (Nat.le_of_ble_eq_true rfl) rfl rfl ?_
  refine qe_goto (t := 64) c239_111 rfl ?_
  exact kk
theorem b239_114 {d : Nat} {q : Option Value × qH} {h : qH} {r0 : Nat} {r1 : Nat} {r2 : Nat} {x3 : Int32} {x4 : Int32} {x5 : Int32} {x6 : Int32} {fs1 : List Value} {y3 : Int32}  (e2 : h.2.2 r1 = some (.inr (4, fs1))) (e4 : fs1[0]? = some (.int y3)) (kk : qE d 239 122 [some (.ref r0), some (.ref r1), some (.ref r2), some (.int x3), some (.int x4), some (.int x5), some (.int (y3 - 1)), none] [] h q): qE d 239 114 [some (.ref r0), some (.ref r1), some (.ref r2), some (.int x3), some (.int x4), some (.int x5), some (.int x6), none] [] h q := by
  refine qe_aload_n c239_114 rfl ?_
  refine qe_getfield c239_115 qo239 qF7_68 e2 e4 ?_
  refine qe_iconst (x := 1) c239_118 (by decide) ?_
  refine qe_isub c239_119 ?_
  refine qe_istore (ls2 := [some (.ref r0), some (.ref r1), some (.ref r2), some (.int x3), some (.int x4), some (.int x5), some (.int (y3 - 1)), none]) c239_120 (Nat.le_of_ble_eq_true rfl) rfl ?_
  exact kk
theorem b239_122F {d : Nat} {q : Option Value × qH} {h : qH} {r0 : Nat} {r1 : Nat} {r2 : Nat} {x3 : Int32} {x4 : Int32} {x5 : Int32} {x6 : Int32} {o7 : Option Value}  (e1 : ¬ ((x6 : Int32) < 0)) (kk : qE d 239 127 [some (.ref r0), some (.ref r1), some (.ref r2), some (.int x3), some (.int x4), some (.int x5), some (.int x6), o7] [] h q): qE d 239 122 [some (.ref r0), some (.ref r1), some (.ref r2), some (.int x3), some (.int x4), some (.int x5), some (.int x6), o7] [] h q := by
  refine qe_iload c239_122 rfl ?_
  refine qe_if_lt_F (t := 228) c239_124 rfl e1 ?_
  exact kk
theorem b239_122T {d : Nat} {q : Option Value × qH} {h : qH} {r0 : Nat} {r1 : Nat} {r2 : Nat} {x3 : Int32} {x4 : Int32} {x5 : Int32} {x6 : Int32} {o7 : Option Value}  (e1 : (x6 : Int32) < 0) (kk : qE d 239 228 [some (.ref r0), some (.ref r1), some (.ref r2), some (.int x3), some (.int x4), some (.int x5), some (.int x6), o7] [] h q): qE d 239 122 [some (.ref r0), some (.ref r1), some (.ref r2), some (.int x3), some (.int x4), some (.int x5), some (.int x6), o7] [] h q := by
  refine qe_iload c239_122 rfl ?_
  refine qe_if_lt_T (t := 228) c239_124 rfl e1 ?_
  exact kk
theorem b239_127F {d : Nat} {q : Option Value × qH} {h : qH} {r0 : Nat} {r1 : Nat} {r2 : Nat} {x3 : Int32} {x4 : Int32} {x5 : Int32} {x6 : Int32} {o7 : Option Value}  (e1 : ¬ ((x5 : Int32) ≤ x4)) (kk : qE d 239 134 [some (.ref r0), some (.ref r1), some (.ref r2), some (.int x3), some (.int x4), some (.int x5), some (.int x6), o7] [] h q): qE d 239 127 [some (.ref r0), some (.ref r1), some (.ref r2), some (.int x3), some (.int x4), some (.int x5), some (.int x6), o7] [] h q := by
  refine qe_iload c239_127 rfl ?_
  refine qe_iload c239_129 rfl ?_
  refine qe_icmp_ge_F (t := 228) c239_131 rfl e1 ?_
  exact kk
theorem b239_127T {d : Nat} {q : Option Value × qH} {h : qH} {r0 : Nat} {r1 : Nat} {r2 : Nat} {x3 : Int32} {x4 : Int32} {x5 : Int32} {x6 : Int32} {o7 : Option Value}  (e1 : (x5 : Int32) ≤ x4) (kk : qE d 239 228 [some (.ref r0), some (.ref r1), some (.ref r2), some (.int x3), some (.int x4), some (.int x5), some (.int x6), o7] [] h q): qE d 239 127 [some (.ref r0), some (.ref r1), some (.ref r2), some (.int x3), some (.int x4), some (.int x5), some (.int x6), o7] [] h q := by
  refine qe_iload c239_127 rfl ?_
  refine qe_iload c239_129 rfl ?_
  refine qe_icmp_ge_T (t := 228) c239_131 rfl e1 ?_
  exact kk
theorem b239_134F {d : Nat} {q : Option Value × qH} {h : qH} {r0 : Nat} {r1 : Nat} {r2 : Nat} {x3 : Int32} {x4 : Int32} {x5 : Int32} {x6 : Int32} {o7 : Option Value} {fs1 : List Value} {y3 : Nat} {n5 : Nat} {f6 : Nat → Int32} {fs9 : List Value} {y11 : Nat} {n13 : Nat} {f14 : Nat → Int32}  (e2 : h.2.2 r1 = some (.inr (4, fs1))) (e4 : fs1[7]? = some (.ref y3)) (e7 : h.2.2 y3 = some (.inl (0, n5, .inl f6))) (e8 : 0 ≤ (x6 : Int32).toInt ∧ (x6 : Int32).toInt < (n5 : Nat)) (e10 : h.2.2 r0 = some (.inr (7, fs9))) (e12 : fs9[4]? = some (.ref y11)) (e15 : h.2.2 y11 = some (.inl (0, n13, .inl f14))) (e16 : 0 ≤ ((f6 (x6 : Int32).toNatClampNeg) : Int32).toInt ∧ ((f6 (x6 : Int32).toNatClampNeg) : Int32).toInt < (n13 : Nat)) (e17 : ((f14 ((f6 (x6 : Int32).toNatClampNeg) : Int32).toNatClampNeg) : Int32) = x3) (kk : qE d 239 154 [some (.ref r0), some (.ref r1), some (.ref r2), some (.int x3), some (.int x4), some (.int x5), some (.int x6), some (.int (f6 (x6 : Int32).toNatClampNeg))] [] h q): qE d 239 134 [some (.ref r0), some (.ref r1), some (.ref r2), some (.int x3), some (.int x4), some (.int x5), some (.int x6), o7] [] h q := by
  refine qe_aload_n c239_134 rfl ?_
  refine qe_getfield c239_135 qo239 qF7_94 e2 e4 ?_
  refine qe_iload c239_138 rfl ?_
  refine qe_iaload c239_140 e7 e8 ?_
  refine qe_istore (ls2 := [some (.ref r0), some (.ref r1), some (.ref r2), some (.int x3), some (.int x4), some (.int x5), some (.int x6), some (.int (f6 (x6 : Int32).toNatClampNeg))]) c239_141 (Nat.le_of_ble_eq_true rfl) rfl ?_
  refine qe_aload_n c239_143 rfl ?_
  refine qe_getfield c239_144 qo239 qF7_15 e10 e12 ?_
  refine qe_iload c239_147 rfl ?_
  refine qe_iaload c239_149 e15 e16 ?_
  refine qe_iload_n c239_150 rfl ?_
  refine qe_icmp_ne_F (t := 222) c239_151 rfl e17 ?_
  exact kk
theorem b239_134T {d : Nat} {q : Option Value × qH} {h : qH} {r0 : Nat} {r1 : Nat} {r2 : Nat} {x3 : Int32} {x4 : Int32} {x5 : Int32} {x6 : Int32} {o7 : Option Value} {fs1 : List Value} {y3 : Nat} {n5 : Nat} {f6 : Nat → Int32} {fs9 : List Value} {y11 : Nat} {n13 : Nat} {f14 : Nat → Int32}  (e2 : h.2.2 r1 = some (.inr (4, fs1))) (e4 : fs1[7]? = some (.ref y3)) (e7 : h.2.2 y3 = some (.inl (0, n5, .inl f6))) (e8 : 0 ≤ (x6 : Int32).toInt ∧ (x6 : Int32).toInt < (n5 : Nat)) (e10 : h.2.2 r0 = some (.inr (7, fs9))) (e12 : fs9[4]? = some (.ref y11)) (e15 : h.2.2 y11 = some (.inl (0, n13, .inl f14))) (e16 : 0 ≤ ((f6 (x6 : Int32).toNatClampNeg) : Int32).toInt ∧ ((f6 (x6 : Int32).toNatClampNeg) : Int32).toInt < (n13 : Nat)) (e17 : ¬ (((f14 ((f6 (x6 : Int32).toNatClampNeg) : Int32).toNatClampNeg) : Int32) = x3)) (kk : qE d 239 222 [some (.ref r0), some (.ref r1), some (.ref r2), some (.int x3), some (.int x4), some (.int x5), some (.int x6), some (.int (f6 (x6 : Int32).toNatClampNeg))] [] h q): qE d 239 134 [some (.ref r0), some (.ref r1), some (.ref r2), some (.int x3), some (.int x4), some (.int x5), some (.int x6), o7] [] h q := by
  refine qe_aload_n c239_134 rfl ?_
  refine qe_getfield c239_135 qo239 qF7_94 e2 e4 ?_
  refine qe_iload c239_138 rfl ?_
  refine qe_iaload c239_140 e7 e8 ?_
  refine qe_istore (ls2 := [some (.ref r0), some (.ref r1), some (.ref r2), some (.int x3), some (.int x4), some (.int x5), some (.int x6), some (.int (f6 (x6 : Int32).toNatClampNeg))]) c239_141 (Nat.le_of_ble_eq_true rfl) rfl ?_
  refine qe_aload_n c239_143 rfl ?_
  refine qe_getfield c239_144 qo239 qF7_15 e10 e12 ?_
  refine qe_iload c239_147 rfl ?_
  refine qe_iaload c239_149 e15 e16 ?_
  refine qe_iload_n c239_150 rfl ?_
  refine qe_icmp_ne_T (t := 222) c239_151 rfl e17 ?_
  exact kk
theorem b239_154F {d : Nat} {q : Option Value × qH} {h : qH} {r0 : Nat} {r1 : Nat} {r2 : Nat} {x3 : Int32} {x4 : Int32} {x5 : Int32} {x6 : Int32} {x7 : Int32} {fs1 : List Value} {y3 : Int32}  (e2 : h.2.2 r0 = some (.inr (7, fs1))) (e4 : fs1[0]? = some (.int y3)) (e5 : (((y3 >>> (x7 &&& 31)) &&& 1) : Int32) = 0) (kk : qE d 239 166 [some (.ref r0), some (.ref r1), some (.ref r2), some (.int x3), some (.int x4), some (.int x5), some (.int x6), some (.int x7)] [] h q): qE d 239 154 [some (.ref r0), some (.ref r1), some (.ref r2), some (.int x3), some (.int x4), some (.int x5), some (.int x6), some (.int x7)] [] h q := by
  refine qe_aload_n c239_154 rfl ?_
  refine qe_getfield c239_155 qo239 qF7_48 e2 e4 ?_
  refine qe_iload c239_158 rfl ?_
  refine qe_ishr c239_160 ?_
  refine qe_iconst (x := 1) c239_161 (by decide) ?_
  refine qe_iand c239_162 ?_
  refine qe_if_ne_F (t := 222) c239_163 rfl e5 ?_
  exact kk
theorem b239_154T {d : Nat} {q : Option Value × qH} {h : qH} {r0 : Nat} {r1 : Nat} {r2 : Nat} {x3 : Int32} {x4 : Int32} {x5 : Int32} {x6 : Int32} {x7 : Int32} {fs1 : List Value} {y3 : Int32}  (e2 : h.2.2 r0 = some (.inr (7, fs1))) (e4 : fs1[0]? = some (.int y3)) (e5 : ¬ ((((y3 >>> (x7 &&& 31)) &&& 1) : Int32) = 0)) (kk : qE d 239 222 [some (.ref r0), some (.ref r1), some (.ref r2), some (.int x3), some (.int x4), some (.int x5), some (.int x6), some (.int x7)] [] h q): qE d 239 154 [some (.ref r0), some (.ref r1), some (.ref r2), some (.int x3), some (.int x4), some (.int x5), some (.int x6), some (.int x7)] [] h q := by
  refine qe_aload_n c239_154 rfl ?_
  refine qe_getfield c239_155 qo239 qF7_48 e2 e4 ?_
  refine qe_iload c239_158 rfl ?_
  refine qe_ishr c239_160 ?_
  refine qe_iconst (x := 1) c239_161 (by decide) ?_
  refine qe_iand c239_162 ?_
  refine qe_if_ne_T (t := 222) c239_163 rfl e5 ?_
  exact kk
theorem b239_166F {d : Nat} {q : Option Value × qH} {h : qH} {r0 : Nat} {r1 : Nat} {r2 : Nat} {x3 : Int32} {x4 : Int32} {x5 : Int32} {x6 : Int32} {x7 : Int32} {fs1 : List Value} {y3 : Nat} {n5 : Nat} {f6 : Nat → Int32}  (e2 : h.2.2 r2 = some (.inr (8, fs1))) (e4 : fs1[4]? = some (.ref y3)) (e7 : h.2.2 y3 = some (.inl (0, n5, .inl f6))) (e8 : 0 ≤ (x7 : Int32).toInt ∧ (x7 : Int32).toInt < (n5 : Nat)) (e9 : ¬ (((f6 (x7 : Int32).toNatClampNeg) : Int32) ≤ 0)) (kk : qE d 239 176 [some (.ref r0), some (.ref r1), some (.ref r2), some (.int x3), some (.int x4), some (.int x5), some (.int x6), some (.int x7)] [] h q): qE d 239 166 [some (.ref r0), some (.ref r1), some (.ref r2), some (.int x3), some (.int x4), some (.int x5), some (.int x6), some (.int x7)] [] h q := by
  refine qe_aload_n c239_166 rfl ?_
  refine qe_getfield c239_167 qo239 qF7_91 e2 e4 ?_
  refine qe_iload c239_170 rfl ?_
  refine qe_iaload c239_172 e7 e8 ?_
  refine qe_if_le_F (t := 222) c239_173 rfl e9 ?_
  exact kk
theorem b239_166T {d : Nat} {q : Option Value × qH} {h : qH} {r0 : Nat} {r1 : Nat} {r2 : Nat} {x3 : Int32} {x4 : Int32} {x5 : Int32} {x6 : Int32} {x7 : Int32} {fs1 : List Value} {y3 : Nat} {n5 : Nat} {f6 : Nat → Int32}  (e2 : h.2.2 r2 = some (.inr (8, fs1))) (e4 : fs1[4]? = some (.ref y3)) (e7 : h.2.2 y3 = some (.inl (0, n5, .inl f6))) (e8 : 0 ≤ (x7 : Int32).toInt ∧ (x7 : Int32).toInt < (n5 : Nat)) (e9 : ((f6 (x7 : Int32).toNatClampNeg) : Int32) ≤ 0) (kk : qE d 239 222 [some (.ref r0), some (.ref r1), some (.ref r2), some (.int x3), some (.int x4), some (.int x5), some (.int x6), some (.int x7)] [] h q): qE d 239 166 [some (.ref r0), some (.ref r1), some (.ref r2), some (.int x3), some (.int x4), some (.int x5), some (.int x6), some (.int x7)] [] h q := by
  refine qe_aload_n c239_166 rfl ?_
  refine qe_getfield c239_167 qo239 qF7_91 e2 e4 ?_
  refine qe_iload c239_170 rfl ?_
  refine qe_iaload c239_172 e7 e8 ?_
  refine qe_if_le_T (t := 222) c239_173 rfl e9 ?_
  exact kk
theorem b239_176 {d : Nat} {q : Option Value × qH} {h : qH} {r0 : Nat} {r1 : Nat} {r2 : Nat} {x3 : Int32} {x4 : Int32} {x5 : Int32} {x6 : Int32} {x7 : Int32} {fs1 : List Value} {y3 : Int32} {h1 : qH} {fs7 : List Value} {y9 : Nat} {y11 : Int32} {n13 : Nat} {f14 : Nat → Int32} {h2 : qH} {fs18 : List Value} {y20 : Int32} {h3 : qH} {fs24 : List Value} {y26 : Nat} {n28 : Nat} {f29 : Nat → Int32}  (e2 : h.2.2 r0 = some (.inr (7, fs1))) (e4 : fs1[0]? = some (.int y3)) (e5 : 0 < fs1.length) (e6 : qset h r0 (.inr (7, fs1.set 0 (.int (y3 ||| (1 <<< (x7 &&& 31)))))) = h1) (e8 : h1.2.2 r0 = some (.inr (7, fs7))) (e10 : fs7[3]? = some (.ref y9)) (e12 : fs7[1]? = some (.int y11)) (e15 : h1.2.2 y9 = some (.inl (0, n13, .inl f14))) (e16 : 0 ≤ (y11 : Int32).toInt ∧ (y11 : Int32).toInt < (n13 : Nat)) (e17 : qset h1 y9 (.inl (0, n13, .inl (upd f14 ((y11 : Int32).toNatClampNeg) x7))) = h2) (e19 : h2.2.2 r0 = some (.inr (7, fs18))) (e21 : fs18[1]? = some (.int y20)) (e22 : 1 < fs18.length) (e23 : qset h2 r0 (.inr (7, fs18.set 1 (.int (y20 + 1)))) = h3) (e25 : h3.2.2 r2 = some (.inr (8, fs24))) (e27 : fs24[4]? = some (.ref y26)) (e30 : h3.2.2 y26 = some (.inl (0, n28, .inl f29))) (e31 : 0 ≤ (x7 : Int32).toInt ∧ (x7 : Int32).toInt < (n28 : Nat)) (kk : qE d 239 222 [some (.ref r0), some (.ref r1), some (.ref r2), some (.int x3), some (.int x4), some (.int (x5 - (f29 (x7 : Int32).toNatClampNeg))), some (.int x6), some (.int x7)] [] h3 q): qE d 239 176 [some (.ref r0), some (.ref r1), some (.ref r2), some (.int x3), some (.int x4), some (.int x5), some (.int x6), some (.int x7)] [] h q := by
  refine qe_aload_n c239_176 rfl ?_
  refine qe_dup c239_177 rfl ?_
  refine qe_getfield c239_178 qo239 qF7_48 e2 e4 ?_
  refine qe_iconst (x := 1) c239_181 (by decide) ?_
  refine qe_iload c239_182 rfl ?_
  refine qe_ishl c239_184 ?_
  refine qe_ior c239_185 ?_
  refine qe_putfield c239_186 qo239 qF7_48 qz7_0 e2 e5 (by rw [qy7_0]; rfl) ?_
  rw [e6]
  refine qe_aload_n c239_189 rfl ?_
  refine qe_getfield c239_190 qo239 qF7_9 e8 e10 ?_
  refine qe_aload_n c239_193 rfl ?_
  refine qe_getfield c239_194 qo239 qF7_49 e8 e12 ?_
  refine qe_iload c239_197 rfl ?_
  refine qe_iastore c239_199 e15 e16 ?_
  rw [e17]
  refine qe_aload_n c239_200 rfl ?_
  refine qe_dup c239_201 rfl ?_
  refine qe_getfield c239_202 qo239 qF7_49 e19 e21 ?_
  refine qe_iconst (x := 1) c239_205 (by decide) ?_
  refine qe_iadd c239_206 ?_
  refine qe_putfield c239_207 qo239 qF7_49 qz7_1 e19 e22 (by rw [qy7_1]; rfl) ?_
  rw [e23]
  refine qe_iload c239_210 rfl ?_
  refine qe_aload_n c239_212 rfl ?_
  refine qe_getfield c239_213 qo239 qF7_91 e25 e27 ?_
  refine qe_iload c239_216 rfl ?_
  refine qe_iaload c239_218 e30 e31 ?_
  refine qe_isub c239_219 ?_
  refine qe_istore (ls2 := [some (.ref r0), some (.ref r1), some (.ref r2), some (.int x3), some (.int x4), some (.int (x5 - (f29 (x7 : Int32).toNatClampNeg))), some (.int x6), some (.int x7)]) c239_220 (Nat.le_of_ble_eq_true rfl) rfl ?_
  exact kk
theorem b239_222 {d : Nat} {q : Option Value × qH} {h : qH} {r0 : Nat} {r1 : Nat} {r2 : Nat} {x3 : Int32} {x4 : Int32} {x5 : Int32} {x6 : Int32} {x7 : Int32}   (kk : qE d 239 122 [some (.ref r0), some (.ref r1), some (.ref r2), some (.int x3), some (.int x4), some (.int x5), some (.int (x6 + (-1))), some (.int x7)] [] h q): qE d 239 222 [some (.ref r0), some (.ref r1), some (.ref r2), some (.int x3), some (.int x4), some (.int x5), some (.int x6), some (.int x7)] [] h q := by
  refine qe_iinc (y := (x6 + (-1))) (ls2 := [some (.ref r0), some (.ref r1), some (.ref r2), some (.int x3), some (.int x4), some (.int x5), some (.int (x6 + (-1))), some (.int x7)]) c239_222 rfl (Nat.le_of_ble_eq_true rfl) rfl rfl ?_
  refine qe_goto (t := 122) c239_225 rfl ?_
  exact kk
theorem b239_228 {d : Nat} {h : qH} {r0 : Nat} {r1 : Nat} {r2 : Nat} {x3 : Int32} {x4 : Int32} {x5 : Int32} {x6 : Int32} {o7 : Option Value} {fs1 : List Value} {h1 : qH}  (e2 : h.2.2 r0 = some (.inr (7, fs1))) (e3 : qCall d 233 [.ref r0, .ref r1, .ref r2, .int x3, .int x4, .int x5] h (none, h1)) : qE d 239 228 [some (.ref r0), some (.ref r1), some (.ref r2), some (.int x3), some (.int x4), some (.int x5), some (.int x6), o7] [] h (none, h1) := by
  refine qe_aload_n c239_228 rfl ?_
  refine qe_aload_n c239_229 rfl ?_
  refine qe_aload_n c239_230 rfl ?_
  refine qe_iload_n c239_231 rfl ?_
  refine qe_iload c239_232 rfl ?_
  refine qe_iload c239_234 rfl ?_
  refine qe_virtual (b := r0) (as := [.ref r1, .ref r2, .int x3, .int x4, .int x5]) (r := []) (v := none) (h2 := h1) c239_236 qo239 qK7_97 rfl rfl rfl (by rw [qo233]; exact e2) (Nat.le_of_ble_eq_true rfl) e3 ?_
  exact qe_vret c239_239 qr239
theorem b240_0F {d : Nat} {q : Option Value × qH} {h : qH} {r0 : Nat} {r1 : Nat} {r2 : Nat} {x3 : Int32} {fs1 : List Value} {h1 : qH} {z3 : Int32} {fs5 : List Value} {h2 : qH} {z7 : Int64}  (e2 : h.2.2 r0 = some (.inr (7, fs1))) (e4 : qCall d 235 [.ref r0, .ref r1, .ref r2, .int x3] h ((some (.int z3)), h1)) (e6 : h1.2.2 r0 = some (.inr (7, fs5))) (e8 : qCall d 234 [.ref r0, .int z3] h1 ((some (.long z7)), h2)) (e9 : ((lg_cmp z7 0) : Int32) = 0) (kk : qE d 240 24 [some (.ref r0), some (.ref r1), some (.ref r2), some (.int x3), some (.int z3), some (.long z7), none, none, none, none] [] h2 q): qE d 240 0 [some (.ref r0), some (.ref r1), some (.ref r2), some (.int x3), none, none, none, none, none, none] [] h q := by
  refine qe_aload_n c240_0 rfl ?_
  refine qe_aload_n c240_1 rfl ?_
  refine qe_aload_n c240_2 rfl ?_
  refine qe_iload_n c240_3 rfl ?_
  refine qe_virtual (b := r0) (as := [.ref r1, .ref r2, .int x3]) (r := []) (v := (some (.int z3))) (h2 := h1) c240_4 qo240 qK7_110 rfl rfl rfl (by rw [qo235]; exact e2) (Nat.le_of_ble_eq_true rfl) e4 ?_
  refine qe_istore (ls2 := [some (.ref r0), some (.ref r1), some (.ref r2), some (.int x3), some (.int z3), none, none, none, none, none]) c240_7 (Nat.le_of_ble_eq_true rfl) rfl ?_
  refine qe_aload_n c240_9 rfl ?_
  refine qe_iload c240_10 rfl ?_
  refine qe_virtual (b := r0) (as := [.int z3]) (r := []) (v := (some (.long z7))) (h2 := h2) c240_12 qo240 qK7_114 rfl rfl rfl (by rw [qo234]; exact e6) (Nat.le_of_ble_eq_true rfl) e8 ?_
  refine qe_lstore (ls2 := [some (.ref r0), some (.ref r1), some (.ref r2), some (.int x3), some (.int z3), some (.long z7), none, none, none, none]) c240_15 (Nat.le_of_ble_eq_true rfl) rfl ?_
  refine qe_lload c240_17 rfl ?_
  refine qe_lconst (x := 0) c240_19 (by decide) ?_
  refine qe_lcmp c240_20 ?_
  refine qe_if_ne_F (t := 25) c240_21 rfl e9 ?_
  exact kk
theorem b240_0T {d : Nat} {q : Option Value × qH} {h : qH} {r0 : Nat} {r1 : Nat} {r2 : Nat} {x3 : Int32} {fs1 : List Value} {h1 : qH} {z3 : Int32} {fs5 : List Value} {h2 : qH} {z7 : Int64}  (e2 : h.2.2 r0 = some (.inr (7, fs1))) (e4 : qCall d 235 [.ref r0, .ref r1, .ref r2, .int x3] h ((some (.int z3)), h1)) (e6 : h1.2.2 r0 = some (.inr (7, fs5))) (e8 : qCall d 234 [.ref r0, .int z3] h1 ((some (.long z7)), h2)) (e9 : ¬ (((lg_cmp z7 0) : Int32) = 0)) (kk : qE d 240 25 [some (.ref r0), some (.ref r1), some (.ref r2), some (.int x3), some (.int z3), some (.long z7), none, none, none, none] [] h2 q): qE d 240 0 [some (.ref r0), some (.ref r1), some (.ref r2), some (.int x3), none, none, none, none, none, none] [] h q := by
  refine qe_aload_n c240_0 rfl ?_
  refine qe_aload_n c240_1 rfl ?_
  refine qe_aload_n c240_2 rfl ?_
  refine qe_iload_n c240_3 rfl ?_
  refine qe_virtual (b := r0) (as := [.ref r1, .ref r2, .int x3]) (r := []) (v := (some (.int z3))) (h2 := h1) c240_4 qo240 qK7_110 rfl rfl rfl (by rw [qo235]; exact e2) (Nat.le_of_ble_eq_true rfl) e4 ?_
  refine qe_istore (ls2 := [some (.ref r0), some (.ref r1), some (.ref r2), some (.int x3), some (.int z3), none, none, none, none, none]) c240_7 (Nat.le_of_ble_eq_true rfl) rfl ?_
  refine qe_aload_n c240_9 rfl ?_
  refine qe_iload c240_10 rfl ?_
  refine qe_virtual (b := r0) (as := [.int z3]) (r := []) (v := (some (.long z7))) (h2 := h2) c240_12 qo240 qK7_114 rfl rfl rfl (by rw [qo234]; exact e6) (Nat.le_of_ble_eq_true rfl) e8 ?_
  refine qe_lstore (ls2 := [some (.ref r0), some (.ref r1), some (.ref r2), some (.int x3), some (.int z3), some (.long z7), none, none, none, none]) c240_15 (Nat.le_of_ble_eq_true rfl) rfl ?_
  refine qe_lload c240_17 rfl ?_
  refine qe_lconst (x := 0) c240_19 (by decide) ?_
  refine qe_lcmp c240_20 ?_
  refine qe_if_ne_T (t := 25) c240_21 rfl e9 ?_
  exact kk
theorem b240_24 {d : Nat} {h : qH} {r0 : Nat} {r1 : Nat} {r2 : Nat} {x3 : Int32} {x4 : Int32} {l5 : Int64}   : qE d 240 24 [some (.ref r0), some (.ref r1), some (.ref r2), some (.int x3), some (.int x4), some (.long l5), none, none, none, none] [] h (none, h) := by
  exact qe_vret c240_24 qr240
theorem b240_25 {d : Nat} {q : Option Value × qH} {h : qH} {r0 : Nat} {r1 : Nat} {r2 : Nat} {x3 : Int32} {x4 : Int32} {l5 : Int64}   (kk : qE d 240 28 [some (.ref r0), some (.ref r1), some (.ref r2), some (.int x3), some (.int x4), some (.long l5), none, some (.int 0), none, none] [] h q): qE d 240 25 [some (.ref r0), some (.ref r1), some (.ref r2), some (.int x3), some (.int x4), some (.long l5), none, none, none, none] [] h q := by
  refine qe_iconst (x := 0) c240_25 (by decide) ?_
  refine qe_istore (ls2 := [some (.ref r0), some (.ref r1), some (.ref r2), some (.int x3), some (.int x4), some (.long l5), none, some (.int 0), none, none]) c240_26 (Nat.le_of_ble_eq_true rfl) rfl ?_
  exact kk
theorem b240_28F {d : Nat} {q : Option Value × qH} {h : qH} {r0 : Nat} {r1 : Nat} {r2 : Nat} {x3 : Int32} {x4 : Int32} {l5 : Int64} {x7 : Int32} {fs1 : List Value} {y3 : Int32}  (e2 : h.2.2 r1 = some (.inr (4, fs1))) (e4 : fs1[0]? = some (.int y3)) (e5 : ¬ ((y3 : Int32) ≤ x7)) (kk : qE d 240 37 [some (.ref r0), some (.ref r1), some (.ref r2), some (.int x3), some (.int x4), some (.long l5), none, some (.int x7), none, none] [] h q): qE d 240 28 [some (.ref r0), some (.ref r1), some (.ref r2), some (.int x3), some (.int x4), some (.long l5), none, some (.int x7), none, none] [] h q := by
  refine qe_iload c240_28 rfl ?_
  refine qe_aload_n c240_30 rfl ?_
  refine qe_getfield c240_31 qo240 qF7_68 e2 e4 ?_
  refine qe_icmp_ge_F (t := 86) c240_34 rfl e5 ?_
  exact kk
theorem b240_28T {d : Nat} {q : Option Value × qH} {h : qH} {r0 : Nat} {r1 : Nat} {r2 : Nat} {x3 : Int32} {x4 : Int32} {l5 : Int64} {x7 : Int32} {fs1 : List Value} {y3 : Int32}  (e2 : h.2.2 r1 = some (.inr (4, fs1))) (e4 : fs1[0]? = some (.int y3)) (e5 : (y3 : Int32) ≤ x7) (kk : qE d 240 86 [some (.ref r0), some (.ref r1), some (.ref r2), some (.int x3), some (.int x4), some (.long l5), none, some (.int x7), none, none] [] h q): qE d 240 28 [some (.ref r0), some (.ref r1), some (.ref r2), some (.int x3), some (.int x4), some (.long l5), none, some (.int x7), none, none] [] h q := by
  refine qe_iload c240_28 rfl ?_
  refine qe_aload_n c240_30 rfl ?_
  refine qe_getfield c240_31 qo240 qF7_68 e2 e4 ?_
  refine qe_icmp_ge_T (t := 86) c240_34 rfl e5 ?_
  exact kk
theorem b240_37F {d : Nat} {q : Option Value × qH} {h : qH} {r0 : Nat} {r1 : Nat} {r2 : Nat} {x3 : Int32} {x4 : Int32} {l5 : Int64} {x7 : Int32} {fs1 : List Value} {y3 : Nat}  (e2 : h.2.2 r0 = some (.inr (7, fs1))) (e4 : fs1[10]? = some (.ref y3)) (e5 : ¬ ((x7 : Int32) = x3)) (kk : qE d 240 49 [some (.ref r0), some (.ref r1), some (.ref r2), some (.int x3), some (.int x4), some (.long l5), none, some (.int x7), none, none] [.int x7, .ref y3] h q): qE d 240 37 [some (.ref r0), some (.ref r1), some (.ref r2), some (.int x3), some (.int x4), some (.long l5), none, some (.int x7), none, none] [] h q := by
  refine qe_aload_n c240_37 rfl ?_
  refine qe_getfield c240_38 qo240 qF7_34 e2 e4 ?_
  refine qe_iload c240_41 rfl ?_
  refine qe_iload c240_43 rfl ?_
  refine qe_iload_n c240_45 rfl ?_
  refine qe_icmp_eq_F (t := 60) c240_46 rfl e5 ?_
  exact kk
theorem b240_37T {d : Nat} {q : Option Value × qH} {h : qH} {r0 : Nat} {r1 : Nat} {r2 : Nat} {x3 : Int32} {x4 : Int32} {l5 : Int64} {x7 : Int32} {fs1 : List Value} {y3 : Nat}  (e2 : h.2.2 r0 = some (.inr (7, fs1))) (e4 : fs1[10]? = some (.ref y3)) (e5 : (x7 : Int32) = x3) (kk : qE d 240 60 [some (.ref r0), some (.ref r1), some (.ref r2), some (.int x3), some (.int x4), some (.long l5), none, some (.int x7), none, none] [.int x7, .ref y3] h q): qE d 240 37 [some (.ref r0), some (.ref r1), some (.ref r2), some (.int x3), some (.int x4), some (.long l5), none, some (.int x7), none, none] [] h q := by
  refine qe_aload_n c240_37 rfl ?_
  refine qe_getfield c240_38 qo240 qF7_34 e2 e4 ?_
  refine qe_iload c240_41 rfl ?_
  refine qe_iload c240_43 rfl ?_
  refine qe_iload_n c240_45 rfl ?_
  refine qe_icmp_eq_T (t := 60) c240_46 rfl e5 ?_
  exact kk
theorem b240_49F {d : Nat} {q : Option Value × qH} {h : qH} {r0 : Nat} {r1 : Nat} {r2 : Nat} {x3 : Int32} {x4 : Int32} {l5 : Int64} {x7 : Int32} {rs0 : Nat} {xs1 : Int32} {fs1 : List Value} {y3 : Nat} {n5 : Nat} {f6 : Nat → Int32}  (e2 : h.2.2 r0 = some (.inr (7, fs1))) (e4 : fs1[4]? = some (.ref y3)) (e7 : h.2.2 y3 = some (.inl (0, n5, .inl f6))) (e8 : 0 ≤ (x7 : Int32).toInt ∧ (x7 : Int32).toInt < (n5 : Nat)) (e9 : ¬ (((f6 (x7 : Int32).toNatClampNeg) : Int32) = x3)) (kk : qE d 240 60 [some (.ref r0), some (.ref r1), some (.ref r2), some (.int x3), some (.int x4), some (.long l5), none, some (.int x7), none, none] [.int xs1, .ref rs0] h q): qE d 240 49 [some (.ref r0), some (.ref r1), some (.ref r2), some (.int x3), some (.int x4), some (.long l5), none, some (.int x7), none, none] [.int xs1, .ref rs0] h q := by
  refine qe_aload_n c240_49 rfl ?_
  refine qe_getfield c240_50 qo240 qF7_15 e2 e4 ?_
  refine qe_iload c240_53 rfl ?_
  refine qe_iaload c240_55 e7 e8 ?_
  refine qe_iload_n c240_56 rfl ?_
  refine qe_icmp_eq_F (t := 64) c240_57 rfl e9 ?_
  exact kk
theorem b240_49T {d : Nat} {q : Option Value × qH} {h : qH} {r0 : Nat} {r1 : Nat} {r2 : Nat} {x3 : Int32} {x4 : Int32} {l5 : Int64} {x7 : Int32} {rs0 : Nat} {xs1 : Int32} {fs1 : List Value} {y3 : Nat} {n5 : Nat} {f6 : Nat → Int32}  (e2 : h.2.2 r0 = some (.inr (7, fs1))) (e4 : fs1[4]? = some (.ref y3)) (e7 : h.2.2 y3 = some (.inl (0, n5, .inl f6))) (e8 : 0 ≤ (x7 : Int32).toInt ∧ (x7 : Int32).toInt < (n5 : Nat)) (e9 : ((f6 (x7 : Int32).toNatClampNeg) : Int32) = x3) (kk : qE d 240 64 [some (.ref r0), some (.ref r1), some (.ref r2), some (.int x3), some (.int x4), some (.long l5), none, some (.int x7), none, none] [.int xs1, .ref rs0] h q): qE d 240 49 [some (.ref r0), some (.ref r1), some (.ref r2), some (.int x3), some (.int x4), some (.long l5), none, some (.int x7), none, none] [.int xs1, .ref rs0] h q := by
  refine qe_aload_n c240_49 rfl ?_
  refine qe_getfield c240_50 qo240 qF7_15 e2 e4 ?_
  refine qe_iload c240_53 rfl ?_
  refine qe_iaload c240_55 e7 e8 ?_
  refine qe_iload_n c240_56 rfl ?_
  refine qe_icmp_eq_T (t := 64) c240_57 rfl e9 ?_
  exact kk
theorem b240_60 {d : Nat} {q : Option Value × qH} {h : qH} {r0 : Nat} {r1 : Nat} {r2 : Nat} {x3 : Int32} {x4 : Int32} {l5 : Int64} {x7 : Int32} {rs0 : Nat} {xs1 : Int32}   (kk : qE d 240 79 [some (.ref r0), some (.ref r1), some (.ref r2), some (.int x3), some (.int x4), some (.long l5), none, some (.int x7), none, none] [.long 0, .int xs1, .ref rs0] h q): qE d 240 60 [some (.ref r0), some (.ref r1), some (.ref r2), some (.int x3), some (.int x4), some (.long l5), none, some (.int x7), none, none] [.int xs1, .ref rs0] h q := by
  refine qe_lconst (x := 0) c240_60 (by decide) ?_
  refine qe_goto (t := 79) c240_61 rfl ?_
  exact kk
theorem b240_64 {d : Nat} {q : Option Value × qH} {h : qH} {r0 : Nat} {r1 : Nat} {r2 : Nat} {x3 : Int32} {x4 : Int32} {l5 : Int64} {x7 : Int32} {rs0 : Nat} {xs1 : Int32} {fs1 : List Value} {y3 : Nat} {y5 : Nat} {n7 : Nat} {f8 : Nat → Int32} {n11 : Nat} {f12 : Nat → Option Nat} {r15 : Nat} {n17 : Nat} {f18 : Nat → Int64}  (e2 : h.2.2 r0 = some (.inr (7, fs1))) (e4 : fs1[11]? = some (.ref y3)) (e6 : fs1[9]? = some (.ref y5)) (e9 : h.2.2 y5 = some (.inl (0, n7, .inl f8))) (e10 : 0 ≤ (x7 : Int32).toInt ∧ (x7 : Int32).toInt < (n7 : Nat)) (e13 : h.2.2 y3 = some (.inl (7, n11, .inr (.inr (.inr (.inr f12)))))) (e14 : 0 ≤ ((f8 (x7 : Int32).toNatClampNeg) : Int32).toInt ∧ ((f8 (x7 : Int32).toNatClampNeg) : Int32).toInt < (n11 : Nat)) (e16 : (f12 ((f8 (x7 : Int32).toNatClampNeg) : Int32).toNatClampNeg) = some r15) (e19 : h.2.2 r15 = some (.inl (2, n17, .inr (.inl f18)))) (e20 : 0 ≤ (x4 : Int32).toInt ∧ (x4 : Int32).toInt < (n17 : Nat)) (kk : qE d 240 79 [some (.ref r0), some (.ref r1), some (.ref r2), some (.int x3), some (.int x4), some (.long l5), none, some (.int x7), none, none] [.long (f18 (x4 : Int32).toNatClampNeg), .int xs1, .ref rs0] h q): qE d 240 64 [some (.ref r0), some (.ref r1), some (.ref r2), some (.int x3), some (.int x4), some (.long l5), none, some (.int x7), none, none] [.int xs1, .ref rs0] h q := by
  refine qe_aload_n c240_64 rfl ?_
  refine qe_getfield c240_65 qo240 qF7_39 e2 e4 ?_
  refine qe_aload_n c240_68 rfl ?_
  refine qe_getfield c240_69 qo240 qF7_31 e2 e6 ?_
  refine qe_iload c240_72 rfl ?_
  refine qe_iaload c240_74 e9 e10 ?_
  refine qe_aaload c240_75 e13 e14 (Or.inr (Or.inr rfl)) e16 ?_
  refine qe_iload c240_76 rfl ?_
  refine qe_laload c240_78 e19 e20 ?_
  exact kk
theorem b240_79 {d : Nat} {q : Option Value × qH} {h : qH} {r0 : Nat} {r1 : Nat} {r2 : Nat} {x3 : Int32} {x4 : Int32} {l5 : Int64} {x7 : Int32} {rs0 : Nat} {xs1 : Int32} {ls2 : Int64} {n1 : Nat} {f2 : Nat → Int64} {h1 : qH}  (e3 : h.2.2 rs0 = some (.inl (2, n1, .inr (.inl f2)))) (e4 : 0 ≤ (xs1 : Int32).toInt ∧ (xs1 : Int32).toInt < (n1 : Nat)) (e5 : qset h rs0 (.inl (2, n1, .inr (.inl (vp_updL f2 ((xs1 : Int32).toNatClampNeg) ls2)))) = h1) (kk : qE d 240 28 [some (.ref r0), some (.ref r1), some (.ref r2), some (.int x3), some (.int x4), some (.long l5), none, some (.int (x7 + 1)), none, none] [] h1 q): qE d 240 79 [some (.ref r0), some (.ref r1), some (.ref r2), some (.int x3), some (.int x4), some (.long l5), none, some (.int x7), none, none] [.long ls2, .int xs1, .ref rs0] h q := by
  refine qe_lastore c240_79 e3 e4 ?_
  rw [e5]
  refine qe_iinc (y := (x7 + 1)) (ls2 := [some (.ref r0), some (.ref r1), some (.ref r2), some (.int x3), some (.int x4), some (.long l5), none, some (.int (x7 + 1)), none, none]) c240_80 rfl (Nat.le_of_ble_eq_true rfl) rfl rfl ?_
  refine qe_goto (t := 28) c240_83 rfl ?_
  exact kk
theorem b240_86 {d : Nat} {q : Option Value × qH} {h : qH} {r0 : Nat} {r1 : Nat} {r2 : Nat} {x3 : Int32} {x4 : Int32} {l5 : Int64} {x7 : Int32}   (kk : qE d 240 89 [some (.ref r0), some (.ref r1), some (.ref r2), some (.int x3), some (.int x4), some (.long l5), none, some (.int 0), none, none] [] h q): qE d 240 86 [some (.ref r0), some (.ref r1), some (.ref r2), some (.int x3), some (.int x4), some (.long l5), none, some (.int x7), none, none] [] h q := by
  refine qe_iconst (x := 0) c240_86 (by decide) ?_
  refine qe_istore (ls2 := [some (.ref r0), some (.ref r1), some (.ref r2), some (.int x3), some (.int x4), some (.long l5), none, some (.int 0), none, none]) c240_87 (Nat.le_of_ble_eq_true rfl) rfl ?_
  exact kk
theorem b240_89F {d : Nat} {q : Option Value × qH} {h : qH} {r0 : Nat} {r1 : Nat} {r2 : Nat} {x3 : Int32} {x4 : Int32} {l5 : Int64} {x7 : Int32} {o8 : Option Value} {fs1 : List Value} {y3 : Int32}  (e2 : h.2.2 r1 = some (.inr (4, fs1))) (e4 : fs1[1]? = some (.int y3)) (e5 : ¬ ((y3 : Int32) ≤ x7)) (kk : qE d 240 98 [some (.ref r0), some (.ref r1), some (.ref r2), some (.int x3), some (.int x4), some (.long l5), none, some (.int x7), o8, none] [] h q): qE d 240 89 [some (.ref r0), some (.ref r1), some (.ref r2), some (.int x3), some (.int x4), some (.long l5), none, some (.int x7), o8, none] [] h q := by
  refine qe_iload c240_89 rfl ?_
  refine qe_aload_n c240_91 rfl ?_
  refine qe_getfield c240_92 qo240 qF7_118 e2 e4 ?_
  refine qe_icmp_ge_F (t := 216) c240_95 rfl e5 ?_
  exact kk
theorem b240_89T {d : Nat} {q : Option Value × qH} {h : qH} {r0 : Nat} {r1 : Nat} {r2 : Nat} {x3 : Int32} {x4 : Int32} {l5 : Int64} {x7 : Int32} {o8 : Option Value} {fs1 : List Value} {y3 : Int32}  (e2 : h.2.2 r1 = some (.inr (4, fs1))) (e4 : fs1[1]? = some (.int y3)) (e5 : (y3 : Int32) ≤ x7) (kk : qE d 240 216 [some (.ref r0), some (.ref r1), some (.ref r2), some (.int x3), some (.int x4), some (.long l5), none, some (.int x7), o8, none] [] h q): qE d 240 89 [some (.ref r0), some (.ref r1), some (.ref r2), some (.int x3), some (.int x4), some (.long l5), none, some (.int x7), o8, none] [] h q := by
  refine qe_iload c240_89 rfl ?_
  refine qe_aload_n c240_91 rfl ?_
  refine qe_getfield c240_92 qo240 qF7_118 e2 e4 ?_
  refine qe_icmp_ge_T (t := 216) c240_95 rfl e5 ?_
  exact kk
theorem b240_98F {d : Nat} {q : Option Value × qH} {h : qH} {r0 : Nat} {r1 : Nat} {r2 : Nat} {x3 : Int32} {x4 : Int32} {l5 : Int64} {x7 : Int32} {o8 : Option Value} {fs1 : List Value} {y3 : Nat} {n5 : Nat} {f6 : Nat → Int32}  (e2 : h.2.2 r2 = some (.inr (8, fs1))) (e4 : fs1[5]? = some (.ref y3)) (e7 : h.2.2 y3 = some (.inl (0, n5, .inl f6))) (e8 : 0 ≤ (x7 : Int32).toInt ∧ (x7 : Int32).toInt < (n5 : Nat)) (e9 : ((f6 (x7 : Int32).toNatClampNeg) : Int32) = 0) (kk : qE d 240 108 [some (.ref r0), some (.ref r1), some (.ref r2), some (.int x3), some (.int x4), some (.long l5), none, some (.int x7), o8, none] [] h q): qE d 240 98 [some (.ref r0), some (.ref r1), some (.ref r2), some (.int x3), some (.int x4), some (.long l5), none, some (.int x7), o8, none] [] h q := by
  refine qe_aload_n c240_98 rfl ?_
  refine qe_getfield c240_99 qo240 qF7_121 e2 e4 ?_
  refine qe_iload c240_102 rfl ?_
  refine qe_iaload c240_104 e7 e8 ?_
  refine qe_if_ne_F (t := 210) c240_105 rfl e9 ?_
  exact kk
theorem b240_98T {d : Nat} {q : Option Value × qH} {h : qH} {r0 : Nat} {r1 : Nat} {r2 : Nat} {x3 : Int32} {x4 : Int32} {l5 : Int64} {x7 : Int32} {o8 : Option Value} {fs1 : List Value} {y3 : Nat} {n5 : Nat} {f6 : Nat → Int32}  (e2 : h.2.2 r2 = some (.inr (8, fs1))) (e4 : fs1[5]? = some (.ref y3)) (e7 : h.2.2 y3 = some (.inl (0, n5, .inl f6))) (e8 : 0 ≤ (x7 : Int32).toInt ∧ (x7 : Int32).toInt < (n5 : Nat)) (e9 : ¬ (((f6 (x7 : Int32).toNatClampNeg) : Int32) = 0)) (kk : qE d 240 210 [some (.ref r0), some (.ref r1), some (.ref r2), some (.int x3), some (.int x4), some (.long l5), none, some (.int x7), o8, none] [] h q): qE d 240 98 [some (.ref r0), some (.ref r1), some (.ref r2), some (.int x3), some (.int x4), some (.long l5), none, some (.int x7), o8, none] [] h q := by
  refine qe_aload_n c240_98 rfl ?_
  refine qe_getfield c240_99 qo240 qF7_121 e2 e4 ?_
  refine qe_iload c240_102 rfl ?_
  refine qe_iaload c240_104 e7 e8 ?_
  refine qe_if_ne_T (t := 210) c240_105 rfl e9 ?_
  exact kk
theorem b240_108F {d : Nat} {q : Option Value × qH} {h : qH} {r0 : Nat} {r1 : Nat} {r2 : Nat} {x3 : Int32} {x4 : Int32} {l5 : Int64} {x7 : Int32} {o8 : Option Value} {fs1 : List Value} {y3 : Nat} {fs5 : List Value} {y7 : Nat} {n9 : Nat} {f10 : Nat → Int32} {n13 : Nat} {f14 : Nat → Int32}  (e2 : h.2.2 r0 = some (.inr (7, fs1))) (e4 : fs1[4]? = some (.ref y3)) (e6 : h.2.2 r1 = some (.inr (4, fs5))) (e8 : fs5[8]? = some (.ref y7)) (e11 : h.2.2 y7 = some (.inl (0, n9, .inl f10))) (e12 : 0 ≤ (x7 : Int32).toInt ∧ (x7 : Int32).toInt < (n9 : Nat)) (e15 : h.2.2 y3 = some (.inl (0, n13, .inl f14))) (e16 : 0 ≤ ((f10 (x7 : Int32).toNatClampNeg) : Int32).toInt ∧ ((f10 (x7 : Int32).toNatClampNeg) : Int32).toInt < (n13 : Nat)) (e17 : ((f14 ((f10 (x7 : Int32).toNatClampNeg) : Int32).toNatClampNeg) : Int32) = x3) (kk : qE d 240 124 [some (.ref r0), some (.ref r1), some (.ref r2), some (.int x3), some (.int x4), some (.long l5), none, some (.int x7), o8, none] [] h q): qE d 240 108 [some (.ref r0), some (.ref r1), some (.ref r2), some (.int x3), some (.int x4), some (.long l5), none, some (.int x7), o8, none] [] h q := by
  refine qe_aload_n c240_108 rfl ?_
  refine qe_getfield c240_109 qo240 qF7_15 e2 e4 ?_
  refine qe_aload_n c240_112 rfl ?_
  refine qe_getfield c240_113 qo240 qF7_124 e6 e8 ?_
  refine qe_iload c240_116 rfl ?_
  refine qe_iaload c240_118 e11 e12 ?_
  refine qe_iaload c240_119 e15 e16 ?_
  refine qe_iload_n c240_120 rfl ?_
  refine qe_icmp_ne_F (t := 210) c240_121 rfl e17 ?_
  exact kk
theorem b240_108T {d : Nat} {q : Option Value × qH} {h : qH} {r0 : Nat} {r1 : Nat} {r2 : Nat} {x3 : Int32} {x4 : Int32} {l5 : Int64} {x7 : Int32} {o8 : Option Value} {fs1 : List Value} {y3 : Nat} {fs5 : List Value} {y7 : Nat} {n9 : Nat} {f10 : Nat → Int32} {n13 : Nat} {f14 : Nat → Int32}  (e2 : h.2.2 r0 = some (.inr (7, fs1))) (e4 : fs1[4]? = some (.ref y3)) (e6 : h.2.2 r1 = some (.inr (4, fs5))) (e8 : fs5[8]? = some (.ref y7)) (e11 : h.2.2 y7 = some (.inl (0, n9, .inl f10))) (e12 : 0 ≤ (x7 : Int32).toInt ∧ (x7 : Int32).toInt < (n9 : Nat)) (e15 : h.2.2 y3 = some (.inl (0, n13, .inl f14))) (e16 : 0 ≤ ((f10 (x7 : Int32).toNatClampNeg) : Int32).toInt ∧ ((f10 (x7 : Int32).toNatClampNeg) : Int32).toInt < (n13 : Nat)) (e17 : ¬ (((f14 ((f10 (x7 : Int32).toNatClampNeg) : Int32).toNatClampNeg) : Int32) = x3)) (kk : qE d 240 210 [some (.ref r0), some (.ref r1), some (.ref r2), some (.int x3), some (.int x4), some (.long l5), none, some (.int x7), o8, none] [] h q): qE d 240 108 [some (.ref r0), some (.ref r1), some (.ref r2), some (.int x3), some (.int x4), some (.long l5), none, some (.int x7), o8, none] [] h q := by
  refine qe_aload_n c240_108 rfl ?_
  refine qe_getfield c240_109 qo240 qF7_15 e2 e4 ?_
  refine qe_aload_n c240_112 rfl ?_
  refine qe_getfield c240_113 qo240 qF7_124 e6 e8 ?_
  refine qe_iload c240_116 rfl ?_
  refine qe_iaload c240_118 e11 e12 ?_
  refine qe_iaload c240_119 e15 e16 ?_
  refine qe_iload_n c240_120 rfl ?_
  refine qe_icmp_ne_T (t := 210) c240_121 rfl e17 ?_
  exact kk
theorem b240_124F {d : Nat} {q : Option Value × qH} {h : qH} {r0 : Nat} {r1 : Nat} {r2 : Nat} {x3 : Int32} {x4 : Int32} {l5 : Int64} {x7 : Int32} {o8 : Option Value} {fs1 : List Value} {y3 : Nat} {n5 : Nat} {f6 : Nat → Int32} {fs9 : List Value} {y11 : Nat} {y13 : Nat} {n15 : Nat} {f16 : Nat → Int32} {n19 : Nat} {f20 : Nat → Int64} {y24 : Nat} {n26 : Nat} {f27 : Nat → Int32} {y31 : Nat} {n34 : Nat} {f35 : Nat → Int64} {h1 : qH} {fs39 : List Value} {y41 : Int32} {h2 : qH} {z43 : Int64} {fs45 : List Value} {y47 : Nat} {n49 : Nat} {f50 : Nat → Int32}  (e2 : h.2.2 r1 = some (.inr (4, fs1))) (e4 : fs1[10]? = some (.ref y3)) (e7 : h.2.2 y3 = some (.inl (0, n5, .inl f6))) (e8 : 0 ≤ (x7 : Int32).toInt ∧ (x7 : Int32).toInt < (n5 : Nat)) (e10 : h.2.2 r0 = some (.inr (7, fs9))) (e12 : fs9[10]? = some (.ref y11)) (e14 : fs1[8]? = some (.ref y13)) (e17 : h.2.2 y13 = some (.inl (0, n15, .inl f16))) (e18 : 0 ≤ (x7 : Int32).toInt ∧ (x7 : Int32).toInt < (n15 : Nat)) (e21 : h.2.2 y11 = some (.inl (2, n19, .inr (.inl f20)))) (e22 : 0 ≤ ((f16 (x7 : Int32).toNatClampNeg) : Int32).toInt ∧ ((f16 (x7 : Int32).toNatClampNeg) : Int32).toInt < (n19 : Nat)) (e25 : fs1[9]? = some (.ref y24)) (e28 : h.2.2 y24 = some (.inl (0, n26, .inl f27))) (e29 : 0 ≤ (x7 : Int32).toInt ∧ (x7 : Int32).toInt < (n26 : Nat)) (e30 : 0 ≤ ((f27 (x7 : Int32).toNatClampNeg) : Int32).toInt ∧ ((f27 (x7 : Int32).toNatClampNeg) : Int32).toInt < (n19 : Nat)) (e32 : fs9[7]? = some (.ref y31)) (e33 : ¬ (l5 : Int64) = 0) (e36 : h.2.2 y31 = some (.inl (2, n34, .inr (.inl f35)))) (e37 : 0 ≤ (x7 : Int32).toInt ∧ (x7 : Int32).toInt < (n34 : Nat)) (e38 : qset h y31 (.inl (2, n34, .inr (.inl (vp_updL f35 ((x7 : Int32).toNatClampNeg) ((((((f6 (x7 : Int32).toNatClampNeg) : Int32).toInt64 * ((f20 ((f16 (x7 : Int32).toNatClampNeg) : Int32).toNatClampNeg) - (f20 ((f27 (x7 : Int32).toNatClampNeg) : Int32).toNatClampNeg))) * 100) / l5)))))) = h1) (e40 : h1.2.2 r0 = some (.inr (7, fs39))) (e42 : fs39[2]? = some (.int y41)) (e44 : qCall d 4 [.long (((f6 (x7 : Int32).toNatClampNeg) : Int32).toInt64 * ((f20 ((f16 (x7 : Int32).toNatClampNeg) : Int32).toNatClampNeg) - (f20 ((f27 (x7 : Int32).toNatClampNeg) : Int32).toNatClampNeg)))] h1 ((some (.long z43)), h2)) (e46 : h2.2.2 r1 = some (.inr (4, fs45))) (e48 : fs45[11]? = some (.ref y47)) (e51 : h2.2.2 y47 = some (.inl (0, n49, .inl f50))) (e52 : 0 ≤ (x7 : Int32).toInt ∧ (x7 : Int32).toInt < (n49 : Nat)) (e53 : ¬ (((lg_cmp z43 ((((f50 (x7 : Int32).toNatClampNeg) : Int32).toInt64 * l5))) : Int32) ≤ 0)) (kk : qE d 240 201 [some (.ref r0), some (.ref r1), some (.ref r2), some (.int x3), some (.int x4), some (.long l5), none, some (.int x7), some (.long (((f6 (x7 : Int32).toNatClampNeg) : Int32).toInt64 * ((f20 ((f16 (x7 : Int32).toNatClampNeg) : Int32).toNatClampNeg) - (f20 ((f27 (x7 : Int32).toNatClampNeg) : Int32).toNatClampNeg)))), none] [.int y41, .ref r0] h2 q): qE d 240 124 [some (.ref r0), some (.ref r1), some (.ref r2), some (.int x3), some (.int x4), some (.long l5), none, some (.int x7), o8, none] [] h q := by
  refine qe_aload_n c240_124 rfl ?_
  refine qe_getfield c240_125 qo240 qF7_127 e2 e4 ?_
  refine qe_iload c240_128 rfl ?_
  refine qe_iaload c240_130 e7 e8 ?_
  refine qe_i2l c240_131 ?_
  refine qe_aload_n c240_132 rfl ?_
  refine qe_getfield c240_133 qo240 qF7_34 e10 e12 ?_
  refine qe_aload_n c240_136 rfl ?_
  refine qe_getfield c240_137 qo240 qF7_124 e2 e14 ?_
  refine qe_iload c240_140 rfl ?_
  refine qe_iaload c240_142 e17 e18 ?_
  refine qe_laload c240_143 e21 e22 ?_
  refine qe_aload_n c240_144 rfl ?_
  refine qe_getfield c240_145 qo240 qF7_34 e10 e12 ?_
  refine qe_aload_n c240_148 rfl ?_
  refine qe_getfield c240_149 qo240 qF7_130 e2 e25 ?_
  refine qe_iload c240_152 rfl ?_
  refine qe_iaload c240_154 e28 e29 ?_
  refine qe_laload c240_155 e21 e30 ?_
  refine qe_lsub c240_156 ?_
  refine qe_lmul c240_157 ?_
  refine qe_lstore (ls2 := [some (.ref r0), some (.ref r1), some (.ref r2), some (.int x3), some (.int x4), some (.long l5), none, some (.int x7), some (.long (((f6 (x7 : Int32).toNatClampNeg) : Int32).toInt64 * ((f20 ((f16 (x7 : Int32).toNatClampNeg) : Int32).toNatClampNeg) - (f20 ((f27 (x7 : Int32).toNatClampNeg) : Int32).toNatClampNeg)))), none]) c240_158 (Nat.le_of_ble_eq_true rfl) rfl ?_
  refine qe_aload_n c240_160 rfl ?_
  refine qe_getfield c240_161 qo240 qF7_24 e10 e32 ?_
  refine qe_iload c240_164 rfl ?_
  refine qe_lload c240_166 rfl ?_
  refine qe_ldc2_w (x := 100) c240_168 qo240 qJ7_133 ?_
  refine qe_lmul c240_171 ?_
  refine qe_lload c240_172 rfl ?_
  refine qe_ldiv c240_174 e33 ?_
  refine qe_lastore c240_175 e36 e37 ?_
  rw [e38]
  refine qe_aload_n c240_176 rfl ?_
  refine qe_dup c240_177 rfl ?_
  refine qe_getfield c240_178 qo240 qF7_52 e40 e42 ?_
  refine qe_lload c240_181 rfl ?_
  refine qe_static (as := [.long (((f6 (x7 : Int32).toNatClampNeg) : Int32).toInt64 * ((f20 ((f16 (x7 : Int32).toNatClampNeg) : Int32).toNatClampNeg) - (f20 ((f27 (x7 : Int32).toNatClampNeg) : Int32).toNatClampNeg)))]) (r := [.int y41, .ref r0]) (v := (some (.long z43))) (h2 := h2) c240_183 qo240 (by decide) qK7_135 rfl rfl rfl (Nat.le_of_ble_eq_true rfl) e44 ?_
  refine qe_aload_n c240_186 rfl ?_
  refine qe_getfield c240_187 qo240 qF7_139 e46 e48 ?_
  refine qe_iload c240_190 rfl ?_
  refine qe_iaload c240_192 e51 e52 ?_
  refine qe_i2l c240_193 ?_
  refine qe_lload c240_194 rfl ?_
  refine qe_lmul c240_196 ?_
  refine qe_lcmp c240_197 ?_
  refine qe_if_le_F (t := 205) c240_198 rfl e53 ?_
  exact kk
theorem b240_124T {d : Nat} {q : Option Value × qH} {h : qH} {r0 : Nat} {r1 : Nat} {r2 : Nat} {x3 : Int32} {x4 : Int32} {l5 : Int64} {x7 : Int32} {o8 : Option Value} {fs1 : List Value} {y3 : Nat} {n5 : Nat} {f6 : Nat → Int32} {fs9 : List Value} {y11 : Nat} {y13 : Nat} {n15 : Nat} {f16 : Nat → Int32} {n19 : Nat} {f20 : Nat → Int64} {y24 : Nat} {n26 : Nat} {f27 : Nat → Int32} {y31 : Nat} {n34 : Nat} {f35 : Nat → Int64} {h1 : qH} {fs39 : List Value} {y41 : Int32} {h2 : qH} {z43 : Int64} {fs45 : List Value} {y47 : Nat} {n49 : Nat} {f50 : Nat → Int32}  (e2 : h.2.2 r1 = some (.inr (4, fs1))) (e4 : fs1[10]? = some (.ref y3)) (e7 : h.2.2 y3 = some (.inl (0, n5, .inl f6))) (e8 : 0 ≤ (x7 : Int32).toInt ∧ (x7 : Int32).toInt < (n5 : Nat)) (e10 : h.2.2 r0 = some (.inr (7, fs9))) (e12 : fs9[10]? = some (.ref y11)) (e14 : fs1[8]? = some (.ref y13)) (e17 : h.2.2 y13 = some (.inl (0, n15, .inl f16))) (e18 : 0 ≤ (x7 : Int32).toInt ∧ (x7 : Int32).toInt < (n15 : Nat)) (e21 : h.2.2 y11 = some (.inl (2, n19, .inr (.inl f20)))) (e22 : 0 ≤ ((f16 (x7 : Int32).toNatClampNeg) : Int32).toInt ∧ ((f16 (x7 : Int32).toNatClampNeg) : Int32).toInt < (n19 : Nat)) (e25 : fs1[9]? = some (.ref y24)) (e28 : h.2.2 y24 = some (.inl (0, n26, .inl f27))) (e29 : 0 ≤ (x7 : Int32).toInt ∧ (x7 : Int32).toInt < (n26 : Nat)) (e30 : 0 ≤ ((f27 (x7 : Int32).toNatClampNeg) : Int32).toInt ∧ ((f27 (x7 : Int32).toNatClampNeg) : Int32).toInt < (n19 : Nat)) (e32 : fs9[7]? = some (.ref y31)) (e33 : ¬ (l5 : Int64) = 0) (e36 : h.2.2 y31 = some (.inl (2, n34, .inr (.inl f35)))) (e37 : 0 ≤ (x7 : Int32).toInt ∧ (x7 : Int32).toInt < (n34 : Nat)) (e38 : qset h y31 (.inl (2, n34, .inr (.inl (vp_updL f35 ((x7 : Int32).toNatClampNeg) ((((((f6 (x7 : Int32).toNatClampNeg) : Int32).toInt64 * ((f20 ((f16 (x7 : Int32).toNatClampNeg) : Int32).toNatClampNeg) - (f20 ((f27 (x7 : Int32).toNatClampNeg) : Int32).toNatClampNeg))) * 100) / l5)))))) = h1) (e40 : h1.2.2 r0 = some (.inr (7, fs39))) (e42 : fs39[2]? = some (.int y41)) (e44 : qCall d 4 [.long (((f6 (x7 : Int32).toNatClampNeg) : Int32).toInt64 * ((f20 ((f16 (x7 : Int32).toNatClampNeg) : Int32).toNatClampNeg) - (f20 ((f27 (x7 : Int32).toNatClampNeg) : Int32).toNatClampNeg)))] h1 ((some (.long z43)), h2)) (e46 : h2.2.2 r1 = some (.inr (4, fs45))) (e48 : fs45[11]? = some (.ref y47)) (e51 : h2.2.2 y47 = some (.inl (0, n49, .inl f50))) (e52 : 0 ≤ (x7 : Int32).toInt ∧ (x7 : Int32).toInt < (n49 : Nat)) (e53 : ((lg_cmp z43 ((((f50 (x7 : Int32).toNatClampNeg) : Int32).toInt64 * l5))) : Int32) ≤ 0) (kk : qE d 240 205 [some (.ref r0), some (.ref r1), some (.ref r2), some (.int x3), some (.int x4), some (.long l5), none, some (.int x7), some (.long (((f6 (x7 : Int32).toNatClampNeg) : Int32).toInt64 * ((f20 ((f16 (x7 : Int32).toNatClampNeg) : Int32).toNatClampNeg) - (f20 ((f27 (x7 : Int32).toNatClampNeg) : Int32).toNatClampNeg)))), none] [.int y41, .ref r0] h2 q): qE d 240 124 [some (.ref r0), some (.ref r1), some (.ref r2), some (.int x3), some (.int x4), some (.long l5), none, some (.int x7), o8, none] [] h q := by
  refine qe_aload_n c240_124 rfl ?_
  refine qe_getfield c240_125 qo240 qF7_127 e2 e4 ?_
  refine qe_iload c240_128 rfl ?_
  refine qe_iaload c240_130 e7 e8 ?_
  refine qe_i2l c240_131 ?_
  refine qe_aload_n c240_132 rfl ?_
  refine qe_getfield c240_133 qo240 qF7_34 e10 e12 ?_
  refine qe_aload_n c240_136 rfl ?_
  refine qe_getfield c240_137 qo240 qF7_124 e2 e14 ?_
  refine qe_iload c240_140 rfl ?_
  refine qe_iaload c240_142 e17 e18 ?_
  refine qe_laload c240_143 e21 e22 ?_
  refine qe_aload_n c240_144 rfl ?_
  refine qe_getfield c240_145 qo240 qF7_34 e10 e12 ?_
  refine qe_aload_n c240_148 rfl ?_
  refine qe_getfield c240_149 qo240 qF7_130 e2 e25 ?_
  refine qe_iload c240_152 rfl ?_
  refine qe_iaload c240_154 e28 e29 ?_
  refine qe_laload c240_155 e21 e30 ?_
  refine qe_lsub c240_156 ?_
  refine qe_lmul c240_157 ?_
  refine qe_lstore (ls2 := [some (.ref r0), some (.ref r1), some (.ref r2), some (.int x3), some (.int x4), some (.long l5), none, some (.int x7), some (.long (((f6 (x7 : Int32).toNatClampNeg) : Int32).toInt64 * ((f20 ((f16 (x7 : Int32).toNatClampNeg) : Int32).toNatClampNeg) - (f20 ((f27 (x7 : Int32).toNatClampNeg) : Int32).toNatClampNeg)))), none]) c240_158 (Nat.le_of_ble_eq_true rfl) rfl ?_
  refine qe_aload_n c240_160 rfl ?_
  refine qe_getfield c240_161 qo240 qF7_24 e10 e32 ?_
  refine qe_iload c240_164 rfl ?_
  refine qe_lload c240_166 rfl ?_
  refine qe_ldc2_w (x := 100) c240_168 qo240 qJ7_133 ?_
  refine qe_lmul c240_171 ?_
  refine qe_lload c240_172 rfl ?_
  refine qe_ldiv c240_174 e33 ?_
  refine qe_lastore c240_175 e36 e37 ?_
  rw [e38]
  refine qe_aload_n c240_176 rfl ?_
  refine qe_dup c240_177 rfl ?_
  refine qe_getfield c240_178 qo240 qF7_52 e40 e42 ?_
  refine qe_lload c240_181 rfl ?_
  refine qe_static (as := [.long (((f6 (x7 : Int32).toNatClampNeg) : Int32).toInt64 * ((f20 ((f16 (x7 : Int32).toNatClampNeg) : Int32).toNatClampNeg) - (f20 ((f27 (x7 : Int32).toNatClampNeg) : Int32).toNatClampNeg)))]) (r := [.int y41, .ref r0]) (v := (some (.long z43))) (h2 := h2) c240_183 qo240 (by decide) qK7_135 rfl rfl rfl (Nat.le_of_ble_eq_true rfl) e44 ?_
  refine qe_aload_n c240_186 rfl ?_
  refine qe_getfield c240_187 qo240 qF7_139 e46 e48 ?_
  refine qe_iload c240_190 rfl ?_
  refine qe_iaload c240_192 e51 e52 ?_
  refine qe_i2l c240_193 ?_
  refine qe_lload c240_194 rfl ?_
  refine qe_lmul c240_196 ?_
  refine qe_lcmp c240_197 ?_
  refine qe_if_le_T (t := 205) c240_198 rfl e53 ?_
  exact kk
theorem b240_201 {d : Nat} {q : Option Value × qH} {h : qH} {r0 : Nat} {r1 : Nat} {r2 : Nat} {x3 : Int32} {x4 : Int32} {l5 : Int64} {x7 : Int32} {l8 : Int64} {rs0 : Nat} {xs1 : Int32}   (kk : qE d 240 206 [some (.ref r0), some (.ref r1), some (.ref r2), some (.int x3), some (.int x4), some (.long l5), none, some (.int x7), some (.long l8), none] [.int 1, .int xs1, .ref rs0] h q): qE d 240 201 [some (.ref r0), some (.ref r1), some (.ref r2), some (.int x3), some (.int x4), some (.long l5), none, some (.int x7), some (.long l8), none] [.int xs1, .ref rs0] h q := by
  refine qe_iconst (x := 1) c240_201 (by decide) ?_
  refine qe_goto (t := 206) c240_202 rfl ?_
  exact kk
theorem b240_205 {d : Nat} {q : Option Value × qH} {h : qH} {r0 : Nat} {r1 : Nat} {r2 : Nat} {x3 : Int32} {x4 : Int32} {l5 : Int64} {x7 : Int32} {l8 : Int64} {rs0 : Nat} {xs1 : Int32}   (kk : qE d 240 206 [some (.ref r0), some (.ref r1), some (.ref r2), some (.int x3), some (.int x4), some (.long l5), none, some (.int x7), some (.long l8), none] [.int 0, .int xs1, .ref rs0] h q): qE d 240 205 [some (.ref r0), some (.ref r1), some (.ref r2), some (.int x3), some (.int x4), some (.long l5), none, some (.int x7), some (.long l8), none] [.int xs1, .ref rs0] h q := by
  refine qe_iconst (x := 0) c240_205 (by decide) ?_
  exact kk
theorem b240_206 {d : Nat} {q : Option Value × qH} {h : qH} {r0 : Nat} {r1 : Nat} {r2 : Nat} {x3 : Int32} {x4 : Int32} {l5 : Int64} {x7 : Int32} {l8 : Int64} {rs0 : Nat} {xs1 : Int32} {xs2 : Int32} {fs1 : List Value} {h1 : qH}  (e2 : h.2.2 rs0 = some (.inr (7, fs1))) (e3 : 2 < fs1.length) (e4 : ((xs1 ||| xs2) : Int32) = 0 ∨ ((xs1 ||| xs2) : Int32) = 1) (e5 : qset h rs0 (.inr (7, fs1.set 2 (.int (xs1 ||| xs2)))) = h1) (kk : qE d 240 210 [some (.ref r0), some (.ref r1), some (.ref r2), some (.int x3), some (.int x4), some (.long l5), none, some (.int x7), some (.long l8), none] [] h1 q): qE d 240 206 [some (.ref r0), some (.ref r1), some (.ref r2), some (.int x3), some (.int x4), some (.long l5), none, some (.int x7), some (.long l8), none] [.int xs2, .int xs1, .ref rs0] h q := by
  refine qe_ior c240_206 ?_
  refine qe_putfield c240_207 qo240 qF7_52 qz7_2 e2 e3 (by rw [qy7_2]; exact decide_eq_true e4) ?_
  rw [e5]
  exact kk
theorem b240_210 {d : Nat} {q : Option Value × qH} {h : qH} {r0 : Nat} {r1 : Nat} {r2 : Nat} {x3 : Int32} {x4 : Int32} {l5 : Int64} {x7 : Int32} {o8 : Option Value}   (kk : qE d 240 89 [some (.ref r0), some (.ref r1), some (.ref r2), some (.int x3), some (.int x4), some (.long l5), none, some (.int (x7 + 1)), o8, none] [] h q): qE d 240 210 [some (.ref r0), some (.ref r1), some (.ref r2), some (.int x3), some (.int x4), some (.long l5), none, some (.int x7), o8, none] [] h q := by
  refine qe_iinc (y := (x7 + 1)) (ls2 := [some (.ref r0), some (.ref r1), some (.ref r2), some (.int x3), some (.int x4), some (.long l5), none, some (.int (x7 + 1)), o8, none]) c240_210 rfl (Nat.le_of_ble_eq_true rfl) rfl rfl ?_
  refine qe_goto (t := 89) c240_213 rfl ?_
  exact kk
theorem b240_216 {d : Nat} {h : qH} {r0 : Nat} {r1 : Nat} {r2 : Nat} {x3 : Int32} {x4 : Int32} {l5 : Int64} {x7 : Int32} {o8 : Option Value}   : qE d 240 216 [some (.ref r0), some (.ref r1), some (.ref r2), some (.int x3), some (.int x4), some (.long l5), none, some (.int x7), o8, none] [] h (none, h) := by
  exact qe_vret c240_216 qr240
theorem b241_0 {d : Nat} {h : qH} {r0 : Nat} {r1 : Nat} {fs1 : List Value} {y3 : Int32} {fs5 : List Value} {h1 : qH} {fs9 : List Value} {y11 : Int32} {fs13 : List Value} {h2 : qH} {fs17 : List Value} {y19 : Int32} {fs21 : List Value} {h3 : qH} {fs25 : List Value} {y27 : Int32} {fs29 : List Value} {h4 : qH} {fs33 : List Value} {y35 : Nat} {fs37 : List Value} {y39 : Nat} {n41 : Nat} {f42 : Nat → Int32} {n44 : Nat} {f45 : Nat → Int32} {h5 : qH} {fs49 : List Value} {y51 : Nat} {fs53 : List Value} {y55 : Nat} {n57 : Nat} {f58 : Nat → Int32} {n60 : Nat} {f61 : Nat → Int32} {h6 : qH} {fs65 : List Value} {y67 : Nat} {fs69 : List Value} {y71 : Nat} {n73 : Nat} {f74 : Nat → Int32} {n76 : Nat} {f77 : Nat → Int32} {h7 : qH} {fs81 : List Value} {y83 : Nat} {fs85 : List Value} {y87 : Nat} {n89 : Nat} {f90 : Nat → Int32} {n92 : Nat} {f93 : Nat → Int32} {h8 : qH} (hd0 : 0 < d) (e2 : h.2.2 r1 = some (.inr (8, fs1))) (e4 : fs1[0]? = some (.int y3)) (e6 : h.2.2 r0 = some (.inr (8, fs5))) (e7 : 0 < fs5.length) (e8 : qset h r0 (.inr (8, fs5.set 0 (.int y3))) = h1) (e10 : h1.2.2 r1 = some (.inr (8, fs9))) (e12 : fs9[1]? = some (.int y11)) (e14 : h1.2.2 r0 = some (.inr (8, fs13))) (e15 : 1 < fs13.length) (e16 : qset h1 r0 (.inr (8, fs13.set 1 (.int y11))) = h2) (e18 : h2.2.2 r1 = some (.inr (8, fs17))) (e20 : fs17[2]? = some (.int y19)) (e22 : h2.2.2 r0 = some (.inr (8, fs21))) (e23 : 2 < fs21.length) (e24 : qset h2 r0 (.inr (8, fs21.set 2 (.int y19))) = h3) (e26 : h3.2.2 r1 = some (.inr (8, fs25))) (e28 : fs25[3]? = some (.int y27)) (e30 : h3.2.2 r0 = some (.inr (8, fs29))) (e31 : 3 < fs29.length) (e32 : qset h3 r0 (.inr (8, fs29.set 3 (.int y27))) = h4) (e34 : h4.2.2 r1 = some (.inr (8, fs33))) (e36 : fs33[4]? = some (.ref y35)) (e38 : h4.2.2 r0 = some (.inr (8, fs37))) (e40 : fs37[4]? = some (.ref y39)) (e43 : h4.2.2 y35 = some (.inl (0, n41, .inl f42))) (e46 : h4.2.2 y39 = some (.inl (0, n44, .inl f45))) (e47 : y35 ≠ y39 ∧ 0 ≤ (0 : Int32).toInt ∧ 0 ≤ (0 : Int32).toInt ∧ 0 ≤ (8 : Int32).toInt ∧ (0 : Int32).toInt + (8 : Int32).toInt ≤ (n41 : Nat) ∧ (0 : Int32).toInt + (8 : Int32).toInt ≤ (n44 : Nat)) (e48 : qset h4 y39 (.inl (0, n44, .inl (va_cpy f42 f45 (0 : Int32).toNatClampNeg (0 : Int32).toNatClampNeg (8 : Int32).toNatClampNeg))) = h5) (e50 : h5.2.2 r1 = some (.inr (8, fs49))) (e52 : fs49[5]? = some (.ref y51)) (e54 : h5.2.2 r0 = some (.inr (8, fs53))) (e56 : fs53[5]? = some (.ref y55)) (e59 : h5.2.2 y51 = some (.inl (0, n57, .inl f58))) (e62 : h5.2.2 y55 = some (.inl (0, n60, .inl f61))) (e63 : y51 ≠ y55 ∧ 0 ≤ (0 : Int32).toInt ∧ 0 ≤ (0 : Int32).toInt ∧ 0 ≤ (14 : Int32).toInt ∧ (0 : Int32).toInt + (14 : Int32).toInt ≤ (n57 : Nat) ∧ (0 : Int32).toInt + (14 : Int32).toInt ≤ (n60 : Nat)) (e64 : qset h5 y55 (.inl (0, n60, .inl (va_cpy f58 f61 (0 : Int32).toNatClampNeg (0 : Int32).toNatClampNeg (14 : Int32).toNatClampNeg))) = h6) (e66 : h6.2.2 r1 = some (.inr (8, fs65))) (e68 : fs65[6]? = some (.ref y67)) (e70 : h6.2.2 r0 = some (.inr (8, fs69))) (e72 : fs69[6]? = some (.ref y71)) (e75 : h6.2.2 y67 = some (.inl (0, n73, .inl f74))) (e78 : h6.2.2 y71 = some (.inl (0, n76, .inl f77))) (e79 : y67 ≠ y71 ∧ 0 ≤ (0 : Int32).toInt ∧ 0 ≤ (0 : Int32).toInt ∧ 0 ≤ (14 : Int32).toInt ∧ (0 : Int32).toInt + (14 : Int32).toInt ≤ (n73 : Nat) ∧ (0 : Int32).toInt + (14 : Int32).toInt ≤ (n76 : Nat)) (e80 : qset h6 y71 (.inl (0, n76, .inl (va_cpy f74 f77 (0 : Int32).toNatClampNeg (0 : Int32).toNatClampNeg (14 : Int32).toNatClampNeg))) = h7) (e82 : h7.2.2 r1 = some (.inr (8, fs81))) (e84 : fs81[7]? = some (.ref y83)) (e86 : h7.2.2 r0 = some (.inr (8, fs85))) (e88 : fs85[7]? = some (.ref y87)) (e91 : h7.2.2 y83 = some (.inl (0, n89, .inl f90))) (e94 : h7.2.2 y87 = some (.inl (0, n92, .inl f93))) (e95 : y83 ≠ y87 ∧ 0 ≤ (0 : Int32).toInt ∧ 0 ≤ (0 : Int32).toInt ∧ 0 ≤ (14 : Int32).toInt ∧ (0 : Int32).toInt + (14 : Int32).toInt ≤ (n89 : Nat) ∧ (0 : Int32).toInt + (14 : Int32).toInt ≤ (n92 : Nat)) (e96 : qset h7 y87 (.inl (0, n92, .inl (va_cpy f90 f93 (0 : Int32).toNatClampNeg (0 : Int32).toNatClampNeg (14 : Int32).toNatClampNeg))) = h8) : qE d 241 0 [some (.ref r0), some (.ref r1)] [] h (none, h8) := by
  refine qe_aload_n c241_0 rfl ?_
  refine qe_aload_n c241_1 rfl ?_
  refine qe_getfield c241_2 qo241 qF8_24 e2 e4 ?_
  refine qe_putfield c241_5 qo241 qF8_24 qz8_0 e6 e7 (by rw [qy8_0]; rfl) ?_
  rw [e8]
  refine qe_aload_n c241_8 rfl ?_
  refine qe_aload_n c241_9 rfl ?_
  refine qe_getfield c241_10 qo241 qF8_28 e10 e12 ?_
  refine qe_putfield c241_13 qo241 qF8_28 qz8_1 e14 e15 (by rw [qy8_1]; rfl) ?_
  rw [e16]
  refine qe_aload_n c241_16 rfl ?_
  refine qe_aload_n c241_17 rfl ?_
  refine qe_getfield c241_18 qo241 qF8_31 e18 e20 ?_
  refine qe_putfield c241_21 qo241 qF8_31 qz8_2 e22 e23 (by rw [qy8_2]; rfl) ?_
  rw [e24]
  refine qe_aload_n c241_24 rfl ?_
  refine qe_aload_n c241_25 rfl ?_
  refine qe_getfield c241_26 qo241 qF8_34 e26 e28 ?_
  refine qe_putfield c241_29 qo241 qF8_34 qz8_3 e30 e31 (by rw [qy8_3]; rfl) ?_
  rw [e32]
  refine qe_aload_n c241_32 rfl ?_
  refine qe_getfield c241_33 qo241 qF8_9 e34 e36 ?_
  refine qe_iconst (x := 0) c241_36 (by decide) ?_
  refine qe_aload_n c241_37 rfl ?_
  refine qe_getfield c241_38 qo241 qF8_9 e38 e40 ?_
  refine qe_iconst (x := 0) c241_41 (by decide) ?_
  refine qe_bipush (x := 8) c241_42 (by decide) ?_
  refine qe_copy c241_44 (by rw [qo241]; decide) e43 e46 ⟨e47.1, e47.2.1, e47.2.2.1, e47.2.2.2.1, e47.2.2.2.2.1, e47.2.2.2.2.2, hd0, (Nat.le_of_ble_eq_true rfl)⟩ ?_
  rw [e48]
  refine qe_aload_n c241_47 rfl ?_
  refine qe_getfield c241_48 qo241 qF8_15 e50 e52 ?_
  refine qe_iconst (x := 0) c241_51 (by decide) ?_
  refine qe_aload_n c241_52 rfl ?_
  refine qe_getfield c241_53 qo241 qF8_15 e54 e56 ?_
  refine qe_iconst (x := 0) c241_56 (by decide) ?_
  refine qe_bipush (x := 14) c241_57 (by decide) ?_
  refine qe_copy c241_59 (by rw [qo241]; decide) e59 e62 ⟨e63.1, e63.2.1, e63.2.2.1, e63.2.2.2.1, e63.2.2.2.2.1, e63.2.2.2.2.2, hd0, (Nat.le_of_ble_eq_true rfl)⟩ ?_
  rw [e64]
  refine qe_aload_n c241_62 rfl ?_
  refine qe_getfield c241_63 qo241 qF8_18 e66 e68 ?_
  refine qe_iconst (x := 0) c241_66 (by decide) ?_
  refine qe_aload_n c241_67 rfl ?_
  refine qe_getfield c241_68 qo241 qF8_18 e70 e72 ?_
  refine qe_iconst (x := 0) c241_71 (by decide) ?_
  refine qe_bipush (x := 14) c241_72 (by decide) ?_
  refine qe_copy c241_74 (by rw [qo241]; decide) e75 e78 ⟨e79.1, e79.2.1, e79.2.2.1, e79.2.2.2.1, e79.2.2.2.2.1, e79.2.2.2.2.2, hd0, (Nat.le_of_ble_eq_true rfl)⟩ ?_
  rw [e80]
  refine qe_aload_n c241_77 rfl ?_
  refine qe_getfield c241_78 qo241 qF8_21 e82 e84 ?_
  refine qe_iconst (x := 0) c241_81 (by decide) ?_
  refine qe_aload_n c241_82 rfl ?_
  refine qe_getfield c241_83 qo241 qF8_21 e86 e88 ?_
  refine qe_iconst (x := 0) c241_86 (by decide) ?_
  refine qe_bipush (x := 14) c241_87 (by decide) ?_
  refine qe_copy c241_89 (by rw [qo241]; decide) e91 e94 ⟨e95.1, e95.2.1, e95.2.2.1, e95.2.2.2.1, e95.2.2.2.2.1, e95.2.2.2.2.2, hd0, (Nat.le_of_ble_eq_true rfl)⟩ ?_
  rw [e96]
  exact qe_vret c241_92 qr241
theorem b242_0 {d : Nat} {h : qH} {r0 : Nat} {h1 : qH} {fs2 : List Value} {h2 : qH} {h3 : qH} {fs7 : List Value} {h4 : qH} {h5 : qH} {fs12 : List Value} {h6 : qH} {h7 : qH} {fs17 : List Value} {h8 : qH} (hd0 : 0 < d) (e1 : qnew h 8 (.inl (0, 8, .inl fun _ => 0)) = h1) (e3 : h1.2.2 r0 = some (.inr (8, fs2))) (e4 : 4 < fs2.length) (e5 : qset h1 r0 (.inr (8, fs2.set 4 (.ref h.1))) = h2) (e6 : qnew h2 14 (.inl (0, 14, .inl fun _ => 0)) = h3) (e8 : h3.2.2 r0 = some (.inr (8, fs7))) (e9 : 5 < fs7.length) (e10 : qset h3 r0 (.inr (8, fs7.set 5 (.ref h2.1))) = h4) (e11 : qnew h4 14 (.inl (0, 14, .inl fun _ => 0)) = h5) (e13 : h5.2.2 r0 = some (.inr (8, fs12))) (e14 : 6 < fs12.length) (e15 : qset h5 r0 (.inr (8, fs12.set 6 (.ref h4.1))) = h6) (e16 : qnew h6 14 (.inl (0, 14, .inl fun _ => 0)) = h7) (e18 : h7.2.2 r0 = some (.inr (8, fs17))) (e19 : 7 < fs17.length) (e20 : qset h7 r0 (.inr (8, fs17.set 7 (.ref h6.1))) = h8) : qE d 242 0 [some (.ref r0)] [] h (none, h8) := by
  refine qe_aload_n c242_0 rfl ?_
  refine qe_objinit c242_1 qo242 (by decide +kernel) (by decide) hd0 (Nat.le_of_ble_eq_true rfl) ?_
  refine qe_aload_n c242_4 rfl ?_
  refine qe_bipush (x := 8) c242_5 (by decide) ?_
  refine qe_new_int c242_7 (by decide) ?_
  rw [show Int32.toNatClampNeg 8 = 8 from by decide]
  rw [e1]
  refine qe_putfinal c242_9 qo242 qF8_9 (by decide +kernel) e3 e4 (by rw [qy8_4]; rfl) ?_
  rw [e5]
  refine qe_aload_n c242_12 rfl ?_
  refine qe_bipush (x := 14) c242_13 (by decide) ?_
  refine qe_new_int c242_15 (by decide) ?_
  rw [show Int32.toNatClampNeg 14 = 14 from by decide]
  rw [e6]
  refine qe_putfinal c242_17 qo242 qF8_15 (by decide +kernel) e8 e9 (by rw [qy8_5]; rfl) ?_
  rw [e10]
  refine qe_aload_n c242_20 rfl ?_
  refine qe_bipush (x := 14) c242_21 (by decide) ?_
  refine qe_new_int c242_23 (by decide) ?_
  rw [show Int32.toNatClampNeg 14 = 14 from by decide]
  rw [e11]
  refine qe_putfinal c242_25 qo242 qF8_18 (by decide +kernel) e13 e14 (by rw [qy8_6]; rfl) ?_
  rw [e15]
  refine qe_aload_n c242_28 rfl ?_
  refine qe_bipush (x := 14) c242_29 (by decide) ?_
  refine qe_new_int c242_31 (by decide) ?_
  rw [show Int32.toNatClampNeg 14 = 14 from by decide]
  rw [e16]
  refine qe_putfinal c242_33 qo242 qF8_21 (by decide +kernel) e18 e19 (by rw [qy8_7]; rfl) ?_
  rw [e20]
  exact qe_vret c242_36 qr242
theorem b243_0F {d : Nat} {q : Option Value × qH} {h : qH} {r0 : Nat} {x1 : Int32} {fs1 : List Value} {y3 : Int32}  (e2 : h.2.2 r0 = some (.inr (8, fs1))) (e4 : fs1[1]? = some (.int y3)) (e5 : (((y3 >>> (x1 &&& 31)) &&& 1) : Int32) = 1) (kk : qE d 243 12 [some (.ref r0), some (.int x1)] [] h q): qE d 243 0 [some (.ref r0), some (.int x1)] [] h q := by
  refine qe_aload_n c243_0 rfl ?_
  refine qe_getfield c243_1 qo243 qF8_28 e2 e4 ?_
  refine qe_iload_n c243_4 rfl ?_
  refine qe_ishr c243_5 ?_
  refine qe_iconst (x := 1) c243_6 (by decide) ?_
  refine qe_iand c243_7 ?_
  refine qe_iconst (x := 1) c243_8 (by decide) ?_
  refine qe_icmp_ne_F (t := 16) c243_9 rfl e5 ?_
  exact kk
theorem b243_0T {d : Nat} {q : Option Value × qH} {h : qH} {r0 : Nat} {x1 : Int32} {fs1 : List Value} {y3 : Int32}  (e2 : h.2.2 r0 = some (.inr (8, fs1))) (e4 : fs1[1]? = some (.int y3)) (e5 : ¬ ((((y3 >>> (x1 &&& 31)) &&& 1) : Int32) = 1)) (kk : qE d 243 16 [some (.ref r0), some (.int x1)] [] h q): qE d 243 0 [some (.ref r0), some (.int x1)] [] h q := by
  refine qe_aload_n c243_0 rfl ?_
  refine qe_getfield c243_1 qo243 qF8_28 e2 e4 ?_
  refine qe_iload_n c243_4 rfl ?_
  refine qe_ishr c243_5 ?_
  refine qe_iconst (x := 1) c243_6 (by decide) ?_
  refine qe_iand c243_7 ?_
  refine qe_iconst (x := 1) c243_8 (by decide) ?_
  refine qe_icmp_ne_T (t := 16) c243_9 rfl e5 ?_
  exact kk
theorem b243_12 {d : Nat} {q : Option Value × qH} {h : qH} {r0 : Nat} {x1 : Int32}   (kk : qE d 243 17 [some (.ref r0), some (.int x1)] [.int 1] h q): qE d 243 12 [some (.ref r0), some (.int x1)] [] h q := by
  refine qe_iconst (x := 1) c243_12 (by decide) ?_
  refine qe_goto (t := 17) c243_13 rfl ?_
  exact kk
theorem b243_16 {d : Nat} {q : Option Value × qH} {h : qH} {r0 : Nat} {x1 : Int32}   (kk : qE d 243 17 [some (.ref r0), some (.int x1)] [.int 0] h q): qE d 243 16 [some (.ref r0), some (.int x1)] [] h q := by
  refine qe_iconst (x := 0) c243_16 (by decide) ?_
  exact kk
theorem b243_17 {d : Nat} {h : qH} {r0 : Nat} {x1 : Int32} {xs0 : Int32}  (e1 : (xs0 : Int32) = 0 ∨ (xs0 : Int32) = 1) : qE d 243 17 [some (.ref r0), some (.int x1)] [.int xs0] h (some (.int xs0), h) := by
  exact qe_zret c243_17 qr243 e1
theorem b244_0 {d : Nat} {q : Option Value × qH} {h : qH} {r0 : Nat} {x1 : Int32}   (kk : qE d 244 4 [some (.ref r0), some (.int x1), some (.int 0), some (.int 0)] [] h q): qE d 244 0 [some (.ref r0), some (.int x1), none, none] [] h q := by
  refine qe_iconst (x := 0) c244_0 (by decide) ?_
  refine qe_istore_n (ls2 := [some (.ref r0), some (.int x1), some (.int 0), none]) c244_1 (Nat.le_of_ble_eq_true rfl) rfl ?_
  refine qe_iconst (x := 0) c244_2 (by decide) ?_
  refine qe_istore_n (ls2 := [some (.ref r0), some (.int x1), some (.int 0), some (.int 0)]) c244_3 (Nat.le_of_ble_eq_true rfl) rfl ?_
  exact kk
theorem b244_4F {d : Nat} {q : Option Value × qH} {h : qH} {r0 : Nat} {x1 : Int32} {x2 : Int32} {x3 : Int32}  (e1 : ¬ ((8 : Int32) ≤ x3)) (kk : qE d 244 10 [some (.ref r0), some (.int x1), some (.int x2), some (.int x3)] [] h q): qE d 244 4 [some (.ref r0), some (.int x1), some (.int x2), some (.int x3)] [] h q := by
  refine qe_iload_n c244_4 rfl ?_
  refine qe_bipush (x := 8) c244_5 (by decide) ?_
  refine qe_icmp_ge_F (t := 34) c244_7 rfl e1 ?_
  exact kk
theorem b244_4T {d : Nat} {q : Option Value × qH} {h : qH} {r0 : Nat} {x1 : Int32} {x2 : Int32} {x3 : Int32}  (e1 : (8 : Int32) ≤ x3) (kk : qE d 244 34 [some (.ref r0), some (.int x1), some (.int x2), some (.int x3)] [] h q): qE d 244 4 [some (.ref r0), some (.int x1), some (.int x2), some (.int x3)] [] h q := by
  refine qe_iload_n c244_4 rfl ?_
  refine qe_bipush (x := 8) c244_5 (by decide) ?_
  refine qe_icmp_ge_T (t := 34) c244_7 rfl e1 ?_
  exact kk
theorem b244_10F {d : Nat} {q : Option Value × qH} {h : qH} {r0 : Nat} {x1 : Int32} {x2 : Int32} {x3 : Int32}  (e1 : (((x1 >>> (x3 &&& 31)) &&& 1) : Int32) = 1) (kk : qE d 244 19 [some (.ref r0), some (.int x1), some (.int x2), some (.int x3)] [] h q): qE d 244 10 [some (.ref r0), some (.int x1), some (.int x2), some (.int x3)] [] h q := by
  refine qe_iload_n c244_10 rfl ?_
  refine qe_iload_n c244_11 rfl ?_
  refine qe_ishr c244_12 ?_
  refine qe_iconst (x := 1) c244_13 (by decide) ?_
  refine qe_iand c244_14 ?_
  refine qe_iconst (x := 1) c244_15 (by decide) ?_
  refine qe_icmp_ne_F (t := 28) c244_16 rfl e1 ?_
  exact kk
theorem b244_10T {d : Nat} {q : Option Value × qH} {h : qH} {r0 : Nat} {x1 : Int32} {x2 : Int32} {x3 : Int32}  (e1 : ¬ ((((x1 >>> (x3 &&& 31)) &&& 1) : Int32) = 1)) (kk : qE d 244 28 [some (.ref r0), some (.int x1), some (.int x2), some (.int x3)] [] h q): qE d 244 10 [some (.ref r0), some (.int x1), some (.int x2), some (.int x3)] [] h q := by
  refine qe_iload_n c244_10 rfl ?_
  refine qe_iload_n c244_11 rfl ?_
  refine qe_ishr c244_12 ?_
  refine qe_iconst (x := 1) c244_13 (by decide) ?_
  refine qe_iand c244_14 ?_
  refine qe_iconst (x := 1) c244_15 (by decide) ?_
  refine qe_icmp_ne_T (t := 28) c244_16 rfl e1 ?_
  exact kk
theorem b244_19 {d : Nat} {q : Option Value × qH} {h : qH} {r0 : Nat} {x1 : Int32} {x2 : Int32} {x3 : Int32} {fs1 : List Value} {y3 : Nat} {n5 : Nat} {f6 : Nat → Int32}  (e2 : h.2.2 r0 = some (.inr (8, fs1))) (e4 : fs1[4]? = some (.ref y3)) (e7 : h.2.2 y3 = some (.inl (0, n5, .inl f6))) (e8 : 0 ≤ (x3 : Int32).toInt ∧ (x3 : Int32).toInt < (n5 : Nat)) (kk : qE d 244 28 [some (.ref r0), some (.int x1), some (.int (x2 + (f6 (x3 : Int32).toNatClampNeg))), some (.int x3)] [] h q): qE d 244 19 [some (.ref r0), some (.int x1), some (.int x2), some (.int x3)] [] h q := by
  refine qe_iload_n c244_19 rfl ?_
  refine qe_aload_n c244_20 rfl ?_
  refine qe_getfield c244_21 qo244 qF8_9 e2 e4 ?_
  refine qe_iload_n c244_24 rfl ?_
  refine qe_iaload c244_25 e7 e8 ?_
  refine qe_iadd c244_26 ?_
  refine qe_istore_n (ls2 := [some (.ref r0), some (.int x1), some (.int (x2 + (f6 (x3 : Int32).toNatClampNeg))), some (.int x3)]) c244_27 (Nat.le_of_ble_eq_true rfl) rfl ?_
  exact kk
theorem b244_28 {d : Nat} {q : Option Value × qH} {h : qH} {r0 : Nat} {x1 : Int32} {x2 : Int32} {x3 : Int32}   (kk : qE d 244 4 [some (.ref r0), some (.int x1), some (.int x2), some (.int (x3 + 1))] [] h q): qE d 244 28 [some (.ref r0), some (.int x1), some (.int x2), some (.int x3)] [] h q := by
  refine qe_iinc (y := (x3 + 1)) (ls2 := [some (.ref r0), some (.int x1), some (.int x2), some (.int (x3 + 1))]) c244_28 rfl (Nat.le_of_ble_eq_true rfl) rfl rfl ?_
  refine qe_goto (t := 4) c244_31 rfl ?_
  exact kk
theorem b244_34 {d : Nat} {h : qH} {r0 : Nat} {x1 : Int32} {x2 : Int32} {x3 : Int32}   : qE d 244 34 [some (.ref r0), some (.int x1), some (.int x2), some (.int x3)] [] h (some (.int x2), h) := by
  refine qe_iload_n c244_34 rfl ?_
  exact qe_iret c244_35 qr244
theorem b245_0F {d : Nat} {q : Option Value × qH} {h : qH} {r0 : Nat} {x1 : Int32} {fs1 : List Value} {y3 : Int32}  (e2 : h.2.2 r0 = some (.inr (8, fs1))) (e4 : fs1[2]? = some (.int y3)) (e5 : (((y3 >>> (x1 &&& 31)) &&& 1) : Int32) = 1) (kk : qE d 245 12 [some (.ref r0), some (.int x1)] [] h q): qE d 245 0 [some (.ref r0), some (.int x1)] [] h q := by
  refine qe_aload_n c245_0 rfl ?_
  refine qe_getfield c245_1 qo245 qF8_31 e2 e4 ?_
  refine qe_iload_n c245_4 rfl ?_
  refine qe_ishr c245_5 ?_
  refine qe_iconst (x := 1) c245_6 (by decide) ?_
  refine qe_iand c245_7 ?_
  refine qe_iconst (x := 1) c245_8 (by decide) ?_
  refine qe_icmp_ne_F (t := 16) c245_9 rfl e5 ?_
  exact kk
theorem b245_0T {d : Nat} {q : Option Value × qH} {h : qH} {r0 : Nat} {x1 : Int32} {fs1 : List Value} {y3 : Int32}  (e2 : h.2.2 r0 = some (.inr (8, fs1))) (e4 : fs1[2]? = some (.int y3)) (e5 : ¬ ((((y3 >>> (x1 &&& 31)) &&& 1) : Int32) = 1)) (kk : qE d 245 16 [some (.ref r0), some (.int x1)] [] h q): qE d 245 0 [some (.ref r0), some (.int x1)] [] h q := by
  refine qe_aload_n c245_0 rfl ?_
  refine qe_getfield c245_1 qo245 qF8_31 e2 e4 ?_
  refine qe_iload_n c245_4 rfl ?_
  refine qe_ishr c245_5 ?_
  refine qe_iconst (x := 1) c245_6 (by decide) ?_
  refine qe_iand c245_7 ?_
  refine qe_iconst (x := 1) c245_8 (by decide) ?_
  refine qe_icmp_ne_T (t := 16) c245_9 rfl e5 ?_
  exact kk
theorem b245_12 {d : Nat} {q : Option Value × qH} {h : qH} {r0 : Nat} {x1 : Int32}   (kk : qE d 245 17 [some (.ref r0), some (.int x1)] [.int 1] h q): qE d 245 12 [some (.ref r0), some (.int x1)] [] h q := by
  refine qe_iconst (x := 1) c245_12 (by decide) ?_
  refine qe_goto (t := 17) c245_13 rfl ?_
  exact kk
theorem b245_16 {d : Nat} {q : Option Value × qH} {h : qH} {r0 : Nat} {x1 : Int32}   (kk : qE d 245 17 [some (.ref r0), some (.int x1)] [.int 0] h q): qE d 245 16 [some (.ref r0), some (.int x1)] [] h q := by
  refine qe_iconst (x := 0) c245_16 (by decide) ?_
  exact kk
theorem b245_17 {d : Nat} {h : qH} {r0 : Nat} {x1 : Int32} {xs0 : Int32}  (e1 : (xs0 : Int32) = 0 ∨ (xs0 : Int32) = 1) : qE d 245 17 [some (.ref r0), some (.int x1)] [.int xs0] h (some (.int xs0), h) := by
  exact qe_zret c245_17 qr245 e1
theorem b246_0 {d : Nat} {q : Option Value × qH} {h : qH} {r0 : Nat} {x1 : Int32}   (kk : qE d 246 3 [some (.ref r0), some (.int x1), some (.int 24)] [] h q): qE d 246 0 [some (.ref r0), some (.int x1), none] [] h q := by
  refine qe_bipush (x := 24) c246_0 (by decide) ?_
  refine qe_istore_n (ls2 := [some (.ref r0), some (.int x1), some (.int 24)]) c246_2 (Nat.le_of_ble_eq_true rfl) rfl ?_
  exact kk
theorem b246_3F {d : Nat} {q : Option Value × qH} {h : qH} {r0 : Nat} {x1 : Int32} {x2 : Int32}  (e1 : ¬ ((x2 : Int32) < 0)) (kk : qE d 246 7 [some (.ref r0), some (.int x1), some (.int x2)] [] h q): qE d 246 3 [some (.ref r0), some (.int x1), some (.int x2)] [] h q := by
  refine qe_iload_n c246_3 rfl ?_
  refine qe_if_lt_F (t := 49) c246_4 rfl e1 ?_
  exact kk
theorem b246_3T {d : Nat} {q : Option Value × qH} {h : qH} {r0 : Nat} {x1 : Int32} {x2 : Int32}  (e1 : (x2 : Int32) < 0) (kk : qE d 246 49 [some (.ref r0), some (.int x1), some (.int x2)] [] h q): qE d 246 3 [some (.ref r0), some (.int x1), some (.int x2)] [] h q := by
  refine qe_iload_n c246_3 rfl ?_
  refine qe_if_lt_T (t := 49) c246_4 rfl e1 ?_
  exact kk
theorem b246_7F {d : Nat} {q : Option Value × qH} {h : qH} {r0 : Nat} {x1 : Int32} {x2 : Int32} {fs1 : List Value} {y3 : Int32}  (e2 : h.2.2 r0 = some (.inr (9, fs1))) (e4 : fs1[0]? = some (.int y3)) (e5 : ¬ ((200 : Int32) ≤ y3)) (kk : qE d 246 17 [some (.ref r0), some (.int x1), some (.int x2)] [] h q): qE d 246 7 [some (.ref r0), some (.int x1), some (.int x2)] [] h q := by
  refine qe_aload_n c246_7 rfl ?_
  refine qe_getfield c246_8 qo246 qF9_13 e2 e4 ?_
  refine qe_sipush (x := 200) c246_11 (by decide) ?_
  refine qe_icmp_ge_F (t := 43) c246_14 rfl e5 ?_
  exact kk
theorem b246_7T {d : Nat} {q : Option Value × qH} {h : qH} {r0 : Nat} {x1 : Int32} {x2 : Int32} {fs1 : List Value} {y3 : Int32}  (e2 : h.2.2 r0 = some (.inr (9, fs1))) (e4 : fs1[0]? = some (.int y3)) (e5 : (200 : Int32) ≤ y3) (kk : qE d 246 43 [some (.ref r0), some (.int x1), some (.int x2)] [] h q): qE d 246 7 [some (.ref r0), some (.int x1), some (.int x2)] [] h q := by
  refine qe_aload_n c246_7 rfl ?_
  refine qe_getfield c246_8 qo246 qF9_13 e2 e4 ?_
  refine qe_sipush (x := 200) c246_11 (by decide) ?_
  refine qe_icmp_ge_T (t := 43) c246_14 rfl e5 ?_
  exact kk
theorem b246_17 {d : Nat} {q : Option Value × qH} {h : qH} {r0 : Nat} {x1 : Int32} {x2 : Int32} {fs1 : List Value} {y3 : Nat} {y5 : Int32} {n7 : Nat} {f8 : Nat → Int32} {h1 : qH} {fs12 : List Value} {y14 : Int32} {h2 : qH}  (e2 : h.2.2 r0 = some (.inr (9, fs1))) (e4 : fs1[1]? = some (.ref y3)) (e6 : fs1[0]? = some (.int y5)) (e9 : h.2.2 y3 = some (.inl (0, n7, .inl f8))) (e10 : 0 ≤ (y5 : Int32).toInt ∧ (y5 : Int32).toInt < (n7 : Nat)) (e11 : qset h y3 (.inl (0, n7, .inl (upd f8 ((y5 : Int32).toNatClampNeg) ((((x1 : Int32).toUInt32 >>> ((x2 : Int32).toUInt32 &&& Int32.toUInt32 31)).toInt32 &&& 255))))) = h1) (e13 : h1.2.2 r0 = some (.inr (9, fs12))) (e15 : fs12[0]? = some (.int y14)) (e16 : 0 < fs12.length) (e17 : qset h1 r0 (.inr (9, fs12.set 0 (.int (y14 + 1)))) = h2) (kk : qE d 246 43 [some (.ref r0), some (.int x1), some (.int x2)] [] h2 q): qE d 246 17 [some (.ref r0), some (.int x1), some (.int x2)] [] h q := by
  refine qe_aload_n c246_17 rfl ?_
  refine qe_getfield c246_18 qo246 qF9_9 e2 e4 ?_
  refine qe_aload_n c246_21 rfl ?_
  refine qe_getfield c246_22 qo246 qF9_13 e2 e6 ?_
  refine qe_iload_n c246_25 rfl ?_
  refine qe_iload_n c246_26 rfl ?_
  refine qe_iushr c246_27 ?_
  refine qe_sipush (x := 255) c246_28 (by decide) ?_
  refine qe_iand c246_31 ?_
  refine qe_iastore c246_32 e9 e10 ?_
  rw [e11]
  refine qe_aload_n c246_33 rfl ?_
  refine qe_dup c246_34 rfl ?_
  refine qe_getfield c246_35 qo246 qF9_13 e13 e15 ?_
  refine qe_iconst (x := 1) c246_38 (by decide) ?_
  refine qe_iadd c246_39 ?_
  refine qe_putfield c246_40 qo246 qF9_13 qz9_0 e13 e16 (by rw [qy9_0]; rfl) ?_
  rw [e17]
  exact kk
theorem b246_43 {d : Nat} {q : Option Value × qH} {h : qH} {r0 : Nat} {x1 : Int32} {x2 : Int32}   (kk : qE d 246 3 [some (.ref r0), some (.int x1), some (.int (x2 + (-8)))] [] h q): qE d 246 43 [some (.ref r0), some (.int x1), some (.int x2)] [] h q := by
  refine qe_iinc (y := (x2 + (-8))) (ls2 := [some (.ref r0), some (.int x1), some (.int (x2 + (-8)))]) c246_43 rfl (Nat.le_of_ble_eq_true rfl) rfl rfl ?_
  refine qe_goto (t := 3) c246_46 rfl ?_
  exact kk
theorem b246_49 {d : Nat} {h : qH} {r0 : Nat} {x1 : Int32} {x2 : Int32}   : qE d 246 49 [some (.ref r0), some (.int x1), some (.int x2)] [] h (none, h) := by
  exact qe_vret c246_49 qr246
theorem b247_0F {d : Nat} {q : Option Value × qH} {h : qH} {r0 : Nat} {fs1 : List Value} {y3 : Int32}  (e2 : h.2.2 r0 = some (.inr (9, fs1))) (e4 : fs1[0]? = some (.int y3)) (e5 : ¬ ((180 : Int32) < y3)) (kk : qE d 247 10 [some (.ref r0)] [] h q): qE d 247 0 [some (.ref r0)] [] h q := by
  refine qe_aload_n c247_0 rfl ?_
  refine qe_getfield c247_1 qo247 qF9_13 e2 e4 ?_
  refine qe_sipush (x := 180) c247_4 (by decide) ?_
  refine qe_icmp_gt_F (t := 14) c247_7 rfl e5 ?_
  exact kk
theorem b247_0T {d : Nat} {q : Option Value × qH} {h : qH} {r0 : Nat} {fs1 : List Value} {y3 : Int32}  (e2 : h.2.2 r0 = some (.inr (9, fs1))) (e4 : fs1[0]? = some (.int y3)) (e5 : (180 : Int32) < y3) (kk : qE d 247 14 [some (.ref r0)] [] h q): qE d 247 0 [some (.ref r0)] [] h q := by
  refine qe_aload_n c247_0 rfl ?_
  refine qe_getfield c247_1 qo247 qF9_13 e2 e4 ?_
  refine qe_sipush (x := 180) c247_4 (by decide) ?_
  refine qe_icmp_gt_T (t := 14) c247_7 rfl e5 ?_
  exact kk
theorem b247_10 {d : Nat} {q : Option Value × qH} {h : qH} {r0 : Nat}   (kk : qE d 247 15 [some (.ref r0)] [.int 1] h q): qE d 247 10 [some (.ref r0)] [] h q := by
  refine qe_iconst (x := 1) c247_10 (by decide) ?_
  refine qe_goto (t := 15) c247_11 rfl ?_
  exact kk
theorem b247_14 {d : Nat} {q : Option Value × qH} {h : qH} {r0 : Nat}   (kk : qE d 247 15 [some (.ref r0)] [.int 0] h q): qE d 247 14 [some (.ref r0)] [] h q := by
  refine qe_iconst (x := 0) c247_14 (by decide) ?_
  exact kk
theorem b247_15 {d : Nat} {h : qH} {r0 : Nat} {xs0 : Int32}  (e1 : (xs0 : Int32) = 0 ∨ (xs0 : Int32) = 1) : qE d 247 15 [some (.ref r0)] [.int xs0] h (some (.int xs0), h) := by
  exact qe_zret c247_15 qr247 e1
theorem b248_0 {d : Nat} {h : qH} {r0 : Nat} {h1 : qH} {fs2 : List Value} {h2 : qH} (hd0 : 0 < d) (e1 : qnew h 200 (.inl (0, 200, .inl fun _ => 0)) = h1) (e3 : h1.2.2 r0 = some (.inr (9, fs2))) (e4 : 1 < fs2.length) (e5 : qset h1 r0 (.inr (9, fs2.set 1 (.ref h.1))) = h2) : qE d 248 0 [some (.ref r0)] [] h (none, h2) := by
  refine qe_aload_n c248_0 rfl ?_
  refine qe_objinit c248_1 qo248 (by decide +kernel) (by decide) hd0 (Nat.le_of_ble_eq_true rfl) ?_
  refine qe_aload_n c248_4 rfl ?_
  refine qe_sipush (x := 200) c248_5 (by decide) ?_
  refine qe_new_int c248_8 (by decide) ?_
  rw [show Int32.toNatClampNeg 200 = 200 from by decide]
  rw [e1]
  refine qe_putfinal c248_10 qo248 qF9_9 (by decide +kernel) e3 e4 (by rw [qy9_1]; rfl) ?_
  rw [e5]
  exact qe_vret c248_13 qr248
theorem b249_0 {d : Nat} {q : Option Value × qH} {h : qH} {r0 : Nat} {x1 : Int32}   (kk : qE d 249 6 [some (.ref r0), some (.int x1), some (.int 0), some (.int (4 * x1))] [] h q): qE d 249 0 [some (.ref r0), some (.int x1), none, none] [] h q := by
  refine qe_iconst (x := 0) c249_0 (by decide) ?_
  refine qe_istore_n (ls2 := [some (.ref r0), some (.int x1), some (.int 0), none]) c249_1 (Nat.le_of_ble_eq_true rfl) rfl ?_
  refine qe_iconst (x := 4) c249_2 (by decide) ?_
  refine qe_iload_n c249_3 rfl ?_
  refine qe_imul c249_4 ?_
  refine qe_istore_n (ls2 := [some (.ref r0), some (.int x1), some (.int 0), some (.int (4 * x1))]) c249_5 (Nat.le_of_ble_eq_true rfl) rfl ?_
  exact kk
theorem b249_6F {d : Nat} {q : Option Value × qH} {h : qH} {r0 : Nat} {x1 : Int32} {x2 : Int32} {x3 : Int32}  (e1 : ¬ ((((4 * x1) + 4) : Int32) ≤ x3)) (kk : qE d 249 15 [some (.ref r0), some (.int x1), some (.int x2), some (.int x3)] [] h q): qE d 249 6 [some (.ref r0), some (.int x1), some (.int x2), some (.int x3)] [] h q := by
  refine qe_iload_n c249_6 rfl ?_
  refine qe_iconst (x := 4) c249_7 (by decide) ?_
  refine qe_iload_n c249_8 rfl ?_
  refine qe_imul c249_9 ?_
  refine qe_iconst (x := 4) c249_10 (by decide) ?_
  refine qe_iadd c249_11 ?_
  refine qe_icmp_ge_F (t := 48) c249_12 rfl e1 ?_
  exact kk
theorem b249_6T {d : Nat} {q : Option Value × qH} {h : qH} {r0 : Nat} {x1 : Int32} {x2 : Int32} {x3 : Int32}  (e1 : (((4 * x1) + 4) : Int32) ≤ x3) (kk : qE d 249 48 [some (.ref r0), some (.int x1), some (.int x2), some (.int x3)] [] h q): qE d 249 6 [some (.ref r0), some (.int x1), some (.int x2), some (.int x3)] [] h q := by
  refine qe_iload_n c249_6 rfl ?_
  refine qe_iconst (x := 4) c249_7 (by decide) ?_
  refine qe_iload_n c249_8 rfl ?_
  refine qe_imul c249_9 ?_
  refine qe_iconst (x := 4) c249_10 (by decide) ?_
  refine qe_iadd c249_11 ?_
  refine qe_icmp_ge_T (t := 48) c249_12 rfl e1 ?_
  exact kk
theorem b249_15F {d : Nat} {q : Option Value × qH} {h : qH} {r0 : Nat} {x1 : Int32} {x2 : Int32} {x3 : Int32}  (e1 : ¬ ((x3 : Int32) < 0)) (kk : qE d 249 23 [some (.ref r0), some (.int x1), some (.int x2), some (.int x3)] [.int (x2 <<< (8 &&& 31))] h q): qE d 249 15 [some (.ref r0), some (.int x1), some (.int x2), some (.int x3)] [] h q := by
  refine qe_iload_n c249_15 rfl ?_
  refine qe_bipush (x := 8) c249_16 (by decide) ?_
  refine qe_ishl c249_18 ?_
  refine qe_iload_n c249_19 rfl ?_
  refine qe_if_lt_F (t := 39) c249_20 rfl e1 ?_
  exact kk
theorem b249_15T {d : Nat} {q : Option Value × qH} {h : qH} {r0 : Nat} {x1 : Int32} {x2 : Int32} {x3 : Int32}  (e1 : (x3 : Int32) < 0) (kk : qE d 249 39 [some (.ref r0), some (.int x1), some (.int x2), some (.int x3)] [.int (x2 <<< (8 &&& 31))] h q): qE d 249 15 [some (.ref r0), some (.int x1), some (.int x2), some (.int x3)] [] h q := by
  refine qe_iload_n c249_15 rfl ?_
  refine qe_bipush (x := 8) c249_16 (by decide) ?_
  refine qe_ishl c249_18 ?_
  refine qe_iload_n c249_19 rfl ?_
  refine qe_if_lt_T (t := 39) c249_20 rfl e1 ?_
  exact kk
theorem b249_23F {d : Nat} {q : Option Value × qH} {h : qH} {r0 : Nat} {x1 : Int32} {x2 : Int32} {x3 : Int32} {xs0 : Int32}  (e1 : ¬ ((200 : Int32) ≤ x3)) (kk : qE d 249 30 [some (.ref r0), some (.int x1), some (.int x2), some (.int x3)] [.int xs0] h q): qE d 249 23 [some (.ref r0), some (.int x1), some (.int x2), some (.int x3)] [.int xs0] h q := by
  refine qe_iload_n c249_23 rfl ?_
  refine qe_sipush (x := 200) c249_24 (by decide) ?_
  refine qe_icmp_ge_F (t := 39) c249_27 rfl e1 ?_
  exact kk
theorem b249_23T {d : Nat} {q : Option Value × qH} {h : qH} {r0 : Nat} {x1 : Int32} {x2 : Int32} {x3 : Int32} {xs0 : Int32}  (e1 : (200 : Int32) ≤ x3) (kk : qE d 249 39 [some (.ref r0), some (.int x1), some (.int x2), some (.int x3)] [.int xs0] h q): qE d 249 23 [some (.ref r0), some (.int x1), some (.int x2), some (.int x3)] [.int xs0] h q := by
  refine qe_iload_n c249_23 rfl ?_
  refine qe_sipush (x := 200) c249_24 (by decide) ?_
  refine qe_icmp_ge_T (t := 39) c249_27 rfl e1 ?_
  exact kk
theorem b249_30 {d : Nat} {q : Option Value × qH} {h : qH} {r0 : Nat} {x1 : Int32} {x2 : Int32} {x3 : Int32} {xs0 : Int32} {fs1 : List Value} {y3 : Nat} {n5 : Nat} {f6 : Nat → Int32}  (e2 : h.2.2 r0 = some (.inr (9, fs1))) (e4 : fs1[1]? = some (.ref y3)) (e7 : h.2.2 y3 = some (.inl (0, n5, .inl f6))) (e8 : 0 ≤ (x3 : Int32).toInt ∧ (x3 : Int32).toInt < (n5 : Nat)) (kk : qE d 249 40 [some (.ref r0), some (.int x1), some (.int x2), some (.int x3)] [.int (f6 (x3 : Int32).toNatClampNeg), .int xs0] h q): qE d 249 30 [some (.ref r0), some (.int x1), some (.int x2), some (.int x3)] [.int xs0] h q := by
  refine qe_aload_n c249_30 rfl ?_
  refine qe_getfield c249_31 qo249 qF9_9 e2 e4 ?_
  refine qe_iload_n c249_34 rfl ?_
  refine qe_iaload c249_35 e7 e8 ?_
  refine qe_goto (t := 40) c249_36 rfl ?_
  exact kk
theorem b249_39 {d : Nat} {q : Option Value × qH} {h : qH} {r0 : Nat} {x1 : Int32} {x2 : Int32} {x3 : Int32} {xs0 : Int32}   (kk : qE d 249 40 [some (.ref r0), some (.int x1), some (.int x2), some (.int x3)] [.int 0, .int xs0] h q): qE d 249 39 [some (.ref r0), some (.int x1), some (.int x2), some (.int x3)] [.int xs0] h q := by
  refine qe_iconst (x := 0) c249_39 (by decide) ?_
  exact kk
theorem b249_40 {d : Nat} {q : Option Value × qH} {h : qH} {r0 : Nat} {x1 : Int32} {x2 : Int32} {x3 : Int32} {xs0 : Int32} {xs1 : Int32}   (kk : qE d 249 6 [some (.ref r0), some (.int x1), some (.int (xs0 ||| xs1)), some (.int (x3 + 1))] [] h q): qE d 249 40 [some (.ref r0), some (.int x1), some (.int x2), some (.int x3)] [.int xs1, .int xs0] h q := by
  refine qe_ior c249_40 ?_
  refine qe_istore_n (ls2 := [some (.ref r0), some (.int x1), some (.int (xs0 ||| xs1)), some (.int x3)]) c249_41 (Nat.le_of_ble_eq_true rfl) rfl ?_
  refine qe_iinc (y := (x3 + 1)) (ls2 := [some (.ref r0), some (.int x1), some (.int (xs0 ||| xs1)), some (.int (x3 + 1))]) c249_42 rfl (Nat.le_of_ble_eq_true rfl) rfl rfl ?_
  refine qe_goto (t := 6) c249_45 rfl ?_
  exact kk
theorem b249_48 {d : Nat} {h : qH} {r0 : Nat} {x1 : Int32} {x2 : Int32} {x3 : Int32}   : qE d 249 48 [some (.ref r0), some (.int x1), some (.int x2), some (.int x3)] [] h (some (.int x2), h) := by
  refine qe_iload_n c249_48 rfl ?_
  exact qe_iret c249_49 qr249
theorem b250_0F {d : Nat} {q : Option Value × qH} {h : qH} {r0 : Nat} {fs1 : List Value} {y3 : Int32}  (e2 : h.2.2 r0 = some (.inr (10, fs1))) (e4 : fs1[0]? = some (.int y3)) (e5 : ¬ ((12 : Int32) ≤ y3)) (kk : qE d 250 9 [some (.ref r0)] [] h q): qE d 250 0 [some (.ref r0)] [] h q := by
  refine qe_aload_n c250_0 rfl ?_
  refine qe_getfield c250_1 qo250 qF10_48 e2 e4 ?_
  refine qe_bipush (x := 12) c250_4 (by decide) ?_
  refine qe_icmp_ge_F (t := 45) c250_6 rfl e5 ?_
  exact kk
theorem b250_0T {d : Nat} {q : Option Value × qH} {h : qH} {r0 : Nat} {fs1 : List Value} {y3 : Int32}  (e2 : h.2.2 r0 = some (.inr (10, fs1))) (e4 : fs1[0]? = some (.int y3)) (e5 : (12 : Int32) ≤ y3) (kk : qE d 250 45 [some (.ref r0)] [] h q): qE d 250 0 [some (.ref r0)] [] h q := by
  refine qe_aload_n c250_0 rfl ?_
  refine qe_getfield c250_1 qo250 qF10_48 e2 e4 ?_
  refine qe_bipush (x := 12) c250_4 (by decide) ?_
  refine qe_icmp_ge_T (t := 45) c250_6 rfl e5 ?_
  exact kk
theorem b250_9 {d : Nat} {q : Option Value × qH} {h : qH} {r0 : Nat} {fs1 : List Value} {y3 : Nat} {y5 : Int32} {y7 : Int32} {n9 : Nat} {f10 : Nat → Int32} {h1 : qH} {fs15 : List Value} {y17 : Nat} {y19 : Int32} {y21 : Int32} {n23 : Nat} {f24 : Nat → Int32} {h2 : qH} {fs28 : List Value} {y30 : Int32} {h3 : qH}  (e2 : h.2.2 r0 = some (.inr (10, fs1))) (e4 : fs1[10]? = some (.ref y3)) (e6 : fs1[0]? = some (.int y5)) (e8 : fs1[5]? = some (.int y7)) (e11 : h.2.2 y3 = some (.inl (1, n9, .inl f10))) (e12 : 0 ≤ (y5 : Int32).toInt ∧ (y5 : Int32).toInt < (n9 : Nat)) (e13 : (y7 : Int32) = 0 ∨ (y7 : Int32) = 1) (e14 : qset h y3 (.inl (1, n9, .inl (upd f10 ((y5 : Int32).toNatClampNeg) y7))) = h1) (e16 : h1.2.2 r0 = some (.inr (10, fs15))) (e18 : fs15[9]? = some (.ref y17)) (e20 : fs15[0]? = some (.int y19)) (e22 : fs15[2]? = some (.int y21)) (e25 : h1.2.2 y17 = some (.inl (0, n23, .inl f24))) (e26 : 0 ≤ (y19 : Int32).toInt ∧ (y19 : Int32).toInt < (n23 : Nat)) (e27 : qset h1 y17 (.inl (0, n23, .inl (upd f24 ((y19 : Int32).toNatClampNeg) y21))) = h2) (e29 : h2.2.2 r0 = some (.inr (10, fs28))) (e31 : fs28[0]? = some (.int y30)) (e32 : 0 < fs28.length) (e33 : qset h2 r0 (.inr (10, fs28.set 0 (.int (y30 + 1)))) = h3) (kk : qE d 250 45 [some (.ref r0)] [] h3 q): qE d 250 9 [some (.ref r0)] [] h q := by
  refine qe_aload_n c250_9 rfl ?_
  refine qe_getfield c250_10 qo250 qF10_24 e2 e4 ?_
  refine qe_aload_n c250_13 rfl ?_
  refine qe_getfield c250_14 qo250 qF10_48 e2 e6 ?_
  refine qe_aload_n c250_17 rfl ?_
  refine qe_getfield c250_18 qo250 qF10_81 e2 e8 ?_
  refine qe_zastore c250_21 e11 e12 e13 ?_
  rw [e14]
  refine qe_aload_n c250_22 rfl ?_
  refine qe_getfield c250_23 qo250 qF10_21 e16 e18 ?_
  refine qe_aload_n c250_26 rfl ?_
  refine qe_getfield c250_27 qo250 qF10_48 e16 e20 ?_
  refine qe_aload_n c250_30 rfl ?_
  refine qe_getfield c250_31 qo250 qF10_54 e16 e22 ?_
  refine qe_iastore c250_34 e25 e26 ?_
  rw [e27]
  refine qe_aload_n c250_35 rfl ?_
  refine qe_dup c250_36 rfl ?_
  refine qe_getfield c250_37 qo250 qF10_48 e29 e31 ?_
  refine qe_iconst (x := 1) c250_40 (by decide) ?_
  refine qe_iadd c250_41 ?_
  refine qe_putfield c250_42 qo250 qF10_48 qz10_0 e29 e32 (by rw [qy10_0]; rfl) ?_
  rw [e33]
  exact kk
theorem b250_45 {d : Nat} {h : qH} {r0 : Nat}   : qE d 250 45 [some (.ref r0)] [] h (none, h) := by
  exact qe_vret c250_45 qr250
