/-! What each piece of the code does, from a place to the next. -/
theorem b46_0F {d : Nat} {q : Option Value × qH} {h : qH} {r0 : Nat} {x1 : Int32} {x2 : Int32} {x3 : Int32} {x4 : Int32} {x5 : Int32} {fs1 : List Value} {y3 : Nat} {fs5 : List Value} {h1 : qH} {z7 : Int32}  (e2 : h.2.2 r0 = some (.inr (11, fs1))) (e4 : fs1[11]? = some (.ref y3)) (e6 : h.2.2 y3 = some (.inr (9, fs5))) (e8 : qCall d 247 [.ref y3] h ((some (.int z7)), h1)) (e9 : (z7 : Int32) = 0) (kk : qE d 46 10 [some (.ref r0), some (.int x1), some (.int x2), some (.int x3), some (.int x4), some (.int x5)] [] h1 q): qE d 46 0 [some (.ref r0), some (.int x1), some (.int x2), some (.int x3), some (.int x4), some (.int x5)] [] h q := by
  refine qe_aload_n c46_0 rfl ?_
  refine qe_getfield c46_1 qo46 qF11_83 e2 e4 ?_
  refine qe_virtual (b := y3) (as := []) (r := []) (v := (some (.int z7))) (h2 := h1) c46_4 qo46 qK11_164 rfl rfl rfl (by rw [qo247]; exact e6) (Nat.le_of_ble_eq_true rfl) e8 ?_
  refine qe_if_ne_F (t := 12) c46_7 rfl e9 ?_
  exact kk
theorem b46_0T {d : Nat} {q : Option Value × qH} {h : qH} {r0 : Nat} {x1 : Int32} {x2 : Int32} {x3 : Int32} {x4 : Int32} {x5 : Int32} {fs1 : List Value} {y3 : Nat} {fs5 : List Value} {h1 : qH} {z7 : Int32}  (e2 : h.2.2 r0 = some (.inr (11, fs1))) (e4 : fs1[11]? = some (.ref y3)) (e6 : h.2.2 y3 = some (.inr (9, fs5))) (e8 : qCall d 247 [.ref y3] h ((some (.int z7)), h1)) (e9 : ¬ ((z7 : Int32) = 0)) (kk : qE d 46 12 [some (.ref r0), some (.int x1), some (.int x2), some (.int x3), some (.int x4), some (.int x5)] [] h1 q): qE d 46 0 [some (.ref r0), some (.int x1), some (.int x2), some (.int x3), some (.int x4), some (.int x5)] [] h q := by
  refine qe_aload_n c46_0 rfl ?_
  refine qe_getfield c46_1 qo46 qF11_83 e2 e4 ?_
  refine qe_virtual (b := y3) (as := []) (r := []) (v := (some (.int z7))) (h2 := h1) c46_4 qo46 qK11_164 rfl rfl rfl (by rw [qo247]; exact e6) (Nat.le_of_ble_eq_true rfl) e8 ?_
  refine qe_if_ne_T (t := 12) c46_7 rfl e9 ?_
  exact kk
theorem b46_10 {d : Nat} {h : qH} {r0 : Nat} {x1 : Int32} {x2 : Int32} {x3 : Int32} {x4 : Int32} {x5 : Int32}   : qE d 46 10 [some (.ref r0), some (.int x1), some (.int x2), some (.int x3), some (.int x4), some (.int x5)] [] h (some (.int (-1)), h) := by
  refine qe_iconst (x := (-1)) c46_10 (by decide) ?_
  exact qe_iret c46_11 qr46
theorem b46_12 {d : Nat} {h : qH} {r0 : Nat} {x1 : Int32} {x2 : Int32} {x3 : Int32} {x4 : Int32} {x5 : Int32} {fs1 : List Value} {y3 : Nat} {fs5 : List Value} {h1 : qH} {fs8 : List Value} {y10 : Nat} {fs12 : List Value} {h2 : qH} {fs15 : List Value} {y17 : Nat} {fs19 : List Value} {h3 : qH} {fs22 : List Value} {y24 : Nat} {fs26 : List Value} {h4 : qH} {fs29 : List Value} {y31 : Nat} {fs33 : List Value} {h5 : qH} {fs36 : List Value} {y38 : Nat} {fs40 : List Value} {y42 : Int32}  (e2 : h.2.2 r0 = some (.inr (11, fs1))) (e4 : fs1[11]? = some (.ref y3)) (e6 : h.2.2 y3 = some (.inr (9, fs5))) (e7 : qCall d 246 [.ref y3, .int x1] h (none, h1)) (e9 : h1.2.2 r0 = some (.inr (11, fs8))) (e11 : fs8[11]? = some (.ref y10)) (e13 : h1.2.2 y10 = some (.inr (9, fs12))) (e14 : qCall d 246 [.ref y10, .int x2] h1 (none, h2)) (e16 : h2.2.2 r0 = some (.inr (11, fs15))) (e18 : fs15[11]? = some (.ref y17)) (e20 : h2.2.2 y17 = some (.inr (9, fs19))) (e21 : qCall d 246 [.ref y17, .int x3] h2 (none, h3)) (e23 : h3.2.2 r0 = some (.inr (11, fs22))) (e25 : fs22[11]? = some (.ref y24)) (e27 : h3.2.2 y24 = some (.inr (9, fs26))) (e28 : qCall d 246 [.ref y24, .int x4] h3 (none, h4)) (e30 : h4.2.2 r0 = some (.inr (11, fs29))) (e32 : fs29[11]? = some (.ref y31)) (e34 : h4.2.2 y31 = some (.inr (9, fs33))) (e35 : qCall d 246 [.ref y31, .int x5] h4 (none, h5)) (e37 : h5.2.2 r0 = some (.inr (11, fs36))) (e39 : fs36[11]? = some (.ref y38)) (e41 : h5.2.2 y38 = some (.inr (9, fs40))) (e43 : fs40[0]? = some (.int y42)) : qE d 46 12 [some (.ref r0), some (.int x1), some (.int x2), some (.int x3), some (.int x4), some (.int x5)] [] h (some (.int y42), h5) := by
  refine qe_aload_n c46_12 rfl ?_
  refine qe_getfield c46_13 qo46 qF11_83 e2 e4 ?_
  refine qe_iload_n c46_16 rfl ?_
  refine qe_virtual (b := y3) (as := [.int x1]) (r := []) (v := none) (h2 := h1) c46_17 qo46 qK11_168 rfl rfl rfl (by rw [qo246]; exact e6) (Nat.le_of_ble_eq_true rfl) e7 ?_
  refine qe_aload_n c46_20 rfl ?_
  refine qe_getfield c46_21 qo46 qF11_83 e9 e11 ?_
  refine qe_iload_n c46_24 rfl ?_
  refine qe_virtual (b := y10) (as := [.int x2]) (r := []) (v := none) (h2 := h2) c46_25 qo46 qK11_168 rfl rfl rfl (by rw [qo246]; exact e13) (Nat.le_of_ble_eq_true rfl) e14 ?_
  refine qe_aload_n c46_28 rfl ?_
  refine qe_getfield c46_29 qo46 qF11_83 e16 e18 ?_
  refine qe_iload_n c46_32 rfl ?_
  refine qe_virtual (b := y17) (as := [.int x3]) (r := []) (v := none) (h2 := h3) c46_33 qo46 qK11_168 rfl rfl rfl (by rw [qo246]; exact e20) (Nat.le_of_ble_eq_true rfl) e21 ?_
  refine qe_aload_n c46_36 rfl ?_
  refine qe_getfield c46_37 qo46 qF11_83 e23 e25 ?_
  refine qe_iload c46_40 rfl ?_
  refine qe_virtual (b := y24) (as := [.int x4]) (r := []) (v := none) (h2 := h4) c46_42 qo46 qK11_168 rfl rfl rfl (by rw [qo246]; exact e27) (Nat.le_of_ble_eq_true rfl) e28 ?_
  refine qe_aload_n c46_45 rfl ?_
  refine qe_getfield c46_46 qo46 qF11_83 e30 e32 ?_
  refine qe_iload c46_49 rfl ?_
  refine qe_virtual (b := y31) (as := [.int x5]) (r := []) (v := none) (h2 := h5) c46_51 qo46 qK11_168 rfl rfl rfl (by rw [qo246]; exact e34) (Nat.le_of_ble_eq_true rfl) e35 ?_
  refine qe_aload_n c46_54 rfl ?_
  refine qe_getfield c46_55 qo46 qF11_83 e37 e39 ?_
  refine qe_getfield c46_58 qo46 qF11_172 e41 e43 ?_
  exact qe_iret c46_61 qr46
theorem b47_0 {d : Nat} {q : Option Value × qH} {h : qH} {r0 : Nat}   (kk : qE d 47 4 [some (.ref r0), some (.int 0), some (.int 0)] [] h q): qE d 47 0 [some (.ref r0), none, none] [] h q := by
  refine qe_iconst (x := 0) c47_0 (by decide) ?_
  refine qe_istore_n (ls2 := [some (.ref r0), some (.int 0), none]) c47_1 (Nat.le_of_ble_eq_true rfl) rfl ?_
  refine qe_iconst (x := 0) c47_2 (by decide) ?_
  refine qe_istore_n (ls2 := [some (.ref r0), some (.int 0), some (.int 0)]) c47_3 (Nat.le_of_ble_eq_true rfl) rfl ?_
  exact kk
theorem b47_4F {d : Nat} {q : Option Value × qH} {h : qH} {r0 : Nat} {x1 : Int32} {x2 : Int32} {fs1 : List Value} {y3 : Nat} {fs5 : List Value} {y7 : Int32}  (e2 : h.2.2 r0 = some (.inr (11, fs1))) (e4 : fs1[0]? = some (.ref y3)) (e6 : h.2.2 y3 = some (.inr (4, fs5))) (e8 : fs5[1]? = some (.int y7)) (e9 : ¬ ((y7 : Int32) ≤ x2)) (kk : qE d 47 15 [some (.ref r0), some (.int x1), some (.int x2)] [] h q): qE d 47 4 [some (.ref r0), some (.int x1), some (.int x2)] [] h q := by
  refine qe_iload_n c47_4 rfl ?_
  refine qe_aload_n c47_5 rfl ?_
  refine qe_getfield c47_6 qo47 qF11_10 e2 e4 ?_
  refine qe_getfield c47_9 qo47 qF11_119 e6 e8 ?_
  refine qe_icmp_ge_F (t := 61) c47_12 rfl e9 ?_
  exact kk
theorem b47_4T {d : Nat} {q : Option Value × qH} {h : qH} {r0 : Nat} {x1 : Int32} {x2 : Int32} {fs1 : List Value} {y3 : Nat} {fs5 : List Value} {y7 : Int32}  (e2 : h.2.2 r0 = some (.inr (11, fs1))) (e4 : fs1[0]? = some (.ref y3)) (e6 : h.2.2 y3 = some (.inr (4, fs5))) (e8 : fs5[1]? = some (.int y7)) (e9 : (y7 : Int32) ≤ x2) (kk : qE d 47 61 [some (.ref r0), some (.int x1), some (.int x2)] [] h q): qE d 47 4 [some (.ref r0), some (.int x1), some (.int x2)] [] h q := by
  refine qe_iload_n c47_4 rfl ?_
  refine qe_aload_n c47_5 rfl ?_
  refine qe_getfield c47_6 qo47 qF11_10 e2 e4 ?_
  refine qe_getfield c47_9 qo47 qF11_119 e6 e8 ?_
  refine qe_icmp_ge_T (t := 61) c47_12 rfl e9 ?_
  exact kk
theorem b47_15F {d : Nat} {q : Option Value × qH} {h : qH} {r0 : Nat} {x1 : Int32} {x2 : Int32}  (e1 : ¬ ((8 : Int32) ≤ x1)) (kk : qE d 47 21 [some (.ref r0), some (.int x1), some (.int x2)] [] h q): qE d 47 15 [some (.ref r0), some (.int x1), some (.int x2)] [] h q := by
  refine qe_iload_n c47_15 rfl ?_
  refine qe_bipush (x := 8) c47_16 (by decide) ?_
  refine qe_icmp_ge_F (t := 61) c47_18 rfl e1 ?_
  exact kk
theorem b47_15T {d : Nat} {q : Option Value × qH} {h : qH} {r0 : Nat} {x1 : Int32} {x2 : Int32}  (e1 : (8 : Int32) ≤ x1) (kk : qE d 47 61 [some (.ref r0), some (.int x1), some (.int x2)] [] h q): qE d 47 15 [some (.ref r0), some (.int x1), some (.int x2)] [] h q := by
  refine qe_iload_n c47_15 rfl ?_
  refine qe_bipush (x := 8) c47_16 (by decide) ?_
  refine qe_icmp_ge_T (t := 61) c47_18 rfl e1 ?_
  exact kk
theorem b47_21F {d : Nat} {q : Option Value × qH} {h : qH} {r0 : Nat} {x1 : Int32} {x2 : Int32} {fs1 : List Value} {y3 : Nat} {fs5 : List Value} {y7 : Nat} {n9 : Nat} {f10 : Nat → Int32}  (e2 : h.2.2 r0 = some (.inr (11, fs1))) (e4 : fs1[1]? = some (.ref y3)) (e6 : h.2.2 y3 = some (.inr (8, fs5))) (e8 : fs5[5]? = some (.ref y7)) (e11 : h.2.2 y7 = some (.inl (0, n9, .inl f10))) (e12 : 0 ≤ (x2 : Int32).toInt ∧ (x2 : Int32).toInt < (n9 : Nat)) (e13 : ((f10 (x2 : Int32).toNatClampNeg) : Int32) = 0) (kk : qE d 47 33 [some (.ref r0), some (.int x1), some (.int x2)] [] h q): qE d 47 21 [some (.ref r0), some (.int x1), some (.int x2)] [] h q := by
  refine qe_aload_n c47_21 rfl ?_
  refine qe_getfield c47_22 qo47 qF11_19 e2 e4 ?_
  refine qe_getfield c47_25 qo47 qF11_149 e6 e8 ?_
  refine qe_iload_n c47_28 rfl ?_
  refine qe_iaload c47_29 e11 e12 ?_
  refine qe_if_ne_F (t := 55) c47_30 rfl e13 ?_
  exact kk
theorem b47_21T {d : Nat} {q : Option Value × qH} {h : qH} {r0 : Nat} {x1 : Int32} {x2 : Int32} {fs1 : List Value} {y3 : Nat} {fs5 : List Value} {y7 : Nat} {n9 : Nat} {f10 : Nat → Int32}  (e2 : h.2.2 r0 = some (.inr (11, fs1))) (e4 : fs1[1]? = some (.ref y3)) (e6 : h.2.2 y3 = some (.inr (8, fs5))) (e8 : fs5[5]? = some (.ref y7)) (e11 : h.2.2 y7 = some (.inl (0, n9, .inl f10))) (e12 : 0 ≤ (x2 : Int32).toInt ∧ (x2 : Int32).toInt < (n9 : Nat)) (e13 : ¬ (((f10 (x2 : Int32).toNatClampNeg) : Int32) = 0)) (kk : qE d 47 55 [some (.ref r0), some (.int x1), some (.int x2)] [] h q): qE d 47 21 [some (.ref r0), some (.int x1), some (.int x2)] [] h q := by
  refine qe_aload_n c47_21 rfl ?_
  refine qe_getfield c47_22 qo47 qF11_19 e2 e4 ?_
  refine qe_getfield c47_25 qo47 qF11_149 e6 e8 ?_
  refine qe_iload_n c47_28 rfl ?_
  refine qe_iaload c47_29 e11 e12 ?_
  refine qe_if_ne_T (t := 55) c47_30 rfl e13 ?_
  exact kk
theorem b47_33F {d : Nat} {q : Option Value × qH} {h : qH} {r0 : Nat} {x1 : Int32} {x2 : Int32} {fs1 : List Value} {y3 : Nat} {fs5 : List Value} {y7 : Nat} {n9 : Nat} {f10 : Nat → Int32}  (e2 : h.2.2 r0 = some (.inr (11, fs1))) (e4 : fs1[1]? = some (.ref y3)) (e6 : h.2.2 y3 = some (.inr (8, fs5))) (e8 : fs5[7]? = some (.ref y7)) (e11 : h.2.2 y7 = some (.inl (0, n9, .inl f10))) (e12 : 0 ≤ (x2 : Int32).toInt ∧ (x2 : Int32).toInt < (n9 : Nat)) (e13 : ¬ (((f10 (x2 : Int32).toNatClampNeg) : Int32) ≤ 0)) (kk : qE d 47 45 [some (.ref r0), some (.int x1), some (.int x2)] [] h q): qE d 47 33 [some (.ref r0), some (.int x1), some (.int x2)] [] h q := by
  refine qe_aload_n c47_33 rfl ?_
  refine qe_getfield c47_34 qo47 qF11_19 e2 e4 ?_
  refine qe_getfield c47_37 qo47 qF11_143 e6 e8 ?_
  refine qe_iload_n c47_40 rfl ?_
  refine qe_iaload c47_41 e11 e12 ?_
  refine qe_if_le_F (t := 55) c47_42 rfl e13 ?_
  exact kk
theorem b47_33T {d : Nat} {q : Option Value × qH} {h : qH} {r0 : Nat} {x1 : Int32} {x2 : Int32} {fs1 : List Value} {y3 : Nat} {fs5 : List Value} {y7 : Nat} {n9 : Nat} {f10 : Nat → Int32}  (e2 : h.2.2 r0 = some (.inr (11, fs1))) (e4 : fs1[1]? = some (.ref y3)) (e6 : h.2.2 y3 = some (.inr (8, fs5))) (e8 : fs5[7]? = some (.ref y7)) (e11 : h.2.2 y7 = some (.inl (0, n9, .inl f10))) (e12 : 0 ≤ (x2 : Int32).toInt ∧ (x2 : Int32).toInt < (n9 : Nat)) (e13 : ((f10 (x2 : Int32).toNatClampNeg) : Int32) ≤ 0) (kk : qE d 47 55 [some (.ref r0), some (.int x1), some (.int x2)] [] h q): qE d 47 33 [some (.ref r0), some (.int x1), some (.int x2)] [] h q := by
  refine qe_aload_n c47_33 rfl ?_
  refine qe_getfield c47_34 qo47 qF11_19 e2 e4 ?_
  refine qe_getfield c47_37 qo47 qF11_143 e6 e8 ?_
  refine qe_iload_n c47_40 rfl ?_
  refine qe_iaload c47_41 e11 e12 ?_
  refine qe_if_le_T (t := 55) c47_42 rfl e13 ?_
  exact kk
theorem b47_45 {d : Nat} {q : Option Value × qH} {h : qH} {r0 : Nat} {x1 : Int32} {x2 : Int32} {fs1 : List Value} {y3 : Nat} {n5 : Nat} {f6 : Nat → Int32} {h1 : qH}  (e2 : h.2.2 r0 = some (.inr (11, fs1))) (e4 : fs1[12]? = some (.ref y3)) (e7 : h.2.2 y3 = some (.inl (0, n5, .inl f6))) (e8 : 0 ≤ (x1 : Int32).toInt ∧ (x1 : Int32).toInt < (n5 : Nat)) (e9 : qset h y3 (.inl (0, n5, .inl (upd f6 ((x1 : Int32).toNatClampNeg) x2))) = h1) (kk : qE d 47 55 [some (.ref r0), some (.int (x1 + 1)), some (.int x2)] [] h1 q): qE d 47 45 [some (.ref r0), some (.int x1), some (.int x2)] [] h q := by
  refine qe_aload_n c47_45 rfl ?_
  refine qe_getfield c47_46 qo47 qF11_87 e2 e4 ?_
  refine qe_iload_n c47_49 rfl ?_
  refine qe_iload_n c47_50 rfl ?_
  refine qe_iastore c47_51 e7 e8 ?_
  rw [e9]
  refine qe_iinc (y := (x1 + 1)) (ls2 := [some (.ref r0), some (.int (x1 + 1)), some (.int x2)]) c47_52 rfl (Nat.le_of_ble_eq_true rfl) rfl rfl ?_
  exact kk
theorem b47_55 {d : Nat} {q : Option Value × qH} {h : qH} {r0 : Nat} {x1 : Int32} {x2 : Int32}   (kk : qE d 47 4 [some (.ref r0), some (.int x1), some (.int (x2 + 1))] [] h q): qE d 47 55 [some (.ref r0), some (.int x1), some (.int x2)] [] h q := by
  refine qe_iinc (y := (x2 + 1)) (ls2 := [some (.ref r0), some (.int x1), some (.int (x2 + 1))]) c47_55 rfl (Nat.le_of_ble_eq_true rfl) rfl rfl ?_
  refine qe_goto (t := 4) c47_58 rfl ?_
  exact kk
theorem b47_61 {d : Nat} {h : qH} {r0 : Nat} {x1 : Int32} {x2 : Int32}   : qE d 47 61 [some (.ref r0), some (.int x1), some (.int x2)] [] h (some (.int x1), h) := by
  refine qe_iload_n c47_61 rfl ?_
  exact qe_iret c47_62 qr47
theorem b48_0 {d : Nat} {q : Option Value × qH} {h : qH} {r0 : Nat}   (kk : qE d 48 2 [some (.ref r0), some (.int 0)] [] h q): qE d 48 0 [some (.ref r0), none] [] h q := by
  refine qe_iconst (x := 0) c48_0 (by decide) ?_
  refine qe_istore_n (ls2 := [some (.ref r0), some (.int 0)]) c48_1 (Nat.le_of_ble_eq_true rfl) rfl ?_
  exact kk
theorem b48_2F {d : Nat} {q : Option Value × qH} {h : qH} {r0 : Nat} {x1 : Int32} {fs1 : List Value} {y3 : Nat} {fs5 : List Value} {y7 : Int32}  (e2 : h.2.2 r0 = some (.inr (11, fs1))) (e4 : fs1[1]? = some (.ref y3)) (e6 : h.2.2 y3 = some (.inr (8, fs5))) (e8 : fs5[0]? = some (.int y7)) (e9 : ¬ ((y7 : Int32) ≤ x1)) (kk : qE d 48 13 [some (.ref r0), some (.int x1)] [] h q): qE d 48 2 [some (.ref r0), some (.int x1)] [] h q := by
  refine qe_iload_n c48_2 rfl ?_
  refine qe_aload_n c48_3 rfl ?_
  refine qe_getfield c48_4 qo48 qF11_19 e2 e4 ?_
  refine qe_getfield c48_7 qo48 qF11_97 e6 e8 ?_
  refine qe_icmp_ge_F (t := 37) c48_10 rfl e9 ?_
  exact kk
theorem b48_2T {d : Nat} {q : Option Value × qH} {h : qH} {r0 : Nat} {x1 : Int32} {fs1 : List Value} {y3 : Nat} {fs5 : List Value} {y7 : Int32}  (e2 : h.2.2 r0 = some (.inr (11, fs1))) (e4 : fs1[1]? = some (.ref y3)) (e6 : h.2.2 y3 = some (.inr (8, fs5))) (e8 : fs5[0]? = some (.int y7)) (e9 : (y7 : Int32) ≤ x1) (kk : qE d 48 37 [some (.ref r0), some (.int x1)] [] h q): qE d 48 2 [some (.ref r0), some (.int x1)] [] h q := by
  refine qe_iload_n c48_2 rfl ?_
  refine qe_aload_n c48_3 rfl ?_
  refine qe_getfield c48_4 qo48 qF11_19 e2 e4 ?_
  refine qe_getfield c48_7 qo48 qF11_97 e6 e8 ?_
  refine qe_icmp_ge_T (t := 37) c48_10 rfl e9 ?_
  exact kk
theorem b48_13F {d : Nat} {q : Option Value × qH} {h : qH} {r0 : Nat} {x1 : Int32}  (e1 : ¬ ((499 : Int32) ≤ x1)) (kk : qE d 48 20 [some (.ref r0), some (.int x1)] [] h q): qE d 48 13 [some (.ref r0), some (.int x1)] [] h q := by
  refine qe_iload_n c48_13 rfl ?_
  refine qe_sipush (x := 499) c48_14 (by decide) ?_
  refine qe_icmp_ge_F (t := 37) c48_17 rfl e1 ?_
  exact kk
theorem b48_13T {d : Nat} {q : Option Value × qH} {h : qH} {r0 : Nat} {x1 : Int32}  (e1 : (499 : Int32) ≤ x1) (kk : qE d 48 37 [some (.ref r0), some (.int x1)] [] h q): qE d 48 13 [some (.ref r0), some (.int x1)] [] h q := by
  refine qe_iload_n c48_13 rfl ?_
  refine qe_sipush (x := 499) c48_14 (by decide) ?_
  refine qe_icmp_ge_T (t := 37) c48_17 rfl e1 ?_
  exact kk
theorem b48_20F {d : Nat} {q : Option Value × qH} {h : qH} {r0 : Nat} {x1 : Int32} {fs1 : List Value} {y3 : Nat} {n5 : Nat} {f6 : Nat → Int32}  (e2 : h.2.2 r0 = some (.inr (11, fs1))) (e4 : fs1[3]? = some (.ref y3)) (e7 : h.2.2 y3 = some (.inl (0, n5, .inl f6))) (e8 : 0 ≤ (x1 : Int32).toInt ∧ (x1 : Int32).toInt < (n5 : Nat)) (e9 : ¬ (((f6 (x1 : Int32).toNatClampNeg) : Int32) = 0)) (kk : qE d 48 29 [some (.ref r0), some (.int x1)] [] h q): qE d 48 20 [some (.ref r0), some (.int x1)] [] h q := by
  refine qe_aload_n c48_20 rfl ?_
  refine qe_getfield c48_21 qo48 qF11_27 e2 e4 ?_
  refine qe_iload_n c48_24 rfl ?_
  refine qe_iaload c48_25 e7 e8 ?_
  refine qe_if_eq_F (t := 31) c48_26 rfl e9 ?_
  exact kk
theorem b48_20T {d : Nat} {q : Option Value × qH} {h : qH} {r0 : Nat} {x1 : Int32} {fs1 : List Value} {y3 : Nat} {n5 : Nat} {f6 : Nat → Int32}  (e2 : h.2.2 r0 = some (.inr (11, fs1))) (e4 : fs1[3]? = some (.ref y3)) (e7 : h.2.2 y3 = some (.inl (0, n5, .inl f6))) (e8 : 0 ≤ (x1 : Int32).toInt ∧ (x1 : Int32).toInt < (n5 : Nat)) (e9 : ((f6 (x1 : Int32).toNatClampNeg) : Int32) = 0) (kk : qE d 48 31 [some (.ref r0), some (.int x1)] [] h q): qE d 48 20 [some (.ref r0), some (.int x1)] [] h q := by
  refine qe_aload_n c48_20 rfl ?_
  refine qe_getfield c48_21 qo48 qF11_27 e2 e4 ?_
  refine qe_iload_n c48_24 rfl ?_
  refine qe_iaload c48_25 e7 e8 ?_
  refine qe_if_eq_T (t := 31) c48_26 rfl e9 ?_
  exact kk
theorem b48_29 {d : Nat} {h : qH} {r0 : Nat} {x1 : Int32}   : qE d 48 29 [some (.ref r0), some (.int x1)] [] h (some (.int x1), h) := by
  refine qe_iload_n c48_29 rfl ?_
  exact qe_iret c48_30 qr48
theorem b48_31 {d : Nat} {q : Option Value × qH} {h : qH} {r0 : Nat} {x1 : Int32}   (kk : qE d 48 2 [some (.ref r0), some (.int (x1 + 1))] [] h q): qE d 48 31 [some (.ref r0), some (.int x1)] [] h q := by
  refine qe_iinc (y := (x1 + 1)) (ls2 := [some (.ref r0), some (.int (x1 + 1))]) c48_31 rfl (Nat.le_of_ble_eq_true rfl) rfl rfl ?_
  refine qe_goto (t := 2) c48_34 rfl ?_
  exact kk
theorem b48_37 {d : Nat} {h : qH} {r0 : Nat} {x1 : Int32}   : qE d 48 37 [some (.ref r0), some (.int x1)] [] h (some (.int (-1)), h) := by
  refine qe_iconst (x := (-1)) c48_37 (by decide) ?_
  exact qe_iret c48_38 qr48
theorem b49_0n {d : Nat} {q : Option Value × qH} {h : qH} {r0 : Nat} {x1 : Int32} {fs1 : List Value} {y3 : Nat} {fs5 : List Value} {y7 : Nat} {n9 : Nat} {f10 : Nat → Int32} {h1 : qH}  (e2 : h.2.2 r0 = some (.inr (11, fs1))) (e4 : fs1[7]? = some (.ref y3)) (e6 : h.2.2 y3 = some (.inr (3, fs5))) (e8 : fs5[3]? = some (.ref y7)) (e11 : h.2.2 y7 = some (.inl (0, n9, .inl f10))) (e12 : 0 ≤ (x1 : Int32).toInt ∧ (x1 : Int32).toInt < (n9 : Nat)) (e13 : qCall d 73 [.ref r0, .int (f10 (x1 : Int32).toNatClampNeg)] h ((some .null), h1)) (kk : qE d 49 18 [some (.ref r0), some (.int x1), some (.null), none, none] [] h1 q): qE d 49 0 [some (.ref r0), some (.int x1), none, none, none] [] h q := by
  refine qe_aload_n c49_0 rfl ?_
  refine qe_aload_n c49_1 rfl ?_
  refine qe_getfield c49_2 qo49 qF11_55 e2 e4 ?_
  refine qe_getfield c49_5 qo49 qF11_251 e6 e8 ?_
  refine qe_iload_n c49_8 rfl ?_
  refine qe_iaload c49_9 e11 e12 ?_
  refine qe_virtual (b := r0) (as := [.int (f10 (x1 : Int32).toNatClampNeg)]) (r := []) (v := (some .null)) (h2 := h1) c49_10 qo49 qK11_285 rfl rfl rfl (by rw [qo73]; exact e2) (Nat.le_of_ble_eq_true rfl) e13 ?_
  refine qe_astore_nN (ls2 := [some (.ref r0), some (.int x1), some (.null), none, none]) c49_13 (Nat.le_of_ble_eq_true rfl) rfl ?_
  refine qe_aload_nN c49_14 rfl ?_
  refine qe_ifnonnull_F c49_15 ?_
  exact kk
theorem b49_0r {d : Nat} {q : Option Value × qH} {h : qH} {r0 : Nat} {x1 : Int32} {fs1 : List Value} {y3 : Nat} {fs5 : List Value} {y7 : Nat} {n9 : Nat} {f10 : Nat → Int32} {h1 : qH} {z13 : Nat}  (e2 : h.2.2 r0 = some (.inr (11, fs1))) (e4 : fs1[7]? = some (.ref y3)) (e6 : h.2.2 y3 = some (.inr (3, fs5))) (e8 : fs5[3]? = some (.ref y7)) (e11 : h.2.2 y7 = some (.inl (0, n9, .inl f10))) (e12 : 0 ≤ (x1 : Int32).toInt ∧ (x1 : Int32).toInt < (n9 : Nat)) (e14 : qCall d 73 [.ref r0, .int (f10 (x1 : Int32).toNatClampNeg)] h ((some (.ref z13)), h1)) (kk : qE d 49 20 [some (.ref r0), some (.int x1), some (.ref z13), none, none] [] h1 q): qE d 49 0 [some (.ref r0), some (.int x1), none, none, none] [] h q := by
  refine qe_aload_n c49_0 rfl ?_
  refine qe_aload_n c49_1 rfl ?_
  refine qe_getfield c49_2 qo49 qF11_55 e2 e4 ?_
  refine qe_getfield c49_5 qo49 qF11_251 e6 e8 ?_
  refine qe_iload_n c49_8 rfl ?_
  refine qe_iaload c49_9 e11 e12 ?_
  refine qe_virtual (b := r0) (as := [.int (f10 (x1 : Int32).toNatClampNeg)]) (r := []) (v := (some (.ref z13))) (h2 := h1) c49_10 qo49 qK11_285 rfl rfl rfl (by rw [qo73]; exact e2) (Nat.le_of_ble_eq_true rfl) e14 ?_
  refine qe_astore_n (ls2 := [some (.ref r0), some (.int x1), some (.ref z13), none, none]) c49_13 (Nat.le_of_ble_eq_true rfl) rfl ?_
  refine qe_aload_n c49_14 rfl ?_
  refine qe_ifnonnull_T (t := 20) c49_15 rfl ?_
  exact kk
theorem b49_18n2 {d : Nat} {h : qH} {r0 : Nat} {x1 : Int32}   : qE d 49 18 [some (.ref r0), some (.int x1), some (.null), none, none] [] h (some (.int (-1)), h) := by
  refine qe_iconst (x := (-1)) c49_18 (by decide) ?_
  exact qe_iret c49_19 qr49
theorem b49_20 {d : Nat} {q : Option Value × qH} {h : qH} {r0 : Nat} {x1 : Int32} {r2 : Nat}   (kk : qE d 49 22 [some (.ref r0), some (.int x1), some (.ref r2), some (.int 0), none] [] h q): qE d 49 20 [some (.ref r0), some (.int x1), some (.ref r2), none, none] [] h q := by
  refine qe_iconst (x := 0) c49_20 (by decide) ?_
  refine qe_istore_n (ls2 := [some (.ref r0), some (.int x1), some (.ref r2), some (.int 0), none]) c49_21 (Nat.le_of_ble_eq_true rfl) rfl ?_
  exact kk
theorem b49_22F {d : Nat} {q : Option Value × qH} {h : qH} {r0 : Nat} {x1 : Int32} {r2 : Nat} {x3 : Int32} {o4 : Option Value}  (e1 : ¬ ((x1 : Int32) ≤ x3)) (kk : qE d 49 27 [some (.ref r0), some (.int x1), some (.ref r2), some (.int x3), o4] [] h q): qE d 49 22 [some (.ref r0), some (.int x1), some (.ref r2), some (.int x3), o4] [] h q := by
  refine qe_iload_n c49_22 rfl ?_
  refine qe_iload_n c49_23 rfl ?_
  refine qe_icmp_ge_F (t := 92) c49_24 rfl e1 ?_
  exact kk
theorem b49_22T {d : Nat} {q : Option Value × qH} {h : qH} {r0 : Nat} {x1 : Int32} {r2 : Nat} {x3 : Int32} {o4 : Option Value}  (e1 : (x1 : Int32) ≤ x3) (kk : qE d 49 92 [some (.ref r0), some (.int x1), some (.ref r2), some (.int x3), o4] [] h q): qE d 49 22 [some (.ref r0), some (.int x1), some (.ref r2), some (.int x3), o4] [] h q := by
  refine qe_iload_n c49_22 rfl ?_
  refine qe_iload_n c49_23 rfl ?_
  refine qe_icmp_ge_T (t := 92) c49_24 rfl e1 ?_
  exact kk
theorem b49_27F {d : Nat} {q : Option Value × qH} {h : qH} {r0 : Nat} {x1 : Int32} {r2 : Nat} {x3 : Int32} {o4 : Option Value} {fs1 : List Value} {y3 : Nat} {fs5 : List Value} {y7 : Nat} {n9 : Nat} {f10 : Nat → Int32}  (e2 : h.2.2 r0 = some (.inr (11, fs1))) (e4 : fs1[7]? = some (.ref y3)) (e6 : h.2.2 y3 = some (.inr (3, fs5))) (e8 : fs5[3]? = some (.ref y7)) (e11 : h.2.2 y7 = some (.inl (0, n9, .inl f10))) (e12 : 0 ≤ (x3 : Int32).toInt ∧ (x3 : Int32).toInt < (n9 : Nat)) (e15 : 0 ≤ (x1 : Int32).toInt ∧ (x1 : Int32).toInt < (n9 : Nat)) (e16 : ((f10 (x3 : Int32).toNatClampNeg) : Int32) = ((f10 (x1 : Int32).toNatClampNeg) - 1)) (kk : qE d 49 50 [some (.ref r0), some (.int x1), some (.ref r2), some (.int x3), o4] [] h q): qE d 49 27 [some (.ref r0), some (.int x1), some (.ref r2), some (.int x3), o4] [] h q := by
  refine qe_aload_n c49_27 rfl ?_
  refine qe_getfield c49_28 qo49 qF11_55 e2 e4 ?_
  refine qe_getfield c49_31 qo49 qF11_251 e6 e8 ?_
  refine qe_iload_n c49_34 rfl ?_
  refine qe_iaload c49_35 e11 e12 ?_
  refine qe_aload_n c49_36 rfl ?_
  refine qe_getfield c49_37 qo49 qF11_55 e2 e4 ?_
  refine qe_getfield c49_40 qo49 qF11_251 e6 e8 ?_
  refine qe_iload_n c49_43 rfl ?_
  refine qe_iaload c49_44 e11 e15 ?_
  refine qe_iconst (x := 1) c49_45 (by decide) ?_
  refine qe_isub c49_46 ?_
  refine qe_icmp_ne_F (t := 54) c49_47 rfl e16 ?_
  exact kk
theorem b49_27T {d : Nat} {q : Option Value × qH} {h : qH} {r0 : Nat} {x1 : Int32} {r2 : Nat} {x3 : Int32} {o4 : Option Value} {fs1 : List Value} {y3 : Nat} {fs5 : List Value} {y7 : Nat} {n9 : Nat} {f10 : Nat → Int32}  (e2 : h.2.2 r0 = some (.inr (11, fs1))) (e4 : fs1[7]? = some (.ref y3)) (e6 : h.2.2 y3 = some (.inr (3, fs5))) (e8 : fs5[3]? = some (.ref y7)) (e11 : h.2.2 y7 = some (.inl (0, n9, .inl f10))) (e12 : 0 ≤ (x3 : Int32).toInt ∧ (x3 : Int32).toInt < (n9 : Nat)) (e15 : 0 ≤ (x1 : Int32).toInt ∧ (x1 : Int32).toInt < (n9 : Nat)) (e16 : ¬ (((f10 (x3 : Int32).toNatClampNeg) : Int32) = ((f10 (x1 : Int32).toNatClampNeg) - 1))) (kk : qE d 49 54 [some (.ref r0), some (.int x1), some (.ref r2), some (.int x3), o4] [] h q): qE d 49 27 [some (.ref r0), some (.int x1), some (.ref r2), some (.int x3), o4] [] h q := by
  refine qe_aload_n c49_27 rfl ?_
  refine qe_getfield c49_28 qo49 qF11_55 e2 e4 ?_
  refine qe_getfield c49_31 qo49 qF11_251 e6 e8 ?_
  refine qe_iload_n c49_34 rfl ?_
  refine qe_iaload c49_35 e11 e12 ?_
  refine qe_aload_n c49_36 rfl ?_
  refine qe_getfield c49_37 qo49 qF11_55 e2 e4 ?_
  refine qe_getfield c49_40 qo49 qF11_251 e6 e8 ?_
  refine qe_iload_n c49_43 rfl ?_
  refine qe_iaload c49_44 e11 e15 ?_
  refine qe_iconst (x := 1) c49_45 (by decide) ?_
  refine qe_isub c49_46 ?_
  refine qe_icmp_ne_T (t := 54) c49_47 rfl e16 ?_
  exact kk
theorem b49_50 {d : Nat} {q : Option Value × qH} {h : qH} {r0 : Nat} {x1 : Int32} {r2 : Nat} {x3 : Int32} {o4 : Option Value}   (kk : qE d 49 55 [some (.ref r0), some (.int x1), some (.ref r2), some (.int x3), o4] [.int 1] h q): qE d 49 50 [some (.ref r0), some (.int x1), some (.ref r2), some (.int x3), o4] [] h q := by
  refine qe_iconst (x := 1) c49_50 (by decide) ?_
  refine qe_goto (t := 55) c49_51 rfl ?_
  exact kk
theorem b49_54 {d : Nat} {q : Option Value × qH} {h : qH} {r0 : Nat} {x1 : Int32} {r2 : Nat} {x3 : Int32} {o4 : Option Value}   (kk : qE d 49 55 [some (.ref r0), some (.int x1), some (.ref r2), some (.int x3), o4] [.int 0] h q): qE d 49 54 [some (.ref r0), some (.int x1), some (.ref r2), some (.int x3), o4] [] h q := by
  refine qe_iconst (x := 0) c49_54 (by decide) ?_
  exact kk
theorem b49_55F {d : Nat} {q : Option Value × qH} {h : qH} {r0 : Nat} {x1 : Int32} {r2 : Nat} {x3 : Int32} {o4 : Option Value} {xs0 : Int32}  (e1 : ¬ ((xs0 : Int32) = 0)) (kk : qE d 49 62 [some (.ref r0), some (.int x1), some (.ref r2), some (.int x3), some (.int xs0)] [] h q): qE d 49 55 [some (.ref r0), some (.int x1), some (.ref r2), some (.int x3), o4] [.int xs0] h q := by
  refine qe_istore (ls2 := [some (.ref r0), some (.int x1), some (.ref r2), some (.int x3), some (.int xs0)]) c49_55 (Nat.le_of_ble_eq_true rfl) rfl ?_
  refine qe_iload c49_57 rfl ?_
  refine qe_if_eq_F (t := 86) c49_59 rfl e1 ?_
  exact kk
theorem b49_55T {d : Nat} {q : Option Value × qH} {h : qH} {r0 : Nat} {x1 : Int32} {r2 : Nat} {x3 : Int32} {o4 : Option Value} {xs0 : Int32}  (e1 : (xs0 : Int32) = 0) (kk : qE d 49 86 [some (.ref r0), some (.int x1), some (.ref r2), some (.int x3), some (.int xs0)] [] h q): qE d 49 55 [some (.ref r0), some (.int x1), some (.ref r2), some (.int x3), o4] [.int xs0] h q := by
  refine qe_istore (ls2 := [some (.ref r0), some (.int x1), some (.ref r2), some (.int x3), some (.int xs0)]) c49_55 (Nat.le_of_ble_eq_true rfl) rfl ?_
  refine qe_iload c49_57 rfl ?_
  refine qe_if_eq_T (t := 86) c49_59 rfl e1 ?_
  exact kk
theorem b49_62F {d : Nat} {q : Option Value × qH} {h : qH} {r0 : Nat} {x1 : Int32} {r2 : Nat} {x3 : Int32} {x4 : Int32} {fs1 : List Value} {y3 : Nat} {fs5 : List Value} {y7 : Nat} {n9 : Nat} {f10 : Nat → Int32}  (e2 : h.2.2 r0 = some (.inr (11, fs1))) (e4 : fs1[7]? = some (.ref y3)) (e6 : h.2.2 y3 = some (.inr (3, fs5))) (e8 : fs5[1]? = some (.ref y7)) (e11 : h.2.2 y7 = some (.inl (0, n9, .inl f10))) (e12 : 0 ≤ (x3 : Int32).toInt ∧ (x3 : Int32).toInt < (n9 : Nat)) (e13 : ¬ (((f10 (x3 : Int32).toNatClampNeg) : Int32) = 0)) (kk : qE d 49 74 [some (.ref r0), some (.int x1), some (.ref r2), some (.int x3), some (.int x4)] [] h q): qE d 49 62 [some (.ref r0), some (.int x1), some (.ref r2), some (.int x3), some (.int x4)] [] h q := by
  refine qe_aload_n c49_62 rfl ?_
  refine qe_getfield c49_63 qo49 qF11_55 e2 e4 ?_
  refine qe_getfield c49_66 qo49 qF11_245 e6 e8 ?_
  refine qe_iload_n c49_69 rfl ?_
  refine qe_iaload c49_70 e11 e12 ?_
  refine qe_if_eq_F (t := 86) c49_71 rfl e13 ?_
  exact kk
theorem b49_62T {d : Nat} {q : Option Value × qH} {h : qH} {r0 : Nat} {x1 : Int32} {r2 : Nat} {x3 : Int32} {x4 : Int32} {fs1 : List Value} {y3 : Nat} {fs5 : List Value} {y7 : Nat} {n9 : Nat} {f10 : Nat → Int32}  (e2 : h.2.2 r0 = some (.inr (11, fs1))) (e4 : fs1[7]? = some (.ref y3)) (e6 : h.2.2 y3 = some (.inr (3, fs5))) (e8 : fs5[1]? = some (.ref y7)) (e11 : h.2.2 y7 = some (.inl (0, n9, .inl f10))) (e12 : 0 ≤ (x3 : Int32).toInt ∧ (x3 : Int32).toInt < (n9 : Nat)) (e13 : ((f10 (x3 : Int32).toNatClampNeg) : Int32) = 0) (kk : qE d 49 86 [some (.ref r0), some (.int x1), some (.ref r2), some (.int x3), some (.int x4)] [] h q): qE d 49 62 [some (.ref r0), some (.int x1), some (.ref r2), some (.int x3), some (.int x4)] [] h q := by
  refine qe_aload_n c49_62 rfl ?_
  refine qe_getfield c49_63 qo49 qF11_55 e2 e4 ?_
  refine qe_getfield c49_66 qo49 qF11_245 e6 e8 ?_
  refine qe_iload_n c49_69 rfl ?_
  refine qe_iaload c49_70 e11 e12 ?_
  refine qe_if_eq_T (t := 86) c49_71 rfl e13 ?_
  exact kk
theorem b49_74F {d : Nat} {q : Option Value × qH} {h : qH} {r0 : Nat} {x1 : Int32} {r2 : Nat} {x3 : Int32} {x4 : Int32} {fs1 : List Value} {h1 : qH} {z3 : Int32}  (e2 : h.2.2 r0 = some (.inr (11, fs1))) (e4 : qCall d 37 [.ref r0, .int x3, .int x1, .ref r2] h ((some (.int z3)), h1)) (e5 : (z3 : Int32) = 0) (kk : qE d 49 84 [some (.ref r0), some (.int x1), some (.ref r2), some (.int x3), some (.int x4)] [] h1 q): qE d 49 74 [some (.ref r0), some (.int x1), some (.ref r2), some (.int x3), some (.int x4)] [] h q := by
  refine qe_aload_n c49_74 rfl ?_
  refine qe_iload_n c49_75 rfl ?_
  refine qe_iload_n c49_76 rfl ?_
  refine qe_aload_n c49_77 rfl ?_
  refine qe_virtual (b := r0) (as := [.int x3, .int x1, .ref r2]) (r := []) (v := (some (.int z3))) (h2 := h1) c49_78 qo49 qK11_359 rfl rfl rfl (by rw [qo37]; exact e2) (Nat.le_of_ble_eq_true rfl) e4 ?_
  refine qe_if_ne_F (t := 86) c49_81 rfl e5 ?_
  exact kk
theorem b49_74T {d : Nat} {q : Option Value × qH} {h : qH} {r0 : Nat} {x1 : Int32} {r2 : Nat} {x3 : Int32} {x4 : Int32} {fs1 : List Value} {h1 : qH} {z3 : Int32}  (e2 : h.2.2 r0 = some (.inr (11, fs1))) (e4 : qCall d 37 [.ref r0, .int x3, .int x1, .ref r2] h ((some (.int z3)), h1)) (e5 : ¬ ((z3 : Int32) = 0)) (kk : qE d 49 86 [some (.ref r0), some (.int x1), some (.ref r2), some (.int x3), some (.int x4)] [] h1 q): qE d 49 74 [some (.ref r0), some (.int x1), some (.ref r2), some (.int x3), some (.int x4)] [] h q := by
  refine qe_aload_n c49_74 rfl ?_
  refine qe_iload_n c49_75 rfl ?_
  refine qe_iload_n c49_76 rfl ?_
  refine qe_aload_n c49_77 rfl ?_
  refine qe_virtual (b := r0) (as := [.int x3, .int x1, .ref r2]) (r := []) (v := (some (.int z3))) (h2 := h1) c49_78 qo49 qK11_359 rfl rfl rfl (by rw [qo37]; exact e2) (Nat.le_of_ble_eq_true rfl) e4 ?_
  refine qe_if_ne_T (t := 86) c49_81 rfl e5 ?_
  exact kk
theorem b49_84 {d : Nat} {h : qH} {r0 : Nat} {x1 : Int32} {r2 : Nat} {x3 : Int32} {x4 : Int32}   : qE d 49 84 [some (.ref r0), some (.int x1), some (.ref r2), some (.int x3), some (.int x4)] [] h (some (.int x3), h) := by
  refine qe_iload_n c49_84 rfl ?_
  exact qe_iret c49_85 qr49
theorem b49_86 {d : Nat} {q : Option Value × qH} {h : qH} {r0 : Nat} {x1 : Int32} {r2 : Nat} {x3 : Int32} {x4 : Int32}   (kk : qE d 49 22 [some (.ref r0), some (.int x1), some (.ref r2), some (.int (x3 + 1)), some (.int x4)] [] h q): qE d 49 86 [some (.ref r0), some (.int x1), some (.ref r2), some (.int x3), some (.int x4)] [] h q := by
  refine qe_iinc (y := (x3 + 1)) (ls2 := [some (.ref r0), some (.int x1), some (.ref r2), some (.int (x3 + 1)), some (.int x4)]) c49_86 rfl (Nat.le_of_ble_eq_true rfl) rfl rfl ?_
  refine qe_goto (t := 22) c49_89 rfl ?_
  exact kk
theorem b49_92 {d : Nat} {h : qH} {r0 : Nat} {x1 : Int32} {r2 : Nat} {x3 : Int32} {o4 : Option Value}   : qE d 49 92 [some (.ref r0), some (.int x1), some (.ref r2), some (.int x3), o4] [] h (some (.int (-1)), h) := by
  refine qe_iconst (x := (-1)) c49_92 (by decide) ?_
  exact qe_iret c49_93 qr49
theorem b50_0F {d : Nat} {q : Option Value × qH} {h : qH} {r0 : Nat} {x1 : Int32} {fs1 : List Value} {y3 : Nat} {fs5 : List Value} {h1 : qH} {z7 : Int32}  (e2 : h.2.2 r0 = some (.inr (11, fs1))) (e4 : fs1[0]? = some (.ref y3)) (e6 : h.2.2 y3 = some (.inr (4, fs5))) (e8 : qCall d 215 [.ref y3, .int x1] h ((some (.int z7)), h1)) (e9 : (z7 : Int32) = 0) (kk : qE d 50 11 [some (.ref r0), some (.int x1)] [] h1 q): qE d 50 0 [some (.ref r0), some (.int x1)] [] h q := by
  refine qe_aload_n c50_0 rfl ?_
  refine qe_getfield c50_1 qo50 qF11_10 e2 e4 ?_
  refine qe_iload_n c50_4 rfl ?_
  refine qe_virtual (b := y3) (as := [.int x1]) (r := []) (v := (some (.int z7))) (h2 := h1) c50_5 qo50 qK11_140 rfl rfl rfl (by rw [qo215]; exact e6) (Nat.le_of_ble_eq_true rfl) e8 ?_
  refine qe_if_ne_F (t := 15) c50_8 rfl e9 ?_
  exact kk
theorem b50_0T {d : Nat} {q : Option Value × qH} {h : qH} {r0 : Nat} {x1 : Int32} {fs1 : List Value} {y3 : Nat} {fs5 : List Value} {h1 : qH} {z7 : Int32}  (e2 : h.2.2 r0 = some (.inr (11, fs1))) (e4 : fs1[0]? = some (.ref y3)) (e6 : h.2.2 y3 = some (.inr (4, fs5))) (e8 : qCall d 215 [.ref y3, .int x1] h ((some (.int z7)), h1)) (e9 : ¬ ((z7 : Int32) = 0)) (kk : qE d 50 15 [some (.ref r0), some (.int x1)] [] h1 q): qE d 50 0 [some (.ref r0), some (.int x1)] [] h q := by
  refine qe_aload_n c50_0 rfl ?_
  refine qe_getfield c50_1 qo50 qF11_10 e2 e4 ?_
  refine qe_iload_n c50_4 rfl ?_
  refine qe_virtual (b := y3) (as := [.int x1]) (r := []) (v := (some (.int z7))) (h2 := h1) c50_5 qo50 qK11_140 rfl rfl rfl (by rw [qo215]; exact e6) (Nat.le_of_ble_eq_true rfl) e8 ?_
  refine qe_if_ne_T (t := 15) c50_8 rfl e9 ?_
  exact kk
theorem b50_11 {d : Nat} {h : qH} {r0 : Nat} {x1 : Int32}   : qE d 50 11 [some (.ref r0), some (.int x1)] [] h (some (.long (-1000000000)), h) := by
  refine qe_ldc2_w (x := (-1000000000)) c50_11 qo50 qJ11_215 ?_
  exact qe_lret c50_14 qr50
theorem b50_15 {d : Nat} {h : qH} {r0 : Nat} {x1 : Int32} {fs1 : List Value} {y3 : Nat} {y5 : Nat} {y7 : Nat} {fs9 : List Value} {h1 : qH} {fs12 : List Value} {y14 : Nat} {fs16 : List Value} {y18 : Nat} {n20 : Nat} {f21 : Nat → Int64}  (e2 : h.2.2 r0 = some (.inr (11, fs1))) (e4 : fs1[4]? = some (.ref y3)) (e6 : fs1[0]? = some (.ref y5)) (e8 : fs1[1]? = some (.ref y7)) (e10 : h.2.2 y3 = some (.inr (7, fs9))) (e11 : qCall d 238 [.ref y3, .ref y5, .ref y7] h (none, h1)) (e13 : h1.2.2 r0 = some (.inr (11, fs12))) (e15 : fs12[4]? = some (.ref y14)) (e17 : h1.2.2 y14 = some (.inr (7, fs16))) (e19 : fs16[7]? = some (.ref y18)) (e22 : h1.2.2 y18 = some (.inl (2, n20, .inr (.inl f21)))) (e23 : 0 ≤ (x1 : Int32).toInt ∧ (x1 : Int32).toInt < (n20 : Nat)) : qE d 50 15 [some (.ref r0), some (.int x1)] [] h (some (.long (f21 (x1 : Int32).toNatClampNeg)), h1) := by
  refine qe_aload_n c50_15 rfl ?_
  refine qe_getfield c50_16 qo50 qF11_34 e2 e4 ?_
  refine qe_aload_n c50_19 rfl ?_
  refine qe_getfield c50_20 qo50 qF11_10 e2 e6 ?_
  refine qe_aload_n c50_23 rfl ?_
  refine qe_getfield c50_24 qo50 qF11_19 e2 e8 ?_
  refine qe_virtual (b := y3) (as := [.ref y5, .ref y7]) (r := []) (v := none) (h2 := h1) c50_27 qo50 qK11_217 rfl rfl rfl (by rw [qo238]; exact e10) (Nat.le_of_ble_eq_true rfl) e11 ?_
  refine qe_aload_n c50_30 rfl ?_
  refine qe_getfield c50_31 qo50 qF11_34 e13 e15 ?_
  refine qe_getfield c50_34 qo50 qF11_221 e17 e19 ?_
  refine qe_iload_n c50_37 rfl ?_
  refine qe_laload c50_38 e22 e23 ?_
  exact qe_lret c50_39 qr50
theorem b51_0F {d : Nat} {q : Option Value × qH} {h : qH} {r0 : Nat} {fs1 : List Value} {y3 : Nat} {fs5 : List Value} {y7 : Int32} {h1 : qH} {z9 : Int32}  (e2 : h.2.2 r0 = some (.inr (11, fs1))) (e4 : fs1[1]? = some (.ref y3)) (e6 : h.2.2 y3 = some (.inr (8, fs5))) (e8 : fs5[0]? = some (.int y7)) (e10 : qCall d 80 [.int y7, .int 0, .int 498] h ((some (.int z9)), h1)) (e11 : (z9 : Int32) = 0) (kk : qE d 51 19 [some (.ref r0), some (.int y7), none] [] h1 q): qE d 51 0 [some (.ref r0), none, none] [] h q := by
  refine qe_aload_n c51_0 rfl ?_
  refine qe_getfield c51_1 qo51 qF11_19 e2 e4 ?_
  refine qe_getfield c51_4 qo51 qF11_97 e6 e8 ?_
  refine qe_istore_n (ls2 := [some (.ref r0), some (.int y7), none]) c51_7 (Nat.le_of_ble_eq_true rfl) rfl ?_
  refine qe_iload_n c51_8 rfl ?_
  refine qe_iconst (x := 0) c51_9 (by decide) ?_
  refine qe_sipush (x := 498) c51_10 (by decide) ?_
  refine qe_static (as := [.int y7, .int 0, .int 498]) (r := []) (v := (some (.int z9))) (h2 := h1) c51_13 qo51 (by decide) qK11_108 rfl rfl rfl (Nat.le_of_ble_eq_true rfl) e10 ?_
  refine qe_if_ne_F (t := 21) c51_16 rfl e11 ?_
  exact kk
theorem b51_0T {d : Nat} {q : Option Value × qH} {h : qH} {r0 : Nat} {fs1 : List Value} {y3 : Nat} {fs5 : List Value} {y7 : Int32} {h1 : qH} {z9 : Int32}  (e2 : h.2.2 r0 = some (.inr (11, fs1))) (e4 : fs1[1]? = some (.ref y3)) (e6 : h.2.2 y3 = some (.inr (8, fs5))) (e8 : fs5[0]? = some (.int y7)) (e10 : qCall d 80 [.int y7, .int 0, .int 498] h ((some (.int z9)), h1)) (e11 : ¬ ((z9 : Int32) = 0)) (kk : qE d 51 21 [some (.ref r0), some (.int y7), none] [] h1 q): qE d 51 0 [some (.ref r0), none, none] [] h q := by
  refine qe_aload_n c51_0 rfl ?_
  refine qe_getfield c51_1 qo51 qF11_19 e2 e4 ?_
  refine qe_getfield c51_4 qo51 qF11_97 e6 e8 ?_
  refine qe_istore_n (ls2 := [some (.ref r0), some (.int y7), none]) c51_7 (Nat.le_of_ble_eq_true rfl) rfl ?_
  refine qe_iload_n c51_8 rfl ?_
  refine qe_iconst (x := 0) c51_9 (by decide) ?_
  refine qe_sipush (x := 498) c51_10 (by decide) ?_
  refine qe_static (as := [.int y7, .int 0, .int 498]) (r := []) (v := (some (.int z9))) (h2 := h1) c51_13 qo51 (by decide) qK11_108 rfl rfl rfl (Nat.le_of_ble_eq_true rfl) e10 ?_
  refine qe_if_ne_T (t := 21) c51_16 rfl e11 ?_
  exact kk
theorem b51_19 {d : Nat} {h : qH} {r0 : Nat} {x1 : Int32}   : qE d 51 19 [some (.ref r0), some (.int x1), none] [] h (some (.int (-1)), h) := by
  refine qe_iconst (x := (-1)) c51_19 (by decide) ?_
  exact qe_iret c51_20 qr51
theorem b51_21 {d : Nat} {h : qH} {r0 : Nat} {x1 : Int32} {h1 : qH} {h2 : qH} {fs3 : List Value} {y5 : Nat} {fs7 : List Value} {h3 : qH} {fs10 : List Value} {y12 : Nat} {fs14 : List Value} {n16 : Nat} {f17 : Nat → Option Nat} {h4 : qH} {fs21 : List Value} {y23 : Nat} {y25 : Nat} {y27 : Nat} {fs29 : List Value} {h5 : qH} {z31 : Int32} {n33 : Nat} {f34 : Nat → Int32} {h6 : qH} {fs38 : List Value} {y40 : Nat} {fs42 : List Value} {h7 : qH} {fs45 : List Value} {y47 : Nat} {y49 : Nat} {fs51 : List Value} {h8 : qH} {fs54 : List Value} {y56 : Nat} {y58 : Nat} {y60 : Nat} {fs62 : List Value} {y64 : Nat} {fs66 : List Value} {h9 : qH} {fs69 : List Value} {y71 : Nat} {y73 : Nat} {fs75 : List Value} {y77 : Nat} {fs79 : List Value} {h10 : qH} {fs82 : List Value} {y84 : Nat} {y86 : Nat} {fs88 : List Value} {h11 : qH} {fs91 : List Value} {y93 : Nat} {fs95 : List Value} {y97 : Int32}  (e1 : qnew h 8 (.inr (8, [.int 0, .int 0, .int 0, .int 0, .null, .null, .null, .null])) = h1) (e2 : qCall d 242 [.ref h.1] h1 (none, h2)) (e4 : h2.2.2 r0 = some (.inr (11, fs3))) (e6 : fs3[1]? = some (.ref y5)) (e8 : h2.2.2 h.1 = some (.inr (8, fs7))) (e9 : qCall d 241 [.ref h.1, .ref y5] h2 (none, h3)) (e11 : h3.2.2 r0 = some (.inr (11, fs10))) (e13 : fs10[2]? = some (.ref y12)) (e15 : h3.2.2 h.1 = some (.inr (8, fs14))) (e18 : h3.2.2 y12 = some (.inl (5, n16, .inr (.inr (.inr (.inr f17)))))) (e19 : 0 ≤ (x1 : Int32).toInt ∧ (x1 : Int32).toInt < (n16 : Nat)) (e20 : qset h3 y12 (.inl (5, n16, .inr (.inr (.inr (.inr (va_up f17 ((x1 : Int32).toNatClampNeg) (some h.1))))))) = h4) (e22 : h4.2.2 r0 = some (.inr (11, fs21))) (e24 : fs21[3]? = some (.ref y23)) (e26 : fs21[5]? = some (.ref y25)) (e28 : fs21[0]? = some (.ref y27)) (e30 : h4.2.2 y25 = some (.inr (0, fs29))) (e32 : qCall d 8 [.ref y25, .ref y27, .ref h.1] h4 ((some (.int z31)), h5)) (e35 : h5.2.2 y23 = some (.inl (0, n33, .inl f34))) (e36 : 0 ≤ (x1 : Int32).toInt ∧ (x1 : Int32).toInt < (n33 : Nat)) (e37 : qset h5 y23 (.inl (0, n33, .inl (upd f34 ((x1 : Int32).toNatClampNeg) z31))) = h6) (e39 : h6.2.2 r0 = some (.inr (11, fs38))) (e41 : fs38[6]? = some (.ref y40)) (e43 : h6.2.2 y40 = some (.inr (5, fs42))) (e44 : qCall d 219 [.ref y40, .ref h.1] h6 (none, h7)) (e46 : h7.2.2 r0 = some (.inr (11, fs45))) (e48 : fs45[6]? = some (.ref y47)) (e50 : fs45[0]? = some (.ref y49)) (e52 : h7.2.2 y47 = some (.inr (5, fs51))) (e53 : qCall d 225 [.ref y47, .ref y49] h7 (none, h8)) (e55 : h8.2.2 r0 = some (.inr (11, fs54))) (e57 : fs54[8]? = some (.ref y56)) (e59 : fs54[0]? = some (.ref y58)) (e61 : fs54[6]? = some (.ref y60)) (e63 : h8.2.2 y60 = some (.inr (5, fs62))) (e65 : fs62[1]? = some (.ref y64)) (e67 : h8.2.2 y56 = some (.inr (6, fs66))) (e68 : qCall d 232 [.ref y56, .ref y58, .ref h.1, .ref y64] h8 (none, h9)) (e70 : h9.2.2 r0 = some (.inr (11, fs69))) (e72 : fs69[1]? = some (.ref y71)) (e74 : fs69[6]? = some (.ref y73)) (e76 : h9.2.2 y73 = some (.inr (5, fs75))) (e78 : fs75[0]? = some (.ref y77)) (e80 : h9.2.2 y71 = some (.inr (8, fs79))) (e81 : qCall d 241 [.ref y71, .ref y77] h9 (none, h10)) (e83 : h10.2.2 r0 = some (.inr (11, fs82))) (e85 : fs82[7]? = some (.ref y84)) (e87 : fs82[6]? = some (.ref y86)) (e89 : h10.2.2 y84 = some (.inr (3, fs88))) (e90 : qCall d 208 [.ref y84, .ref y86, .int x1] h10 (none, h11)) (e92 : h11.2.2 r0 = some (.inr (11, fs91))) (e94 : fs91[6]? = some (.ref y93)) (e96 : h11.2.2 y93 = some (.inr (5, fs95))) (e98 : fs95[2]? = some (.int y97)) : qE d 51 21 [some (.ref r0), some (.int x1), none] [] h (some (.int y97), h11) := by
  refine qe_new (fs := [.int 0, .int 0, .int 0, .int 0, .null, .null, .null, .null]) (N := 8) c51_21 qo51 qN11_16 (by decide +kernel) (by decide +kernel) ?_
  rw [e1]
  refine qe_dup c51_24 rfl ?_
  refine qe_special (b := h.1) (as := []) (r := [.ref h.1]) (v := none) (h2 := h2) c51_25 qo51 (by decide +kernel) qK11_18 rfl ⟨rfl, Or.inr rfl⟩ rfl (Nat.le_of_ble_eq_true rfl) e2 ?_
  refine qe_astore_n (ls2 := [some (.ref r0), some (.int x1), some (.ref h.1)]) c51_28 (Nat.le_of_ble_eq_true rfl) rfl ?_
  refine qe_aload_n c51_29 rfl ?_
  refine qe_aload_n c51_30 rfl ?_
  refine qe_getfield c51_31 qo51 qF11_19 e4 e6 ?_
  refine qe_virtual (b := h.1) (as := [.ref y5]) (r := []) (v := none) (h2 := h3) c51_34 qo51 qK11_185 rfl rfl rfl (by rw [qo241]; exact e8) (Nat.le_of_ble_eq_true rfl) e9 ?_
  refine qe_aload_n c51_37 rfl ?_
  refine qe_getfield c51_38 qo51 qF11_23 e11 e13 ?_
  refine qe_iload_n c51_41 rfl ?_
  refine qe_aload_n c51_42 rfl ?_
  refine qe_aastore c51_43 e15 e18 e19 ?_
  rw [e20]
  refine qe_aload_n c51_44 rfl ?_
  refine qe_getfield c51_45 qo51 qF11_27 e22 e24 ?_
  refine qe_iload_n c51_48 rfl ?_
  refine qe_aload_n c51_49 rfl ?_
  refine qe_getfield c51_50 qo51 qF11_41 e22 e26 ?_
  refine qe_aload_n c51_53 rfl ?_
  refine qe_getfield c51_54 qo51 qF11_10 e22 e28 ?_
  refine qe_aload_n c51_57 rfl ?_
  refine qe_virtual (b := y25) (as := [.ref y27, .ref h.1]) (r := [.int x1, .ref y23]) (v := (some (.int z31))) (h2 := h5) c51_58 qo51 qK11_189 rfl rfl rfl (by rw [qo8]; exact e30) (Nat.le_of_ble_eq_true rfl) e32 ?_
  refine qe_iastore c51_61 e35 e36 ?_
  rw [e37]
  refine qe_aload_n c51_62 rfl ?_
  refine qe_getfield c51_63 qo51 qF11_48 e39 e41 ?_
  refine qe_aload_n c51_66 rfl ?_
  refine qe_virtual (b := y40) (as := [.ref h.1]) (r := []) (v := none) (h2 := h7) c51_67 qo51 qK11_193 rfl rfl rfl (by rw [qo219]; exact e43) (Nat.le_of_ble_eq_true rfl) e44 ?_
  refine qe_aload_n c51_70 rfl ?_
  refine qe_getfield c51_71 qo51 qF11_48 e46 e48 ?_
  refine qe_aload_n c51_74 rfl ?_
  refine qe_getfield c51_75 qo51 qF11_10 e46 e50 ?_
  refine qe_virtual (b := y47) (as := [.ref y49]) (r := []) (v := none) (h2 := h8) c51_78 qo51 qK11_196 rfl rfl rfl (by rw [qo225]; exact e52) (Nat.le_of_ble_eq_true rfl) e53 ?_
  refine qe_aload_n c51_81 rfl ?_
  refine qe_getfield c51_82 qo51 qF11_62 e55 e57 ?_
  refine qe_aload_n c51_85 rfl ?_
  refine qe_getfield c51_86 qo51 qF11_10 e55 e59 ?_
  refine qe_aload_n c51_89 rfl ?_
  refine qe_aload_n c51_90 rfl ?_
  refine qe_getfield c51_91 qo51 qF11_48 e55 e61 ?_
  refine qe_getfield c51_94 qo51 qF11_200 e63 e65 ?_
  refine qe_virtual (b := y56) (as := [.ref y58, .ref h.1, .ref y64]) (r := []) (v := none) (h2 := h9) c51_97 qo51 qK11_201 rfl rfl rfl (by rw [qo232]; exact e67) (Nat.le_of_ble_eq_true rfl) e68 ?_
  refine qe_aload_n c51_100 rfl ?_
  refine qe_getfield c51_101 qo51 qF11_19 e70 e72 ?_
  refine qe_aload_n c51_104 rfl ?_
  refine qe_getfield c51_105 qo51 qF11_48 e70 e74 ?_
  refine qe_getfield c51_108 qo51 qF11_205 e76 e78 ?_
  refine qe_virtual (b := y71) (as := [.ref y77]) (r := []) (v := none) (h2 := h10) c51_111 qo51 qK11_185 rfl rfl rfl (by rw [qo241]; exact e80) (Nat.le_of_ble_eq_true rfl) e81 ?_
  refine qe_aload_n c51_114 rfl ?_
  refine qe_getfield c51_115 qo51 qF11_55 e83 e85 ?_
  refine qe_aload_n c51_118 rfl ?_
  refine qe_getfield c51_119 qo51 qF11_48 e83 e87 ?_
  refine qe_iload_n c51_122 rfl ?_
  refine qe_virtual (b := y84) (as := [.ref y86, .int x1]) (r := []) (v := none) (h2 := h11) c51_123 qo51 qK11_208 rfl rfl rfl (by rw [qo208]; exact e89) (Nat.le_of_ble_eq_true rfl) e90 ?_
  refine qe_aload_n c51_126 rfl ?_
  refine qe_getfield c51_127 qo51 qF11_48 e92 e94 ?_
  refine qe_getfield c51_130 qo51 qF11_212 e96 e98 ?_
  exact qe_iret c51_133 qr51
theorem b52_0F {d : Nat} {q : Option Value × qH} {h : qH} {r0 : Nat} {x1 : Int32}  (e1 : ¬ ((x1 : Int32) < 0)) (kk : qE d 52 4 [some (.ref r0), some (.int x1)] [] h q): qE d 52 0 [some (.ref r0), some (.int x1)] [] h q := by
  refine qe_iload_n c52_0 rfl ?_
  refine qe_if_lt_F (t := 26) c52_1 rfl e1 ?_
  exact kk
theorem b52_0T {d : Nat} {q : Option Value × qH} {h : qH} {r0 : Nat} {x1 : Int32}  (e1 : (x1 : Int32) < 0) (kk : qE d 52 26 [some (.ref r0), some (.int x1)] [] h q): qE d 52 0 [some (.ref r0), some (.int x1)] [] h q := by
  refine qe_iload_n c52_0 rfl ?_
  refine qe_if_lt_T (t := 26) c52_1 rfl e1 ?_
  exact kk
theorem b52_4F {d : Nat} {q : Option Value × qH} {h : qH} {r0 : Nat} {x1 : Int32} {fs1 : List Value} {y3 : Nat} {fs5 : List Value} {y7 : Int32}  (e2 : h.2.2 r0 = some (.inr (11, fs1))) (e4 : fs1[1]? = some (.ref y3)) (e6 : h.2.2 y3 = some (.inr (8, fs5))) (e8 : fs5[0]? = some (.int y7)) (e9 : ¬ ((y7 : Int32) ≤ x1)) (kk : qE d 52 15 [some (.ref r0), some (.int x1)] [] h q): qE d 52 4 [some (.ref r0), some (.int x1)] [] h q := by
  refine qe_iload_n c52_4 rfl ?_
  refine qe_aload_n c52_5 rfl ?_
  refine qe_getfield c52_6 qo52 qF11_19 e2 e4 ?_
  refine qe_getfield c52_9 qo52 qF11_97 e6 e8 ?_
  refine qe_icmp_ge_F (t := 26) c52_12 rfl e9 ?_
  exact kk
theorem b52_4T {d : Nat} {q : Option Value × qH} {h : qH} {r0 : Nat} {x1 : Int32} {fs1 : List Value} {y3 : Nat} {fs5 : List Value} {y7 : Int32}  (e2 : h.2.2 r0 = some (.inr (11, fs1))) (e4 : fs1[1]? = some (.ref y3)) (e6 : h.2.2 y3 = some (.inr (8, fs5))) (e8 : fs5[0]? = some (.int y7)) (e9 : (y7 : Int32) ≤ x1) (kk : qE d 52 26 [some (.ref r0), some (.int x1)] [] h q): qE d 52 4 [some (.ref r0), some (.int x1)] [] h q := by
  refine qe_iload_n c52_4 rfl ?_
  refine qe_aload_n c52_5 rfl ?_
  refine qe_getfield c52_6 qo52 qF11_19 e2 e4 ?_
  refine qe_getfield c52_9 qo52 qF11_97 e6 e8 ?_
  refine qe_icmp_ge_T (t := 26) c52_12 rfl e9 ?_
  exact kk
theorem b52_15F {d : Nat} {q : Option Value × qH} {h : qH} {r0 : Nat} {x1 : Int32}  (e1 : ¬ ((499 : Int32) ≤ x1)) (kk : qE d 52 22 [some (.ref r0), some (.int x1)] [] h q): qE d 52 15 [some (.ref r0), some (.int x1)] [] h q := by
  refine qe_iload_n c52_15 rfl ?_
  refine qe_sipush (x := 499) c52_16 (by decide) ?_
  refine qe_icmp_ge_F (t := 26) c52_19 rfl e1 ?_
  exact kk
theorem b52_15T {d : Nat} {q : Option Value × qH} {h : qH} {r0 : Nat} {x1 : Int32}  (e1 : (499 : Int32) ≤ x1) (kk : qE d 52 26 [some (.ref r0), some (.int x1)] [] h q): qE d 52 15 [some (.ref r0), some (.int x1)] [] h q := by
  refine qe_iload_n c52_15 rfl ?_
  refine qe_sipush (x := 499) c52_16 (by decide) ?_
  refine qe_icmp_ge_T (t := 26) c52_19 rfl e1 ?_
  exact kk
theorem b52_22 {d : Nat} {q : Option Value × qH} {h : qH} {r0 : Nat} {x1 : Int32}   (kk : qE d 52 27 [some (.ref r0), some (.int x1)] [.int 1] h q): qE d 52 22 [some (.ref r0), some (.int x1)] [] h q := by
  refine qe_iconst (x := 1) c52_22 (by decide) ?_
  refine qe_goto (t := 27) c52_23 rfl ?_
  exact kk
theorem b52_26 {d : Nat} {q : Option Value × qH} {h : qH} {r0 : Nat} {x1 : Int32}   (kk : qE d 52 27 [some (.ref r0), some (.int x1)] [.int 0] h q): qE d 52 26 [some (.ref r0), some (.int x1)] [] h q := by
  refine qe_iconst (x := 0) c52_26 (by decide) ?_
  exact kk
theorem b52_27 {d : Nat} {h : qH} {r0 : Nat} {x1 : Int32} {xs0 : Int32}  (e1 : (xs0 : Int32) = 0 ∨ (xs0 : Int32) = 1) : qE d 52 27 [some (.ref r0), some (.int x1)] [.int xs0] h (some (.int xs0), h) := by
  exact qe_zret c52_27 qr52 e1
theorem b53_0F {d : Nat} {q : Option Value × qH} {h : qH} {r0 : Nat} {x1 : Int32} {x2 : Int32} {x3 : Int32} {fs1 : List Value} {h1 : qH} {z3 : Int32}  (e2 : h.2.2 r0 = some (.inr (11, fs1))) (e4 : qCall d 57 [.ref r0, .int x2] h ((some (.int z3)), h1)) (e5 : ¬ ((z3 : Int32) = 0)) (kk : qE d 53 8 [some (.ref r0), some (.int x1), some (.int x2), some (.int x3), none] [] h1 q): qE d 53 0 [some (.ref r0), some (.int x1), some (.int x2), some (.int x3), none] [] h q := by
  refine qe_aload_n c53_0 rfl ?_
  refine qe_iload_n c53_1 rfl ?_
  refine qe_virtual (b := r0) (as := [.int x2]) (r := []) (v := (some (.int z3))) (h2 := h1) c53_2 qo53 qK11_282 rfl rfl rfl (by rw [qo57]; exact e2) (Nat.le_of_ble_eq_true rfl) e4 ?_
  refine qe_if_eq_F (t := 18) c53_5 rfl e5 ?_
  exact kk
theorem b53_0T {d : Nat} {q : Option Value × qH} {h : qH} {r0 : Nat} {x1 : Int32} {x2 : Int32} {x3 : Int32} {fs1 : List Value} {h1 : qH} {z3 : Int32}  (e2 : h.2.2 r0 = some (.inr (11, fs1))) (e4 : qCall d 57 [.ref r0, .int x2] h ((some (.int z3)), h1)) (e5 : (z3 : Int32) = 0) (kk : qE d 53 18 [some (.ref r0), some (.int x1), some (.int x2), some (.int x3), none] [] h1 q): qE d 53 0 [some (.ref r0), some (.int x1), some (.int x2), some (.int x3), none] [] h q := by
  refine qe_aload_n c53_0 rfl ?_
  refine qe_iload_n c53_1 rfl ?_
  refine qe_virtual (b := r0) (as := [.int x2]) (r := []) (v := (some (.int z3))) (h2 := h1) c53_2 qo53 qK11_282 rfl rfl rfl (by rw [qo57]; exact e2) (Nat.le_of_ble_eq_true rfl) e4 ?_
  refine qe_if_eq_T (t := 18) c53_5 rfl e5 ?_
  exact kk
theorem b53_8F {d : Nat} {q : Option Value × qH} {h : qH} {r0 : Nat} {x1 : Int32} {x2 : Int32} {x3 : Int32} {h1 : qH} {z1 : Int32}  (e2 : qCall d 80 [.int x3, .int 1, .int 30] h ((some (.int z1)), h1)) (e3 : (z1 : Int32) = 0) (kk : qE d 53 18 [some (.ref r0), some (.int x1), some (.int x2), some (.int x3), none] [] h1 q): qE d 53 8 [some (.ref r0), some (.int x1), some (.int x2), some (.int x3), none] [] h q := by
  refine qe_iload_n c53_8 rfl ?_
  refine qe_iconst (x := 1) c53_9 (by decide) ?_
  refine qe_bipush (x := 30) c53_10 (by decide) ?_
  refine qe_static (as := [.int x3, .int 1, .int 30]) (r := []) (v := (some (.int z1))) (h2 := h1) c53_12 qo53 (by decide) qK11_108 rfl rfl rfl (Nat.le_of_ble_eq_true rfl) e2 ?_
  refine qe_if_ne_F (t := 20) c53_15 rfl e3 ?_
  exact kk
theorem b53_8T {d : Nat} {q : Option Value × qH} {h : qH} {r0 : Nat} {x1 : Int32} {x2 : Int32} {x3 : Int32} {h1 : qH} {z1 : Int32}  (e2 : qCall d 80 [.int x3, .int 1, .int 30] h ((some (.int z1)), h1)) (e3 : ¬ ((z1 : Int32) = 0)) (kk : qE d 53 20 [some (.ref r0), some (.int x1), some (.int x2), some (.int x3), none] [] h1 q): qE d 53 8 [some (.ref r0), some (.int x1), some (.int x2), some (.int x3), none] [] h q := by
  refine qe_iload_n c53_8 rfl ?_
  refine qe_iconst (x := 1) c53_9 (by decide) ?_
  refine qe_bipush (x := 30) c53_10 (by decide) ?_
  refine qe_static (as := [.int x3, .int 1, .int 30]) (r := []) (v := (some (.int z1))) (h2 := h1) c53_12 qo53 (by decide) qK11_108 rfl rfl rfl (Nat.le_of_ble_eq_true rfl) e2 ?_
  refine qe_if_ne_T (t := 20) c53_15 rfl e3 ?_
  exact kk
theorem b53_18 {d : Nat} {h : qH} {r0 : Nat} {x1 : Int32} {x2 : Int32} {x3 : Int32}   : qE d 53 18 [some (.ref r0), some (.int x1), some (.int x2), some (.int x3), none] [] h (some (.int (-1)), h) := by
  refine qe_iconst (x := (-1)) c53_18 (by decide) ?_
  exact qe_iret c53_19 qr53
theorem b53_20n {d : Nat} {q : Option Value × qH} {h : qH} {r0 : Nat} {x1 : Int32} {x2 : Int32} {x3 : Int32} {fs1 : List Value} {h1 : qH}  (e2 : h.2.2 r0 = some (.inr (11, fs1))) (e3 : qCall d 73 [.ref r0, .int x1] h ((some .null), h1)) (kk : qE d 53 32 [some (.ref r0), some (.int x1), some (.int x2), some (.int x3), some (.null)] [] h1 q): qE d 53 20 [some (.ref r0), some (.int x1), some (.int x2), some (.int x3), none] [] h q := by
  refine qe_aload_n c53_20 rfl ?_
  refine qe_iload_n c53_21 rfl ?_
  refine qe_virtual (b := r0) (as := [.int x1]) (r := []) (v := (some .null)) (h2 := h1) c53_22 qo53 qK11_285 rfl rfl rfl (by rw [qo73]; exact e2) (Nat.le_of_ble_eq_true rfl) e3 ?_
  refine qe_astoreN (ls2 := [some (.ref r0), some (.int x1), some (.int x2), some (.int x3), some (.null)]) c53_25 (Nat.le_of_ble_eq_true rfl) rfl ?_
  refine qe_aloadN c53_27 rfl ?_
  refine qe_ifnonnull_F c53_29 ?_
  exact kk
theorem b53_20r {d : Nat} {q : Option Value × qH} {h : qH} {r0 : Nat} {x1 : Int32} {x2 : Int32} {x3 : Int32} {fs1 : List Value} {h1 : qH} {z3 : Nat}  (e2 : h.2.2 r0 = some (.inr (11, fs1))) (e4 : qCall d 73 [.ref r0, .int x1] h ((some (.ref z3)), h1)) (kk : qE d 53 34 [some (.ref r0), some (.int x1), some (.int x2), some (.int x3), some (.ref z3)] [] h1 q): qE d 53 20 [some (.ref r0), some (.int x1), some (.int x2), some (.int x3), none] [] h q := by
  refine qe_aload_n c53_20 rfl ?_
  refine qe_iload_n c53_21 rfl ?_
  refine qe_virtual (b := r0) (as := [.int x1]) (r := []) (v := (some (.ref z3))) (h2 := h1) c53_22 qo53 qK11_285 rfl rfl rfl (by rw [qo73]; exact e2) (Nat.le_of_ble_eq_true rfl) e4 ?_
  refine qe_astore (ls2 := [some (.ref r0), some (.int x1), some (.int x2), some (.int x3), some (.ref z3)]) c53_25 (Nat.le_of_ble_eq_true rfl) rfl ?_
  refine qe_aload c53_27 rfl ?_
  refine qe_ifnonnull_T (t := 34) c53_29 rfl ?_
  exact kk
theorem b53_32n4 {d : Nat} {h : qH} {r0 : Nat} {x1 : Int32} {x2 : Int32} {x3 : Int32}   : qE d 53 32 [some (.ref r0), some (.int x1), some (.int x2), some (.int x3), some (.null)] [] h (some (.int (-1)), h) := by
  refine qe_iconst (x := (-1)) c53_32 (by decide) ?_
  exact qe_iret c53_33 qr53
theorem b53_34F {d : Nat} {q : Option Value × qH} {h : qH} {r0 : Nat} {x1 : Int32} {x2 : Int32} {x3 : Int32} {r4 : Nat} {fs1 : List Value} {h1 : qH} {z3 : Int32}  (e2 : h.2.2 r0 = some (.inr (11, fs1))) (e4 : qCall d 54 [.ref r0, .ref r4, .int x2, .int x3] h ((some (.int z3)), h1)) (e5 : ¬ ((z3 : Int32) = 0)) (kk : qE d 53 45 [some (.ref r0), some (.int x1), some (.int x2), some (.int x3), some (.ref r4)] [] h1 q): qE d 53 34 [some (.ref r0), some (.int x1), some (.int x2), some (.int x3), some (.ref r4)] [] h q := by
  refine qe_aload_n c53_34 rfl ?_
  refine qe_aload c53_35 rfl ?_
  refine qe_iload_n c53_37 rfl ?_
  refine qe_iload_n c53_38 rfl ?_
  refine qe_virtual (b := r0) (as := [.ref r4, .int x2, .int x3]) (r := []) (v := (some (.int z3))) (h2 := h1) c53_39 qo53 qK11_289 rfl rfl rfl (by rw [qo54]; exact e2) (Nat.le_of_ble_eq_true rfl) e4 ?_
  refine qe_if_eq_F (t := 49) c53_42 rfl e5 ?_
  exact kk
theorem b53_34T {d : Nat} {q : Option Value × qH} {h : qH} {r0 : Nat} {x1 : Int32} {x2 : Int32} {x3 : Int32} {r4 : Nat} {fs1 : List Value} {h1 : qH} {z3 : Int32}  (e2 : h.2.2 r0 = some (.inr (11, fs1))) (e4 : qCall d 54 [.ref r0, .ref r4, .int x2, .int x3] h ((some (.int z3)), h1)) (e5 : (z3 : Int32) = 0) (kk : qE d 53 49 [some (.ref r0), some (.int x1), some (.int x2), some (.int x3), some (.ref r4)] [] h1 q): qE d 53 34 [some (.ref r0), some (.int x1), some (.int x2), some (.int x3), some (.ref r4)] [] h q := by
  refine qe_aload_n c53_34 rfl ?_
  refine qe_aload c53_35 rfl ?_
  refine qe_iload_n c53_37 rfl ?_
  refine qe_iload_n c53_38 rfl ?_
  refine qe_virtual (b := r0) (as := [.ref r4, .int x2, .int x3]) (r := []) (v := (some (.int z3))) (h2 := h1) c53_39 qo53 qK11_289 rfl rfl rfl (by rw [qo54]; exact e2) (Nat.le_of_ble_eq_true rfl) e4 ?_
  refine qe_if_eq_T (t := 49) c53_42 rfl e5 ?_
  exact kk
theorem b53_45 {d : Nat} {q : Option Value × qH} {h : qH} {r0 : Nat} {x1 : Int32} {x2 : Int32} {x3 : Int32} {r4 : Nat}   (kk : qE d 53 50 [some (.ref r0), some (.int x1), some (.int x2), some (.int x3), some (.ref r4)] [.int 1] h q): qE d 53 45 [some (.ref r0), some (.int x1), some (.int x2), some (.int x3), some (.ref r4)] [] h q := by
  refine qe_iconst (x := 1) c53_45 (by decide) ?_
  refine qe_goto (t := 50) c53_46 rfl ?_
  exact kk
theorem b53_49 {d : Nat} {q : Option Value × qH} {h : qH} {r0 : Nat} {x1 : Int32} {x2 : Int32} {x3 : Int32} {r4 : Nat}   (kk : qE d 53 50 [some (.ref r0), some (.int x1), some (.int x2), some (.int x3), some (.ref r4)] [.int 0] h q): qE d 53 49 [some (.ref r0), some (.int x1), some (.int x2), some (.int x3), some (.ref r4)] [] h q := by
  refine qe_iconst (x := 0) c53_49 (by decide) ?_
  exact kk
theorem b53_50 {d : Nat} {h : qH} {r0 : Nat} {x1 : Int32} {x2 : Int32} {x3 : Int32} {r4 : Nat} {xs0 : Int32}   : qE d 53 50 [some (.ref r0), some (.int x1), some (.int x2), some (.int x3), some (.ref r4)] [.int xs0] h (some (.int xs0), h) := by
  exact qe_iret c53_50 qr53
theorem b54_0 {d : Nat} {q : Option Value × qH} {h : qH} {r0 : Nat} {r1 : Nat} {x2 : Int32} {x3 : Int32} {fs1 : List Value} {y3 : Nat} {fs5 : List Value} {h1 : qH} {fs8 : List Value} {y10 : Nat} {fs12 : List Value} {y14 : Nat} {fs16 : List Value} {y18 : Int32} {h2 : qH}  (e2 : h.2.2 r0 = some (.inr (11, fs1))) (e4 : fs1[6]? = some (.ref y3)) (e6 : h.2.2 y3 = some (.inr (5, fs5))) (e7 : qCall d 219 [.ref y3, .ref r1] h (none, h1)) (e9 : h1.2.2 r0 = some (.inr (11, fs8))) (e11 : fs8[6]? = some (.ref y10)) (e13 : h1.2.2 y10 = some (.inr (5, fs12))) (e15 : fs12[0]? = some (.ref y14)) (e17 : h1.2.2 y14 = some (.inr (8, fs16))) (e19 : fs16[1]? = some (.int y18)) (e20 : 1 < fs16.length) (e21 : qset h1 y14 (.inr (8, fs16.set 1 (.int (y18 ||| x2)))) = h2) (kk : qE d 54 27 [some (.ref r0), some (.ref r1), some (.int x2), some (.int x3), some (.int 0)] [] h2 q): qE d 54 0 [some (.ref r0), some (.ref r1), some (.int x2), some (.int x3), none] [] h q := by
  refine qe_aload_n c54_0 rfl ?_
  refine qe_getfield c54_1 qo54 qF11_48 e2 e4 ?_
  refine qe_aload_n c54_4 rfl ?_
  refine qe_virtual (b := y3) (as := [.ref r1]) (r := []) (v := none) (h2 := h1) c54_5 qo54 qK11_193 rfl rfl rfl (by rw [qo219]; exact e6) (Nat.le_of_ble_eq_true rfl) e7 ?_
  refine qe_aload_n c54_8 rfl ?_
  refine qe_getfield c54_9 qo54 qF11_48 e9 e11 ?_
  refine qe_getfield c54_12 qo54 qF11_205 e13 e15 ?_
  refine qe_dup c54_15 rfl ?_
  refine qe_getfield c54_16 qo54 qF11_161 e17 e19 ?_
  refine qe_iload_n c54_19 rfl ?_
  refine qe_ior c54_20 ?_
  refine qe_putfield c54_21 qo54 qF11_161 qz8_1 e17 e20 (by rw [qy8_1]; rfl) ?_
  rw [e21]
  refine qe_iconst (x := 0) c54_24 (by decide) ?_
  refine qe_istore (ls2 := [some (.ref r0), some (.ref r1), some (.int x2), some (.int x3), some (.int 0)]) c54_25 (Nat.le_of_ble_eq_true rfl) rfl ?_
  exact kk
theorem b54_27F {d : Nat} {q : Option Value × qH} {h : qH} {r0 : Nat} {r1 : Nat} {x2 : Int32} {x3 : Int32} {x4 : Int32}  (e1 : ¬ ((x3 : Int32) ≤ x4)) (kk : qE d 54 33 [some (.ref r0), some (.ref r1), some (.int x2), some (.int x3), some (.int x4)] [] h q): qE d 54 27 [some (.ref r0), some (.ref r1), some (.int x2), some (.int x3), some (.int x4)] [] h q := by
  refine qe_iload c54_27 rfl ?_
  refine qe_iload_n c54_29 rfl ?_
  refine qe_icmp_ge_F (t := 62) c54_30 rfl e1 ?_
  exact kk
theorem b54_27T {d : Nat} {q : Option Value × qH} {h : qH} {r0 : Nat} {r1 : Nat} {x2 : Int32} {x3 : Int32} {x4 : Int32}  (e1 : (x3 : Int32) ≤ x4) (kk : qE d 54 62 [some (.ref r0), some (.ref r1), some (.int x2), some (.int x3), some (.int x4)] [] h q): qE d 54 27 [some (.ref r0), some (.ref r1), some (.int x2), some (.int x3), some (.int x4)] [] h q := by
  refine qe_iload c54_27 rfl ?_
  refine qe_iload_n c54_29 rfl ?_
  refine qe_icmp_ge_T (t := 62) c54_30 rfl e1 ?_
  exact kk
theorem b54_33F {d : Nat} {q : Option Value × qH} {h : qH} {r0 : Nat} {r1 : Nat} {x2 : Int32} {x3 : Int32} {x4 : Int32} {fs1 : List Value} {y3 : Nat} {y5 : Nat} {fs7 : List Value} {h1 : qH} {fs10 : List Value} {y12 : Nat} {fs14 : List Value} {y16 : Int32}  (e2 : h.2.2 r0 = some (.inr (11, fs1))) (e4 : fs1[6]? = some (.ref y3)) (e6 : fs1[0]? = some (.ref y5)) (e8 : h.2.2 y3 = some (.inr (5, fs7))) (e9 : qCall d 225 [.ref y3, .ref y5] h (none, h1)) (e11 : h1.2.2 r0 = some (.inr (11, fs10))) (e13 : fs10[6]? = some (.ref y12)) (e15 : h1.2.2 y12 = some (.inr (5, fs14))) (e17 : fs14[2]? = some (.int y16)) (e18 : ¬ ((y16 : Int32) ≤ 0)) (kk : qE d 54 54 [some (.ref r0), some (.ref r1), some (.int x2), some (.int x3), some (.int x4)] [] h1 q): qE d 54 33 [some (.ref r0), some (.ref r1), some (.int x2), some (.int x3), some (.int x4)] [] h q := by
  refine qe_aload_n c54_33 rfl ?_
  refine qe_getfield c54_34 qo54 qF11_48 e2 e4 ?_
  refine qe_aload_n c54_37 rfl ?_
  refine qe_getfield c54_38 qo54 qF11_10 e2 e6 ?_
  refine qe_virtual (b := y3) (as := [.ref y5]) (r := []) (v := none) (h2 := h1) c54_41 qo54 qK11_196 rfl rfl rfl (by rw [qo225]; exact e8) (Nat.le_of_ble_eq_true rfl) e9 ?_
  refine qe_aload_n c54_44 rfl ?_
  refine qe_getfield c54_45 qo54 qF11_48 e11 e13 ?_
  refine qe_getfield c54_48 qo54 qF11_212 e15 e17 ?_
  refine qe_if_le_F (t := 56) c54_51 rfl e18 ?_
  exact kk
theorem b54_33T {d : Nat} {q : Option Value × qH} {h : qH} {r0 : Nat} {r1 : Nat} {x2 : Int32} {x3 : Int32} {x4 : Int32} {fs1 : List Value} {y3 : Nat} {y5 : Nat} {fs7 : List Value} {h1 : qH} {fs10 : List Value} {y12 : Nat} {fs14 : List Value} {y16 : Int32}  (e2 : h.2.2 r0 = some (.inr (11, fs1))) (e4 : fs1[6]? = some (.ref y3)) (e6 : fs1[0]? = some (.ref y5)) (e8 : h.2.2 y3 = some (.inr (5, fs7))) (e9 : qCall d 225 [.ref y3, .ref y5] h (none, h1)) (e11 : h1.2.2 r0 = some (.inr (11, fs10))) (e13 : fs10[6]? = some (.ref y12)) (e15 : h1.2.2 y12 = some (.inr (5, fs14))) (e17 : fs14[2]? = some (.int y16)) (e18 : (y16 : Int32) ≤ 0) (kk : qE d 54 56 [some (.ref r0), some (.ref r1), some (.int x2), some (.int x3), some (.int x4)] [] h1 q): qE d 54 33 [some (.ref r0), some (.ref r1), some (.int x2), some (.int x3), some (.int x4)] [] h q := by
  refine qe_aload_n c54_33 rfl ?_
  refine qe_getfield c54_34 qo54 qF11_48 e2 e4 ?_
  refine qe_aload_n c54_37 rfl ?_
  refine qe_getfield c54_38 qo54 qF11_10 e2 e6 ?_
  refine qe_virtual (b := y3) (as := [.ref y5]) (r := []) (v := none) (h2 := h1) c54_41 qo54 qK11_196 rfl rfl rfl (by rw [qo225]; exact e8) (Nat.le_of_ble_eq_true rfl) e9 ?_
  refine qe_aload_n c54_44 rfl ?_
  refine qe_getfield c54_45 qo54 qF11_48 e11 e13 ?_
  refine qe_getfield c54_48 qo54 qF11_212 e15 e17 ?_
  refine qe_if_le_T (t := 56) c54_51 rfl e18 ?_
  exact kk
theorem b54_54 {d : Nat} {h : qH} {r0 : Nat} {r1 : Nat} {x2 : Int32} {x3 : Int32} {x4 : Int32}   : qE d 54 54 [some (.ref r0), some (.ref r1), some (.int x2), some (.int x3), some (.int x4)] [] h (some (.int 0), h) := by
  refine qe_iconst (x := 0) c54_54 (by decide) ?_
  exact qe_zret c54_55 qr54 (by decide)
theorem b54_56 {d : Nat} {q : Option Value × qH} {h : qH} {r0 : Nat} {r1 : Nat} {x2 : Int32} {x3 : Int32} {x4 : Int32}   (kk : qE d 54 27 [some (.ref r0), some (.ref r1), some (.int x2), some (.int x3), some (.int (x4 + 1))] [] h q): qE d 54 56 [some (.ref r0), some (.ref r1), some (.int x2), some (.int x3), some (.int x4)] [] h q := by
  refine qe_iinc (y := (x4 + 1)) (ls2 := [some (.ref r0), some (.ref r1), some (.int x2), some (.int x3), some (.int (x4 + 1))]) c54_56 rfl (Nat.le_of_ble_eq_true rfl) rfl rfl ?_
  refine qe_goto (t := 27) c54_59 rfl ?_
  exact kk
theorem b54_62 {d : Nat} {h : qH} {r0 : Nat} {r1 : Nat} {x2 : Int32} {x3 : Int32} {x4 : Int32}   : qE d 54 62 [some (.ref r0), some (.ref r1), some (.int x2), some (.int x3), some (.int x4)] [] h (some (.int 1), h) := by
  refine qe_iconst (x := 1) c54_62 (by decide) ?_
  exact qe_zret c54_63 qr54 (by decide)
theorem b55_0 {d : Nat} {h : qH} {r0 : Nat} {h1 : qH} {h2 : qH} {fs3 : List Value} {h3 : qH} {h4 : qH} {h5 : qH} {fs9 : List Value} {h6 : qH} {h7 : qH} {fs14 : List Value} {h8 : qH} {h9 : qH} {fs19 : List Value} {h10 : qH} {h11 : qH} {h12 : qH} {fs25 : List Value} {h13 : qH} {h14 : qH} {h15 : qH} {fs31 : List Value} {h16 : qH} {h17 : qH} {h18 : qH} {fs37 : List Value} {h19 : qH} {h20 : qH} {h21 : qH} {fs43 : List Value} {h22 : qH} {h23 : qH} {h24 : qH} {fs49 : List Value} {h25 : qH} {h26 : qH} {h27 : qH} {fs55 : List Value} {h28 : qH} {h29 : qH} {h30 : qH} {fs61 : List Value} {h31 : qH} {h32 : qH} {h33 : qH} {fs67 : List Value} {h34 : qH} {h35 : qH} {fs72 : List Value} {h36 : qH} {h37 : qH} {h38 : qH} {fs78 : List Value} {h39 : qH} (hd0 : 0 < d) (e1 : qnew h 18 (.inr (4, [.int 0, .int 0, .int 0, .int 0, .null, .null, .null, .null, .null, .null, .null, .null, .null, .null, .null, .null, .null, .null])) = h1) (e2 : qCall d 217 [.ref h.1] h1 (none, h2)) (e4 : h2.2.2 r0 = some (.inr (11, fs3))) (e5 : 0 < fs3.length) (e6 : qset h2 r0 (.inr (11, fs3.set 0 (.ref h.1))) = h3) (e7 : qnew h3 8 (.inr (8, [.int 0, .int 0, .int 0, .int 0, .null, .null, .null, .null])) = h4) (e8 : qCall d 242 [.ref h3.1] h4 (none, h5)) (e10 : h5.2.2 r0 = some (.inr (11, fs9))) (e11 : 1 < fs9.length) (e12 : qset h5 r0 (.inr (11, fs9.set 1 (.ref h3.1))) = h6) (e13 : qnew h6 499 (.inl (5, 499, .inr (.inr (.inr (.inr fun _ => none))))) = h7) (e15 : h7.2.2 r0 = some (.inr (11, fs14))) (e16 : 2 < fs14.length) (e17 : qset h7 r0 (.inr (11, fs14.set 2 (.ref h6.1))) = h8) (e18 : qnew h8 499 (.inl (0, 499, .inl fun _ => 0)) = h9) (e20 : h9.2.2 r0 = some (.inr (11, fs19))) (e21 : 3 < fs19.length) (e22 : qset h9 r0 (.inr (11, fs19.set 3 (.ref h8.1))) = h10) (e23 : qnew h10 12 (.inr (7, [.int 0, .int 0, .int 0, .null, .null, .null, .null, .null, .null, .null, .null, .null])) = h11) (e24 : qCall d 236 [.ref h10.1] h11 (none, h12)) (e26 : h12.2.2 r0 = some (.inr (11, fs25))) (e27 : 4 < fs25.length) (e28 : qset h12 r0 (.inr (11, fs25.set 4 (.ref h10.1))) = h13) (e29 : qnew h13 2 (.inr (0, [.null, .null])) = h14) (e30 : qCall d 10 [.ref h13.1] h14 (none, h15)) (e32 : h15.2.2 r0 = some (.inr (11, fs31))) (e33 : 5 < fs31.length) (e34 : qset h15 r0 (.inr (11, fs31.set 5 (.ref h13.1))) = h16) (e35 : qnew h16 8 (.inr (5, [.null, .null, .int 0, .int 0, .int 0, .int 0, .int 0, .null])) = h17) (e36 : qCall d 223 [.ref h16.1] h17 (none, h18)) (e38 : h18.2.2 r0 = some (.inr (11, fs37))) (e39 : 6 < fs37.length) (e40 : qset h18 r0 (.inr (11, fs37.set 6 (.ref h16.1))) = h19) (e41 : qnew h19 4 (.inr (3, [.int 0, .null, .null, .null])) = h20) (e42 : qCall d 207 [.ref h19.1] h20 (none, h21)) (e44 : h21.2.2 r0 = some (.inr (11, fs43))) (e45 : 7 < fs43.length) (e46 : qset h21 r0 (.inr (11, fs43.set 7 (.ref h19.1))) = h22) (e47 : qnew h22 5 (.inr (6, [.null, .null, .null, .null, .null])) = h23) (e48 : qCall d 229 [.ref h22.1] h23 (none, h24)) (e50 : h24.2.2 r0 = some (.inr (11, fs49))) (e51 : 8 < fs49.length) (e52 : qset h24 r0 (.inr (11, fs49.set 8 (.ref h22.1))) = h25) (e53 : qnew h25 9 (.inr (2, [.int 0, .int 0, .null, .null, .null, .null, .null, .null, .null])) = h26) (e54 : qCall d 204 [.ref h25.1] h26 (none, h27)) (e56 : h27.2.2 r0 = some (.inr (11, fs55))) (e57 : 9 < fs55.length) (e58 : qset h27 r0 (.inr (11, fs55.set 9 (.ref h25.1))) = h28) (e59 : qnew h28 6 (.inr (1, [.null, .null, .null, .null, .null, .null])) = h29) (e60 : qCall d 193 [.ref h28.1] h29 (none, h30)) (e62 : h30.2.2 r0 = some (.inr (11, fs61))) (e63 : 10 < fs61.length) (e64 : qset h30 r0 (.inr (11, fs61.set 10 (.ref h28.1))) = h31) (e65 : qnew h31 2 (.inr (9, [.int 0, .null])) = h32) (e66 : qCall d 248 [.ref h31.1] h32 (none, h33)) (e68 : h33.2.2 r0 = some (.inr (11, fs67))) (e69 : 11 < fs67.length) (e70 : qset h33 r0 (.inr (11, fs67.set 11 (.ref h31.1))) = h34) (e71 : qnew h34 8 (.inl (0, 8, .inl fun _ => 0)) = h35) (e73 : h35.2.2 r0 = some (.inr (11, fs72))) (e74 : 12 < fs72.length) (e75 : qset h35 r0 (.inr (11, fs72.set 12 (.ref h34.1))) = h36) (e76 : qnew h36 12 (.inr (10, [.int 0, .int 0, .int 0, .int 0, .int 0, .int 0, .null, .null, .null, .null, .null, .null])) = h37) (e77 : qCall d 18 [.ref h36.1] h37 (none, h38)) (e79 : h38.2.2 r0 = some (.inr (11, fs78))) (e80 : 13 < fs78.length) (e81 : qset h38 r0 (.inr (11, fs78.set 13 (.ref h36.1))) = h39) : qE d 55 0 [some (.ref r0)] [] h (none, h39) := by
  refine qe_aload_n c55_0 rfl ?_
  refine qe_objinit c55_1 qo55 (by decide +kernel) (by decide) hd0 (Nat.le_of_ble_eq_true rfl) ?_
  refine qe_aload_n c55_4 rfl ?_
  refine qe_new (fs := [.int 0, .int 0, .int 0, .int 0, .null, .null, .null, .null, .null, .null, .null, .null, .null, .null, .null, .null, .null, .null]) (N := 18) c55_5 qo55 qN11_7 (by decide +kernel) (by decide +kernel) ?_
  rw [e1]
  refine qe_dup c55_8 rfl ?_
  refine qe_special (b := h.1) (as := []) (r := [.ref h.1, .ref r0]) (v := none) (h2 := h2) c55_9 qo55 (by decide +kernel) qK11_9 rfl ⟨rfl, Or.inr rfl⟩ rfl (Nat.le_of_ble_eq_true rfl) e2 ?_
  refine qe_putfinal c55_12 qo55 qF11_10 (by decide +kernel) e4 e5 (by rw [qy11_0]; rfl) ?_
  rw [e6]
  refine qe_aload_n c55_15 rfl ?_
  refine qe_new (fs := [.int 0, .int 0, .int 0, .int 0, .null, .null, .null, .null]) (N := 8) c55_16 qo55 qN11_16 (by decide +kernel) (by decide +kernel) ?_
  rw [e7]
  refine qe_dup c55_19 rfl ?_
  refine qe_special (b := h3.1) (as := []) (r := [.ref h3.1, .ref r0]) (v := none) (h2 := h5) c55_20 qo55 (by decide +kernel) qK11_18 rfl ⟨rfl, Or.inr rfl⟩ rfl (Nat.le_of_ble_eq_true rfl) e8 ?_
  refine qe_putfinal c55_23 qo55 qF11_19 (by decide +kernel) e10 e11 (by rw [qy11_1]; rfl) ?_
  rw [e12]
  refine qe_aload_n c55_26 rfl ?_
  refine qe_sipush (x := 499) c55_27 (by decide) ?_
  refine qe_anew c55_30 qo55 (by decide) ?_
  rw [show Int32.toNatClampNeg 499 = 499 from by decide]
  rw [e13]
  refine qe_putfinal c55_33 qo55 qF11_23 (by decide +kernel) e15 e16 (by rw [qy11_2]; rfl) ?_
  rw [e17]
  refine qe_aload_n c55_36 rfl ?_
  refine qe_sipush (x := 499) c55_37 (by decide) ?_
  refine qe_new_int c55_40 (by decide) ?_
  rw [show Int32.toNatClampNeg 499 = 499 from by decide]
  rw [e18]
  refine qe_putfinal c55_42 qo55 qF11_27 (by decide +kernel) e20 e21 (by rw [qy11_3]; rfl) ?_
  rw [e22]
  refine qe_aload_n c55_45 rfl ?_
  refine qe_new (fs := [.int 0, .int 0, .int 0, .null, .null, .null, .null, .null, .null, .null, .null, .null]) (N := 12) c55_46 qo55 qN11_31 (by decide +kernel) (by decide +kernel) ?_
  rw [e23]
  refine qe_dup c55_49 rfl ?_
  refine qe_special (b := h10.1) (as := []) (r := [.ref h10.1, .ref r0]) (v := none) (h2 := h12) c55_50 qo55 (by decide +kernel) qK11_33 rfl ⟨rfl, Or.inr rfl⟩ rfl (Nat.le_of_ble_eq_true rfl) e24 ?_
  refine qe_putfinal c55_53 qo55 qF11_34 (by decide +kernel) e26 e27 (by rw [qy11_4]; rfl) ?_
  rw [e28]
  refine qe_aload_n c55_56 rfl ?_
  refine qe_new (fs := [.null, .null]) (N := 2) c55_57 qo55 qN11_38 (by decide +kernel) (by decide +kernel) ?_
  rw [e29]
  refine qe_dup c55_60 rfl ?_
  refine qe_special (b := h13.1) (as := []) (r := [.ref h13.1, .ref r0]) (v := none) (h2 := h15) c55_61 qo55 (by decide +kernel) qK11_40 rfl ⟨rfl, Or.inr rfl⟩ rfl (Nat.le_of_ble_eq_true rfl) e30 ?_
  refine qe_putfinal c55_64 qo55 qF11_41 (by decide +kernel) e32 e33 (by rw [qy11_5]; rfl) ?_
  rw [e34]
  refine qe_aload_n c55_67 rfl ?_
  refine qe_new (fs := [.null, .null, .int 0, .int 0, .int 0, .int 0, .int 0, .null]) (N := 8) c55_68 qo55 qN11_45 (by decide +kernel) (by decide +kernel) ?_
  rw [e35]
  refine qe_dup c55_71 rfl ?_
  refine qe_special (b := h16.1) (as := []) (r := [.ref h16.1, .ref r0]) (v := none) (h2 := h18) c55_72 qo55 (by decide +kernel) qK11_47 rfl ⟨rfl, Or.inr rfl⟩ rfl (Nat.le_of_ble_eq_true rfl) e36 ?_
  refine qe_putfinal c55_75 qo55 qF11_48 (by decide +kernel) e38 e39 (by rw [qy11_6]; rfl) ?_
  rw [e40]
  refine qe_aload_n c55_78 rfl ?_
  refine qe_new (fs := [.int 0, .null, .null, .null]) (N := 4) c55_79 qo55 qN11_52 (by decide +kernel) (by decide +kernel) ?_
  rw [e41]
  refine qe_dup c55_82 rfl ?_
  refine qe_special (b := h19.1) (as := []) (r := [.ref h19.1, .ref r0]) (v := none) (h2 := h21) c55_83 qo55 (by decide +kernel) qK11_54 rfl ⟨rfl, Or.inr rfl⟩ rfl (Nat.le_of_ble_eq_true rfl) e42 ?_
  refine qe_putfinal c55_86 qo55 qF11_55 (by decide +kernel) e44 e45 (by rw [qy11_7]; rfl) ?_
  rw [e46]
  refine qe_aload_n c55_89 rfl ?_
  refine qe_new (fs := [.null, .null, .null, .null, .null]) (N := 5) c55_90 qo55 qN11_59 (by decide +kernel) (by decide +kernel) ?_
  rw [e47]
  refine qe_dup c55_93 rfl ?_
  refine qe_special (b := h22.1) (as := []) (r := [.ref h22.1, .ref r0]) (v := none) (h2 := h24) c55_94 qo55 (by decide +kernel) qK11_61 rfl ⟨rfl, Or.inr rfl⟩ rfl (Nat.le_of_ble_eq_true rfl) e48 ?_
  refine qe_putfinal c55_97 qo55 qF11_62 (by decide +kernel) e50 e51 (by rw [qy11_8]; rfl) ?_
  rw [e52]
  refine qe_aload_n c55_100 rfl ?_
  refine qe_new (fs := [.int 0, .int 0, .null, .null, .null, .null, .null, .null, .null]) (N := 9) c55_101 qo55 qN11_66 (by decide +kernel) (by decide +kernel) ?_
  rw [e53]
  refine qe_dup c55_104 rfl ?_
  refine qe_special (b := h25.1) (as := []) (r := [.ref h25.1, .ref r0]) (v := none) (h2 := h27) c55_105 qo55 (by decide +kernel) qK11_68 rfl ⟨rfl, Or.inr rfl⟩ rfl (Nat.le_of_ble_eq_true rfl) e54 ?_
  refine qe_putfinal c55_108 qo55 qF11_69 (by decide +kernel) e56 e57 (by rw [qy11_9]; rfl) ?_
  rw [e58]
  refine qe_aload_n c55_111 rfl ?_
  refine qe_new (fs := [.null, .null, .null, .null, .null, .null]) (N := 6) c55_112 qo55 qN11_73 (by decide +kernel) (by decide +kernel) ?_
  rw [e59]
  refine qe_dup c55_115 rfl ?_
  refine qe_special (b := h28.1) (as := []) (r := [.ref h28.1, .ref r0]) (v := none) (h2 := h30) c55_116 qo55 (by decide +kernel) qK11_75 rfl ⟨rfl, Or.inr rfl⟩ rfl (Nat.le_of_ble_eq_true rfl) e60 ?_
  refine qe_putfinal c55_119 qo55 qF11_76 (by decide +kernel) e62 e63 (by rw [qy11_10]; rfl) ?_
  rw [e64]
  refine qe_aload_n c55_122 rfl ?_
  refine qe_new (fs := [.int 0, .null]) (N := 2) c55_123 qo55 qN11_80 (by decide +kernel) (by decide +kernel) ?_
  rw [e65]
  refine qe_dup c55_126 rfl ?_
  refine qe_special (b := h31.1) (as := []) (r := [.ref h31.1, .ref r0]) (v := none) (h2 := h33) c55_127 qo55 (by decide +kernel) qK11_82 rfl ⟨rfl, Or.inr rfl⟩ rfl (Nat.le_of_ble_eq_true rfl) e66 ?_
  refine qe_putfinal c55_130 qo55 qF11_83 (by decide +kernel) e68 e69 (by rw [qy11_11]; rfl) ?_
  rw [e70]
  refine qe_aload_n c55_133 rfl ?_
  refine qe_bipush (x := 8) c55_134 (by decide) ?_
  refine qe_new_int c55_136 (by decide) ?_
  rw [show Int32.toNatClampNeg 8 = 8 from by decide]
  rw [e71]
  refine qe_putfinal c55_138 qo55 qF11_87 (by decide +kernel) e73 e74 (by rw [qy11_12]; rfl) ?_
  rw [e75]
  refine qe_aload_n c55_141 rfl ?_
  refine qe_new (fs := [.int 0, .int 0, .int 0, .int 0, .int 0, .int 0, .null, .null, .null, .null, .null, .null]) (N := 12) c55_142 qo55 qN11_90 (by decide +kernel) (by decide +kernel) ?_
  rw [e76]
  refine qe_dup c55_145 rfl ?_
  refine qe_special (b := h36.1) (as := []) (r := [.ref h36.1, .ref r0]) (v := none) (h2 := h38) c55_146 qo55 (by decide +kernel) qK11_92 rfl ⟨rfl, Or.inr rfl⟩ rfl (Nat.le_of_ble_eq_true rfl) e77 ?_
  refine qe_putfield c55_149 qo55 qF11_93 qz11_13 e79 e80 (by rw [qy11_13]; rfl) ?_
  rw [e81]
  exact qe_vret c55_152 qr55
theorem b56_0 {d : Nat} {h : qH} {x0 : Int32} {h1 : qH} {z1 : Int32}  (e2 : qCall d 80 [.int x0, .int 0, .int 3] h ((some (.int z1)), h1)) (e3 : (z1 : Int32) = 0 ∨ (z1 : Int32) = 1) : qE d 56 0 [some (.int x0)] [] h (some (.int z1), h1) := by
  refine qe_iload_n c56_0 rfl ?_
  refine qe_iconst (x := 0) c56_1 (by decide) ?_
  refine qe_iconst (x := 3) c56_2 (by decide) ?_
  refine qe_static (as := [.int x0, .int 0, .int 3]) (r := []) (v := (some (.int z1))) (h2 := h1) c56_3 qo56 (by decide) qK11_108 rfl rfl rfl (Nat.le_of_ble_eq_true rfl) e2 ?_
  exact qe_zret c56_6 qr56 e3
theorem b57_0F {d : Nat} {q : Option Value × qH} {h : qH} {r0 : Nat} {x1 : Int32}  (e1 : ¬ ((x1 : Int32) < 0)) (kk : qE d 57 4 [some (.ref r0), some (.int x1)] [] h q): qE d 57 0 [some (.ref r0), some (.int x1)] [] h q := by
  refine qe_iload_n c57_0 rfl ?_
  refine qe_if_lt_F (t := 20) c57_1 rfl e1 ?_
  exact kk
theorem b57_0T {d : Nat} {q : Option Value × qH} {h : qH} {r0 : Nat} {x1 : Int32}  (e1 : (x1 : Int32) < 0) (kk : qE d 57 20 [some (.ref r0), some (.int x1)] [] h q): qE d 57 0 [some (.ref r0), some (.int x1)] [] h q := by
  refine qe_iload_n c57_0 rfl ?_
  refine qe_if_lt_T (t := 20) c57_1 rfl e1 ?_
  exact kk
theorem b57_4F {d : Nat} {q : Option Value × qH} {h : qH} {r0 : Nat} {x1 : Int32} {fs1 : List Value} {y3 : Nat} {fs5 : List Value} {y7 : Int32}  (e2 : h.2.2 r0 = some (.inr (11, fs1))) (e4 : fs1[0]? = some (.ref y3)) (e6 : h.2.2 y3 = some (.inr (4, fs5))) (e8 : fs5[0]? = some (.int y7)) (e9 : ((x1 >>> (y7 &&& 31)) : Int32) = 0) (kk : qE d 57 16 [some (.ref r0), some (.int x1)] [] h q): qE d 57 4 [some (.ref r0), some (.int x1)] [] h q := by
  refine qe_iload_n c57_4 rfl ?_
  refine qe_aload_n c57_5 rfl ?_
  refine qe_getfield c57_6 qo57 qF11_10 e2 e4 ?_
  refine qe_getfield c57_9 qo57 qF11_101 e6 e8 ?_
  refine qe_ishr c57_12 ?_
  refine qe_if_ne_F (t := 20) c57_13 rfl e9 ?_
  exact kk
theorem b57_4T {d : Nat} {q : Option Value × qH} {h : qH} {r0 : Nat} {x1 : Int32} {fs1 : List Value} {y3 : Nat} {fs5 : List Value} {y7 : Int32}  (e2 : h.2.2 r0 = some (.inr (11, fs1))) (e4 : fs1[0]? = some (.ref y3)) (e6 : h.2.2 y3 = some (.inr (4, fs5))) (e8 : fs5[0]? = some (.int y7)) (e9 : ¬ (((x1 >>> (y7 &&& 31)) : Int32) = 0)) (kk : qE d 57 20 [some (.ref r0), some (.int x1)] [] h q): qE d 57 4 [some (.ref r0), some (.int x1)] [] h q := by
  refine qe_iload_n c57_4 rfl ?_
  refine qe_aload_n c57_5 rfl ?_
  refine qe_getfield c57_6 qo57 qF11_10 e2 e4 ?_
  refine qe_getfield c57_9 qo57 qF11_101 e6 e8 ?_
  refine qe_ishr c57_12 ?_
  refine qe_if_ne_T (t := 20) c57_13 rfl e9 ?_
  exact kk
theorem b57_16 {d : Nat} {q : Option Value × qH} {h : qH} {r0 : Nat} {x1 : Int32}   (kk : qE d 57 21 [some (.ref r0), some (.int x1)] [.int 1] h q): qE d 57 16 [some (.ref r0), some (.int x1)] [] h q := by
  refine qe_iconst (x := 1) c57_16 (by decide) ?_
  refine qe_goto (t := 21) c57_17 rfl ?_
  exact kk
theorem b57_20 {d : Nat} {q : Option Value × qH} {h : qH} {r0 : Nat} {x1 : Int32}   (kk : qE d 57 21 [some (.ref r0), some (.int x1)] [.int 0] h q): qE d 57 20 [some (.ref r0), some (.int x1)] [] h q := by
  refine qe_iconst (x := 0) c57_20 (by decide) ?_
  exact kk
theorem b57_21 {d : Nat} {h : qH} {r0 : Nat} {x1 : Int32} {xs0 : Int32}  (e1 : (xs0 : Int32) = 0 ∨ (xs0 : Int32) = 1) : qE d 57 21 [some (.ref r0), some (.int x1)] [.int xs0] h (some (.int xs0), h) := by
  exact qe_zret c57_21 qr57 e1
theorem b58_0F {d : Nat} {q : Option Value × qH} {h : qH} {r0 : Nat} {x1 : Int32} {fs2 : List Value} {y4 : Nat} {fs6 : List Value} {h1 : qH} {z8 : Int32}  (e1 : ¬ (3 : Int32) = 0) (e3 : h.2.2 r0 = some (.inr (11, fs2))) (e5 : fs2[0]? = some (.ref y4)) (e7 : h.2.2 y4 = some (.inr (4, fs6))) (e9 : qCall d 215 [.ref y4, .int (x1 / 3)] h ((some (.int z8)), h1)) (e10 : (z8 : Int32) = 0) (kk : qE d 58 15 [some (.ref r0), some (.int x1), some (.int (x1 / 3)), none] [] h1 q): qE d 58 0 [some (.ref r0), some (.int x1), none, none] [] h q := by
  refine qe_iload_n c58_0 rfl ?_
  refine qe_iconst (x := 3) c58_1 (by decide) ?_
  refine qe_idiv c58_2 e1 ?_
  refine qe_istore_n (ls2 := [some (.ref r0), some (.int x1), some (.int (x1 / 3)), none]) c58_3 (Nat.le_of_ble_eq_true rfl) rfl ?_
  refine qe_aload_n c58_4 rfl ?_
  refine qe_getfield c58_5 qo58 qF11_10 e3 e5 ?_
  refine qe_iload_n c58_8 rfl ?_
  refine qe_virtual (b := y4) (as := [.int (x1 / 3)]) (r := []) (v := (some (.int z8))) (h2 := h1) c58_9 qo58 qK11_140 rfl rfl rfl (by rw [qo215]; exact e7) (Nat.le_of_ble_eq_true rfl) e9 ?_
  refine qe_if_ne_F (t := 17) c58_12 rfl e10 ?_
  exact kk
theorem b58_0T {d : Nat} {q : Option Value × qH} {h : qH} {r0 : Nat} {x1 : Int32} {fs2 : List Value} {y4 : Nat} {fs6 : List Value} {h1 : qH} {z8 : Int32}  (e1 : ¬ (3 : Int32) = 0) (e3 : h.2.2 r0 = some (.inr (11, fs2))) (e5 : fs2[0]? = some (.ref y4)) (e7 : h.2.2 y4 = some (.inr (4, fs6))) (e9 : qCall d 215 [.ref y4, .int (x1 / 3)] h ((some (.int z8)), h1)) (e10 : ¬ ((z8 : Int32) = 0)) (kk : qE d 58 17 [some (.ref r0), some (.int x1), some (.int (x1 / 3)), none] [] h1 q): qE d 58 0 [some (.ref r0), some (.int x1), none, none] [] h q := by
  refine qe_iload_n c58_0 rfl ?_
  refine qe_iconst (x := 3) c58_1 (by decide) ?_
  refine qe_idiv c58_2 e1 ?_
  refine qe_istore_n (ls2 := [some (.ref r0), some (.int x1), some (.int (x1 / 3)), none]) c58_3 (Nat.le_of_ble_eq_true rfl) rfl ?_
  refine qe_aload_n c58_4 rfl ?_
  refine qe_getfield c58_5 qo58 qF11_10 e3 e5 ?_
  refine qe_iload_n c58_8 rfl ?_
  refine qe_virtual (b := y4) (as := [.int (x1 / 3)]) (r := []) (v := (some (.int z8))) (h2 := h1) c58_9 qo58 qK11_140 rfl rfl rfl (by rw [qo215]; exact e7) (Nat.le_of_ble_eq_true rfl) e9 ?_
  refine qe_if_ne_T (t := 17) c58_12 rfl e10 ?_
  exact kk
theorem b58_15 {d : Nat} {h : qH} {r0 : Nat} {x1 : Int32} {x2 : Int32}   : qE d 58 15 [some (.ref r0), some (.int x1), some (.int x2), none] [] h (some (.int 0), h) := by
  refine qe_iconst (x := 0) c58_15 (by decide) ?_
  exact qe_zret c58_16 qr58 (by decide)
theorem b58_17D {d : Nat} {q : Option Value × qH} {h : qH} {r0 : Nat} {x1 : Int32} {x2 : Int32} {fs1 : List Value} {y3 : Nat} {fs5 : List Value} {h1 : qH} {z7 : Int32}  (e2 : h.2.2 r0 = some (.inr (11, fs1))) (e4 : fs1[11]? = some (.ref y3)) (e6 : h.2.2 y3 = some (.inr (9, fs5))) (e8 : qCall d 249 [.ref y3, .int x1] h ((some (.int z7)), h1)) (e9 : ¬ (3 : Int32) = 0) (e10 : Op.lookupswitch.offset [(0, 27), (1, 38)] 57 ((x1 - x1 / 3 * 3) : Int32).toInt = 57) (kk : qE d 58 86 [some (.ref r0), some (.int x1), some (.int x2), some (.int z7)] [] h1 q): qE d 58 17 [some (.ref r0), some (.int x1), some (.int x2), none] [] h q := by
  refine qe_aload_n c58_17 rfl ?_
  refine qe_getfield c58_18 qo58 qF11_83 e2 e4 ?_
  refine qe_iload_n c58_21 rfl ?_
  refine qe_virtual (b := y3) (as := [.int x1]) (r := []) (v := (some (.int z7))) (h2 := h1) c58_22 qo58 qK11_356 rfl rfl rfl (by rw [qo249]; exact e6) (Nat.le_of_ble_eq_true rfl) e8 ?_
  refine qe_istore_n (ls2 := [some (.ref r0), some (.int x1), some (.int x2), some (.int z7)]) c58_25 (Nat.le_of_ble_eq_true rfl) rfl ?_
  refine qe_iload_n c58_26 rfl ?_
  refine qe_iconst (x := 3) c58_27 (by decide) ?_
  refine qe_irem c58_28 e9 ?_
  refine qe_lookup (off := 57) (t := 86) c58_29 (by decide) e10 rfl ?_
  exact kk
theorem b58_17s1 {d : Nat} {q : Option Value × qH} {h : qH} {r0 : Nat} {x1 : Int32} {x2 : Int32} {fs1 : List Value} {y3 : Nat} {fs5 : List Value} {h1 : qH} {z7 : Int32}  (e2 : h.2.2 r0 = some (.inr (11, fs1))) (e4 : fs1[11]? = some (.ref y3)) (e6 : h.2.2 y3 = some (.inr (9, fs5))) (e8 : qCall d 249 [.ref y3, .int x1] h ((some (.int z7)), h1)) (e9 : ¬ (3 : Int32) = 0) (e10 : ((x1 - x1 / 3 * 3) : Int32).toInt = 1) (kk : qE d 58 67 [some (.ref r0), some (.int x1), some (.int x2), some (.int z7)] [] h1 q): qE d 58 17 [some (.ref r0), some (.int x1), some (.int x2), none] [] h q := by
  refine qe_aload_n c58_17 rfl ?_
  refine qe_getfield c58_18 qo58 qF11_83 e2 e4 ?_
  refine qe_iload_n c58_21 rfl ?_
  refine qe_virtual (b := y3) (as := [.int x1]) (r := []) (v := (some (.int z7))) (h2 := h1) c58_22 qo58 qK11_356 rfl rfl rfl (by rw [qo249]; exact e6) (Nat.le_of_ble_eq_true rfl) e8 ?_
  refine qe_istore_n (ls2 := [some (.ref r0), some (.int x1), some (.int x2), some (.int z7)]) c58_25 (Nat.le_of_ble_eq_true rfl) rfl ?_
  refine qe_iload_n c58_26 rfl ?_
  refine qe_iconst (x := 3) c58_27 (by decide) ?_
  refine qe_irem c58_28 e9 ?_
  refine qe_lookup (off := 38) (t := 67) c58_29 (by decide) (by rw [e10]; decide) rfl ?_
  exact kk
theorem b58_17s0 {d : Nat} {q : Option Value × qH} {h : qH} {r0 : Nat} {x1 : Int32} {x2 : Int32} {fs1 : List Value} {y3 : Nat} {fs5 : List Value} {h1 : qH} {z7 : Int32}  (e2 : h.2.2 r0 = some (.inr (11, fs1))) (e4 : fs1[11]? = some (.ref y3)) (e6 : h.2.2 y3 = some (.inr (9, fs5))) (e8 : qCall d 249 [.ref y3, .int x1] h ((some (.int z7)), h1)) (e9 : ¬ (3 : Int32) = 0) (e10 : ((x1 - x1 / 3 * 3) : Int32).toInt = 0) (kk : qE d 58 56 [some (.ref r0), some (.int x1), some (.int x2), some (.int z7)] [] h1 q): qE d 58 17 [some (.ref r0), some (.int x1), some (.int x2), none] [] h q := by
  refine qe_aload_n c58_17 rfl ?_
  refine qe_getfield c58_18 qo58 qF11_83 e2 e4 ?_
  refine qe_iload_n c58_21 rfl ?_
  refine qe_virtual (b := y3) (as := [.int x1]) (r := []) (v := (some (.int z7))) (h2 := h1) c58_22 qo58 qK11_356 rfl rfl rfl (by rw [qo249]; exact e6) (Nat.le_of_ble_eq_true rfl) e8 ?_
  refine qe_istore_n (ls2 := [some (.ref r0), some (.int x1), some (.int x2), some (.int z7)]) c58_25 (Nat.le_of_ble_eq_true rfl) rfl ?_
  refine qe_iload_n c58_26 rfl ?_
  refine qe_iconst (x := 3) c58_27 (by decide) ?_
  refine qe_irem c58_28 e9 ?_
  refine qe_lookup (off := 27) (t := 56) c58_29 (by decide) (by rw [e10]; decide) rfl ?_
  exact kk
theorem b58_56F {d : Nat} {q : Option Value × qH} {h : qH} {r0 : Nat} {x1 : Int32} {x2 : Int32} {x3 : Int32}  (e1 : (x3 : Int32) = x2) (kk : qE d 58 61 [some (.ref r0), some (.int x1), some (.int x2), some (.int x3)] [] h q): qE d 58 56 [some (.ref r0), some (.int x1), some (.int x2), some (.int x3)] [] h q := by
  refine qe_iload_n c58_56 rfl ?_
  refine qe_iload_n c58_57 rfl ?_
  refine qe_icmp_ne_F (t := 65) c58_58 rfl e1 ?_
  exact kk
theorem b58_56T {d : Nat} {q : Option Value × qH} {h : qH} {r0 : Nat} {x1 : Int32} {x2 : Int32} {x3 : Int32}  (e1 : ¬ ((x3 : Int32) = x2)) (kk : qE d 58 65 [some (.ref r0), some (.int x1), some (.int x2), some (.int x3)] [] h q): qE d 58 56 [some (.ref r0), some (.int x1), some (.int x2), some (.int x3)] [] h q := by
  refine qe_iload_n c58_56 rfl ?_
  refine qe_iload_n c58_57 rfl ?_
  refine qe_icmp_ne_T (t := 65) c58_58 rfl e1 ?_
  exact kk
theorem b58_61 {d : Nat} {q : Option Value × qH} {h : qH} {r0 : Nat} {x1 : Int32} {x2 : Int32} {x3 : Int32}   (kk : qE d 58 66 [some (.ref r0), some (.int x1), some (.int x2), some (.int x3)] [.int 1] h q): qE d 58 61 [some (.ref r0), some (.int x1), some (.int x2), some (.int x3)] [] h q := by
  refine qe_iconst (x := 1) c58_61 (by decide) ?_
  refine qe_goto (t := 66) c58_62 rfl ?_
  exact kk
theorem b58_65 {d : Nat} {q : Option Value × qH} {h : qH} {r0 : Nat} {x1 : Int32} {x2 : Int32} {x3 : Int32}   (kk : qE d 58 66 [some (.ref r0), some (.int x1), some (.int x2), some (.int x3)] [.int 0] h q): qE d 58 65 [some (.ref r0), some (.int x1), some (.int x2), some (.int x3)] [] h q := by
  refine qe_iconst (x := 0) c58_65 (by decide) ?_
  exact kk
theorem b58_66 {d : Nat} {h : qH} {r0 : Nat} {x1 : Int32} {x2 : Int32} {x3 : Int32} {xs0 : Int32}  (e1 : (xs0 : Int32) = 0 ∨ (xs0 : Int32) = 1) : qE d 58 66 [some (.ref r0), some (.int x1), some (.int x2), some (.int x3)] [.int xs0] h (some (.int xs0), h) := by
  exact qe_zret c58_66 qr58 e1
theorem b58_67F {d : Nat} {q : Option Value × qH} {h : qH} {r0 : Nat} {x1 : Int32} {x2 : Int32} {x3 : Int32} {fs1 : List Value} {y3 : Nat} {fs5 : List Value} {y7 : Nat} {n9 : Nat} {f10 : Nat → Int32}  (e2 : h.2.2 r0 = some (.inr (11, fs1))) (e4 : fs1[1]? = some (.ref y3)) (e6 : h.2.2 y3 = some (.inr (8, fs5))) (e8 : fs5[5]? = some (.ref y7)) (e11 : h.2.2 y7 = some (.inl (0, n9, .inl f10))) (e12 : 0 ≤ (x2 : Int32).toInt ∧ (x2 : Int32).toInt < (n9 : Nat)) (e13 : (x3 : Int32) = (f10 (x2 : Int32).toNatClampNeg)) (kk : qE d 58 80 [some (.ref r0), some (.int x1), some (.int x2), some (.int x3)] [] h q): qE d 58 67 [some (.ref r0), some (.int x1), some (.int x2), some (.int x3)] [] h q := by
  refine qe_iload_n c58_67 rfl ?_
  refine qe_aload_n c58_68 rfl ?_
  refine qe_getfield c58_69 qo58 qF11_19 e2 e4 ?_
  refine qe_getfield c58_72 qo58 qF11_149 e6 e8 ?_
  refine qe_iload_n c58_75 rfl ?_
  refine qe_iaload c58_76 e11 e12 ?_
  refine qe_icmp_ne_F (t := 84) c58_77 rfl e13 ?_
  exact kk
theorem b58_67T {d : Nat} {q : Option Value × qH} {h : qH} {r0 : Nat} {x1 : Int32} {x2 : Int32} {x3 : Int32} {fs1 : List Value} {y3 : Nat} {fs5 : List Value} {y7 : Nat} {n9 : Nat} {f10 : Nat → Int32}  (e2 : h.2.2 r0 = some (.inr (11, fs1))) (e4 : fs1[1]? = some (.ref y3)) (e6 : h.2.2 y3 = some (.inr (8, fs5))) (e8 : fs5[5]? = some (.ref y7)) (e11 : h.2.2 y7 = some (.inl (0, n9, .inl f10))) (e12 : 0 ≤ (x2 : Int32).toInt ∧ (x2 : Int32).toInt < (n9 : Nat)) (e13 : ¬ ((x3 : Int32) = (f10 (x2 : Int32).toNatClampNeg))) (kk : qE d 58 84 [some (.ref r0), some (.int x1), some (.int x2), some (.int x3)] [] h q): qE d 58 67 [some (.ref r0), some (.int x1), some (.int x2), some (.int x3)] [] h q := by
  refine qe_iload_n c58_67 rfl ?_
  refine qe_aload_n c58_68 rfl ?_
  refine qe_getfield c58_69 qo58 qF11_19 e2 e4 ?_
  refine qe_getfield c58_72 qo58 qF11_149 e6 e8 ?_
  refine qe_iload_n c58_75 rfl ?_
  refine qe_iaload c58_76 e11 e12 ?_
  refine qe_icmp_ne_T (t := 84) c58_77 rfl e13 ?_
  exact kk
theorem b58_80 {d : Nat} {q : Option Value × qH} {h : qH} {r0 : Nat} {x1 : Int32} {x2 : Int32} {x3 : Int32}   (kk : qE d 58 85 [some (.ref r0), some (.int x1), some (.int x2), some (.int x3)] [.int 1] h q): qE d 58 80 [some (.ref r0), some (.int x1), some (.int x2), some (.int x3)] [] h q := by
  refine qe_iconst (x := 1) c58_80 (by decide) ?_
  refine qe_goto (t := 85) c58_81 rfl ?_
  exact kk
theorem b58_84 {d : Nat} {q : Option Value × qH} {h : qH} {r0 : Nat} {x1 : Int32} {x2 : Int32} {x3 : Int32}   (kk : qE d 58 85 [some (.ref r0), some (.int x1), some (.int x2), some (.int x3)] [.int 0] h q): qE d 58 84 [some (.ref r0), some (.int x1), some (.int x2), some (.int x3)] [] h q := by
  refine qe_iconst (x := 0) c58_84 (by decide) ?_
  exact kk
theorem b58_85 {d : Nat} {h : qH} {r0 : Nat} {x1 : Int32} {x2 : Int32} {x3 : Int32} {xs0 : Int32}  (e1 : (xs0 : Int32) = 0 ∨ (xs0 : Int32) = 1) : qE d 58 85 [some (.ref r0), some (.int x1), some (.int x2), some (.int x3)] [.int xs0] h (some (.int xs0), h) := by
  exact qe_zret c58_85 qr58 e1
theorem b58_86F {d : Nat} {q : Option Value × qH} {h : qH} {r0 : Nat} {x1 : Int32} {x2 : Int32} {x3 : Int32} {fs1 : List Value} {y3 : Nat} {fs5 : List Value} {y7 : Nat} {n9 : Nat} {f10 : Nat → Int32}  (e2 : h.2.2 r0 = some (.inr (11, fs1))) (e4 : fs1[1]? = some (.ref y3)) (e6 : h.2.2 y3 = some (.inr (8, fs5))) (e8 : fs5[6]? = some (.ref y7)) (e11 : h.2.2 y7 = some (.inl (0, n9, .inl f10))) (e12 : 0 ≤ (x2 : Int32).toInt ∧ (x2 : Int32).toInt < (n9 : Nat)) (e13 : (x3 : Int32) = (f10 (x2 : Int32).toNatClampNeg)) (kk : qE d 58 99 [some (.ref r0), some (.int x1), some (.int x2), some (.int x3)] [] h q): qE d 58 86 [some (.ref r0), some (.int x1), some (.int x2), some (.int x3)] [] h q := by
  refine qe_iload_n c58_86 rfl ?_
  refine qe_aload_n c58_87 rfl ?_
  refine qe_getfield c58_88 qo58 qF11_19 e2 e4 ?_
  refine qe_getfield c58_91 qo58 qF11_225 e6 e8 ?_
  refine qe_iload_n c58_94 rfl ?_
  refine qe_iaload c58_95 e11 e12 ?_
  refine qe_icmp_ne_F (t := 103) c58_96 rfl e13 ?_
  exact kk
theorem b58_86T {d : Nat} {q : Option Value × qH} {h : qH} {r0 : Nat} {x1 : Int32} {x2 : Int32} {x3 : Int32} {fs1 : List Value} {y3 : Nat} {fs5 : List Value} {y7 : Nat} {n9 : Nat} {f10 : Nat → Int32}  (e2 : h.2.2 r0 = some (.inr (11, fs1))) (e4 : fs1[1]? = some (.ref y3)) (e6 : h.2.2 y3 = some (.inr (8, fs5))) (e8 : fs5[6]? = some (.ref y7)) (e11 : h.2.2 y7 = some (.inl (0, n9, .inl f10))) (e12 : 0 ≤ (x2 : Int32).toInt ∧ (x2 : Int32).toInt < (n9 : Nat)) (e13 : ¬ ((x3 : Int32) = (f10 (x2 : Int32).toNatClampNeg))) (kk : qE d 58 103 [some (.ref r0), some (.int x1), some (.int x2), some (.int x3)] [] h q): qE d 58 86 [some (.ref r0), some (.int x1), some (.int x2), some (.int x3)] [] h q := by
  refine qe_iload_n c58_86 rfl ?_
  refine qe_aload_n c58_87 rfl ?_
  refine qe_getfield c58_88 qo58 qF11_19 e2 e4 ?_
  refine qe_getfield c58_91 qo58 qF11_225 e6 e8 ?_
  refine qe_iload_n c58_94 rfl ?_
  refine qe_iaload c58_95 e11 e12 ?_
  refine qe_icmp_ne_T (t := 103) c58_96 rfl e13 ?_
  exact kk
theorem b58_99 {d : Nat} {q : Option Value × qH} {h : qH} {r0 : Nat} {x1 : Int32} {x2 : Int32} {x3 : Int32}   (kk : qE d 58 104 [some (.ref r0), some (.int x1), some (.int x2), some (.int x3)] [.int 1] h q): qE d 58 99 [some (.ref r0), some (.int x1), some (.int x2), some (.int x3)] [] h q := by
  refine qe_iconst (x := 1) c58_99 (by decide) ?_
  refine qe_goto (t := 104) c58_100 rfl ?_
  exact kk
theorem b58_103 {d : Nat} {q : Option Value × qH} {h : qH} {r0 : Nat} {x1 : Int32} {x2 : Int32} {x3 : Int32}   (kk : qE d 58 104 [some (.ref r0), some (.int x1), some (.int x2), some (.int x3)] [.int 0] h q): qE d 58 103 [some (.ref r0), some (.int x1), some (.int x2), some (.int x3)] [] h q := by
  refine qe_iconst (x := 0) c58_103 (by decide) ?_
  exact kk
theorem b58_104 {d : Nat} {h : qH} {r0 : Nat} {x1 : Int32} {x2 : Int32} {x3 : Int32} {xs0 : Int32}  (e1 : (xs0 : Int32) = 0 ∨ (xs0 : Int32) = 1) : qE d 58 104 [some (.ref r0), some (.int x1), some (.int x2), some (.int x3)] [.int xs0] h (some (.int xs0), h) := by
  exact qe_zret c58_104 qr58 e1
theorem b59_0F {d : Nat} {q : Option Value × qH} {h : qH} {r0 : Nat} {x1 : Int32} {x2 : Int32} {fs1 : List Value} {h1 : qH} {z3 : Int32}  (e2 : h.2.2 r0 = some (.inr (11, fs1))) (e4 : qCall d 57 [.ref r0, .int x1] h ((some (.int z3)), h1)) (e5 : ¬ ((z3 : Int32) = 0)) (kk : qE d 59 8 [some (.ref r0), some (.int x1), some (.int x2), none, none] [] h1 q): qE d 59 0 [some (.ref r0), some (.int x1), some (.int x2), none, none] [] h q := by
  refine qe_aload_n c59_0 rfl ?_
  refine qe_iload_n c59_1 rfl ?_
  refine qe_virtual (b := r0) (as := [.int x1]) (r := []) (v := (some (.int z3))) (h2 := h1) c59_2 qo59 qK11_282 rfl rfl rfl (by rw [qo57]; exact e2) (Nat.le_of_ble_eq_true rfl) e4 ?_
  refine qe_if_eq_F (t := 18) c59_5 rfl e5 ?_
  exact kk
theorem b59_0T {d : Nat} {q : Option Value × qH} {h : qH} {r0 : Nat} {x1 : Int32} {x2 : Int32} {fs1 : List Value} {h1 : qH} {z3 : Int32}  (e2 : h.2.2 r0 = some (.inr (11, fs1))) (e4 : qCall d 57 [.ref r0, .int x1] h ((some (.int z3)), h1)) (e5 : (z3 : Int32) = 0) (kk : qE d 59 18 [some (.ref r0), some (.int x1), some (.int x2), none, none] [] h1 q): qE d 59 0 [some (.ref r0), some (.int x1), some (.int x2), none, none] [] h q := by
  refine qe_aload_n c59_0 rfl ?_
  refine qe_iload_n c59_1 rfl ?_
  refine qe_virtual (b := r0) (as := [.int x1]) (r := []) (v := (some (.int z3))) (h2 := h1) c59_2 qo59 qK11_282 rfl rfl rfl (by rw [qo57]; exact e2) (Nat.le_of_ble_eq_true rfl) e4 ?_
  refine qe_if_eq_T (t := 18) c59_5 rfl e5 ?_
  exact kk
theorem b59_8F {d : Nat} {q : Option Value × qH} {h : qH} {r0 : Nat} {x1 : Int32} {x2 : Int32} {h1 : qH} {z1 : Int32}  (e2 : qCall d 80 [.int x2, .int 1, .int 30] h ((some (.int z1)), h1)) (e3 : (z1 : Int32) = 0) (kk : qE d 59 18 [some (.ref r0), some (.int x1), some (.int x2), none, none] [] h1 q): qE d 59 8 [some (.ref r0), some (.int x1), some (.int x2), none, none] [] h q := by
  refine qe_iload_n c59_8 rfl ?_
  refine qe_iconst (x := 1) c59_9 (by decide) ?_
  refine qe_bipush (x := 30) c59_10 (by decide) ?_
  refine qe_static (as := [.int x2, .int 1, .int 30]) (r := []) (v := (some (.int z1))) (h2 := h1) c59_12 qo59 (by decide) qK11_108 rfl rfl rfl (Nat.le_of_ble_eq_true rfl) e2 ?_
  refine qe_if_ne_F (t := 20) c59_15 rfl e3 ?_
  exact kk
theorem b59_8T {d : Nat} {q : Option Value × qH} {h : qH} {r0 : Nat} {x1 : Int32} {x2 : Int32} {h1 : qH} {z1 : Int32}  (e2 : qCall d 80 [.int x2, .int 1, .int 30] h ((some (.int z1)), h1)) (e3 : ¬ ((z1 : Int32) = 0)) (kk : qE d 59 20 [some (.ref r0), some (.int x1), some (.int x2), none, none] [] h1 q): qE d 59 8 [some (.ref r0), some (.int x1), some (.int x2), none, none] [] h q := by
  refine qe_iload_n c59_8 rfl ?_
  refine qe_iconst (x := 1) c59_9 (by decide) ?_
  refine qe_bipush (x := 30) c59_10 (by decide) ?_
  refine qe_static (as := [.int x2, .int 1, .int 30]) (r := []) (v := (some (.int z1))) (h2 := h1) c59_12 qo59 (by decide) qK11_108 rfl rfl rfl (Nat.le_of_ble_eq_true rfl) e2 ?_
  refine qe_if_ne_T (t := 20) c59_15 rfl e3 ?_
  exact kk
theorem b59_18 {d : Nat} {h : qH} {r0 : Nat} {x1 : Int32} {x2 : Int32}   : qE d 59 18 [some (.ref r0), some (.int x1), some (.int x2), none, none] [] h (some (.int (-1)), h) := by
  refine qe_iconst (x := (-1)) c59_18 (by decide) ?_
  exact qe_iret c59_19 qr59
theorem b59_20 {d : Nat} {q : Option Value × qH} {h : qH} {r0 : Nat} {x1 : Int32} {x2 : Int32} {fs1 : List Value} {y3 : Nat} {fs5 : List Value} {y7 : Int32}  (e2 : h.2.2 r0 = some (.inr (11, fs1))) (e4 : fs1[1]? = some (.ref y3)) (e6 : h.2.2 y3 = some (.inr (8, fs5))) (e8 : fs5[0]? = some (.int y7)) (kk : qE d 59 28 [some (.ref r0), some (.int x1), some (.int x2), some (.int y7), none] [] h q): qE d 59 20 [some (.ref r0), some (.int x1), some (.int x2), none, none] [] h q := by
  refine qe_aload_n c59_20 rfl ?_
  refine qe_getfield c59_21 qo59 qF11_19 e2 e4 ?_
  refine qe_getfield c59_24 qo59 qF11_97 e6 e8 ?_
  refine qe_istore_n (ls2 := [some (.ref r0), some (.int x1), some (.int x2), some (.int y7), none]) c59_27 (Nat.le_of_ble_eq_true rfl) rfl ?_
  exact kk
theorem b59_28F {d : Nat} {q : Option Value × qH} {h : qH} {r0 : Nat} {x1 : Int32} {x2 : Int32} {x3 : Int32} {o4 : Option Value}  (e1 : ¬ ((x3 : Int32) < 0)) (kk : qE d 59 32 [some (.ref r0), some (.int x1), some (.int x2), some (.int x3), o4] [] h q): qE d 59 28 [some (.ref r0), some (.int x1), some (.int x2), some (.int x3), o4] [] h q := by
  refine qe_iload_n c59_28 rfl ?_
  refine qe_if_lt_F (t := 63) c59_29 rfl e1 ?_
  exact kk
theorem b59_28T {d : Nat} {q : Option Value × qH} {h : qH} {r0 : Nat} {x1 : Int32} {x2 : Int32} {x3 : Int32} {o4 : Option Value}  (e1 : (x3 : Int32) < 0) (kk : qE d 59 63 [some (.ref r0), some (.int x1), some (.int x2), some (.int x3), o4] [] h q): qE d 59 28 [some (.ref r0), some (.int x1), some (.int x2), some (.int x3), o4] [] h q := by
  refine qe_iload_n c59_28 rfl ?_
  refine qe_if_lt_T (t := 63) c59_29 rfl e1 ?_
  exact kk
theorem b59_28n4F {d : Nat} {q : Option Value × qH} {h : qH} {r0 : Nat} {x1 : Int32} {x2 : Int32} {x3 : Int32}  (e1 : ¬ ((x3 : Int32) < 0)) (kk : qE d 59 32 [some (.ref r0), some (.int x1), some (.int x2), some (.int x3), some (.null)] [] h q): qE d 59 28 [some (.ref r0), some (.int x1), some (.int x2), some (.int x3), some (.null)] [] h q := by
  refine qe_iload_n c59_28 rfl ?_
  refine qe_if_lt_F (t := 63) c59_29 rfl e1 ?_
  exact kk
theorem b59_28n4T {d : Nat} {q : Option Value × qH} {h : qH} {r0 : Nat} {x1 : Int32} {x2 : Int32} {x3 : Int32}  (e1 : (x3 : Int32) < 0) (kk : qE d 59 63 [some (.ref r0), some (.int x1), some (.int x2), some (.int x3), some (.null)] [] h q): qE d 59 28 [some (.ref r0), some (.int x1), some (.int x2), some (.int x3), some (.null)] [] h q := by
  refine qe_iload_n c59_28 rfl ?_
  refine qe_if_lt_T (t := 63) c59_29 rfl e1 ?_
  exact kk
theorem b59_32n {d : Nat} {q : Option Value × qH} {h : qH} {r0 : Nat} {x1 : Int32} {x2 : Int32} {x3 : Int32} {o4 : Option Value} {fs1 : List Value} {h1 : qH}  (e2 : h.2.2 r0 = some (.inr (11, fs1))) (e3 : qCall d 73 [.ref r0, .int x3] h ((some .null), h1)) (kk : qE d 59 57 [some (.ref r0), some (.int x1), some (.int x2), some (.int x3), some (.null)] [] h1 q): qE d 59 32 [some (.ref r0), some (.int x1), some (.int x2), some (.int x3), o4] [] h q := by
  refine qe_aload_n c59_32 rfl ?_
  refine qe_iload_n c59_33 rfl ?_
  refine qe_virtual (b := r0) (as := [.int x3]) (r := []) (v := (some .null)) (h2 := h1) c59_34 qo59 qK11_285 rfl rfl rfl (by rw [qo73]; exact e2) (Nat.le_of_ble_eq_true rfl) e3 ?_
  refine qe_astoreN (ls2 := [some (.ref r0), some (.int x1), some (.int x2), some (.int x3), some (.null)]) c59_37 (Nat.le_of_ble_eq_true rfl) rfl ?_
  refine qe_aloadN c59_39 rfl ?_
  refine qe_ifnull_T (t := 57) c59_41 rfl ?_
  exact kk
theorem b59_32r {d : Nat} {q : Option Value × qH} {h : qH} {r0 : Nat} {x1 : Int32} {x2 : Int32} {x3 : Int32} {o4 : Option Value} {fs1 : List Value} {h1 : qH} {z3 : Nat}  (e2 : h.2.2 r0 = some (.inr (11, fs1))) (e4 : qCall d 73 [.ref r0, .int x3] h ((some (.ref z3)), h1)) (kk : qE d 59 44 [some (.ref r0), some (.int x1), some (.int x2), some (.int x3), some (.ref z3)] [] h1 q): qE d 59 32 [some (.ref r0), some (.int x1), some (.int x2), some (.int x3), o4] [] h q := by
  refine qe_aload_n c59_32 rfl ?_
  refine qe_iload_n c59_33 rfl ?_
  refine qe_virtual (b := r0) (as := [.int x3]) (r := []) (v := (some (.ref z3))) (h2 := h1) c59_34 qo59 qK11_285 rfl rfl rfl (by rw [qo73]; exact e2) (Nat.le_of_ble_eq_true rfl) e4 ?_
  refine qe_astore (ls2 := [some (.ref r0), some (.int x1), some (.int x2), some (.int x3), some (.ref z3)]) c59_37 (Nat.le_of_ble_eq_true rfl) rfl ?_
  refine qe_aload c59_39 rfl ?_
  refine qe_ifnull_F c59_41 ?_
  exact kk
theorem b59_32n4n {d : Nat} {q : Option Value × qH} {h : qH} {r0 : Nat} {x1 : Int32} {x2 : Int32} {x3 : Int32} {fs1 : List Value} {h1 : qH}  (e2 : h.2.2 r0 = some (.inr (11, fs1))) (e3 : qCall d 73 [.ref r0, .int x3] h ((some .null), h1)) (kk : qE d 59 57 [some (.ref r0), some (.int x1), some (.int x2), some (.int x3), some (.null)] [] h1 q): qE d 59 32 [some (.ref r0), some (.int x1), some (.int x2), some (.int x3), some (.null)] [] h q := by
  refine qe_aload_n c59_32 rfl ?_
  refine qe_iload_n c59_33 rfl ?_
  refine qe_virtual (b := r0) (as := [.int x3]) (r := []) (v := (some .null)) (h2 := h1) c59_34 qo59 qK11_285 rfl rfl rfl (by rw [qo73]; exact e2) (Nat.le_of_ble_eq_true rfl) e3 ?_
  refine qe_astoreN (ls2 := [some (.ref r0), some (.int x1), some (.int x2), some (.int x3), some (.null)]) c59_37 (Nat.le_of_ble_eq_true rfl) rfl ?_
  refine qe_aloadN c59_39 rfl ?_
  refine qe_ifnull_T (t := 57) c59_41 rfl ?_
  exact kk
theorem b59_32n4r {d : Nat} {q : Option Value × qH} {h : qH} {r0 : Nat} {x1 : Int32} {x2 : Int32} {x3 : Int32} {fs1 : List Value} {h1 : qH} {z3 : Nat}  (e2 : h.2.2 r0 = some (.inr (11, fs1))) (e4 : qCall d 73 [.ref r0, .int x3] h ((some (.ref z3)), h1)) (kk : qE d 59 44 [some (.ref r0), some (.int x1), some (.int x2), some (.int x3), some (.ref z3)] [] h1 q): qE d 59 32 [some (.ref r0), some (.int x1), some (.int x2), some (.int x3), some (.null)] [] h q := by
  refine qe_aload_n c59_32 rfl ?_
  refine qe_iload_n c59_33 rfl ?_
  refine qe_virtual (b := r0) (as := [.int x3]) (r := []) (v := (some (.ref z3))) (h2 := h1) c59_34 qo59 qK11_285 rfl rfl rfl (by rw [qo73]; exact e2) (Nat.le_of_ble_eq_true rfl) e4 ?_
  refine qe_astore (ls2 := [some (.ref r0), some (.int x1), some (.int x2), some (.int x3), some (.ref z3)]) c59_37 (Nat.le_of_ble_eq_true rfl) rfl ?_
  refine qe_aload c59_39 rfl ?_
  refine qe_ifnull_F c59_41 ?_
  exact kk
theorem b59_44F {d : Nat} {q : Option Value × qH} {h : qH} {r0 : Nat} {x1 : Int32} {x2 : Int32} {x3 : Int32} {r4 : Nat} {fs1 : List Value} {h1 : qH} {z3 : Int32}  (e2 : h.2.2 r0 = some (.inr (11, fs1))) (e4 : qCall d 54 [.ref r0, .ref r4, .int x1, .int x2] h ((some (.int z3)), h1)) (e5 : ¬ ((z3 : Int32) = 0)) (kk : qE d 59 55 [some (.ref r0), some (.int x1), some (.int x2), some (.int x3), some (.ref r4)] [] h1 q): qE d 59 44 [some (.ref r0), some (.int x1), some (.int x2), some (.int x3), some (.ref r4)] [] h q := by
  refine qe_aload_n c59_44 rfl ?_
  refine qe_aload c59_45 rfl ?_
  refine qe_iload_n c59_47 rfl ?_
  refine qe_iload_n c59_48 rfl ?_
  refine qe_virtual (b := r0) (as := [.ref r4, .int x1, .int x2]) (r := []) (v := (some (.int z3))) (h2 := h1) c59_49 qo59 qK11_289 rfl rfl rfl (by rw [qo54]; exact e2) (Nat.le_of_ble_eq_true rfl) e4 ?_
  refine qe_if_eq_F (t := 57) c59_52 rfl e5 ?_
  exact kk
theorem b59_44T {d : Nat} {q : Option Value × qH} {h : qH} {r0 : Nat} {x1 : Int32} {x2 : Int32} {x3 : Int32} {r4 : Nat} {fs1 : List Value} {h1 : qH} {z3 : Int32}  (e2 : h.2.2 r0 = some (.inr (11, fs1))) (e4 : qCall d 54 [.ref r0, .ref r4, .int x1, .int x2] h ((some (.int z3)), h1)) (e5 : (z3 : Int32) = 0) (kk : qE d 59 57 [some (.ref r0), some (.int x1), some (.int x2), some (.int x3), some (.ref r4)] [] h1 q): qE d 59 44 [some (.ref r0), some (.int x1), some (.int x2), some (.int x3), some (.ref r4)] [] h q := by
  refine qe_aload_n c59_44 rfl ?_
  refine qe_aload c59_45 rfl ?_
  refine qe_iload_n c59_47 rfl ?_
  refine qe_iload_n c59_48 rfl ?_
  refine qe_virtual (b := r0) (as := [.ref r4, .int x1, .int x2]) (r := []) (v := (some (.int z3))) (h2 := h1) c59_49 qo59 qK11_289 rfl rfl rfl (by rw [qo54]; exact e2) (Nat.le_of_ble_eq_true rfl) e4 ?_
  refine qe_if_eq_T (t := 57) c59_52 rfl e5 ?_
  exact kk
theorem b59_55 {d : Nat} {h : qH} {r0 : Nat} {x1 : Int32} {x2 : Int32} {x3 : Int32} {r4 : Nat}   : qE d 59 55 [some (.ref r0), some (.int x1), some (.int x2), some (.int x3), some (.ref r4)] [] h (some (.int x3), h) := by
  refine qe_iload_n c59_55 rfl ?_
  exact qe_iret c59_56 qr59
theorem b59_57 {d : Nat} {q : Option Value × qH} {h : qH} {r0 : Nat} {x1 : Int32} {x2 : Int32} {x3 : Int32} {r4 : Nat}   (kk : qE d 59 28 [some (.ref r0), some (.int x1), some (.int x2), some (.int (x3 + (-1))), some (.ref r4)] [] h q): qE d 59 57 [some (.ref r0), some (.int x1), some (.int x2), some (.int x3), some (.ref r4)] [] h q := by
  refine qe_iinc (y := (x3 + (-1))) (ls2 := [some (.ref r0), some (.int x1), some (.int x2), some (.int (x3 + (-1))), some (.ref r4)]) c59_57 rfl (Nat.le_of_ble_eq_true rfl) rfl rfl ?_
  refine qe_goto (t := 28) c59_60 rfl ?_
  exact kk
theorem b59_57n4 {d : Nat} {q : Option Value × qH} {h : qH} {r0 : Nat} {x1 : Int32} {x2 : Int32} {x3 : Int32}   (kk : qE d 59 28 [some (.ref r0), some (.int x1), some (.int x2), some (.int (x3 + (-1))), some (.null)] [] h q): qE d 59 57 [some (.ref r0), some (.int x1), some (.int x2), some (.int x3), some (.null)] [] h q := by
  refine qe_iinc (y := (x3 + (-1))) (ls2 := [some (.ref r0), some (.int x1), some (.int x2), some (.int (x3 + (-1))), some (.null)]) c59_57 rfl (Nat.le_of_ble_eq_true rfl) rfl rfl ?_
  refine qe_goto (t := 28) c59_60 rfl ?_
  exact kk
theorem b59_63 {d : Nat} {h : qH} {r0 : Nat} {x1 : Int32} {x2 : Int32} {x3 : Int32} {o4 : Option Value}   : qE d 59 63 [some (.ref r0), some (.int x1), some (.int x2), some (.int x3), o4] [] h (some (.int (-1)), h) := by
  refine qe_iconst (x := (-1)) c59_63 (by decide) ?_
  exact qe_iret c59_64 qr59
theorem b59_63n4 {d : Nat} {h : qH} {r0 : Nat} {x1 : Int32} {x2 : Int32} {x3 : Int32}   : qE d 59 63 [some (.ref r0), some (.int x1), some (.int x2), some (.int x3), some (.null)] [] h (some (.int (-1)), h) := by
  refine qe_iconst (x := (-1)) c59_63 (by decide) ?_
  exact qe_iret c59_64 qr59
theorem b60_0n {d : Nat} {q : Option Value × qH} {h : qH} {r0 : Nat} {x1 : Int32} {x2 : Int32} {fs1 : List Value} {h1 : qH}  (e2 : h.2.2 r0 = some (.inr (11, fs1))) (e3 : qCall d 73 [.ref r0, .int x1] h ((some .null), h1)) (kk : qE d 60 20 [some (.ref r0), some (.int x1), some (.int x2), some (.null)] [] h1 q): qE d 60 0 [some (.ref r0), some (.int x1), some (.int x2), none] [] h q := by
  refine qe_aload_n c60_0 rfl ?_
  refine qe_iload_n c60_1 rfl ?_
  refine qe_virtual (b := r0) (as := [.int x1]) (r := []) (v := (some .null)) (h2 := h1) c60_2 qo60 qK11_285 rfl rfl rfl (by rw [qo73]; exact e2) (Nat.le_of_ble_eq_true rfl) e3 ?_
  refine qe_astore_nN (ls2 := [some (.ref r0), some (.int x1), some (.int x2), some (.null)]) c60_5 (Nat.le_of_ble_eq_true rfl) rfl ?_
  refine qe_aload_nN c60_6 rfl ?_
  refine qe_ifnull_T (t := 20) c60_7 rfl ?_
  exact kk
theorem b60_0r {d : Nat} {q : Option Value × qH} {h : qH} {r0 : Nat} {x1 : Int32} {x2 : Int32} {fs1 : List Value} {h1 : qH} {z3 : Nat}  (e2 : h.2.2 r0 = some (.inr (11, fs1))) (e4 : qCall d 73 [.ref r0, .int x1] h ((some (.ref z3)), h1)) (kk : qE d 60 10 [some (.ref r0), some (.int x1), some (.int x2), some (.ref z3)] [] h1 q): qE d 60 0 [some (.ref r0), some (.int x1), some (.int x2), none] [] h q := by
  refine qe_aload_n c60_0 rfl ?_
  refine qe_iload_n c60_1 rfl ?_
  refine qe_virtual (b := r0) (as := [.int x1]) (r := []) (v := (some (.ref z3))) (h2 := h1) c60_2 qo60 qK11_285 rfl rfl rfl (by rw [qo73]; exact e2) (Nat.le_of_ble_eq_true rfl) e4 ?_
  refine qe_astore_n (ls2 := [some (.ref r0), some (.int x1), some (.int x2), some (.ref z3)]) c60_5 (Nat.le_of_ble_eq_true rfl) rfl ?_
  refine qe_aload_n c60_6 rfl ?_
  refine qe_ifnull_F c60_7 ?_
  exact kk
theorem b60_10F {d : Nat} {q : Option Value × qH} {h : qH} {r0 : Nat} {x1 : Int32} {x2 : Int32} {r3 : Nat} {h1 : qH} {z1 : Int32}  (e2 : qCall d 80 [.int x2, .int 1, .int 30] h ((some (.int z1)), h1)) (e3 : (z1 : Int32) = 0) (kk : qE d 60 20 [some (.ref r0), some (.int x1), some (.int x2), some (.ref r3)] [] h1 q): qE d 60 10 [some (.ref r0), some (.int x1), some (.int x2), some (.ref r3)] [] h q := by
  refine qe_iload_n c60_10 rfl ?_
  refine qe_iconst (x := 1) c60_11 (by decide) ?_
  refine qe_bipush (x := 30) c60_12 (by decide) ?_
  refine qe_static (as := [.int x2, .int 1, .int 30]) (r := []) (v := (some (.int z1))) (h2 := h1) c60_14 qo60 (by decide) qK11_108 rfl rfl rfl (Nat.le_of_ble_eq_true rfl) e2 ?_
  refine qe_if_ne_F (t := 22) c60_17 rfl e3 ?_
  exact kk
theorem b60_10T {d : Nat} {q : Option Value × qH} {h : qH} {r0 : Nat} {x1 : Int32} {x2 : Int32} {r3 : Nat} {h1 : qH} {z1 : Int32}  (e2 : qCall d 80 [.int x2, .int 1, .int 30] h ((some (.int z1)), h1)) (e3 : ¬ ((z1 : Int32) = 0)) (kk : qE d 60 22 [some (.ref r0), some (.int x1), some (.int x2), some (.ref r3)] [] h1 q): qE d 60 10 [some (.ref r0), some (.int x1), some (.int x2), some (.ref r3)] [] h q := by
  refine qe_iload_n c60_10 rfl ?_
  refine qe_iconst (x := 1) c60_11 (by decide) ?_
  refine qe_bipush (x := 30) c60_12 (by decide) ?_
  refine qe_static (as := [.int x2, .int 1, .int 30]) (r := []) (v := (some (.int z1))) (h2 := h1) c60_14 qo60 (by decide) qK11_108 rfl rfl rfl (Nat.le_of_ble_eq_true rfl) e2 ?_
  refine qe_if_ne_T (t := 22) c60_17 rfl e3 ?_
  exact kk
theorem b60_20 {d : Nat} {h : qH} {r0 : Nat} {x1 : Int32} {x2 : Int32} {r3 : Nat}   : qE d 60 20 [some (.ref r0), some (.int x1), some (.int x2), some (.ref r3)] [] h (some (.int (-1)), h) := by
  refine qe_iconst (x := (-1)) c60_20 (by decide) ?_
  exact qe_iret c60_21 qr60
theorem b60_20n3 {d : Nat} {h : qH} {r0 : Nat} {x1 : Int32} {x2 : Int32}   : qE d 60 20 [some (.ref r0), some (.int x1), some (.int x2), some (.null)] [] h (some (.int (-1)), h) := by
  refine qe_iconst (x := (-1)) c60_20 (by decide) ?_
  exact qe_iret c60_21 qr60
theorem b60_22 {d : Nat} {h : qH} {r0 : Nat} {x1 : Int32} {x2 : Int32} {r3 : Nat} {fs1 : List Value} {h1 : qH} {z3 : Int32}  (e2 : h.2.2 r0 = some (.inr (11, fs1))) (e4 : qCall d 61 [.ref r0, .ref r3, .int x2] h ((some (.int z3)), h1)) : qE d 60 22 [some (.ref r0), some (.int x1), some (.int x2), some (.ref r3)] [] h (some (.int z3), h1) := by
  refine qe_aload_n c60_22 rfl ?_
  refine qe_aload_n c60_23 rfl ?_
  refine qe_iload_n c60_24 rfl ?_
  refine qe_virtual (b := r0) (as := [.ref r3, .int x2]) (r := []) (v := (some (.int z3))) (h2 := h1) c60_25 qo60 qK11_293 rfl rfl rfl (by rw [qo61]; exact e2) (Nat.le_of_ble_eq_true rfl) e4 ?_
  exact qe_iret c60_28 qr60
theorem b61_0 {d : Nat} {q : Option Value × qH} {h : qH} {r0 : Nat} {r1 : Nat} {x2 : Int32}   (kk : qE d 61 12 [some (.ref r0), some (.ref r1), some (.int x2), some (.int (-2)), some (.int 0), some (.int 0), some (.int 0), none, none, none] [] h q): qE d 61 0 [some (.ref r0), some (.ref r1), some (.int x2), none, none, none, none, none, none, none] [] h q := by
  refine qe_bipush (x := (-2)) c61_0 (by decide) ?_
  refine qe_istore_n (ls2 := [some (.ref r0), some (.ref r1), some (.int x2), some (.int (-2)), none, none, none, none, none, none]) c61_2 (Nat.le_of_ble_eq_true rfl) rfl ?_
  refine qe_iconst (x := 0) c61_3 (by decide) ?_
  refine qe_istore (ls2 := [some (.ref r0), some (.ref r1), some (.int x2), some (.int (-2)), some (.int 0), none, none, none, none, none]) c61_4 (Nat.le_of_ble_eq_true rfl) rfl ?_
  refine qe_iconst (x := 0) c61_6 (by decide) ?_
  refine qe_istore (ls2 := [some (.ref r0), some (.ref r1), some (.int x2), some (.int (-2)), some (.int 0), some (.int 0), none, none, none, none]) c61_7 (Nat.le_of_ble_eq_true rfl) rfl ?_
  refine qe_iconst (x := 0) c61_9 (by decide) ?_
  refine qe_istore (ls2 := [some (.ref r0), some (.ref r1), some (.int x2), some (.int (-2)), some (.int 0), some (.int 0), some (.int 0), none, none, none]) c61_10 (Nat.le_of_ble_eq_true rfl) rfl ?_
  exact kk
theorem b61_12F {d : Nat} {q : Option Value × qH} {h : qH} {r0 : Nat} {r1 : Nat} {x2 : Int32} {x3 : Int32} {x4 : Int32} {x5 : Int32} {x6 : Int32} {o7 : Option Value} {o8 : Option Value} {o9 : Option Value} {fs1 : List Value} {y3 : Nat} {fs5 : List Value} {y7 : Int32}  (e2 : h.2.2 r0 = some (.inr (11, fs1))) (e4 : fs1[0]? = some (.ref y3)) (e6 : h.2.2 y3 = some (.inr (4, fs5))) (e8 : fs5[0]? = some (.int y7)) (e9 : ¬ (((1 <<< (y7 &&& 31)) : Int32) ≤ x6)) (kk : qE d 61 26 [some (.ref r0), some (.ref r1), some (.int x2), some (.int x3), some (.int x4), some (.int x5), some (.int x6), o7, o8, o9] [] h q): qE d 61 12 [some (.ref r0), some (.ref r1), some (.int x2), some (.int x3), some (.int x4), some (.int x5), some (.int x6), o7, o8, o9] [] h q := by
  refine qe_iload c61_12 rfl ?_
  refine qe_iconst (x := 1) c61_14 (by decide) ?_
  refine qe_aload_n c61_15 rfl ?_
  refine qe_getfield c61_16 qo61 qF11_10 e2 e4 ?_
  refine qe_getfield c61_19 qo61 qF11_101 e6 e8 ?_
  refine qe_ishl c61_22 ?_
  refine qe_icmp_ge_F (t := 115) c61_23 rfl e9 ?_
  exact kk
theorem b61_12T {d : Nat} {q : Option Value × qH} {h : qH} {r0 : Nat} {r1 : Nat} {x2 : Int32} {x3 : Int32} {x4 : Int32} {x5 : Int32} {x6 : Int32} {o7 : Option Value} {o8 : Option Value} {o9 : Option Value} {fs1 : List Value} {y3 : Nat} {fs5 : List Value} {y7 : Int32}  (e2 : h.2.2 r0 = some (.inr (11, fs1))) (e4 : fs1[0]? = some (.ref y3)) (e6 : h.2.2 y3 = some (.inr (4, fs5))) (e8 : fs5[0]? = some (.int y7)) (e9 : ((1 <<< (y7 &&& 31)) : Int32) ≤ x6) (kk : qE d 61 115 [some (.ref r0), some (.ref r1), some (.int x2), some (.int x3), some (.int x4), some (.int x5), some (.int x6), o7, o8, o9] [] h q): qE d 61 12 [some (.ref r0), some (.ref r1), some (.int x2), some (.int x3), some (.int x4), some (.int x5), some (.int x6), o7, o8, o9] [] h q := by
  refine qe_iload c61_12 rfl ?_
  refine qe_iconst (x := 1) c61_14 (by decide) ?_
  refine qe_aload_n c61_15 rfl ?_
  refine qe_getfield c61_16 qo61 qF11_10 e2 e4 ?_
  refine qe_getfield c61_19 qo61 qF11_101 e6 e8 ?_
  refine qe_ishl c61_22 ?_
  refine qe_icmp_ge_T (t := 115) c61_23 rfl e9 ?_
  exact kk
theorem b61_26F {d : Nat} {q : Option Value × qH} {h : qH} {r0 : Nat} {r1 : Nat} {x2 : Int32} {x3 : Int32} {x4 : Int32} {x5 : Int32} {x6 : Int32} {o7 : Option Value} {o8 : Option Value} {o9 : Option Value} {fs1 : List Value} {y3 : Int32} {h1 : qH} {z5 : Int32} {h2 : qH} {z7 : Int32}  (e2 : h.2.2 r1 = some (.inr (8, fs1))) (e4 : fs1[1]? = some (.int y3)) (e6 : qCall d 244 [.ref r1, .int (x6 &&& (y3 ^^^ (-1)))] h ((some (.int z5)), h1)) (e8 : qCall d 1 [.int x6] h1 ((some (.int z7)), h2)) (e9 : ¬ ((x3 : Int32) = (-2))) (kk : qE d 61 54 [some (.ref r0), some (.ref r1), some (.int x2), some (.int x3), some (.int x4), some (.int x5), some (.int x6), some (.int z5), some (.int z7), o9] [] h2 q): qE d 61 26 [some (.ref r0), some (.ref r1), some (.int x2), some (.int x3), some (.int x4), some (.int x5), some (.int x6), o7, o8, o9] [] h q := by
  refine qe_aload_n c61_26 rfl ?_
  refine qe_iload c61_27 rfl ?_
  refine qe_aload_n c61_29 rfl ?_
  refine qe_getfield c61_30 qo61 qF11_161 e2 e4 ?_
  refine qe_iconst (x := (-1)) c61_33 (by decide) ?_
  refine qe_ixor c61_34 ?_
  refine qe_iand c61_35 ?_
  refine qe_virtual (b := r1) (as := [.int (x6 &&& (y3 ^^^ (-1)))]) (r := []) (v := (some (.int z5))) (h2 := h1) c61_36 qo61 qK11_350 rfl rfl rfl (by rw [qo244]; exact e2) (Nat.le_of_ble_eq_true rfl) e6 ?_
  refine qe_istore (ls2 := [some (.ref r0), some (.ref r1), some (.int x2), some (.int x3), some (.int x4), some (.int x5), some (.int x6), some (.int z5), o8, o9]) c61_39 (Nat.le_of_ble_eq_true rfl) rfl ?_
  refine qe_iload c61_41 rfl ?_
  refine qe_static (as := [.int x6]) (r := []) (v := (some (.int z7))) (h2 := h2) c61_43 qo61 (by decide) qK11_367 rfl rfl rfl (Nat.le_of_ble_eq_true rfl) e8 ?_
  refine qe_istore (ls2 := [some (.ref r0), some (.ref r1), some (.int x2), some (.int x3), some (.int x4), some (.int x5), some (.int x6), some (.int z5), some (.int z7), o9]) c61_46 (Nat.le_of_ble_eq_true rfl) rfl ?_
  refine qe_iload_n c61_48 rfl ?_
  refine qe_bipush (x := (-2)) c61_49 (by decide) ?_
  refine qe_icmp_eq_F (t := 75) c61_51 rfl e9 ?_
  exact kk
theorem b61_26T {d : Nat} {q : Option Value × qH} {h : qH} {r0 : Nat} {r1 : Nat} {x2 : Int32} {x3 : Int32} {x4 : Int32} {x5 : Int32} {x6 : Int32} {o7 : Option Value} {o8 : Option Value} {o9 : Option Value} {fs1 : List Value} {y3 : Int32} {h1 : qH} {z5 : Int32} {h2 : qH} {z7 : Int32}  (e2 : h.2.2 r1 = some (.inr (8, fs1))) (e4 : fs1[1]? = some (.int y3)) (e6 : qCall d 244 [.ref r1, .int (x6 &&& (y3 ^^^ (-1)))] h ((some (.int z5)), h1)) (e8 : qCall d 1 [.int x6] h1 ((some (.int z7)), h2)) (e9 : (x3 : Int32) = (-2)) (kk : qE d 61 75 [some (.ref r0), some (.ref r1), some (.int x2), some (.int x3), some (.int x4), some (.int x5), some (.int x6), some (.int z5), some (.int z7), o9] [] h2 q): qE d 61 26 [some (.ref r0), some (.ref r1), some (.int x2), some (.int x3), some (.int x4), some (.int x5), some (.int x6), o7, o8, o9] [] h q := by
  refine qe_aload_n c61_26 rfl ?_
  refine qe_iload c61_27 rfl ?_
  refine qe_aload_n c61_29 rfl ?_
  refine qe_getfield c61_30 qo61 qF11_161 e2 e4 ?_
  refine qe_iconst (x := (-1)) c61_33 (by decide) ?_
  refine qe_ixor c61_34 ?_
  refine qe_iand c61_35 ?_
  refine qe_virtual (b := r1) (as := [.int (x6 &&& (y3 ^^^ (-1)))]) (r := []) (v := (some (.int z5))) (h2 := h1) c61_36 qo61 qK11_350 rfl rfl rfl (by rw [qo244]; exact e2) (Nat.le_of_ble_eq_true rfl) e6 ?_
  refine qe_istore (ls2 := [some (.ref r0), some (.ref r1), some (.int x2), some (.int x3), some (.int x4), some (.int x5), some (.int x6), some (.int z5), o8, o9]) c61_39 (Nat.le_of_ble_eq_true rfl) rfl ?_
  refine qe_iload c61_41 rfl ?_
  refine qe_static (as := [.int x6]) (r := []) (v := (some (.int z7))) (h2 := h2) c61_43 qo61 (by decide) qK11_367 rfl rfl rfl (Nat.le_of_ble_eq_true rfl) e8 ?_
  refine qe_istore (ls2 := [some (.ref r0), some (.ref r1), some (.int x2), some (.int x3), some (.int x4), some (.int x5), some (.int x6), some (.int z5), some (.int z7), o9]) c61_46 (Nat.le_of_ble_eq_true rfl) rfl ?_
  refine qe_iload_n c61_48 rfl ?_
  refine qe_bipush (x := (-2)) c61_49 (by decide) ?_
  refine qe_icmp_eq_T (t := 75) c61_51 rfl e9 ?_
  exact kk
theorem b61_54F {d : Nat} {q : Option Value × qH} {h : qH} {r0 : Nat} {r1 : Nat} {x2 : Int32} {x3 : Int32} {x4 : Int32} {x5 : Int32} {x6 : Int32} {x7 : Int32} {x8 : Int32} {o9 : Option Value}  (e1 : ¬ ((x7 : Int32) < x4)) (kk : qE d 61 61 [some (.ref r0), some (.ref r1), some (.int x2), some (.int x3), some (.int x4), some (.int x5), some (.int x6), some (.int x7), some (.int x8), o9] [] h q): qE d 61 54 [some (.ref r0), some (.ref r1), some (.int x2), some (.int x3), some (.int x4), some (.int x5), some (.int x6), some (.int x7), some (.int x8), o9] [] h q := by
  refine qe_iload c61_54 rfl ?_
  refine qe_iload c61_56 rfl ?_
  refine qe_icmp_lt_F (t := 75) c61_58 rfl e1 ?_
  exact kk
theorem b61_54T {d : Nat} {q : Option Value × qH} {h : qH} {r0 : Nat} {r1 : Nat} {x2 : Int32} {x3 : Int32} {x4 : Int32} {x5 : Int32} {x6 : Int32} {x7 : Int32} {x8 : Int32} {o9 : Option Value}  (e1 : (x7 : Int32) < x4) (kk : qE d 61 75 [some (.ref r0), some (.ref r1), some (.int x2), some (.int x3), some (.int x4), some (.int x5), some (.int x6), some (.int x7), some (.int x8), o9] [] h q): qE d 61 54 [some (.ref r0), some (.ref r1), some (.int x2), some (.int x3), some (.int x4), some (.int x5), some (.int x6), some (.int x7), some (.int x8), o9] [] h q := by
  refine qe_iload c61_54 rfl ?_
  refine qe_iload c61_56 rfl ?_
  refine qe_icmp_lt_T (t := 75) c61_58 rfl e1 ?_
  exact kk
theorem b61_61F {d : Nat} {q : Option Value × qH} {h : qH} {r0 : Nat} {r1 : Nat} {x2 : Int32} {x3 : Int32} {x4 : Int32} {x5 : Int32} {x6 : Int32} {x7 : Int32} {x8 : Int32} {o9 : Option Value}  (e1 : (x7 : Int32) = x4) (kk : qE d 61 68 [some (.ref r0), some (.ref r1), some (.int x2), some (.int x3), some (.int x4), some (.int x5), some (.int x6), some (.int x7), some (.int x8), o9] [] h q): qE d 61 61 [some (.ref r0), some (.ref r1), some (.int x2), some (.int x3), some (.int x4), some (.int x5), some (.int x6), some (.int x7), some (.int x8), o9] [] h q := by
  refine qe_iload c61_61 rfl ?_
  refine qe_iload c61_63 rfl ?_
  refine qe_icmp_ne_F (t := 79) c61_65 rfl e1 ?_
  exact kk
theorem b61_61T {d : Nat} {q : Option Value × qH} {h : qH} {r0 : Nat} {r1 : Nat} {x2 : Int32} {x3 : Int32} {x4 : Int32} {x5 : Int32} {x6 : Int32} {x7 : Int32} {x8 : Int32} {o9 : Option Value}  (e1 : ¬ ((x7 : Int32) = x4)) (kk : qE d 61 79 [some (.ref r0), some (.ref r1), some (.int x2), some (.int x3), some (.int x4), some (.int x5), some (.int x6), some (.int x7), some (.int x8), o9] [] h q): qE d 61 61 [some (.ref r0), some (.ref r1), some (.int x2), some (.int x3), some (.int x4), some (.int x5), some (.int x6), some (.int x7), some (.int x8), o9] [] h q := by
  refine qe_iload c61_61 rfl ?_
  refine qe_iload c61_63 rfl ?_
  refine qe_icmp_ne_T (t := 79) c61_65 rfl e1 ?_
  exact kk
theorem b61_68F {d : Nat} {q : Option Value × qH} {h : qH} {r0 : Nat} {r1 : Nat} {x2 : Int32} {x3 : Int32} {x4 : Int32} {x5 : Int32} {x6 : Int32} {x7 : Int32} {x8 : Int32} {o9 : Option Value}  (e1 : ¬ ((x5 : Int32) ≤ x8)) (kk : qE d 61 75 [some (.ref r0), some (.ref r1), some (.int x2), some (.int x3), some (.int x4), some (.int x5), some (.int x6), some (.int x7), some (.int x8), o9] [] h q): qE d 61 68 [some (.ref r0), some (.ref r1), some (.int x2), some (.int x3), some (.int x4), some (.int x5), some (.int x6), some (.int x7), some (.int x8), o9] [] h q := by
  refine qe_iload c61_68 rfl ?_
  refine qe_iload c61_70 rfl ?_
  refine qe_icmp_ge_F (t := 79) c61_72 rfl e1 ?_
  exact kk
theorem b61_68T {d : Nat} {q : Option Value × qH} {h : qH} {r0 : Nat} {r1 : Nat} {x2 : Int32} {x3 : Int32} {x4 : Int32} {x5 : Int32} {x6 : Int32} {x7 : Int32} {x8 : Int32} {o9 : Option Value}  (e1 : (x5 : Int32) ≤ x8) (kk : qE d 61 79 [some (.ref r0), some (.ref r1), some (.int x2), some (.int x3), some (.int x4), some (.int x5), some (.int x6), some (.int x7), some (.int x8), o9] [] h q): qE d 61 68 [some (.ref r0), some (.ref r1), some (.int x2), some (.int x3), some (.int x4), some (.int x5), some (.int x6), some (.int x7), some (.int x8), o9] [] h q := by
  refine qe_iload c61_68 rfl ?_
  refine qe_iload c61_70 rfl ?_
  refine qe_icmp_ge_T (t := 79) c61_72 rfl e1 ?_
  exact kk
theorem b61_75 {d : Nat} {q : Option Value × qH} {h : qH} {r0 : Nat} {r1 : Nat} {x2 : Int32} {x3 : Int32} {x4 : Int32} {x5 : Int32} {x6 : Int32} {x7 : Int32} {x8 : Int32} {o9 : Option Value}   (kk : qE d 61 80 [some (.ref r0), some (.ref r1), some (.int x2), some (.int x3), some (.int x4), some (.int x5), some (.int x6), some (.int x7), some (.int x8), o9] [.int 1] h q): qE d 61 75 [some (.ref r0), some (.ref r1), some (.int x2), some (.int x3), some (.int x4), some (.int x5), some (.int x6), some (.int x7), some (.int x8), o9] [] h q := by
  refine qe_iconst (x := 1) c61_75 (by decide) ?_
  refine qe_goto (t := 80) c61_76 rfl ?_
  exact kk
theorem b61_79 {d : Nat} {q : Option Value × qH} {h : qH} {r0 : Nat} {r1 : Nat} {x2 : Int32} {x3 : Int32} {x4 : Int32} {x5 : Int32} {x6 : Int32} {x7 : Int32} {x8 : Int32} {o9 : Option Value}   (kk : qE d 61 80 [some (.ref r0), some (.ref r1), some (.int x2), some (.int x3), some (.int x4), some (.int x5), some (.int x6), some (.int x7), some (.int x8), o9] [.int 0] h q): qE d 61 79 [some (.ref r0), some (.ref r1), some (.int x2), some (.int x3), some (.int x4), some (.int x5), some (.int x6), some (.int x7), some (.int x8), o9] [] h q := by
  refine qe_iconst (x := 0) c61_79 (by decide) ?_
  exact kk
theorem b61_80F {d : Nat} {q : Option Value × qH} {h : qH} {r0 : Nat} {r1 : Nat} {x2 : Int32} {x3 : Int32} {x4 : Int32} {x5 : Int32} {x6 : Int32} {x7 : Int32} {x8 : Int32} {o9 : Option Value} {xs0 : Int32}  (e1 : ¬ ((xs0 : Int32) = 0)) (kk : qE d 61 87 [some (.ref r0), some (.ref r1), some (.int x2), some (.int x3), some (.int x4), some (.int x5), some (.int x6), some (.int x7), some (.int x8), some (.int xs0)] [] h q): qE d 61 80 [some (.ref r0), some (.ref r1), some (.int x2), some (.int x3), some (.int x4), some (.int x5), some (.int x6), some (.int x7), some (.int x8), o9] [.int xs0] h q := by
  refine qe_istore (ls2 := [some (.ref r0), some (.ref r1), some (.int x2), some (.int x3), some (.int x4), some (.int x5), some (.int x6), some (.int x7), some (.int x8), some (.int xs0)]) c61_80 (Nat.le_of_ble_eq_true rfl) rfl ?_
  refine qe_iload c61_82 rfl ?_
  refine qe_if_eq_F (t := 109) c61_84 rfl e1 ?_
  exact kk
theorem b61_80T {d : Nat} {q : Option Value × qH} {h : qH} {r0 : Nat} {r1 : Nat} {x2 : Int32} {x3 : Int32} {x4 : Int32} {x5 : Int32} {x6 : Int32} {x7 : Int32} {x8 : Int32} {o9 : Option Value} {xs0 : Int32}  (e1 : (xs0 : Int32) = 0) (kk : qE d 61 109 [some (.ref r0), some (.ref r1), some (.int x2), some (.int x3), some (.int x4), some (.int x5), some (.int x6), some (.int x7), some (.int x8), some (.int xs0)] [] h q): qE d 61 80 [some (.ref r0), some (.ref r1), some (.int x2), some (.int x3), some (.int x4), some (.int x5), some (.int x6), some (.int x7), some (.int x8), o9] [.int xs0] h q := by
  refine qe_istore (ls2 := [some (.ref r0), some (.ref r1), some (.int x2), some (.int x3), some (.int x4), some (.int x5), some (.int x6), some (.int x7), some (.int x8), some (.int xs0)]) c61_80 (Nat.le_of_ble_eq_true rfl) rfl ?_
  refine qe_iload c61_82 rfl ?_
  refine qe_if_eq_T (t := 109) c61_84 rfl e1 ?_
  exact kk
theorem b61_87F {d : Nat} {q : Option Value × qH} {h : qH} {r0 : Nat} {r1 : Nat} {x2 : Int32} {x3 : Int32} {x4 : Int32} {x5 : Int32} {x6 : Int32} {x7 : Int32} {x8 : Int32} {x9 : Int32} {fs1 : List Value} {h1 : qH} {z3 : Int32}  (e2 : h.2.2 r0 = some (.inr (11, fs1))) (e4 : qCall d 54 [.ref r0, .ref r1, .int x6, .int x2] h ((some (.int z3)), h1)) (e5 : ¬ ((z3 : Int32) = 0)) (kk : qE d 61 98 [some (.ref r0), some (.ref r1), some (.int x2), some (.int x3), some (.int x4), some (.int x5), some (.int x6), some (.int x7), some (.int x8), some (.int x9)] [] h1 q): qE d 61 87 [some (.ref r0), some (.ref r1), some (.int x2), some (.int x3), some (.int x4), some (.int x5), some (.int x6), some (.int x7), some (.int x8), some (.int x9)] [] h q := by
  refine qe_aload_n c61_87 rfl ?_
  refine qe_aload_n c61_88 rfl ?_
  refine qe_iload c61_89 rfl ?_
  refine qe_iload_n c61_91 rfl ?_
  refine qe_virtual (b := r0) (as := [.ref r1, .int x6, .int x2]) (r := []) (v := (some (.int z3))) (h2 := h1) c61_92 qo61 qK11_289 rfl rfl rfl (by rw [qo54]; exact e2) (Nat.le_of_ble_eq_true rfl) e4 ?_
  refine qe_if_eq_F (t := 109) c61_95 rfl e5 ?_
  exact kk
theorem b61_87T {d : Nat} {q : Option Value × qH} {h : qH} {r0 : Nat} {r1 : Nat} {x2 : Int32} {x3 : Int32} {x4 : Int32} {x5 : Int32} {x6 : Int32} {x7 : Int32} {x8 : Int32} {x9 : Int32} {fs1 : List Value} {h1 : qH} {z3 : Int32}  (e2 : h.2.2 r0 = some (.inr (11, fs1))) (e4 : qCall d 54 [.ref r0, .ref r1, .int x6, .int x2] h ((some (.int z3)), h1)) (e5 : (z3 : Int32) = 0) (kk : qE d 61 109 [some (.ref r0), some (.ref r1), some (.int x2), some (.int x3), some (.int x4), some (.int x5), some (.int x6), some (.int x7), some (.int x8), some (.int x9)] [] h1 q): qE d 61 87 [some (.ref r0), some (.ref r1), some (.int x2), some (.int x3), some (.int x4), some (.int x5), some (.int x6), some (.int x7), some (.int x8), some (.int x9)] [] h q := by
  refine qe_aload_n c61_87 rfl ?_
  refine qe_aload_n c61_88 rfl ?_
  refine qe_iload c61_89 rfl ?_
  refine qe_iload_n c61_91 rfl ?_
  refine qe_virtual (b := r0) (as := [.ref r1, .int x6, .int x2]) (r := []) (v := (some (.int z3))) (h2 := h1) c61_92 qo61 qK11_289 rfl rfl rfl (by rw [qo54]; exact e2) (Nat.le_of_ble_eq_true rfl) e4 ?_
  refine qe_if_eq_T (t := 109) c61_95 rfl e5 ?_
  exact kk
theorem b61_98 {d : Nat} {q : Option Value × qH} {h : qH} {r0 : Nat} {r1 : Nat} {x2 : Int32} {x3 : Int32} {x4 : Int32} {x5 : Int32} {x6 : Int32} {x7 : Int32} {x8 : Int32} {x9 : Int32}   (kk : qE d 61 109 [some (.ref r0), some (.ref r1), some (.int x2), some (.int x6), some (.int x7), some (.int x8), some (.int x6), some (.int x7), some (.int x8), some (.int x9)] [] h q): qE d 61 98 [some (.ref r0), some (.ref r1), some (.int x2), some (.int x3), some (.int x4), some (.int x5), some (.int x6), some (.int x7), some (.int x8), some (.int x9)] [] h q := by
  refine qe_iload c61_98 rfl ?_
  refine qe_istore_n (ls2 := [some (.ref r0), some (.ref r1), some (.int x2), some (.int x6), some (.int x4), some (.int x5), some (.int x6), some (.int x7), some (.int x8), some (.int x9)]) c61_100 (Nat.le_of_ble_eq_true rfl) rfl ?_
  refine qe_iload c61_101 rfl ?_
  refine qe_istore (ls2 := [some (.ref r0), some (.ref r1), some (.int x2), some (.int x6), some (.int x7), some (.int x5), some (.int x6), some (.int x7), some (.int x8), some (.int x9)]) c61_103 (Nat.le_of_ble_eq_true rfl) rfl ?_
  refine qe_iload c61_105 rfl ?_
  refine qe_istore (ls2 := [some (.ref r0), some (.ref r1), some (.int x2), some (.int x6), some (.int x7), some (.int x8), some (.int x6), some (.int x7), some (.int x8), some (.int x9)]) c61_107 (Nat.le_of_ble_eq_true rfl) rfl ?_
  exact kk
theorem b61_109 {d : Nat} {q : Option Value × qH} {h : qH} {r0 : Nat} {r1 : Nat} {x2 : Int32} {x3 : Int32} {x4 : Int32} {x5 : Int32} {x6 : Int32} {x7 : Int32} {x8 : Int32} {x9 : Int32}   (kk : qE d 61 12 [some (.ref r0), some (.ref r1), some (.int x2), some (.int x3), some (.int x4), some (.int x5), some (.int (x6 + 1)), some (.int x7), some (.int x8), some (.int x9)] [] h q): qE d 61 109 [some (.ref r0), some (.ref r1), some (.int x2), some (.int x3), some (.int x4), some (.int x5), some (.int x6), some (.int x7), some (.int x8), some (.int x9)] [] h q := by
  refine qe_iinc (y := (x6 + 1)) (ls2 := [some (.ref r0), some (.ref r1), some (.int x2), some (.int x3), some (.int x4), some (.int x5), some (.int (x6 + 1)), some (.int x7), some (.int x8), some (.int x9)]) c61_109 rfl (Nat.le_of_ble_eq_true rfl) rfl rfl ?_
  refine qe_goto (t := 12) c61_112 rfl ?_
  exact kk
theorem b61_115 {d : Nat} {h : qH} {r0 : Nat} {r1 : Nat} {x2 : Int32} {x3 : Int32} {x4 : Int32} {x5 : Int32} {x6 : Int32} {o7 : Option Value} {o8 : Option Value} {o9 : Option Value}   : qE d 61 115 [some (.ref r0), some (.ref r1), some (.int x2), some (.int x3), some (.int x4), some (.int x5), some (.int x6), o7, o8, o9] [] h (some (.int x3), h) := by
  refine qe_iload_n c61_115 rfl ?_
  exact qe_iret c61_116 qr61
theorem b62_0F {d : Nat} {q : Option Value × qH} {h : qH} {r0 : Nat} {x1 : Int32} {x2 : Int32} {fs1 : List Value} {y3 : Nat} {fs5 : List Value} {h1 : qH} {z7 : Int32}  (e2 : h.2.2 r0 = some (.inr (11, fs1))) (e4 : fs1[0]? = some (.ref y3)) (e6 : h.2.2 y3 = some (.inr (4, fs5))) (e8 : qCall d 214 [.ref y3, .int x1] h ((some (.int z7)), h1)) (e9 : ¬ ((z7 : Int32) = 0)) (kk : qE d 62 11 [some (.ref r0), some (.int x1), some (.int x2)] [] h1 q): qE d 62 0 [some (.ref r0), some (.int x1), some (.int x2)] [] h q := by
  refine qe_aload_n c62_0 rfl ?_
  refine qe_getfield c62_1 qo62 qF11_10 e2 e4 ?_
  refine qe_iload_n c62_4 rfl ?_
  refine qe_virtual (b := y3) (as := [.int x1]) (r := []) (v := (some (.int z7))) (h2 := h1) c62_5 qo62 qK11_122 rfl rfl rfl (by rw [qo214]; exact e6) (Nat.le_of_ble_eq_true rfl) e8 ?_
  refine qe_if_eq_F (t := 22) c62_8 rfl e9 ?_
  exact kk
theorem b62_0T {d : Nat} {q : Option Value × qH} {h : qH} {r0 : Nat} {x1 : Int32} {x2 : Int32} {fs1 : List Value} {y3 : Nat} {fs5 : List Value} {h1 : qH} {z7 : Int32}  (e2 : h.2.2 r0 = some (.inr (11, fs1))) (e4 : fs1[0]? = some (.ref y3)) (e6 : h.2.2 y3 = some (.inr (4, fs5))) (e8 : qCall d 214 [.ref y3, .int x1] h ((some (.int z7)), h1)) (e9 : (z7 : Int32) = 0) (kk : qE d 62 22 [some (.ref r0), some (.int x1), some (.int x2)] [] h1 q): qE d 62 0 [some (.ref r0), some (.int x1), some (.int x2)] [] h q := by
  refine qe_aload_n c62_0 rfl ?_
  refine qe_getfield c62_1 qo62 qF11_10 e2 e4 ?_
  refine qe_iload_n c62_4 rfl ?_
  refine qe_virtual (b := y3) (as := [.int x1]) (r := []) (v := (some (.int z7))) (h2 := h1) c62_5 qo62 qK11_122 rfl rfl rfl (by rw [qo214]; exact e6) (Nat.le_of_ble_eq_true rfl) e8 ?_
  refine qe_if_eq_T (t := 22) c62_8 rfl e9 ?_
  exact kk
theorem b62_11F {d : Nat} {q : Option Value × qH} {h : qH} {r0 : Nat} {x1 : Int32} {x2 : Int32} {h1 : qH} {z1 : Int32}  (e2 : qCall d 80 [.int x2, .int 0, .int 2000] h ((some (.int z1)), h1)) (e3 : (z1 : Int32) = 0) (kk : qE d 62 22 [some (.ref r0), some (.int x1), some (.int x2)] [] h1 q): qE d 62 11 [some (.ref r0), some (.int x1), some (.int x2)] [] h q := by
  refine qe_iload_n c62_11 rfl ?_
  refine qe_iconst (x := 0) c62_12 (by decide) ?_
  refine qe_sipush (x := 2000) c62_13 (by decide) ?_
  refine qe_static (as := [.int x2, .int 0, .int 2000]) (r := []) (v := (some (.int z1))) (h2 := h1) c62_16 qo62 (by decide) qK11_108 rfl rfl rfl (Nat.le_of_ble_eq_true rfl) e2 ?_
  refine qe_if_ne_F (t := 24) c62_19 rfl e3 ?_
  exact kk
theorem b62_11T {d : Nat} {q : Option Value × qH} {h : qH} {r0 : Nat} {x1 : Int32} {x2 : Int32} {h1 : qH} {z1 : Int32}  (e2 : qCall d 80 [.int x2, .int 0, .int 2000] h ((some (.int z1)), h1)) (e3 : ¬ ((z1 : Int32) = 0)) (kk : qE d 62 24 [some (.ref r0), some (.int x1), some (.int x2)] [] h1 q): qE d 62 11 [some (.ref r0), some (.int x1), some (.int x2)] [] h q := by
  refine qe_iload_n c62_11 rfl ?_
  refine qe_iconst (x := 0) c62_12 (by decide) ?_
  refine qe_sipush (x := 2000) c62_13 (by decide) ?_
  refine qe_static (as := [.int x2, .int 0, .int 2000]) (r := []) (v := (some (.int z1))) (h2 := h1) c62_16 qo62 (by decide) qK11_108 rfl rfl rfl (Nat.le_of_ble_eq_true rfl) e2 ?_
  refine qe_if_ne_T (t := 24) c62_19 rfl e3 ?_
  exact kk
theorem b62_22 {d : Nat} {h : qH} {r0 : Nat} {x1 : Int32} {x2 : Int32}   : qE d 62 22 [some (.ref r0), some (.int x1), some (.int x2)] [] h (some (.int 0), h) := by
  refine qe_iconst (x := 0) c62_22 (by decide) ?_
  exact qe_zret c62_23 qr62 (by decide)
theorem b62_24 {d : Nat} {h : qH} {r0 : Nat} {x1 : Int32} {x2 : Int32} {fs1 : List Value} {y3 : Nat} {fs5 : List Value} {y7 : Nat} {n9 : Nat} {f10 : Nat → Int32} {h1 : qH}  (e2 : h.2.2 r0 = some (.inr (11, fs1))) (e4 : fs1[1]? = some (.ref y3)) (e6 : h.2.2 y3 = some (.inr (8, fs5))) (e8 : fs5[4]? = some (.ref y7)) (e11 : h.2.2 y7 = some (.inl (0, n9, .inl f10))) (e12 : 0 ≤ (x1 : Int32).toInt ∧ (x1 : Int32).toInt < (n9 : Nat)) (e13 : qset h y7 (.inl (0, n9, .inl (upd f10 ((x1 : Int32).toNatClampNeg) x2))) = h1) : qE d 62 24 [some (.ref r0), some (.int x1), some (.int x2)] [] h (some (.int 1), h1) := by
  refine qe_aload_n c62_24 rfl ?_
  refine qe_getfield c62_25 qo62 qF11_19 e2 e4 ?_
  refine qe_getfield c62_28 qo62 qF11_112 e6 e8 ?_
  refine qe_iload_n c62_31 rfl ?_
  refine qe_iload_n c62_32 rfl ?_
  refine qe_iastore c62_33 e11 e12 ?_
  rw [e13]
  refine qe_iconst (x := 1) c62_34 (by decide) ?_
  exact qe_zret c62_35 qr62 (by decide)
theorem b63_0F {d : Nat} {q : Option Value × qH} {h : qH} {r0 : Nat} {x1 : Int32} {fs1 : List Value} {y3 : Nat} {fs5 : List Value} {h1 : qH} {z7 : Int32}  (e2 : h.2.2 r0 = some (.inr (11, fs1))) (e4 : fs1[0]? = some (.ref y3)) (e6 : h.2.2 y3 = some (.inr (4, fs5))) (e8 : qCall d 215 [.ref y3, .int x1] h ((some (.int z7)), h1)) (e9 : ¬ ((z7 : Int32) = 0)) (kk : qE d 63 11 [some (.ref r0), some (.int x1)] [] h1 q): qE d 63 0 [some (.ref r0), some (.int x1)] [] h q := by
  refine qe_aload_n c63_0 rfl ?_
  refine qe_getfield c63_1 qo63 qF11_10 e2 e4 ?_
  refine qe_iload_n c63_4 rfl ?_
  refine qe_virtual (b := y3) (as := [.int x1]) (r := []) (v := (some (.int z7))) (h2 := h1) c63_5 qo63 qK11_140 rfl rfl rfl (by rw [qo215]; exact e6) (Nat.le_of_ble_eq_true rfl) e8 ?_
  refine qe_if_eq_F (t := 24) c63_8 rfl e9 ?_
  exact kk
theorem b63_0T {d : Nat} {q : Option Value × qH} {h : qH} {r0 : Nat} {x1 : Int32} {fs1 : List Value} {y3 : Nat} {fs5 : List Value} {h1 : qH} {z7 : Int32}  (e2 : h.2.2 r0 = some (.inr (11, fs1))) (e4 : fs1[0]? = some (.ref y3)) (e6 : h.2.2 y3 = some (.inr (4, fs5))) (e8 : qCall d 215 [.ref y3, .int x1] h ((some (.int z7)), h1)) (e9 : (z7 : Int32) = 0) (kk : qE d 63 24 [some (.ref r0), some (.int x1)] [] h1 q): qE d 63 0 [some (.ref r0), some (.int x1)] [] h q := by
  refine qe_aload_n c63_0 rfl ?_
  refine qe_getfield c63_1 qo63 qF11_10 e2 e4 ?_
  refine qe_iload_n c63_4 rfl ?_
  refine qe_virtual (b := y3) (as := [.int x1]) (r := []) (v := (some (.int z7))) (h2 := h1) c63_5 qo63 qK11_140 rfl rfl rfl (by rw [qo215]; exact e6) (Nat.le_of_ble_eq_true rfl) e8 ?_
  refine qe_if_eq_T (t := 24) c63_8 rfl e9 ?_
  exact kk
theorem b63_11F {d : Nat} {q : Option Value × qH} {h : qH} {r0 : Nat} {x1 : Int32} {fs1 : List Value} {y3 : Nat} {fs5 : List Value} {y7 : Nat} {n9 : Nat} {f10 : Nat → Int32}  (e2 : h.2.2 r0 = some (.inr (11, fs1))) (e4 : fs1[1]? = some (.ref y3)) (e6 : h.2.2 y3 = some (.inr (8, fs5))) (e8 : fs5[5]? = some (.ref y7)) (e11 : h.2.2 y7 = some (.inl (0, n9, .inl f10))) (e12 : 0 ≤ (x1 : Int32).toInt ∧ (x1 : Int32).toInt < (n9 : Nat)) (e13 : ¬ (((f10 (x1 : Int32).toNatClampNeg) : Int32) = 3)) (kk : qE d 63 24 [some (.ref r0), some (.int x1)] [] h q): qE d 63 11 [some (.ref r0), some (.int x1)] [] h q := by
  refine qe_aload_n c63_11 rfl ?_
  refine qe_getfield c63_12 qo63 qF11_19 e2 e4 ?_
  refine qe_getfield c63_15 qo63 qF11_149 e6 e8 ?_
  refine qe_iload_n c63_18 rfl ?_
  refine qe_iaload c63_19 e11 e12 ?_
  refine qe_iconst (x := 3) c63_20 (by decide) ?_
  refine qe_icmp_eq_F (t := 26) c63_21 rfl e13 ?_
  exact kk
theorem b63_11T {d : Nat} {q : Option Value × qH} {h : qH} {r0 : Nat} {x1 : Int32} {fs1 : List Value} {y3 : Nat} {fs5 : List Value} {y7 : Nat} {n9 : Nat} {f10 : Nat → Int32}  (e2 : h.2.2 r0 = some (.inr (11, fs1))) (e4 : fs1[1]? = some (.ref y3)) (e6 : h.2.2 y3 = some (.inr (8, fs5))) (e8 : fs5[5]? = some (.ref y7)) (e11 : h.2.2 y7 = some (.inl (0, n9, .inl f10))) (e12 : 0 ≤ (x1 : Int32).toInt ∧ (x1 : Int32).toInt < (n9 : Nat)) (e13 : ((f10 (x1 : Int32).toNatClampNeg) : Int32) = 3) (kk : qE d 63 26 [some (.ref r0), some (.int x1)] [] h q): qE d 63 11 [some (.ref r0), some (.int x1)] [] h q := by
  refine qe_aload_n c63_11 rfl ?_
  refine qe_getfield c63_12 qo63 qF11_19 e2 e4 ?_
  refine qe_getfield c63_15 qo63 qF11_149 e6 e8 ?_
  refine qe_iload_n c63_18 rfl ?_
  refine qe_iaload c63_19 e11 e12 ?_
  refine qe_iconst (x := 3) c63_20 (by decide) ?_
  refine qe_icmp_eq_T (t := 26) c63_21 rfl e13 ?_
  exact kk
theorem b63_24 {d : Nat} {h : qH} {r0 : Nat} {x1 : Int32}   : qE d 63 24 [some (.ref r0), some (.int x1)] [] h (some (.int 0), h) := by
  refine qe_iconst (x := 0) c63_24 (by decide) ?_
  exact qe_zret c63_25 qr63 (by decide)
theorem b63_26 {d : Nat} {h : qH} {r0 : Nat} {x1 : Int32} {fs1 : List Value} {y3 : Nat} {fs5 : List Value} {y7 : Nat} {n9 : Nat} {f10 : Nat → Int32} {h1 : qH}  (e2 : h.2.2 r0 = some (.inr (11, fs1))) (e4 : fs1[1]? = some (.ref y3)) (e6 : h.2.2 y3 = some (.inr (8, fs5))) (e8 : fs5[5]? = some (.ref y7)) (e11 : h.2.2 y7 = some (.inl (0, n9, .inl f10))) (e12 : 0 ≤ (x1 : Int32).toInt ∧ (x1 : Int32).toInt < (n9 : Nat)) (e13 : qset h y7 (.inl (0, n9, .inl (upd f10 ((x1 : Int32).toNatClampNeg) 1))) = h1) : qE d 63 26 [some (.ref r0), some (.int x1)] [] h (some (.int 1), h1) := by
  refine qe_aload_n c63_26 rfl ?_
  refine qe_getfield c63_27 qo63 qF11_19 e2 e4 ?_
  refine qe_getfield c63_30 qo63 qF11_149 e6 e8 ?_
  refine qe_iload_n c63_33 rfl ?_
  refine qe_iconst (x := 1) c63_34 (by decide) ?_
  refine qe_iastore c63_35 e11 e12 ?_
  rw [e13]
  refine qe_iconst (x := 1) c63_36 (by decide) ?_
  exact qe_zret c63_37 qr63 (by decide)
theorem b64_0F {d : Nat} {q : Option Value × qH} {h : qH} {r0 : Nat} {x1 : Int32} {x2 : Int32} {fs1 : List Value} {y3 : Nat} {fs5 : List Value} {h1 : qH} {z7 : Int32}  (e2 : h.2.2 r0 = some (.inr (11, fs1))) (e4 : fs1[9]? = some (.ref y3)) (e6 : h.2.2 y3 = some (.inr (2, fs5))) (e8 : qCall d 203 [.ref y3, .int x1] h ((some (.int z7)), h1)) (e9 : ¬ ((z7 : Int32) = 0)) (kk : qE d 64 11 [some (.ref r0), some (.int x1), some (.int x2)] [] h1 q): qE d 64 0 [some (.ref r0), some (.int x1), some (.int x2)] [] h q := by
  refine qe_aload_n c64_0 rfl ?_
  refine qe_getfield c64_1 qo64 qF11_69 e2 e4 ?_
  refine qe_iload_n c64_4 rfl ?_
  refine qe_virtual (b := y3) (as := [.int x1]) (r := []) (v := (some (.int z7))) (h2 := h1) c64_5 qo64 qK11_309 rfl rfl rfl (by rw [qo203]; exact e6) (Nat.le_of_ble_eq_true rfl) e8 ?_
  refine qe_if_eq_F (t := 22) c64_8 rfl e9 ?_
  exact kk
theorem b64_0T {d : Nat} {q : Option Value × qH} {h : qH} {r0 : Nat} {x1 : Int32} {x2 : Int32} {fs1 : List Value} {y3 : Nat} {fs5 : List Value} {h1 : qH} {z7 : Int32}  (e2 : h.2.2 r0 = some (.inr (11, fs1))) (e4 : fs1[9]? = some (.ref y3)) (e6 : h.2.2 y3 = some (.inr (2, fs5))) (e8 : qCall d 203 [.ref y3, .int x1] h ((some (.int z7)), h1)) (e9 : (z7 : Int32) = 0) (kk : qE d 64 22 [some (.ref r0), some (.int x1), some (.int x2)] [] h1 q): qE d 64 0 [some (.ref r0), some (.int x1), some (.int x2)] [] h q := by
  refine qe_aload_n c64_0 rfl ?_
  refine qe_getfield c64_1 qo64 qF11_69 e2 e4 ?_
  refine qe_iload_n c64_4 rfl ?_
  refine qe_virtual (b := y3) (as := [.int x1]) (r := []) (v := (some (.int z7))) (h2 := h1) c64_5 qo64 qK11_309 rfl rfl rfl (by rw [qo203]; exact e6) (Nat.le_of_ble_eq_true rfl) e8 ?_
  refine qe_if_eq_T (t := 22) c64_8 rfl e9 ?_
  exact kk
theorem b64_11F {d : Nat} {q : Option Value × qH} {h : qH} {r0 : Nat} {x1 : Int32} {x2 : Int32} {fs1 : List Value} {y3 : Nat} {fs5 : List Value} {h1 : qH} {z7 : Int32}  (e2 : h.2.2 r0 = some (.inr (11, fs1))) (e4 : fs1[9]? = some (.ref y3)) (e6 : h.2.2 y3 = some (.inr (2, fs5))) (e8 : qCall d 203 [.ref y3, .int x2] h ((some (.int z7)), h1)) (e9 : (z7 : Int32) = 0) (kk : qE d 64 22 [some (.ref r0), some (.int x1), some (.int x2)] [] h1 q): qE d 64 11 [some (.ref r0), some (.int x1), some (.int x2)] [] h q := by
  refine qe_aload_n c64_11 rfl ?_
  refine qe_getfield c64_12 qo64 qF11_69 e2 e4 ?_
  refine qe_iload_n c64_15 rfl ?_
  refine qe_virtual (b := y3) (as := [.int x2]) (r := []) (v := (some (.int z7))) (h2 := h1) c64_16 qo64 qK11_309 rfl rfl rfl (by rw [qo203]; exact e6) (Nat.le_of_ble_eq_true rfl) e8 ?_
  refine qe_if_ne_F (t := 24) c64_19 rfl e9 ?_
  exact kk
theorem b64_11T {d : Nat} {q : Option Value × qH} {h : qH} {r0 : Nat} {x1 : Int32} {x2 : Int32} {fs1 : List Value} {y3 : Nat} {fs5 : List Value} {h1 : qH} {z7 : Int32}  (e2 : h.2.2 r0 = some (.inr (11, fs1))) (e4 : fs1[9]? = some (.ref y3)) (e6 : h.2.2 y3 = some (.inr (2, fs5))) (e8 : qCall d 203 [.ref y3, .int x2] h ((some (.int z7)), h1)) (e9 : ¬ ((z7 : Int32) = 0)) (kk : qE d 64 24 [some (.ref r0), some (.int x1), some (.int x2)] [] h1 q): qE d 64 11 [some (.ref r0), some (.int x1), some (.int x2)] [] h q := by
  refine qe_aload_n c64_11 rfl ?_
  refine qe_getfield c64_12 qo64 qF11_69 e2 e4 ?_
  refine qe_iload_n c64_15 rfl ?_
  refine qe_virtual (b := y3) (as := [.int x2]) (r := []) (v := (some (.int z7))) (h2 := h1) c64_16 qo64 qK11_309 rfl rfl rfl (by rw [qo203]; exact e6) (Nat.le_of_ble_eq_true rfl) e8 ?_
  refine qe_if_ne_T (t := 24) c64_19 rfl e9 ?_
  exact kk
theorem b64_22 {d : Nat} {h : qH} {r0 : Nat} {x1 : Int32} {x2 : Int32}   : qE d 64 22 [some (.ref r0), some (.int x1), some (.int x2)] [] h (some (.int (-1)), h) := by
  refine qe_iconst (x := (-1)) c64_22 (by decide) ?_
  exact qe_iret c64_23 qr64
theorem b64_24 {d : Nat} {h : qH} {r0 : Nat} {x1 : Int32} {x2 : Int32} {fs1 : List Value} {y3 : Nat} {fs5 : List Value} {h1 : qH} {z7 : Int32}  (e2 : h.2.2 r0 = some (.inr (11, fs1))) (e4 : fs1[9]? = some (.ref y3)) (e6 : h.2.2 y3 = some (.inr (2, fs5))) (e8 : qCall d 202 [.ref y3, .int x1, .int x2] h ((some (.int z7)), h1)) : qE d 64 24 [some (.ref r0), some (.int x1), some (.int x2)] [] h (some (.int z7), h1) := by
  refine qe_aload_n c64_24 rfl ?_
  refine qe_getfield c64_25 qo64 qF11_69 e2 e4 ?_
  refine qe_iload_n c64_28 rfl ?_
  refine qe_iload_n c64_29 rfl ?_
  refine qe_virtual (b := y3) (as := [.int x1, .int x2]) (r := []) (v := (some (.int z7))) (h2 := h1) c64_30 qo64 qK11_318 rfl rfl rfl (by rw [qo202]; exact e6) (Nat.le_of_ble_eq_true rfl) e8 ?_
  exact qe_iret c64_33 qr64
theorem b65_0F {d : Nat} {q : Option Value × qH} {h : qH} {r0 : Nat} {x1 : Int32} {x2 : Int32} {h1 : qH} {z1 : Int32}  (e2 : qCall d 56 [.int x1] h ((some (.int z1)), h1)) (e3 : ¬ ((z1 : Int32) = 0)) (kk : qE d 65 7 [some (.ref r0), some (.int x1), some (.int x2)] [] h1 q): qE d 65 0 [some (.ref r0), some (.int x1), some (.int x2)] [] h q := by
  refine qe_iload_n c65_0 rfl ?_
  refine qe_static (as := [.int x1]) (r := []) (v := (some (.int z1))) (h2 := h1) c65_1 qo65 (by decide) qK11_104 rfl rfl rfl (Nat.le_of_ble_eq_true rfl) e2 ?_
  refine qe_if_eq_F (t := 30) c65_4 rfl e3 ?_
  exact kk
theorem b65_0T {d : Nat} {q : Option Value × qH} {h : qH} {r0 : Nat} {x1 : Int32} {x2 : Int32} {h1 : qH} {z1 : Int32}  (e2 : qCall d 56 [.int x1] h ((some (.int z1)), h1)) (e3 : (z1 : Int32) = 0) (kk : qE d 65 30 [some (.ref r0), some (.int x1), some (.int x2)] [] h1 q): qE d 65 0 [some (.ref r0), some (.int x1), some (.int x2)] [] h q := by
  refine qe_iload_n c65_0 rfl ?_
  refine qe_static (as := [.int x1]) (r := []) (v := (some (.int z1))) (h2 := h1) c65_1 qo65 (by decide) qK11_104 rfl rfl rfl (Nat.le_of_ble_eq_true rfl) e2 ?_
  refine qe_if_eq_T (t := 30) c65_4 rfl e3 ?_
  exact kk
theorem b65_7F {d : Nat} {q : Option Value × qH} {h : qH} {r0 : Nat} {x1 : Int32} {x2 : Int32} {h1 : qH} {z1 : Int32}  (e2 : qCall d 80 [.int x2, .int 0, .int 9999] h ((some (.int z1)), h1)) (e3 : ¬ ((z1 : Int32) = 0)) (kk : qE d 65 18 [some (.ref r0), some (.int x1), some (.int x2)] [] h1 q): qE d 65 7 [some (.ref r0), some (.int x1), some (.int x2)] [] h q := by
  refine qe_iload_n c65_7 rfl ?_
  refine qe_iconst (x := 0) c65_8 (by decide) ?_
  refine qe_sipush (x := 9999) c65_9 (by decide) ?_
  refine qe_static (as := [.int x2, .int 0, .int 9999]) (r := []) (v := (some (.int z1))) (h2 := h1) c65_12 qo65 (by decide) qK11_108 rfl rfl rfl (Nat.le_of_ble_eq_true rfl) e2 ?_
  refine qe_if_eq_F (t := 30) c65_15 rfl e3 ?_
  exact kk
theorem b65_7T {d : Nat} {q : Option Value × qH} {h : qH} {r0 : Nat} {x1 : Int32} {x2 : Int32} {h1 : qH} {z1 : Int32}  (e2 : qCall d 80 [.int x2, .int 0, .int 9999] h ((some (.int z1)), h1)) (e3 : (z1 : Int32) = 0) (kk : qE d 65 30 [some (.ref r0), some (.int x1), some (.int x2)] [] h1 q): qE d 65 7 [some (.ref r0), some (.int x1), some (.int x2)] [] h q := by
  refine qe_iload_n c65_7 rfl ?_
  refine qe_iconst (x := 0) c65_8 (by decide) ?_
  refine qe_sipush (x := 9999) c65_9 (by decide) ?_
  refine qe_static (as := [.int x2, .int 0, .int 9999]) (r := []) (v := (some (.int z1))) (h2 := h1) c65_12 qo65 (by decide) qK11_108 rfl rfl rfl (Nat.le_of_ble_eq_true rfl) e2 ?_
  refine qe_if_eq_T (t := 30) c65_15 rfl e3 ?_
  exact kk
theorem b65_18F {d : Nat} {q : Option Value × qH} {h : qH} {r0 : Nat} {x1 : Int32} {x2 : Int32} {fs1 : List Value} {y3 : Nat} {fs5 : List Value} {y7 : Int32}  (e2 : h.2.2 r0 = some (.inr (11, fs1))) (e4 : fs1[9]? = some (.ref y3)) (e6 : h.2.2 y3 = some (.inr (2, fs5))) (e8 : fs5[0]? = some (.int y7)) (e9 : ¬ ((y7 : Int32) < 40)) (kk : qE d 65 30 [some (.ref r0), some (.int x1), some (.int x2)] [] h q): qE d 65 18 [some (.ref r0), some (.int x1), some (.int x2)] [] h q := by
  refine qe_aload_n c65_18 rfl ?_
  refine qe_getfield c65_19 qo65 qF11_69 e2 e4 ?_
  refine qe_getfield c65_22 qo65 qF11_303 e6 e8 ?_
  refine qe_bipush (x := 40) c65_25 (by decide) ?_
  refine qe_icmp_lt_F (t := 32) c65_27 rfl e9 ?_
  exact kk
theorem b65_18T {d : Nat} {q : Option Value × qH} {h : qH} {r0 : Nat} {x1 : Int32} {x2 : Int32} {fs1 : List Value} {y3 : Nat} {fs5 : List Value} {y7 : Int32}  (e2 : h.2.2 r0 = some (.inr (11, fs1))) (e4 : fs1[9]? = some (.ref y3)) (e6 : h.2.2 y3 = some (.inr (2, fs5))) (e8 : fs5[0]? = some (.int y7)) (e9 : (y7 : Int32) < 40) (kk : qE d 65 32 [some (.ref r0), some (.int x1), some (.int x2)] [] h q): qE d 65 18 [some (.ref r0), some (.int x1), some (.int x2)] [] h q := by
  refine qe_aload_n c65_18 rfl ?_
  refine qe_getfield c65_19 qo65 qF11_69 e2 e4 ?_
  refine qe_getfield c65_22 qo65 qF11_303 e6 e8 ?_
  refine qe_bipush (x := 40) c65_25 (by decide) ?_
  refine qe_icmp_lt_T (t := 32) c65_27 rfl e9 ?_
  exact kk
theorem b65_30 {d : Nat} {h : qH} {r0 : Nat} {x1 : Int32} {x2 : Int32}   : qE d 65 30 [some (.ref r0), some (.int x1), some (.int x2)] [] h (some (.int (-1)), h) := by
  refine qe_iconst (x := (-1)) c65_30 (by decide) ?_
  exact qe_iret c65_31 qr65
theorem b65_32 {d : Nat} {h : qH} {r0 : Nat} {x1 : Int32} {x2 : Int32} {fs1 : List Value} {y3 : Nat} {fs5 : List Value} {h1 : qH} {z7 : Int32}  (e2 : h.2.2 r0 = some (.inr (11, fs1))) (e4 : fs1[9]? = some (.ref y3)) (e6 : h.2.2 y3 = some (.inr (2, fs5))) (e8 : qCall d 198 [.ref y3, .int x1, .int x2] h ((some (.int z7)), h1)) : qE d 65 32 [some (.ref r0), some (.int x1), some (.int x2)] [] h (some (.int z7), h1) := by
  refine qe_aload_n c65_32 rfl ?_
  refine qe_getfield c65_33 qo65 qF11_69 e2 e4 ?_
  refine qe_iload_n c65_36 rfl ?_
  refine qe_iload_n c65_37 rfl ?_
  refine qe_virtual (b := y3) (as := [.int x1, .int x2]) (r := []) (v := (some (.int z7))) (h2 := h1) c65_38 qo65 qK11_306 rfl rfl rfl (by rw [qo198]; exact e6) (Nat.le_of_ble_eq_true rfl) e8 ?_
  exact qe_iret c65_41 qr65
theorem b66_0F {d : Nat} {q : Option Value × qH} {h : qH} {r0 : Nat} {x1 : Int32} {h1 : qH} {z1 : Int32}  (e2 : qCall d 80 [.int x1, .int 1, .int 160] h ((some (.int z1)), h1)) (e3 : ¬ ((z1 : Int32) = 0)) (kk : qE d 66 11 [some (.ref r0), some (.int x1), none, none] [] h1 q): qE d 66 0 [some (.ref r0), some (.int x1), none, none] [] h q := by
  refine qe_iload_n c66_0 rfl ?_
  refine qe_iconst (x := 1) c66_1 (by decide) ?_
  refine qe_sipush (x := 160) c66_2 (by decide) ?_
  refine qe_static (as := [.int x1, .int 1, .int 160]) (r := []) (v := (some (.int z1))) (h2 := h1) c66_5 qo66 (by decide) qK11_108 rfl rfl rfl (Nat.le_of_ble_eq_true rfl) e2 ?_
  refine qe_if_eq_F (t := 22) c66_8 rfl e3 ?_
  exact kk
theorem b66_0T {d : Nat} {q : Option Value × qH} {h : qH} {r0 : Nat} {x1 : Int32} {h1 : qH} {z1 : Int32}  (e2 : qCall d 80 [.int x1, .int 1, .int 160] h ((some (.int z1)), h1)) (e3 : (z1 : Int32) = 0) (kk : qE d 66 22 [some (.ref r0), some (.int x1), none, none] [] h1 q): qE d 66 0 [some (.ref r0), some (.int x1), none, none] [] h q := by
  refine qe_iload_n c66_0 rfl ?_
  refine qe_iconst (x := 1) c66_1 (by decide) ?_
  refine qe_sipush (x := 160) c66_2 (by decide) ?_
  refine qe_static (as := [.int x1, .int 1, .int 160]) (r := []) (v := (some (.int z1))) (h2 := h1) c66_5 qo66 (by decide) qK11_108 rfl rfl rfl (Nat.le_of_ble_eq_true rfl) e2 ?_
  refine qe_if_eq_T (t := 22) c66_8 rfl e3 ?_
  exact kk
theorem b66_11F {d : Nat} {q : Option Value × qH} {h : qH} {r0 : Nat} {x1 : Int32} {fs1 : List Value} {y3 : Nat} {fs5 : List Value} {y7 : Int32}  (e2 : h.2.2 r0 = some (.inr (11, fs1))) (e4 : fs1[11]? = some (.ref y3)) (e6 : h.2.2 y3 = some (.inr (9, fs5))) (e8 : fs5[0]? = some (.int y7)) (e9 : ¬ ((x1 : Int32) ≤ y7)) (kk : qE d 66 22 [some (.ref r0), some (.int x1), none, none] [] h q): qE d 66 11 [some (.ref r0), some (.int x1), none, none] [] h q := by
  refine qe_iload_n c66_11 rfl ?_
  refine qe_aload_n c66_12 rfl ?_
  refine qe_getfield c66_13 qo66 qF11_83 e2 e4 ?_
  refine qe_getfield c66_16 qo66 qF11_172 e6 e8 ?_
  refine qe_icmp_le_F (t := 24) c66_19 rfl e9 ?_
  exact kk
theorem b66_11T {d : Nat} {q : Option Value × qH} {h : qH} {r0 : Nat} {x1 : Int32} {fs1 : List Value} {y3 : Nat} {fs5 : List Value} {y7 : Int32}  (e2 : h.2.2 r0 = some (.inr (11, fs1))) (e4 : fs1[11]? = some (.ref y3)) (e6 : h.2.2 y3 = some (.inr (9, fs5))) (e8 : fs5[0]? = some (.int y7)) (e9 : (x1 : Int32) ≤ y7) (kk : qE d 66 24 [some (.ref r0), some (.int x1), none, none] [] h q): qE d 66 11 [some (.ref r0), some (.int x1), none, none] [] h q := by
  refine qe_iload_n c66_11 rfl ?_
  refine qe_aload_n c66_12 rfl ?_
  refine qe_getfield c66_13 qo66 qF11_83 e2 e4 ?_
  refine qe_getfield c66_16 qo66 qF11_172 e6 e8 ?_
  refine qe_icmp_le_T (t := 24) c66_19 rfl e9 ?_
  exact kk
theorem b66_22 {d : Nat} {h : qH} {r0 : Nat} {x1 : Int32}   : qE d 66 22 [some (.ref r0), some (.int x1), none, none] [] h (some (.int (-1)), h) := by
  refine qe_iconst (x := (-1)) c66_22 (by decide) ?_
  exact qe_iret c66_23 qr66
theorem b66_24F {d : Nat} {q : Option Value × qH} {h : qH} {r0 : Nat} {x1 : Int32} {fs1 : List Value} {y3 : Nat} {fs5 : List Value} {h1 : qH} {fs9 : List Value} {y11 : Nat} {y13 : Nat} {fs15 : List Value} {y17 : Nat} {fs19 : List Value} {h2 : qH} {z21 : Int32}  (e2 : h.2.2 r0 = some (.inr (11, fs1))) (e4 : fs1[11]? = some (.ref y3)) (e6 : h.2.2 y3 = some (.inr (9, fs5))) (e7 : 0 < fs5.length) (e8 : qset h y3 (.inr (9, fs5.set 0 (.int 0))) = h1) (e10 : h1.2.2 r0 = some (.inr (11, fs9))) (e12 : fs9[13]? = some (.ref y11)) (e14 : fs9[11]? = some (.ref y13)) (e16 : h1.2.2 y13 = some (.inr (9, fs15))) (e18 : fs15[1]? = some (.ref y17)) (e20 : h1.2.2 y11 = some (.inr (10, fs19))) (e22 : qCall d 25 [.ref y11, .ref y17, .int x1] h1 ((some (.int z21)), h2)) (e23 : ¬ ((z21 : Int32) ≤ 0)) (kk : qE d 66 52 [some (.ref r0), some (.int x1), some (.int z21), none] [] h2 q): qE d 66 24 [some (.ref r0), some (.int x1), none, none] [] h q := by
  refine qe_aload_n c66_24 rfl ?_
  refine qe_getfield c66_25 qo66 qF11_83 e2 e4 ?_
  refine qe_iconst (x := 0) c66_28 (by decide) ?_
  refine qe_putfield c66_29 qo66 qF11_172 qz9_0 e6 e7 (by rw [qy9_0]; rfl) ?_
  rw [e8]
  refine qe_aload_n c66_32 rfl ?_
  refine qe_getfield c66_33 qo66 qF11_93 e10 e12 ?_
  refine qe_aload_n c66_36 rfl ?_
  refine qe_getfield c66_37 qo66 qF11_83 e10 e14 ?_
  refine qe_getfield c66_40 qo66 qF11_175 e16 e18 ?_
  refine qe_iload_n c66_43 rfl ?_
  refine qe_virtual (b := y11) (as := [.ref y17, .int x1]) (r := []) (v := (some (.int z21))) (h2 := h2) c66_44 qo66 qK11_178 rfl rfl rfl (by rw [qo25]; exact e20) (Nat.le_of_ble_eq_true rfl) e22 ?_
  refine qe_istore_n (ls2 := [some (.ref r0), some (.int x1), some (.int z21), none]) c66_47 (Nat.le_of_ble_eq_true rfl) rfl ?_
  refine qe_iload_n c66_48 rfl ?_
  refine qe_if_le_F (t := 76) c66_49 rfl e23 ?_
  exact kk
theorem b66_24T {d : Nat} {q : Option Value × qH} {h : qH} {r0 : Nat} {x1 : Int32} {fs1 : List Value} {y3 : Nat} {fs5 : List Value} {h1 : qH} {fs9 : List Value} {y11 : Nat} {y13 : Nat} {fs15 : List Value} {y17 : Nat} {fs19 : List Value} {h2 : qH} {z21 : Int32}  (e2 : h.2.2 r0 = some (.inr (11, fs1))) (e4 : fs1[11]? = some (.ref y3)) (e6 : h.2.2 y3 = some (.inr (9, fs5))) (e7 : 0 < fs5.length) (e8 : qset h y3 (.inr (9, fs5.set 0 (.int 0))) = h1) (e10 : h1.2.2 r0 = some (.inr (11, fs9))) (e12 : fs9[13]? = some (.ref y11)) (e14 : fs9[11]? = some (.ref y13)) (e16 : h1.2.2 y13 = some (.inr (9, fs15))) (e18 : fs15[1]? = some (.ref y17)) (e20 : h1.2.2 y11 = some (.inr (10, fs19))) (e22 : qCall d 25 [.ref y11, .ref y17, .int x1] h1 ((some (.int z21)), h2)) (e23 : (z21 : Int32) ≤ 0) (kk : qE d 66 76 [some (.ref r0), some (.int x1), some (.int z21), none] [] h2 q): qE d 66 24 [some (.ref r0), some (.int x1), none, none] [] h q := by
  refine qe_aload_n c66_24 rfl ?_
  refine qe_getfield c66_25 qo66 qF11_83 e2 e4 ?_
  refine qe_iconst (x := 0) c66_28 (by decide) ?_
  refine qe_putfield c66_29 qo66 qF11_172 qz9_0 e6 e7 (by rw [qy9_0]; rfl) ?_
  rw [e8]
  refine qe_aload_n c66_32 rfl ?_
  refine qe_getfield c66_33 qo66 qF11_93 e10 e12 ?_
  refine qe_aload_n c66_36 rfl ?_
  refine qe_getfield c66_37 qo66 qF11_83 e10 e14 ?_
  refine qe_getfield c66_40 qo66 qF11_175 e16 e18 ?_
  refine qe_iload_n c66_43 rfl ?_
  refine qe_virtual (b := y11) (as := [.ref y17, .int x1]) (r := []) (v := (some (.int z21))) (h2 := h2) c66_44 qo66 qK11_178 rfl rfl rfl (by rw [qo25]; exact e20) (Nat.le_of_ble_eq_true rfl) e22 ?_
  refine qe_istore_n (ls2 := [some (.ref r0), some (.int x1), some (.int z21), none]) c66_47 (Nat.le_of_ble_eq_true rfl) rfl ?_
  refine qe_iload_n c66_48 rfl ?_
  refine qe_if_le_T (t := 76) c66_49 rfl e23 ?_
  exact kk
theorem b66_52 {d : Nat} {q : Option Value × qH} {h : qH} {r0 : Nat} {x1 : Int32} {x2 : Int32} {fs1 : List Value} {y3 : Nat} {fs5 : List Value} {y7 : Nat} {y10 : Nat} {h1 : qH} {fs14 : List Value} {h2 : qH}  (e2 : h.2.2 r0 = some (.inr (11, fs1))) (e4 : fs1[0]? = some (.ref y3)) (e6 : h.2.2 y3 = some (.inr (4, fs5))) (e8 : fs5[4]? = some (.ref y7)) (e11 : fs1[13]? = some (.ref y10)) (e12 : 4 < fs5.length) (e13 : qset h y3 (.inr (4, fs5.set 4 (.ref y10))) = h1) (e15 : h1.2.2 r0 = some (.inr (11, fs14))) (e16 : 13 < fs14.length) (e17 : qset h1 r0 (.inr (11, fs14.set 13 (.ref y7))) = h2) (kk : qE d 66 76 [some (.ref r0), some (.int x1), some (.int x2), some (.ref y7)] [] h2 q): qE d 66 52 [some (.ref r0), some (.int x1), some (.int x2), none] [] h q := by
  refine qe_aload_n c66_52 rfl ?_
  refine qe_getfield c66_53 qo66 qF11_10 e2 e4 ?_
  refine qe_getfield c66_56 qo66 qF11_182 e6 e8 ?_
  refine qe_astore_n (ls2 := [some (.ref r0), some (.int x1), some (.int x2), some (.ref y7)]) c66_59 (Nat.le_of_ble_eq_true rfl) rfl ?_
  refine qe_aload_n c66_60 rfl ?_
  refine qe_getfield c66_61 qo66 qF11_10 e2 e4 ?_
  refine qe_aload_n c66_64 rfl ?_
  refine qe_getfield c66_65 qo66 qF11_93 e2 e11 ?_
  refine qe_putfield c66_68 qo66 qF11_182 qz4_4 e6 e12 (by rw [qy4_4]; rfl) ?_
  rw [e13]
  refine qe_aload_n c66_71 rfl ?_
  refine qe_aload_n c66_72 rfl ?_
  refine qe_putfield c66_73 qo66 qF11_93 qz11_13 e15 e16 (by rw [qy11_13]; rfl) ?_
  rw [e17]
  exact kk
theorem b66_76 {d : Nat} {h : qH} {r0 : Nat} {x1 : Int32} {x2 : Int32} {o3 : Option Value}   : qE d 66 76 [some (.ref r0), some (.int x1), some (.int x2), o3] [] h (some (.int x2), h) := by
  refine qe_iload_n c66_76 rfl ?_
  exact qe_iret c66_77 qr66
theorem b67_0F {d : Nat} {q : Option Value × qH} {h : qH} {r0 : Nat} {x1 : Int32} {x2 : Int32} {fs1 : List Value} {y3 : Nat} {fs5 : List Value} {h1 : qH} {z7 : Int32}  (e2 : h.2.2 r0 = some (.inr (11, fs1))) (e4 : fs1[0]? = some (.ref y3)) (e6 : h.2.2 y3 = some (.inr (4, fs5))) (e8 : qCall d 216 [.ref y3, .int x1] h ((some (.int z7)), h1)) (e9 : ¬ ((z7 : Int32) = 0)) (kk : qE d 67 11 [some (.ref r0), some (.int x1), some (.int x2)] [] h1 q): qE d 67 0 [some (.ref r0), some (.int x1), some (.int x2)] [] h q := by
  refine qe_aload_n c67_0 rfl ?_
  refine qe_getfield c67_1 qo67 qF11_10 e2 e4 ?_
  refine qe_iload_n c67_4 rfl ?_
  refine qe_virtual (b := y3) (as := [.int x1]) (r := []) (v := (some (.int z7))) (h2 := h1) c67_5 qo67 qK11_152 rfl rfl rfl (by rw [qo216]; exact e6) (Nat.le_of_ble_eq_true rfl) e8 ?_
  refine qe_if_eq_F (t := 23) c67_8 rfl e9 ?_
  exact kk
theorem b67_0T {d : Nat} {q : Option Value × qH} {h : qH} {r0 : Nat} {x1 : Int32} {x2 : Int32} {fs1 : List Value} {y3 : Nat} {fs5 : List Value} {h1 : qH} {z7 : Int32}  (e2 : h.2.2 r0 = some (.inr (11, fs1))) (e4 : fs1[0]? = some (.ref y3)) (e6 : h.2.2 y3 = some (.inr (4, fs5))) (e8 : qCall d 216 [.ref y3, .int x1] h ((some (.int z7)), h1)) (e9 : (z7 : Int32) = 0) (kk : qE d 67 23 [some (.ref r0), some (.int x1), some (.int x2)] [] h1 q): qE d 67 0 [some (.ref r0), some (.int x1), some (.int x2)] [] h q := by
  refine qe_aload_n c67_0 rfl ?_
  refine qe_getfield c67_1 qo67 qF11_10 e2 e4 ?_
  refine qe_iload_n c67_4 rfl ?_
  refine qe_virtual (b := y3) (as := [.int x1]) (r := []) (v := (some (.int z7))) (h2 := h1) c67_5 qo67 qK11_152 rfl rfl rfl (by rw [qo216]; exact e6) (Nat.le_of_ble_eq_true rfl) e8 ?_
  refine qe_if_eq_T (t := 23) c67_8 rfl e9 ?_
  exact kk
theorem b67_11F {d : Nat} {q : Option Value × qH} {h : qH} {r0 : Nat} {x1 : Int32} {x2 : Int32} {fs1 : List Value} {y3 : Nat} {fs5 : List Value} {h1 : qH} {z7 : Int32}  (e2 : h.2.2 r0 = some (.inr (11, fs1))) (e4 : fs1[1]? = some (.ref y3)) (e6 : h.2.2 y3 = some (.inr (8, fs5))) (e8 : qCall d 245 [.ref y3, .int x1] h ((some (.int z7)), h1)) (e9 : (z7 : Int32) = x2) (kk : qE d 67 23 [some (.ref r0), some (.int x1), some (.int x2)] [] h1 q): qE d 67 11 [some (.ref r0), some (.int x1), some (.int x2)] [] h q := by
  refine qe_aload_n c67_11 rfl ?_
  refine qe_getfield c67_12 qo67 qF11_19 e2 e4 ?_
  refine qe_iload_n c67_15 rfl ?_
  refine qe_virtual (b := y3) (as := [.int x1]) (r := []) (v := (some (.int z7))) (h2 := h1) c67_16 qo67 qK11_155 rfl rfl rfl (by rw [qo245]; exact e6) (Nat.le_of_ble_eq_true rfl) e8 ?_
  refine qe_iload_n c67_19 rfl ?_
  refine qe_icmp_ne_F (t := 25) c67_20 rfl e9 ?_
  exact kk
theorem b67_11T {d : Nat} {q : Option Value × qH} {h : qH} {r0 : Nat} {x1 : Int32} {x2 : Int32} {fs1 : List Value} {y3 : Nat} {fs5 : List Value} {h1 : qH} {z7 : Int32}  (e2 : h.2.2 r0 = some (.inr (11, fs1))) (e4 : fs1[1]? = some (.ref y3)) (e6 : h.2.2 y3 = some (.inr (8, fs5))) (e8 : qCall d 245 [.ref y3, .int x1] h ((some (.int z7)), h1)) (e9 : ¬ ((z7 : Int32) = x2)) (kk : qE d 67 25 [some (.ref r0), some (.int x1), some (.int x2)] [] h1 q): qE d 67 11 [some (.ref r0), some (.int x1), some (.int x2)] [] h q := by
  refine qe_aload_n c67_11 rfl ?_
  refine qe_getfield c67_12 qo67 qF11_19 e2 e4 ?_
  refine qe_iload_n c67_15 rfl ?_
  refine qe_virtual (b := y3) (as := [.int x1]) (r := []) (v := (some (.int z7))) (h2 := h1) c67_16 qo67 qK11_155 rfl rfl rfl (by rw [qo245]; exact e6) (Nat.le_of_ble_eq_true rfl) e8 ?_
  refine qe_iload_n c67_19 rfl ?_
  refine qe_icmp_ne_T (t := 25) c67_20 rfl e9 ?_
  exact kk
theorem b67_23 {d : Nat} {h : qH} {r0 : Nat} {x1 : Int32} {x2 : Int32}   : qE d 67 23 [some (.ref r0), some (.int x1), some (.int x2)] [] h (some (.int 0), h) := by
  refine qe_iconst (x := 0) c67_23 (by decide) ?_
  exact qe_zret c67_24 qr67 (by decide)
theorem b67_25 {d : Nat} {h : qH} {r0 : Nat} {x1 : Int32} {x2 : Int32} {fs1 : List Value} {y3 : Nat} {fs5 : List Value} {y7 : Int32} {h1 : qH}  (e2 : h.2.2 r0 = some (.inr (11, fs1))) (e4 : fs1[1]? = some (.ref y3)) (e6 : h.2.2 y3 = some (.inr (8, fs5))) (e8 : fs5[2]? = some (.int y7)) (e9 : 2 < fs5.length) (e10 : qset h y3 (.inr (8, fs5.set 2 (.int (y7 ^^^ (1 <<< (x1 &&& 31)))))) = h1) : qE d 67 25 [some (.ref r0), some (.int x1), some (.int x2)] [] h (some (.int 1), h1) := by
  refine qe_aload_n c67_25 rfl ?_
  refine qe_getfield c67_26 qo67 qF11_19 e2 e4 ?_
  refine qe_dup c67_29 rfl ?_
  refine qe_getfield c67_30 qo67 qF11_133 e6 e8 ?_
  refine qe_iconst (x := 1) c67_33 (by decide) ?_
  refine qe_iload_n c67_34 rfl ?_
  refine qe_ishl c67_35 ?_
  refine qe_ixor c67_36 ?_
  refine qe_putfield c67_37 qo67 qF11_133 qz8_2 e6 e9 (by rw [qy8_2]; rfl) ?_
  rw [e10]
  refine qe_iconst (x := 1) c67_40 (by decide) ?_
  exact qe_zret c67_41 qr67 (by decide)
theorem b68_0F {d : Nat} {q : Option Value × qH} {h : qH} {r0 : Nat} {x1 : Int32} {x2 : Int32} {fs1 : List Value} {y3 : Nat} {fs5 : List Value} {h1 : qH} {z7 : Int32}  (e2 : h.2.2 r0 = some (.inr (11, fs1))) (e4 : fs1[0]? = some (.ref y3)) (e6 : h.2.2 y3 = some (.inr (4, fs5))) (e8 : qCall d 214 [.ref y3, .int x1] h ((some (.int z7)), h1)) (e9 : ¬ ((z7 : Int32) = 0)) (kk : qE d 68 11 [some (.ref r0), some (.int x1), some (.int x2)] [] h1 q): qE d 68 0 [some (.ref r0), some (.int x1), some (.int x2)] [] h q := by
  refine qe_aload_n c68_0 rfl ?_
  refine qe_getfield c68_1 qo68 qF11_10 e2 e4 ?_
  refine qe_iload_n c68_4 rfl ?_
  refine qe_virtual (b := y3) (as := [.int x1]) (r := []) (v := (some (.int z7))) (h2 := h1) c68_5 qo68 qK11_122 rfl rfl rfl (by rw [qo214]; exact e6) (Nat.le_of_ble_eq_true rfl) e8 ?_
  refine qe_if_eq_F (t := 23) c68_8 rfl e9 ?_
  exact kk
theorem b68_0T {d : Nat} {q : Option Value × qH} {h : qH} {r0 : Nat} {x1 : Int32} {x2 : Int32} {fs1 : List Value} {y3 : Nat} {fs5 : List Value} {h1 : qH} {z7 : Int32}  (e2 : h.2.2 r0 = some (.inr (11, fs1))) (e4 : fs1[0]? = some (.ref y3)) (e6 : h.2.2 y3 = some (.inr (4, fs5))) (e8 : qCall d 214 [.ref y3, .int x1] h ((some (.int z7)), h1)) (e9 : (z7 : Int32) = 0) (kk : qE d 68 23 [some (.ref r0), some (.int x1), some (.int x2)] [] h1 q): qE d 68 0 [some (.ref r0), some (.int x1), some (.int x2)] [] h q := by
  refine qe_aload_n c68_0 rfl ?_
  refine qe_getfield c68_1 qo68 qF11_10 e2 e4 ?_
  refine qe_iload_n c68_4 rfl ?_
  refine qe_virtual (b := y3) (as := [.int x1]) (r := []) (v := (some (.int z7))) (h2 := h1) c68_5 qo68 qK11_122 rfl rfl rfl (by rw [qo214]; exact e6) (Nat.le_of_ble_eq_true rfl) e8 ?_
  refine qe_if_eq_T (t := 23) c68_8 rfl e9 ?_
  exact kk
theorem b68_11F {d : Nat} {q : Option Value × qH} {h : qH} {r0 : Nat} {x1 : Int32} {x2 : Int32} {fs1 : List Value} {y3 : Nat} {fs5 : List Value} {h1 : qH} {z7 : Int32}  (e2 : h.2.2 r0 = some (.inr (11, fs1))) (e4 : fs1[1]? = some (.ref y3)) (e6 : h.2.2 y3 = some (.inr (8, fs5))) (e8 : qCall d 243 [.ref y3, .int x1] h ((some (.int z7)), h1)) (e9 : (z7 : Int32) = x2) (kk : qE d 68 23 [some (.ref r0), some (.int x1), some (.int x2)] [] h1 q): qE d 68 11 [some (.ref r0), some (.int x1), some (.int x2)] [] h q := by
  refine qe_aload_n c68_11 rfl ?_
  refine qe_getfield c68_12 qo68 qF11_19 e2 e4 ?_
  refine qe_iload_n c68_15 rfl ?_
  refine qe_virtual (b := y3) (as := [.int x1]) (r := []) (v := (some (.int z7))) (h2 := h1) c68_16 qo68 qK11_158 rfl rfl rfl (by rw [qo243]; exact e6) (Nat.le_of_ble_eq_true rfl) e8 ?_
  refine qe_iload_n c68_19 rfl ?_
  refine qe_icmp_ne_F (t := 25) c68_20 rfl e9 ?_
  exact kk
theorem b68_11T {d : Nat} {q : Option Value × qH} {h : qH} {r0 : Nat} {x1 : Int32} {x2 : Int32} {fs1 : List Value} {y3 : Nat} {fs5 : List Value} {h1 : qH} {z7 : Int32}  (e2 : h.2.2 r0 = some (.inr (11, fs1))) (e4 : fs1[1]? = some (.ref y3)) (e6 : h.2.2 y3 = some (.inr (8, fs5))) (e8 : qCall d 243 [.ref y3, .int x1] h ((some (.int z7)), h1)) (e9 : ¬ ((z7 : Int32) = x2)) (kk : qE d 68 25 [some (.ref r0), some (.int x1), some (.int x2)] [] h1 q): qE d 68 11 [some (.ref r0), some (.int x1), some (.int x2)] [] h q := by
  refine qe_aload_n c68_11 rfl ?_
  refine qe_getfield c68_12 qo68 qF11_19 e2 e4 ?_
  refine qe_iload_n c68_15 rfl ?_
  refine qe_virtual (b := y3) (as := [.int x1]) (r := []) (v := (some (.int z7))) (h2 := h1) c68_16 qo68 qK11_158 rfl rfl rfl (by rw [qo243]; exact e6) (Nat.le_of_ble_eq_true rfl) e8 ?_
  refine qe_iload_n c68_19 rfl ?_
  refine qe_icmp_ne_T (t := 25) c68_20 rfl e9 ?_
  exact kk
theorem b68_23 {d : Nat} {h : qH} {r0 : Nat} {x1 : Int32} {x2 : Int32}   : qE d 68 23 [some (.ref r0), some (.int x1), some (.int x2)] [] h (some (.int 0), h) := by
  refine qe_iconst (x := 0) c68_23 (by decide) ?_
  exact qe_zret c68_24 qr68 (by decide)
theorem b68_25 {d : Nat} {h : qH} {r0 : Nat} {x1 : Int32} {x2 : Int32} {fs1 : List Value} {y3 : Nat} {fs5 : List Value} {y7 : Int32} {h1 : qH}  (e2 : h.2.2 r0 = some (.inr (11, fs1))) (e4 : fs1[1]? = some (.ref y3)) (e6 : h.2.2 y3 = some (.inr (8, fs5))) (e8 : fs5[1]? = some (.int y7)) (e9 : 1 < fs5.length) (e10 : qset h y3 (.inr (8, fs5.set 1 (.int (y7 ^^^ (1 <<< (x1 &&& 31)))))) = h1) : qE d 68 25 [some (.ref r0), some (.int x1), some (.int x2)] [] h (some (.int 1), h1) := by
  refine qe_aload_n c68_25 rfl ?_
  refine qe_getfield c68_26 qo68 qF11_19 e2 e4 ?_
  refine qe_dup c68_29 rfl ?_
  refine qe_getfield c68_30 qo68 qF11_161 e6 e8 ?_
  refine qe_iconst (x := 1) c68_33 (by decide) ?_
  refine qe_iload_n c68_34 rfl ?_
  refine qe_ishl c68_35 ?_
  refine qe_ixor c68_36 ?_
  refine qe_putfield c68_37 qo68 qF11_161 qz8_1 e6 e9 (by rw [qy8_1]; rfl) ?_
  rw [e10]
  refine qe_iconst (x := 1) c68_40 (by decide) ?_
  exact qe_zret c68_41 qr68 (by decide)
theorem b69_0F {d : Nat} {q : Option Value × qH} {h : qH} {r0 : Nat} {x1 : Int32} {x2 : Int32} {x3 : Int32} {h1 : qH} {z1 : Int32}  (e2 : qCall d 56 [.int x1] h ((some (.int z1)), h1)) (e3 : ¬ ((z1 : Int32) = 0)) (kk : qE d 69 7 [some (.ref r0), some (.int x1), some (.int x2), some (.int x3)] [] h1 q): qE d 69 0 [some (.ref r0), some (.int x1), some (.int x2), some (.int x3)] [] h q := by
  refine qe_iload_n c69_0 rfl ?_
  refine qe_static (as := [.int x1]) (r := []) (v := (some (.int z1))) (h2 := h1) c69_1 qo69 (by decide) qK11_104 rfl rfl rfl (Nat.le_of_ble_eq_true rfl) e2 ?_
  refine qe_if_eq_F (t := 34) c69_4 rfl e3 ?_
  exact kk
theorem b69_0T {d : Nat} {q : Option Value × qH} {h : qH} {r0 : Nat} {x1 : Int32} {x2 : Int32} {x3 : Int32} {h1 : qH} {z1 : Int32}  (e2 : qCall d 56 [.int x1] h ((some (.int z1)), h1)) (e3 : (z1 : Int32) = 0) (kk : qE d 69 34 [some (.ref r0), some (.int x1), some (.int x2), some (.int x3)] [] h1 q): qE d 69 0 [some (.ref r0), some (.int x1), some (.int x2), some (.int x3)] [] h q := by
  refine qe_iload_n c69_0 rfl ?_
  refine qe_static (as := [.int x1]) (r := []) (v := (some (.int z1))) (h2 := h1) c69_1 qo69 (by decide) qK11_104 rfl rfl rfl (Nat.le_of_ble_eq_true rfl) e2 ?_
  refine qe_if_eq_T (t := 34) c69_4 rfl e3 ?_
  exact kk
theorem b69_7F {d : Nat} {q : Option Value × qH} {h : qH} {r0 : Nat} {x1 : Int32} {x2 : Int32} {x3 : Int32} {fs1 : List Value} {y3 : Nat} {fs5 : List Value} {h1 : qH} {z7 : Int32}  (e2 : h.2.2 r0 = some (.inr (11, fs1))) (e4 : fs1[0]? = some (.ref y3)) (e6 : h.2.2 y3 = some (.inr (4, fs5))) (e8 : qCall d 215 [.ref y3, .int x2] h ((some (.int z7)), h1)) (e9 : ¬ ((z7 : Int32) = 0)) (kk : qE d 69 18 [some (.ref r0), some (.int x1), some (.int x2), some (.int x3)] [] h1 q): qE d 69 7 [some (.ref r0), some (.int x1), some (.int x2), some (.int x3)] [] h q := by
  refine qe_aload_n c69_7 rfl ?_
  refine qe_getfield c69_8 qo69 qF11_10 e2 e4 ?_
  refine qe_iload_n c69_11 rfl ?_
  refine qe_virtual (b := y3) (as := [.int x2]) (r := []) (v := (some (.int z7))) (h2 := h1) c69_12 qo69 qK11_140 rfl rfl rfl (by rw [qo215]; exact e6) (Nat.le_of_ble_eq_true rfl) e8 ?_
  refine qe_if_eq_F (t := 34) c69_15 rfl e9 ?_
  exact kk
theorem b69_7T {d : Nat} {q : Option Value × qH} {h : qH} {r0 : Nat} {x1 : Int32} {x2 : Int32} {x3 : Int32} {fs1 : List Value} {y3 : Nat} {fs5 : List Value} {h1 : qH} {z7 : Int32}  (e2 : h.2.2 r0 = some (.inr (11, fs1))) (e4 : fs1[0]? = some (.ref y3)) (e6 : h.2.2 y3 = some (.inr (4, fs5))) (e8 : qCall d 215 [.ref y3, .int x2] h ((some (.int z7)), h1)) (e9 : (z7 : Int32) = 0) (kk : qE d 69 34 [some (.ref r0), some (.int x1), some (.int x2), some (.int x3)] [] h1 q): qE d 69 7 [some (.ref r0), some (.int x1), some (.int x2), some (.int x3)] [] h q := by
  refine qe_aload_n c69_7 rfl ?_
  refine qe_getfield c69_8 qo69 qF11_10 e2 e4 ?_
  refine qe_iload_n c69_11 rfl ?_
  refine qe_virtual (b := y3) (as := [.int x2]) (r := []) (v := (some (.int z7))) (h2 := h1) c69_12 qo69 qK11_140 rfl rfl rfl (by rw [qo215]; exact e6) (Nat.le_of_ble_eq_true rfl) e8 ?_
  refine qe_if_eq_T (t := 34) c69_15 rfl e9 ?_
  exact kk
theorem b69_18F {d : Nat} {q : Option Value × qH} {h : qH} {r0 : Nat} {x1 : Int32} {x2 : Int32} {x3 : Int32} {fs1 : List Value} {y3 : Nat} {y5 : Nat} {fs7 : List Value} {h1 : qH} {z9 : Int32}  (e2 : h.2.2 r0 = some (.inr (11, fs1))) (e4 : fs1[8]? = some (.ref y3)) (e6 : fs1[0]? = some (.ref y5)) (e8 : h.2.2 y3 = some (.inr (6, fs7))) (e10 : qCall d 230 [.ref y3, .ref y5, .int x1, .int x2] h ((some (.int z9)), h1)) (e11 : (z9 : Int32) = 0) (kk : qE d 69 34 [some (.ref r0), some (.int x1), some (.int x2), some (.int x3)] [] h1 q): qE d 69 18 [some (.ref r0), some (.int x1), some (.int x2), some (.int x3)] [] h q := by
  refine qe_aload_n c69_18 rfl ?_
  refine qe_getfield c69_19 qo69 qF11_62 e2 e4 ?_
  refine qe_aload_n c69_22 rfl ?_
  refine qe_getfield c69_23 qo69 qF11_10 e2 e6 ?_
  refine qe_iload_n c69_26 rfl ?_
  refine qe_iload_n c69_27 rfl ?_
  refine qe_virtual (b := y3) (as := [.ref y5, .int x1, .int x2]) (r := []) (v := (some (.int z9))) (h2 := h1) c69_28 qo69 qK11_268 rfl rfl rfl (by rw [qo230]; exact e8) (Nat.le_of_ble_eq_true rfl) e10 ?_
  refine qe_if_ne_F (t := 38) c69_31 rfl e11 ?_
  exact kk
theorem b69_18T {d : Nat} {q : Option Value × qH} {h : qH} {r0 : Nat} {x1 : Int32} {x2 : Int32} {x3 : Int32} {fs1 : List Value} {y3 : Nat} {y5 : Nat} {fs7 : List Value} {h1 : qH} {z9 : Int32}  (e2 : h.2.2 r0 = some (.inr (11, fs1))) (e4 : fs1[8]? = some (.ref y3)) (e6 : fs1[0]? = some (.ref y5)) (e8 : h.2.2 y3 = some (.inr (6, fs7))) (e10 : qCall d 230 [.ref y3, .ref y5, .int x1, .int x2] h ((some (.int z9)), h1)) (e11 : ¬ ((z9 : Int32) = 0)) (kk : qE d 69 38 [some (.ref r0), some (.int x1), some (.int x2), some (.int x3)] [] h1 q): qE d 69 18 [some (.ref r0), some (.int x1), some (.int x2), some (.int x3)] [] h q := by
  refine qe_aload_n c69_18 rfl ?_
  refine qe_getfield c69_19 qo69 qF11_62 e2 e4 ?_
  refine qe_aload_n c69_22 rfl ?_
  refine qe_getfield c69_23 qo69 qF11_10 e2 e6 ?_
  refine qe_iload_n c69_26 rfl ?_
  refine qe_iload_n c69_27 rfl ?_
  refine qe_virtual (b := y3) (as := [.ref y5, .int x1, .int x2]) (r := []) (v := (some (.int z9))) (h2 := h1) c69_28 qo69 qK11_268 rfl rfl rfl (by rw [qo230]; exact e8) (Nat.le_of_ble_eq_true rfl) e10 ?_
  refine qe_if_ne_T (t := 38) c69_31 rfl e11 ?_
  exact kk
theorem b69_34 {d : Nat} {h : qH} {r0 : Nat} {x1 : Int32} {x2 : Int32} {x3 : Int32}   : qE d 69 34 [some (.ref r0), some (.int x1), some (.int x2), some (.int x3)] [] h (some (.long (-1)), h) := by
  refine qe_ldc2_w (x := (-1)) c69_34 qo69 qJ11_272 ?_
  exact qe_lret c69_37 qr69
theorem b69_38D {d : Nat} {q : Option Value × qH} {h : qH} {r0 : Nat} {x1 : Int32} {x2 : Int32} {x3 : Int32}  (e1 : (x3 : Int32).toInt < 0 ∨ 2 < (x3 : Int32).toInt) (kk : qE d 69 102 [some (.ref r0), some (.int x1), some (.int x2), some (.int x3)] [] h q): qE d 69 38 [some (.ref r0), some (.int x1), some (.int x2), some (.int x3)] [] h q := by
  refine qe_iload_n c69_38 rfl ?_
  refine qe_tableD (t := 102) c69_39 e1 rfl ?_
  exact kk
theorem b69_38s2 {d : Nat} {q : Option Value × qH} {h : qH} {r0 : Nat} {x1 : Int32} {x2 : Int32} {x3 : Int32}  (e1 : (x3 : Int32).toInt = 2) (kk : qE d 69 91 [some (.ref r0), some (.int x1), some (.int x2), some (.int x3)] [] h q): qE d 69 38 [some (.ref r0), some (.int x1), some (.int x2), some (.int x3)] [] h q := by
  refine qe_iload_n c69_38 rfl ?_
  refine qe_table (off := 52) (t := 91) c69_39 (by rw [e1]; decide) (by rw [e1]; decide) rfl ?_
  exact kk
theorem b69_38s1 {d : Nat} {q : Option Value × qH} {h : qH} {r0 : Nat} {x1 : Int32} {x2 : Int32} {x3 : Int32}  (e1 : (x3 : Int32).toInt = 1) (kk : qE d 69 79 [some (.ref r0), some (.int x1), some (.int x2), some (.int x3)] [] h q): qE d 69 38 [some (.ref r0), some (.int x1), some (.int x2), some (.int x3)] [] h q := by
  refine qe_iload_n c69_38 rfl ?_
  refine qe_table (off := 40) (t := 79) c69_39 (by rw [e1]; decide) (by rw [e1]; decide) rfl ?_
  exact kk
theorem b69_38s0 {d : Nat} {q : Option Value × qH} {h : qH} {r0 : Nat} {x1 : Int32} {x2 : Int32} {x3 : Int32}  (e1 : (x3 : Int32).toInt = 0) (kk : qE d 69 64 [some (.ref r0), some (.int x1), some (.int x2), some (.int x3)] [] h q): qE d 69 38 [some (.ref r0), some (.int x1), some (.int x2), some (.int x3)] [] h q := by
  refine qe_iload_n c69_38 rfl ?_
  refine qe_table (off := 25) (t := 64) c69_39 (by rw [e1]; decide) (by rw [e1]; decide) rfl ?_
  exact kk
theorem b69_64 {d : Nat} {h : qH} {r0 : Nat} {x1 : Int32} {x2 : Int32} {x3 : Int32} {fs1 : List Value} {y3 : Nat} {fs5 : List Value} {y7 : Nat} {n9 : Nat} {f10 : Nat → Int32}  (e2 : h.2.2 r0 = some (.inr (11, fs1))) (e4 : fs1[8]? = some (.ref y3)) (e6 : h.2.2 y3 = some (.inr (6, fs5))) (e8 : fs5[3]? = some (.ref y7)) (e11 : h.2.2 y7 = some (.inl (0, n9, .inl f10))) (e12 : 0 ≤ (x1 : Int32).toInt ∧ (x1 : Int32).toInt < (n9 : Nat)) : qE d 69 64 [some (.ref r0), some (.int x1), some (.int x2), some (.int x3)] [] h (some (.long ((((f10 (x1 : Int32).toNatClampNeg) >>> (x2 &&& 31)) &&& 1) : Int32).toInt64), h) := by
  refine qe_aload_n c69_64 rfl ?_
  refine qe_getfield c69_65 qo69 qF11_62 e2 e4 ?_
  refine qe_getfield c69_68 qo69 qF11_274 e6 e8 ?_
  refine qe_iload_n c69_71 rfl ?_
  refine qe_iaload c69_72 e11 e12 ?_
  refine qe_iload_n c69_73 rfl ?_
  refine qe_ishr c69_74 ?_
  refine qe_iconst (x := 1) c69_75 (by decide) ?_
  refine qe_iand c69_76 ?_
  refine qe_i2l c69_77 ?_
  exact qe_lret c69_78 qr69
theorem b69_79 {d : Nat} {h : qH} {r0 : Nat} {x1 : Int32} {x2 : Int32} {x3 : Int32} {fs1 : List Value} {y3 : Nat} {fs5 : List Value} {y7 : Nat} {n9 : Nat} {f10 : Nat → Option Nat} {r13 : Nat} {n15 : Nat} {f16 : Nat → Int64}  (e2 : h.2.2 r0 = some (.inr (11, fs1))) (e4 : fs1[8]? = some (.ref y3)) (e6 : h.2.2 y3 = some (.inr (6, fs5))) (e8 : fs5[4]? = some (.ref y7)) (e11 : h.2.2 y7 = some (.inl (7, n9, .inr (.inr (.inr (.inr f10)))))) (e12 : 0 ≤ (x1 : Int32).toInt ∧ (x1 : Int32).toInt < (n9 : Nat)) (e14 : (f10 (x1 : Int32).toNatClampNeg) = some r13) (e17 : h.2.2 r13 = some (.inl (2, n15, .inr (.inl f16)))) (e18 : 0 ≤ (x2 : Int32).toInt ∧ (x2 : Int32).toInt < (n15 : Nat)) : qE d 69 79 [some (.ref r0), some (.int x1), some (.int x2), some (.int x3)] [] h (some (.long (f16 (x2 : Int32).toNatClampNeg)), h) := by
  refine qe_aload_n c69_79 rfl ?_
  refine qe_getfield c69_80 qo69 qF11_62 e2 e4 ?_
  refine qe_getfield c69_83 qo69 qF11_277 e6 e8 ?_
  refine qe_iload_n c69_86 rfl ?_
  refine qe_aaload c69_87 e11 e12 (Or.inr (Or.inr rfl)) e14 ?_
  refine qe_iload_n c69_88 rfl ?_
  refine qe_laload c69_89 e17 e18 ?_
  exact qe_lret c69_90 qr69
theorem b69_91 {d : Nat} {h : qH} {r0 : Nat} {x1 : Int32} {x2 : Int32} {x3 : Int32} {fs1 : List Value} {y3 : Nat} {fs5 : List Value} {y7 : Nat} {n9 : Nat} {f10 : Nat → Int32}  (e2 : h.2.2 r0 = some (.inr (11, fs1))) (e4 : fs1[8]? = some (.ref y3)) (e6 : h.2.2 y3 = some (.inr (6, fs5))) (e8 : fs5[1]? = some (.ref y7)) (e11 : h.2.2 y7 = some (.inl (0, n9, .inl f10))) (e12 : 0 ≤ (x1 : Int32).toInt ∧ (x1 : Int32).toInt < (n9 : Nat)) : qE d 69 91 [some (.ref r0), some (.int x1), some (.int x2), some (.int x3)] [] h (some (.long ((f10 (x1 : Int32).toNatClampNeg) : Int32).toInt64), h) := by
  refine qe_aload_n c69_91 rfl ?_
  refine qe_getfield c69_92 qo69 qF11_62 e2 e4 ?_
  refine qe_getfield c69_95 qo69 qF11_281 e6 e8 ?_
  refine qe_iload_n c69_98 rfl ?_
  refine qe_iaload c69_99 e11 e12 ?_
  refine qe_i2l c69_100 ?_
  exact qe_lret c69_101 qr69
theorem b69_102 {d : Nat} {h : qH} {r0 : Nat} {x1 : Int32} {x2 : Int32} {x3 : Int32}   : qE d 69 102 [some (.ref r0), some (.int x1), some (.int x2), some (.int x3)] [] h (some (.long (-1)), h) := by
  refine qe_ldc2_w (x := (-1)) c69_102 qo69 qJ11_272 ?_
  exact qe_lret c69_105 qr69
theorem b70_0F {d : Nat} {q : Option Value × qH} {h : qH} {r0 : Nat} {x1 : Int32} {h1 : qH} {z1 : Int32}  (e2 : qCall d 56 [.int x1] h ((some (.int z1)), h1)) (e3 : ¬ ((z1 : Int32) = 0)) (kk : qE d 70 7 [some (.ref r0), some (.int x1)] [] h1 q): qE d 70 0 [some (.ref r0), some (.int x1)] [] h q := by
  refine qe_iload_n c70_0 rfl ?_
  refine qe_static (as := [.int x1]) (r := []) (v := (some (.int z1))) (h2 := h1) c70_1 qo70 (by decide) qK11_104 rfl rfl rfl (Nat.le_of_ble_eq_true rfl) e2 ?_
  refine qe_if_eq_F (t := 19) c70_4 rfl e3 ?_
  exact kk
theorem b70_0T {d : Nat} {q : Option Value × qH} {h : qH} {r0 : Nat} {x1 : Int32} {h1 : qH} {z1 : Int32}  (e2 : qCall d 56 [.int x1] h ((some (.int z1)), h1)) (e3 : (z1 : Int32) = 0) (kk : qE d 70 19 [some (.ref r0), some (.int x1)] [] h1 q): qE d 70 0 [some (.ref r0), some (.int x1)] [] h q := by
  refine qe_iload_n c70_0 rfl ?_
  refine qe_static (as := [.int x1]) (r := []) (v := (some (.int z1))) (h2 := h1) c70_1 qo70 (by decide) qK11_104 rfl rfl rfl (Nat.le_of_ble_eq_true rfl) e2 ?_
  refine qe_if_eq_T (t := 19) c70_4 rfl e3 ?_
  exact kk
theorem b70_7 {d : Nat} {q : Option Value × qH} {h : qH} {r0 : Nat} {x1 : Int32} {fs1 : List Value} {y3 : Nat} {fs5 : List Value} {y7 : Nat} {n9 : Nat} {f10 : Nat → Int32}  (e2 : h.2.2 r0 = some (.inr (11, fs1))) (e4 : fs1[8]? = some (.ref y3)) (e6 : h.2.2 y3 = some (.inr (6, fs5))) (e8 : fs5[2]? = some (.ref y7)) (e11 : h.2.2 y7 = some (.inl (0, n9, .inl f10))) (e12 : 0 ≤ (x1 : Int32).toInt ∧ (x1 : Int32).toInt < (n9 : Nat)) (kk : qE d 70 20 [some (.ref r0), some (.int x1)] [.int (f10 (x1 : Int32).toNatClampNeg)] h q): qE d 70 7 [some (.ref r0), some (.int x1)] [] h q := by
  refine qe_aload_n c70_7 rfl ?_
  refine qe_getfield c70_8 qo70 qF11_62 e2 e4 ?_
  refine qe_getfield c70_11 qo70 qF11_265 e6 e8 ?_
  refine qe_iload_n c70_14 rfl ?_
  refine qe_iaload c70_15 e11 e12 ?_
  refine qe_goto (t := 20) c70_16 rfl ?_
  exact kk
theorem b70_19 {d : Nat} {q : Option Value × qH} {h : qH} {r0 : Nat} {x1 : Int32}   (kk : qE d 70 20 [some (.ref r0), some (.int x1)] [.int (-1)] h q): qE d 70 19 [some (.ref r0), some (.int x1)] [] h q := by
  refine qe_iconst (x := (-1)) c70_19 (by decide) ?_
  exact kk
theorem b70_20 {d : Nat} {h : qH} {r0 : Nat} {x1 : Int32} {xs0 : Int32}   : qE d 70 20 [some (.ref r0), some (.int x1)] [.int xs0] h (some (.int xs0), h) := by
  exact qe_iret c70_20 qr70
theorem b71_0F {d : Nat} {q : Option Value × qH} {h : qH} {r0 : Nat} {x1 : Int32} {x2 : Int32} {x3 : Int32} {fs1 : List Value} {y3 : Nat} {fs5 : List Value} {y7 : Int32}  (e2 : h.2.2 r0 = some (.inr (11, fs1))) (e4 : fs1[1]? = some (.ref y3)) (e6 : h.2.2 y3 = some (.inr (8, fs5))) (e8 : fs5[0]? = some (.int y7)) (e9 : (y7 : Int32) = 0) (kk : qE d 71 10 [some (.ref r0), some (.int x1), some (.int x2), some (.int x3), none] [] h q): qE d 71 0 [some (.ref r0), some (.int x1), some (.int x2), some (.int x3), none] [] h q := by
  refine qe_aload_n c71_0 rfl ?_
  refine qe_getfield c71_1 qo71 qF11_19 e2 e4 ?_
  refine qe_getfield c71_4 qo71 qF11_97 e6 e8 ?_
  refine qe_if_ne_F (t := 54) c71_7 rfl e9 ?_
  exact kk
theorem b71_0T {d : Nat} {q : Option Value × qH} {h : qH} {r0 : Nat} {x1 : Int32} {x2 : Int32} {x3 : Int32} {fs1 : List Value} {y3 : Nat} {fs5 : List Value} {y7 : Int32}  (e2 : h.2.2 r0 = some (.inr (11, fs1))) (e4 : fs1[1]? = some (.ref y3)) (e6 : h.2.2 y3 = some (.inr (8, fs5))) (e8 : fs5[0]? = some (.int y7)) (e9 : ¬ ((y7 : Int32) = 0)) (kk : qE d 71 54 [some (.ref r0), some (.int x1), some (.int x2), some (.int x3), none] [] h q): qE d 71 0 [some (.ref r0), some (.int x1), some (.int x2), some (.int x3), none] [] h q := by
  refine qe_aload_n c71_0 rfl ?_
  refine qe_getfield c71_1 qo71 qF11_19 e2 e4 ?_
  refine qe_getfield c71_4 qo71 qF11_97 e6 e8 ?_
  refine qe_if_ne_T (t := 54) c71_7 rfl e9 ?_
  exact kk
theorem b71_10F {d : Nat} {q : Option Value × qH} {h : qH} {r0 : Nat} {x1 : Int32} {x2 : Int32} {x3 : Int32} {fs1 : List Value} {y3 : Nat} {fs5 : List Value} {y7 : Int32}  (e2 : h.2.2 r0 = some (.inr (11, fs1))) (e4 : fs1[0]? = some (.ref y3)) (e6 : h.2.2 y3 = some (.inr (4, fs5))) (e8 : fs5[0]? = some (.int y7)) (e9 : ¬ ((8 : Int32) ≤ y7)) (kk : qE d 71 22 [some (.ref r0), some (.int x1), some (.int x2), some (.int x3), none] [] h q): qE d 71 10 [some (.ref r0), some (.int x1), some (.int x2), some (.int x3), none] [] h q := by
  refine qe_aload_n c71_10 rfl ?_
  refine qe_getfield c71_11 qo71 qF11_10 e2 e4 ?_
  refine qe_getfield c71_14 qo71 qF11_101 e6 e8 ?_
  refine qe_bipush (x := 8) c71_17 (by decide) ?_
  refine qe_icmp_ge_F (t := 54) c71_19 rfl e9 ?_
  exact kk
theorem b71_10T {d : Nat} {q : Option Value × qH} {h : qH} {r0 : Nat} {x1 : Int32} {x2 : Int32} {x3 : Int32} {fs1 : List Value} {y3 : Nat} {fs5 : List Value} {y7 : Int32}  (e2 : h.2.2 r0 = some (.inr (11, fs1))) (e4 : fs1[0]? = some (.ref y3)) (e6 : h.2.2 y3 = some (.inr (4, fs5))) (e8 : fs5[0]? = some (.int y7)) (e9 : (8 : Int32) ≤ y7) (kk : qE d 71 54 [some (.ref r0), some (.int x1), some (.int x2), some (.int x3), none] [] h q): qE d 71 10 [some (.ref r0), some (.int x1), some (.int x2), some (.int x3), none] [] h q := by
  refine qe_aload_n c71_10 rfl ?_
  refine qe_getfield c71_11 qo71 qF11_10 e2 e4 ?_
  refine qe_getfield c71_14 qo71 qF11_101 e6 e8 ?_
  refine qe_bipush (x := 8) c71_17 (by decide) ?_
  refine qe_icmp_ge_T (t := 54) c71_19 rfl e9 ?_
  exact kk
theorem b71_22F {d : Nat} {q : Option Value × qH} {h : qH} {r0 : Nat} {x1 : Int32} {x2 : Int32} {x3 : Int32} {h1 : qH} {z1 : Int32}  (e2 : qCall d 56 [.int x1] h ((some (.int z1)), h1)) (e3 : ¬ ((z1 : Int32) = 0)) (kk : qE d 71 29 [some (.ref r0), some (.int x1), some (.int x2), some (.int x3), none] [] h1 q): qE d 71 22 [some (.ref r0), some (.int x1), some (.int x2), some (.int x3), none] [] h q := by
  refine qe_iload_n c71_22 rfl ?_
  refine qe_static (as := [.int x1]) (r := []) (v := (some (.int z1))) (h2 := h1) c71_23 qo71 (by decide) qK11_104 rfl rfl rfl (Nat.le_of_ble_eq_true rfl) e2 ?_
  refine qe_if_eq_F (t := 54) c71_26 rfl e3 ?_
  exact kk
theorem b71_22T {d : Nat} {q : Option Value × qH} {h : qH} {r0 : Nat} {x1 : Int32} {x2 : Int32} {x3 : Int32} {h1 : qH} {z1 : Int32}  (e2 : qCall d 56 [.int x1] h ((some (.int z1)), h1)) (e3 : (z1 : Int32) = 0) (kk : qE d 71 54 [some (.ref r0), some (.int x1), some (.int x2), some (.int x3), none] [] h1 q): qE d 71 22 [some (.ref r0), some (.int x1), some (.int x2), some (.int x3), none] [] h q := by
  refine qe_iload_n c71_22 rfl ?_
  refine qe_static (as := [.int x1]) (r := []) (v := (some (.int z1))) (h2 := h1) c71_23 qo71 (by decide) qK11_104 rfl rfl rfl (Nat.le_of_ble_eq_true rfl) e2 ?_
  refine qe_if_eq_T (t := 54) c71_26 rfl e3 ?_
  exact kk
theorem b71_29F {d : Nat} {q : Option Value × qH} {h : qH} {r0 : Nat} {x1 : Int32} {x2 : Int32} {x3 : Int32} {h1 : qH} {z1 : Int32}  (e2 : qCall d 80 [.int x2, .int 0, .int 2000] h ((some (.int z1)), h1)) (e3 : ¬ ((z1 : Int32) = 0)) (kk : qE d 71 40 [some (.ref r0), some (.int x1), some (.int x2), some (.int x3), none] [] h1 q): qE d 71 29 [some (.ref r0), some (.int x1), some (.int x2), some (.int x3), none] [] h q := by
  refine qe_iload_n c71_29 rfl ?_
  refine qe_iconst (x := 0) c71_30 (by decide) ?_
  refine qe_sipush (x := 2000) c71_31 (by decide) ?_
  refine qe_static (as := [.int x2, .int 0, .int 2000]) (r := []) (v := (some (.int z1))) (h2 := h1) c71_34 qo71 (by decide) qK11_108 rfl rfl rfl (Nat.le_of_ble_eq_true rfl) e2 ?_
  refine qe_if_eq_F (t := 54) c71_37 rfl e3 ?_
  exact kk
theorem b71_29T {d : Nat} {q : Option Value × qH} {h : qH} {r0 : Nat} {x1 : Int32} {x2 : Int32} {x3 : Int32} {h1 : qH} {z1 : Int32}  (e2 : qCall d 80 [.int x2, .int 0, .int 2000] h ((some (.int z1)), h1)) (e3 : (z1 : Int32) = 0) (kk : qE d 71 54 [some (.ref r0), some (.int x1), some (.int x2), some (.int x3), none] [] h1 q): qE d 71 29 [some (.ref r0), some (.int x1), some (.int x2), some (.int x3), none] [] h q := by
  refine qe_iload_n c71_29 rfl ?_
  refine qe_iconst (x := 0) c71_30 (by decide) ?_
  refine qe_sipush (x := 2000) c71_31 (by decide) ?_
  refine qe_static (as := [.int x2, .int 0, .int 2000]) (r := []) (v := (some (.int z1))) (h2 := h1) c71_34 qo71 (by decide) qK11_108 rfl rfl rfl (Nat.le_of_ble_eq_true rfl) e2 ?_
  refine qe_if_eq_T (t := 54) c71_37 rfl e3 ?_
  exact kk
theorem b71_40F {d : Nat} {q : Option Value × qH} {h : qH} {r0 : Nat} {x1 : Int32} {x2 : Int32} {x3 : Int32} {h1 : qH} {z1 : Int32}  (e2 : qCall d 80 [.int x3, .int 0, .int 9] h ((some (.int z1)), h1)) (e3 : ¬ ((z1 : Int32) = 0)) (kk : qE d 71 50 [some (.ref r0), some (.int x1), some (.int x2), some (.int x3), none] [] h1 q): qE d 71 40 [some (.ref r0), some (.int x1), some (.int x2), some (.int x3), none] [] h q := by
  refine qe_iload_n c71_40 rfl ?_
  refine qe_iconst (x := 0) c71_41 (by decide) ?_
  refine qe_bipush (x := 9) c71_42 (by decide) ?_
  refine qe_static (as := [.int x3, .int 0, .int 9]) (r := []) (v := (some (.int z1))) (h2 := h1) c71_44 qo71 (by decide) qK11_108 rfl rfl rfl (Nat.le_of_ble_eq_true rfl) e2 ?_
  refine qe_if_eq_F (t := 54) c71_47 rfl e3 ?_
  exact kk
theorem b71_40T {d : Nat} {q : Option Value × qH} {h : qH} {r0 : Nat} {x1 : Int32} {x2 : Int32} {x3 : Int32} {h1 : qH} {z1 : Int32}  (e2 : qCall d 80 [.int x3, .int 0, .int 9] h ((some (.int z1)), h1)) (e3 : (z1 : Int32) = 0) (kk : qE d 71 54 [some (.ref r0), some (.int x1), some (.int x2), some (.int x3), none] [] h1 q): qE d 71 40 [some (.ref r0), some (.int x1), some (.int x2), some (.int x3), none] [] h q := by
  refine qe_iload_n c71_40 rfl ?_
  refine qe_iconst (x := 0) c71_41 (by decide) ?_
  refine qe_bipush (x := 9) c71_42 (by decide) ?_
  refine qe_static (as := [.int x3, .int 0, .int 9]) (r := []) (v := (some (.int z1))) (h2 := h1) c71_44 qo71 (by decide) qK11_108 rfl rfl rfl (Nat.le_of_ble_eq_true rfl) e2 ?_
  refine qe_if_eq_T (t := 54) c71_47 rfl e3 ?_
  exact kk
theorem b71_50 {d : Nat} {q : Option Value × qH} {h : qH} {r0 : Nat} {x1 : Int32} {x2 : Int32} {x3 : Int32}   (kk : qE d 71 55 [some (.ref r0), some (.int x1), some (.int x2), some (.int x3), none] [.int 1] h q): qE d 71 50 [some (.ref r0), some (.int x1), some (.int x2), some (.int x3), none] [] h q := by
  refine qe_iconst (x := 1) c71_50 (by decide) ?_
  refine qe_goto (t := 55) c71_51 rfl ?_
  exact kk
theorem b71_54 {d : Nat} {q : Option Value × qH} {h : qH} {r0 : Nat} {x1 : Int32} {x2 : Int32} {x3 : Int32}   (kk : qE d 71 55 [some (.ref r0), some (.int x1), some (.int x2), some (.int x3), none] [.int 0] h q): qE d 71 54 [some (.ref r0), some (.int x1), some (.int x2), some (.int x3), none] [] h q := by
  refine qe_iconst (x := 0) c71_54 (by decide) ?_
  exact kk
theorem b71_55F {d : Nat} {q : Option Value × qH} {h : qH} {r0 : Nat} {x1 : Int32} {x2 : Int32} {x3 : Int32} {xs0 : Int32}  (e1 : (xs0 : Int32) = 0) (kk : qE d 71 62 [some (.ref r0), some (.int x1), some (.int x2), some (.int x3), some (.int xs0)] [] h q): qE d 71 55 [some (.ref r0), some (.int x1), some (.int x2), some (.int x3), none] [.int xs0] h q := by
  refine qe_istore (ls2 := [some (.ref r0), some (.int x1), some (.int x2), some (.int x3), some (.int xs0)]) c71_55 (Nat.le_of_ble_eq_true rfl) rfl ?_
  refine qe_iload c71_57 rfl ?_
  refine qe_if_ne_F (t := 64) c71_59 rfl e1 ?_
  exact kk
theorem b71_55T {d : Nat} {q : Option Value × qH} {h : qH} {r0 : Nat} {x1 : Int32} {x2 : Int32} {x3 : Int32} {xs0 : Int32}  (e1 : ¬ ((xs0 : Int32) = 0)) (kk : qE d 71 64 [some (.ref r0), some (.int x1), some (.int x2), some (.int x3), some (.int xs0)] [] h q): qE d 71 55 [some (.ref r0), some (.int x1), some (.int x2), some (.int x3), none] [.int xs0] h q := by
  refine qe_istore (ls2 := [some (.ref r0), some (.int x1), some (.int x2), some (.int x3), some (.int xs0)]) c71_55 (Nat.le_of_ble_eq_true rfl) rfl ?_
  refine qe_iload c71_57 rfl ?_
  refine qe_if_ne_T (t := 64) c71_59 rfl e1 ?_
  exact kk
theorem b71_62 {d : Nat} {h : qH} {r0 : Nat} {x1 : Int32} {x2 : Int32} {x3 : Int32} {x4 : Int32}   : qE d 71 62 [some (.ref r0), some (.int x1), some (.int x2), some (.int x3), some (.int x4)] [] h (some (.int (-1)), h) := by
  refine qe_iconst (x := (-1)) c71_62 (by decide) ?_
  exact qe_iret c71_63 qr71
theorem b71_64 {d : Nat} {h : qH} {r0 : Nat} {x1 : Int32} {x2 : Int32} {x3 : Int32} {x4 : Int32} {fs1 : List Value} {y3 : Nat} {fs5 : List Value} {y7 : Nat} {y9 : Nat} {fs11 : List Value} {y13 : Int32} {n15 : Nat} {f16 : Nat → Int32} {h1 : qH} {fs20 : List Value} {y22 : Nat} {fs24 : List Value} {h2 : qH} {z26 : Int32}  (e2 : h.2.2 r0 = some (.inr (11, fs1))) (e4 : fs1[1]? = some (.ref y3)) (e6 : h.2.2 y3 = some (.inr (8, fs5))) (e8 : fs5[4]? = some (.ref y7)) (e10 : fs1[0]? = some (.ref y9)) (e12 : h.2.2 y9 = some (.inr (4, fs11))) (e14 : fs11[0]? = some (.int y13)) (e17 : h.2.2 y7 = some (.inl (0, n15, .inl f16))) (e18 : 0 ≤ (y13 : Int32).toInt ∧ (y13 : Int32).toInt < (n15 : Nat)) (e19 : qset h y7 (.inl (0, n15, .inl (upd f16 ((y13 : Int32).toNatClampNeg) x2))) = h1) (e21 : h1.2.2 r0 = some (.inr (11, fs20))) (e23 : fs20[0]? = some (.ref y22)) (e25 : h1.2.2 y22 = some (.inr (4, fs24))) (e27 : qCall d 210 [.ref y22, .int x1, .int x3] h1 ((some (.int z26)), h2)) : qE d 71 64 [some (.ref r0), some (.int x1), some (.int x2), some (.int x3), some (.int x4)] [] h (some (.int z26), h2) := by
  refine qe_aload_n c71_64 rfl ?_
  refine qe_getfield c71_65 qo71 qF11_19 e2 e4 ?_
  refine qe_getfield c71_68 qo71 qF11_112 e6 e8 ?_
  refine qe_aload_n c71_71 rfl ?_
  refine qe_getfield c71_72 qo71 qF11_10 e2 e10 ?_
  refine qe_getfield c71_75 qo71 qF11_101 e12 e14 ?_
  refine qe_iload_n c71_78 rfl ?_
  refine qe_iastore c71_79 e17 e18 ?_
  rw [e19]
  refine qe_aload_n c71_80 rfl ?_
  refine qe_getfield c71_81 qo71 qF11_10 e21 e23 ?_
  refine qe_iload_n c71_84 rfl ?_
  refine qe_iload_n c71_85 rfl ?_
  refine qe_virtual (b := y22) (as := [.int x1, .int x3]) (r := []) (v := (some (.int z26))) (h2 := h2) c71_86 qo71 qK11_115 rfl rfl rfl (by rw [qo210]; exact e25) (Nat.le_of_ble_eq_true rfl) e27 ?_
  exact qe_iret c71_89 qr71
theorem b72_0F {d : Nat} {q : Option Value × qH} {h : qH} {r0 : Nat} {x1 : Int32} {x2 : Int32} {fs1 : List Value} {y3 : Nat} {fs5 : List Value} {h1 : qH} {z7 : Int32}  (e2 : h.2.2 r0 = some (.inr (11, fs1))) (e4 : fs1[0]? = some (.ref y3)) (e6 : h.2.2 y3 = some (.inr (4, fs5))) (e8 : qCall d 214 [.ref y3, .int x1] h ((some (.int z7)), h1)) (e9 : ¬ ((z7 : Int32) = 0)) (kk : qE d 72 11 [some (.ref r0), some (.int x1), some (.int x2)] [] h1 q): qE d 72 0 [some (.ref r0), some (.int x1), some (.int x2)] [] h q := by
  refine qe_aload_n c72_0 rfl ?_
  refine qe_getfield c72_1 qo72 qF11_10 e2 e4 ?_
  refine qe_iload_n c72_4 rfl ?_
  refine qe_virtual (b := y3) (as := [.int x1]) (r := []) (v := (some (.int z7))) (h2 := h1) c72_5 qo72 qK11_122 rfl rfl rfl (by rw [qo214]; exact e6) (Nat.le_of_ble_eq_true rfl) e8 ?_
  refine qe_if_eq_F (t := 20) c72_8 rfl e9 ?_
  exact kk
theorem b72_0T {d : Nat} {q : Option Value × qH} {h : qH} {r0 : Nat} {x1 : Int32} {x2 : Int32} {fs1 : List Value} {y3 : Nat} {fs5 : List Value} {h1 : qH} {z7 : Int32}  (e2 : h.2.2 r0 = some (.inr (11, fs1))) (e4 : fs1[0]? = some (.ref y3)) (e6 : h.2.2 y3 = some (.inr (4, fs5))) (e8 : qCall d 214 [.ref y3, .int x1] h ((some (.int z7)), h1)) (e9 : (z7 : Int32) = 0) (kk : qE d 72 20 [some (.ref r0), some (.int x1), some (.int x2)] [] h1 q): qE d 72 0 [some (.ref r0), some (.int x1), some (.int x2)] [] h q := by
  refine qe_aload_n c72_0 rfl ?_
  refine qe_getfield c72_1 qo72 qF11_10 e2 e4 ?_
  refine qe_iload_n c72_4 rfl ?_
  refine qe_virtual (b := y3) (as := [.int x1]) (r := []) (v := (some (.int z7))) (h2 := h1) c72_5 qo72 qK11_122 rfl rfl rfl (by rw [qo214]; exact e6) (Nat.le_of_ble_eq_true rfl) e8 ?_
  refine qe_if_eq_T (t := 20) c72_8 rfl e9 ?_
  exact kk
theorem b72_11F {d : Nat} {q : Option Value × qH} {h : qH} {r0 : Nat} {x1 : Int32} {x2 : Int32} {h1 : qH} {z1 : Int32}  (e2 : qCall d 80 [.int x2, .int 0, .int 4] h ((some (.int z1)), h1)) (e3 : (z1 : Int32) = 0) (kk : qE d 72 20 [some (.ref r0), some (.int x1), some (.int x2)] [] h1 q): qE d 72 11 [some (.ref r0), some (.int x1), some (.int x2)] [] h q := by
  refine qe_iload_n c72_11 rfl ?_
  refine qe_iconst (x := 0) c72_12 (by decide) ?_
  refine qe_iconst (x := 4) c72_13 (by decide) ?_
  refine qe_static (as := [.int x2, .int 0, .int 4]) (r := []) (v := (some (.int z1))) (h2 := h1) c72_14 qo72 (by decide) qK11_108 rfl rfl rfl (Nat.le_of_ble_eq_true rfl) e2 ?_
  refine qe_if_ne_F (t := 22) c72_17 rfl e3 ?_
  exact kk
theorem b72_11T {d : Nat} {q : Option Value × qH} {h : qH} {r0 : Nat} {x1 : Int32} {x2 : Int32} {h1 : qH} {z1 : Int32}  (e2 : qCall d 80 [.int x2, .int 0, .int 4] h ((some (.int z1)), h1)) (e3 : ¬ ((z1 : Int32) = 0)) (kk : qE d 72 22 [some (.ref r0), some (.int x1), some (.int x2)] [] h1 q): qE d 72 11 [some (.ref r0), some (.int x1), some (.int x2)] [] h q := by
  refine qe_iload_n c72_11 rfl ?_
  refine qe_iconst (x := 0) c72_12 (by decide) ?_
  refine qe_iconst (x := 4) c72_13 (by decide) ?_
  refine qe_static (as := [.int x2, .int 0, .int 4]) (r := []) (v := (some (.int z1))) (h2 := h1) c72_14 qo72 (by decide) qK11_108 rfl rfl rfl (Nat.le_of_ble_eq_true rfl) e2 ?_
  refine qe_if_ne_T (t := 22) c72_17 rfl e3 ?_
  exact kk
theorem b72_20 {d : Nat} {h : qH} {r0 : Nat} {x1 : Int32} {x2 : Int32}   : qE d 72 20 [some (.ref r0), some (.int x1), some (.int x2)] [] h (some (.int (-1)), h) := by
  refine qe_iconst (x := (-1)) c72_20 (by decide) ?_
  exact qe_iret c72_21 qr72
theorem b72_22F {d : Nat} {q : Option Value × qH} {h : qH} {r0 : Nat} {x1 : Int32} {x2 : Int32}  (e1 : (x2 : Int32) = 0) (kk : qE d 72 26 [some (.ref r0), some (.int x1), some (.int x2)] [] h q): qE d 72 22 [some (.ref r0), some (.int x1), some (.int x2)] [] h q := by
  refine qe_iload_n c72_22 rfl ?_
  refine qe_if_ne_F (t := 36) c72_23 rfl e1 ?_
  exact kk
theorem b72_22T {d : Nat} {q : Option Value × qH} {h : qH} {r0 : Nat} {x1 : Int32} {x2 : Int32}  (e1 : ¬ ((x2 : Int32) = 0)) (kk : qE d 72 36 [some (.ref r0), some (.int x1), some (.int x2)] [] h q): qE d 72 22 [some (.ref r0), some (.int x1), some (.int x2)] [] h q := by
  refine qe_iload_n c72_22 rfl ?_
  refine qe_if_ne_T (t := 36) c72_23 rfl e1 ?_
  exact kk
theorem b72_26 {d : Nat} {h : qH} {r0 : Nat} {x1 : Int32} {x2 : Int32} {fs1 : List Value} {y3 : Nat} {fs5 : List Value} {y7 : Nat} {n9 : Nat} {f10 : Nat → Int32}  (e2 : h.2.2 r0 = some (.inr (11, fs1))) (e4 : fs1[1]? = some (.ref y3)) (e6 : h.2.2 y3 = some (.inr (8, fs5))) (e8 : fs5[4]? = some (.ref y7)) (e11 : h.2.2 y7 = some (.inl (0, n9, .inl f10))) (e12 : 0 ≤ (x1 : Int32).toInt ∧ (x1 : Int32).toInt < (n9 : Nat)) : qE d 72 26 [some (.ref r0), some (.int x1), some (.int x2)] [] h (some (.int (f10 (x1 : Int32).toNatClampNeg)), h) := by
  refine qe_aload_n c72_26 rfl ?_
  refine qe_getfield c72_27 qo72 qF11_19 e2 e4 ?_
  refine qe_getfield c72_30 qo72 qF11_112 e6 e8 ?_
  refine qe_iload_n c72_33 rfl ?_
  refine qe_iaload c72_34 e11 e12 ?_
  exact qe_iret c72_35 qr72
theorem b72_36F {d : Nat} {q : Option Value × qH} {h : qH} {r0 : Nat} {x1 : Int32} {x2 : Int32}  (e1 : (x2 : Int32) = 1) (kk : qE d 72 41 [some (.ref r0), some (.int x1), some (.int x2)] [] h q): qE d 72 36 [some (.ref r0), some (.int x1), some (.int x2)] [] h q := by
  refine qe_iload_n c72_36 rfl ?_
  refine qe_iconst (x := 1) c72_37 (by decide) ?_
  refine qe_icmp_ne_F (t := 58) c72_38 rfl e1 ?_
  exact kk
theorem b72_36T {d : Nat} {q : Option Value × qH} {h : qH} {r0 : Nat} {x1 : Int32} {x2 : Int32}  (e1 : ¬ ((x2 : Int32) = 1)) (kk : qE d 72 58 [some (.ref r0), some (.int x1), some (.int x2)] [] h q): qE d 72 36 [some (.ref r0), some (.int x1), some (.int x2)] [] h q := by
  refine qe_iload_n c72_36 rfl ?_
  refine qe_iconst (x := 1) c72_37 (by decide) ?_
  refine qe_icmp_ne_T (t := 58) c72_38 rfl e1 ?_
  exact kk
theorem b72_41F {d : Nat} {q : Option Value × qH} {h : qH} {r0 : Nat} {x1 : Int32} {x2 : Int32} {fs1 : List Value} {y3 : Nat} {fs5 : List Value} {h1 : qH} {z7 : Int32}  (e2 : h.2.2 r0 = some (.inr (11, fs1))) (e4 : fs1[1]? = some (.ref y3)) (e6 : h.2.2 y3 = some (.inr (8, fs5))) (e8 : qCall d 243 [.ref y3, .int x1] h ((some (.int z7)), h1)) (e9 : ¬ ((z7 : Int32) = 0)) (kk : qE d 72 52 [some (.ref r0), some (.int x1), some (.int x2)] [] h1 q): qE d 72 41 [some (.ref r0), some (.int x1), some (.int x2)] [] h q := by
  refine qe_aload_n c72_41 rfl ?_
  refine qe_getfield c72_42 qo72 qF11_19 e2 e4 ?_
  refine qe_iload_n c72_45 rfl ?_
  refine qe_virtual (b := y3) (as := [.int x1]) (r := []) (v := (some (.int z7))) (h2 := h1) c72_46 qo72 qK11_158 rfl rfl rfl (by rw [qo243]; exact e6) (Nat.le_of_ble_eq_true rfl) e8 ?_
  refine qe_if_eq_F (t := 56) c72_49 rfl e9 ?_
  exact kk
theorem b72_41T {d : Nat} {q : Option Value × qH} {h : qH} {r0 : Nat} {x1 : Int32} {x2 : Int32} {fs1 : List Value} {y3 : Nat} {fs5 : List Value} {h1 : qH} {z7 : Int32}  (e2 : h.2.2 r0 = some (.inr (11, fs1))) (e4 : fs1[1]? = some (.ref y3)) (e6 : h.2.2 y3 = some (.inr (8, fs5))) (e8 : qCall d 243 [.ref y3, .int x1] h ((some (.int z7)), h1)) (e9 : (z7 : Int32) = 0) (kk : qE d 72 56 [some (.ref r0), some (.int x1), some (.int x2)] [] h1 q): qE d 72 41 [some (.ref r0), some (.int x1), some (.int x2)] [] h q := by
  refine qe_aload_n c72_41 rfl ?_
  refine qe_getfield c72_42 qo72 qF11_19 e2 e4 ?_
  refine qe_iload_n c72_45 rfl ?_
  refine qe_virtual (b := y3) (as := [.int x1]) (r := []) (v := (some (.int z7))) (h2 := h1) c72_46 qo72 qK11_158 rfl rfl rfl (by rw [qo243]; exact e6) (Nat.le_of_ble_eq_true rfl) e8 ?_
  refine qe_if_eq_T (t := 56) c72_49 rfl e9 ?_
  exact kk
theorem b72_52 {d : Nat} {q : Option Value × qH} {h : qH} {r0 : Nat} {x1 : Int32} {x2 : Int32}   (kk : qE d 72 57 [some (.ref r0), some (.int x1), some (.int x2)] [.int 1] h q): qE d 72 52 [some (.ref r0), some (.int x1), some (.int x2)] [] h q := by
  refine qe_iconst (x := 1) c72_52 (by decide) ?_
  refine qe_goto (t := 57) c72_53 rfl ?_
  exact kk
theorem b72_56 {d : Nat} {q : Option Value × qH} {h : qH} {r0 : Nat} {x1 : Int32} {x2 : Int32}   (kk : qE d 72 57 [some (.ref r0), some (.int x1), some (.int x2)] [.int 0] h q): qE d 72 56 [some (.ref r0), some (.int x1), some (.int x2)] [] h q := by
  refine qe_iconst (x := 0) c72_56 (by decide) ?_
  exact kk
theorem b72_57 {d : Nat} {h : qH} {r0 : Nat} {x1 : Int32} {x2 : Int32} {xs0 : Int32}   : qE d 72 57 [some (.ref r0), some (.int x1), some (.int x2)] [.int xs0] h (some (.int xs0), h) := by
  exact qe_iret c72_57 qr72
theorem b72_58F {d : Nat} {q : Option Value × qH} {h : qH} {r0 : Nat} {x1 : Int32} {x2 : Int32} {fs1 : List Value} {y3 : Nat} {y5 : Nat} {y7 : Nat} {fs9 : List Value} {h1 : qH}  (e2 : h.2.2 r0 = some (.inr (11, fs1))) (e4 : fs1[4]? = some (.ref y3)) (e6 : fs1[0]? = some (.ref y5)) (e8 : fs1[1]? = some (.ref y7)) (e10 : h.2.2 y3 = some (.inr (7, fs9))) (e11 : qCall d 238 [.ref y3, .ref y5, .ref y7] h (none, h1)) (e12 : (x2 : Int32) = 2) (kk : qE d 72 78 [some (.ref r0), some (.int x1), some (.int x2)] [] h1 q): qE d 72 58 [some (.ref r0), some (.int x1), some (.int x2)] [] h q := by
  refine qe_aload_n c72_58 rfl ?_
  refine qe_getfield c72_59 qo72 qF11_34 e2 e4 ?_
  refine qe_aload_n c72_62 rfl ?_
  refine qe_getfield c72_63 qo72 qF11_10 e2 e6 ?_
  refine qe_aload_n c72_66 rfl ?_
  refine qe_getfield c72_67 qo72 qF11_19 e2 e8 ?_
  refine qe_virtual (b := y3) (as := [.ref y5, .ref y7]) (r := []) (v := none) (h2 := h1) c72_70 qo72 qK11_217 rfl rfl rfl (by rw [qo238]; exact e10) (Nat.le_of_ble_eq_true rfl) e11 ?_
  refine qe_iload_n c72_73 rfl ?_
  refine qe_iconst (x := 2) c72_74 (by decide) ?_
  refine qe_icmp_ne_F (t := 90) c72_75 rfl e12 ?_
  exact kk
theorem b72_58T {d : Nat} {q : Option Value × qH} {h : qH} {r0 : Nat} {x1 : Int32} {x2 : Int32} {fs1 : List Value} {y3 : Nat} {y5 : Nat} {y7 : Nat} {fs9 : List Value} {h1 : qH}  (e2 : h.2.2 r0 = some (.inr (11, fs1))) (e4 : fs1[4]? = some (.ref y3)) (e6 : fs1[0]? = some (.ref y5)) (e8 : fs1[1]? = some (.ref y7)) (e10 : h.2.2 y3 = some (.inr (7, fs9))) (e11 : qCall d 238 [.ref y3, .ref y5, .ref y7] h (none, h1)) (e12 : ¬ ((x2 : Int32) = 2)) (kk : qE d 72 90 [some (.ref r0), some (.int x1), some (.int x2)] [] h1 q): qE d 72 58 [some (.ref r0), some (.int x1), some (.int x2)] [] h q := by
  refine qe_aload_n c72_58 rfl ?_
  refine qe_getfield c72_59 qo72 qF11_34 e2 e4 ?_
  refine qe_aload_n c72_62 rfl ?_
  refine qe_getfield c72_63 qo72 qF11_10 e2 e6 ?_
  refine qe_aload_n c72_66 rfl ?_
  refine qe_getfield c72_67 qo72 qF11_19 e2 e8 ?_
  refine qe_virtual (b := y3) (as := [.ref y5, .ref y7]) (r := []) (v := none) (h2 := h1) c72_70 qo72 qK11_217 rfl rfl rfl (by rw [qo238]; exact e10) (Nat.le_of_ble_eq_true rfl) e11 ?_
  refine qe_iload_n c72_73 rfl ?_
  refine qe_iconst (x := 2) c72_74 (by decide) ?_
  refine qe_icmp_ne_T (t := 90) c72_75 rfl e12 ?_
  exact kk
theorem b72_78 {d : Nat} {h : qH} {r0 : Nat} {x1 : Int32} {x2 : Int32} {fs1 : List Value} {y3 : Nat} {fs5 : List Value} {y7 : Int32}  (e2 : h.2.2 r0 = some (.inr (11, fs1))) (e4 : fs1[4]? = some (.ref y3)) (e6 : h.2.2 y3 = some (.inr (7, fs5))) (e8 : fs5[0]? = some (.int y7)) : qE d 72 78 [some (.ref r0), some (.int x1), some (.int x2)] [] h (some (.int ((y7 >>> (x1 &&& 31)) &&& 1)), h) := by
  refine qe_aload_n c72_78 rfl ?_
  refine qe_getfield c72_79 qo72 qF11_34 e2 e4 ?_
  refine qe_getfield c72_82 qo72 qF11_235 e6 e8 ?_
  refine qe_iload_n c72_85 rfl ?_
  refine qe_ishr c72_86 ?_
  refine qe_iconst (x := 1) c72_87 (by decide) ?_
  refine qe_iand c72_88 ?_
  exact qe_iret c72_89 qr72
theorem b72_90F {d : Nat} {q : Option Value × qH} {h : qH} {r0 : Nat} {x1 : Int32} {x2 : Int32}  (e1 : (x2 : Int32) = 3) (kk : qE d 72 95 [some (.ref r0), some (.int x1), some (.int x2)] [] h q): qE d 72 90 [some (.ref r0), some (.int x1), some (.int x2)] [] h q := by
  refine qe_iload_n c72_90 rfl ?_
  refine qe_iconst (x := 3) c72_91 (by decide) ?_
  refine qe_icmp_ne_F (t := 107) c72_92 rfl e1 ?_
  exact kk
theorem b72_90T {d : Nat} {q : Option Value × qH} {h : qH} {r0 : Nat} {x1 : Int32} {x2 : Int32}  (e1 : ¬ ((x2 : Int32) = 3)) (kk : qE d 72 107 [some (.ref r0), some (.int x1), some (.int x2)] [] h q): qE d 72 90 [some (.ref r0), some (.int x1), some (.int x2)] [] h q := by
  refine qe_iload_n c72_90 rfl ?_
  refine qe_iconst (x := 3) c72_91 (by decide) ?_
  refine qe_icmp_ne_T (t := 107) c72_92 rfl e1 ?_
  exact kk
theorem b72_95 {d : Nat} {q : Option Value × qH} {h : qH} {r0 : Nat} {x1 : Int32} {x2 : Int32} {fs1 : List Value} {y3 : Nat} {fs5 : List Value} {y7 : Nat} {n9 : Nat} {f10 : Nat → Int32}  (e2 : h.2.2 r0 = some (.inr (11, fs1))) (e4 : fs1[4]? = some (.ref y3)) (e6 : h.2.2 y3 = some (.inr (7, fs5))) (e8 : fs5[4]? = some (.ref y7)) (e11 : h.2.2 y7 = some (.inl (0, n9, .inl f10))) (e12 : 0 ≤ (x1 : Int32).toInt ∧ (x1 : Int32).toInt < (n9 : Nat)) (kk : qE d 72 116 [some (.ref r0), some (.int x1), some (.int x2)] [.int (f10 (x1 : Int32).toNatClampNeg)] h q): qE d 72 95 [some (.ref r0), some (.int x1), some (.int x2)] [] h q := by
  refine qe_aload_n c72_95 rfl ?_
  refine qe_getfield c72_96 qo72 qF11_34 e2 e4 ?_
  refine qe_getfield c72_99 qo72 qF11_236 e6 e8 ?_
  refine qe_iload_n c72_102 rfl ?_
  refine qe_iaload c72_103 e11 e12 ?_
  refine qe_goto (t := 116) c72_104 rfl ?_
  exact kk
theorem b72_107 {d : Nat} {q : Option Value × qH} {h : qH} {r0 : Nat} {x1 : Int32} {x2 : Int32} {fs1 : List Value} {y3 : Nat} {fs5 : List Value} {y7 : Nat} {n9 : Nat} {f10 : Nat → Int32}  (e2 : h.2.2 r0 = some (.inr (11, fs1))) (e4 : fs1[4]? = some (.ref y3)) (e6 : h.2.2 y3 = some (.inr (7, fs5))) (e8 : fs5[5]? = some (.ref y7)) (e11 : h.2.2 y7 = some (.inl (0, n9, .inl f10))) (e12 : 0 ≤ (x1 : Int32).toInt ∧ (x1 : Int32).toInt < (n9 : Nat)) (kk : qE d 72 116 [some (.ref r0), some (.int x1), some (.int x2)] [.int (f10 (x1 : Int32).toNatClampNeg)] h q): qE d 72 107 [some (.ref r0), some (.int x1), some (.int x2)] [] h q := by
  refine qe_aload_n c72_107 rfl ?_
  refine qe_getfield c72_108 qo72 qF11_34 e2 e4 ?_
  refine qe_getfield c72_111 qo72 qF11_239 e6 e8 ?_
  refine qe_iload_n c72_114 rfl ?_
  refine qe_iaload c72_115 e11 e12 ?_
  exact kk
theorem b72_116 {d : Nat} {h : qH} {r0 : Nat} {x1 : Int32} {x2 : Int32} {xs0 : Int32}   : qE d 72 116 [some (.ref r0), some (.int x1), some (.int x2)] [.int xs0] h (some (.int xs0), h) := by
  exact qe_iret c72_116 qr72
theorem b73_0F {d : Nat} {q : Option Value × qH} {h : qH} {r0 : Nat} {x1 : Int32} {fs1 : List Value} {y3 : Nat} {fs5 : List Value} {y7 : Int32}  (e2 : h.2.2 r0 = some (.inr (11, fs1))) (e4 : fs1[1]? = some (.ref y3)) (e6 : h.2.2 y3 = some (.inr (8, fs5))) (e8 : fs5[0]? = some (.int y7)) (e9 : (x1 : Int32) = y7) (kk : qE d 73 11 [some (.ref r0), some (.int x1)] [] h q): qE d 73 0 [some (.ref r0), some (.int x1)] [] h q := by
  refine qe_iload_n c73_0 rfl ?_
  refine qe_aload_n c73_1 rfl ?_
  refine qe_getfield c73_2 qo73 qF11_19 e2 e4 ?_
  refine qe_getfield c73_5 qo73 qF11_97 e6 e8 ?_
  refine qe_icmp_ne_F (t := 16) c73_8 rfl e9 ?_
  exact kk
theorem b73_0T {d : Nat} {q : Option Value × qH} {h : qH} {r0 : Nat} {x1 : Int32} {fs1 : List Value} {y3 : Nat} {fs5 : List Value} {y7 : Int32}  (e2 : h.2.2 r0 = some (.inr (11, fs1))) (e4 : fs1[1]? = some (.ref y3)) (e6 : h.2.2 y3 = some (.inr (8, fs5))) (e8 : fs5[0]? = some (.int y7)) (e9 : ¬ ((x1 : Int32) = y7)) (kk : qE d 73 16 [some (.ref r0), some (.int x1)] [] h q): qE d 73 0 [some (.ref r0), some (.int x1)] [] h q := by
  refine qe_iload_n c73_0 rfl ?_
  refine qe_aload_n c73_1 rfl ?_
  refine qe_getfield c73_2 qo73 qF11_19 e2 e4 ?_
  refine qe_getfield c73_5 qo73 qF11_97 e6 e8 ?_
  refine qe_icmp_ne_T (t := 16) c73_8 rfl e9 ?_
  exact kk
theorem b73_11 {d : Nat} {h : qH} {r0 : Nat} {x1 : Int32} {fs1 : List Value} {y3 : Nat}  (e2 : h.2.2 r0 = some (.inr (11, fs1))) (e4 : fs1[1]? = some (.ref y3)) : qE d 73 11 [some (.ref r0), some (.int x1)] [] h (some (.ref y3), h) := by
  refine qe_aload_n c73_11 rfl ?_
  refine qe_getfield c73_12 qo73 qF11_19 e2 e4 ?_
  exact qe_aret c73_15 qr73
theorem b73_16F {d : Nat} {q : Option Value × qH} {h : qH} {r0 : Nat} {x1 : Int32} {fs1 : List Value} {h1 : qH} {z3 : Int32}  (e2 : h.2.2 r0 = some (.inr (11, fs1))) (e4 : qCall d 52 [.ref r0, .int x1] h ((some (.int z3)), h1)) (e5 : ¬ ((z3 : Int32) = 0)) (kk : qE d 73 24 [some (.ref r0), some (.int x1)] [] h1 q): qE d 73 16 [some (.ref r0), some (.int x1)] [] h q := by
  refine qe_aload_n c73_16 rfl ?_
  refine qe_iload_n c73_17 rfl ?_
  refine qe_virtual (b := r0) (as := [.int x1]) (r := []) (v := (some (.int z3))) (h2 := h1) c73_18 qo73 qK11_258 rfl rfl rfl (by rw [qo52]; exact e2) (Nat.le_of_ble_eq_true rfl) e4 ?_
  refine qe_if_eq_F (t := 33) c73_21 rfl e5 ?_
  exact kk
theorem b73_16T {d : Nat} {q : Option Value × qH} {h : qH} {r0 : Nat} {x1 : Int32} {fs1 : List Value} {h1 : qH} {z3 : Int32}  (e2 : h.2.2 r0 = some (.inr (11, fs1))) (e4 : qCall d 52 [.ref r0, .int x1] h ((some (.int z3)), h1)) (e5 : (z3 : Int32) = 0) (kk : qE d 73 33 [some (.ref r0), some (.int x1)] [] h1 q): qE d 73 16 [some (.ref r0), some (.int x1)] [] h q := by
  refine qe_aload_n c73_16 rfl ?_
  refine qe_iload_n c73_17 rfl ?_
  refine qe_virtual (b := r0) (as := [.int x1]) (r := []) (v := (some (.int z3))) (h2 := h1) c73_18 qo73 qK11_258 rfl rfl rfl (by rw [qo52]; exact e2) (Nat.le_of_ble_eq_true rfl) e4 ?_
  refine qe_if_eq_T (t := 33) c73_21 rfl e5 ?_
  exact kk
theorem b73_24 {d : Nat} {q : Option Value × qH} {h : qH} {r0 : Nat} {x1 : Int32} {fs1 : List Value} {y3 : Nat} {n5 : Nat} {f6 : Nat → Option Nat} {r9 : Nat}  (e2 : h.2.2 r0 = some (.inr (11, fs1))) (e4 : fs1[2]? = some (.ref y3)) (e7 : h.2.2 y3 = some (.inl (5, n5, .inr (.inr (.inr (.inr f6)))))) (e8 : 0 ≤ (x1 : Int32).toInt ∧ (x1 : Int32).toInt < (n5 : Nat)) (e10 : (f6 (x1 : Int32).toNatClampNeg) = some r9) (kk : qE d 73 34 [some (.ref r0), some (.int x1)] [.ref r9] h q): qE d 73 24 [some (.ref r0), some (.int x1)] [] h q := by
  refine qe_aload_n c73_24 rfl ?_
  refine qe_getfield c73_25 qo73 qF11_23 e2 e4 ?_
  refine qe_iload_n c73_28 rfl ?_
  refine qe_aaload c73_29 e7 e8 (Or.inl rfl) e10 ?_
  refine qe_goto (t := 34) c73_30 rfl ?_
  exact kk
theorem b73_33 {d : Nat} {q : Option Value × qH} {h : qH} {r0 : Nat} {x1 : Int32}   (kk : qE d 73 34 [some (.ref r0), some (.int x1)] [.null] h q): qE d 73 33 [some (.ref r0), some (.int x1)] [] h q := by
  refine qe_null c73_33 ?_
  exact kk
theorem b73_34 {d : Nat} {h : qH} {r0 : Nat} {x1 : Int32} {rs0 : Nat}   : qE d 73 34 [some (.ref r0), some (.int x1)] [.ref rs0] h (some (.ref rs0), h) := by
  exact qe_aret c73_34 qr73
theorem b73_34m0 {d : Nat} {h : qH} {r0 : Nat} {x1 : Int32}   : qE d 73 34 [some (.ref r0), some (.int x1)] [.null] h (some (.null), h) := by
  exact qe_aretN c73_34 qr73
theorem b74_0F {d : Nat} {q : Option Value × qH} {h : qH} {r0 : Nat} {x1 : Int32} {x2 : Int32} {h1 : qH} {z1 : Int32}  (e2 : qCall d 56 [.int x1] h ((some (.int z1)), h1)) (e3 : ¬ ((z1 : Int32) = 0)) (kk : qE d 74 7 [some (.ref r0), some (.int x1), some (.int x2)] [] h1 q): qE d 74 0 [some (.ref r0), some (.int x1), some (.int x2)] [] h q := by
  refine qe_iload_n c74_0 rfl ?_
  refine qe_static (as := [.int x1]) (r := []) (v := (some (.int z1))) (h2 := h1) c74_1 qo74 (by decide) qK11_104 rfl rfl rfl (Nat.le_of_ble_eq_true rfl) e2 ?_
  refine qe_if_eq_F (t := 20) c74_4 rfl e3 ?_
  exact kk
theorem b74_0T {d : Nat} {q : Option Value × qH} {h : qH} {r0 : Nat} {x1 : Int32} {x2 : Int32} {h1 : qH} {z1 : Int32}  (e2 : qCall d 56 [.int x1] h ((some (.int z1)), h1)) (e3 : (z1 : Int32) = 0) (kk : qE d 74 20 [some (.ref r0), some (.int x1), some (.int x2)] [] h1 q): qE d 74 0 [some (.ref r0), some (.int x1), some (.int x2)] [] h q := by
  refine qe_iload_n c74_0 rfl ?_
  refine qe_static (as := [.int x1]) (r := []) (v := (some (.int z1))) (h2 := h1) c74_1 qo74 (by decide) qK11_104 rfl rfl rfl (Nat.le_of_ble_eq_true rfl) e2 ?_
  refine qe_if_eq_T (t := 20) c74_4 rfl e3 ?_
  exact kk
theorem b74_7F {d : Nat} {q : Option Value × qH} {h : qH} {r0 : Nat} {x1 : Int32} {x2 : Int32} {fs1 : List Value} {y3 : Nat} {fs5 : List Value} {y7 : Nat} {n9 : Nat} {f10 : Nat → Int32}  (e2 : h.2.2 r0 = some (.inr (11, fs1))) (e4 : fs1[8]? = some (.ref y3)) (e6 : h.2.2 y3 = some (.inr (6, fs5))) (e8 : fs5[0]? = some (.ref y7)) (e11 : h.2.2 y7 = some (.inl (1, n9, .inl f10))) (e12 : 0 ≤ (x1 : Int32).toInt ∧ (x1 : Int32).toInt < (n9 : Nat)) (e13 : ((f10 (x1 : Int32).toNatClampNeg) : Int32) = x2) (kk : qE d 74 20 [some (.ref r0), some (.int x1), some (.int x2)] [] h q): qE d 74 7 [some (.ref r0), some (.int x1), some (.int x2)] [] h q := by
  refine qe_aload_n c74_7 rfl ?_
  refine qe_getfield c74_8 qo74 qF11_62 e2 e4 ?_
  refine qe_getfield c74_11 qo74 qF11_261 e6 e8 ?_
  refine qe_iload_n c74_14 rfl ?_
  refine qe_zaload c74_15 e11 e12 ?_
  refine qe_iload_n c74_16 rfl ?_
  refine qe_icmp_ne_F (t := 22) c74_17 rfl e13 ?_
  exact kk
theorem b74_7T {d : Nat} {q : Option Value × qH} {h : qH} {r0 : Nat} {x1 : Int32} {x2 : Int32} {fs1 : List Value} {y3 : Nat} {fs5 : List Value} {y7 : Nat} {n9 : Nat} {f10 : Nat → Int32}  (e2 : h.2.2 r0 = some (.inr (11, fs1))) (e4 : fs1[8]? = some (.ref y3)) (e6 : h.2.2 y3 = some (.inr (6, fs5))) (e8 : fs5[0]? = some (.ref y7)) (e11 : h.2.2 y7 = some (.inl (1, n9, .inl f10))) (e12 : 0 ≤ (x1 : Int32).toInt ∧ (x1 : Int32).toInt < (n9 : Nat)) (e13 : ¬ (((f10 (x1 : Int32).toNatClampNeg) : Int32) = x2)) (kk : qE d 74 22 [some (.ref r0), some (.int x1), some (.int x2)] [] h q): qE d 74 7 [some (.ref r0), some (.int x1), some (.int x2)] [] h q := by
  refine qe_aload_n c74_7 rfl ?_
  refine qe_getfield c74_8 qo74 qF11_62 e2 e4 ?_
  refine qe_getfield c74_11 qo74 qF11_261 e6 e8 ?_
  refine qe_iload_n c74_14 rfl ?_
  refine qe_zaload c74_15 e11 e12 ?_
  refine qe_iload_n c74_16 rfl ?_
  refine qe_icmp_ne_T (t := 22) c74_17 rfl e13 ?_
  exact kk
theorem b74_20 {d : Nat} {h : qH} {r0 : Nat} {x1 : Int32} {x2 : Int32}   : qE d 74 20 [some (.ref r0), some (.int x1), some (.int x2)] [] h (some (.int 0), h) := by
  refine qe_iconst (x := 0) c74_20 (by decide) ?_
  exact qe_zret c74_21 qr74 (by decide)
theorem b74_22 {d : Nat} {h : qH} {r0 : Nat} {x1 : Int32} {x2 : Int32} {fs1 : List Value} {y3 : Nat} {fs5 : List Value} {y7 : Nat} {n9 : Nat} {f10 : Nat → Int32} {h1 : qH} {fs15 : List Value} {y17 : Nat} {fs19 : List Value} {y21 : Nat} {n23 : Nat} {f24 : Nat → Int32} {h2 : qH}  (e2 : h.2.2 r0 = some (.inr (11, fs1))) (e4 : fs1[8]? = some (.ref y3)) (e6 : h.2.2 y3 = some (.inr (6, fs5))) (e8 : fs5[0]? = some (.ref y7)) (e11 : h.2.2 y7 = some (.inl (1, n9, .inl f10))) (e12 : 0 ≤ (x1 : Int32).toInt ∧ (x1 : Int32).toInt < (n9 : Nat)) (e13 : (x2 : Int32) = 0 ∨ (x2 : Int32) = 1) (e14 : qset h y7 (.inl (1, n9, .inl (upd f10 ((x1 : Int32).toNatClampNeg) x2))) = h1) (e16 : h1.2.2 r0 = some (.inr (11, fs15))) (e18 : fs15[8]? = some (.ref y17)) (e20 : h1.2.2 y17 = some (.inr (6, fs19))) (e22 : fs19[2]? = some (.ref y21)) (e25 : h1.2.2 y21 = some (.inl (0, n23, .inl f24))) (e26 : 0 ≤ (x1 : Int32).toInt ∧ (x1 : Int32).toInt < (n23 : Nat)) (e27 : qset h1 y21 (.inl (0, n23, .inl (upd f24 ((x1 : Int32).toNatClampNeg) ((-1))))) = h2) : qE d 74 22 [some (.ref r0), some (.int x1), some (.int x2)] [] h (some (.int 1), h2) := by
  refine qe_aload_n c74_22 rfl ?_
  refine qe_getfield c74_23 qo74 qF11_62 e2 e4 ?_
  refine qe_getfield c74_26 qo74 qF11_261 e6 e8 ?_
  refine qe_iload_n c74_29 rfl ?_
  refine qe_iload_n c74_30 rfl ?_
  refine qe_zastore c74_31 e11 e12 e13 ?_
  rw [e14]
  refine qe_aload_n c74_32 rfl ?_
  refine qe_getfield c74_33 qo74 qF11_62 e16 e18 ?_
  refine qe_getfield c74_36 qo74 qF11_265 e20 e22 ?_
  refine qe_iload_n c74_39 rfl ?_
  refine qe_iconst (x := (-1)) c74_40 (by decide) ?_
  refine qe_iastore c74_41 e25 e26 ?_
  rw [e27]
  refine qe_iconst (x := 1) c74_42 (by decide) ?_
  exact qe_zret c74_43 qr74 (by decide)
theorem b75_0F {d : Nat} {q : Option Value × qH} {h : qH} {r0 : Nat} {x1 : Int32} {x2 : Int32} {fs1 : List Value} {y3 : Nat} {fs5 : List Value} {h1 : qH} {z7 : Int32}  (e2 : h.2.2 r0 = some (.inr (11, fs1))) (e4 : fs1[0]? = some (.ref y3)) (e6 : h.2.2 y3 = some (.inr (4, fs5))) (e8 : qCall d 215 [.ref y3, .int x1] h ((some (.int z7)), h1)) (e9 : ¬ ((z7 : Int32) = 0)) (kk : qE d 75 11 [some (.ref r0), some (.int x1), some (.int x2)] [] h1 q): qE d 75 0 [some (.ref r0), some (.int x1), some (.int x2)] [] h q := by
  refine qe_aload_n c75_0 rfl ?_
  refine qe_getfield c75_1 qo75 qF11_10 e2 e4 ?_
  refine qe_iload_n c75_4 rfl ?_
  refine qe_virtual (b := y3) (as := [.int x1]) (r := []) (v := (some (.int z7))) (h2 := h1) c75_5 qo75 qK11_140 rfl rfl rfl (by rw [qo215]; exact e6) (Nat.le_of_ble_eq_true rfl) e8 ?_
  refine qe_if_eq_F (t := 21) c75_8 rfl e9 ?_
  exact kk
theorem b75_0T {d : Nat} {q : Option Value × qH} {h : qH} {r0 : Nat} {x1 : Int32} {x2 : Int32} {fs1 : List Value} {y3 : Nat} {fs5 : List Value} {h1 : qH} {z7 : Int32}  (e2 : h.2.2 r0 = some (.inr (11, fs1))) (e4 : fs1[0]? = some (.ref y3)) (e6 : h.2.2 y3 = some (.inr (4, fs5))) (e8 : qCall d 215 [.ref y3, .int x1] h ((some (.int z7)), h1)) (e9 : (z7 : Int32) = 0) (kk : qE d 75 21 [some (.ref r0), some (.int x1), some (.int x2)] [] h1 q): qE d 75 0 [some (.ref r0), some (.int x1), some (.int x2)] [] h q := by
  refine qe_aload_n c75_0 rfl ?_
  refine qe_getfield c75_1 qo75 qF11_10 e2 e4 ?_
  refine qe_iload_n c75_4 rfl ?_
  refine qe_virtual (b := y3) (as := [.int x1]) (r := []) (v := (some (.int z7))) (h2 := h1) c75_5 qo75 qK11_140 rfl rfl rfl (by rw [qo215]; exact e6) (Nat.le_of_ble_eq_true rfl) e8 ?_
  refine qe_if_eq_T (t := 21) c75_8 rfl e9 ?_
  exact kk
theorem b75_11F {d : Nat} {q : Option Value × qH} {h : qH} {r0 : Nat} {x1 : Int32} {x2 : Int32} {h1 : qH} {z1 : Int32}  (e2 : qCall d 80 [.int x2, .int 0, .int 100000] h ((some (.int z1)), h1)) (e3 : (z1 : Int32) = 0) (kk : qE d 75 21 [some (.ref r0), some (.int x1), some (.int x2)] [] h1 q): qE d 75 11 [some (.ref r0), some (.int x1), some (.int x2)] [] h q := by
  refine qe_iload_n c75_11 rfl ?_
  refine qe_iconst (x := 0) c75_12 (by decide) ?_
  refine qe_ldc (x := 100000) c75_13 qo75 qI11_125 ?_
  refine qe_static (as := [.int x2, .int 0, .int 100000]) (r := []) (v := (some (.int z1))) (h2 := h1) c75_15 qo75 (by decide) qK11_108 rfl rfl rfl (Nat.le_of_ble_eq_true rfl) e2 ?_
  refine qe_if_ne_F (t := 23) c75_18 rfl e3 ?_
  exact kk
theorem b75_11T {d : Nat} {q : Option Value × qH} {h : qH} {r0 : Nat} {x1 : Int32} {x2 : Int32} {h1 : qH} {z1 : Int32}  (e2 : qCall d 80 [.int x2, .int 0, .int 100000] h ((some (.int z1)), h1)) (e3 : ¬ ((z1 : Int32) = 0)) (kk : qE d 75 23 [some (.ref r0), some (.int x1), some (.int x2)] [] h1 q): qE d 75 11 [some (.ref r0), some (.int x1), some (.int x2)] [] h q := by
  refine qe_iload_n c75_11 rfl ?_
  refine qe_iconst (x := 0) c75_12 (by decide) ?_
  refine qe_ldc (x := 100000) c75_13 qo75 qI11_125 ?_
  refine qe_static (as := [.int x2, .int 0, .int 100000]) (r := []) (v := (some (.int z1))) (h2 := h1) c75_15 qo75 (by decide) qK11_108 rfl rfl rfl (Nat.le_of_ble_eq_true rfl) e2 ?_
  refine qe_if_ne_T (t := 23) c75_18 rfl e3 ?_
  exact kk
theorem b75_21 {d : Nat} {h : qH} {r0 : Nat} {x1 : Int32} {x2 : Int32}   : qE d 75 21 [some (.ref r0), some (.int x1), some (.int x2)] [] h (some (.int 0), h) := by
  refine qe_iconst (x := 0) c75_21 (by decide) ?_
  exact qe_zret c75_22 qr75 (by decide)
theorem b75_23 {d : Nat} {h : qH} {r0 : Nat} {x1 : Int32} {x2 : Int32} {fs1 : List Value} {y3 : Nat} {fs5 : List Value} {y7 : Nat} {n9 : Nat} {f10 : Nat → Int32} {h1 : qH}  (e2 : h.2.2 r0 = some (.inr (11, fs1))) (e4 : fs1[1]? = some (.ref y3)) (e6 : h.2.2 y3 = some (.inr (8, fs5))) (e8 : fs5[7]? = some (.ref y7)) (e11 : h.2.2 y7 = some (.inl (0, n9, .inl f10))) (e12 : 0 ≤ (x1 : Int32).toInt ∧ (x1 : Int32).toInt < (n9 : Nat)) (e13 : qset h y7 (.inl (0, n9, .inl (upd f10 ((x1 : Int32).toNatClampNeg) x2))) = h1) : qE d 75 23 [some (.ref r0), some (.int x1), some (.int x2)] [] h (some (.int 1), h1) := by
  refine qe_aload_n c75_23 rfl ?_
  refine qe_getfield c75_24 qo75 qF11_19 e2 e4 ?_
  refine qe_getfield c75_27 qo75 qF11_143 e6 e8 ?_
  refine qe_iload_n c75_30 rfl ?_
  refine qe_iload_n c75_31 rfl ?_
  refine qe_iastore c75_32 e11 e12 ?_
  rw [e13]
  refine qe_iconst (x := 1) c75_33 (by decide) ?_
  exact qe_zret c75_34 qr75 (by decide)
theorem b76_0F {d : Nat} {q : Option Value × qH} {h : qH} {r0 : Nat} {x1 : Int32} {x2 : Int32} {fs1 : List Value} {y3 : Nat} {fs5 : List Value} {h1 : qH} {z7 : Int32}  (e2 : h.2.2 r0 = some (.inr (11, fs1))) (e4 : fs1[0]? = some (.ref y3)) (e6 : h.2.2 y3 = some (.inr (4, fs5))) (e8 : qCall d 215 [.ref y3, .int x1] h ((some (.int z7)), h1)) (e9 : ¬ ((z7 : Int32) = 0)) (kk : qE d 76 11 [some (.ref r0), some (.int x1), some (.int x2)] [] h1 q): qE d 76 0 [some (.ref r0), some (.int x1), some (.int x2)] [] h q := by
  refine qe_aload_n c76_0 rfl ?_
  refine qe_getfield c76_1 qo76 qF11_10 e2 e4 ?_
  refine qe_iload_n c76_4 rfl ?_
  refine qe_virtual (b := y3) (as := [.int x1]) (r := []) (v := (some (.int z7))) (h2 := h1) c76_5 qo76 qK11_140 rfl rfl rfl (by rw [qo215]; exact e6) (Nat.le_of_ble_eq_true rfl) e8 ?_
  refine qe_if_eq_F (t := 45) c76_8 rfl e9 ?_
  exact kk
theorem b76_0T {d : Nat} {q : Option Value × qH} {h : qH} {r0 : Nat} {x1 : Int32} {x2 : Int32} {fs1 : List Value} {y3 : Nat} {fs5 : List Value} {h1 : qH} {z7 : Int32}  (e2 : h.2.2 r0 = some (.inr (11, fs1))) (e4 : fs1[0]? = some (.ref y3)) (e6 : h.2.2 y3 = some (.inr (4, fs5))) (e8 : qCall d 215 [.ref y3, .int x1] h ((some (.int z7)), h1)) (e9 : (z7 : Int32) = 0) (kk : qE d 76 45 [some (.ref r0), some (.int x1), some (.int x2)] [] h1 q): qE d 76 0 [some (.ref r0), some (.int x1), some (.int x2)] [] h q := by
  refine qe_aload_n c76_0 rfl ?_
  refine qe_getfield c76_1 qo76 qF11_10 e2 e4 ?_
  refine qe_iload_n c76_4 rfl ?_
  refine qe_virtual (b := y3) (as := [.int x1]) (r := []) (v := (some (.int z7))) (h2 := h1) c76_5 qo76 qK11_140 rfl rfl rfl (by rw [qo215]; exact e6) (Nat.le_of_ble_eq_true rfl) e8 ?_
  refine qe_if_eq_T (t := 45) c76_8 rfl e9 ?_
  exact kk
theorem b76_11F {d : Nat} {q : Option Value × qH} {h : qH} {r0 : Nat} {x1 : Int32} {x2 : Int32} {fs1 : List Value} {y3 : Nat} {fs5 : List Value} {y7 : Nat} {n9 : Nat} {f10 : Nat → Int32}  (e2 : h.2.2 r0 = some (.inr (11, fs1))) (e4 : fs1[1]? = some (.ref y3)) (e6 : h.2.2 y3 = some (.inr (8, fs5))) (e8 : fs5[5]? = some (.ref y7)) (e11 : h.2.2 y7 = some (.inl (0, n9, .inl f10))) (e12 : 0 ≤ (x1 : Int32).toInt ∧ (x1 : Int32).toInt < (n9 : Nat)) (e13 : ¬ (((f10 (x1 : Int32).toNatClampNeg) : Int32) = 3)) (kk : qE d 76 24 [some (.ref r0), some (.int x1), some (.int x2)] [] h q): qE d 76 11 [some (.ref r0), some (.int x1), some (.int x2)] [] h q := by
  refine qe_aload_n c76_11 rfl ?_
  refine qe_getfield c76_12 qo76 qF11_19 e2 e4 ?_
  refine qe_getfield c76_15 qo76 qF11_149 e6 e8 ?_
  refine qe_iload_n c76_18 rfl ?_
  refine qe_iaload c76_19 e11 e12 ?_
  refine qe_iconst (x := 3) c76_20 (by decide) ?_
  refine qe_icmp_eq_F (t := 45) c76_21 rfl e13 ?_
  exact kk
theorem b76_11T {d : Nat} {q : Option Value × qH} {h : qH} {r0 : Nat} {x1 : Int32} {x2 : Int32} {fs1 : List Value} {y3 : Nat} {fs5 : List Value} {y7 : Nat} {n9 : Nat} {f10 : Nat → Int32}  (e2 : h.2.2 r0 = some (.inr (11, fs1))) (e4 : fs1[1]? = some (.ref y3)) (e6 : h.2.2 y3 = some (.inr (8, fs5))) (e8 : fs5[5]? = some (.ref y7)) (e11 : h.2.2 y7 = some (.inl (0, n9, .inl f10))) (e12 : 0 ≤ (x1 : Int32).toInt ∧ (x1 : Int32).toInt < (n9 : Nat)) (e13 : ((f10 (x1 : Int32).toNatClampNeg) : Int32) = 3) (kk : qE d 76 45 [some (.ref r0), some (.int x1), some (.int x2)] [] h q): qE d 76 11 [some (.ref r0), some (.int x1), some (.int x2)] [] h q := by
  refine qe_aload_n c76_11 rfl ?_
  refine qe_getfield c76_12 qo76 qF11_19 e2 e4 ?_
  refine qe_getfield c76_15 qo76 qF11_149 e6 e8 ?_
  refine qe_iload_n c76_18 rfl ?_
  refine qe_iaload c76_19 e11 e12 ?_
  refine qe_iconst (x := 3) c76_20 (by decide) ?_
  refine qe_icmp_eq_T (t := 45) c76_21 rfl e13 ?_
  exact kk
theorem b76_24F {d : Nat} {q : Option Value × qH} {h : qH} {r0 : Nat} {x1 : Int32} {x2 : Int32} {fs1 : List Value} {y3 : Nat} {fs5 : List Value} {y7 : Nat} {n9 : Nat} {f10 : Nat → Int32}  (e2 : h.2.2 r0 = some (.inr (11, fs1))) (e4 : fs1[1]? = some (.ref y3)) (e6 : h.2.2 y3 = some (.inr (8, fs5))) (e8 : fs5[5]? = some (.ref y7)) (e11 : h.2.2 y7 = some (.inl (0, n9, .inl f10))) (e12 : 0 ≤ (x1 : Int32).toInt ∧ (x1 : Int32).toInt < (n9 : Nat)) (e13 : ((f10 (x1 : Int32).toNatClampNeg) : Int32) = 0) (kk : qE d 76 36 [some (.ref r0), some (.int x1), some (.int x2)] [] h q): qE d 76 24 [some (.ref r0), some (.int x1), some (.int x2)] [] h q := by
  refine qe_aload_n c76_24 rfl ?_
  refine qe_getfield c76_25 qo76 qF11_19 e2 e4 ?_
  refine qe_getfield c76_28 qo76 qF11_149 e6 e8 ?_
  refine qe_iload_n c76_31 rfl ?_
  refine qe_iaload c76_32 e11 e12 ?_
  refine qe_if_ne_F (t := 40) c76_33 rfl e13 ?_
  exact kk
theorem b76_24T {d : Nat} {q : Option Value × qH} {h : qH} {r0 : Nat} {x1 : Int32} {x2 : Int32} {fs1 : List Value} {y3 : Nat} {fs5 : List Value} {y7 : Nat} {n9 : Nat} {f10 : Nat → Int32}  (e2 : h.2.2 r0 = some (.inr (11, fs1))) (e4 : fs1[1]? = some (.ref y3)) (e6 : h.2.2 y3 = some (.inr (8, fs5))) (e8 : fs5[5]? = some (.ref y7)) (e11 : h.2.2 y7 = some (.inl (0, n9, .inl f10))) (e12 : 0 ≤ (x1 : Int32).toInt ∧ (x1 : Int32).toInt < (n9 : Nat)) (e13 : ¬ (((f10 (x1 : Int32).toNatClampNeg) : Int32) = 0)) (kk : qE d 76 40 [some (.ref r0), some (.int x1), some (.int x2)] [] h q): qE d 76 24 [some (.ref r0), some (.int x1), some (.int x2)] [] h q := by
  refine qe_aload_n c76_24 rfl ?_
  refine qe_getfield c76_25 qo76 qF11_19 e2 e4 ?_
  refine qe_getfield c76_28 qo76 qF11_149 e6 e8 ?_
  refine qe_iload_n c76_31 rfl ?_
  refine qe_iaload c76_32 e11 e12 ?_
  refine qe_if_ne_T (t := 40) c76_33 rfl e13 ?_
  exact kk
theorem b76_36 {d : Nat} {q : Option Value × qH} {h : qH} {r0 : Nat} {x1 : Int32} {x2 : Int32}   (kk : qE d 76 41 [some (.ref r0), some (.int x1), some (.int x2)] [.int 1] h q): qE d 76 36 [some (.ref r0), some (.int x1), some (.int x2)] [] h q := by
  refine qe_iconst (x := 1) c76_36 (by decide) ?_
  refine qe_goto (t := 41) c76_37 rfl ?_
  exact kk
theorem b76_40 {d : Nat} {q : Option Value × qH} {h : qH} {r0 : Nat} {x1 : Int32} {x2 : Int32}   (kk : qE d 76 41 [some (.ref r0), some (.int x1), some (.int x2)] [.int 0] h q): qE d 76 40 [some (.ref r0), some (.int x1), some (.int x2)] [] h q := by
  refine qe_iconst (x := 0) c76_40 (by decide) ?_
  exact kk
theorem b76_41F {d : Nat} {q : Option Value × qH} {h : qH} {r0 : Nat} {x1 : Int32} {x2 : Int32} {xs0 : Int32}  (e1 : (xs0 : Int32) = x2) (kk : qE d 76 45 [some (.ref r0), some (.int x1), some (.int x2)] [] h q): qE d 76 41 [some (.ref r0), some (.int x1), some (.int x2)] [.int xs0] h q := by
  refine qe_iload_n c76_41 rfl ?_
  refine qe_icmp_ne_F (t := 47) c76_42 rfl e1 ?_
  exact kk
theorem b76_41T {d : Nat} {q : Option Value × qH} {h : qH} {r0 : Nat} {x1 : Int32} {x2 : Int32} {xs0 : Int32}  (e1 : ¬ ((xs0 : Int32) = x2)) (kk : qE d 76 47 [some (.ref r0), some (.int x1), some (.int x2)] [] h q): qE d 76 41 [some (.ref r0), some (.int x1), some (.int x2)] [.int xs0] h q := by
  refine qe_iload_n c76_41 rfl ?_
  refine qe_icmp_ne_T (t := 47) c76_42 rfl e1 ?_
  exact kk
theorem b76_45 {d : Nat} {h : qH} {r0 : Nat} {x1 : Int32} {x2 : Int32}   : qE d 76 45 [some (.ref r0), some (.int x1), some (.int x2)] [] h (some (.int 0), h) := by
  refine qe_iconst (x := 0) c76_45 (by decide) ?_
  exact qe_zret c76_46 qr76 (by decide)
theorem b76_47F {d : Nat} {q : Option Value × qH} {h : qH} {r0 : Nat} {x1 : Int32} {x2 : Int32} {fs1 : List Value} {y3 : Nat} {fs5 : List Value} {y7 : Nat}  (e2 : h.2.2 r0 = some (.inr (11, fs1))) (e4 : fs1[1]? = some (.ref y3)) (e6 : h.2.2 y3 = some (.inr (8, fs5))) (e8 : fs5[5]? = some (.ref y7)) (e9 : ¬ ((x2 : Int32) = 0)) (kk : qE d 76 59 [some (.ref r0), some (.int x1), some (.int x2)] [.int x1, .ref y7] h q): qE d 76 47 [some (.ref r0), some (.int x1), some (.int x2)] [] h q := by
  refine qe_aload_n c76_47 rfl ?_
  refine qe_getfield c76_48 qo76 qF11_19 e2 e4 ?_
  refine qe_getfield c76_51 qo76 qF11_149 e6 e8 ?_
  refine qe_iload_n c76_54 rfl ?_
  refine qe_iload_n c76_55 rfl ?_
  refine qe_if_eq_F (t := 63) c76_56 rfl e9 ?_
  exact kk
theorem b76_47T {d : Nat} {q : Option Value × qH} {h : qH} {r0 : Nat} {x1 : Int32} {x2 : Int32} {fs1 : List Value} {y3 : Nat} {fs5 : List Value} {y7 : Nat}  (e2 : h.2.2 r0 = some (.inr (11, fs1))) (e4 : fs1[1]? = some (.ref y3)) (e6 : h.2.2 y3 = some (.inr (8, fs5))) (e8 : fs5[5]? = some (.ref y7)) (e9 : (x2 : Int32) = 0) (kk : qE d 76 63 [some (.ref r0), some (.int x1), some (.int x2)] [.int x1, .ref y7] h q): qE d 76 47 [some (.ref r0), some (.int x1), some (.int x2)] [] h q := by
  refine qe_aload_n c76_47 rfl ?_
  refine qe_getfield c76_48 qo76 qF11_19 e2 e4 ?_
  refine qe_getfield c76_51 qo76 qF11_149 e6 e8 ?_
  refine qe_iload_n c76_54 rfl ?_
  refine qe_iload_n c76_55 rfl ?_
  refine qe_if_eq_T (t := 63) c76_56 rfl e9 ?_
  exact kk
theorem b76_59 {d : Nat} {q : Option Value × qH} {h : qH} {r0 : Nat} {x1 : Int32} {x2 : Int32} {rs0 : Nat} {xs1 : Int32}   (kk : qE d 76 64 [some (.ref r0), some (.int x1), some (.int x2)] [.int 0, .int xs1, .ref rs0] h q): qE d 76 59 [some (.ref r0), some (.int x1), some (.int x2)] [.int xs1, .ref rs0] h q := by
  refine qe_iconst (x := 0) c76_59 (by decide) ?_
  refine qe_goto (t := 64) c76_60 rfl ?_
  exact kk
theorem b76_63 {d : Nat} {q : Option Value × qH} {h : qH} {r0 : Nat} {x1 : Int32} {x2 : Int32} {rs0 : Nat} {xs1 : Int32}   (kk : qE d 76 64 [some (.ref r0), some (.int x1), some (.int x2)] [.int 1, .int xs1, .ref rs0] h q): qE d 76 63 [some (.ref r0), some (.int x1), some (.int x2)] [.int xs1, .ref rs0] h q := by
  refine qe_iconst (x := 1) c76_63 (by decide) ?_
  exact kk
theorem b76_64 {d : Nat} {h : qH} {r0 : Nat} {x1 : Int32} {x2 : Int32} {rs0 : Nat} {xs1 : Int32} {xs2 : Int32} {n1 : Nat} {f2 : Nat → Int32} {h1 : qH}  (e3 : h.2.2 rs0 = some (.inl (0, n1, .inl f2))) (e4 : 0 ≤ (xs1 : Int32).toInt ∧ (xs1 : Int32).toInt < (n1 : Nat)) (e5 : qset h rs0 (.inl (0, n1, .inl (upd f2 ((xs1 : Int32).toNatClampNeg) xs2))) = h1) : qE d 76 64 [some (.ref r0), some (.int x1), some (.int x2)] [.int xs2, .int xs1, .ref rs0] h (some (.int 1), h1) := by
  refine qe_iastore c76_64 e3 e4 ?_
  rw [e5]
  refine qe_iconst (x := 1) c76_65 (by decide) ?_
  exact qe_zret c76_66 qr76 (by decide)
theorem b77_0F {d : Nat} {q : Option Value × qH} {h : qH} {r0 : Nat} {x1 : Int32} {x2 : Int32} {x3 : Int32} {x4 : Int32} {x5 : Int32} {fs1 : List Value} {y3 : Nat} {fs5 : List Value} {y7 : Int32}  (e2 : h.2.2 r0 = some (.inr (11, fs1))) (e4 : fs1[1]? = some (.ref y3)) (e6 : h.2.2 y3 = some (.inr (8, fs5))) (e8 : fs5[0]? = some (.int y7)) (e9 : (y7 : Int32) = 0) (kk : qE d 77 10 [some (.ref r0), some (.int x1), some (.int x2), some (.int x3), some (.int x4), some (.int x5), none] [] h q): qE d 77 0 [some (.ref r0), some (.int x1), some (.int x2), some (.int x3), some (.int x4), some (.int x5), none] [] h q := by
  refine qe_aload_n c77_0 rfl ?_
  refine qe_getfield c77_1 qo77 qF11_19 e2 e4 ?_
  refine qe_getfield c77_4 qo77 qF11_97 e6 e8 ?_
  refine qe_if_ne_F (t := 85) c77_7 rfl e9 ?_
  exact kk
theorem b77_0T {d : Nat} {q : Option Value × qH} {h : qH} {r0 : Nat} {x1 : Int32} {x2 : Int32} {x3 : Int32} {x4 : Int32} {x5 : Int32} {fs1 : List Value} {y3 : Nat} {fs5 : List Value} {y7 : Int32}  (e2 : h.2.2 r0 = some (.inr (11, fs1))) (e4 : fs1[1]? = some (.ref y3)) (e6 : h.2.2 y3 = some (.inr (8, fs5))) (e8 : fs5[0]? = some (.int y7)) (e9 : ¬ ((y7 : Int32) = 0)) (kk : qE d 77 85 [some (.ref r0), some (.int x1), some (.int x2), some (.int x3), some (.int x4), some (.int x5), none] [] h q): qE d 77 0 [some (.ref r0), some (.int x1), some (.int x2), some (.int x3), some (.int x4), some (.int x5), none] [] h q := by
  refine qe_aload_n c77_0 rfl ?_
  refine qe_getfield c77_1 qo77 qF11_19 e2 e4 ?_
  refine qe_getfield c77_4 qo77 qF11_97 e6 e8 ?_
  refine qe_if_ne_T (t := 85) c77_7 rfl e9 ?_
  exact kk
theorem b77_10F {d : Nat} {q : Option Value × qH} {h : qH} {r0 : Nat} {x1 : Int32} {x2 : Int32} {x3 : Int32} {x4 : Int32} {x5 : Int32} {fs1 : List Value} {y3 : Nat} {fs5 : List Value} {y7 : Int32}  (e2 : h.2.2 r0 = some (.inr (11, fs1))) (e4 : fs1[0]? = some (.ref y3)) (e6 : h.2.2 y3 = some (.inr (4, fs5))) (e8 : fs5[1]? = some (.int y7)) (e9 : ¬ ((14 : Int32) ≤ y7)) (kk : qE d 77 22 [some (.ref r0), some (.int x1), some (.int x2), some (.int x3), some (.int x4), some (.int x5), none] [] h q): qE d 77 10 [some (.ref r0), some (.int x1), some (.int x2), some (.int x3), some (.int x4), some (.int x5), none] [] h q := by
  refine qe_aload_n c77_10 rfl ?_
  refine qe_getfield c77_11 qo77 qF11_10 e2 e4 ?_
  refine qe_getfield c77_14 qo77 qF11_119 e6 e8 ?_
  refine qe_bipush (x := 14) c77_17 (by decide) ?_
  refine qe_icmp_ge_F (t := 85) c77_19 rfl e9 ?_
  exact kk
theorem b77_10T {d : Nat} {q : Option Value × qH} {h : qH} {r0 : Nat} {x1 : Int32} {x2 : Int32} {x3 : Int32} {x4 : Int32} {x5 : Int32} {fs1 : List Value} {y3 : Nat} {fs5 : List Value} {y7 : Int32}  (e2 : h.2.2 r0 = some (.inr (11, fs1))) (e4 : fs1[0]? = some (.ref y3)) (e6 : h.2.2 y3 = some (.inr (4, fs5))) (e8 : fs5[1]? = some (.int y7)) (e9 : (14 : Int32) ≤ y7) (kk : qE d 77 85 [some (.ref r0), some (.int x1), some (.int x2), some (.int x3), some (.int x4), some (.int x5), none] [] h q): qE d 77 10 [some (.ref r0), some (.int x1), some (.int x2), some (.int x3), some (.int x4), some (.int x5), none] [] h q := by
  refine qe_aload_n c77_10 rfl ?_
  refine qe_getfield c77_11 qo77 qF11_10 e2 e4 ?_
  refine qe_getfield c77_14 qo77 qF11_119 e6 e8 ?_
  refine qe_bipush (x := 14) c77_17 (by decide) ?_
  refine qe_icmp_ge_T (t := 85) c77_19 rfl e9 ?_
  exact kk
theorem b77_22F {d : Nat} {q : Option Value × qH} {h : qH} {r0 : Nat} {x1 : Int32} {x2 : Int32} {x3 : Int32} {x4 : Int32} {x5 : Int32} {fs1 : List Value} {y3 : Nat} {fs5 : List Value} {h1 : qH} {z7 : Int32}  (e2 : h.2.2 r0 = some (.inr (11, fs1))) (e4 : fs1[0]? = some (.ref y3)) (e6 : h.2.2 y3 = some (.inr (4, fs5))) (e8 : qCall d 214 [.ref y3, .int x1] h ((some (.int z7)), h1)) (e9 : ¬ ((z7 : Int32) = 0)) (kk : qE d 77 33 [some (.ref r0), some (.int x1), some (.int x2), some (.int x3), some (.int x4), some (.int x5), none] [] h1 q): qE d 77 22 [some (.ref r0), some (.int x1), some (.int x2), some (.int x3), some (.int x4), some (.int x5), none] [] h q := by
  refine qe_aload_n c77_22 rfl ?_
  refine qe_getfield c77_23 qo77 qF11_10 e2 e4 ?_
  refine qe_iload_n c77_26 rfl ?_
  refine qe_virtual (b := y3) (as := [.int x1]) (r := []) (v := (some (.int z7))) (h2 := h1) c77_27 qo77 qK11_122 rfl rfl rfl (by rw [qo214]; exact e6) (Nat.le_of_ble_eq_true rfl) e8 ?_
  refine qe_if_eq_F (t := 85) c77_30 rfl e9 ?_
  exact kk
theorem b77_22T {d : Nat} {q : Option Value × qH} {h : qH} {r0 : Nat} {x1 : Int32} {x2 : Int32} {x3 : Int32} {x4 : Int32} {x5 : Int32} {fs1 : List Value} {y3 : Nat} {fs5 : List Value} {h1 : qH} {z7 : Int32}  (e2 : h.2.2 r0 = some (.inr (11, fs1))) (e4 : fs1[0]? = some (.ref y3)) (e6 : h.2.2 y3 = some (.inr (4, fs5))) (e8 : qCall d 214 [.ref y3, .int x1] h ((some (.int z7)), h1)) (e9 : (z7 : Int32) = 0) (kk : qE d 77 85 [some (.ref r0), some (.int x1), some (.int x2), some (.int x3), some (.int x4), some (.int x5), none] [] h1 q): qE d 77 22 [some (.ref r0), some (.int x1), some (.int x2), some (.int x3), some (.int x4), some (.int x5), none] [] h q := by
  refine qe_aload_n c77_22 rfl ?_
  refine qe_getfield c77_23 qo77 qF11_10 e2 e4 ?_
  refine qe_iload_n c77_26 rfl ?_
  refine qe_virtual (b := y3) (as := [.int x1]) (r := []) (v := (some (.int z7))) (h2 := h1) c77_27 qo77 qK11_122 rfl rfl rfl (by rw [qo214]; exact e6) (Nat.le_of_ble_eq_true rfl) e8 ?_
  refine qe_if_eq_T (t := 85) c77_30 rfl e9 ?_
  exact kk
theorem b77_33F {d : Nat} {q : Option Value × qH} {h : qH} {r0 : Nat} {x1 : Int32} {x2 : Int32} {x3 : Int32} {x4 : Int32} {x5 : Int32} {fs1 : List Value} {y3 : Nat} {fs5 : List Value} {h1 : qH} {z7 : Int32}  (e2 : h.2.2 r0 = some (.inr (11, fs1))) (e4 : fs1[0]? = some (.ref y3)) (e6 : h.2.2 y3 = some (.inr (4, fs5))) (e8 : qCall d 214 [.ref y3, .int x2] h ((some (.int z7)), h1)) (e9 : ¬ ((z7 : Int32) = 0)) (kk : qE d 77 44 [some (.ref r0), some (.int x1), some (.int x2), some (.int x3), some (.int x4), some (.int x5), none] [] h1 q): qE d 77 33 [some (.ref r0), some (.int x1), some (.int x2), some (.int x3), some (.int x4), some (.int x5), none] [] h q := by
  refine qe_aload_n c77_33 rfl ?_
  refine qe_getfield c77_34 qo77 qF11_10 e2 e4 ?_
  refine qe_iload_n c77_37 rfl ?_
  refine qe_virtual (b := y3) (as := [.int x2]) (r := []) (v := (some (.int z7))) (h2 := h1) c77_38 qo77 qK11_122 rfl rfl rfl (by rw [qo214]; exact e6) (Nat.le_of_ble_eq_true rfl) e8 ?_
  refine qe_if_eq_F (t := 85) c77_41 rfl e9 ?_
  exact kk
theorem b77_33T {d : Nat} {q : Option Value × qH} {h : qH} {r0 : Nat} {x1 : Int32} {x2 : Int32} {x3 : Int32} {x4 : Int32} {x5 : Int32} {fs1 : List Value} {y3 : Nat} {fs5 : List Value} {h1 : qH} {z7 : Int32}  (e2 : h.2.2 r0 = some (.inr (11, fs1))) (e4 : fs1[0]? = some (.ref y3)) (e6 : h.2.2 y3 = some (.inr (4, fs5))) (e8 : qCall d 214 [.ref y3, .int x2] h ((some (.int z7)), h1)) (e9 : (z7 : Int32) = 0) (kk : qE d 77 85 [some (.ref r0), some (.int x1), some (.int x2), some (.int x3), some (.int x4), some (.int x5), none] [] h1 q): qE d 77 33 [some (.ref r0), some (.int x1), some (.int x2), some (.int x3), some (.int x4), some (.int x5), none] [] h q := by
  refine qe_aload_n c77_33 rfl ?_
  refine qe_getfield c77_34 qo77 qF11_10 e2 e4 ?_
  refine qe_iload_n c77_37 rfl ?_
  refine qe_virtual (b := y3) (as := [.int x2]) (r := []) (v := (some (.int z7))) (h2 := h1) c77_38 qo77 qK11_122 rfl rfl rfl (by rw [qo214]; exact e6) (Nat.le_of_ble_eq_true rfl) e8 ?_
  refine qe_if_eq_T (t := 85) c77_41 rfl e9 ?_
  exact kk
theorem b77_44F {d : Nat} {q : Option Value × qH} {h : qH} {r0 : Nat} {x1 : Int32} {x2 : Int32} {x3 : Int32} {x4 : Int32} {x5 : Int32}  (e1 : ¬ ((x1 : Int32) = x2)) (kk : qE d 77 49 [some (.ref r0), some (.int x1), some (.int x2), some (.int x3), some (.int x4), some (.int x5), none] [] h q): qE d 77 44 [some (.ref r0), some (.int x1), some (.int x2), some (.int x3), some (.int x4), some (.int x5), none] [] h q := by
  refine qe_iload_n c77_44 rfl ?_
  refine qe_iload_n c77_45 rfl ?_
  refine qe_icmp_eq_F (t := 85) c77_46 rfl e1 ?_
  exact kk
theorem b77_44T {d : Nat} {q : Option Value × qH} {h : qH} {r0 : Nat} {x1 : Int32} {x2 : Int32} {x3 : Int32} {x4 : Int32} {x5 : Int32}  (e1 : (x1 : Int32) = x2) (kk : qE d 77 85 [some (.ref r0), some (.int x1), some (.int x2), some (.int x3), some (.int x4), some (.int x5), none] [] h q): qE d 77 44 [some (.ref r0), some (.int x1), some (.int x2), some (.int x3), some (.int x4), some (.int x5), none] [] h q := by
  refine qe_iload_n c77_44 rfl ?_
  refine qe_iload_n c77_45 rfl ?_
  refine qe_icmp_eq_T (t := 85) c77_46 rfl e1 ?_
  exact kk
theorem b77_49F {d : Nat} {q : Option Value × qH} {h : qH} {r0 : Nat} {x1 : Int32} {x2 : Int32} {x3 : Int32} {x4 : Int32} {x5 : Int32} {h1 : qH} {z1 : Int32}  (e2 : qCall d 80 [.int x3, .int 1, .int 3] h ((some (.int z1)), h1)) (e3 : ¬ ((z1 : Int32) = 0)) (kk : qE d 77 58 [some (.ref r0), some (.int x1), some (.int x2), some (.int x3), some (.int x4), some (.int x5), none] [] h1 q): qE d 77 49 [some (.ref r0), some (.int x1), some (.int x2), some (.int x3), some (.int x4), some (.int x5), none] [] h q := by
  refine qe_iload_n c77_49 rfl ?_
  refine qe_iconst (x := 1) c77_50 (by decide) ?_
  refine qe_iconst (x := 3) c77_51 (by decide) ?_
  refine qe_static (as := [.int x3, .int 1, .int 3]) (r := []) (v := (some (.int z1))) (h2 := h1) c77_52 qo77 (by decide) qK11_108 rfl rfl rfl (Nat.le_of_ble_eq_true rfl) e2 ?_
  refine qe_if_eq_F (t := 85) c77_55 rfl e3 ?_
  exact kk
theorem b77_49T {d : Nat} {q : Option Value × qH} {h : qH} {r0 : Nat} {x1 : Int32} {x2 : Int32} {x3 : Int32} {x4 : Int32} {x5 : Int32} {h1 : qH} {z1 : Int32}  (e2 : qCall d 80 [.int x3, .int 1, .int 3] h ((some (.int z1)), h1)) (e3 : (z1 : Int32) = 0) (kk : qE d 77 85 [some (.ref r0), some (.int x1), some (.int x2), some (.int x3), some (.int x4), some (.int x5), none] [] h1 q): qE d 77 49 [some (.ref r0), some (.int x1), some (.int x2), some (.int x3), some (.int x4), some (.int x5), none] [] h q := by
  refine qe_iload_n c77_49 rfl ?_
  refine qe_iconst (x := 1) c77_50 (by decide) ?_
  refine qe_iconst (x := 3) c77_51 (by decide) ?_
  refine qe_static (as := [.int x3, .int 1, .int 3]) (r := []) (v := (some (.int z1))) (h2 := h1) c77_52 qo77 (by decide) qK11_108 rfl rfl rfl (Nat.le_of_ble_eq_true rfl) e2 ?_
  refine qe_if_eq_T (t := 85) c77_55 rfl e3 ?_
  exact kk
theorem b77_58F {d : Nat} {q : Option Value × qH} {h : qH} {r0 : Nat} {x1 : Int32} {x2 : Int32} {x3 : Int32} {x4 : Int32} {x5 : Int32} {h1 : qH} {z1 : Int32}  (e2 : qCall d 80 [.int x4, .int 1, .int 5000] h ((some (.int z1)), h1)) (e3 : ¬ ((z1 : Int32) = 0)) (kk : qE d 77 70 [some (.ref r0), some (.int x1), some (.int x2), some (.int x3), some (.int x4), some (.int x5), none] [] h1 q): qE d 77 58 [some (.ref r0), some (.int x1), some (.int x2), some (.int x3), some (.int x4), some (.int x5), none] [] h q := by
  refine qe_iload c77_58 rfl ?_
  refine qe_iconst (x := 1) c77_60 (by decide) ?_
  refine qe_sipush (x := 5000) c77_61 (by decide) ?_
  refine qe_static (as := [.int x4, .int 1, .int 5000]) (r := []) (v := (some (.int z1))) (h2 := h1) c77_64 qo77 (by decide) qK11_108 rfl rfl rfl (Nat.le_of_ble_eq_true rfl) e2 ?_
  refine qe_if_eq_F (t := 85) c77_67 rfl e3 ?_
  exact kk
theorem b77_58T {d : Nat} {q : Option Value × qH} {h : qH} {r0 : Nat} {x1 : Int32} {x2 : Int32} {x3 : Int32} {x4 : Int32} {x5 : Int32} {h1 : qH} {z1 : Int32}  (e2 : qCall d 80 [.int x4, .int 1, .int 5000] h ((some (.int z1)), h1)) (e3 : (z1 : Int32) = 0) (kk : qE d 77 85 [some (.ref r0), some (.int x1), some (.int x2), some (.int x3), some (.int x4), some (.int x5), none] [] h1 q): qE d 77 58 [some (.ref r0), some (.int x1), some (.int x2), some (.int x3), some (.int x4), some (.int x5), none] [] h q := by
  refine qe_iload c77_58 rfl ?_
  refine qe_iconst (x := 1) c77_60 (by decide) ?_
  refine qe_sipush (x := 5000) c77_61 (by decide) ?_
  refine qe_static (as := [.int x4, .int 1, .int 5000]) (r := []) (v := (some (.int z1))) (h2 := h1) c77_64 qo77 (by decide) qK11_108 rfl rfl rfl (Nat.le_of_ble_eq_true rfl) e2 ?_
  refine qe_if_eq_T (t := 85) c77_67 rfl e3 ?_
  exact kk
theorem b77_70F {d : Nat} {q : Option Value × qH} {h : qH} {r0 : Nat} {x1 : Int32} {x2 : Int32} {x3 : Int32} {x4 : Int32} {x5 : Int32} {h1 : qH} {z1 : Int32}  (e2 : qCall d 80 [.int x5, .int 1, .int 100000] h ((some (.int z1)), h1)) (e3 : ¬ ((z1 : Int32) = 0)) (kk : qE d 77 81 [some (.ref r0), some (.int x1), some (.int x2), some (.int x3), some (.int x4), some (.int x5), none] [] h1 q): qE d 77 70 [some (.ref r0), some (.int x1), some (.int x2), some (.int x3), some (.int x4), some (.int x5), none] [] h q := by
  refine qe_iload c77_70 rfl ?_
  refine qe_iconst (x := 1) c77_72 (by decide) ?_
  refine qe_ldc (x := 100000) c77_73 qo77 qI11_125 ?_
  refine qe_static (as := [.int x5, .int 1, .int 100000]) (r := []) (v := (some (.int z1))) (h2 := h1) c77_75 qo77 (by decide) qK11_108 rfl rfl rfl (Nat.le_of_ble_eq_true rfl) e2 ?_
  refine qe_if_eq_F (t := 85) c77_78 rfl e3 ?_
  exact kk
theorem b77_70T {d : Nat} {q : Option Value × qH} {h : qH} {r0 : Nat} {x1 : Int32} {x2 : Int32} {x3 : Int32} {x4 : Int32} {x5 : Int32} {h1 : qH} {z1 : Int32}  (e2 : qCall d 80 [.int x5, .int 1, .int 100000] h ((some (.int z1)), h1)) (e3 : (z1 : Int32) = 0) (kk : qE d 77 85 [some (.ref r0), some (.int x1), some (.int x2), some (.int x3), some (.int x4), some (.int x5), none] [] h1 q): qE d 77 70 [some (.ref r0), some (.int x1), some (.int x2), some (.int x3), some (.int x4), some (.int x5), none] [] h q := by
  refine qe_iload c77_70 rfl ?_
  refine qe_iconst (x := 1) c77_72 (by decide) ?_
  refine qe_ldc (x := 100000) c77_73 qo77 qI11_125 ?_
  refine qe_static (as := [.int x5, .int 1, .int 100000]) (r := []) (v := (some (.int z1))) (h2 := h1) c77_75 qo77 (by decide) qK11_108 rfl rfl rfl (Nat.le_of_ble_eq_true rfl) e2 ?_
  refine qe_if_eq_T (t := 85) c77_78 rfl e3 ?_
  exact kk
theorem b77_81 {d : Nat} {q : Option Value × qH} {h : qH} {r0 : Nat} {x1 : Int32} {x2 : Int32} {x3 : Int32} {x4 : Int32} {x5 : Int32}   (kk : qE d 77 86 [some (.ref r0), some (.int x1), some (.int x2), some (.int x3), some (.int x4), some (.int x5), none] [.int 1] h q): qE d 77 81 [some (.ref r0), some (.int x1), some (.int x2), some (.int x3), some (.int x4), some (.int x5), none] [] h q := by
  refine qe_iconst (x := 1) c77_81 (by decide) ?_
  refine qe_goto (t := 86) c77_82 rfl ?_
  exact kk
theorem b77_85 {d : Nat} {q : Option Value × qH} {h : qH} {r0 : Nat} {x1 : Int32} {x2 : Int32} {x3 : Int32} {x4 : Int32} {x5 : Int32}   (kk : qE d 77 86 [some (.ref r0), some (.int x1), some (.int x2), some (.int x3), some (.int x4), some (.int x5), none] [.int 0] h q): qE d 77 85 [some (.ref r0), some (.int x1), some (.int x2), some (.int x3), some (.int x4), some (.int x5), none] [] h q := by
  refine qe_iconst (x := 0) c77_85 (by decide) ?_
  exact kk
theorem b77_86F {d : Nat} {q : Option Value × qH} {h : qH} {r0 : Nat} {x1 : Int32} {x2 : Int32} {x3 : Int32} {x4 : Int32} {x5 : Int32} {xs0 : Int32}  (e1 : ¬ ((xs0 : Int32) = 0)) (kk : qE d 77 93 [some (.ref r0), some (.int x1), some (.int x2), some (.int x3), some (.int x4), some (.int x5), some (.int xs0)] [] h q): qE d 77 86 [some (.ref r0), some (.int x1), some (.int x2), some (.int x3), some (.int x4), some (.int x5), none] [.int xs0] h q := by
  refine qe_istore (ls2 := [some (.ref r0), some (.int x1), some (.int x2), some (.int x3), some (.int x4), some (.int x5), some (.int xs0)]) c77_86 (Nat.le_of_ble_eq_true rfl) rfl ?_
  refine qe_iload c77_88 rfl ?_
  refine qe_if_eq_F (t := 110) c77_90 rfl e1 ?_
  exact kk
theorem b77_86T {d : Nat} {q : Option Value × qH} {h : qH} {r0 : Nat} {x1 : Int32} {x2 : Int32} {x3 : Int32} {x4 : Int32} {x5 : Int32} {xs0 : Int32}  (e1 : (xs0 : Int32) = 0) (kk : qE d 77 110 [some (.ref r0), some (.int x1), some (.int x2), some (.int x3), some (.int x4), some (.int x5), some (.int xs0)] [] h q): qE d 77 86 [some (.ref r0), some (.int x1), some (.int x2), some (.int x3), some (.int x4), some (.int x5), none] [.int xs0] h q := by
  refine qe_istore (ls2 := [some (.ref r0), some (.int x1), some (.int x2), some (.int x3), some (.int x4), some (.int x5), some (.int xs0)]) c77_86 (Nat.le_of_ble_eq_true rfl) rfl ?_
  refine qe_iload c77_88 rfl ?_
  refine qe_if_eq_T (t := 110) c77_90 rfl e1 ?_
  exact kk
theorem b77_93 {d : Nat} {q : Option Value × qH} {h : qH} {r0 : Nat} {x1 : Int32} {x2 : Int32} {x3 : Int32} {x4 : Int32} {x5 : Int32} {x6 : Int32} {fs1 : List Value} {y3 : Nat} {fs5 : List Value} {h1 : qH} {z7 : Int32}  (e2 : h.2.2 r0 = some (.inr (11, fs1))) (e4 : fs1[0]? = some (.ref y3)) (e6 : h.2.2 y3 = some (.inr (4, fs5))) (e8 : qCall d 211 [.ref y3, .int x1, .int x2, .int x3, .int x4, .int x5] h ((some (.int z7)), h1)) (kk : qE d 77 111 [some (.ref r0), some (.int x1), some (.int x2), some (.int x3), some (.int x4), some (.int x5), some (.int x6)] [.int z7] h1 q): qE d 77 93 [some (.ref r0), some (.int x1), some (.int x2), some (.int x3), some (.int x4), some (.int x5), some (.int x6)] [] h q := by
  refine qe_aload_n c77_93 rfl ?_
  refine qe_getfield c77_94 qo77 qF11_10 e2 e4 ?_
  refine qe_iload_n c77_97 rfl ?_
  refine qe_iload_n c77_98 rfl ?_
  refine qe_iload_n c77_99 rfl ?_
  refine qe_iload c77_100 rfl ?_
  refine qe_iload c77_102 rfl ?_
  refine qe_virtual (b := y3) (as := [.int x1, .int x2, .int x3, .int x4, .int x5]) (r := []) (v := (some (.int z7))) (h2 := h1) c77_104 qo77 qK11_126 rfl rfl rfl (by rw [qo211]; exact e6) (Nat.le_of_ble_eq_true rfl) e8 ?_
  refine qe_goto (t := 111) c77_107 rfl ?_
  exact kk
theorem b77_110 {d : Nat} {q : Option Value × qH} {h : qH} {r0 : Nat} {x1 : Int32} {x2 : Int32} {x3 : Int32} {x4 : Int32} {x5 : Int32} {x6 : Int32}   (kk : qE d 77 111 [some (.ref r0), some (.int x1), some (.int x2), some (.int x3), some (.int x4), some (.int x5), some (.int x6)] [.int (-1)] h q): qE d 77 110 [some (.ref r0), some (.int x1), some (.int x2), some (.int x3), some (.int x4), some (.int x5), some (.int x6)] [] h q := by
  refine qe_iconst (x := (-1)) c77_110 (by decide) ?_
  exact kk
theorem b77_111 {d : Nat} {h : qH} {r0 : Nat} {x1 : Int32} {x2 : Int32} {x3 : Int32} {x4 : Int32} {x5 : Int32} {x6 : Int32} {xs0 : Int32}   : qE d 77 111 [some (.ref r0), some (.int x1), some (.int x2), some (.int x3), some (.int x4), some (.int x5), some (.int x6)] [.int xs0] h (some (.int xs0), h) := by
  exact qe_iret c77_111 qr77
theorem b78_0F {d : Nat} {q : Option Value × qH} {h : qH} {r0 : Nat} {x1 : Int32} {x2 : Int32} {fs1 : List Value} {y3 : Nat} {fs5 : List Value} {h1 : qH} {z7 : Int32}  (e2 : h.2.2 r0 = some (.inr (11, fs1))) (e4 : fs1[0]? = some (.ref y3)) (e6 : h.2.2 y3 = some (.inr (4, fs5))) (e8 : qCall d 215 [.ref y3, .int x1] h ((some (.int z7)), h1)) (e9 : (z7 : Int32) = 0) (kk : qE d 78 11 [some (.ref r0), some (.int x1), some (.int x2)] [] h1 q): qE d 78 0 [some (.ref r0), some (.int x1), some (.int x2)] [] h q := by
  refine qe_aload_n c78_0 rfl ?_
  refine qe_getfield c78_1 qo78 qF11_10 e2 e4 ?_
  refine qe_iload_n c78_4 rfl ?_
  refine qe_virtual (b := y3) (as := [.int x1]) (r := []) (v := (some (.int z7))) (h2 := h1) c78_5 qo78 qK11_140 rfl rfl rfl (by rw [qo215]; exact e6) (Nat.le_of_ble_eq_true rfl) e8 ?_
  refine qe_if_ne_F (t := 13) c78_8 rfl e9 ?_
  exact kk
theorem b78_0T {d : Nat} {q : Option Value × qH} {h : qH} {r0 : Nat} {x1 : Int32} {x2 : Int32} {fs1 : List Value} {y3 : Nat} {fs5 : List Value} {h1 : qH} {z7 : Int32}  (e2 : h.2.2 r0 = some (.inr (11, fs1))) (e4 : fs1[0]? = some (.ref y3)) (e6 : h.2.2 y3 = some (.inr (4, fs5))) (e8 : qCall d 215 [.ref y3, .int x1] h ((some (.int z7)), h1)) (e9 : ¬ ((z7 : Int32) = 0)) (kk : qE d 78 13 [some (.ref r0), some (.int x1), some (.int x2)] [] h1 q): qE d 78 0 [some (.ref r0), some (.int x1), some (.int x2)] [] h q := by
  refine qe_aload_n c78_0 rfl ?_
  refine qe_getfield c78_1 qo78 qF11_10 e2 e4 ?_
  refine qe_iload_n c78_4 rfl ?_
  refine qe_virtual (b := y3) (as := [.int x1]) (r := []) (v := (some (.int z7))) (h2 := h1) c78_5 qo78 qK11_140 rfl rfl rfl (by rw [qo215]; exact e6) (Nat.le_of_ble_eq_true rfl) e8 ?_
  refine qe_if_ne_T (t := 13) c78_8 rfl e9 ?_
  exact kk
theorem b78_11 {d : Nat} {h : qH} {r0 : Nat} {x1 : Int32} {x2 : Int32}   : qE d 78 11 [some (.ref r0), some (.int x1), some (.int x2)] [] h (some (.int (-1)), h) := by
  refine qe_iconst (x := (-1)) c78_11 (by decide) ?_
  exact qe_iret c78_12 qr78
theorem b78_13D {d : Nat} {q : Option Value × qH} {h : qH} {r0 : Nat} {x1 : Int32} {x2 : Int32}  (e1 : (x2 : Int32).toInt < 0 ∨ 3 < (x2 : Int32).toInt) (kk : qE d 78 91 [some (.ref r0), some (.int x1), some (.int x2)] [] h q): qE d 78 13 [some (.ref r0), some (.int x1), some (.int x2)] [] h q := by
  refine qe_iload_n c78_13 rfl ?_
  refine qe_tableD (t := 91) c78_14 e1 rfl ?_
  exact kk
theorem b78_13s3 {d : Nat} {q : Option Value × qH} {h : qH} {r0 : Nat} {x1 : Int32} {x2 : Int32}  (e1 : (x2 : Int32).toInt = 3) (kk : qE d 78 74 [some (.ref r0), some (.int x1), some (.int x2)] [] h q): qE d 78 13 [some (.ref r0), some (.int x1), some (.int x2)] [] h q := by
  refine qe_iload_n c78_13 rfl ?_
  refine qe_table (off := 60) (t := 74) c78_14 (by rw [e1]; decide) (by rw [e1]; decide) rfl ?_
  exact kk
theorem b78_13s2 {d : Nat} {q : Option Value × qH} {h : qH} {r0 : Nat} {x1 : Int32} {x2 : Int32}  (e1 : (x2 : Int32).toInt = 2) (kk : qE d 78 64 [some (.ref r0), some (.int x1), some (.int x2)] [] h q): qE d 78 13 [some (.ref r0), some (.int x1), some (.int x2)] [] h q := by
  refine qe_iload_n c78_13 rfl ?_
  refine qe_table (off := 50) (t := 64) c78_14 (by rw [e1]; decide) (by rw [e1]; decide) rfl ?_
  exact kk
theorem b78_13s1 {d : Nat} {q : Option Value × qH} {h : qH} {r0 : Nat} {x1 : Int32} {x2 : Int32}  (e1 : (x2 : Int32).toInt = 1) (kk : qE d 78 54 [some (.ref r0), some (.int x1), some (.int x2)] [] h q): qE d 78 13 [some (.ref r0), some (.int x1), some (.int x2)] [] h q := by
  refine qe_iload_n c78_13 rfl ?_
  refine qe_table (off := 40) (t := 54) c78_14 (by rw [e1]; decide) (by rw [e1]; decide) rfl ?_
  exact kk
theorem b78_13s0 {d : Nat} {q : Option Value × qH} {h : qH} {r0 : Nat} {x1 : Int32} {x2 : Int32}  (e1 : (x2 : Int32).toInt = 0) (kk : qE d 78 44 [some (.ref r0), some (.int x1), some (.int x2)] [] h q): qE d 78 13 [some (.ref r0), some (.int x1), some (.int x2)] [] h q := by
  refine qe_iload_n c78_13 rfl ?_
  refine qe_table (off := 30) (t := 44) c78_14 (by rw [e1]; decide) (by rw [e1]; decide) rfl ?_
  exact kk
theorem b78_44 {d : Nat} {h : qH} {r0 : Nat} {x1 : Int32} {x2 : Int32} {fs1 : List Value} {y3 : Nat} {fs5 : List Value} {y7 : Nat} {n9 : Nat} {f10 : Nat → Int32}  (e2 : h.2.2 r0 = some (.inr (11, fs1))) (e4 : fs1[1]? = some (.ref y3)) (e6 : h.2.2 y3 = some (.inr (8, fs5))) (e8 : fs5[5]? = some (.ref y7)) (e11 : h.2.2 y7 = some (.inl (0, n9, .inl f10))) (e12 : 0 ≤ (x1 : Int32).toInt ∧ (x1 : Int32).toInt < (n9 : Nat)) : qE d 78 44 [some (.ref r0), some (.int x1), some (.int x2)] [] h (some (.int (f10 (x1 : Int32).toNatClampNeg)), h) := by
  refine qe_aload_n c78_44 rfl ?_
  refine qe_getfield c78_45 qo78 qF11_19 e2 e4 ?_
  refine qe_getfield c78_48 qo78 qF11_149 e6 e8 ?_
  refine qe_iload_n c78_51 rfl ?_
  refine qe_iaload c78_52 e11 e12 ?_
  exact qe_iret c78_53 qr78
theorem b78_54 {d : Nat} {h : qH} {r0 : Nat} {x1 : Int32} {x2 : Int32} {fs1 : List Value} {y3 : Nat} {fs5 : List Value} {y7 : Nat} {n9 : Nat} {f10 : Nat → Int32}  (e2 : h.2.2 r0 = some (.inr (11, fs1))) (e4 : fs1[1]? = some (.ref y3)) (e6 : h.2.2 y3 = some (.inr (8, fs5))) (e8 : fs5[6]? = some (.ref y7)) (e11 : h.2.2 y7 = some (.inl (0, n9, .inl f10))) (e12 : 0 ≤ (x1 : Int32).toInt ∧ (x1 : Int32).toInt < (n9 : Nat)) : qE d 78 54 [some (.ref r0), some (.int x1), some (.int x2)] [] h (some (.int (f10 (x1 : Int32).toNatClampNeg)), h) := by
  refine qe_aload_n c78_54 rfl ?_
  refine qe_getfield c78_55 qo78 qF11_19 e2 e4 ?_
  refine qe_getfield c78_58 qo78 qF11_225 e6 e8 ?_
  refine qe_iload_n c78_61 rfl ?_
  refine qe_iaload c78_62 e11 e12 ?_
  exact qe_iret c78_63 qr78
theorem b78_64 {d : Nat} {h : qH} {r0 : Nat} {x1 : Int32} {x2 : Int32} {fs1 : List Value} {y3 : Nat} {fs5 : List Value} {y7 : Nat} {n9 : Nat} {f10 : Nat → Int32}  (e2 : h.2.2 r0 = some (.inr (11, fs1))) (e4 : fs1[1]? = some (.ref y3)) (e6 : h.2.2 y3 = some (.inr (8, fs5))) (e8 : fs5[7]? = some (.ref y7)) (e11 : h.2.2 y7 = some (.inl (0, n9, .inl f10))) (e12 : 0 ≤ (x1 : Int32).toInt ∧ (x1 : Int32).toInt < (n9 : Nat)) : qE d 78 64 [some (.ref r0), some (.int x1), some (.int x2)] [] h (some (.int (f10 (x1 : Int32).toNatClampNeg)), h) := by
  refine qe_aload_n c78_64 rfl ?_
  refine qe_getfield c78_65 qo78 qF11_19 e2 e4 ?_
  refine qe_getfield c78_68 qo78 qF11_143 e6 e8 ?_
  refine qe_iload_n c78_71 rfl ?_
  refine qe_iaload c78_72 e11 e12 ?_
  exact qe_iret c78_73 qr78
theorem b78_74 {d : Nat} {h : qH} {r0 : Nat} {x1 : Int32} {x2 : Int32} {fs1 : List Value} {y3 : Nat} {y5 : Nat} {y7 : Nat} {fs9 : List Value} {h1 : qH} {z11 : Int32}  (e2 : h.2.2 r0 = some (.inr (11, fs1))) (e4 : fs1[5]? = some (.ref y3)) (e6 : fs1[0]? = some (.ref y5)) (e8 : fs1[1]? = some (.ref y7)) (e10 : h.2.2 y3 = some (.inr (0, fs9))) (e12 : qCall d 11 [.ref y3, .ref y5, .ref y7, .int x1] h ((some (.int z11)), h1)) : qE d 78 74 [some (.ref r0), some (.int x1), some (.int x2)] [] h (some (.int z11), h1) := by
  refine qe_aload_n c78_74 rfl ?_
  refine qe_getfield c78_75 qo78 qF11_41 e2 e4 ?_
  refine qe_aload_n c78_78 rfl ?_
  refine qe_getfield c78_79 qo78 qF11_10 e2 e6 ?_
  refine qe_aload_n c78_82 rfl ?_
  refine qe_getfield c78_83 qo78 qF11_19 e2 e8 ?_
  refine qe_iload_n c78_86 rfl ?_
  refine qe_virtual (b := y3) (as := [.ref y5, .ref y7, .int x1]) (r := []) (v := (some (.int z11))) (h2 := h1) c78_87 qo78 qK11_228 rfl rfl rfl (by rw [qo11]; exact e10) (Nat.le_of_ble_eq_true rfl) e12 ?_
  exact qe_iret c78_90 qr78
theorem b78_91 {d : Nat} {h : qH} {r0 : Nat} {x1 : Int32} {x2 : Int32}   : qE d 78 91 [some (.ref r0), some (.int x1), some (.int x2)] [] h (some (.int (-1)), h) := by
  refine qe_iconst (x := (-1)) c78_91 (by decide) ?_
  exact qe_iret c78_92 qr78
theorem b79_0 {d : Nat} {q : Option Value × qH} {h : qH} {r0 : Nat} {x1 : Int32} {x2 : Int32}   (kk : qE d 79 5 [some (.ref r0), some (.int x1), some (.int x2), some (.int 0), some (.int 0)] [] h q): qE d 79 0 [some (.ref r0), some (.int x1), some (.int x2), none, none] [] h q := by
  refine qe_iconst (x := 0) c79_0 (by decide) ?_
  refine qe_istore_n (ls2 := [some (.ref r0), some (.int x1), some (.int x2), some (.int 0), none]) c79_1 (Nat.le_of_ble_eq_true rfl) rfl ?_
  refine qe_iconst (x := 0) c79_2 (by decide) ?_
  refine qe_istore (ls2 := [some (.ref r0), some (.int x1), some (.int x2), some (.int 0), some (.int 0)]) c79_3 (Nat.le_of_ble_eq_true rfl) rfl ?_
  exact kk
theorem b79_5F {d : Nat} {q : Option Value × qH} {h : qH} {r0 : Nat} {x1 : Int32} {x2 : Int32} {x3 : Int32} {x4 : Int32}  (e1 : ¬ ((x2 : Int32) ≤ x4)) (kk : qE d 79 11 [some (.ref r0), some (.int x1), some (.int x2), some (.int x3), some (.int x4)] [] h q): qE d 79 5 [some (.ref r0), some (.int x1), some (.int x2), some (.int x3), some (.int x4)] [] h q := by
  refine qe_iload c79_5 rfl ?_
  refine qe_iload_n c79_7 rfl ?_
  refine qe_icmp_ge_F (t := 39) c79_8 rfl e1 ?_
  exact kk
theorem b79_5T {d : Nat} {q : Option Value × qH} {h : qH} {r0 : Nat} {x1 : Int32} {x2 : Int32} {x3 : Int32} {x4 : Int32}  (e1 : (x2 : Int32) ≤ x4) (kk : qE d 79 39 [some (.ref r0), some (.int x1), some (.int x2), some (.int x3), some (.int x4)] [] h q): qE d 79 5 [some (.ref r0), some (.int x1), some (.int x2), some (.int x3), some (.int x4)] [] h q := by
  refine qe_iload c79_5 rfl ?_
  refine qe_iload_n c79_7 rfl ?_
  refine qe_icmp_ge_T (t := 39) c79_8 rfl e1 ?_
  exact kk
theorem b79_11F {d : Nat} {q : Option Value × qH} {h : qH} {r0 : Nat} {x1 : Int32} {x2 : Int32} {x3 : Int32} {x4 : Int32}  (e1 : (((x1 >>> (x4 &&& 31)) &&& 1) : Int32) = 1) (kk : qE d 79 21 [some (.ref r0), some (.int x1), some (.int x2), some (.int x3), some (.int x4)] [] h q): qE d 79 11 [some (.ref r0), some (.int x1), some (.int x2), some (.int x3), some (.int x4)] [] h q := by
  refine qe_iload_n c79_11 rfl ?_
  refine qe_iload c79_12 rfl ?_
  refine qe_ishr c79_14 ?_
  refine qe_iconst (x := 1) c79_15 (by decide) ?_
  refine qe_iand c79_16 ?_
  refine qe_iconst (x := 1) c79_17 (by decide) ?_
  refine qe_icmp_ne_F (t := 33) c79_18 rfl e1 ?_
  exact kk
theorem b79_11T {d : Nat} {q : Option Value × qH} {h : qH} {r0 : Nat} {x1 : Int32} {x2 : Int32} {x3 : Int32} {x4 : Int32}  (e1 : ¬ ((((x1 >>> (x4 &&& 31)) &&& 1) : Int32) = 1)) (kk : qE d 79 33 [some (.ref r0), some (.int x1), some (.int x2), some (.int x3), some (.int x4)] [] h q): qE d 79 11 [some (.ref r0), some (.int x1), some (.int x2), some (.int x3), some (.int x4)] [] h q := by
  refine qe_iload_n c79_11 rfl ?_
  refine qe_iload c79_12 rfl ?_
  refine qe_ishr c79_14 ?_
  refine qe_iconst (x := 1) c79_15 (by decide) ?_
  refine qe_iand c79_16 ?_
  refine qe_iconst (x := 1) c79_17 (by decide) ?_
  refine qe_icmp_ne_T (t := 33) c79_18 rfl e1 ?_
  exact kk
theorem b79_21 {d : Nat} {q : Option Value × qH} {h : qH} {r0 : Nat} {x1 : Int32} {x2 : Int32} {x3 : Int32} {x4 : Int32} {fs1 : List Value} {y3 : Nat} {n5 : Nat} {f6 : Nat → Int32}  (e2 : h.2.2 r0 = some (.inr (11, fs1))) (e4 : fs1[12]? = some (.ref y3)) (e7 : h.2.2 y3 = some (.inl (0, n5, .inl f6))) (e8 : 0 ≤ (x4 : Int32).toInt ∧ (x4 : Int32).toInt < (n5 : Nat)) (kk : qE d 79 33 [some (.ref r0), some (.int x1), some (.int x2), some (.int (x3 ||| (1 <<< ((f6 (x4 : Int32).toNatClampNeg) &&& 31)))), some (.int x4)] [] h q): qE d 79 21 [some (.ref r0), some (.int x1), some (.int x2), some (.int x3), some (.int x4)] [] h q := by
  refine qe_iload_n c79_21 rfl ?_
  refine qe_iconst (x := 1) c79_22 (by decide) ?_
  refine qe_aload_n c79_23 rfl ?_
  refine qe_getfield c79_24 qo79 qF11_87 e2 e4 ?_
  refine qe_iload c79_27 rfl ?_
  refine qe_iaload c79_29 e7 e8 ?_
  refine qe_ishl c79_30 ?_
  refine qe_ior c79_31 ?_
  refine qe_istore_n (ls2 := [some (.ref r0), some (.int x1), some (.int x2), some (.int (x3 ||| (1 <<< ((f6 (x4 : Int32).toNatClampNeg) &&& 31)))), some (.int x4)]) c79_32 (Nat.le_of_ble_eq_true rfl) rfl ?_
  exact kk
theorem b79_33 {d : Nat} {q : Option Value × qH} {h : qH} {r0 : Nat} {x1 : Int32} {x2 : Int32} {x3 : Int32} {x4 : Int32}   (kk : qE d 79 5 [some (.ref r0), some (.int x1), some (.int x2), some (.int x3), some (.int (x4 + 1))] [] h q): qE d 79 33 [some (.ref r0), some (.int x1), some (.int x2), some (.int x3), some (.int x4)] [] h q := by
  refine qe_iinc (y := (x4 + 1)) (ls2 := [some (.ref r0), some (.int x1), some (.int x2), some (.int x3), some (.int (x4 + 1))]) c79_33 rfl (Nat.le_of_ble_eq_true rfl) rfl rfl ?_
  refine qe_goto (t := 5) c79_36 rfl ?_
  exact kk
theorem b79_39 {d : Nat} {h : qH} {r0 : Nat} {x1 : Int32} {x2 : Int32} {x3 : Int32} {x4 : Int32}   : qE d 79 39 [some (.ref r0), some (.int x1), some (.int x2), some (.int x3), some (.int x4)] [] h (some (.int x3), h) := by
  refine qe_iload_n c79_39 rfl ?_
  exact qe_iret c79_40 qr79
theorem b80_0F {d : Nat} {q : Option Value × qH} {h : qH} {x0 : Int32} {x1 : Int32} {x2 : Int32}  (e1 : ¬ ((x0 : Int32) < x1)) (kk : qE d 80 5 [some (.int x0), some (.int x1), some (.int x2)] [] h q): qE d 80 0 [some (.int x0), some (.int x1), some (.int x2)] [] h q := by
  refine qe_iload_n c80_0 rfl ?_
  refine qe_iload_n c80_1 rfl ?_
  refine qe_icmp_gt_F (t := 14) c80_2 rfl e1 ?_
  exact kk
theorem b80_0T {d : Nat} {q : Option Value × qH} {h : qH} {x0 : Int32} {x1 : Int32} {x2 : Int32}  (e1 : (x0 : Int32) < x1) (kk : qE d 80 14 [some (.int x0), some (.int x1), some (.int x2)] [] h q): qE d 80 0 [some (.int x0), some (.int x1), some (.int x2)] [] h q := by
  refine qe_iload_n c80_0 rfl ?_
  refine qe_iload_n c80_1 rfl ?_
  refine qe_icmp_gt_T (t := 14) c80_2 rfl e1 ?_
  exact kk
theorem b80_5F {d : Nat} {q : Option Value × qH} {h : qH} {x0 : Int32} {x1 : Int32} {x2 : Int32}  (e1 : ¬ ((x2 : Int32) < x0)) (kk : qE d 80 10 [some (.int x0), some (.int x1), some (.int x2)] [] h q): qE d 80 5 [some (.int x0), some (.int x1), some (.int x2)] [] h q := by
  refine qe_iload_n c80_5 rfl ?_
  refine qe_iload_n c80_6 rfl ?_
  refine qe_icmp_gt_F (t := 14) c80_7 rfl e1 ?_
  exact kk
theorem b80_5T {d : Nat} {q : Option Value × qH} {h : qH} {x0 : Int32} {x1 : Int32} {x2 : Int32}  (e1 : (x2 : Int32) < x0) (kk : qE d 80 14 [some (.int x0), some (.int x1), some (.int x2)] [] h q): qE d 80 5 [some (.int x0), some (.int x1), some (.int x2)] [] h q := by
  refine qe_iload_n c80_5 rfl ?_
  refine qe_iload_n c80_6 rfl ?_
  refine qe_icmp_gt_T (t := 14) c80_7 rfl e1 ?_
  exact kk
theorem b80_10 {d : Nat} {q : Option Value × qH} {h : qH} {x0 : Int32} {x1 : Int32} {x2 : Int32}   (kk : qE d 80 15 [some (.int x0), some (.int x1), some (.int x2)] [.int 1] h q): qE d 80 10 [some (.int x0), some (.int x1), some (.int x2)] [] h q := by
  refine qe_iconst (x := 1) c80_10 (by decide) ?_
  refine qe_goto (t := 15) c80_11 rfl ?_
  exact kk
theorem b80_14 {d : Nat} {q : Option Value × qH} {h : qH} {x0 : Int32} {x1 : Int32} {x2 : Int32}   (kk : qE d 80 15 [some (.int x0), some (.int x1), some (.int x2)] [.int 0] h q): qE d 80 14 [some (.int x0), some (.int x1), some (.int x2)] [] h q := by
  refine qe_iconst (x := 0) c80_14 (by decide) ?_
  exact kk
theorem b80_15 {d : Nat} {h : qH} {x0 : Int32} {x1 : Int32} {x2 : Int32} {xs0 : Int32}  (e1 : (xs0 : Int32) = 0 ∨ (xs0 : Int32) = 1) : qE d 80 15 [some (.int x0), some (.int x1), some (.int x2)] [.int xs0] h (some (.int xs0), h) := by
  exact qe_zret c80_15 qr80 e1
theorem b81_0F {d : Nat} {q : Option Value × qH} {h : qH} {r0 : Nat} {x1 : Int32} {x2 : Int32} {x3 : Int32} {fs1 : List Value} {y3 : Nat} {fs5 : List Value} {y7 : Int32}  (e2 : h.2.2 r0 = some (.inr (11, fs1))) (e4 : fs1[1]? = some (.ref y3)) (e6 : h.2.2 y3 = some (.inr (8, fs5))) (e8 : fs5[0]? = some (.int y7)) (e9 : (y7 : Int32) = 0) (kk : qE d 81 10 [some (.ref r0), some (.int x1), some (.int x2), some (.int x3), none] [] h q): qE d 81 0 [some (.ref r0), some (.int x1), some (.int x2), some (.int x3), none] [] h q := by
  refine qe_aload_n c81_0 rfl ?_
  refine qe_getfield c81_1 qo81 qF11_19 e2 e4 ?_
  refine qe_getfield c81_4 qo81 qF11_97 e6 e8 ?_
  refine qe_if_ne_F (t := 58) c81_7 rfl e9 ?_
  exact kk
theorem b81_0T {d : Nat} {q : Option Value × qH} {h : qH} {r0 : Nat} {x1 : Int32} {x2 : Int32} {x3 : Int32} {fs1 : List Value} {y3 : Nat} {fs5 : List Value} {y7 : Int32}  (e2 : h.2.2 r0 = some (.inr (11, fs1))) (e4 : fs1[1]? = some (.ref y3)) (e6 : h.2.2 y3 = some (.inr (8, fs5))) (e8 : fs5[0]? = some (.int y7)) (e9 : ¬ ((y7 : Int32) = 0)) (kk : qE d 81 58 [some (.ref r0), some (.int x1), some (.int x2), some (.int x3), none] [] h q): qE d 81 0 [some (.ref r0), some (.int x1), some (.int x2), some (.int x3), none] [] h q := by
  refine qe_aload_n c81_0 rfl ?_
  refine qe_getfield c81_1 qo81 qF11_19 e2 e4 ?_
  refine qe_getfield c81_4 qo81 qF11_97 e6 e8 ?_
  refine qe_if_ne_T (t := 58) c81_7 rfl e9 ?_
  exact kk
theorem b81_10F {d : Nat} {q : Option Value × qH} {h : qH} {r0 : Nat} {x1 : Int32} {x2 : Int32} {x3 : Int32} {fs1 : List Value} {y3 : Nat} {fs5 : List Value} {y7 : Int32}  (e2 : h.2.2 r0 = some (.inr (11, fs1))) (e4 : fs1[0]? = some (.ref y3)) (e6 : h.2.2 y3 = some (.inr (4, fs5))) (e8 : fs5[2]? = some (.int y7)) (e9 : ¬ ((9 : Int32) ≤ y7)) (kk : qE d 81 22 [some (.ref r0), some (.int x1), some (.int x2), some (.int x3), none] [] h q): qE d 81 10 [some (.ref r0), some (.int x1), some (.int x2), some (.int x3), none] [] h q := by
  refine qe_aload_n c81_10 rfl ?_
  refine qe_getfield c81_11 qo81 qF11_10 e2 e4 ?_
  refine qe_getfield c81_14 qo81 qF11_130 e6 e8 ?_
  refine qe_bipush (x := 9) c81_17 (by decide) ?_
  refine qe_icmp_ge_F (t := 58) c81_19 rfl e9 ?_
  exact kk
theorem b81_10T {d : Nat} {q : Option Value × qH} {h : qH} {r0 : Nat} {x1 : Int32} {x2 : Int32} {x3 : Int32} {fs1 : List Value} {y3 : Nat} {fs5 : List Value} {y7 : Int32}  (e2 : h.2.2 r0 = some (.inr (11, fs1))) (e4 : fs1[0]? = some (.ref y3)) (e6 : h.2.2 y3 = some (.inr (4, fs5))) (e8 : fs5[2]? = some (.int y7)) (e9 : (9 : Int32) ≤ y7) (kk : qE d 81 58 [some (.ref r0), some (.int x1), some (.int x2), some (.int x3), none] [] h q): qE d 81 10 [some (.ref r0), some (.int x1), some (.int x2), some (.int x3), none] [] h q := by
  refine qe_aload_n c81_10 rfl ?_
  refine qe_getfield c81_11 qo81 qF11_10 e2 e4 ?_
  refine qe_getfield c81_14 qo81 qF11_130 e6 e8 ?_
  refine qe_bipush (x := 9) c81_17 (by decide) ?_
  refine qe_icmp_ge_T (t := 58) c81_19 rfl e9 ?_
  exact kk
theorem b81_22F {d : Nat} {q : Option Value × qH} {h : qH} {r0 : Nat} {x1 : Int32} {x2 : Int32} {x3 : Int32} {fs1 : List Value} {y3 : Nat} {fs5 : List Value} {h1 : qH} {z7 : Int32}  (e2 : h.2.2 r0 = some (.inr (11, fs1))) (e4 : fs1[0]? = some (.ref y3)) (e6 : h.2.2 y3 = some (.inr (4, fs5))) (e8 : qCall d 214 [.ref y3, .int x1] h ((some (.int z7)), h1)) (e9 : ¬ ((z7 : Int32) = 0)) (kk : qE d 81 33 [some (.ref r0), some (.int x1), some (.int x2), some (.int x3), none] [] h1 q): qE d 81 22 [some (.ref r0), some (.int x1), some (.int x2), some (.int x3), none] [] h q := by
  refine qe_aload_n c81_22 rfl ?_
  refine qe_getfield c81_23 qo81 qF11_10 e2 e4 ?_
  refine qe_iload_n c81_26 rfl ?_
  refine qe_virtual (b := y3) (as := [.int x1]) (r := []) (v := (some (.int z7))) (h2 := h1) c81_27 qo81 qK11_122 rfl rfl rfl (by rw [qo214]; exact e6) (Nat.le_of_ble_eq_true rfl) e8 ?_
  refine qe_if_eq_F (t := 58) c81_30 rfl e9 ?_
  exact kk
theorem b81_22T {d : Nat} {q : Option Value × qH} {h : qH} {r0 : Nat} {x1 : Int32} {x2 : Int32} {x3 : Int32} {fs1 : List Value} {y3 : Nat} {fs5 : List Value} {h1 : qH} {z7 : Int32}  (e2 : h.2.2 r0 = some (.inr (11, fs1))) (e4 : fs1[0]? = some (.ref y3)) (e6 : h.2.2 y3 = some (.inr (4, fs5))) (e8 : qCall d 214 [.ref y3, .int x1] h ((some (.int z7)), h1)) (e9 : (z7 : Int32) = 0) (kk : qE d 81 58 [some (.ref r0), some (.int x1), some (.int x2), some (.int x3), none] [] h1 q): qE d 81 22 [some (.ref r0), some (.int x1), some (.int x2), some (.int x3), none] [] h q := by
  refine qe_aload_n c81_22 rfl ?_
  refine qe_getfield c81_23 qo81 qF11_10 e2 e4 ?_
  refine qe_iload_n c81_26 rfl ?_
  refine qe_virtual (b := y3) (as := [.int x1]) (r := []) (v := (some (.int z7))) (h2 := h1) c81_27 qo81 qK11_122 rfl rfl rfl (by rw [qo214]; exact e6) (Nat.le_of_ble_eq_true rfl) e8 ?_
  refine qe_if_eq_T (t := 58) c81_30 rfl e9 ?_
  exact kk
theorem b81_33F {d : Nat} {q : Option Value × qH} {h : qH} {r0 : Nat} {x1 : Int32} {x2 : Int32} {x3 : Int32} {h1 : qH} {z1 : Int32}  (e2 : qCall d 80 [.int x2, .int 1, .int 5000] h ((some (.int z1)), h1)) (e3 : ¬ ((z1 : Int32) = 0)) (kk : qE d 81 44 [some (.ref r0), some (.int x1), some (.int x2), some (.int x3), none] [] h1 q): qE d 81 33 [some (.ref r0), some (.int x1), some (.int x2), some (.int x3), none] [] h q := by
  refine qe_iload_n c81_33 rfl ?_
  refine qe_iconst (x := 1) c81_34 (by decide) ?_
  refine qe_sipush (x := 5000) c81_35 (by decide) ?_
  refine qe_static (as := [.int x2, .int 1, .int 5000]) (r := []) (v := (some (.int z1))) (h2 := h1) c81_38 qo81 (by decide) qK11_108 rfl rfl rfl (Nat.le_of_ble_eq_true rfl) e2 ?_
  refine qe_if_eq_F (t := 58) c81_41 rfl e3 ?_
  exact kk
theorem b81_33T {d : Nat} {q : Option Value × qH} {h : qH} {r0 : Nat} {x1 : Int32} {x2 : Int32} {x3 : Int32} {h1 : qH} {z1 : Int32}  (e2 : qCall d 80 [.int x2, .int 1, .int 5000] h ((some (.int z1)), h1)) (e3 : (z1 : Int32) = 0) (kk : qE d 81 58 [some (.ref r0), some (.int x1), some (.int x2), some (.int x3), none] [] h1 q): qE d 81 33 [some (.ref r0), some (.int x1), some (.int x2), some (.int x3), none] [] h q := by
  refine qe_iload_n c81_33 rfl ?_
  refine qe_iconst (x := 1) c81_34 (by decide) ?_
  refine qe_sipush (x := 5000) c81_35 (by decide) ?_
  refine qe_static (as := [.int x2, .int 1, .int 5000]) (r := []) (v := (some (.int z1))) (h2 := h1) c81_38 qo81 (by decide) qK11_108 rfl rfl rfl (Nat.le_of_ble_eq_true rfl) e2 ?_
  refine qe_if_eq_T (t := 58) c81_41 rfl e3 ?_
  exact kk
theorem b81_44F {d : Nat} {q : Option Value × qH} {h : qH} {r0 : Nat} {x1 : Int32} {x2 : Int32} {x3 : Int32} {h1 : qH} {z1 : Int32}  (e2 : qCall d 80 [.int x3, .int 0, .int 99] h ((some (.int z1)), h1)) (e3 : ¬ ((z1 : Int32) = 0)) (kk : qE d 81 54 [some (.ref r0), some (.int x1), some (.int x2), some (.int x3), none] [] h1 q): qE d 81 44 [some (.ref r0), some (.int x1), some (.int x2), some (.int x3), none] [] h q := by
  refine qe_iload_n c81_44 rfl ?_
  refine qe_iconst (x := 0) c81_45 (by decide) ?_
  refine qe_bipush (x := 99) c81_46 (by decide) ?_
  refine qe_static (as := [.int x3, .int 0, .int 99]) (r := []) (v := (some (.int z1))) (h2 := h1) c81_48 qo81 (by decide) qK11_108 rfl rfl rfl (Nat.le_of_ble_eq_true rfl) e2 ?_
  refine qe_if_eq_F (t := 58) c81_51 rfl e3 ?_
  exact kk
theorem b81_44T {d : Nat} {q : Option Value × qH} {h : qH} {r0 : Nat} {x1 : Int32} {x2 : Int32} {x3 : Int32} {h1 : qH} {z1 : Int32}  (e2 : qCall d 80 [.int x3, .int 0, .int 99] h ((some (.int z1)), h1)) (e3 : (z1 : Int32) = 0) (kk : qE d 81 58 [some (.ref r0), some (.int x1), some (.int x2), some (.int x3), none] [] h1 q): qE d 81 44 [some (.ref r0), some (.int x1), some (.int x2), some (.int x3), none] [] h q := by
  refine qe_iload_n c81_44 rfl ?_
  refine qe_iconst (x := 0) c81_45 (by decide) ?_
  refine qe_bipush (x := 99) c81_46 (by decide) ?_
  refine qe_static (as := [.int x3, .int 0, .int 99]) (r := []) (v := (some (.int z1))) (h2 := h1) c81_48 qo81 (by decide) qK11_108 rfl rfl rfl (Nat.le_of_ble_eq_true rfl) e2 ?_
  refine qe_if_eq_T (t := 58) c81_51 rfl e3 ?_
  exact kk
theorem b81_54 {d : Nat} {q : Option Value × qH} {h : qH} {r0 : Nat} {x1 : Int32} {x2 : Int32} {x3 : Int32}   (kk : qE d 81 59 [some (.ref r0), some (.int x1), some (.int x2), some (.int x3), none] [.int 1] h q): qE d 81 54 [some (.ref r0), some (.int x1), some (.int x2), some (.int x3), none] [] h q := by
  refine qe_iconst (x := 1) c81_54 (by decide) ?_
  refine qe_goto (t := 59) c81_55 rfl ?_
  exact kk
theorem b81_58 {d : Nat} {q : Option Value × qH} {h : qH} {r0 : Nat} {x1 : Int32} {x2 : Int32} {x3 : Int32}   (kk : qE d 81 59 [some (.ref r0), some (.int x1), some (.int x2), some (.int x3), none] [.int 0] h q): qE d 81 58 [some (.ref r0), some (.int x1), some (.int x2), some (.int x3), none] [] h q := by
  refine qe_iconst (x := 0) c81_58 (by decide) ?_
  exact kk
theorem b81_59F {d : Nat} {q : Option Value × qH} {h : qH} {r0 : Nat} {x1 : Int32} {x2 : Int32} {x3 : Int32} {xs0 : Int32}  (e1 : (xs0 : Int32) = 0) (kk : qE d 81 66 [some (.ref r0), some (.int x1), some (.int x2), some (.int x3), some (.int xs0)] [] h q): qE d 81 59 [some (.ref r0), some (.int x1), some (.int x2), some (.int x3), none] [.int xs0] h q := by
  refine qe_istore (ls2 := [some (.ref r0), some (.int x1), some (.int x2), some (.int x3), some (.int xs0)]) c81_59 (Nat.le_of_ble_eq_true rfl) rfl ?_
  refine qe_iload c81_61 rfl ?_
  refine qe_if_ne_F (t := 68) c81_63 rfl e1 ?_
  exact kk
theorem b81_59T {d : Nat} {q : Option Value × qH} {h : qH} {r0 : Nat} {x1 : Int32} {x2 : Int32} {x3 : Int32} {xs0 : Int32}  (e1 : ¬ ((xs0 : Int32) = 0)) (kk : qE d 81 68 [some (.ref r0), some (.int x1), some (.int x2), some (.int x3), some (.int xs0)] [] h q): qE d 81 59 [some (.ref r0), some (.int x1), some (.int x2), some (.int x3), none] [.int xs0] h q := by
  refine qe_istore (ls2 := [some (.ref r0), some (.int x1), some (.int x2), some (.int x3), some (.int xs0)]) c81_59 (Nat.le_of_ble_eq_true rfl) rfl ?_
  refine qe_iload c81_61 rfl ?_
  refine qe_if_ne_T (t := 68) c81_63 rfl e1 ?_
  exact kk
theorem b81_66 {d : Nat} {h : qH} {r0 : Nat} {x1 : Int32} {x2 : Int32} {x3 : Int32} {x4 : Int32}   : qE d 81 66 [some (.ref r0), some (.int x1), some (.int x2), some (.int x3), some (.int x4)] [] h (some (.int (-1)), h) := by
  refine qe_iconst (x := (-1)) c81_66 (by decide) ?_
  exact qe_iret c81_67 qr81
theorem b81_68 {d : Nat} {h : qH} {r0 : Nat} {x1 : Int32} {x2 : Int32} {x3 : Int32} {x4 : Int32} {fs1 : List Value} {y3 : Nat} {fs5 : List Value} {y7 : Int32} {y9 : Nat} {fs11 : List Value} {y13 : Int32} {h1 : qH} {fs17 : List Value} {y19 : Nat} {fs21 : List Value} {h2 : qH} {z23 : Int32}  (e2 : h.2.2 r0 = some (.inr (11, fs1))) (e4 : fs1[1]? = some (.ref y3)) (e6 : h.2.2 y3 = some (.inr (8, fs5))) (e8 : fs5[2]? = some (.int y7)) (e10 : fs1[0]? = some (.ref y9)) (e12 : h.2.2 y9 = some (.inr (4, fs11))) (e14 : fs11[2]? = some (.int y13)) (e15 : 2 < fs5.length) (e16 : qset h y3 (.inr (8, fs5.set 2 (.int (y7 ||| (1 <<< (y13 &&& 31)))))) = h1) (e18 : h1.2.2 r0 = some (.inr (11, fs17))) (e20 : fs17[0]? = some (.ref y19)) (e22 : h1.2.2 y19 = some (.inr (4, fs21))) (e24 : qCall d 212 [.ref y19, .int x1, .int x2, .int x3] h1 ((some (.int z23)), h2)) : qE d 81 68 [some (.ref r0), some (.int x1), some (.int x2), some (.int x3), some (.int x4)] [] h (some (.int z23), h2) := by
  refine qe_aload_n c81_68 rfl ?_
  refine qe_getfield c81_69 qo81 qF11_19 e2 e4 ?_
  refine qe_dup c81_72 rfl ?_
  refine qe_getfield c81_73 qo81 qF11_133 e6 e8 ?_
  refine qe_iconst (x := 1) c81_76 (by decide) ?_
  refine qe_aload_n c81_77 rfl ?_
  refine qe_getfield c81_78 qo81 qF11_10 e2 e10 ?_
  refine qe_getfield c81_81 qo81 qF11_130 e12 e14 ?_
  refine qe_ishl c81_84 ?_
  refine qe_ior c81_85 ?_
  refine qe_putfield c81_86 qo81 qF11_133 qz8_2 e6 e15 (by rw [qy8_2]; rfl) ?_
  rw [e16]
  refine qe_aload_n c81_89 rfl ?_
  refine qe_getfield c81_90 qo81 qF11_10 e18 e20 ?_
  refine qe_iload_n c81_93 rfl ?_
  refine qe_iload_n c81_94 rfl ?_
  refine qe_iload_n c81_95 rfl ?_
  refine qe_virtual (b := y19) (as := [.int x1, .int x2, .int x3]) (r := []) (v := (some (.int z23))) (h2 := h2) c81_96 qo81 qK11_136 rfl rfl rfl (by rw [qo212]; exact e22) (Nat.le_of_ble_eq_true rfl) e24 ?_
  exact qe_iret c81_99 qr81
theorem b82_0F {d : Nat} {q : Option Value × qH} {h : qH} {r0 : Nat} {x1 : Int32} {x2 : Int32} {fs1 : List Value} {y3 : Nat} {fs5 : List Value} {h1 : qH} {z7 : Int32}  (e2 : h.2.2 r0 = some (.inr (11, fs1))) (e4 : fs1[0]? = some (.ref y3)) (e6 : h.2.2 y3 = some (.inr (4, fs5))) (e8 : qCall d 216 [.ref y3, .int x1] h ((some (.int z7)), h1)) (e9 : (z7 : Int32) = 0) (kk : qE d 82 11 [some (.ref r0), some (.int x1), some (.int x2)] [] h1 q): qE d 82 0 [some (.ref r0), some (.int x1), some (.int x2)] [] h q := by
  refine qe_aload_n c82_0 rfl ?_
  refine qe_getfield c82_1 qo82 qF11_10 e2 e4 ?_
  refine qe_iload_n c82_4 rfl ?_
  refine qe_virtual (b := y3) (as := [.int x1]) (r := []) (v := (some (.int z7))) (h2 := h1) c82_5 qo82 qK11_152 rfl rfl rfl (by rw [qo216]; exact e6) (Nat.le_of_ble_eq_true rfl) e8 ?_
  refine qe_if_ne_F (t := 13) c82_8 rfl e9 ?_
  exact kk
theorem b82_0T {d : Nat} {q : Option Value × qH} {h : qH} {r0 : Nat} {x1 : Int32} {x2 : Int32} {fs1 : List Value} {y3 : Nat} {fs5 : List Value} {h1 : qH} {z7 : Int32}  (e2 : h.2.2 r0 = some (.inr (11, fs1))) (e4 : fs1[0]? = some (.ref y3)) (e6 : h.2.2 y3 = some (.inr (4, fs5))) (e8 : qCall d 216 [.ref y3, .int x1] h ((some (.int z7)), h1)) (e9 : ¬ ((z7 : Int32) = 0)) (kk : qE d 82 13 [some (.ref r0), some (.int x1), some (.int x2)] [] h1 q): qE d 82 0 [some (.ref r0), some (.int x1), some (.int x2)] [] h q := by
  refine qe_aload_n c82_0 rfl ?_
  refine qe_getfield c82_1 qo82 qF11_10 e2 e4 ?_
  refine qe_iload_n c82_4 rfl ?_
  refine qe_virtual (b := y3) (as := [.int x1]) (r := []) (v := (some (.int z7))) (h2 := h1) c82_5 qo82 qK11_152 rfl rfl rfl (by rw [qo216]; exact e6) (Nat.le_of_ble_eq_true rfl) e8 ?_
  refine qe_if_ne_T (t := 13) c82_8 rfl e9 ?_
  exact kk
theorem b82_11 {d : Nat} {h : qH} {r0 : Nat} {x1 : Int32} {x2 : Int32}   : qE d 82 11 [some (.ref r0), some (.int x1), some (.int x2)] [] h (some (.int (-1)), h) := by
  refine qe_iconst (x := (-1)) c82_11 (by decide) ?_
  exact qe_iret c82_12 qr82
theorem b82_13F {d : Nat} {q : Option Value × qH} {h : qH} {r0 : Nat} {x1 : Int32} {x2 : Int32}  (e1 : (x2 : Int32) = 0) (kk : qE d 82 17 [some (.ref r0), some (.int x1), some (.int x2)] [] h q): qE d 82 13 [some (.ref r0), some (.int x1), some (.int x2)] [] h q := by
  refine qe_iload_n c82_13 rfl ?_
  refine qe_if_ne_F (t := 34) c82_14 rfl e1 ?_
  exact kk
theorem b82_13T {d : Nat} {q : Option Value × qH} {h : qH} {r0 : Nat} {x1 : Int32} {x2 : Int32}  (e1 : ¬ ((x2 : Int32) = 0)) (kk : qE d 82 34 [some (.ref r0), some (.int x1), some (.int x2)] [] h q): qE d 82 13 [some (.ref r0), some (.int x1), some (.int x2)] [] h q := by
  refine qe_iload_n c82_13 rfl ?_
  refine qe_if_ne_T (t := 34) c82_14 rfl e1 ?_
  exact kk
theorem b82_17F {d : Nat} {q : Option Value × qH} {h : qH} {r0 : Nat} {x1 : Int32} {x2 : Int32} {fs1 : List Value} {y3 : Nat} {fs5 : List Value} {h1 : qH} {z7 : Int32}  (e2 : h.2.2 r0 = some (.inr (11, fs1))) (e4 : fs1[1]? = some (.ref y3)) (e6 : h.2.2 y3 = some (.inr (8, fs5))) (e8 : qCall d 245 [.ref y3, .int x1] h ((some (.int z7)), h1)) (e9 : ¬ ((z7 : Int32) = 0)) (kk : qE d 82 28 [some (.ref r0), some (.int x1), some (.int x2)] [] h1 q): qE d 82 17 [some (.ref r0), some (.int x1), some (.int x2)] [] h q := by
  refine qe_aload_n c82_17 rfl ?_
  refine qe_getfield c82_18 qo82 qF11_19 e2 e4 ?_
  refine qe_iload_n c82_21 rfl ?_
  refine qe_virtual (b := y3) (as := [.int x1]) (r := []) (v := (some (.int z7))) (h2 := h1) c82_22 qo82 qK11_155 rfl rfl rfl (by rw [qo245]; exact e6) (Nat.le_of_ble_eq_true rfl) e8 ?_
  refine qe_if_eq_F (t := 32) c82_25 rfl e9 ?_
  exact kk
theorem b82_17T {d : Nat} {q : Option Value × qH} {h : qH} {r0 : Nat} {x1 : Int32} {x2 : Int32} {fs1 : List Value} {y3 : Nat} {fs5 : List Value} {h1 : qH} {z7 : Int32}  (e2 : h.2.2 r0 = some (.inr (11, fs1))) (e4 : fs1[1]? = some (.ref y3)) (e6 : h.2.2 y3 = some (.inr (8, fs5))) (e8 : qCall d 245 [.ref y3, .int x1] h ((some (.int z7)), h1)) (e9 : (z7 : Int32) = 0) (kk : qE d 82 32 [some (.ref r0), some (.int x1), some (.int x2)] [] h1 q): qE d 82 17 [some (.ref r0), some (.int x1), some (.int x2)] [] h q := by
  refine qe_aload_n c82_17 rfl ?_
  refine qe_getfield c82_18 qo82 qF11_19 e2 e4 ?_
  refine qe_iload_n c82_21 rfl ?_
  refine qe_virtual (b := y3) (as := [.int x1]) (r := []) (v := (some (.int z7))) (h2 := h1) c82_22 qo82 qK11_155 rfl rfl rfl (by rw [qo245]; exact e6) (Nat.le_of_ble_eq_true rfl) e8 ?_
  refine qe_if_eq_T (t := 32) c82_25 rfl e9 ?_
  exact kk
theorem b82_28 {d : Nat} {q : Option Value × qH} {h : qH} {r0 : Nat} {x1 : Int32} {x2 : Int32}   (kk : qE d 82 33 [some (.ref r0), some (.int x1), some (.int x2)] [.int 1] h q): qE d 82 28 [some (.ref r0), some (.int x1), some (.int x2)] [] h q := by
  refine qe_iconst (x := 1) c82_28 (by decide) ?_
  refine qe_goto (t := 33) c82_29 rfl ?_
  exact kk
theorem b82_32 {d : Nat} {q : Option Value × qH} {h : qH} {r0 : Nat} {x1 : Int32} {x2 : Int32}   (kk : qE d 82 33 [some (.ref r0), some (.int x1), some (.int x2)] [.int 0] h q): qE d 82 32 [some (.ref r0), some (.int x1), some (.int x2)] [] h q := by
  refine qe_iconst (x := 0) c82_32 (by decide) ?_
  exact kk
theorem b82_33 {d : Nat} {h : qH} {r0 : Nat} {x1 : Int32} {x2 : Int32} {xs0 : Int32}   : qE d 82 33 [some (.ref r0), some (.int x1), some (.int x2)] [.int xs0] h (some (.int xs0), h) := by
  exact qe_iret c82_33 qr82
theorem b82_34F {d : Nat} {q : Option Value × qH} {h : qH} {r0 : Nat} {x1 : Int32} {x2 : Int32}  (e1 : (x2 : Int32) = 1) (kk : qE d 82 39 [some (.ref r0), some (.int x1), some (.int x2)] [] h q): qE d 82 34 [some (.ref r0), some (.int x1), some (.int x2)] [] h q := by
  refine qe_iload_n c82_34 rfl ?_
  refine qe_iconst (x := 1) c82_35 (by decide) ?_
  refine qe_icmp_ne_F (t := 64) c82_36 rfl e1 ?_
  exact kk
theorem b82_34T {d : Nat} {q : Option Value × qH} {h : qH} {r0 : Nat} {x1 : Int32} {x2 : Int32}  (e1 : ¬ ((x2 : Int32) = 1)) (kk : qE d 82 64 [some (.ref r0), some (.int x1), some (.int x2)] [] h q): qE d 82 34 [some (.ref r0), some (.int x1), some (.int x2)] [] h q := by
  refine qe_iload_n c82_34 rfl ?_
  refine qe_iconst (x := 1) c82_35 (by decide) ?_
  refine qe_icmp_ne_T (t := 64) c82_36 rfl e1 ?_
  exact kk
theorem b82_39 {d : Nat} {h : qH} {r0 : Nat} {x1 : Int32} {x2 : Int32} {fs1 : List Value} {y3 : Nat} {y5 : Nat} {y7 : Nat} {fs9 : List Value} {h1 : qH} {fs12 : List Value} {y14 : Nat} {fs16 : List Value} {y18 : Nat} {n20 : Nat} {f21 : Nat → Int32}  (e2 : h.2.2 r0 = some (.inr (11, fs1))) (e4 : fs1[4]? = some (.ref y3)) (e6 : fs1[0]? = some (.ref y5)) (e8 : fs1[1]? = some (.ref y7)) (e10 : h.2.2 y3 = some (.inr (7, fs9))) (e11 : qCall d 238 [.ref y3, .ref y5, .ref y7] h (none, h1)) (e13 : h1.2.2 r0 = some (.inr (11, fs12))) (e15 : fs12[4]? = some (.ref y14)) (e17 : h1.2.2 y14 = some (.inr (7, fs16))) (e19 : fs16[6]? = some (.ref y18)) (e22 : h1.2.2 y18 = some (.inl (0, n20, .inl f21))) (e23 : 0 ≤ (x1 : Int32).toInt ∧ (x1 : Int32).toInt < (n20 : Nat)) : qE d 82 39 [some (.ref r0), some (.int x1), some (.int x2)] [] h (some (.int (f21 (x1 : Int32).toNatClampNeg)), h1) := by
  refine qe_aload_n c82_39 rfl ?_
  refine qe_getfield c82_40 qo82 qF11_34 e2 e4 ?_
  refine qe_aload_n c82_43 rfl ?_
  refine qe_getfield c82_44 qo82 qF11_10 e2 e6 ?_
  refine qe_aload_n c82_47 rfl ?_
  refine qe_getfield c82_48 qo82 qF11_19 e2 e8 ?_
  refine qe_virtual (b := y3) (as := [.ref y5, .ref y7]) (r := []) (v := none) (h2 := h1) c82_51 qo82 qK11_217 rfl rfl rfl (by rw [qo238]; exact e10) (Nat.le_of_ble_eq_true rfl) e11 ?_
  refine qe_aload_n c82_54 rfl ?_
  refine qe_getfield c82_55 qo82 qF11_34 e13 e15 ?_
  refine qe_getfield c82_58 qo82 qF11_232 e17 e19 ?_
  refine qe_iload_n c82_61 rfl ?_
  refine qe_iaload c82_62 e22 e23 ?_
  exact qe_iret c82_63 qr82
theorem b82_64 {d : Nat} {h : qH} {r0 : Nat} {x1 : Int32} {x2 : Int32}   : qE d 82 64 [some (.ref r0), some (.int x1), some (.int x2)] [] h (some (.int (-1)), h) := by
  refine qe_iconst (x := (-1)) c82_64 (by decide) ?_
  exact qe_iret c82_65 qr82
