/-! What each piece of the code does, from a place to the next. -/
theorem b0_0 {d : Nat} {q : Option Value × qH} {h : qH} {r0 : Nat} {h1 : qH} {h2 : qH} {h3 : qH} {h4 : qH}  (e1 : qnew h 14 (.inr (11, [.null, .null, .null, .null, .null, .null, .null, .null, .null, .null, .null, .null, .null, .null])) = h1) (e2 : qCall d 55 [.ref h.1] h1 (none, h2)) (e3 : qnew h2 80 (.inr (12, [.null, .int 0, .int 0, .int 0, .int 0, .int 0, .int 0, .int 0, .int 0, .int 0, .null, .null, .null, .null, .null, .null, .null, .null, .null, .null, .null, .null, .null, .null, .null, .null, .null, .null, .null, .int 0, .null, .null, .null, .null, .null, .null, .null, .null, .null, .null, .null, .null, .null, .null, .int 0, .int 0, .int 0, .int 0, .int 0, .int 0, .int 0, .int 0, .int 0, .null, .int 0, .int 0, .int 0, .null, .null, .int 0, .null, .null, .null, .null, .null, .null, .null, .null, .null, .null, .null, .null, .null, .null, .null, .null, .null, .null, .null, .null])) = h3) (e4 : qCall d 123 [.ref h2.1] h3 (none, h4)) (kk : qE d 0 18 [some (.ref r0), some (.ref h.1), some (.ref h2.1), some (.int 0)] [] h4 q): qE d 0 0 [some (.ref r0), none, none, none] [] h q := by
  refine qe_new (fs := [.null, .null, .null, .null, .null, .null, .null, .null, .null, .null, .null, .null, .null, .null]) (N := 14) c0_0 qo0 qN13_7 (by decide +kernel) (by decide +kernel) ?_
  rw [e1]
  refine qe_dup c0_3 rfl ?_
  refine qe_special (b := h.1) (as := []) (r := [.ref h.1]) (v := none) (h2 := h2) c0_4 qo0 (by decide +kernel) qK13_9 rfl ⟨rfl, Or.inl rfl⟩ rfl (Nat.le_of_ble_eq_true rfl) e2 ?_
  refine qe_astore_n (ls2 := [some (.ref r0), some (.ref h.1), none, none]) c0_7 (Nat.le_of_ble_eq_true rfl) rfl ?_
  refine qe_new (fs := [.null, .int 0, .int 0, .int 0, .int 0, .int 0, .int 0, .int 0, .int 0, .int 0, .null, .null, .null, .null, .null, .null, .null, .null, .null, .null, .null, .null, .null, .null, .null, .null, .null, .null, .null, .int 0, .null, .null, .null, .null, .null, .null, .null, .null, .null, .null, .null, .null, .null, .null, .int 0, .int 0, .int 0, .int 0, .int 0, .int 0, .int 0, .int 0, .int 0, .null, .int 0, .int 0, .int 0, .null, .null, .int 0, .null, .null, .null, .null, .null, .null, .null, .null, .null, .null, .null, .null, .null, .null, .null, .null, .null, .null, .null, .null]) (N := 80) c0_8 qo0 qN13_10 (by decide +kernel) (by decide +kernel) ?_
  rw [e3]
  refine qe_dup c0_11 rfl ?_
  refine qe_special (b := h2.1) (as := []) (r := [.ref h2.1]) (v := none) (h2 := h4) c0_12 qo0 (by decide +kernel) qK13_12 rfl ⟨rfl, Or.inl rfl⟩ rfl (Nat.le_of_ble_eq_true rfl) e4 ?_
  refine qe_astore_n (ls2 := [some (.ref r0), some (.ref h.1), some (.ref h2.1), none]) c0_15 (Nat.le_of_ble_eq_true rfl) rfl ?_
  refine qe_iconst (x := 0) c0_16 (by decide) ?_
  refine qe_istore_n (ls2 := [some (.ref r0), some (.ref h.1), some (.ref h2.1), some (.int 0)]) c0_17 (Nat.le_of_ble_eq_true rfl) rfl ?_
  exact kk
theorem b0_18F {d : Nat} {q : Option Value × qH} {h : qH} {r0 : Nat} {r1 : Nat} {r2 : Nat} {x3 : Int32} {n1 : Nat} {f2 : Nat → Int32}  (e3 : h.2.2 r0 = some (.inl (8, n1, .inl f2))) (e4 : ¬ ((((Int32.ofNat n1) - 6) : Int32) < x3)) (kk : qE d 0 27 [some (.ref r0), some (.ref r1), some (.ref r2), some (.int x3)] [] h q): qE d 0 18 [some (.ref r0), some (.ref r1), some (.ref r2), some (.int x3)] [] h q := by
  refine qe_iload_n c0_18 rfl ?_
  refine qe_aload_n c0_19 rfl ?_
  refine qe_arraylength c0_20 e3 ?_
  refine qe_bipush (x := 6) c0_21 (by decide) ?_
  refine qe_isub c0_23 ?_
  refine qe_icmp_gt_F (t := 1469) c0_24 rfl e4 ?_
  exact kk
theorem b0_18T {d : Nat} {q : Option Value × qH} {h : qH} {r0 : Nat} {r1 : Nat} {r2 : Nat} {x3 : Int32} {n1 : Nat} {f2 : Nat → Int32}  (e3 : h.2.2 r0 = some (.inl (8, n1, .inl f2))) (e4 : (((Int32.ofNat n1) - 6) : Int32) < x3) (kk : qE d 0 1469 [some (.ref r0), some (.ref r1), some (.ref r2), some (.int x3)] [] h q): qE d 0 18 [some (.ref r0), some (.ref r1), some (.ref r2), some (.int x3)] [] h q := by
  refine qe_iload_n c0_18 rfl ?_
  refine qe_aload_n c0_19 rfl ?_
  refine qe_arraylength c0_20 e3 ?_
  refine qe_bipush (x := 6) c0_21 (by decide) ?_
  refine qe_isub c0_23 ?_
  refine qe_icmp_gt_T (t := 1469) c0_24 rfl e4 ?_
  exact kk
theorem b0_27D {d : Nat} {q : Option Value × qH} {h : qH} {r0 : Nat} {r1 : Nat} {r2 : Nat} {x3 : Int32} {n1 : Nat} {f2 : Nat → Int32}  (e3 : h.2.2 r0 = some (.inl (8, n1, .inl f2))) (e4 : 0 ≤ (x3 : Int32).toInt ∧ (x3 : Int32).toInt < (n1 : Nat)) (e5 : (((f2 (x3 : Int32).toNatClampNeg) &&& 63) : Int32).toInt < 0 ∨ 35 < (((f2 (x3 : Int32).toNatClampNeg) &&& 63) : Int32).toInt) (kk : qE d 0 1463 [some (.ref r0), some (.ref r1), some (.ref r2), some (.int x3)] [] h q): qE d 0 27 [some (.ref r0), some (.ref r1), some (.ref r2), some (.int x3)] [] h q := by
  refine qe_aload_n c0_27 rfl ?_
  refine qe_iload_n c0_28 rfl ?_
  refine qe_script c0_29 e3 e4 ?_
  refine qe_bipush (x := 63) c0_30 (by decide) ?_
  refine qe_iand c0_32 ?_
  refine qe_tableD (t := 1463) c0_33 e5 rfl ?_
  exact kk
theorem b0_27s35 {d : Nat} {q : Option Value × qH} {h : qH} {r0 : Nat} {r1 : Nat} {r2 : Nat} {x3 : Int32} {n1 : Nat} {f2 : Nat → Int32}  (e3 : h.2.2 r0 = some (.inl (8, n1, .inl f2))) (e4 : 0 ≤ (x3 : Int32).toInt ∧ (x3 : Int32).toInt < (n1 : Nat)) (e5 : (((f2 (x3 : Int32).toNatClampNeg) &&& 63) : Int32).toInt = 35) (kk : qE d 0 1440 [some (.ref r0), some (.ref r1), some (.ref r2), some (.int x3)] [] h q): qE d 0 27 [some (.ref r0), some (.ref r1), some (.ref r2), some (.int x3)] [] h q := by
  refine qe_aload_n c0_27 rfl ?_
  refine qe_iload_n c0_28 rfl ?_
  refine qe_script c0_29 e3 e4 ?_
  refine qe_bipush (x := 63) c0_30 (by decide) ?_
  refine qe_iand c0_32 ?_
  refine qe_table (off := 1407) (t := 1440) c0_33 (by rw [e5]; decide) (by rw [e5]; decide) rfl ?_
  exact kk
theorem b0_27s34 {d : Nat} {q : Option Value × qH} {h : qH} {r0 : Nat} {r1 : Nat} {r2 : Nat} {x3 : Int32} {n1 : Nat} {f2 : Nat → Int32}  (e3 : h.2.2 r0 = some (.inl (8, n1, .inl f2))) (e4 : 0 ≤ (x3 : Int32).toInt ∧ (x3 : Int32).toInt < (n1 : Nat)) (e5 : (((f2 (x3 : Int32).toNatClampNeg) &&& 63) : Int32).toInt = 34) (kk : qE d 0 1417 [some (.ref r0), some (.ref r1), some (.ref r2), some (.int x3)] [] h q): qE d 0 27 [some (.ref r0), some (.ref r1), some (.ref r2), some (.int x3)] [] h q := by
  refine qe_aload_n c0_27 rfl ?_
  refine qe_iload_n c0_28 rfl ?_
  refine qe_script c0_29 e3 e4 ?_
  refine qe_bipush (x := 63) c0_30 (by decide) ?_
  refine qe_iand c0_32 ?_
  refine qe_table (off := 1384) (t := 1417) c0_33 (by rw [e5]; decide) (by rw [e5]; decide) rfl ?_
  exact kk
theorem b0_27s33 {d : Nat} {q : Option Value × qH} {h : qH} {r0 : Nat} {r1 : Nat} {r2 : Nat} {x3 : Int32} {n1 : Nat} {f2 : Nat → Int32}  (e3 : h.2.2 r0 = some (.inl (8, n1, .inl f2))) (e4 : 0 ≤ (x3 : Int32).toInt ∧ (x3 : Int32).toInt < (n1 : Nat)) (e5 : (((f2 (x3 : Int32).toNatClampNeg) &&& 63) : Int32).toInt = 33) (kk : qE d 0 1374 [some (.ref r0), some (.ref r1), some (.ref r2), some (.int x3)] [] h q): qE d 0 27 [some (.ref r0), some (.ref r1), some (.ref r2), some (.int x3)] [] h q := by
  refine qe_aload_n c0_27 rfl ?_
  refine qe_iload_n c0_28 rfl ?_
  refine qe_script c0_29 e3 e4 ?_
  refine qe_bipush (x := 63) c0_30 (by decide) ?_
  refine qe_iand c0_32 ?_
  refine qe_table (off := 1341) (t := 1374) c0_33 (by rw [e5]; decide) (by rw [e5]; decide) rfl ?_
  exact kk
theorem b0_27s32 {d : Nat} {q : Option Value × qH} {h : qH} {r0 : Nat} {r1 : Nat} {r2 : Nat} {x3 : Int32} {n1 : Nat} {f2 : Nat → Int32}  (e3 : h.2.2 r0 = some (.inl (8, n1, .inl f2))) (e4 : 0 ≤ (x3 : Int32).toInt ∧ (x3 : Int32).toInt < (n1 : Nat)) (e5 : (((f2 (x3 : Int32).toNatClampNeg) &&& 63) : Int32).toInt = 32) (kk : qE d 0 1341 [some (.ref r0), some (.ref r1), some (.ref r2), some (.int x3)] [] h q): qE d 0 27 [some (.ref r0), some (.ref r1), some (.ref r2), some (.int x3)] [] h q := by
  refine qe_aload_n c0_27 rfl ?_
  refine qe_iload_n c0_28 rfl ?_
  refine qe_script c0_29 e3 e4 ?_
  refine qe_bipush (x := 63) c0_30 (by decide) ?_
  refine qe_iand c0_32 ?_
  refine qe_table (off := 1308) (t := 1341) c0_33 (by rw [e5]; decide) (by rw [e5]; decide) rfl ?_
  exact kk
theorem b0_27s31 {d : Nat} {q : Option Value × qH} {h : qH} {r0 : Nat} {r1 : Nat} {r2 : Nat} {x3 : Int32} {n1 : Nat} {f2 : Nat → Int32}  (e3 : h.2.2 r0 = some (.inl (8, n1, .inl f2))) (e4 : 0 ≤ (x3 : Int32).toInt ∧ (x3 : Int32).toInt < (n1 : Nat)) (e5 : (((f2 (x3 : Int32).toNatClampNeg) &&& 63) : Int32).toInt = 31) (kk : qE d 0 1317 [some (.ref r0), some (.ref r1), some (.ref r2), some (.int x3)] [] h q): qE d 0 27 [some (.ref r0), some (.ref r1), some (.ref r2), some (.int x3)] [] h q := by
  refine qe_aload_n c0_27 rfl ?_
  refine qe_iload_n c0_28 rfl ?_
  refine qe_script c0_29 e3 e4 ?_
  refine qe_bipush (x := 63) c0_30 (by decide) ?_
  refine qe_iand c0_32 ?_
  refine qe_table (off := 1284) (t := 1317) c0_33 (by rw [e5]; decide) (by rw [e5]; decide) rfl ?_
  exact kk
theorem b0_27s30 {d : Nat} {q : Option Value × qH} {h : qH} {r0 : Nat} {r1 : Nat} {r2 : Nat} {x3 : Int32} {n1 : Nat} {f2 : Nat → Int32}  (e3 : h.2.2 r0 = some (.inl (8, n1, .inl f2))) (e4 : 0 ≤ (x3 : Int32).toInt ∧ (x3 : Int32).toInt < (n1 : Nat)) (e5 : (((f2 (x3 : Int32).toNatClampNeg) &&& 63) : Int32).toInt = 30) (kk : qE d 0 1258 [some (.ref r0), some (.ref r1), some (.ref r2), some (.int x3)] [] h q): qE d 0 27 [some (.ref r0), some (.ref r1), some (.ref r2), some (.int x3)] [] h q := by
  refine qe_aload_n c0_27 rfl ?_
  refine qe_iload_n c0_28 rfl ?_
  refine qe_script c0_29 e3 e4 ?_
  refine qe_bipush (x := 63) c0_30 (by decide) ?_
  refine qe_iand c0_32 ?_
  refine qe_table (off := 1225) (t := 1258) c0_33 (by rw [e5]; decide) (by rw [e5]; decide) rfl ?_
  exact kk
theorem b0_27s29 {d : Nat} {q : Option Value × qH} {h : qH} {r0 : Nat} {r1 : Nat} {r2 : Nat} {x3 : Int32} {n1 : Nat} {f2 : Nat → Int32}  (e3 : h.2.2 r0 = some (.inl (8, n1, .inl f2))) (e4 : 0 ≤ (x3 : Int32).toInt ∧ (x3 : Int32).toInt < (n1 : Nat)) (e5 : (((f2 (x3 : Int32).toNatClampNeg) &&& 63) : Int32).toInt = 29) (kk : qE d 0 1225 [some (.ref r0), some (.ref r1), some (.ref r2), some (.int x3)] [] h q): qE d 0 27 [some (.ref r0), some (.ref r1), some (.ref r2), some (.int x3)] [] h q := by
  refine qe_aload_n c0_27 rfl ?_
  refine qe_iload_n c0_28 rfl ?_
  refine qe_script c0_29 e3 e4 ?_
  refine qe_bipush (x := 63) c0_30 (by decide) ?_
  refine qe_iand c0_32 ?_
  refine qe_table (off := 1192) (t := 1225) c0_33 (by rw [e5]; decide) (by rw [e5]; decide) rfl ?_
  exact kk
theorem b0_27s28 {d : Nat} {q : Option Value × qH} {h : qH} {r0 : Nat} {r1 : Nat} {r2 : Nat} {x3 : Int32} {n1 : Nat} {f2 : Nat → Int32}  (e3 : h.2.2 r0 = some (.inl (8, n1, .inl f2))) (e4 : 0 ≤ (x3 : Int32).toInt ∧ (x3 : Int32).toInt < (n1 : Nat)) (e5 : (((f2 (x3 : Int32).toNatClampNeg) &&& 63) : Int32).toInt = 28) (kk : qE d 0 1192 [some (.ref r0), some (.ref r1), some (.ref r2), some (.int x3)] [] h q): qE d 0 27 [some (.ref r0), some (.ref r1), some (.ref r2), some (.int x3)] [] h q := by
  refine qe_aload_n c0_27 rfl ?_
  refine qe_iload_n c0_28 rfl ?_
  refine qe_script c0_29 e3 e4 ?_
  refine qe_bipush (x := 63) c0_30 (by decide) ?_
  refine qe_iand c0_32 ?_
  refine qe_table (off := 1159) (t := 1192) c0_33 (by rw [e5]; decide) (by rw [e5]; decide) rfl ?_
  exact kk
theorem b0_27s27 {d : Nat} {q : Option Value × qH} {h : qH} {r0 : Nat} {r1 : Nat} {r2 : Nat} {x3 : Int32} {n1 : Nat} {f2 : Nat → Int32}  (e3 : h.2.2 r0 = some (.inl (8, n1, .inl f2))) (e4 : 0 ≤ (x3 : Int32).toInt ∧ (x3 : Int32).toInt < (n1 : Nat)) (e5 : (((f2 (x3 : Int32).toNatClampNeg) &&& 63) : Int32).toInt = 27) (kk : qE d 0 1159 [some (.ref r0), some (.ref r1), some (.ref r2), some (.int x3)] [] h q): qE d 0 27 [some (.ref r0), some (.ref r1), some (.ref r2), some (.int x3)] [] h q := by
  refine qe_aload_n c0_27 rfl ?_
  refine qe_iload_n c0_28 rfl ?_
  refine qe_script c0_29 e3 e4 ?_
  refine qe_bipush (x := 63) c0_30 (by decide) ?_
  refine qe_iand c0_32 ?_
  refine qe_table (off := 1126) (t := 1159) c0_33 (by rw [e5]; decide) (by rw [e5]; decide) rfl ?_
  exact kk
theorem b0_27s26 {d : Nat} {q : Option Value × qH} {h : qH} {r0 : Nat} {r1 : Nat} {r2 : Nat} {x3 : Int32} {n1 : Nat} {f2 : Nat → Int32}  (e3 : h.2.2 r0 = some (.inl (8, n1, .inl f2))) (e4 : 0 ≤ (x3 : Int32).toInt ∧ (x3 : Int32).toInt < (n1 : Nat)) (e5 : (((f2 (x3 : Int32).toNatClampNeg) &&& 63) : Int32).toInt = 26) (kk : qE d 0 1116 [some (.ref r0), some (.ref r1), some (.ref r2), some (.int x3)] [] h q): qE d 0 27 [some (.ref r0), some (.ref r1), some (.ref r2), some (.int x3)] [] h q := by
  refine qe_aload_n c0_27 rfl ?_
  refine qe_iload_n c0_28 rfl ?_
  refine qe_script c0_29 e3 e4 ?_
  refine qe_bipush (x := 63) c0_30 (by decide) ?_
  refine qe_iand c0_32 ?_
  refine qe_table (off := 1083) (t := 1116) c0_33 (by rw [e5]; decide) (by rw [e5]; decide) rfl ?_
  exact kk
theorem b0_27s25 {d : Nat} {q : Option Value × qH} {h : qH} {r0 : Nat} {r1 : Nat} {r2 : Nat} {x3 : Int32} {n1 : Nat} {f2 : Nat → Int32}  (e3 : h.2.2 r0 = some (.inl (8, n1, .inl f2))) (e4 : 0 ≤ (x3 : Int32).toInt ∧ (x3 : Int32).toInt < (n1 : Nat)) (e5 : (((f2 (x3 : Int32).toNatClampNeg) &&& 63) : Int32).toInt = 25) (kk : qE d 0 1083 [some (.ref r0), some (.ref r1), some (.ref r2), some (.int x3)] [] h q): qE d 0 27 [some (.ref r0), some (.ref r1), some (.ref r2), some (.int x3)] [] h q := by
  refine qe_aload_n c0_27 rfl ?_
  refine qe_iload_n c0_28 rfl ?_
  refine qe_script c0_29 e3 e4 ?_
  refine qe_bipush (x := 63) c0_30 (by decide) ?_
  refine qe_iand c0_32 ?_
  refine qe_table (off := 1050) (t := 1083) c0_33 (by rw [e5]; decide) (by rw [e5]; decide) rfl ?_
  exact kk
theorem b0_27s24 {d : Nat} {q : Option Value × qH} {h : qH} {r0 : Nat} {r1 : Nat} {r2 : Nat} {x3 : Int32} {n1 : Nat} {f2 : Nat → Int32}  (e3 : h.2.2 r0 = some (.inl (8, n1, .inl f2))) (e4 : 0 ≤ (x3 : Int32).toInt ∧ (x3 : Int32).toInt < (n1 : Nat)) (e5 : (((f2 (x3 : Int32).toNatClampNeg) &&& 63) : Int32).toInt = 24) (kk : qE d 0 1050 [some (.ref r0), some (.ref r1), some (.ref r2), some (.int x3)] [] h q): qE d 0 27 [some (.ref r0), some (.ref r1), some (.ref r2), some (.int x3)] [] h q := by
  refine qe_aload_n c0_27 rfl ?_
  refine qe_iload_n c0_28 rfl ?_
  refine qe_script c0_29 e3 e4 ?_
  refine qe_bipush (x := 63) c0_30 (by decide) ?_
  refine qe_iand c0_32 ?_
  refine qe_table (off := 1017) (t := 1050) c0_33 (by rw [e5]; decide) (by rw [e5]; decide) rfl ?_
  exact kk
theorem b0_27s23 {d : Nat} {q : Option Value × qH} {h : qH} {r0 : Nat} {r1 : Nat} {r2 : Nat} {x3 : Int32} {n1 : Nat} {f2 : Nat → Int32}  (e3 : h.2.2 r0 = some (.inl (8, n1, .inl f2))) (e4 : 0 ≤ (x3 : Int32).toInt ∧ (x3 : Int32).toInt < (n1 : Nat)) (e5 : (((f2 (x3 : Int32).toNatClampNeg) &&& 63) : Int32).toInt = 23) (kk : qE d 0 1007 [some (.ref r0), some (.ref r1), some (.ref r2), some (.int x3)] [] h q): qE d 0 27 [some (.ref r0), some (.ref r1), some (.ref r2), some (.int x3)] [] h q := by
  refine qe_aload_n c0_27 rfl ?_
  refine qe_iload_n c0_28 rfl ?_
  refine qe_script c0_29 e3 e4 ?_
  refine qe_bipush (x := 63) c0_30 (by decide) ?_
  refine qe_iand c0_32 ?_
  refine qe_table (off := 974) (t := 1007) c0_33 (by rw [e5]; decide) (by rw [e5]; decide) rfl ?_
  exact kk
theorem b0_27s22 {d : Nat} {q : Option Value × qH} {h : qH} {r0 : Nat} {r1 : Nat} {r2 : Nat} {x3 : Int32} {n1 : Nat} {f2 : Nat → Int32}  (e3 : h.2.2 r0 = some (.inl (8, n1, .inl f2))) (e4 : 0 ≤ (x3 : Int32).toInt ∧ (x3 : Int32).toInt < (n1 : Nat)) (e5 : (((f2 (x3 : Int32).toNatClampNeg) &&& 63) : Int32).toInt = 22) (kk : qE d 0 984 [some (.ref r0), some (.ref r1), some (.ref r2), some (.int x3)] [] h q): qE d 0 27 [some (.ref r0), some (.ref r1), some (.ref r2), some (.int x3)] [] h q := by
  refine qe_aload_n c0_27 rfl ?_
  refine qe_iload_n c0_28 rfl ?_
  refine qe_script c0_29 e3 e4 ?_
  refine qe_bipush (x := 63) c0_30 (by decide) ?_
  refine qe_iand c0_32 ?_
  refine qe_table (off := 951) (t := 984) c0_33 (by rw [e5]; decide) (by rw [e5]; decide) rfl ?_
  exact kk
theorem b0_27s21 {d : Nat} {q : Option Value × qH} {h : qH} {r0 : Nat} {r1 : Nat} {r2 : Nat} {x3 : Int32} {n1 : Nat} {f2 : Nat → Int32}  (e3 : h.2.2 r0 = some (.inl (8, n1, .inl f2))) (e4 : 0 ≤ (x3 : Int32).toInt ∧ (x3 : Int32).toInt < (n1 : Nat)) (e5 : (((f2 (x3 : Int32).toNatClampNeg) &&& 63) : Int32).toInt = 21) (kk : qE d 0 940 [some (.ref r0), some (.ref r1), some (.ref r2), some (.int x3)] [] h q): qE d 0 27 [some (.ref r0), some (.ref r1), some (.ref r2), some (.int x3)] [] h q := by
  refine qe_aload_n c0_27 rfl ?_
  refine qe_iload_n c0_28 rfl ?_
  refine qe_script c0_29 e3 e4 ?_
  refine qe_bipush (x := 63) c0_30 (by decide) ?_
  refine qe_iand c0_32 ?_
  refine qe_table (off := 907) (t := 940) c0_33 (by rw [e5]; decide) (by rw [e5]; decide) rfl ?_
  exact kk
theorem b0_27s20 {d : Nat} {q : Option Value × qH} {h : qH} {r0 : Nat} {r1 : Nat} {r2 : Nat} {x3 : Int32} {n1 : Nat} {f2 : Nat → Int32}  (e3 : h.2.2 r0 = some (.inl (8, n1, .inl f2))) (e4 : 0 ≤ (x3 : Int32).toInt ∧ (x3 : Int32).toInt < (n1 : Nat)) (e5 : (((f2 (x3 : Int32).toNatClampNeg) &&& 63) : Int32).toInt = 20) (kk : qE d 0 891 [some (.ref r0), some (.ref r1), some (.ref r2), some (.int x3)] [] h q): qE d 0 27 [some (.ref r0), some (.ref r1), some (.ref r2), some (.int x3)] [] h q := by
  refine qe_aload_n c0_27 rfl ?_
  refine qe_iload_n c0_28 rfl ?_
  refine qe_script c0_29 e3 e4 ?_
  refine qe_bipush (x := 63) c0_30 (by decide) ?_
  refine qe_iand c0_32 ?_
  refine qe_table (off := 858) (t := 891) c0_33 (by rw [e5]; decide) (by rw [e5]; decide) rfl ?_
  exact kk
theorem b0_27s19 {d : Nat} {q : Option Value × qH} {h : qH} {r0 : Nat} {r1 : Nat} {r2 : Nat} {x3 : Int32} {n1 : Nat} {f2 : Nat → Int32}  (e3 : h.2.2 r0 = some (.inl (8, n1, .inl f2))) (e4 : 0 ≤ (x3 : Int32).toInt ∧ (x3 : Int32).toInt < (n1 : Nat)) (e5 : (((f2 (x3 : Int32).toNatClampNeg) &&& 63) : Int32).toInt = 19) (kk : qE d 0 878 [some (.ref r0), some (.ref r1), some (.ref r2), some (.int x3)] [] h q): qE d 0 27 [some (.ref r0), some (.ref r1), some (.ref r2), some (.int x3)] [] h q := by
  refine qe_aload_n c0_27 rfl ?_
  refine qe_iload_n c0_28 rfl ?_
  refine qe_script c0_29 e3 e4 ?_
  refine qe_bipush (x := 63) c0_30 (by decide) ?_
  refine qe_iand c0_32 ?_
  refine qe_table (off := 845) (t := 878) c0_33 (by rw [e5]; decide) (by rw [e5]; decide) rfl ?_
  exact kk
theorem b0_27s18 {d : Nat} {q : Option Value × qH} {h : qH} {r0 : Nat} {r1 : Nat} {r2 : Nat} {x3 : Int32} {n1 : Nat} {f2 : Nat → Int32}  (e3 : h.2.2 r0 = some (.inl (8, n1, .inl f2))) (e4 : 0 ≤ (x3 : Int32).toInt ∧ (x3 : Int32).toInt < (n1 : Nat)) (e5 : (((f2 (x3 : Int32).toNatClampNeg) &&& 63) : Int32).toInt = 18) (kk : qE d 0 855 [some (.ref r0), some (.ref r1), some (.ref r2), some (.int x3)] [] h q): qE d 0 27 [some (.ref r0), some (.ref r1), some (.ref r2), some (.int x3)] [] h q := by
  refine qe_aload_n c0_27 rfl ?_
  refine qe_iload_n c0_28 rfl ?_
  refine qe_script c0_29 e3 e4 ?_
  refine qe_bipush (x := 63) c0_30 (by decide) ?_
  refine qe_iand c0_32 ?_
  refine qe_table (off := 822) (t := 855) c0_33 (by rw [e5]; decide) (by rw [e5]; decide) rfl ?_
  exact kk
theorem b0_27s17 {d : Nat} {q : Option Value × qH} {h : qH} {r0 : Nat} {r1 : Nat} {r2 : Nat} {x3 : Int32} {n1 : Nat} {f2 : Nat → Int32}  (e3 : h.2.2 r0 = some (.inl (8, n1, .inl f2))) (e4 : 0 ≤ (x3 : Int32).toInt ∧ (x3 : Int32).toInt < (n1 : Nat)) (e5 : (((f2 (x3 : Int32).toNatClampNeg) &&& 63) : Int32).toInt = 17) (kk : qE d 0 822 [some (.ref r0), some (.ref r1), some (.ref r2), some (.int x3)] [] h q): qE d 0 27 [some (.ref r0), some (.ref r1), some (.ref r2), some (.int x3)] [] h q := by
  refine qe_aload_n c0_27 rfl ?_
  refine qe_iload_n c0_28 rfl ?_
  refine qe_script c0_29 e3 e4 ?_
  refine qe_bipush (x := 63) c0_30 (by decide) ?_
  refine qe_iand c0_32 ?_
  refine qe_table (off := 789) (t := 822) c0_33 (by rw [e5]; decide) (by rw [e5]; decide) rfl ?_
  exact kk
theorem b0_27s16 {d : Nat} {q : Option Value × qH} {h : qH} {r0 : Nat} {r1 : Nat} {r2 : Nat} {x3 : Int32} {n1 : Nat} {f2 : Nat → Int32}  (e3 : h.2.2 r0 = some (.inl (8, n1, .inl f2))) (e4 : 0 ≤ (x3 : Int32).toInt ∧ (x3 : Int32).toInt < (n1 : Nat)) (e5 : (((f2 (x3 : Int32).toNatClampNeg) &&& 63) : Int32).toInt = 16) (kk : qE d 0 789 [some (.ref r0), some (.ref r1), some (.ref r2), some (.int x3)] [] h q): qE d 0 27 [some (.ref r0), some (.ref r1), some (.ref r2), some (.int x3)] [] h q := by
  refine qe_aload_n c0_27 rfl ?_
  refine qe_iload_n c0_28 rfl ?_
  refine qe_script c0_29 e3 e4 ?_
  refine qe_bipush (x := 63) c0_30 (by decide) ?_
  refine qe_iand c0_32 ?_
  refine qe_table (off := 756) (t := 789) c0_33 (by rw [e5]; decide) (by rw [e5]; decide) rfl ?_
  exact kk
theorem b0_27s15 {d : Nat} {q : Option Value × qH} {h : qH} {r0 : Nat} {r1 : Nat} {r2 : Nat} {x3 : Int32} {n1 : Nat} {f2 : Nat → Int32}  (e3 : h.2.2 r0 = some (.inl (8, n1, .inl f2))) (e4 : 0 ≤ (x3 : Int32).toInt ∧ (x3 : Int32).toInt < (n1 : Nat)) (e5 : (((f2 (x3 : Int32).toNatClampNeg) &&& 63) : Int32).toInt = 15) (kk : qE d 0 756 [some (.ref r0), some (.ref r1), some (.ref r2), some (.int x3)] [] h q): qE d 0 27 [some (.ref r0), some (.ref r1), some (.ref r2), some (.int x3)] [] h q := by
  refine qe_aload_n c0_27 rfl ?_
  refine qe_iload_n c0_28 rfl ?_
  refine qe_script c0_29 e3 e4 ?_
  refine qe_bipush (x := 63) c0_30 (by decide) ?_
  refine qe_iand c0_32 ?_
  refine qe_table (off := 723) (t := 756) c0_33 (by rw [e5]; decide) (by rw [e5]; decide) rfl ?_
  exact kk
theorem b0_27s14 {d : Nat} {q : Option Value × qH} {h : qH} {r0 : Nat} {r1 : Nat} {r2 : Nat} {x3 : Int32} {n1 : Nat} {f2 : Nat → Int32}  (e3 : h.2.2 r0 = some (.inl (8, n1, .inl f2))) (e4 : 0 ≤ (x3 : Int32).toInt ∧ (x3 : Int32).toInt < (n1 : Nat)) (e5 : (((f2 (x3 : Int32).toNatClampNeg) &&& 63) : Int32).toInt = 14) (kk : qE d 0 723 [some (.ref r0), some (.ref r1), some (.ref r2), some (.int x3)] [] h q): qE d 0 27 [some (.ref r0), some (.ref r1), some (.ref r2), some (.int x3)] [] h q := by
  refine qe_aload_n c0_27 rfl ?_
  refine qe_iload_n c0_28 rfl ?_
  refine qe_script c0_29 e3 e4 ?_
  refine qe_bipush (x := 63) c0_30 (by decide) ?_
  refine qe_iand c0_32 ?_
  refine qe_table (off := 690) (t := 723) c0_33 (by rw [e5]; decide) (by rw [e5]; decide) rfl ?_
  exact kk
theorem b0_27s13 {d : Nat} {q : Option Value × qH} {h : qH} {r0 : Nat} {r1 : Nat} {r2 : Nat} {x3 : Int32} {n1 : Nat} {f2 : Nat → Int32}  (e3 : h.2.2 r0 = some (.inl (8, n1, .inl f2))) (e4 : 0 ≤ (x3 : Int32).toInt ∧ (x3 : Int32).toInt < (n1 : Nat)) (e5 : (((f2 (x3 : Int32).toNatClampNeg) &&& 63) : Int32).toInt = 13) (kk : qE d 0 699 [some (.ref r0), some (.ref r1), some (.ref r2), some (.int x3)] [] h q): qE d 0 27 [some (.ref r0), some (.ref r1), some (.ref r2), some (.int x3)] [] h q := by
  refine qe_aload_n c0_27 rfl ?_
  refine qe_iload_n c0_28 rfl ?_
  refine qe_script c0_29 e3 e4 ?_
  refine qe_bipush (x := 63) c0_30 (by decide) ?_
  refine qe_iand c0_32 ?_
  refine qe_table (off := 666) (t := 699) c0_33 (by rw [e5]; decide) (by rw [e5]; decide) rfl ?_
  exact kk
theorem b0_27s12 {d : Nat} {q : Option Value × qH} {h : qH} {r0 : Nat} {r1 : Nat} {r2 : Nat} {x3 : Int32} {n1 : Nat} {f2 : Nat → Int32}  (e3 : h.2.2 r0 = some (.inl (8, n1, .inl f2))) (e4 : 0 ≤ (x3 : Int32).toInt ∧ (x3 : Int32).toInt < (n1 : Nat)) (e5 : (((f2 (x3 : Int32).toNatClampNeg) &&& 63) : Int32).toInt = 12) (kk : qE d 0 686 [some (.ref r0), some (.ref r1), some (.ref r2), some (.int x3)] [] h q): qE d 0 27 [some (.ref r0), some (.ref r1), some (.ref r2), some (.int x3)] [] h q := by
  refine qe_aload_n c0_27 rfl ?_
  refine qe_iload_n c0_28 rfl ?_
  refine qe_script c0_29 e3 e4 ?_
  refine qe_bipush (x := 63) c0_30 (by decide) ?_
  refine qe_iand c0_32 ?_
  refine qe_table (off := 653) (t := 686) c0_33 (by rw [e5]; decide) (by rw [e5]; decide) rfl ?_
  exact kk
theorem b0_27s11 {d : Nat} {q : Option Value × qH} {h : qH} {r0 : Nat} {r1 : Nat} {r2 : Nat} {x3 : Int32} {n1 : Nat} {f2 : Nat → Int32}  (e3 : h.2.2 r0 = some (.inl (8, n1, .inl f2))) (e4 : 0 ≤ (x3 : Int32).toInt ∧ (x3 : Int32).toInt < (n1 : Nat)) (e5 : (((f2 (x3 : Int32).toNatClampNeg) &&& 63) : Int32).toInt = 11) (kk : qE d 0 663 [some (.ref r0), some (.ref r1), some (.ref r2), some (.int x3)] [] h q): qE d 0 27 [some (.ref r0), some (.ref r1), some (.ref r2), some (.int x3)] [] h q := by
  refine qe_aload_n c0_27 rfl ?_
  refine qe_iload_n c0_28 rfl ?_
  refine qe_script c0_29 e3 e4 ?_
  refine qe_bipush (x := 63) c0_30 (by decide) ?_
  refine qe_iand c0_32 ?_
  refine qe_table (off := 630) (t := 663) c0_33 (by rw [e5]; decide) (by rw [e5]; decide) rfl ?_
  exact kk
theorem b0_27s10 {d : Nat} {q : Option Value × qH} {h : qH} {r0 : Nat} {r1 : Nat} {r2 : Nat} {x3 : Int32} {n1 : Nat} {f2 : Nat → Int32}  (e3 : h.2.2 r0 = some (.inl (8, n1, .inl f2))) (e4 : 0 ≤ (x3 : Int32).toInt ∧ (x3 : Int32).toInt < (n1 : Nat)) (e5 : (((f2 (x3 : Int32).toNatClampNeg) &&& 63) : Int32).toInt = 10) (kk : qE d 0 600 [some (.ref r0), some (.ref r1), some (.ref r2), some (.int x3)] [] h q): qE d 0 27 [some (.ref r0), some (.ref r1), some (.ref r2), some (.int x3)] [] h q := by
  refine qe_aload_n c0_27 rfl ?_
  refine qe_iload_n c0_28 rfl ?_
  refine qe_script c0_29 e3 e4 ?_
  refine qe_bipush (x := 63) c0_30 (by decide) ?_
  refine qe_iand c0_32 ?_
  refine qe_table (off := 567) (t := 600) c0_33 (by rw [e5]; decide) (by rw [e5]; decide) rfl ?_
  exact kk
theorem b0_27s9 {d : Nat} {q : Option Value × qH} {h : qH} {r0 : Nat} {r1 : Nat} {r2 : Nat} {x3 : Int32} {n1 : Nat} {f2 : Nat → Int32}  (e3 : h.2.2 r0 = some (.inl (8, n1, .inl f2))) (e4 : 0 ≤ (x3 : Int32).toInt ∧ (x3 : Int32).toInt < (n1 : Nat)) (e5 : (((f2 (x3 : Int32).toNatClampNeg) &&& 63) : Int32).toInt = 9) (kk : qE d 0 577 [some (.ref r0), some (.ref r1), some (.ref r2), some (.int x3)] [] h q): qE d 0 27 [some (.ref r0), some (.ref r1), some (.ref r2), some (.int x3)] [] h q := by
  refine qe_aload_n c0_27 rfl ?_
  refine qe_iload_n c0_28 rfl ?_
  refine qe_script c0_29 e3 e4 ?_
  refine qe_bipush (x := 63) c0_30 (by decide) ?_
  refine qe_iand c0_32 ?_
  refine qe_table (off := 544) (t := 577) c0_33 (by rw [e5]; decide) (by rw [e5]; decide) rfl ?_
  exact kk
theorem b0_27s8 {d : Nat} {q : Option Value × qH} {h : qH} {r0 : Nat} {r1 : Nat} {r2 : Nat} {x3 : Int32} {n1 : Nat} {f2 : Nat → Int32}  (e3 : h.2.2 r0 = some (.inl (8, n1, .inl f2))) (e4 : 0 ≤ (x3 : Int32).toInt ∧ (x3 : Int32).toInt < (n1 : Nat)) (e5 : (((f2 (x3 : Int32).toNatClampNeg) &&& 63) : Int32).toInt = 8) (kk : qE d 0 544 [some (.ref r0), some (.ref r1), some (.ref r2), some (.int x3)] [] h q): qE d 0 27 [some (.ref r0), some (.ref r1), some (.ref r2), some (.int x3)] [] h q := by
  refine qe_aload_n c0_27 rfl ?_
  refine qe_iload_n c0_28 rfl ?_
  refine qe_script c0_29 e3 e4 ?_
  refine qe_bipush (x := 63) c0_30 (by decide) ?_
  refine qe_iand c0_32 ?_
  refine qe_table (off := 511) (t := 544) c0_33 (by rw [e5]; decide) (by rw [e5]; decide) rfl ?_
  exact kk
theorem b0_27s7 {d : Nat} {q : Option Value × qH} {h : qH} {r0 : Nat} {r1 : Nat} {r2 : Nat} {x3 : Int32} {n1 : Nat} {f2 : Nat → Int32}  (e3 : h.2.2 r0 = some (.inl (8, n1, .inl f2))) (e4 : 0 ≤ (x3 : Int32).toInt ∧ (x3 : Int32).toInt < (n1 : Nat)) (e5 : (((f2 (x3 : Int32).toNatClampNeg) &&& 63) : Int32).toInt = 7) (kk : qE d 0 495 [some (.ref r0), some (.ref r1), some (.ref r2), some (.int x3)] [] h q): qE d 0 27 [some (.ref r0), some (.ref r1), some (.ref r2), some (.int x3)] [] h q := by
  refine qe_aload_n c0_27 rfl ?_
  refine qe_iload_n c0_28 rfl ?_
  refine qe_script c0_29 e3 e4 ?_
  refine qe_bipush (x := 63) c0_30 (by decide) ?_
  refine qe_iand c0_32 ?_
  refine qe_table (off := 462) (t := 495) c0_33 (by rw [e5]; decide) (by rw [e5]; decide) rfl ?_
  exact kk
theorem b0_27s6 {d : Nat} {q : Option Value × qH} {h : qH} {r0 : Nat} {r1 : Nat} {r2 : Nat} {x3 : Int32} {n1 : Nat} {f2 : Nat → Int32}  (e3 : h.2.2 r0 = some (.inl (8, n1, .inl f2))) (e4 : 0 ≤ (x3 : Int32).toInt ∧ (x3 : Int32).toInt < (n1 : Nat)) (e5 : (((f2 (x3 : Int32).toNatClampNeg) &&& 63) : Int32).toInt = 6) (kk : qE d 0 446 [some (.ref r0), some (.ref r1), some (.ref r2), some (.int x3)] [] h q): qE d 0 27 [some (.ref r0), some (.ref r1), some (.ref r2), some (.int x3)] [] h q := by
  refine qe_aload_n c0_27 rfl ?_
  refine qe_iload_n c0_28 rfl ?_
  refine qe_script c0_29 e3 e4 ?_
  refine qe_bipush (x := 63) c0_30 (by decide) ?_
  refine qe_iand c0_32 ?_
  refine qe_table (off := 413) (t := 446) c0_33 (by rw [e5]; decide) (by rw [e5]; decide) rfl ?_
  exact kk
theorem b0_27s5 {d : Nat} {q : Option Value × qH} {h : qH} {r0 : Nat} {r1 : Nat} {r2 : Nat} {x3 : Int32} {n1 : Nat} {f2 : Nat → Int32}  (e3 : h.2.2 r0 = some (.inl (8, n1, .inl f2))) (e4 : 0 ≤ (x3 : Int32).toInt ∧ (x3 : Int32).toInt < (n1 : Nat)) (e5 : (((f2 (x3 : Int32).toNatClampNeg) &&& 63) : Int32).toInt = 5) (kk : qE d 0 397 [some (.ref r0), some (.ref r1), some (.ref r2), some (.int x3)] [] h q): qE d 0 27 [some (.ref r0), some (.ref r1), some (.ref r2), some (.int x3)] [] h q := by
  refine qe_aload_n c0_27 rfl ?_
  refine qe_iload_n c0_28 rfl ?_
  refine qe_script c0_29 e3 e4 ?_
  refine qe_bipush (x := 63) c0_30 (by decide) ?_
  refine qe_iand c0_32 ?_
  refine qe_table (off := 364) (t := 397) c0_33 (by rw [e5]; decide) (by rw [e5]; decide) rfl ?_
  exact kk
theorem b0_27s4 {d : Nat} {q : Option Value × qH} {h : qH} {r0 : Nat} {r1 : Nat} {r2 : Nat} {x3 : Int32} {n1 : Nat} {f2 : Nat → Int32}  (e3 : h.2.2 r0 = some (.inl (8, n1, .inl f2))) (e4 : 0 ≤ (x3 : Int32).toInt ∧ (x3 : Int32).toInt < (n1 : Nat)) (e5 : (((f2 (x3 : Int32).toNatClampNeg) &&& 63) : Int32).toInt = 4) (kk : qE d 0 374 [some (.ref r0), some (.ref r1), some (.ref r2), some (.int x3)] [] h q): qE d 0 27 [some (.ref r0), some (.ref r1), some (.ref r2), some (.int x3)] [] h q := by
  refine qe_aload_n c0_27 rfl ?_
  refine qe_iload_n c0_28 rfl ?_
  refine qe_script c0_29 e3 e4 ?_
  refine qe_bipush (x := 63) c0_30 (by decide) ?_
  refine qe_iand c0_32 ?_
  refine qe_table (off := 341) (t := 374) c0_33 (by rw [e5]; decide) (by rw [e5]; decide) rfl ?_
  exact kk
theorem b0_27s3 {d : Nat} {q : Option Value × qH} {h : qH} {r0 : Nat} {r1 : Nat} {r2 : Nat} {x3 : Int32} {n1 : Nat} {f2 : Nat → Int32}  (e3 : h.2.2 r0 = some (.inl (8, n1, .inl f2))) (e4 : 0 ≤ (x3 : Int32).toInt ∧ (x3 : Int32).toInt < (n1 : Nat)) (e5 : (((f2 (x3 : Int32).toNatClampNeg) &&& 63) : Int32).toInt = 3) (kk : qE d 0 341 [some (.ref r0), some (.ref r1), some (.ref r2), some (.int x3)] [] h q): qE d 0 27 [some (.ref r0), some (.ref r1), some (.ref r2), some (.int x3)] [] h q := by
  refine qe_aload_n c0_27 rfl ?_
  refine qe_iload_n c0_28 rfl ?_
  refine qe_script c0_29 e3 e4 ?_
  refine qe_bipush (x := 63) c0_30 (by decide) ?_
  refine qe_iand c0_32 ?_
  refine qe_table (off := 308) (t := 341) c0_33 (by rw [e5]; decide) (by rw [e5]; decide) rfl ?_
  exact kk
theorem b0_27s2 {d : Nat} {q : Option Value × qH} {h : qH} {r0 : Nat} {r1 : Nat} {r2 : Nat} {x3 : Int32} {n1 : Nat} {f2 : Nat → Int32}  (e3 : h.2.2 r0 = some (.inl (8, n1, .inl f2))) (e4 : 0 ≤ (x3 : Int32).toInt ∧ (x3 : Int32).toInt < (n1 : Nat)) (e5 : (((f2 (x3 : Int32).toNatClampNeg) &&& 63) : Int32).toInt = 2) (kk : qE d 0 298 [some (.ref r0), some (.ref r1), some (.ref r2), some (.int x3)] [] h q): qE d 0 27 [some (.ref r0), some (.ref r1), some (.ref r2), some (.int x3)] [] h q := by
  refine qe_aload_n c0_27 rfl ?_
  refine qe_iload_n c0_28 rfl ?_
  refine qe_script c0_29 e3 e4 ?_
  refine qe_bipush (x := 63) c0_30 (by decide) ?_
  refine qe_iand c0_32 ?_
  refine qe_table (off := 265) (t := 298) c0_33 (by rw [e5]; decide) (by rw [e5]; decide) rfl ?_
  exact kk
theorem b0_27s1 {d : Nat} {q : Option Value × qH} {h : qH} {r0 : Nat} {r1 : Nat} {r2 : Nat} {x3 : Int32} {n1 : Nat} {f2 : Nat → Int32}  (e3 : h.2.2 r0 = some (.inl (8, n1, .inl f2))) (e4 : 0 ≤ (x3 : Int32).toInt ∧ (x3 : Int32).toInt < (n1 : Nat)) (e5 : (((f2 (x3 : Int32).toNatClampNeg) &&& 63) : Int32).toInt = 1) (kk : qE d 0 235 [some (.ref r0), some (.ref r1), some (.ref r2), some (.int x3)] [] h q): qE d 0 27 [some (.ref r0), some (.ref r1), some (.ref r2), some (.int x3)] [] h q := by
  refine qe_aload_n c0_27 rfl ?_
  refine qe_iload_n c0_28 rfl ?_
  refine qe_script c0_29 e3 e4 ?_
  refine qe_bipush (x := 63) c0_30 (by decide) ?_
  refine qe_iand c0_32 ?_
  refine qe_table (off := 202) (t := 235) c0_33 (by rw [e5]; decide) (by rw [e5]; decide) rfl ?_
  exact kk
theorem b0_27s0 {d : Nat} {q : Option Value × qH} {h : qH} {r0 : Nat} {r1 : Nat} {r2 : Nat} {x3 : Int32} {n1 : Nat} {f2 : Nat → Int32}  (e3 : h.2.2 r0 = some (.inl (8, n1, .inl f2))) (e4 : 0 ≤ (x3 : Int32).toInt ∧ (x3 : Int32).toInt < (n1 : Nat)) (e5 : (((f2 (x3 : Int32).toNatClampNeg) &&& 63) : Int32).toInt = 0) (kk : qE d 0 192 [some (.ref r0), some (.ref r1), some (.ref r2), some (.int x3)] [] h q): qE d 0 27 [some (.ref r0), some (.ref r1), some (.ref r2), some (.int x3)] [] h q := by
  refine qe_aload_n c0_27 rfl ?_
  refine qe_iload_n c0_28 rfl ?_
  refine qe_script c0_29 e3 e4 ?_
  refine qe_bipush (x := 63) c0_30 (by decide) ?_
  refine qe_iand c0_32 ?_
  refine qe_table (off := 159) (t := 192) c0_33 (by rw [e5]; decide) (by rw [e5]; decide) rfl ?_
  exact kk
theorem b0_192F {d : Nat} {q : Option Value × qH} {h : qH} {r0 : Nat} {r1 : Nat} {r2 : Nat} {x3 : Int32} {n1 : Nat} {f2 : Nat → Int32} {fs7 : List Value} {h1 : qH} {z9 : Int32} {n11 : Nat} {f12 : Nat → Int32} {fs17 : List Value} {h2 : qH} {z19 : Int32}  (e3 : h.2.2 r0 = some (.inl (8, n1, .inl f2))) (e4 : 0 ≤ ((x3 + 1) : Int32).toInt ∧ ((x3 + 1) : Int32).toInt < (n1 : Nat)) (e5 : 0 ≤ ((x3 + 2) : Int32).toInt ∧ ((x3 + 2) : Int32).toInt < (n1 : Nat)) (e6 : 0 ≤ ((x3 + 3) : Int32).toInt ∧ ((x3 + 3) : Int32).toInt < (n1 : Nat)) (e8 : h.2.2 r1 = some (.inr (11, fs7))) (e10 : qCall d 71 [.ref r1, .int (f2 ((x3 + 1) : Int32).toNatClampNeg), .int (f2 ((x3 + 2) : Int32).toNatClampNeg), .int (f2 ((x3 + 3) : Int32).toNatClampNeg)] h ((some (.int z9)), h1)) (e13 : h1.2.2 r0 = some (.inl (8, n11, .inl f12))) (e14 : 0 ≤ ((x3 + 1) : Int32).toInt ∧ ((x3 + 1) : Int32).toInt < (n11 : Nat)) (e15 : 0 ≤ ((x3 + 2) : Int32).toInt ∧ ((x3 + 2) : Int32).toInt < (n11 : Nat)) (e16 : 0 ≤ ((x3 + 3) : Int32).toInt ∧ ((x3 + 3) : Int32).toInt < (n11 : Nat)) (e18 : h1.2.2 r2 = some (.inr (12, fs17))) (e20 : qCall d 171 [.ref r2, .int (f12 ((x3 + 1) : Int32).toNatClampNeg), .int (f12 ((x3 + 2) : Int32).toNatClampNeg), .int (f12 ((x3 + 3) : Int32).toNatClampNeg)] h1 ((some (.int z19)), h2)) (e21 : ¬ ((z9 : Int32) = z19)) (kk : qE d 0 233 [some (.ref r0), some (.ref r1), some (.ref r2), some (.int x3)] [] h2 q): qE d 0 192 [some (.ref r0), some (.ref r1), some (.ref r2), some (.int x3)] [] h q := by
  refine qe_aload_n c0_192 rfl ?_
  refine qe_aload_n c0_193 rfl ?_
  refine qe_iload_n c0_194 rfl ?_
  refine qe_iconst (x := 1) c0_195 (by decide) ?_
  refine qe_iadd c0_196 ?_
  refine qe_script c0_197 e3 e4 ?_
  refine qe_aload_n c0_198 rfl ?_
  refine qe_iload_n c0_199 rfl ?_
  refine qe_iconst (x := 2) c0_200 (by decide) ?_
  refine qe_iadd c0_201 ?_
  refine qe_script c0_202 e3 e5 ?_
  refine qe_aload_n c0_203 rfl ?_
  refine qe_iload_n c0_204 rfl ?_
  refine qe_iconst (x := 3) c0_205 (by decide) ?_
  refine qe_iadd c0_206 ?_
  refine qe_script c0_207 e3 e6 ?_
  refine qe_virtual (b := r1) (as := [.int (f2 ((x3 + 1) : Int32).toNatClampNeg), .int (f2 ((x3 + 2) : Int32).toNatClampNeg), .int (f2 ((x3 + 3) : Int32).toNatClampNeg)]) (r := []) (v := (some (.int z9))) (h2 := h1) c0_208 qo0 qK13_13 rfl rfl rfl (by rw [qo71]; exact e8) (Nat.le_of_ble_eq_true rfl) e10 ?_
  refine qe_aload_n c0_211 rfl ?_
  refine qe_aload_n c0_212 rfl ?_
  refine qe_iload_n c0_213 rfl ?_
  refine qe_iconst (x := 1) c0_214 (by decide) ?_
  refine qe_iadd c0_215 ?_
  refine qe_script c0_216 e13 e14 ?_
  refine qe_aload_n c0_217 rfl ?_
  refine qe_iload_n c0_218 rfl ?_
  refine qe_iconst (x := 2) c0_219 (by decide) ?_
  refine qe_iadd c0_220 ?_
  refine qe_script c0_221 e13 e15 ?_
  refine qe_aload_n c0_222 rfl ?_
  refine qe_iload_n c0_223 rfl ?_
  refine qe_iconst (x := 3) c0_224 (by decide) ?_
  refine qe_iadd c0_225 ?_
  refine qe_script c0_226 e13 e16 ?_
  refine qe_virtual (b := r2) (as := [.int (f12 ((x3 + 1) : Int32).toNatClampNeg), .int (f12 ((x3 + 2) : Int32).toNatClampNeg), .int (f12 ((x3 + 3) : Int32).toNatClampNeg)]) (r := [.int z9]) (v := (some (.int z19))) (h2 := h2) c0_227 qo0 qK13_17 rfl rfl rfl (by rw [qo171]; exact e18) (Nat.le_of_ble_eq_true rfl) e20 ?_
  refine qe_icmp_eq_F (t := 1463) c0_230 rfl e21 ?_
  exact kk
theorem b0_192T {d : Nat} {q : Option Value × qH} {h : qH} {r0 : Nat} {r1 : Nat} {r2 : Nat} {x3 : Int32} {n1 : Nat} {f2 : Nat → Int32} {fs7 : List Value} {h1 : qH} {z9 : Int32} {n11 : Nat} {f12 : Nat → Int32} {fs17 : List Value} {h2 : qH} {z19 : Int32}  (e3 : h.2.2 r0 = some (.inl (8, n1, .inl f2))) (e4 : 0 ≤ ((x3 + 1) : Int32).toInt ∧ ((x3 + 1) : Int32).toInt < (n1 : Nat)) (e5 : 0 ≤ ((x3 + 2) : Int32).toInt ∧ ((x3 + 2) : Int32).toInt < (n1 : Nat)) (e6 : 0 ≤ ((x3 + 3) : Int32).toInt ∧ ((x3 + 3) : Int32).toInt < (n1 : Nat)) (e8 : h.2.2 r1 = some (.inr (11, fs7))) (e10 : qCall d 71 [.ref r1, .int (f2 ((x3 + 1) : Int32).toNatClampNeg), .int (f2 ((x3 + 2) : Int32).toNatClampNeg), .int (f2 ((x3 + 3) : Int32).toNatClampNeg)] h ((some (.int z9)), h1)) (e13 : h1.2.2 r0 = some (.inl (8, n11, .inl f12))) (e14 : 0 ≤ ((x3 + 1) : Int32).toInt ∧ ((x3 + 1) : Int32).toInt < (n11 : Nat)) (e15 : 0 ≤ ((x3 + 2) : Int32).toInt ∧ ((x3 + 2) : Int32).toInt < (n11 : Nat)) (e16 : 0 ≤ ((x3 + 3) : Int32).toInt ∧ ((x3 + 3) : Int32).toInt < (n11 : Nat)) (e18 : h1.2.2 r2 = some (.inr (12, fs17))) (e20 : qCall d 171 [.ref r2, .int (f12 ((x3 + 1) : Int32).toNatClampNeg), .int (f12 ((x3 + 2) : Int32).toNatClampNeg), .int (f12 ((x3 + 3) : Int32).toNatClampNeg)] h1 ((some (.int z19)), h2)) (e21 : (z9 : Int32) = z19) (kk : qE d 0 1463 [some (.ref r0), some (.ref r1), some (.ref r2), some (.int x3)] [] h2 q): qE d 0 192 [some (.ref r0), some (.ref r1), some (.ref r2), some (.int x3)] [] h q := by
  refine qe_aload_n c0_192 rfl ?_
  refine qe_aload_n c0_193 rfl ?_
  refine qe_iload_n c0_194 rfl ?_
  refine qe_iconst (x := 1) c0_195 (by decide) ?_
  refine qe_iadd c0_196 ?_
  refine qe_script c0_197 e3 e4 ?_
  refine qe_aload_n c0_198 rfl ?_
  refine qe_iload_n c0_199 rfl ?_
  refine qe_iconst (x := 2) c0_200 (by decide) ?_
  refine qe_iadd c0_201 ?_
  refine qe_script c0_202 e3 e5 ?_
  refine qe_aload_n c0_203 rfl ?_
  refine qe_iload_n c0_204 rfl ?_
  refine qe_iconst (x := 3) c0_205 (by decide) ?_
  refine qe_iadd c0_206 ?_
  refine qe_script c0_207 e3 e6 ?_
  refine qe_virtual (b := r1) (as := [.int (f2 ((x3 + 1) : Int32).toNatClampNeg), .int (f2 ((x3 + 2) : Int32).toNatClampNeg), .int (f2 ((x3 + 3) : Int32).toNatClampNeg)]) (r := []) (v := (some (.int z9))) (h2 := h1) c0_208 qo0 qK13_13 rfl rfl rfl (by rw [qo71]; exact e8) (Nat.le_of_ble_eq_true rfl) e10 ?_
  refine qe_aload_n c0_211 rfl ?_
  refine qe_aload_n c0_212 rfl ?_
  refine qe_iload_n c0_213 rfl ?_
  refine qe_iconst (x := 1) c0_214 (by decide) ?_
  refine qe_iadd c0_215 ?_
  refine qe_script c0_216 e13 e14 ?_
  refine qe_aload_n c0_217 rfl ?_
  refine qe_iload_n c0_218 rfl ?_
  refine qe_iconst (x := 2) c0_219 (by decide) ?_
  refine qe_iadd c0_220 ?_
  refine qe_script c0_221 e13 e15 ?_
  refine qe_aload_n c0_222 rfl ?_
  refine qe_iload_n c0_223 rfl ?_
  refine qe_iconst (x := 3) c0_224 (by decide) ?_
  refine qe_iadd c0_225 ?_
  refine qe_script c0_226 e13 e16 ?_
  refine qe_virtual (b := r2) (as := [.int (f12 ((x3 + 1) : Int32).toNatClampNeg), .int (f12 ((x3 + 2) : Int32).toNatClampNeg), .int (f12 ((x3 + 3) : Int32).toNatClampNeg)]) (r := [.int z9]) (v := (some (.int z19))) (h2 := h2) c0_227 qo0 qK13_17 rfl rfl rfl (by rw [qo171]; exact e18) (Nat.le_of_ble_eq_true rfl) e20 ?_
  refine qe_icmp_eq_T (t := 1463) c0_230 rfl e21 ?_
  exact kk
theorem b0_233 {d : Nat} {h : qH} {r0 : Nat} {r1 : Nat} {r2 : Nat} {x3 : Int32}   : qE d 0 233 [some (.ref r0), some (.ref r1), some (.ref r2), some (.int x3)] [] h (some (.int 0), h) := by
  refine qe_iconst (x := 0) c0_233 (by decide) ?_
  exact qe_zret c0_234 qr0 (by decide)
theorem b0_235F {d : Nat} {q : Option Value × qH} {h : qH} {r0 : Nat} {r1 : Nat} {r2 : Nat} {x3 : Int32} {n1 : Nat} {f2 : Nat → Int32} {fs9 : List Value} {h1 : qH} {z11 : Int32} {n13 : Nat} {f14 : Nat → Int32} {fs21 : List Value} {h2 : qH} {z23 : Int32}  (e3 : h.2.2 r0 = some (.inl (8, n1, .inl f2))) (e4 : 0 ≤ ((x3 + 1) : Int32).toInt ∧ ((x3 + 1) : Int32).toInt < (n1 : Nat)) (e5 : 0 ≤ ((x3 + 2) : Int32).toInt ∧ ((x3 + 2) : Int32).toInt < (n1 : Nat)) (e6 : 0 ≤ ((x3 + 3) : Int32).toInt ∧ ((x3 + 3) : Int32).toInt < (n1 : Nat)) (e7 : 0 ≤ ((x3 + 4) : Int32).toInt ∧ ((x3 + 4) : Int32).toInt < (n1 : Nat)) (e8 : 0 ≤ ((x3 + 5) : Int32).toInt ∧ ((x3 + 5) : Int32).toInt < (n1 : Nat)) (e10 : h.2.2 r1 = some (.inr (11, fs9))) (e12 : qCall d 77 [.ref r1, .int (f2 ((x3 + 1) : Int32).toNatClampNeg), .int (f2 ((x3 + 2) : Int32).toNatClampNeg), .int (f2 ((x3 + 3) : Int32).toNatClampNeg), .int (f2 ((x3 + 4) : Int32).toNatClampNeg), .int (f2 ((x3 + 5) : Int32).toNatClampNeg)] h ((some (.int z11)), h1)) (e15 : h1.2.2 r0 = some (.inl (8, n13, .inl f14))) (e16 : 0 ≤ ((x3 + 1) : Int32).toInt ∧ ((x3 + 1) : Int32).toInt < (n13 : Nat)) (e17 : 0 ≤ ((x3 + 2) : Int32).toInt ∧ ((x3 + 2) : Int32).toInt < (n13 : Nat)) (e18 : 0 ≤ ((x3 + 3) : Int32).toInt ∧ ((x3 + 3) : Int32).toInt < (n13 : Nat)) (e19 : 0 ≤ ((x3 + 4) : Int32).toInt ∧ ((x3 + 4) : Int32).toInt < (n13 : Nat)) (e20 : 0 ≤ ((x3 + 5) : Int32).toInt ∧ ((x3 + 5) : Int32).toInt < (n13 : Nat)) (e22 : h1.2.2 r2 = some (.inr (12, fs21))) (e24 : qCall d 185 [.ref r2, .int (f14 ((x3 + 1) : Int32).toNatClampNeg), .int (f14 ((x3 + 2) : Int32).toNatClampNeg), .int (f14 ((x3 + 3) : Int32).toNatClampNeg), .int (f14 ((x3 + 4) : Int32).toNatClampNeg), .int (f14 ((x3 + 5) : Int32).toNatClampNeg)] h1 ((some (.int z23)), h2)) (e25 : ¬ ((z11 : Int32) = z23)) (kk : qE d 0 296 [some (.ref r0), some (.ref r1), some (.ref r2), some (.int x3)] [] h2 q): qE d 0 235 [some (.ref r0), some (.ref r1), some (.ref r2), some (.int x3)] [] h q := by
  refine qe_aload_n c0_235 rfl ?_
  refine qe_aload_n c0_236 rfl ?_
  refine qe_iload_n c0_237 rfl ?_
  refine qe_iconst (x := 1) c0_238 (by decide) ?_
  refine qe_iadd c0_239 ?_
  refine qe_script c0_240 e3 e4 ?_
  refine qe_aload_n c0_241 rfl ?_
  refine qe_iload_n c0_242 rfl ?_
  refine qe_iconst (x := 2) c0_243 (by decide) ?_
  refine qe_iadd c0_244 ?_
  refine qe_script c0_245 e3 e5 ?_
  refine qe_aload_n c0_246 rfl ?_
  refine qe_iload_n c0_247 rfl ?_
  refine qe_iconst (x := 3) c0_248 (by decide) ?_
  refine qe_iadd c0_249 ?_
  refine qe_script c0_250 e3 e6 ?_
  refine qe_aload_n c0_251 rfl ?_
  refine qe_iload_n c0_252 rfl ?_
  refine qe_iconst (x := 4) c0_253 (by decide) ?_
  refine qe_iadd c0_254 ?_
  refine qe_script c0_255 e3 e7 ?_
  refine qe_aload_n c0_256 rfl ?_
  refine qe_iload_n c0_257 rfl ?_
  refine qe_iconst (x := 5) c0_258 (by decide) ?_
  refine qe_iadd c0_259 ?_
  refine qe_script c0_260 e3 e8 ?_
  refine qe_virtual (b := r1) (as := [.int (f2 ((x3 + 1) : Int32).toNatClampNeg), .int (f2 ((x3 + 2) : Int32).toNatClampNeg), .int (f2 ((x3 + 3) : Int32).toNatClampNeg), .int (f2 ((x3 + 4) : Int32).toNatClampNeg), .int (f2 ((x3 + 5) : Int32).toNatClampNeg)]) (r := []) (v := (some (.int z11))) (h2 := h1) c0_261 qo0 qK13_18 rfl rfl rfl (by rw [qo77]; exact e10) (Nat.le_of_ble_eq_true rfl) e12 ?_
  refine qe_aload_n c0_264 rfl ?_
  refine qe_aload_n c0_265 rfl ?_
  refine qe_iload_n c0_266 rfl ?_
  refine qe_iconst (x := 1) c0_267 (by decide) ?_
  refine qe_iadd c0_268 ?_
  refine qe_script c0_269 e15 e16 ?_
  refine qe_aload_n c0_270 rfl ?_
  refine qe_iload_n c0_271 rfl ?_
  refine qe_iconst (x := 2) c0_272 (by decide) ?_
  refine qe_iadd c0_273 ?_
  refine qe_script c0_274 e15 e17 ?_
  refine qe_aload_n c0_275 rfl ?_
  refine qe_iload_n c0_276 rfl ?_
  refine qe_iconst (x := 3) c0_277 (by decide) ?_
  refine qe_iadd c0_278 ?_
  refine qe_script c0_279 e15 e18 ?_
  refine qe_aload_n c0_280 rfl ?_
  refine qe_iload_n c0_281 rfl ?_
  refine qe_iconst (x := 4) c0_282 (by decide) ?_
  refine qe_iadd c0_283 ?_
  refine qe_script c0_284 e15 e19 ?_
  refine qe_aload_n c0_285 rfl ?_
  refine qe_iload_n c0_286 rfl ?_
  refine qe_iconst (x := 5) c0_287 (by decide) ?_
  refine qe_iadd c0_288 ?_
  refine qe_script c0_289 e15 e20 ?_
  refine qe_virtual (b := r2) (as := [.int (f14 ((x3 + 1) : Int32).toNatClampNeg), .int (f14 ((x3 + 2) : Int32).toNatClampNeg), .int (f14 ((x3 + 3) : Int32).toNatClampNeg), .int (f14 ((x3 + 4) : Int32).toNatClampNeg), .int (f14 ((x3 + 5) : Int32).toNatClampNeg)]) (r := [.int z11]) (v := (some (.int z23))) (h2 := h2) c0_290 qo0 qK13_22 rfl rfl rfl (by rw [qo185]; exact e22) (Nat.le_of_ble_eq_true rfl) e24 ?_
  refine qe_icmp_eq_F (t := 1463) c0_293 rfl e25 ?_
  exact kk
theorem b0_235T {d : Nat} {q : Option Value × qH} {h : qH} {r0 : Nat} {r1 : Nat} {r2 : Nat} {x3 : Int32} {n1 : Nat} {f2 : Nat → Int32} {fs9 : List Value} {h1 : qH} {z11 : Int32} {n13 : Nat} {f14 : Nat → Int32} {fs21 : List Value} {h2 : qH} {z23 : Int32}  (e3 : h.2.2 r0 = some (.inl (8, n1, .inl f2))) (e4 : 0 ≤ ((x3 + 1) : Int32).toInt ∧ ((x3 + 1) : Int32).toInt < (n1 : Nat)) (e5 : 0 ≤ ((x3 + 2) : Int32).toInt ∧ ((x3 + 2) : Int32).toInt < (n1 : Nat)) (e6 : 0 ≤ ((x3 + 3) : Int32).toInt ∧ ((x3 + 3) : Int32).toInt < (n1 : Nat)) (e7 : 0 ≤ ((x3 + 4) : Int32).toInt ∧ ((x3 + 4) : Int32).toInt < (n1 : Nat)) (e8 : 0 ≤ ((x3 + 5) : Int32).toInt ∧ ((x3 + 5) : Int32).toInt < (n1 : Nat)) (e10 : h.2.2 r1 = some (.inr (11, fs9))) (e12 : qCall d 77 [.ref r1, .int (f2 ((x3 + 1) : Int32).toNatClampNeg), .int (f2 ((x3 + 2) : Int32).toNatClampNeg), .int (f2 ((x3 + 3) : Int32).toNatClampNeg), .int (f2 ((x3 + 4) : Int32).toNatClampNeg), .int (f2 ((x3 + 5) : Int32).toNatClampNeg)] h ((some (.int z11)), h1)) (e15 : h1.2.2 r0 = some (.inl (8, n13, .inl f14))) (e16 : 0 ≤ ((x3 + 1) : Int32).toInt ∧ ((x3 + 1) : Int32).toInt < (n13 : Nat)) (e17 : 0 ≤ ((x3 + 2) : Int32).toInt ∧ ((x3 + 2) : Int32).toInt < (n13 : Nat)) (e18 : 0 ≤ ((x3 + 3) : Int32).toInt ∧ ((x3 + 3) : Int32).toInt < (n13 : Nat)) (e19 : 0 ≤ ((x3 + 4) : Int32).toInt ∧ ((x3 + 4) : Int32).toInt < (n13 : Nat)) (e20 : 0 ≤ ((x3 + 5) : Int32).toInt ∧ ((x3 + 5) : Int32).toInt < (n13 : Nat)) (e22 : h1.2.2 r2 = some (.inr (12, fs21))) (e24 : qCall d 185 [.ref r2, .int (f14 ((x3 + 1) : Int32).toNatClampNeg), .int (f14 ((x3 + 2) : Int32).toNatClampNeg), .int (f14 ((x3 + 3) : Int32).toNatClampNeg), .int (f14 ((x3 + 4) : Int32).toNatClampNeg), .int (f14 ((x3 + 5) : Int32).toNatClampNeg)] h1 ((some (.int z23)), h2)) (e25 : (z11 : Int32) = z23) (kk : qE d 0 1463 [some (.ref r0), some (.ref r1), some (.ref r2), some (.int x3)] [] h2 q): qE d 0 235 [some (.ref r0), some (.ref r1), some (.ref r2), some (.int x3)] [] h q := by
  refine qe_aload_n c0_235 rfl ?_
  refine qe_aload_n c0_236 rfl ?_
  refine qe_iload_n c0_237 rfl ?_
  refine qe_iconst (x := 1) c0_238 (by decide) ?_
  refine qe_iadd c0_239 ?_
  refine qe_script c0_240 e3 e4 ?_
  refine qe_aload_n c0_241 rfl ?_
  refine qe_iload_n c0_242 rfl ?_
  refine qe_iconst (x := 2) c0_243 (by decide) ?_
  refine qe_iadd c0_244 ?_
  refine qe_script c0_245 e3 e5 ?_
  refine qe_aload_n c0_246 rfl ?_
  refine qe_iload_n c0_247 rfl ?_
  refine qe_iconst (x := 3) c0_248 (by decide) ?_
  refine qe_iadd c0_249 ?_
  refine qe_script c0_250 e3 e6 ?_
  refine qe_aload_n c0_251 rfl ?_
  refine qe_iload_n c0_252 rfl ?_
  refine qe_iconst (x := 4) c0_253 (by decide) ?_
  refine qe_iadd c0_254 ?_
  refine qe_script c0_255 e3 e7 ?_
  refine qe_aload_n c0_256 rfl ?_
  refine qe_iload_n c0_257 rfl ?_
  refine qe_iconst (x := 5) c0_258 (by decide) ?_
  refine qe_iadd c0_259 ?_
  refine qe_script c0_260 e3 e8 ?_
  refine qe_virtual (b := r1) (as := [.int (f2 ((x3 + 1) : Int32).toNatClampNeg), .int (f2 ((x3 + 2) : Int32).toNatClampNeg), .int (f2 ((x3 + 3) : Int32).toNatClampNeg), .int (f2 ((x3 + 4) : Int32).toNatClampNeg), .int (f2 ((x3 + 5) : Int32).toNatClampNeg)]) (r := []) (v := (some (.int z11))) (h2 := h1) c0_261 qo0 qK13_18 rfl rfl rfl (by rw [qo77]; exact e10) (Nat.le_of_ble_eq_true rfl) e12 ?_
  refine qe_aload_n c0_264 rfl ?_
  refine qe_aload_n c0_265 rfl ?_
  refine qe_iload_n c0_266 rfl ?_
  refine qe_iconst (x := 1) c0_267 (by decide) ?_
  refine qe_iadd c0_268 ?_
  refine qe_script c0_269 e15 e16 ?_
  refine qe_aload_n c0_270 rfl ?_
  refine qe_iload_n c0_271 rfl ?_
  refine qe_iconst (x := 2) c0_272 (by decide) ?_
  refine qe_iadd c0_273 ?_
  refine qe_script c0_274 e15 e17 ?_
  refine qe_aload_n c0_275 rfl ?_
  refine qe_iload_n c0_276 rfl ?_
  refine qe_iconst (x := 3) c0_277 (by decide) ?_
  refine qe_iadd c0_278 ?_
  refine qe_script c0_279 e15 e18 ?_
  refine qe_aload_n c0_280 rfl ?_
  refine qe_iload_n c0_281 rfl ?_
  refine qe_iconst (x := 4) c0_282 (by decide) ?_
  refine qe_iadd c0_283 ?_
  refine qe_script c0_284 e15 e19 ?_
  refine qe_aload_n c0_285 rfl ?_
  refine qe_iload_n c0_286 rfl ?_
  refine qe_iconst (x := 5) c0_287 (by decide) ?_
  refine qe_iadd c0_288 ?_
  refine qe_script c0_289 e15 e20 ?_
  refine qe_virtual (b := r2) (as := [.int (f14 ((x3 + 1) : Int32).toNatClampNeg), .int (f14 ((x3 + 2) : Int32).toNatClampNeg), .int (f14 ((x3 + 3) : Int32).toNatClampNeg), .int (f14 ((x3 + 4) : Int32).toNatClampNeg), .int (f14 ((x3 + 5) : Int32).toNatClampNeg)]) (r := [.int z11]) (v := (some (.int z23))) (h2 := h2) c0_290 qo0 qK13_22 rfl rfl rfl (by rw [qo185]; exact e22) (Nat.le_of_ble_eq_true rfl) e24 ?_
  refine qe_icmp_eq_T (t := 1463) c0_293 rfl e25 ?_
  exact kk
theorem b0_296 {d : Nat} {h : qH} {r0 : Nat} {r1 : Nat} {r2 : Nat} {x3 : Int32}   : qE d 0 296 [some (.ref r0), some (.ref r1), some (.ref r2), some (.int x3)] [] h (some (.int 0), h) := by
  refine qe_iconst (x := 0) c0_296 (by decide) ?_
  exact qe_zret c0_297 qr0 (by decide)
theorem b0_298F {d : Nat} {q : Option Value × qH} {h : qH} {r0 : Nat} {r1 : Nat} {r2 : Nat} {x3 : Int32} {n1 : Nat} {f2 : Nat → Int32} {fs7 : List Value} {h1 : qH} {z9 : Int32} {n11 : Nat} {f12 : Nat → Int32} {fs17 : List Value} {h2 : qH} {z19 : Int32}  (e3 : h.2.2 r0 = some (.inl (8, n1, .inl f2))) (e4 : 0 ≤ ((x3 + 1) : Int32).toInt ∧ ((x3 + 1) : Int32).toInt < (n1 : Nat)) (e5 : 0 ≤ ((x3 + 2) : Int32).toInt ∧ ((x3 + 2) : Int32).toInt < (n1 : Nat)) (e6 : 0 ≤ ((x3 + 3) : Int32).toInt ∧ ((x3 + 3) : Int32).toInt < (n1 : Nat)) (e8 : h.2.2 r1 = some (.inr (11, fs7))) (e10 : qCall d 81 [.ref r1, .int (f2 ((x3 + 1) : Int32).toNatClampNeg), .int (f2 ((x3 + 2) : Int32).toNatClampNeg), .int (f2 ((x3 + 3) : Int32).toNatClampNeg)] h ((some (.int z9)), h1)) (e13 : h1.2.2 r0 = some (.inl (8, n11, .inl f12))) (e14 : 0 ≤ ((x3 + 1) : Int32).toInt ∧ ((x3 + 1) : Int32).toInt < (n11 : Nat)) (e15 : 0 ≤ ((x3 + 2) : Int32).toInt ∧ ((x3 + 2) : Int32).toInt < (n11 : Nat)) (e16 : 0 ≤ ((x3 + 3) : Int32).toInt ∧ ((x3 + 3) : Int32).toInt < (n11 : Nat)) (e18 : h1.2.2 r2 = some (.inr (12, fs17))) (e20 : qCall d 188 [.ref r2, .int (f12 ((x3 + 1) : Int32).toNatClampNeg), .int (f12 ((x3 + 2) : Int32).toNatClampNeg), .int (f12 ((x3 + 3) : Int32).toNatClampNeg)] h1 ((some (.int z19)), h2)) (e21 : ¬ ((z9 : Int32) = z19)) (kk : qE d 0 339 [some (.ref r0), some (.ref r1), some (.ref r2), some (.int x3)] [] h2 q): qE d 0 298 [some (.ref r0), some (.ref r1), some (.ref r2), some (.int x3)] [] h q := by
  refine qe_aload_n c0_298 rfl ?_
  refine qe_aload_n c0_299 rfl ?_
  refine qe_iload_n c0_300 rfl ?_
  refine qe_iconst (x := 1) c0_301 (by decide) ?_
  refine qe_iadd c0_302 ?_
  refine qe_script c0_303 e3 e4 ?_
  refine qe_aload_n c0_304 rfl ?_
  refine qe_iload_n c0_305 rfl ?_
  refine qe_iconst (x := 2) c0_306 (by decide) ?_
  refine qe_iadd c0_307 ?_
  refine qe_script c0_308 e3 e5 ?_
  refine qe_aload_n c0_309 rfl ?_
  refine qe_iload_n c0_310 rfl ?_
  refine qe_iconst (x := 3) c0_311 (by decide) ?_
  refine qe_iadd c0_312 ?_
  refine qe_script c0_313 e3 e6 ?_
  refine qe_virtual (b := r1) (as := [.int (f2 ((x3 + 1) : Int32).toNatClampNeg), .int (f2 ((x3 + 2) : Int32).toNatClampNeg), .int (f2 ((x3 + 3) : Int32).toNatClampNeg)]) (r := []) (v := (some (.int z9))) (h2 := h1) c0_314 qo0 qK13_23 rfl rfl rfl (by rw [qo81]; exact e8) (Nat.le_of_ble_eq_true rfl) e10 ?_
  refine qe_aload_n c0_317 rfl ?_
  refine qe_aload_n c0_318 rfl ?_
  refine qe_iload_n c0_319 rfl ?_
  refine qe_iconst (x := 1) c0_320 (by decide) ?_
  refine qe_iadd c0_321 ?_
  refine qe_script c0_322 e13 e14 ?_
  refine qe_aload_n c0_323 rfl ?_
  refine qe_iload_n c0_324 rfl ?_
  refine qe_iconst (x := 2) c0_325 (by decide) ?_
  refine qe_iadd c0_326 ?_
  refine qe_script c0_327 e13 e15 ?_
  refine qe_aload_n c0_328 rfl ?_
  refine qe_iload_n c0_329 rfl ?_
  refine qe_iconst (x := 3) c0_330 (by decide) ?_
  refine qe_iadd c0_331 ?_
  refine qe_script c0_332 e13 e16 ?_
  refine qe_virtual (b := r2) (as := [.int (f12 ((x3 + 1) : Int32).toNatClampNeg), .int (f12 ((x3 + 2) : Int32).toNatClampNeg), .int (f12 ((x3 + 3) : Int32).toNatClampNeg)]) (r := [.int z9]) (v := (some (.int z19))) (h2 := h2) c0_333 qo0 qK13_26 rfl rfl rfl (by rw [qo188]; exact e18) (Nat.le_of_ble_eq_true rfl) e20 ?_
  refine qe_icmp_eq_F (t := 1463) c0_336 rfl e21 ?_
  exact kk
theorem b0_298T {d : Nat} {q : Option Value × qH} {h : qH} {r0 : Nat} {r1 : Nat} {r2 : Nat} {x3 : Int32} {n1 : Nat} {f2 : Nat → Int32} {fs7 : List Value} {h1 : qH} {z9 : Int32} {n11 : Nat} {f12 : Nat → Int32} {fs17 : List Value} {h2 : qH} {z19 : Int32}  (e3 : h.2.2 r0 = some (.inl (8, n1, .inl f2))) (e4 : 0 ≤ ((x3 + 1) : Int32).toInt ∧ ((x3 + 1) : Int32).toInt < (n1 : Nat)) (e5 : 0 ≤ ((x3 + 2) : Int32).toInt ∧ ((x3 + 2) : Int32).toInt < (n1 : Nat)) (e6 : 0 ≤ ((x3 + 3) : Int32).toInt ∧ ((x3 + 3) : Int32).toInt < (n1 : Nat)) (e8 : h.2.2 r1 = some (.inr (11, fs7))) (e10 : qCall d 81 [.ref r1, .int (f2 ((x3 + 1) : Int32).toNatClampNeg), .int (f2 ((x3 + 2) : Int32).toNatClampNeg), .int (f2 ((x3 + 3) : Int32).toNatClampNeg)] h ((some (.int z9)), h1)) (e13 : h1.2.2 r0 = some (.inl (8, n11, .inl f12))) (e14 : 0 ≤ ((x3 + 1) : Int32).toInt ∧ ((x3 + 1) : Int32).toInt < (n11 : Nat)) (e15 : 0 ≤ ((x3 + 2) : Int32).toInt ∧ ((x3 + 2) : Int32).toInt < (n11 : Nat)) (e16 : 0 ≤ ((x3 + 3) : Int32).toInt ∧ ((x3 + 3) : Int32).toInt < (n11 : Nat)) (e18 : h1.2.2 r2 = some (.inr (12, fs17))) (e20 : qCall d 188 [.ref r2, .int (f12 ((x3 + 1) : Int32).toNatClampNeg), .int (f12 ((x3 + 2) : Int32).toNatClampNeg), .int (f12 ((x3 + 3) : Int32).toNatClampNeg)] h1 ((some (.int z19)), h2)) (e21 : (z9 : Int32) = z19) (kk : qE d 0 1463 [some (.ref r0), some (.ref r1), some (.ref r2), some (.int x3)] [] h2 q): qE d 0 298 [some (.ref r0), some (.ref r1), some (.ref r2), some (.int x3)] [] h q := by
  refine qe_aload_n c0_298 rfl ?_
  refine qe_aload_n c0_299 rfl ?_
  refine qe_iload_n c0_300 rfl ?_
  refine qe_iconst (x := 1) c0_301 (by decide) ?_
  refine qe_iadd c0_302 ?_
  refine qe_script c0_303 e3 e4 ?_
  refine qe_aload_n c0_304 rfl ?_
  refine qe_iload_n c0_305 rfl ?_
  refine qe_iconst (x := 2) c0_306 (by decide) ?_
  refine qe_iadd c0_307 ?_
  refine qe_script c0_308 e3 e5 ?_
  refine qe_aload_n c0_309 rfl ?_
  refine qe_iload_n c0_310 rfl ?_
  refine qe_iconst (x := 3) c0_311 (by decide) ?_
  refine qe_iadd c0_312 ?_
  refine qe_script c0_313 e3 e6 ?_
  refine qe_virtual (b := r1) (as := [.int (f2 ((x3 + 1) : Int32).toNatClampNeg), .int (f2 ((x3 + 2) : Int32).toNatClampNeg), .int (f2 ((x3 + 3) : Int32).toNatClampNeg)]) (r := []) (v := (some (.int z9))) (h2 := h1) c0_314 qo0 qK13_23 rfl rfl rfl (by rw [qo81]; exact e8) (Nat.le_of_ble_eq_true rfl) e10 ?_
  refine qe_aload_n c0_317 rfl ?_
  refine qe_aload_n c0_318 rfl ?_
  refine qe_iload_n c0_319 rfl ?_
  refine qe_iconst (x := 1) c0_320 (by decide) ?_
  refine qe_iadd c0_321 ?_
  refine qe_script c0_322 e13 e14 ?_
  refine qe_aload_n c0_323 rfl ?_
  refine qe_iload_n c0_324 rfl ?_
  refine qe_iconst (x := 2) c0_325 (by decide) ?_
  refine qe_iadd c0_326 ?_
  refine qe_script c0_327 e13 e15 ?_
  refine qe_aload_n c0_328 rfl ?_
  refine qe_iload_n c0_329 rfl ?_
  refine qe_iconst (x := 3) c0_330 (by decide) ?_
  refine qe_iadd c0_331 ?_
  refine qe_script c0_332 e13 e16 ?_
  refine qe_virtual (b := r2) (as := [.int (f12 ((x3 + 1) : Int32).toNatClampNeg), .int (f12 ((x3 + 2) : Int32).toNatClampNeg), .int (f12 ((x3 + 3) : Int32).toNatClampNeg)]) (r := [.int z9]) (v := (some (.int z19))) (h2 := h2) c0_333 qo0 qK13_26 rfl rfl rfl (by rw [qo188]; exact e18) (Nat.le_of_ble_eq_true rfl) e20 ?_
  refine qe_icmp_eq_T (t := 1463) c0_336 rfl e21 ?_
  exact kk
theorem b0_339 {d : Nat} {h : qH} {r0 : Nat} {r1 : Nat} {r2 : Nat} {x3 : Int32}   : qE d 0 339 [some (.ref r0), some (.ref r1), some (.ref r2), some (.int x3)] [] h (some (.int 0), h) := by
  refine qe_iconst (x := 0) c0_339 (by decide) ?_
  exact qe_zret c0_340 qr0 (by decide)
theorem b0_341F {d : Nat} {q : Option Value × qH} {h : qH} {r0 : Nat} {r1 : Nat} {r2 : Nat} {x3 : Int32} {n1 : Nat} {f2 : Nat → Int32} {fs6 : List Value} {h1 : qH} {z8 : Int32} {n10 : Nat} {f11 : Nat → Int32} {fs15 : List Value} {h2 : qH} {z17 : Int32}  (e3 : h.2.2 r0 = some (.inl (8, n1, .inl f2))) (e4 : 0 ≤ ((x3 + 1) : Int32).toInt ∧ ((x3 + 1) : Int32).toInt < (n1 : Nat)) (e5 : 0 ≤ ((x3 + 2) : Int32).toInt ∧ ((x3 + 2) : Int32).toInt < (n1 : Nat)) (e7 : h.2.2 r1 = some (.inr (11, fs6))) (e9 : qCall d 75 [.ref r1, .int (f2 ((x3 + 1) : Int32).toNatClampNeg), .int (f2 ((x3 + 2) : Int32).toNatClampNeg)] h ((some (.int z8)), h1)) (e12 : h1.2.2 r0 = some (.inl (8, n10, .inl f11))) (e13 : 0 ≤ ((x3 + 1) : Int32).toInt ∧ ((x3 + 1) : Int32).toInt < (n10 : Nat)) (e14 : 0 ≤ ((x3 + 2) : Int32).toInt ∧ ((x3 + 2) : Int32).toInt < (n10 : Nat)) (e16 : h1.2.2 r2 = some (.inr (12, fs15))) (e18 : qCall d 180 [.ref r2, .int (f11 ((x3 + 1) : Int32).toNatClampNeg), .int (f11 ((x3 + 2) : Int32).toNatClampNeg)] h1 ((some (.int z17)), h2)) (e19 : ¬ ((z8 : Int32) = z17)) (kk : qE d 0 372 [some (.ref r0), some (.ref r1), some (.ref r2), some (.int x3)] [] h2 q): qE d 0 341 [some (.ref r0), some (.ref r1), some (.ref r2), some (.int x3)] [] h q := by
  refine qe_aload_n c0_341 rfl ?_
  refine qe_aload_n c0_342 rfl ?_
  refine qe_iload_n c0_343 rfl ?_
  refine qe_iconst (x := 1) c0_344 (by decide) ?_
  refine qe_iadd c0_345 ?_
  refine qe_script c0_346 e3 e4 ?_
  refine qe_aload_n c0_347 rfl ?_
  refine qe_iload_n c0_348 rfl ?_
  refine qe_iconst (x := 2) c0_349 (by decide) ?_
  refine qe_iadd c0_350 ?_
  refine qe_script c0_351 e3 e5 ?_
  refine qe_virtual (b := r1) (as := [.int (f2 ((x3 + 1) : Int32).toNatClampNeg), .int (f2 ((x3 + 2) : Int32).toNatClampNeg)]) (r := []) (v := (some (.int z8))) (h2 := h1) c0_352 qo0 qK13_27 rfl rfl rfl (by rw [qo75]; exact e7) (Nat.le_of_ble_eq_true rfl) e9 ?_
  refine qe_aload_n c0_355 rfl ?_
  refine qe_aload_n c0_356 rfl ?_
  refine qe_iload_n c0_357 rfl ?_
  refine qe_iconst (x := 1) c0_358 (by decide) ?_
  refine qe_iadd c0_359 ?_
  refine qe_script c0_360 e12 e13 ?_
  refine qe_aload_n c0_361 rfl ?_
  refine qe_iload_n c0_362 rfl ?_
  refine qe_iconst (x := 2) c0_363 (by decide) ?_
  refine qe_iadd c0_364 ?_
  refine qe_script c0_365 e12 e14 ?_
  refine qe_virtual (b := r2) (as := [.int (f11 ((x3 + 1) : Int32).toNatClampNeg), .int (f11 ((x3 + 2) : Int32).toNatClampNeg)]) (r := [.int z8]) (v := (some (.int z17))) (h2 := h2) c0_366 qo0 qK13_31 rfl rfl rfl (by rw [qo180]; exact e16) (Nat.le_of_ble_eq_true rfl) e18 ?_
  refine qe_icmp_eq_F (t := 1463) c0_369 rfl e19 ?_
  exact kk
theorem b0_341T {d : Nat} {q : Option Value × qH} {h : qH} {r0 : Nat} {r1 : Nat} {r2 : Nat} {x3 : Int32} {n1 : Nat} {f2 : Nat → Int32} {fs6 : List Value} {h1 : qH} {z8 : Int32} {n10 : Nat} {f11 : Nat → Int32} {fs15 : List Value} {h2 : qH} {z17 : Int32}  (e3 : h.2.2 r0 = some (.inl (8, n1, .inl f2))) (e4 : 0 ≤ ((x3 + 1) : Int32).toInt ∧ ((x3 + 1) : Int32).toInt < (n1 : Nat)) (e5 : 0 ≤ ((x3 + 2) : Int32).toInt ∧ ((x3 + 2) : Int32).toInt < (n1 : Nat)) (e7 : h.2.2 r1 = some (.inr (11, fs6))) (e9 : qCall d 75 [.ref r1, .int (f2 ((x3 + 1) : Int32).toNatClampNeg), .int (f2 ((x3 + 2) : Int32).toNatClampNeg)] h ((some (.int z8)), h1)) (e12 : h1.2.2 r0 = some (.inl (8, n10, .inl f11))) (e13 : 0 ≤ ((x3 + 1) : Int32).toInt ∧ ((x3 + 1) : Int32).toInt < (n10 : Nat)) (e14 : 0 ≤ ((x3 + 2) : Int32).toInt ∧ ((x3 + 2) : Int32).toInt < (n10 : Nat)) (e16 : h1.2.2 r2 = some (.inr (12, fs15))) (e18 : qCall d 180 [.ref r2, .int (f11 ((x3 + 1) : Int32).toNatClampNeg), .int (f11 ((x3 + 2) : Int32).toNatClampNeg)] h1 ((some (.int z17)), h2)) (e19 : (z8 : Int32) = z17) (kk : qE d 0 1463 [some (.ref r0), some (.ref r1), some (.ref r2), some (.int x3)] [] h2 q): qE d 0 341 [some (.ref r0), some (.ref r1), some (.ref r2), some (.int x3)] [] h q := by
  refine qe_aload_n c0_341 rfl ?_
  refine qe_aload_n c0_342 rfl ?_
  refine qe_iload_n c0_343 rfl ?_
  refine qe_iconst (x := 1) c0_344 (by decide) ?_
  refine qe_iadd c0_345 ?_
  refine qe_script c0_346 e3 e4 ?_
  refine qe_aload_n c0_347 rfl ?_
  refine qe_iload_n c0_348 rfl ?_
  refine qe_iconst (x := 2) c0_349 (by decide) ?_
  refine qe_iadd c0_350 ?_
  refine qe_script c0_351 e3 e5 ?_
  refine qe_virtual (b := r1) (as := [.int (f2 ((x3 + 1) : Int32).toNatClampNeg), .int (f2 ((x3 + 2) : Int32).toNatClampNeg)]) (r := []) (v := (some (.int z8))) (h2 := h1) c0_352 qo0 qK13_27 rfl rfl rfl (by rw [qo75]; exact e7) (Nat.le_of_ble_eq_true rfl) e9 ?_
  refine qe_aload_n c0_355 rfl ?_
  refine qe_aload_n c0_356 rfl ?_
  refine qe_iload_n c0_357 rfl ?_
  refine qe_iconst (x := 1) c0_358 (by decide) ?_
  refine qe_iadd c0_359 ?_
  refine qe_script c0_360 e12 e13 ?_
  refine qe_aload_n c0_361 rfl ?_
  refine qe_iload_n c0_362 rfl ?_
  refine qe_iconst (x := 2) c0_363 (by decide) ?_
  refine qe_iadd c0_364 ?_
  refine qe_script c0_365 e12 e14 ?_
  refine qe_virtual (b := r2) (as := [.int (f11 ((x3 + 1) : Int32).toNatClampNeg), .int (f11 ((x3 + 2) : Int32).toNatClampNeg)]) (r := [.int z8]) (v := (some (.int z17))) (h2 := h2) c0_366 qo0 qK13_31 rfl rfl rfl (by rw [qo180]; exact e16) (Nat.le_of_ble_eq_true rfl) e18 ?_
  refine qe_icmp_eq_T (t := 1463) c0_369 rfl e19 ?_
  exact kk
theorem b0_372 {d : Nat} {h : qH} {r0 : Nat} {r1 : Nat} {r2 : Nat} {x3 : Int32}   : qE d 0 372 [some (.ref r0), some (.ref r1), some (.ref r2), some (.int x3)] [] h (some (.int 0), h) := by
  refine qe_iconst (x := 0) c0_372 (by decide) ?_
  exact qe_zret c0_373 qr0 (by decide)
theorem b0_374F {d : Nat} {q : Option Value × qH} {h : qH} {r0 : Nat} {r1 : Nat} {r2 : Nat} {x3 : Int32} {n1 : Nat} {f2 : Nat → Int32} {fs5 : List Value} {h1 : qH} {z7 : Int32} {n9 : Nat} {f10 : Nat → Int32} {fs13 : List Value} {h2 : qH} {z15 : Int32}  (e3 : h.2.2 r0 = some (.inl (8, n1, .inl f2))) (e4 : 0 ≤ ((x3 + 1) : Int32).toInt ∧ ((x3 + 1) : Int32).toInt < (n1 : Nat)) (e6 : h.2.2 r1 = some (.inr (11, fs5))) (e8 : qCall d 38 [.ref r1, .int (f2 ((x3 + 1) : Int32).toNatClampNeg)] h ((some (.int z7)), h1)) (e11 : h1.2.2 r0 = some (.inl (8, n9, .inl f10))) (e12 : 0 ≤ ((x3 + 1) : Int32).toInt ∧ ((x3 + 1) : Int32).toInt < (n9 : Nat)) (e14 : h1.2.2 r2 = some (.inr (12, fs13))) (e16 : qCall d 95 [.ref r2, .int (f10 ((x3 + 1) : Int32).toNatClampNeg)] h1 ((some (.int z15)), h2)) (e17 : ¬ ((z7 : Int32) = z15)) (kk : qE d 0 395 [some (.ref r0), some (.ref r1), some (.ref r2), some (.int x3)] [] h2 q): qE d 0 374 [some (.ref r0), some (.ref r1), some (.ref r2), some (.int x3)] [] h q := by
  refine qe_aload_n c0_374 rfl ?_
  refine qe_aload_n c0_375 rfl ?_
  refine qe_iload_n c0_376 rfl ?_
  refine qe_iconst (x := 1) c0_377 (by decide) ?_
  refine qe_iadd c0_378 ?_
  refine qe_script c0_379 e3 e4 ?_
  refine qe_virtual (b := r1) (as := [.int (f2 ((x3 + 1) : Int32).toNatClampNeg)]) (r := []) (v := (some (.int z7))) (h2 := h1) c0_380 qo0 qK13_32 rfl rfl rfl (by rw [qo38]; exact e6) (Nat.le_of_ble_eq_true rfl) e8 ?_
  refine qe_aload_n c0_383 rfl ?_
  refine qe_aload_n c0_384 rfl ?_
  refine qe_iload_n c0_385 rfl ?_
  refine qe_iconst (x := 1) c0_386 (by decide) ?_
  refine qe_iadd c0_387 ?_
  refine qe_script c0_388 e11 e12 ?_
  refine qe_virtual (b := r2) (as := [.int (f10 ((x3 + 1) : Int32).toNatClampNeg)]) (r := [.int z7]) (v := (some (.int z15))) (h2 := h2) c0_389 qo0 qK13_36 rfl rfl rfl (by rw [qo95]; exact e14) (Nat.le_of_ble_eq_true rfl) e16 ?_
  refine qe_icmp_eq_F (t := 1463) c0_392 rfl e17 ?_
  exact kk
theorem b0_374T {d : Nat} {q : Option Value × qH} {h : qH} {r0 : Nat} {r1 : Nat} {r2 : Nat} {x3 : Int32} {n1 : Nat} {f2 : Nat → Int32} {fs5 : List Value} {h1 : qH} {z7 : Int32} {n9 : Nat} {f10 : Nat → Int32} {fs13 : List Value} {h2 : qH} {z15 : Int32}  (e3 : h.2.2 r0 = some (.inl (8, n1, .inl f2))) (e4 : 0 ≤ ((x3 + 1) : Int32).toInt ∧ ((x3 + 1) : Int32).toInt < (n1 : Nat)) (e6 : h.2.2 r1 = some (.inr (11, fs5))) (e8 : qCall d 38 [.ref r1, .int (f2 ((x3 + 1) : Int32).toNatClampNeg)] h ((some (.int z7)), h1)) (e11 : h1.2.2 r0 = some (.inl (8, n9, .inl f10))) (e12 : 0 ≤ ((x3 + 1) : Int32).toInt ∧ ((x3 + 1) : Int32).toInt < (n9 : Nat)) (e14 : h1.2.2 r2 = some (.inr (12, fs13))) (e16 : qCall d 95 [.ref r2, .int (f10 ((x3 + 1) : Int32).toNatClampNeg)] h1 ((some (.int z15)), h2)) (e17 : (z7 : Int32) = z15) (kk : qE d 0 1463 [some (.ref r0), some (.ref r1), some (.ref r2), some (.int x3)] [] h2 q): qE d 0 374 [some (.ref r0), some (.ref r1), some (.ref r2), some (.int x3)] [] h q := by
  refine qe_aload_n c0_374 rfl ?_
  refine qe_aload_n c0_375 rfl ?_
  refine qe_iload_n c0_376 rfl ?_
  refine qe_iconst (x := 1) c0_377 (by decide) ?_
  refine qe_iadd c0_378 ?_
  refine qe_script c0_379 e3 e4 ?_
  refine qe_virtual (b := r1) (as := [.int (f2 ((x3 + 1) : Int32).toNatClampNeg)]) (r := []) (v := (some (.int z7))) (h2 := h1) c0_380 qo0 qK13_32 rfl rfl rfl (by rw [qo38]; exact e6) (Nat.le_of_ble_eq_true rfl) e8 ?_
  refine qe_aload_n c0_383 rfl ?_
  refine qe_aload_n c0_384 rfl ?_
  refine qe_iload_n c0_385 rfl ?_
  refine qe_iconst (x := 1) c0_386 (by decide) ?_
  refine qe_iadd c0_387 ?_
  refine qe_script c0_388 e11 e12 ?_
  refine qe_virtual (b := r2) (as := [.int (f10 ((x3 + 1) : Int32).toNatClampNeg)]) (r := [.int z7]) (v := (some (.int z15))) (h2 := h2) c0_389 qo0 qK13_36 rfl rfl rfl (by rw [qo95]; exact e14) (Nat.le_of_ble_eq_true rfl) e16 ?_
  refine qe_icmp_eq_T (t := 1463) c0_392 rfl e17 ?_
  exact kk
theorem b0_395 {d : Nat} {h : qH} {r0 : Nat} {r1 : Nat} {r2 : Nat} {x3 : Int32}   : qE d 0 395 [some (.ref r0), some (.ref r1), some (.ref r2), some (.int x3)] [] h (some (.int 0), h) := by
  refine qe_iconst (x := 0) c0_395 (by decide) ?_
  exact qe_zret c0_396 qr0 (by decide)
theorem b0_397F {d : Nat} {q : Option Value × qH} {h : qH} {r0 : Nat} {r1 : Nat} {r2 : Nat} {x3 : Int32} {n1 : Nat} {f2 : Nat → Int32}  (e3 : h.2.2 r0 = some (.inl (8, n1, .inl f2))) (e4 : 0 ≤ ((x3 + 1) : Int32).toInt ∧ ((x3 + 1) : Int32).toInt < (n1 : Nat)) (e5 : 0 ≤ ((x3 + 2) : Int32).toInt ∧ ((x3 + 2) : Int32).toInt < (n1 : Nat)) (e6 : ¬ (((f2 ((x3 + 2) : Int32).toNatClampNeg) : Int32) = 0)) (kk : qE d 0 411 [some (.ref r0), some (.ref r1), some (.ref r2), some (.int x3)] [.int (f2 ((x3 + 1) : Int32).toNatClampNeg), .ref r1] h q): qE d 0 397 [some (.ref r0), some (.ref r1), some (.ref r2), some (.int x3)] [] h q := by
  refine qe_aload_n c0_397 rfl ?_
  refine qe_aload_n c0_398 rfl ?_
  refine qe_iload_n c0_399 rfl ?_
  refine qe_iconst (x := 1) c0_400 (by decide) ?_
  refine qe_iadd c0_401 ?_
  refine qe_script c0_402 e3 e4 ?_
  refine qe_aload_n c0_403 rfl ?_
  refine qe_iload_n c0_404 rfl ?_
  refine qe_iconst (x := 2) c0_405 (by decide) ?_
  refine qe_iadd c0_406 ?_
  refine qe_script c0_407 e3 e5 ?_
  refine qe_if_eq_F (t := 415) c0_408 rfl e6 ?_
  exact kk
theorem b0_397T {d : Nat} {q : Option Value × qH} {h : qH} {r0 : Nat} {r1 : Nat} {r2 : Nat} {x3 : Int32} {n1 : Nat} {f2 : Nat → Int32}  (e3 : h.2.2 r0 = some (.inl (8, n1, .inl f2))) (e4 : 0 ≤ ((x3 + 1) : Int32).toInt ∧ ((x3 + 1) : Int32).toInt < (n1 : Nat)) (e5 : 0 ≤ ((x3 + 2) : Int32).toInt ∧ ((x3 + 2) : Int32).toInt < (n1 : Nat)) (e6 : ((f2 ((x3 + 2) : Int32).toNatClampNeg) : Int32) = 0) (kk : qE d 0 415 [some (.ref r0), some (.ref r1), some (.ref r2), some (.int x3)] [.int (f2 ((x3 + 1) : Int32).toNatClampNeg), .ref r1] h q): qE d 0 397 [some (.ref r0), some (.ref r1), some (.ref r2), some (.int x3)] [] h q := by
  refine qe_aload_n c0_397 rfl ?_
  refine qe_aload_n c0_398 rfl ?_
  refine qe_iload_n c0_399 rfl ?_
  refine qe_iconst (x := 1) c0_400 (by decide) ?_
  refine qe_iadd c0_401 ?_
  refine qe_script c0_402 e3 e4 ?_
  refine qe_aload_n c0_403 rfl ?_
  refine qe_iload_n c0_404 rfl ?_
  refine qe_iconst (x := 2) c0_405 (by decide) ?_
  refine qe_iadd c0_406 ?_
  refine qe_script c0_407 e3 e5 ?_
  refine qe_if_eq_T (t := 415) c0_408 rfl e6 ?_
  exact kk
theorem b0_411 {d : Nat} {q : Option Value × qH} {h : qH} {r0 : Nat} {r1 : Nat} {r2 : Nat} {x3 : Int32} {rs0 : Nat} {xs1 : Int32}   (kk : qE d 0 416 [some (.ref r0), some (.ref r1), some (.ref r2), some (.int x3)] [.int 1, .int xs1, .ref rs0] h q): qE d 0 411 [some (.ref r0), some (.ref r1), some (.ref r2), some (.int x3)] [.int xs1, .ref rs0] h q := by
  refine qe_iconst (x := 1) c0_411 (by decide) ?_
  refine qe_goto (t := 416) c0_412 rfl ?_
  exact kk
theorem b0_415 {d : Nat} {q : Option Value × qH} {h : qH} {r0 : Nat} {r1 : Nat} {r2 : Nat} {x3 : Int32} {rs0 : Nat} {xs1 : Int32}   (kk : qE d 0 416 [some (.ref r0), some (.ref r1), some (.ref r2), some (.int x3)] [.int 0, .int xs1, .ref rs0] h q): qE d 0 415 [some (.ref r0), some (.ref r1), some (.ref r2), some (.int x3)] [.int xs1, .ref rs0] h q := by
  refine qe_iconst (x := 0) c0_415 (by decide) ?_
  exact kk
theorem b0_416F {d : Nat} {q : Option Value × qH} {h : qH} {r0 : Nat} {r1 : Nat} {r2 : Nat} {x3 : Int32} {rs0 : Nat} {xs1 : Int32} {xs2 : Int32} {fs1 : List Value} {h1 : qH} {z3 : Int32} {n5 : Nat} {f6 : Nat → Int32}  (e2 : h.2.2 rs0 = some (.inr (11, fs1))) (e4 : qCall d 76 [.ref rs0, .int xs1, .int xs2] h ((some (.int z3)), h1)) (e7 : h1.2.2 r0 = some (.inl (8, n5, .inl f6))) (e8 : 0 ≤ ((x3 + 1) : Int32).toInt ∧ ((x3 + 1) : Int32).toInt < (n5 : Nat)) (e9 : 0 ≤ ((x3 + 2) : Int32).toInt ∧ ((x3 + 2) : Int32).toInt < (n5 : Nat)) (e10 : ¬ (((f6 ((x3 + 2) : Int32).toNatClampNeg) : Int32) = 0)) (kk : qE d 0 433 [some (.ref r0), some (.ref r1), some (.ref r2), some (.int x3)] [.int (f6 ((x3 + 1) : Int32).toNatClampNeg), .ref r2, .int z3] h1 q): qE d 0 416 [some (.ref r0), some (.ref r1), some (.ref r2), some (.int x3)] [.int xs2, .int xs1, .ref rs0] h q := by
  refine qe_virtual (b := rs0) (as := [.int xs1, .int xs2]) (r := []) (v := (some (.int z3))) (h2 := h1) c0_416 qo0 qK13_37 rfl rfl rfl (by rw [qo76]; exact e2) (Nat.le_of_ble_eq_true rfl) e4 ?_
  refine qe_aload_n c0_419 rfl ?_
  refine qe_aload_n c0_420 rfl ?_
  refine qe_iload_n c0_421 rfl ?_
  refine qe_iconst (x := 1) c0_422 (by decide) ?_
  refine qe_iadd c0_423 ?_
  refine qe_script c0_424 e7 e8 ?_
  refine qe_aload_n c0_425 rfl ?_
  refine qe_iload_n c0_426 rfl ?_
  refine qe_iconst (x := 2) c0_427 (by decide) ?_
  refine qe_iadd c0_428 ?_
  refine qe_script c0_429 e7 e9 ?_
  refine qe_if_eq_F (t := 437) c0_430 rfl e10 ?_
  exact kk
theorem b0_416T {d : Nat} {q : Option Value × qH} {h : qH} {r0 : Nat} {r1 : Nat} {r2 : Nat} {x3 : Int32} {rs0 : Nat} {xs1 : Int32} {xs2 : Int32} {fs1 : List Value} {h1 : qH} {z3 : Int32} {n5 : Nat} {f6 : Nat → Int32}  (e2 : h.2.2 rs0 = some (.inr (11, fs1))) (e4 : qCall d 76 [.ref rs0, .int xs1, .int xs2] h ((some (.int z3)), h1)) (e7 : h1.2.2 r0 = some (.inl (8, n5, .inl f6))) (e8 : 0 ≤ ((x3 + 1) : Int32).toInt ∧ ((x3 + 1) : Int32).toInt < (n5 : Nat)) (e9 : 0 ≤ ((x3 + 2) : Int32).toInt ∧ ((x3 + 2) : Int32).toInt < (n5 : Nat)) (e10 : ((f6 ((x3 + 2) : Int32).toNatClampNeg) : Int32) = 0) (kk : qE d 0 437 [some (.ref r0), some (.ref r1), some (.ref r2), some (.int x3)] [.int (f6 ((x3 + 1) : Int32).toNatClampNeg), .ref r2, .int z3] h1 q): qE d 0 416 [some (.ref r0), some (.ref r1), some (.ref r2), some (.int x3)] [.int xs2, .int xs1, .ref rs0] h q := by
  refine qe_virtual (b := rs0) (as := [.int xs1, .int xs2]) (r := []) (v := (some (.int z3))) (h2 := h1) c0_416 qo0 qK13_37 rfl rfl rfl (by rw [qo76]; exact e2) (Nat.le_of_ble_eq_true rfl) e4 ?_
  refine qe_aload_n c0_419 rfl ?_
  refine qe_aload_n c0_420 rfl ?_
  refine qe_iload_n c0_421 rfl ?_
  refine qe_iconst (x := 1) c0_422 (by decide) ?_
  refine qe_iadd c0_423 ?_
  refine qe_script c0_424 e7 e8 ?_
  refine qe_aload_n c0_425 rfl ?_
  refine qe_iload_n c0_426 rfl ?_
  refine qe_iconst (x := 2) c0_427 (by decide) ?_
  refine qe_iadd c0_428 ?_
  refine qe_script c0_429 e7 e9 ?_
  refine qe_if_eq_T (t := 437) c0_430 rfl e10 ?_
  exact kk
theorem b0_433 {d : Nat} {q : Option Value × qH} {h : qH} {r0 : Nat} {r1 : Nat} {r2 : Nat} {x3 : Int32} {xs0 : Int32} {rs1 : Nat} {xs2 : Int32}   (kk : qE d 0 438 [some (.ref r0), some (.ref r1), some (.ref r2), some (.int x3)] [.int 1, .int xs2, .ref rs1, .int xs0] h q): qE d 0 433 [some (.ref r0), some (.ref r1), some (.ref r2), some (.int x3)] [.int xs2, .ref rs1, .int xs0] h q := by
  refine qe_iconst (x := 1) c0_433 (by decide) ?_
  refine qe_goto (t := 438) c0_434 rfl ?_
  exact kk
theorem b0_437 {d : Nat} {q : Option Value × qH} {h : qH} {r0 : Nat} {r1 : Nat} {r2 : Nat} {x3 : Int32} {xs0 : Int32} {rs1 : Nat} {xs2 : Int32}   (kk : qE d 0 438 [some (.ref r0), some (.ref r1), some (.ref r2), some (.int x3)] [.int 0, .int xs2, .ref rs1, .int xs0] h q): qE d 0 437 [some (.ref r0), some (.ref r1), some (.ref r2), some (.int x3)] [.int xs2, .ref rs1, .int xs0] h q := by
  refine qe_iconst (x := 0) c0_437 (by decide) ?_
  exact kk
theorem b0_438F {d : Nat} {q : Option Value × qH} {h : qH} {r0 : Nat} {r1 : Nat} {r2 : Nat} {x3 : Int32} {xs0 : Int32} {rs1 : Nat} {xs2 : Int32} {xs3 : Int32} {fs1 : List Value} {h1 : qH} {z3 : Int32}  (e2 : h.2.2 rs1 = some (.inr (12, fs1))) (e4 : qCall d 181 [.ref rs1, .int xs2, .int xs3] h ((some (.int z3)), h1)) (e5 : ¬ ((xs0 : Int32) = z3)) (kk : qE d 0 444 [some (.ref r0), some (.ref r1), some (.ref r2), some (.int x3)] [] h1 q): qE d 0 438 [some (.ref r0), some (.ref r1), some (.ref r2), some (.int x3)] [.int xs3, .int xs2, .ref rs1, .int xs0] h q := by
  refine qe_virtual (b := rs1) (as := [.int xs2, .int xs3]) (r := [.int xs0]) (v := (some (.int z3))) (h2 := h1) c0_438 qo0 qK13_41 rfl rfl rfl (by rw [qo181]; exact e2) (Nat.le_of_ble_eq_true rfl) e4 ?_
  refine qe_icmp_eq_F (t := 1463) c0_441 rfl e5 ?_
  exact kk
theorem b0_438T {d : Nat} {q : Option Value × qH} {h : qH} {r0 : Nat} {r1 : Nat} {r2 : Nat} {x3 : Int32} {xs0 : Int32} {rs1 : Nat} {xs2 : Int32} {xs3 : Int32} {fs1 : List Value} {h1 : qH} {z3 : Int32}  (e2 : h.2.2 rs1 = some (.inr (12, fs1))) (e4 : qCall d 181 [.ref rs1, .int xs2, .int xs3] h ((some (.int z3)), h1)) (e5 : (xs0 : Int32) = z3) (kk : qE d 0 1463 [some (.ref r0), some (.ref r1), some (.ref r2), some (.int x3)] [] h1 q): qE d 0 438 [some (.ref r0), some (.ref r1), some (.ref r2), some (.int x3)] [.int xs3, .int xs2, .ref rs1, .int xs0] h q := by
  refine qe_virtual (b := rs1) (as := [.int xs2, .int xs3]) (r := [.int xs0]) (v := (some (.int z3))) (h2 := h1) c0_438 qo0 qK13_41 rfl rfl rfl (by rw [qo181]; exact e2) (Nat.le_of_ble_eq_true rfl) e4 ?_
  refine qe_icmp_eq_T (t := 1463) c0_441 rfl e5 ?_
  exact kk
theorem b0_444 {d : Nat} {h : qH} {r0 : Nat} {r1 : Nat} {r2 : Nat} {x3 : Int32}   : qE d 0 444 [some (.ref r0), some (.ref r1), some (.ref r2), some (.int x3)] [] h (some (.int 0), h) := by
  refine qe_iconst (x := 0) c0_444 (by decide) ?_
  exact qe_zret c0_445 qr0 (by decide)
theorem b0_446F {d : Nat} {q : Option Value × qH} {h : qH} {r0 : Nat} {r1 : Nat} {r2 : Nat} {x3 : Int32} {n1 : Nat} {f2 : Nat → Int32}  (e3 : h.2.2 r0 = some (.inl (8, n1, .inl f2))) (e4 : 0 ≤ ((x3 + 1) : Int32).toInt ∧ ((x3 + 1) : Int32).toInt < (n1 : Nat)) (e5 : 0 ≤ ((x3 + 2) : Int32).toInt ∧ ((x3 + 2) : Int32).toInt < (n1 : Nat)) (e6 : ¬ (((f2 ((x3 + 2) : Int32).toNatClampNeg) : Int32) = 0)) (kk : qE d 0 460 [some (.ref r0), some (.ref r1), some (.ref r2), some (.int x3)] [.int (f2 ((x3 + 1) : Int32).toNatClampNeg), .ref r1] h q): qE d 0 446 [some (.ref r0), some (.ref r1), some (.ref r2), some (.int x3)] [] h q := by
  refine qe_aload_n c0_446 rfl ?_
  refine qe_aload_n c0_447 rfl ?_
  refine qe_iload_n c0_448 rfl ?_
  refine qe_iconst (x := 1) c0_449 (by decide) ?_
  refine qe_iadd c0_450 ?_
  refine qe_script c0_451 e3 e4 ?_
  refine qe_aload_n c0_452 rfl ?_
  refine qe_iload_n c0_453 rfl ?_
  refine qe_iconst (x := 2) c0_454 (by decide) ?_
  refine qe_iadd c0_455 ?_
  refine qe_script c0_456 e3 e5 ?_
  refine qe_if_eq_F (t := 464) c0_457 rfl e6 ?_
  exact kk
theorem b0_446T {d : Nat} {q : Option Value × qH} {h : qH} {r0 : Nat} {r1 : Nat} {r2 : Nat} {x3 : Int32} {n1 : Nat} {f2 : Nat → Int32}  (e3 : h.2.2 r0 = some (.inl (8, n1, .inl f2))) (e4 : 0 ≤ ((x3 + 1) : Int32).toInt ∧ ((x3 + 1) : Int32).toInt < (n1 : Nat)) (e5 : 0 ≤ ((x3 + 2) : Int32).toInt ∧ ((x3 + 2) : Int32).toInt < (n1 : Nat)) (e6 : ((f2 ((x3 + 2) : Int32).toNatClampNeg) : Int32) = 0) (kk : qE d 0 464 [some (.ref r0), some (.ref r1), some (.ref r2), some (.int x3)] [.int (f2 ((x3 + 1) : Int32).toNatClampNeg), .ref r1] h q): qE d 0 446 [some (.ref r0), some (.ref r1), some (.ref r2), some (.int x3)] [] h q := by
  refine qe_aload_n c0_446 rfl ?_
  refine qe_aload_n c0_447 rfl ?_
  refine qe_iload_n c0_448 rfl ?_
  refine qe_iconst (x := 1) c0_449 (by decide) ?_
  refine qe_iadd c0_450 ?_
  refine qe_script c0_451 e3 e4 ?_
  refine qe_aload_n c0_452 rfl ?_
  refine qe_iload_n c0_453 rfl ?_
  refine qe_iconst (x := 2) c0_454 (by decide) ?_
  refine qe_iadd c0_455 ?_
  refine qe_script c0_456 e3 e5 ?_
  refine qe_if_eq_T (t := 464) c0_457 rfl e6 ?_
  exact kk
theorem b0_460 {d : Nat} {q : Option Value × qH} {h : qH} {r0 : Nat} {r1 : Nat} {r2 : Nat} {x3 : Int32} {rs0 : Nat} {xs1 : Int32}   (kk : qE d 0 465 [some (.ref r0), some (.ref r1), some (.ref r2), some (.int x3)] [.int 1, .int xs1, .ref rs0] h q): qE d 0 460 [some (.ref r0), some (.ref r1), some (.ref r2), some (.int x3)] [.int xs1, .ref rs0] h q := by
  refine qe_iconst (x := 1) c0_460 (by decide) ?_
  refine qe_goto (t := 465) c0_461 rfl ?_
  exact kk
theorem b0_464 {d : Nat} {q : Option Value × qH} {h : qH} {r0 : Nat} {r1 : Nat} {r2 : Nat} {x3 : Int32} {rs0 : Nat} {xs1 : Int32}   (kk : qE d 0 465 [some (.ref r0), some (.ref r1), some (.ref r2), some (.int x3)] [.int 0, .int xs1, .ref rs0] h q): qE d 0 464 [some (.ref r0), some (.ref r1), some (.ref r2), some (.int x3)] [.int xs1, .ref rs0] h q := by
  refine qe_iconst (x := 0) c0_464 (by decide) ?_
  exact kk
theorem b0_465F {d : Nat} {q : Option Value × qH} {h : qH} {r0 : Nat} {r1 : Nat} {r2 : Nat} {x3 : Int32} {rs0 : Nat} {xs1 : Int32} {xs2 : Int32} {fs1 : List Value} {h1 : qH} {z3 : Int32} {n5 : Nat} {f6 : Nat → Int32}  (e2 : h.2.2 rs0 = some (.inr (11, fs1))) (e4 : qCall d 67 [.ref rs0, .int xs1, .int xs2] h ((some (.int z3)), h1)) (e7 : h1.2.2 r0 = some (.inl (8, n5, .inl f6))) (e8 : 0 ≤ ((x3 + 1) : Int32).toInt ∧ ((x3 + 1) : Int32).toInt < (n5 : Nat)) (e9 : 0 ≤ ((x3 + 2) : Int32).toInt ∧ ((x3 + 2) : Int32).toInt < (n5 : Nat)) (e10 : ¬ (((f6 ((x3 + 2) : Int32).toNatClampNeg) : Int32) = 0)) (kk : qE d 0 482 [some (.ref r0), some (.ref r1), some (.ref r2), some (.int x3)] [.int (f6 ((x3 + 1) : Int32).toNatClampNeg), .ref r2, .int z3] h1 q): qE d 0 465 [some (.ref r0), some (.ref r1), some (.ref r2), some (.int x3)] [.int xs2, .int xs1, .ref rs0] h q := by
  refine qe_virtual (b := rs0) (as := [.int xs1, .int xs2]) (r := []) (v := (some (.int z3))) (h2 := h1) c0_465 qo0 qK13_42 rfl rfl rfl (by rw [qo67]; exact e2) (Nat.le_of_ble_eq_true rfl) e4 ?_
  refine qe_aload_n c0_468 rfl ?_
  refine qe_aload_n c0_469 rfl ?_
  refine qe_iload_n c0_470 rfl ?_
  refine qe_iconst (x := 1) c0_471 (by decide) ?_
  refine qe_iadd c0_472 ?_
  refine qe_script c0_473 e7 e8 ?_
  refine qe_aload_n c0_474 rfl ?_
  refine qe_iload_n c0_475 rfl ?_
  refine qe_iconst (x := 2) c0_476 (by decide) ?_
  refine qe_iadd c0_477 ?_
  refine qe_script c0_478 e7 e9 ?_
  refine qe_if_eq_F (t := 486) c0_479 rfl e10 ?_
  exact kk
theorem b0_465T {d : Nat} {q : Option Value × qH} {h : qH} {r0 : Nat} {r1 : Nat} {r2 : Nat} {x3 : Int32} {rs0 : Nat} {xs1 : Int32} {xs2 : Int32} {fs1 : List Value} {h1 : qH} {z3 : Int32} {n5 : Nat} {f6 : Nat → Int32}  (e2 : h.2.2 rs0 = some (.inr (11, fs1))) (e4 : qCall d 67 [.ref rs0, .int xs1, .int xs2] h ((some (.int z3)), h1)) (e7 : h1.2.2 r0 = some (.inl (8, n5, .inl f6))) (e8 : 0 ≤ ((x3 + 1) : Int32).toInt ∧ ((x3 + 1) : Int32).toInt < (n5 : Nat)) (e9 : 0 ≤ ((x3 + 2) : Int32).toInt ∧ ((x3 + 2) : Int32).toInt < (n5 : Nat)) (e10 : ((f6 ((x3 + 2) : Int32).toNatClampNeg) : Int32) = 0) (kk : qE d 0 486 [some (.ref r0), some (.ref r1), some (.ref r2), some (.int x3)] [.int (f6 ((x3 + 1) : Int32).toNatClampNeg), .ref r2, .int z3] h1 q): qE d 0 465 [some (.ref r0), some (.ref r1), some (.ref r2), some (.int x3)] [.int xs2, .int xs1, .ref rs0] h q := by
  refine qe_virtual (b := rs0) (as := [.int xs1, .int xs2]) (r := []) (v := (some (.int z3))) (h2 := h1) c0_465 qo0 qK13_42 rfl rfl rfl (by rw [qo67]; exact e2) (Nat.le_of_ble_eq_true rfl) e4 ?_
  refine qe_aload_n c0_468 rfl ?_
  refine qe_aload_n c0_469 rfl ?_
  refine qe_iload_n c0_470 rfl ?_
  refine qe_iconst (x := 1) c0_471 (by decide) ?_
  refine qe_iadd c0_472 ?_
  refine qe_script c0_473 e7 e8 ?_
  refine qe_aload_n c0_474 rfl ?_
  refine qe_iload_n c0_475 rfl ?_
  refine qe_iconst (x := 2) c0_476 (by decide) ?_
  refine qe_iadd c0_477 ?_
  refine qe_script c0_478 e7 e9 ?_
  refine qe_if_eq_T (t := 486) c0_479 rfl e10 ?_
  exact kk
theorem b0_482 {d : Nat} {q : Option Value × qH} {h : qH} {r0 : Nat} {r1 : Nat} {r2 : Nat} {x3 : Int32} {xs0 : Int32} {rs1 : Nat} {xs2 : Int32}   (kk : qE d 0 487 [some (.ref r0), some (.ref r1), some (.ref r2), some (.int x3)] [.int 1, .int xs2, .ref rs1, .int xs0] h q): qE d 0 482 [some (.ref r0), some (.ref r1), some (.ref r2), some (.int x3)] [.int xs2, .ref rs1, .int xs0] h q := by
  refine qe_iconst (x := 1) c0_482 (by decide) ?_
  refine qe_goto (t := 487) c0_483 rfl ?_
  exact kk
theorem b0_486 {d : Nat} {q : Option Value × qH} {h : qH} {r0 : Nat} {r1 : Nat} {r2 : Nat} {x3 : Int32} {xs0 : Int32} {rs1 : Nat} {xs2 : Int32}   (kk : qE d 0 487 [some (.ref r0), some (.ref r1), some (.ref r2), some (.int x3)] [.int 0, .int xs2, .ref rs1, .int xs0] h q): qE d 0 486 [some (.ref r0), some (.ref r1), some (.ref r2), some (.int x3)] [.int xs2, .ref rs1, .int xs0] h q := by
  refine qe_iconst (x := 0) c0_486 (by decide) ?_
  exact kk
theorem b0_487F {d : Nat} {q : Option Value × qH} {h : qH} {r0 : Nat} {r1 : Nat} {r2 : Nat} {x3 : Int32} {xs0 : Int32} {rs1 : Nat} {xs2 : Int32} {xs3 : Int32} {fs1 : List Value} {h1 : qH} {z3 : Int32}  (e2 : h.2.2 rs1 = some (.inr (12, fs1))) (e4 : qCall d 159 [.ref rs1, .int xs2, .int xs3] h ((some (.int z3)), h1)) (e5 : ¬ ((xs0 : Int32) = z3)) (kk : qE d 0 493 [some (.ref r0), some (.ref r1), some (.ref r2), some (.int x3)] [] h1 q): qE d 0 487 [some (.ref r0), some (.ref r1), some (.ref r2), some (.int x3)] [.int xs3, .int xs2, .ref rs1, .int xs0] h q := by
  refine qe_virtual (b := rs1) (as := [.int xs2, .int xs3]) (r := [.int xs0]) (v := (some (.int z3))) (h2 := h1) c0_487 qo0 qK13_45 rfl rfl rfl (by rw [qo159]; exact e2) (Nat.le_of_ble_eq_true rfl) e4 ?_
  refine qe_icmp_eq_F (t := 1463) c0_490 rfl e5 ?_
  exact kk
theorem b0_487T {d : Nat} {q : Option Value × qH} {h : qH} {r0 : Nat} {r1 : Nat} {r2 : Nat} {x3 : Int32} {xs0 : Int32} {rs1 : Nat} {xs2 : Int32} {xs3 : Int32} {fs1 : List Value} {h1 : qH} {z3 : Int32}  (e2 : h.2.2 rs1 = some (.inr (12, fs1))) (e4 : qCall d 159 [.ref rs1, .int xs2, .int xs3] h ((some (.int z3)), h1)) (e5 : (xs0 : Int32) = z3) (kk : qE d 0 1463 [some (.ref r0), some (.ref r1), some (.ref r2), some (.int x3)] [] h1 q): qE d 0 487 [some (.ref r0), some (.ref r1), some (.ref r2), some (.int x3)] [.int xs3, .int xs2, .ref rs1, .int xs0] h q := by
  refine qe_virtual (b := rs1) (as := [.int xs2, .int xs3]) (r := [.int xs0]) (v := (some (.int z3))) (h2 := h1) c0_487 qo0 qK13_45 rfl rfl rfl (by rw [qo159]; exact e2) (Nat.le_of_ble_eq_true rfl) e4 ?_
  refine qe_icmp_eq_T (t := 1463) c0_490 rfl e5 ?_
  exact kk
theorem b0_493 {d : Nat} {h : qH} {r0 : Nat} {r1 : Nat} {r2 : Nat} {x3 : Int32}   : qE d 0 493 [some (.ref r0), some (.ref r1), some (.ref r2), some (.int x3)] [] h (some (.int 0), h) := by
  refine qe_iconst (x := 0) c0_493 (by decide) ?_
  exact qe_zret c0_494 qr0 (by decide)
theorem b0_495F {d : Nat} {q : Option Value × qH} {h : qH} {r0 : Nat} {r1 : Nat} {r2 : Nat} {x3 : Int32} {n1 : Nat} {f2 : Nat → Int32}  (e3 : h.2.2 r0 = some (.inl (8, n1, .inl f2))) (e4 : 0 ≤ ((x3 + 1) : Int32).toInt ∧ ((x3 + 1) : Int32).toInt < (n1 : Nat)) (e5 : 0 ≤ ((x3 + 2) : Int32).toInt ∧ ((x3 + 2) : Int32).toInt < (n1 : Nat)) (e6 : ¬ (((f2 ((x3 + 2) : Int32).toNatClampNeg) : Int32) = 0)) (kk : qE d 0 509 [some (.ref r0), some (.ref r1), some (.ref r2), some (.int x3)] [.int (f2 ((x3 + 1) : Int32).toNatClampNeg), .ref r1] h q): qE d 0 495 [some (.ref r0), some (.ref r1), some (.ref r2), some (.int x3)] [] h q := by
  refine qe_aload_n c0_495 rfl ?_
  refine qe_aload_n c0_496 rfl ?_
  refine qe_iload_n c0_497 rfl ?_
  refine qe_iconst (x := 1) c0_498 (by decide) ?_
  refine qe_iadd c0_499 ?_
  refine qe_script c0_500 e3 e4 ?_
  refine qe_aload_n c0_501 rfl ?_
  refine qe_iload_n c0_502 rfl ?_
  refine qe_iconst (x := 2) c0_503 (by decide) ?_
  refine qe_iadd c0_504 ?_
  refine qe_script c0_505 e3 e5 ?_
  refine qe_if_eq_F (t := 513) c0_506 rfl e6 ?_
  exact kk
theorem b0_495T {d : Nat} {q : Option Value × qH} {h : qH} {r0 : Nat} {r1 : Nat} {r2 : Nat} {x3 : Int32} {n1 : Nat} {f2 : Nat → Int32}  (e3 : h.2.2 r0 = some (.inl (8, n1, .inl f2))) (e4 : 0 ≤ ((x3 + 1) : Int32).toInt ∧ ((x3 + 1) : Int32).toInt < (n1 : Nat)) (e5 : 0 ≤ ((x3 + 2) : Int32).toInt ∧ ((x3 + 2) : Int32).toInt < (n1 : Nat)) (e6 : ((f2 ((x3 + 2) : Int32).toNatClampNeg) : Int32) = 0) (kk : qE d 0 513 [some (.ref r0), some (.ref r1), some (.ref r2), some (.int x3)] [.int (f2 ((x3 + 1) : Int32).toNatClampNeg), .ref r1] h q): qE d 0 495 [some (.ref r0), some (.ref r1), some (.ref r2), some (.int x3)] [] h q := by
  refine qe_aload_n c0_495 rfl ?_
  refine qe_aload_n c0_496 rfl ?_
  refine qe_iload_n c0_497 rfl ?_
  refine qe_iconst (x := 1) c0_498 (by decide) ?_
  refine qe_iadd c0_499 ?_
  refine qe_script c0_500 e3 e4 ?_
  refine qe_aload_n c0_501 rfl ?_
  refine qe_iload_n c0_502 rfl ?_
  refine qe_iconst (x := 2) c0_503 (by decide) ?_
  refine qe_iadd c0_504 ?_
  refine qe_script c0_505 e3 e5 ?_
  refine qe_if_eq_T (t := 513) c0_506 rfl e6 ?_
  exact kk
theorem b0_509 {d : Nat} {q : Option Value × qH} {h : qH} {r0 : Nat} {r1 : Nat} {r2 : Nat} {x3 : Int32} {rs0 : Nat} {xs1 : Int32}   (kk : qE d 0 514 [some (.ref r0), some (.ref r1), some (.ref r2), some (.int x3)] [.int 1, .int xs1, .ref rs0] h q): qE d 0 509 [some (.ref r0), some (.ref r1), some (.ref r2), some (.int x3)] [.int xs1, .ref rs0] h q := by
  refine qe_iconst (x := 1) c0_509 (by decide) ?_
  refine qe_goto (t := 514) c0_510 rfl ?_
  exact kk
theorem b0_513 {d : Nat} {q : Option Value × qH} {h : qH} {r0 : Nat} {r1 : Nat} {r2 : Nat} {x3 : Int32} {rs0 : Nat} {xs1 : Int32}   (kk : qE d 0 514 [some (.ref r0), some (.ref r1), some (.ref r2), some (.int x3)] [.int 0, .int xs1, .ref rs0] h q): qE d 0 513 [some (.ref r0), some (.ref r1), some (.ref r2), some (.int x3)] [.int xs1, .ref rs0] h q := by
  refine qe_iconst (x := 0) c0_513 (by decide) ?_
  exact kk
theorem b0_514F {d : Nat} {q : Option Value × qH} {h : qH} {r0 : Nat} {r1 : Nat} {r2 : Nat} {x3 : Int32} {rs0 : Nat} {xs1 : Int32} {xs2 : Int32} {fs1 : List Value} {h1 : qH} {z3 : Int32} {n5 : Nat} {f6 : Nat → Int32}  (e2 : h.2.2 rs0 = some (.inr (11, fs1))) (e4 : qCall d 68 [.ref rs0, .int xs1, .int xs2] h ((some (.int z3)), h1)) (e7 : h1.2.2 r0 = some (.inl (8, n5, .inl f6))) (e8 : 0 ≤ ((x3 + 1) : Int32).toInt ∧ ((x3 + 1) : Int32).toInt < (n5 : Nat)) (e9 : 0 ≤ ((x3 + 2) : Int32).toInt ∧ ((x3 + 2) : Int32).toInt < (n5 : Nat)) (e10 : ¬ (((f6 ((x3 + 2) : Int32).toNatClampNeg) : Int32) = 0)) (kk : qE d 0 531 [some (.ref r0), some (.ref r1), some (.ref r2), some (.int x3)] [.int (f6 ((x3 + 1) : Int32).toNatClampNeg), .ref r2, .int z3] h1 q): qE d 0 514 [some (.ref r0), some (.ref r1), some (.ref r2), some (.int x3)] [.int xs2, .int xs1, .ref rs0] h q := by
  refine qe_virtual (b := rs0) (as := [.int xs1, .int xs2]) (r := []) (v := (some (.int z3))) (h2 := h1) c0_514 qo0 qK13_46 rfl rfl rfl (by rw [qo68]; exact e2) (Nat.le_of_ble_eq_true rfl) e4 ?_
  refine qe_aload_n c0_517 rfl ?_
  refine qe_aload_n c0_518 rfl ?_
  refine qe_iload_n c0_519 rfl ?_
  refine qe_iconst (x := 1) c0_520 (by decide) ?_
  refine qe_iadd c0_521 ?_
  refine qe_script c0_522 e7 e8 ?_
  refine qe_aload_n c0_523 rfl ?_
  refine qe_iload_n c0_524 rfl ?_
  refine qe_iconst (x := 2) c0_525 (by decide) ?_
  refine qe_iadd c0_526 ?_
  refine qe_script c0_527 e7 e9 ?_
  refine qe_if_eq_F (t := 535) c0_528 rfl e10 ?_
  exact kk
theorem b0_514T {d : Nat} {q : Option Value × qH} {h : qH} {r0 : Nat} {r1 : Nat} {r2 : Nat} {x3 : Int32} {rs0 : Nat} {xs1 : Int32} {xs2 : Int32} {fs1 : List Value} {h1 : qH} {z3 : Int32} {n5 : Nat} {f6 : Nat → Int32}  (e2 : h.2.2 rs0 = some (.inr (11, fs1))) (e4 : qCall d 68 [.ref rs0, .int xs1, .int xs2] h ((some (.int z3)), h1)) (e7 : h1.2.2 r0 = some (.inl (8, n5, .inl f6))) (e8 : 0 ≤ ((x3 + 1) : Int32).toInt ∧ ((x3 + 1) : Int32).toInt < (n5 : Nat)) (e9 : 0 ≤ ((x3 + 2) : Int32).toInt ∧ ((x3 + 2) : Int32).toInt < (n5 : Nat)) (e10 : ((f6 ((x3 + 2) : Int32).toNatClampNeg) : Int32) = 0) (kk : qE d 0 535 [some (.ref r0), some (.ref r1), some (.ref r2), some (.int x3)] [.int (f6 ((x3 + 1) : Int32).toNatClampNeg), .ref r2, .int z3] h1 q): qE d 0 514 [some (.ref r0), some (.ref r1), some (.ref r2), some (.int x3)] [.int xs2, .int xs1, .ref rs0] h q := by
  refine qe_virtual (b := rs0) (as := [.int xs1, .int xs2]) (r := []) (v := (some (.int z3))) (h2 := h1) c0_514 qo0 qK13_46 rfl rfl rfl (by rw [qo68]; exact e2) (Nat.le_of_ble_eq_true rfl) e4 ?_
  refine qe_aload_n c0_517 rfl ?_
  refine qe_aload_n c0_518 rfl ?_
  refine qe_iload_n c0_519 rfl ?_
  refine qe_iconst (x := 1) c0_520 (by decide) ?_
  refine qe_iadd c0_521 ?_
  refine qe_script c0_522 e7 e8 ?_
  refine qe_aload_n c0_523 rfl ?_
  refine qe_iload_n c0_524 rfl ?_
  refine qe_iconst (x := 2) c0_525 (by decide) ?_
  refine qe_iadd c0_526 ?_
  refine qe_script c0_527 e7 e9 ?_
  refine qe_if_eq_T (t := 535) c0_528 rfl e10 ?_
  exact kk
theorem b0_531 {d : Nat} {q : Option Value × qH} {h : qH} {r0 : Nat} {r1 : Nat} {r2 : Nat} {x3 : Int32} {xs0 : Int32} {rs1 : Nat} {xs2 : Int32}   (kk : qE d 0 536 [some (.ref r0), some (.ref r1), some (.ref r2), some (.int x3)] [.int 1, .int xs2, .ref rs1, .int xs0] h q): qE d 0 531 [some (.ref r0), some (.ref r1), some (.ref r2), some (.int x3)] [.int xs2, .ref rs1, .int xs0] h q := by
  refine qe_iconst (x := 1) c0_531 (by decide) ?_
  refine qe_goto (t := 536) c0_532 rfl ?_
  exact kk
theorem b0_535 {d : Nat} {q : Option Value × qH} {h : qH} {r0 : Nat} {r1 : Nat} {r2 : Nat} {x3 : Int32} {xs0 : Int32} {rs1 : Nat} {xs2 : Int32}   (kk : qE d 0 536 [some (.ref r0), some (.ref r1), some (.ref r2), some (.int x3)] [.int 0, .int xs2, .ref rs1, .int xs0] h q): qE d 0 535 [some (.ref r0), some (.ref r1), some (.ref r2), some (.int x3)] [.int xs2, .ref rs1, .int xs0] h q := by
  refine qe_iconst (x := 0) c0_535 (by decide) ?_
  exact kk
theorem b0_536F {d : Nat} {q : Option Value × qH} {h : qH} {r0 : Nat} {r1 : Nat} {r2 : Nat} {x3 : Int32} {xs0 : Int32} {rs1 : Nat} {xs2 : Int32} {xs3 : Int32} {fs1 : List Value} {h1 : qH} {z3 : Int32}  (e2 : h.2.2 rs1 = some (.inr (12, fs1))) (e4 : qCall d 161 [.ref rs1, .int xs2, .int xs3] h ((some (.int z3)), h1)) (e5 : ¬ ((xs0 : Int32) = z3)) (kk : qE d 0 542 [some (.ref r0), some (.ref r1), some (.ref r2), some (.int x3)] [] h1 q): qE d 0 536 [some (.ref r0), some (.ref r1), some (.ref r2), some (.int x3)] [.int xs3, .int xs2, .ref rs1, .int xs0] h q := by
  refine qe_virtual (b := rs1) (as := [.int xs2, .int xs3]) (r := [.int xs0]) (v := (some (.int z3))) (h2 := h1) c0_536 qo0 qK13_49 rfl rfl rfl (by rw [qo161]; exact e2) (Nat.le_of_ble_eq_true rfl) e4 ?_
  refine qe_icmp_eq_F (t := 1463) c0_539 rfl e5 ?_
  exact kk
theorem b0_536T {d : Nat} {q : Option Value × qH} {h : qH} {r0 : Nat} {r1 : Nat} {r2 : Nat} {x3 : Int32} {xs0 : Int32} {rs1 : Nat} {xs2 : Int32} {xs3 : Int32} {fs1 : List Value} {h1 : qH} {z3 : Int32}  (e2 : h.2.2 rs1 = some (.inr (12, fs1))) (e4 : qCall d 161 [.ref rs1, .int xs2, .int xs3] h ((some (.int z3)), h1)) (e5 : (xs0 : Int32) = z3) (kk : qE d 0 1463 [some (.ref r0), some (.ref r1), some (.ref r2), some (.int x3)] [] h1 q): qE d 0 536 [some (.ref r0), some (.ref r1), some (.ref r2), some (.int x3)] [.int xs3, .int xs2, .ref rs1, .int xs0] h q := by
  refine qe_virtual (b := rs1) (as := [.int xs2, .int xs3]) (r := [.int xs0]) (v := (some (.int z3))) (h2 := h1) c0_536 qo0 qK13_49 rfl rfl rfl (by rw [qo161]; exact e2) (Nat.le_of_ble_eq_true rfl) e4 ?_
  refine qe_icmp_eq_T (t := 1463) c0_539 rfl e5 ?_
  exact kk
theorem b0_542 {d : Nat} {h : qH} {r0 : Nat} {r1 : Nat} {r2 : Nat} {x3 : Int32}   : qE d 0 542 [some (.ref r0), some (.ref r1), some (.ref r2), some (.int x3)] [] h (some (.int 0), h) := by
  refine qe_iconst (x := 0) c0_542 (by decide) ?_
  exact qe_zret c0_543 qr0 (by decide)
theorem b0_544F {d : Nat} {q : Option Value × qH} {h : qH} {r0 : Nat} {r1 : Nat} {r2 : Nat} {x3 : Int32} {n1 : Nat} {f2 : Nat → Int32} {fs6 : List Value} {h1 : qH} {z8 : Int32} {n10 : Nat} {f11 : Nat → Int32} {fs15 : List Value} {h2 : qH} {z17 : Int32}  (e3 : h.2.2 r0 = some (.inl (8, n1, .inl f2))) (e4 : 0 ≤ ((x3 + 1) : Int32).toInt ∧ ((x3 + 1) : Int32).toInt < (n1 : Nat)) (e5 : 0 ≤ ((x3 + 2) : Int32).toInt ∧ ((x3 + 2) : Int32).toInt < (n1 : Nat)) (e7 : h.2.2 r1 = some (.inr (11, fs6))) (e9 : qCall d 62 [.ref r1, .int (f2 ((x3 + 1) : Int32).toNatClampNeg), .int (f2 ((x3 + 2) : Int32).toNatClampNeg)] h ((some (.int z8)), h1)) (e12 : h1.2.2 r0 = some (.inl (8, n10, .inl f11))) (e13 : 0 ≤ ((x3 + 1) : Int32).toInt ∧ ((x3 + 1) : Int32).toInt < (n10 : Nat)) (e14 : 0 ≤ ((x3 + 2) : Int32).toInt ∧ ((x3 + 2) : Int32).toInt < (n10 : Nat)) (e16 : h1.2.2 r2 = some (.inr (12, fs15))) (e18 : qCall d 144 [.ref r2, .int (f11 ((x3 + 1) : Int32).toNatClampNeg), .int (f11 ((x3 + 2) : Int32).toNatClampNeg)] h1 ((some (.int z17)), h2)) (e19 : ¬ ((z8 : Int32) = z17)) (kk : qE d 0 575 [some (.ref r0), some (.ref r1), some (.ref r2), some (.int x3)] [] h2 q): qE d 0 544 [some (.ref r0), some (.ref r1), some (.ref r2), some (.int x3)] [] h q := by
  refine qe_aload_n c0_544 rfl ?_
  refine qe_aload_n c0_545 rfl ?_
  refine qe_iload_n c0_546 rfl ?_
  refine qe_iconst (x := 1) c0_547 (by decide) ?_
  refine qe_iadd c0_548 ?_
  refine qe_script c0_549 e3 e4 ?_
  refine qe_aload_n c0_550 rfl ?_
  refine qe_iload_n c0_551 rfl ?_
  refine qe_iconst (x := 2) c0_552 (by decide) ?_
  refine qe_iadd c0_553 ?_
  refine qe_script c0_554 e3 e5 ?_
  refine qe_virtual (b := r1) (as := [.int (f2 ((x3 + 1) : Int32).toNatClampNeg), .int (f2 ((x3 + 2) : Int32).toNatClampNeg)]) (r := []) (v := (some (.int z8))) (h2 := h1) c0_555 qo0 qK13_50 rfl rfl rfl (by rw [qo62]; exact e7) (Nat.le_of_ble_eq_true rfl) e9 ?_
  refine qe_aload_n c0_558 rfl ?_
  refine qe_aload_n c0_559 rfl ?_
  refine qe_iload_n c0_560 rfl ?_
  refine qe_iconst (x := 1) c0_561 (by decide) ?_
  refine qe_iadd c0_562 ?_
  refine qe_script c0_563 e12 e13 ?_
  refine qe_aload_n c0_564 rfl ?_
  refine qe_iload_n c0_565 rfl ?_
  refine qe_iconst (x := 2) c0_566 (by decide) ?_
  refine qe_iadd c0_567 ?_
  refine qe_script c0_568 e12 e14 ?_
  refine qe_virtual (b := r2) (as := [.int (f11 ((x3 + 1) : Int32).toNatClampNeg), .int (f11 ((x3 + 2) : Int32).toNatClampNeg)]) (r := [.int z8]) (v := (some (.int z17))) (h2 := h2) c0_569 qo0 qK13_53 rfl rfl rfl (by rw [qo144]; exact e16) (Nat.le_of_ble_eq_true rfl) e18 ?_
  refine qe_icmp_eq_F (t := 1463) c0_572 rfl e19 ?_
  exact kk
theorem b0_544T {d : Nat} {q : Option Value × qH} {h : qH} {r0 : Nat} {r1 : Nat} {r2 : Nat} {x3 : Int32} {n1 : Nat} {f2 : Nat → Int32} {fs6 : List Value} {h1 : qH} {z8 : Int32} {n10 : Nat} {f11 : Nat → Int32} {fs15 : List Value} {h2 : qH} {z17 : Int32}  (e3 : h.2.2 r0 = some (.inl (8, n1, .inl f2))) (e4 : 0 ≤ ((x3 + 1) : Int32).toInt ∧ ((x3 + 1) : Int32).toInt < (n1 : Nat)) (e5 : 0 ≤ ((x3 + 2) : Int32).toInt ∧ ((x3 + 2) : Int32).toInt < (n1 : Nat)) (e7 : h.2.2 r1 = some (.inr (11, fs6))) (e9 : qCall d 62 [.ref r1, .int (f2 ((x3 + 1) : Int32).toNatClampNeg), .int (f2 ((x3 + 2) : Int32).toNatClampNeg)] h ((some (.int z8)), h1)) (e12 : h1.2.2 r0 = some (.inl (8, n10, .inl f11))) (e13 : 0 ≤ ((x3 + 1) : Int32).toInt ∧ ((x3 + 1) : Int32).toInt < (n10 : Nat)) (e14 : 0 ≤ ((x3 + 2) : Int32).toInt ∧ ((x3 + 2) : Int32).toInt < (n10 : Nat)) (e16 : h1.2.2 r2 = some (.inr (12, fs15))) (e18 : qCall d 144 [.ref r2, .int (f11 ((x3 + 1) : Int32).toNatClampNeg), .int (f11 ((x3 + 2) : Int32).toNatClampNeg)] h1 ((some (.int z17)), h2)) (e19 : (z8 : Int32) = z17) (kk : qE d 0 1463 [some (.ref r0), some (.ref r1), some (.ref r2), some (.int x3)] [] h2 q): qE d 0 544 [some (.ref r0), some (.ref r1), some (.ref r2), some (.int x3)] [] h q := by
  refine qe_aload_n c0_544 rfl ?_
  refine qe_aload_n c0_545 rfl ?_
  refine qe_iload_n c0_546 rfl ?_
  refine qe_iconst (x := 1) c0_547 (by decide) ?_
  refine qe_iadd c0_548 ?_
  refine qe_script c0_549 e3 e4 ?_
  refine qe_aload_n c0_550 rfl ?_
  refine qe_iload_n c0_551 rfl ?_
  refine qe_iconst (x := 2) c0_552 (by decide) ?_
  refine qe_iadd c0_553 ?_
  refine qe_script c0_554 e3 e5 ?_
  refine qe_virtual (b := r1) (as := [.int (f2 ((x3 + 1) : Int32).toNatClampNeg), .int (f2 ((x3 + 2) : Int32).toNatClampNeg)]) (r := []) (v := (some (.int z8))) (h2 := h1) c0_555 qo0 qK13_50 rfl rfl rfl (by rw [qo62]; exact e7) (Nat.le_of_ble_eq_true rfl) e9 ?_
  refine qe_aload_n c0_558 rfl ?_
  refine qe_aload_n c0_559 rfl ?_
  refine qe_iload_n c0_560 rfl ?_
  refine qe_iconst (x := 1) c0_561 (by decide) ?_
  refine qe_iadd c0_562 ?_
  refine qe_script c0_563 e12 e13 ?_
  refine qe_aload_n c0_564 rfl ?_
  refine qe_iload_n c0_565 rfl ?_
  refine qe_iconst (x := 2) c0_566 (by decide) ?_
  refine qe_iadd c0_567 ?_
  refine qe_script c0_568 e12 e14 ?_
  refine qe_virtual (b := r2) (as := [.int (f11 ((x3 + 1) : Int32).toNatClampNeg), .int (f11 ((x3 + 2) : Int32).toNatClampNeg)]) (r := [.int z8]) (v := (some (.int z17))) (h2 := h2) c0_569 qo0 qK13_53 rfl rfl rfl (by rw [qo144]; exact e16) (Nat.le_of_ble_eq_true rfl) e18 ?_
  refine qe_icmp_eq_T (t := 1463) c0_572 rfl e19 ?_
  exact kk
theorem b0_575 {d : Nat} {h : qH} {r0 : Nat} {r1 : Nat} {r2 : Nat} {x3 : Int32}   : qE d 0 575 [some (.ref r0), some (.ref r1), some (.ref r2), some (.int x3)] [] h (some (.int 0), h) := by
  refine qe_iconst (x := 0) c0_575 (by decide) ?_
  exact qe_zret c0_576 qr0 (by decide)
theorem b0_577F {d : Nat} {q : Option Value × qH} {h : qH} {r0 : Nat} {r1 : Nat} {r2 : Nat} {x3 : Int32} {n1 : Nat} {f2 : Nat → Int32} {fs5 : List Value} {h1 : qH} {z7 : Int32} {n9 : Nat} {f10 : Nat → Int32} {fs13 : List Value} {h2 : qH} {z15 : Int32}  (e3 : h.2.2 r0 = some (.inl (8, n1, .inl f2))) (e4 : 0 ≤ ((x3 + 1) : Int32).toInt ∧ ((x3 + 1) : Int32).toInt < (n1 : Nat)) (e6 : h.2.2 r1 = some (.inr (11, fs5))) (e8 : qCall d 63 [.ref r1, .int (f2 ((x3 + 1) : Int32).toNatClampNeg)] h ((some (.int z7)), h1)) (e11 : h1.2.2 r0 = some (.inl (8, n9, .inl f10))) (e12 : 0 ≤ ((x3 + 1) : Int32).toInt ∧ ((x3 + 1) : Int32).toInt < (n9 : Nat)) (e14 : h1.2.2 r2 = some (.inr (12, fs13))) (e16 : qCall d 147 [.ref r2, .int (f10 ((x3 + 1) : Int32).toNatClampNeg)] h1 ((some (.int z15)), h2)) (e17 : ¬ ((z7 : Int32) = z15)) (kk : qE d 0 598 [some (.ref r0), some (.ref r1), some (.ref r2), some (.int x3)] [] h2 q): qE d 0 577 [some (.ref r0), some (.ref r1), some (.ref r2), some (.int x3)] [] h q := by
  refine qe_aload_n c0_577 rfl ?_
  refine qe_aload_n c0_578 rfl ?_
  refine qe_iload_n c0_579 rfl ?_
  refine qe_iconst (x := 1) c0_580 (by decide) ?_
  refine qe_iadd c0_581 ?_
  refine qe_script c0_582 e3 e4 ?_
  refine qe_virtual (b := r1) (as := [.int (f2 ((x3 + 1) : Int32).toNatClampNeg)]) (r := []) (v := (some (.int z7))) (h2 := h1) c0_583 qo0 qK13_54 rfl rfl rfl (by rw [qo63]; exact e6) (Nat.le_of_ble_eq_true rfl) e8 ?_
  refine qe_aload_n c0_586 rfl ?_
  refine qe_aload_n c0_587 rfl ?_
  refine qe_iload_n c0_588 rfl ?_
  refine qe_iconst (x := 1) c0_589 (by decide) ?_
  refine qe_iadd c0_590 ?_
  refine qe_script c0_591 e11 e12 ?_
  refine qe_virtual (b := r2) (as := [.int (f10 ((x3 + 1) : Int32).toNatClampNeg)]) (r := [.int z7]) (v := (some (.int z15))) (h2 := h2) c0_592 qo0 qK13_57 rfl rfl rfl (by rw [qo147]; exact e14) (Nat.le_of_ble_eq_true rfl) e16 ?_
  refine qe_icmp_eq_F (t := 1463) c0_595 rfl e17 ?_
  exact kk
theorem b0_577T {d : Nat} {q : Option Value × qH} {h : qH} {r0 : Nat} {r1 : Nat} {r2 : Nat} {x3 : Int32} {n1 : Nat} {f2 : Nat → Int32} {fs5 : List Value} {h1 : qH} {z7 : Int32} {n9 : Nat} {f10 : Nat → Int32} {fs13 : List Value} {h2 : qH} {z15 : Int32}  (e3 : h.2.2 r0 = some (.inl (8, n1, .inl f2))) (e4 : 0 ≤ ((x3 + 1) : Int32).toInt ∧ ((x3 + 1) : Int32).toInt < (n1 : Nat)) (e6 : h.2.2 r1 = some (.inr (11, fs5))) (e8 : qCall d 63 [.ref r1, .int (f2 ((x3 + 1) : Int32).toNatClampNeg)] h ((some (.int z7)), h1)) (e11 : h1.2.2 r0 = some (.inl (8, n9, .inl f10))) (e12 : 0 ≤ ((x3 + 1) : Int32).toInt ∧ ((x3 + 1) : Int32).toInt < (n9 : Nat)) (e14 : h1.2.2 r2 = some (.inr (12, fs13))) (e16 : qCall d 147 [.ref r2, .int (f10 ((x3 + 1) : Int32).toNatClampNeg)] h1 ((some (.int z15)), h2)) (e17 : (z7 : Int32) = z15) (kk : qE d 0 1463 [some (.ref r0), some (.ref r1), some (.ref r2), some (.int x3)] [] h2 q): qE d 0 577 [some (.ref r0), some (.ref r1), some (.ref r2), some (.int x3)] [] h q := by
  refine qe_aload_n c0_577 rfl ?_
  refine qe_aload_n c0_578 rfl ?_
  refine qe_iload_n c0_579 rfl ?_
  refine qe_iconst (x := 1) c0_580 (by decide) ?_
  refine qe_iadd c0_581 ?_
  refine qe_script c0_582 e3 e4 ?_
  refine qe_virtual (b := r1) (as := [.int (f2 ((x3 + 1) : Int32).toNatClampNeg)]) (r := []) (v := (some (.int z7))) (h2 := h1) c0_583 qo0 qK13_54 rfl rfl rfl (by rw [qo63]; exact e6) (Nat.le_of_ble_eq_true rfl) e8 ?_
  refine qe_aload_n c0_586 rfl ?_
  refine qe_aload_n c0_587 rfl ?_
  refine qe_iload_n c0_588 rfl ?_
  refine qe_iconst (x := 1) c0_589 (by decide) ?_
  refine qe_iadd c0_590 ?_
  refine qe_script c0_591 e11 e12 ?_
  refine qe_virtual (b := r2) (as := [.int (f10 ((x3 + 1) : Int32).toNatClampNeg)]) (r := [.int z7]) (v := (some (.int z15))) (h2 := h2) c0_592 qo0 qK13_57 rfl rfl rfl (by rw [qo147]; exact e14) (Nat.le_of_ble_eq_true rfl) e16 ?_
  refine qe_icmp_eq_T (t := 1463) c0_595 rfl e17 ?_
  exact kk
theorem b0_598 {d : Nat} {h : qH} {r0 : Nat} {r1 : Nat} {r2 : Nat} {x3 : Int32}   : qE d 0 598 [some (.ref r0), some (.ref r1), some (.ref r2), some (.int x3)] [] h (some (.int 0), h) := by
  refine qe_iconst (x := 0) c0_598 (by decide) ?_
  exact qe_zret c0_599 qr0 (by decide)
theorem b0_600F {d : Nat} {q : Option Value × qH} {h : qH} {r0 : Nat} {r1 : Nat} {r2 : Nat} {x3 : Int32} {n1 : Nat} {f2 : Nat → Int32} {fs9 : List Value} {h1 : qH} {z11 : Int32} {n13 : Nat} {f14 : Nat → Int32} {fs21 : List Value} {h2 : qH} {z23 : Int32}  (e3 : h.2.2 r0 = some (.inl (8, n1, .inl f2))) (e4 : 0 ≤ ((x3 + 1) : Int32).toInt ∧ ((x3 + 1) : Int32).toInt < (n1 : Nat)) (e5 : 0 ≤ ((x3 + 2) : Int32).toInt ∧ ((x3 + 2) : Int32).toInt < (n1 : Nat)) (e6 : 0 ≤ ((x3 + 3) : Int32).toInt ∧ ((x3 + 3) : Int32).toInt < (n1 : Nat)) (e7 : 0 ≤ ((x3 + 4) : Int32).toInt ∧ ((x3 + 4) : Int32).toInt < (n1 : Nat)) (e8 : 0 ≤ ((x3 + 5) : Int32).toInt ∧ ((x3 + 5) : Int32).toInt < (n1 : Nat)) (e10 : h.2.2 r1 = some (.inr (11, fs9))) (e12 : qCall d 46 [.ref r1, .int (f2 ((x3 + 1) : Int32).toNatClampNeg), .int (f2 ((x3 + 2) : Int32).toNatClampNeg), .int (f2 ((x3 + 3) : Int32).toNatClampNeg), .int (f2 ((x3 + 4) : Int32).toNatClampNeg), .int (f2 ((x3 + 5) : Int32).toNatClampNeg)] h ((some (.int z11)), h1)) (e15 : h1.2.2 r0 = some (.inl (8, n13, .inl f14))) (e16 : 0 ≤ ((x3 + 1) : Int32).toInt ∧ ((x3 + 1) : Int32).toInt < (n13 : Nat)) (e17 : 0 ≤ ((x3 + 2) : Int32).toInt ∧ ((x3 + 2) : Int32).toInt < (n13 : Nat)) (e18 : 0 ≤ ((x3 + 3) : Int32).toInt ∧ ((x3 + 3) : Int32).toInt < (n13 : Nat)) (e19 : 0 ≤ ((x3 + 4) : Int32).toInt ∧ ((x3 + 4) : Int32).toInt < (n13 : Nat)) (e20 : 0 ≤ ((x3 + 5) : Int32).toInt ∧ ((x3 + 5) : Int32).toInt < (n13 : Nat)) (e22 : h1.2.2 r2 = some (.inr (12, fs21))) (e24 : qCall d 107 [.ref r2, .int (f14 ((x3 + 1) : Int32).toNatClampNeg), .int (f14 ((x3 + 2) : Int32).toNatClampNeg), .int (f14 ((x3 + 3) : Int32).toNatClampNeg), .int (f14 ((x3 + 4) : Int32).toNatClampNeg), .int (f14 ((x3 + 5) : Int32).toNatClampNeg)] h1 ((some (.int z23)), h2)) (e25 : ¬ ((z11 : Int32) = z23)) (kk : qE d 0 661 [some (.ref r0), some (.ref r1), some (.ref r2), some (.int x3)] [] h2 q): qE d 0 600 [some (.ref r0), some (.ref r1), some (.ref r2), some (.int x3)] [] h q := by
  refine qe_aload_n c0_600 rfl ?_
  refine qe_aload_n c0_601 rfl ?_
  refine qe_iload_n c0_602 rfl ?_
  refine qe_iconst (x := 1) c0_603 (by decide) ?_
  refine qe_iadd c0_604 ?_
  refine qe_script c0_605 e3 e4 ?_
  refine qe_aload_n c0_606 rfl ?_
  refine qe_iload_n c0_607 rfl ?_
  refine qe_iconst (x := 2) c0_608 (by decide) ?_
  refine qe_iadd c0_609 ?_
  refine qe_script c0_610 e3 e5 ?_
  refine qe_aload_n c0_611 rfl ?_
  refine qe_iload_n c0_612 rfl ?_
  refine qe_iconst (x := 3) c0_613 (by decide) ?_
  refine qe_iadd c0_614 ?_
  refine qe_script c0_615 e3 e6 ?_
  refine qe_aload_n c0_616 rfl ?_
  refine qe_iload_n c0_617 rfl ?_
  refine qe_iconst (x := 4) c0_618 (by decide) ?_
  refine qe_iadd c0_619 ?_
  refine qe_script c0_620 e3 e7 ?_
  refine qe_aload_n c0_621 rfl ?_
  refine qe_iload_n c0_622 rfl ?_
  refine qe_iconst (x := 5) c0_623 (by decide) ?_
  refine qe_iadd c0_624 ?_
  refine qe_script c0_625 e3 e8 ?_
  refine qe_virtual (b := r1) (as := [.int (f2 ((x3 + 1) : Int32).toNatClampNeg), .int (f2 ((x3 + 2) : Int32).toNatClampNeg), .int (f2 ((x3 + 3) : Int32).toNatClampNeg), .int (f2 ((x3 + 4) : Int32).toNatClampNeg), .int (f2 ((x3 + 5) : Int32).toNatClampNeg)]) (r := []) (v := (some (.int z11))) (h2 := h1) c0_626 qo0 qK13_58 rfl rfl rfl (by rw [qo46]; exact e10) (Nat.le_of_ble_eq_true rfl) e12 ?_
  refine qe_aload_n c0_629 rfl ?_
  refine qe_aload_n c0_630 rfl ?_
  refine qe_iload_n c0_631 rfl ?_
  refine qe_iconst (x := 1) c0_632 (by decide) ?_
  refine qe_iadd c0_633 ?_
  refine qe_script c0_634 e15 e16 ?_
  refine qe_aload_n c0_635 rfl ?_
  refine qe_iload_n c0_636 rfl ?_
  refine qe_iconst (x := 2) c0_637 (by decide) ?_
  refine qe_iadd c0_638 ?_
  refine qe_script c0_639 e15 e17 ?_
  refine qe_aload_n c0_640 rfl ?_
  refine qe_iload_n c0_641 rfl ?_
  refine qe_iconst (x := 3) c0_642 (by decide) ?_
  refine qe_iadd c0_643 ?_
  refine qe_script c0_644 e15 e18 ?_
  refine qe_aload_n c0_645 rfl ?_
  refine qe_iload_n c0_646 rfl ?_
  refine qe_iconst (x := 4) c0_647 (by decide) ?_
  refine qe_iadd c0_648 ?_
  refine qe_script c0_649 e15 e19 ?_
  refine qe_aload_n c0_650 rfl ?_
  refine qe_iload_n c0_651 rfl ?_
  refine qe_iconst (x := 5) c0_652 (by decide) ?_
  refine qe_iadd c0_653 ?_
  refine qe_script c0_654 e15 e20 ?_
  refine qe_virtual (b := r2) (as := [.int (f14 ((x3 + 1) : Int32).toNatClampNeg), .int (f14 ((x3 + 2) : Int32).toNatClampNeg), .int (f14 ((x3 + 3) : Int32).toNatClampNeg), .int (f14 ((x3 + 4) : Int32).toNatClampNeg), .int (f14 ((x3 + 5) : Int32).toNatClampNeg)]) (r := [.int z11]) (v := (some (.int z23))) (h2 := h2) c0_655 qo0 qK13_61 rfl rfl rfl (by rw [qo107]; exact e22) (Nat.le_of_ble_eq_true rfl) e24 ?_
  refine qe_icmp_eq_F (t := 1463) c0_658 rfl e25 ?_
  exact kk
theorem b0_600T {d : Nat} {q : Option Value × qH} {h : qH} {r0 : Nat} {r1 : Nat} {r2 : Nat} {x3 : Int32} {n1 : Nat} {f2 : Nat → Int32} {fs9 : List Value} {h1 : qH} {z11 : Int32} {n13 : Nat} {f14 : Nat → Int32} {fs21 : List Value} {h2 : qH} {z23 : Int32}  (e3 : h.2.2 r0 = some (.inl (8, n1, .inl f2))) (e4 : 0 ≤ ((x3 + 1) : Int32).toInt ∧ ((x3 + 1) : Int32).toInt < (n1 : Nat)) (e5 : 0 ≤ ((x3 + 2) : Int32).toInt ∧ ((x3 + 2) : Int32).toInt < (n1 : Nat)) (e6 : 0 ≤ ((x3 + 3) : Int32).toInt ∧ ((x3 + 3) : Int32).toInt < (n1 : Nat)) (e7 : 0 ≤ ((x3 + 4) : Int32).toInt ∧ ((x3 + 4) : Int32).toInt < (n1 : Nat)) (e8 : 0 ≤ ((x3 + 5) : Int32).toInt ∧ ((x3 + 5) : Int32).toInt < (n1 : Nat)) (e10 : h.2.2 r1 = some (.inr (11, fs9))) (e12 : qCall d 46 [.ref r1, .int (f2 ((x3 + 1) : Int32).toNatClampNeg), .int (f2 ((x3 + 2) : Int32).toNatClampNeg), .int (f2 ((x3 + 3) : Int32).toNatClampNeg), .int (f2 ((x3 + 4) : Int32).toNatClampNeg), .int (f2 ((x3 + 5) : Int32).toNatClampNeg)] h ((some (.int z11)), h1)) (e15 : h1.2.2 r0 = some (.inl (8, n13, .inl f14))) (e16 : 0 ≤ ((x3 + 1) : Int32).toInt ∧ ((x3 + 1) : Int32).toInt < (n13 : Nat)) (e17 : 0 ≤ ((x3 + 2) : Int32).toInt ∧ ((x3 + 2) : Int32).toInt < (n13 : Nat)) (e18 : 0 ≤ ((x3 + 3) : Int32).toInt ∧ ((x3 + 3) : Int32).toInt < (n13 : Nat)) (e19 : 0 ≤ ((x3 + 4) : Int32).toInt ∧ ((x3 + 4) : Int32).toInt < (n13 : Nat)) (e20 : 0 ≤ ((x3 + 5) : Int32).toInt ∧ ((x3 + 5) : Int32).toInt < (n13 : Nat)) (e22 : h1.2.2 r2 = some (.inr (12, fs21))) (e24 : qCall d 107 [.ref r2, .int (f14 ((x3 + 1) : Int32).toNatClampNeg), .int (f14 ((x3 + 2) : Int32).toNatClampNeg), .int (f14 ((x3 + 3) : Int32).toNatClampNeg), .int (f14 ((x3 + 4) : Int32).toNatClampNeg), .int (f14 ((x3 + 5) : Int32).toNatClampNeg)] h1 ((some (.int z23)), h2)) (e25 : (z11 : Int32) = z23) (kk : qE d 0 1463 [some (.ref r0), some (.ref r1), some (.ref r2), some (.int x3)] [] h2 q): qE d 0 600 [some (.ref r0), some (.ref r1), some (.ref r2), some (.int x3)] [] h q := by
  refine qe_aload_n c0_600 rfl ?_
  refine qe_aload_n c0_601 rfl ?_
  refine qe_iload_n c0_602 rfl ?_
  refine qe_iconst (x := 1) c0_603 (by decide) ?_
  refine qe_iadd c0_604 ?_
  refine qe_script c0_605 e3 e4 ?_
  refine qe_aload_n c0_606 rfl ?_
  refine qe_iload_n c0_607 rfl ?_
  refine qe_iconst (x := 2) c0_608 (by decide) ?_
  refine qe_iadd c0_609 ?_
  refine qe_script c0_610 e3 e5 ?_
  refine qe_aload_n c0_611 rfl ?_
  refine qe_iload_n c0_612 rfl ?_
  refine qe_iconst (x := 3) c0_613 (by decide) ?_
  refine qe_iadd c0_614 ?_
  refine qe_script c0_615 e3 e6 ?_
  refine qe_aload_n c0_616 rfl ?_
  refine qe_iload_n c0_617 rfl ?_
  refine qe_iconst (x := 4) c0_618 (by decide) ?_
  refine qe_iadd c0_619 ?_
  refine qe_script c0_620 e3 e7 ?_
  refine qe_aload_n c0_621 rfl ?_
  refine qe_iload_n c0_622 rfl ?_
  refine qe_iconst (x := 5) c0_623 (by decide) ?_
  refine qe_iadd c0_624 ?_
  refine qe_script c0_625 e3 e8 ?_
  refine qe_virtual (b := r1) (as := [.int (f2 ((x3 + 1) : Int32).toNatClampNeg), .int (f2 ((x3 + 2) : Int32).toNatClampNeg), .int (f2 ((x3 + 3) : Int32).toNatClampNeg), .int (f2 ((x3 + 4) : Int32).toNatClampNeg), .int (f2 ((x3 + 5) : Int32).toNatClampNeg)]) (r := []) (v := (some (.int z11))) (h2 := h1) c0_626 qo0 qK13_58 rfl rfl rfl (by rw [qo46]; exact e10) (Nat.le_of_ble_eq_true rfl) e12 ?_
  refine qe_aload_n c0_629 rfl ?_
  refine qe_aload_n c0_630 rfl ?_
  refine qe_iload_n c0_631 rfl ?_
  refine qe_iconst (x := 1) c0_632 (by decide) ?_
  refine qe_iadd c0_633 ?_
  refine qe_script c0_634 e15 e16 ?_
  refine qe_aload_n c0_635 rfl ?_
  refine qe_iload_n c0_636 rfl ?_
  refine qe_iconst (x := 2) c0_637 (by decide) ?_
  refine qe_iadd c0_638 ?_
  refine qe_script c0_639 e15 e17 ?_
  refine qe_aload_n c0_640 rfl ?_
  refine qe_iload_n c0_641 rfl ?_
  refine qe_iconst (x := 3) c0_642 (by decide) ?_
  refine qe_iadd c0_643 ?_
  refine qe_script c0_644 e15 e18 ?_
  refine qe_aload_n c0_645 rfl ?_
  refine qe_iload_n c0_646 rfl ?_
  refine qe_iconst (x := 4) c0_647 (by decide) ?_
  refine qe_iadd c0_648 ?_
  refine qe_script c0_649 e15 e19 ?_
  refine qe_aload_n c0_650 rfl ?_
  refine qe_iload_n c0_651 rfl ?_
  refine qe_iconst (x := 5) c0_652 (by decide) ?_
  refine qe_iadd c0_653 ?_
  refine qe_script c0_654 e15 e20 ?_
  refine qe_virtual (b := r2) (as := [.int (f14 ((x3 + 1) : Int32).toNatClampNeg), .int (f14 ((x3 + 2) : Int32).toNatClampNeg), .int (f14 ((x3 + 3) : Int32).toNatClampNeg), .int (f14 ((x3 + 4) : Int32).toNatClampNeg), .int (f14 ((x3 + 5) : Int32).toNatClampNeg)]) (r := [.int z11]) (v := (some (.int z23))) (h2 := h2) c0_655 qo0 qK13_61 rfl rfl rfl (by rw [qo107]; exact e22) (Nat.le_of_ble_eq_true rfl) e24 ?_
  refine qe_icmp_eq_T (t := 1463) c0_658 rfl e25 ?_
  exact kk
theorem b0_661 {d : Nat} {h : qH} {r0 : Nat} {r1 : Nat} {r2 : Nat} {x3 : Int32}   : qE d 0 661 [some (.ref r0), some (.ref r1), some (.ref r2), some (.int x3)] [] h (some (.int 0), h) := by
  refine qe_iconst (x := 0) c0_661 (by decide) ?_
  exact qe_zret c0_662 qr0 (by decide)
theorem b0_663F {d : Nat} {q : Option Value × qH} {h : qH} {r0 : Nat} {r1 : Nat} {r2 : Nat} {x3 : Int32} {n1 : Nat} {f2 : Nat → Int32} {fs5 : List Value} {h1 : qH} {z7 : Int32} {n9 : Nat} {f10 : Nat → Int32} {fs13 : List Value} {h2 : qH} {z15 : Int32}  (e3 : h.2.2 r0 = some (.inl (8, n1, .inl f2))) (e4 : 0 ≤ ((x3 + 1) : Int32).toInt ∧ ((x3 + 1) : Int32).toInt < (n1 : Nat)) (e6 : h.2.2 r1 = some (.inr (11, fs5))) (e8 : qCall d 66 [.ref r1, .int (f2 ((x3 + 1) : Int32).toNatClampNeg)] h ((some (.int z7)), h1)) (e11 : h1.2.2 r0 = some (.inl (8, n9, .inl f10))) (e12 : 0 ≤ ((x3 + 1) : Int32).toInt ∧ ((x3 + 1) : Int32).toInt < (n9 : Nat)) (e14 : h1.2.2 r2 = some (.inr (12, fs13))) (e16 : qCall d 158 [.ref r2, .int (f10 ((x3 + 1) : Int32).toNatClampNeg)] h1 ((some (.int z15)), h2)) (e17 : ¬ ((z7 : Int32) = z15)) (kk : qE d 0 684 [some (.ref r0), some (.ref r1), some (.ref r2), some (.int x3)] [] h2 q): qE d 0 663 [some (.ref r0), some (.ref r1), some (.ref r2), some (.int x3)] [] h q := by
  refine qe_aload_n c0_663 rfl ?_
  refine qe_aload_n c0_664 rfl ?_
  refine qe_iload_n c0_665 rfl ?_
  refine qe_iconst (x := 1) c0_666 (by decide) ?_
  refine qe_iadd c0_667 ?_
  refine qe_script c0_668 e3 e4 ?_
  refine qe_virtual (b := r1) (as := [.int (f2 ((x3 + 1) : Int32).toNatClampNeg)]) (r := []) (v := (some (.int z7))) (h2 := h1) c0_669 qo0 qK13_62 rfl rfl rfl (by rw [qo66]; exact e6) (Nat.le_of_ble_eq_true rfl) e8 ?_
  refine qe_aload_n c0_672 rfl ?_
  refine qe_aload_n c0_673 rfl ?_
  refine qe_iload_n c0_674 rfl ?_
  refine qe_iconst (x := 1) c0_675 (by decide) ?_
  refine qe_iadd c0_676 ?_
  refine qe_script c0_677 e11 e12 ?_
  refine qe_virtual (b := r2) (as := [.int (f10 ((x3 + 1) : Int32).toNatClampNeg)]) (r := [.int z7]) (v := (some (.int z15))) (h2 := h2) c0_678 qo0 qK13_66 rfl rfl rfl (by rw [qo158]; exact e14) (Nat.le_of_ble_eq_true rfl) e16 ?_
  refine qe_icmp_eq_F (t := 1463) c0_681 rfl e17 ?_
  exact kk
theorem b0_663T {d : Nat} {q : Option Value × qH} {h : qH} {r0 : Nat} {r1 : Nat} {r2 : Nat} {x3 : Int32} {n1 : Nat} {f2 : Nat → Int32} {fs5 : List Value} {h1 : qH} {z7 : Int32} {n9 : Nat} {f10 : Nat → Int32} {fs13 : List Value} {h2 : qH} {z15 : Int32}  (e3 : h.2.2 r0 = some (.inl (8, n1, .inl f2))) (e4 : 0 ≤ ((x3 + 1) : Int32).toInt ∧ ((x3 + 1) : Int32).toInt < (n1 : Nat)) (e6 : h.2.2 r1 = some (.inr (11, fs5))) (e8 : qCall d 66 [.ref r1, .int (f2 ((x3 + 1) : Int32).toNatClampNeg)] h ((some (.int z7)), h1)) (e11 : h1.2.2 r0 = some (.inl (8, n9, .inl f10))) (e12 : 0 ≤ ((x3 + 1) : Int32).toInt ∧ ((x3 + 1) : Int32).toInt < (n9 : Nat)) (e14 : h1.2.2 r2 = some (.inr (12, fs13))) (e16 : qCall d 158 [.ref r2, .int (f10 ((x3 + 1) : Int32).toNatClampNeg)] h1 ((some (.int z15)), h2)) (e17 : (z7 : Int32) = z15) (kk : qE d 0 1463 [some (.ref r0), some (.ref r1), some (.ref r2), some (.int x3)] [] h2 q): qE d 0 663 [some (.ref r0), some (.ref r1), some (.ref r2), some (.int x3)] [] h q := by
  refine qe_aload_n c0_663 rfl ?_
  refine qe_aload_n c0_664 rfl ?_
  refine qe_iload_n c0_665 rfl ?_
  refine qe_iconst (x := 1) c0_666 (by decide) ?_
  refine qe_iadd c0_667 ?_
  refine qe_script c0_668 e3 e4 ?_
  refine qe_virtual (b := r1) (as := [.int (f2 ((x3 + 1) : Int32).toNatClampNeg)]) (r := []) (v := (some (.int z7))) (h2 := h1) c0_669 qo0 qK13_62 rfl rfl rfl (by rw [qo66]; exact e6) (Nat.le_of_ble_eq_true rfl) e8 ?_
  refine qe_aload_n c0_672 rfl ?_
  refine qe_aload_n c0_673 rfl ?_
  refine qe_iload_n c0_674 rfl ?_
  refine qe_iconst (x := 1) c0_675 (by decide) ?_
  refine qe_iadd c0_676 ?_
  refine qe_script c0_677 e11 e12 ?_
  refine qe_virtual (b := r2) (as := [.int (f10 ((x3 + 1) : Int32).toNatClampNeg)]) (r := [.int z7]) (v := (some (.int z15))) (h2 := h2) c0_678 qo0 qK13_66 rfl rfl rfl (by rw [qo158]; exact e14) (Nat.le_of_ble_eq_true rfl) e16 ?_
  refine qe_icmp_eq_T (t := 1463) c0_681 rfl e17 ?_
  exact kk
theorem b0_684 {d : Nat} {h : qH} {r0 : Nat} {r1 : Nat} {r2 : Nat} {x3 : Int32}   : qE d 0 684 [some (.ref r0), some (.ref r1), some (.ref r2), some (.int x3)] [] h (some (.int 0), h) := by
  refine qe_iconst (x := 0) c0_684 (by decide) ?_
  exact qe_zret c0_685 qr0 (by decide)
theorem b0_686F {d : Nat} {q : Option Value × qH} {h : qH} {r0 : Nat} {r1 : Nat} {r2 : Nat} {x3 : Int32} {fs1 : List Value} {h1 : qH} {z3 : Int32} {fs5 : List Value} {h2 : qH} {z7 : Int32}  (e2 : h.2.2 r1 = some (.inr (11, fs1))) (e4 : qCall d 51 [.ref r1] h ((some (.int z3)), h1)) (e6 : h1.2.2 r2 = some (.inr (12, fs5))) (e8 : qCall d 113 [.ref r2] h1 ((some (.int z7)), h2)) (e9 : ¬ ((z3 : Int32) = z7)) (kk : qE d 0 697 [some (.ref r0), some (.ref r1), some (.ref r2), some (.int x3)] [] h2 q): qE d 0 686 [some (.ref r0), some (.ref r1), some (.ref r2), some (.int x3)] [] h q := by
  refine qe_aload_n c0_686 rfl ?_
  refine qe_virtual (b := r1) (as := []) (r := []) (v := (some (.int z3))) (h2 := h1) c0_687 qo0 qK13_67 rfl rfl rfl (by rw [qo51]; exact e2) (Nat.le_of_ble_eq_true rfl) e4 ?_
  refine qe_aload_n c0_690 rfl ?_
  refine qe_virtual (b := r2) (as := []) (r := [.int z3]) (v := (some (.int z7))) (h2 := h2) c0_691 qo0 qK13_71 rfl rfl rfl (by rw [qo113]; exact e6) (Nat.le_of_ble_eq_true rfl) e8 ?_
  refine qe_icmp_eq_F (t := 1463) c0_694 rfl e9 ?_
  exact kk
theorem b0_686T {d : Nat} {q : Option Value × qH} {h : qH} {r0 : Nat} {r1 : Nat} {r2 : Nat} {x3 : Int32} {fs1 : List Value} {h1 : qH} {z3 : Int32} {fs5 : List Value} {h2 : qH} {z7 : Int32}  (e2 : h.2.2 r1 = some (.inr (11, fs1))) (e4 : qCall d 51 [.ref r1] h ((some (.int z3)), h1)) (e6 : h1.2.2 r2 = some (.inr (12, fs5))) (e8 : qCall d 113 [.ref r2] h1 ((some (.int z7)), h2)) (e9 : (z3 : Int32) = z7) (kk : qE d 0 1463 [some (.ref r0), some (.ref r1), some (.ref r2), some (.int x3)] [] h2 q): qE d 0 686 [some (.ref r0), some (.ref r1), some (.ref r2), some (.int x3)] [] h q := by
  refine qe_aload_n c0_686 rfl ?_
  refine qe_virtual (b := r1) (as := []) (r := []) (v := (some (.int z3))) (h2 := h1) c0_687 qo0 qK13_67 rfl rfl rfl (by rw [qo51]; exact e2) (Nat.le_of_ble_eq_true rfl) e4 ?_
  refine qe_aload_n c0_690 rfl ?_
  refine qe_virtual (b := r2) (as := []) (r := [.int z3]) (v := (some (.int z7))) (h2 := h2) c0_691 qo0 qK13_71 rfl rfl rfl (by rw [qo113]; exact e6) (Nat.le_of_ble_eq_true rfl) e8 ?_
  refine qe_icmp_eq_T (t := 1463) c0_694 rfl e9 ?_
  exact kk
theorem b0_697 {d : Nat} {h : qH} {r0 : Nat} {r1 : Nat} {r2 : Nat} {x3 : Int32}   : qE d 0 697 [some (.ref r0), some (.ref r1), some (.ref r2), some (.int x3)] [] h (some (.int 0), h) := by
  refine qe_iconst (x := 0) c0_697 (by decide) ?_
  exact qe_zret c0_698 qr0 (by decide)
theorem b0_699F {d : Nat} {q : Option Value × qH} {h : qH} {r0 : Nat} {r1 : Nat} {r2 : Nat} {x3 : Int32} {n1 : Nat} {f2 : Nat → Int32} {fs5 : List Value} {h1 : qH} {z7 : Int64} {n9 : Nat} {f10 : Nat → Int32} {fs13 : List Value} {h2 : qH} {z15 : Int64}  (e3 : h.2.2 r0 = some (.inl (8, n1, .inl f2))) (e4 : 0 ≤ ((x3 + 1) : Int32).toInt ∧ ((x3 + 1) : Int32).toInt < (n1 : Nat)) (e6 : h.2.2 r1 = some (.inr (11, fs5))) (e8 : qCall d 50 [.ref r1, .int (f2 ((x3 + 1) : Int32).toNatClampNeg)] h ((some (.long z7)), h1)) (e11 : h1.2.2 r0 = some (.inl (8, n9, .inl f10))) (e12 : 0 ≤ ((x3 + 1) : Int32).toInt ∧ ((x3 + 1) : Int32).toInt < (n9 : Nat)) (e14 : h1.2.2 r2 = some (.inr (12, fs13))) (e16 : qCall d 110 [.ref r2, .int (f10 ((x3 + 1) : Int32).toNatClampNeg)] h1 ((some (.long z15)), h2)) (e17 : ¬ (((lg_cmp z7 z15) : Int32) = 0)) (kk : qE d 0 721 [some (.ref r0), some (.ref r1), some (.ref r2), some (.int x3)] [] h2 q): qE d 0 699 [some (.ref r0), some (.ref r1), some (.ref r2), some (.int x3)] [] h q := by
  refine qe_aload_n c0_699 rfl ?_
  refine qe_aload_n c0_700 rfl ?_
  refine qe_iload_n c0_701 rfl ?_
  refine qe_iconst (x := 1) c0_702 (by decide) ?_
  refine qe_iadd c0_703 ?_
  refine qe_script c0_704 e3 e4 ?_
  refine qe_virtual (b := r1) (as := [.int (f2 ((x3 + 1) : Int32).toNatClampNeg)]) (r := []) (v := (some (.long z7))) (h2 := h1) c0_705 qo0 qK13_72 rfl rfl rfl (by rw [qo50]; exact e6) (Nat.le_of_ble_eq_true rfl) e8 ?_
  refine qe_aload_n c0_708 rfl ?_
  refine qe_aload_n c0_709 rfl ?_
  refine qe_iload_n c0_710 rfl ?_
  refine qe_iconst (x := 1) c0_711 (by decide) ?_
  refine qe_iadd c0_712 ?_
  refine qe_script c0_713 e11 e12 ?_
  refine qe_virtual (b := r2) (as := [.int (f10 ((x3 + 1) : Int32).toNatClampNeg)]) (r := [.long z7]) (v := (some (.long z15))) (h2 := h2) c0_714 qo0 qK13_76 rfl rfl rfl (by rw [qo110]; exact e14) (Nat.le_of_ble_eq_true rfl) e16 ?_
  refine qe_lcmp c0_717 ?_
  refine qe_if_eq_F (t := 1463) c0_718 rfl e17 ?_
  exact kk
theorem b0_699T {d : Nat} {q : Option Value × qH} {h : qH} {r0 : Nat} {r1 : Nat} {r2 : Nat} {x3 : Int32} {n1 : Nat} {f2 : Nat → Int32} {fs5 : List Value} {h1 : qH} {z7 : Int64} {n9 : Nat} {f10 : Nat → Int32} {fs13 : List Value} {h2 : qH} {z15 : Int64}  (e3 : h.2.2 r0 = some (.inl (8, n1, .inl f2))) (e4 : 0 ≤ ((x3 + 1) : Int32).toInt ∧ ((x3 + 1) : Int32).toInt < (n1 : Nat)) (e6 : h.2.2 r1 = some (.inr (11, fs5))) (e8 : qCall d 50 [.ref r1, .int (f2 ((x3 + 1) : Int32).toNatClampNeg)] h ((some (.long z7)), h1)) (e11 : h1.2.2 r0 = some (.inl (8, n9, .inl f10))) (e12 : 0 ≤ ((x3 + 1) : Int32).toInt ∧ ((x3 + 1) : Int32).toInt < (n9 : Nat)) (e14 : h1.2.2 r2 = some (.inr (12, fs13))) (e16 : qCall d 110 [.ref r2, .int (f10 ((x3 + 1) : Int32).toNatClampNeg)] h1 ((some (.long z15)), h2)) (e17 : ((lg_cmp z7 z15) : Int32) = 0) (kk : qE d 0 1463 [some (.ref r0), some (.ref r1), some (.ref r2), some (.int x3)] [] h2 q): qE d 0 699 [some (.ref r0), some (.ref r1), some (.ref r2), some (.int x3)] [] h q := by
  refine qe_aload_n c0_699 rfl ?_
  refine qe_aload_n c0_700 rfl ?_
  refine qe_iload_n c0_701 rfl ?_
  refine qe_iconst (x := 1) c0_702 (by decide) ?_
  refine qe_iadd c0_703 ?_
  refine qe_script c0_704 e3 e4 ?_
  refine qe_virtual (b := r1) (as := [.int (f2 ((x3 + 1) : Int32).toNatClampNeg)]) (r := []) (v := (some (.long z7))) (h2 := h1) c0_705 qo0 qK13_72 rfl rfl rfl (by rw [qo50]; exact e6) (Nat.le_of_ble_eq_true rfl) e8 ?_
  refine qe_aload_n c0_708 rfl ?_
  refine qe_aload_n c0_709 rfl ?_
  refine qe_iload_n c0_710 rfl ?_
  refine qe_iconst (x := 1) c0_711 (by decide) ?_
  refine qe_iadd c0_712 ?_
  refine qe_script c0_713 e11 e12 ?_
  refine qe_virtual (b := r2) (as := [.int (f10 ((x3 + 1) : Int32).toNatClampNeg)]) (r := [.long z7]) (v := (some (.long z15))) (h2 := h2) c0_714 qo0 qK13_76 rfl rfl rfl (by rw [qo110]; exact e14) (Nat.le_of_ble_eq_true rfl) e16 ?_
  refine qe_lcmp c0_717 ?_
  refine qe_if_eq_T (t := 1463) c0_718 rfl e17 ?_
  exact kk
theorem b0_721 {d : Nat} {h : qH} {r0 : Nat} {r1 : Nat} {r2 : Nat} {x3 : Int32}   : qE d 0 721 [some (.ref r0), some (.ref r1), some (.ref r2), some (.int x3)] [] h (some (.int 0), h) := by
  refine qe_iconst (x := 0) c0_721 (by decide) ?_
  exact qe_zret c0_722 qr0 (by decide)
theorem b0_723F {d : Nat} {q : Option Value × qH} {h : qH} {r0 : Nat} {r1 : Nat} {r2 : Nat} {x3 : Int32} {n1 : Nat} {f2 : Nat → Int32} {fs6 : List Value} {h1 : qH} {z8 : Int32} {n10 : Nat} {f11 : Nat → Int32} {fs15 : List Value} {h2 : qH} {z17 : Int32}  (e3 : h.2.2 r0 = some (.inl (8, n1, .inl f2))) (e4 : 0 ≤ ((x3 + 1) : Int32).toInt ∧ ((x3 + 1) : Int32).toInt < (n1 : Nat)) (e5 : 0 ≤ ((x3 + 2) : Int32).toInt ∧ ((x3 + 2) : Int32).toInt < (n1 : Nat)) (e7 : h.2.2 r1 = some (.inr (11, fs6))) (e9 : qCall d 78 [.ref r1, .int (f2 ((x3 + 1) : Int32).toNatClampNeg), .int (f2 ((x3 + 2) : Int32).toNatClampNeg)] h ((some (.int z8)), h1)) (e12 : h1.2.2 r0 = some (.inl (8, n10, .inl f11))) (e13 : 0 ≤ ((x3 + 1) : Int32).toInt ∧ ((x3 + 1) : Int32).toInt < (n10 : Nat)) (e14 : 0 ≤ ((x3 + 2) : Int32).toInt ∧ ((x3 + 2) : Int32).toInt < (n10 : Nat)) (e16 : h1.2.2 r2 = some (.inr (12, fs15))) (e18 : qCall d 186 [.ref r2, .int (f11 ((x3 + 1) : Int32).toNatClampNeg), .int (f11 ((x3 + 2) : Int32).toNatClampNeg)] h1 ((some (.int z17)), h2)) (e19 : ¬ ((z8 : Int32) = z17)) (kk : qE d 0 754 [some (.ref r0), some (.ref r1), some (.ref r2), some (.int x3)] [] h2 q): qE d 0 723 [some (.ref r0), some (.ref r1), some (.ref r2), some (.int x3)] [] h q := by
  refine qe_aload_n c0_723 rfl ?_
  refine qe_aload_n c0_724 rfl ?_
  refine qe_iload_n c0_725 rfl ?_
  refine qe_iconst (x := 1) c0_726 (by decide) ?_
  refine qe_iadd c0_727 ?_
  refine qe_script c0_728 e3 e4 ?_
  refine qe_aload_n c0_729 rfl ?_
  refine qe_iload_n c0_730 rfl ?_
  refine qe_iconst (x := 2) c0_731 (by decide) ?_
  refine qe_iadd c0_732 ?_
  refine qe_script c0_733 e3 e5 ?_
  refine qe_virtual (b := r1) (as := [.int (f2 ((x3 + 1) : Int32).toNatClampNeg), .int (f2 ((x3 + 2) : Int32).toNatClampNeg)]) (r := []) (v := (some (.int z8))) (h2 := h1) c0_734 qo0 qK13_77 rfl rfl rfl (by rw [qo78]; exact e7) (Nat.le_of_ble_eq_true rfl) e9 ?_
  refine qe_aload_n c0_737 rfl ?_
  refine qe_aload_n c0_738 rfl ?_
  refine qe_iload_n c0_739 rfl ?_
  refine qe_iconst (x := 1) c0_740 (by decide) ?_
  refine qe_iadd c0_741 ?_
  refine qe_script c0_742 e12 e13 ?_
  refine qe_aload_n c0_743 rfl ?_
  refine qe_iload_n c0_744 rfl ?_
  refine qe_iconst (x := 2) c0_745 (by decide) ?_
  refine qe_iadd c0_746 ?_
  refine qe_script c0_747 e12 e14 ?_
  refine qe_virtual (b := r2) (as := [.int (f11 ((x3 + 1) : Int32).toNatClampNeg), .int (f11 ((x3 + 2) : Int32).toNatClampNeg)]) (r := [.int z8]) (v := (some (.int z17))) (h2 := h2) c0_748 qo0 qK13_81 rfl rfl rfl (by rw [qo186]; exact e16) (Nat.le_of_ble_eq_true rfl) e18 ?_
  refine qe_icmp_eq_F (t := 1463) c0_751 rfl e19 ?_
  exact kk
theorem b0_723T {d : Nat} {q : Option Value × qH} {h : qH} {r0 : Nat} {r1 : Nat} {r2 : Nat} {x3 : Int32} {n1 : Nat} {f2 : Nat → Int32} {fs6 : List Value} {h1 : qH} {z8 : Int32} {n10 : Nat} {f11 : Nat → Int32} {fs15 : List Value} {h2 : qH} {z17 : Int32}  (e3 : h.2.2 r0 = some (.inl (8, n1, .inl f2))) (e4 : 0 ≤ ((x3 + 1) : Int32).toInt ∧ ((x3 + 1) : Int32).toInt < (n1 : Nat)) (e5 : 0 ≤ ((x3 + 2) : Int32).toInt ∧ ((x3 + 2) : Int32).toInt < (n1 : Nat)) (e7 : h.2.2 r1 = some (.inr (11, fs6))) (e9 : qCall d 78 [.ref r1, .int (f2 ((x3 + 1) : Int32).toNatClampNeg), .int (f2 ((x3 + 2) : Int32).toNatClampNeg)] h ((some (.int z8)), h1)) (e12 : h1.2.2 r0 = some (.inl (8, n10, .inl f11))) (e13 : 0 ≤ ((x3 + 1) : Int32).toInt ∧ ((x3 + 1) : Int32).toInt < (n10 : Nat)) (e14 : 0 ≤ ((x3 + 2) : Int32).toInt ∧ ((x3 + 2) : Int32).toInt < (n10 : Nat)) (e16 : h1.2.2 r2 = some (.inr (12, fs15))) (e18 : qCall d 186 [.ref r2, .int (f11 ((x3 + 1) : Int32).toNatClampNeg), .int (f11 ((x3 + 2) : Int32).toNatClampNeg)] h1 ((some (.int z17)), h2)) (e19 : (z8 : Int32) = z17) (kk : qE d 0 1463 [some (.ref r0), some (.ref r1), some (.ref r2), some (.int x3)] [] h2 q): qE d 0 723 [some (.ref r0), some (.ref r1), some (.ref r2), some (.int x3)] [] h q := by
  refine qe_aload_n c0_723 rfl ?_
  refine qe_aload_n c0_724 rfl ?_
  refine qe_iload_n c0_725 rfl ?_
  refine qe_iconst (x := 1) c0_726 (by decide) ?_
  refine qe_iadd c0_727 ?_
  refine qe_script c0_728 e3 e4 ?_
  refine qe_aload_n c0_729 rfl ?_
  refine qe_iload_n c0_730 rfl ?_
  refine qe_iconst (x := 2) c0_731 (by decide) ?_
  refine qe_iadd c0_732 ?_
  refine qe_script c0_733 e3 e5 ?_
  refine qe_virtual (b := r1) (as := [.int (f2 ((x3 + 1) : Int32).toNatClampNeg), .int (f2 ((x3 + 2) : Int32).toNatClampNeg)]) (r := []) (v := (some (.int z8))) (h2 := h1) c0_734 qo0 qK13_77 rfl rfl rfl (by rw [qo78]; exact e7) (Nat.le_of_ble_eq_true rfl) e9 ?_
  refine qe_aload_n c0_737 rfl ?_
  refine qe_aload_n c0_738 rfl ?_
  refine qe_iload_n c0_739 rfl ?_
  refine qe_iconst (x := 1) c0_740 (by decide) ?_
  refine qe_iadd c0_741 ?_
  refine qe_script c0_742 e12 e13 ?_
  refine qe_aload_n c0_743 rfl ?_
  refine qe_iload_n c0_744 rfl ?_
  refine qe_iconst (x := 2) c0_745 (by decide) ?_
  refine qe_iadd c0_746 ?_
  refine qe_script c0_747 e12 e14 ?_
  refine qe_virtual (b := r2) (as := [.int (f11 ((x3 + 1) : Int32).toNatClampNeg), .int (f11 ((x3 + 2) : Int32).toNatClampNeg)]) (r := [.int z8]) (v := (some (.int z17))) (h2 := h2) c0_748 qo0 qK13_81 rfl rfl rfl (by rw [qo186]; exact e16) (Nat.le_of_ble_eq_true rfl) e18 ?_
  refine qe_icmp_eq_T (t := 1463) c0_751 rfl e19 ?_
  exact kk
theorem b0_754 {d : Nat} {h : qH} {r0 : Nat} {r1 : Nat} {r2 : Nat} {x3 : Int32}   : qE d 0 754 [some (.ref r0), some (.ref r1), some (.ref r2), some (.int x3)] [] h (some (.int 0), h) := by
  refine qe_iconst (x := 0) c0_754 (by decide) ?_
  exact qe_zret c0_755 qr0 (by decide)
theorem b0_756F {d : Nat} {q : Option Value × qH} {h : qH} {r0 : Nat} {r1 : Nat} {r2 : Nat} {x3 : Int32} {n1 : Nat} {f2 : Nat → Int32} {fs6 : List Value} {h1 : qH} {z8 : Int32} {n10 : Nat} {f11 : Nat → Int32} {fs15 : List Value} {h2 : qH} {z17 : Int32}  (e3 : h.2.2 r0 = some (.inl (8, n1, .inl f2))) (e4 : 0 ≤ ((x3 + 1) : Int32).toInt ∧ ((x3 + 1) : Int32).toInt < (n1 : Nat)) (e5 : 0 ≤ ((x3 + 2) : Int32).toInt ∧ ((x3 + 2) : Int32).toInt < (n1 : Nat)) (e7 : h.2.2 r1 = some (.inr (11, fs6))) (e9 : qCall d 82 [.ref r1, .int (f2 ((x3 + 1) : Int32).toNatClampNeg), .int (f2 ((x3 + 2) : Int32).toNatClampNeg)] h ((some (.int z8)), h1)) (e12 : h1.2.2 r0 = some (.inl (8, n10, .inl f11))) (e13 : 0 ≤ ((x3 + 1) : Int32).toInt ∧ ((x3 + 1) : Int32).toInt < (n10 : Nat)) (e14 : 0 ≤ ((x3 + 2) : Int32).toInt ∧ ((x3 + 2) : Int32).toInt < (n10 : Nat)) (e16 : h1.2.2 r2 = some (.inr (12, fs15))) (e18 : qCall d 189 [.ref r2, .int (f11 ((x3 + 1) : Int32).toNatClampNeg), .int (f11 ((x3 + 2) : Int32).toNatClampNeg)] h1 ((some (.int z17)), h2)) (e19 : ¬ ((z8 : Int32) = z17)) (kk : qE d 0 787 [some (.ref r0), some (.ref r1), some (.ref r2), some (.int x3)] [] h2 q): qE d 0 756 [some (.ref r0), some (.ref r1), some (.ref r2), some (.int x3)] [] h q := by
  refine qe_aload_n c0_756 rfl ?_
  refine qe_aload_n c0_757 rfl ?_
  refine qe_iload_n c0_758 rfl ?_
  refine qe_iconst (x := 1) c0_759 (by decide) ?_
  refine qe_iadd c0_760 ?_
  refine qe_script c0_761 e3 e4 ?_
  refine qe_aload_n c0_762 rfl ?_
  refine qe_iload_n c0_763 rfl ?_
  refine qe_iconst (x := 2) c0_764 (by decide) ?_
  refine qe_iadd c0_765 ?_
  refine qe_script c0_766 e3 e5 ?_
  refine qe_virtual (b := r1) (as := [.int (f2 ((x3 + 1) : Int32).toNatClampNeg), .int (f2 ((x3 + 2) : Int32).toNatClampNeg)]) (r := []) (v := (some (.int z8))) (h2 := h1) c0_767 qo0 qK13_82 rfl rfl rfl (by rw [qo82]; exact e7) (Nat.le_of_ble_eq_true rfl) e9 ?_
  refine qe_aload_n c0_770 rfl ?_
  refine qe_aload_n c0_771 rfl ?_
  refine qe_iload_n c0_772 rfl ?_
  refine qe_iconst (x := 1) c0_773 (by decide) ?_
  refine qe_iadd c0_774 ?_
  refine qe_script c0_775 e12 e13 ?_
  refine qe_aload_n c0_776 rfl ?_
  refine qe_iload_n c0_777 rfl ?_
  refine qe_iconst (x := 2) c0_778 (by decide) ?_
  refine qe_iadd c0_779 ?_
  refine qe_script c0_780 e12 e14 ?_
  refine qe_virtual (b := r2) (as := [.int (f11 ((x3 + 1) : Int32).toNatClampNeg), .int (f11 ((x3 + 2) : Int32).toNatClampNeg)]) (r := [.int z8]) (v := (some (.int z17))) (h2 := h2) c0_781 qo0 qK13_85 rfl rfl rfl (by rw [qo189]; exact e16) (Nat.le_of_ble_eq_true rfl) e18 ?_
  refine qe_icmp_eq_F (t := 1463) c0_784 rfl e19 ?_
  exact kk
theorem b0_756T {d : Nat} {q : Option Value × qH} {h : qH} {r0 : Nat} {r1 : Nat} {r2 : Nat} {x3 : Int32} {n1 : Nat} {f2 : Nat → Int32} {fs6 : List Value} {h1 : qH} {z8 : Int32} {n10 : Nat} {f11 : Nat → Int32} {fs15 : List Value} {h2 : qH} {z17 : Int32}  (e3 : h.2.2 r0 = some (.inl (8, n1, .inl f2))) (e4 : 0 ≤ ((x3 + 1) : Int32).toInt ∧ ((x3 + 1) : Int32).toInt < (n1 : Nat)) (e5 : 0 ≤ ((x3 + 2) : Int32).toInt ∧ ((x3 + 2) : Int32).toInt < (n1 : Nat)) (e7 : h.2.2 r1 = some (.inr (11, fs6))) (e9 : qCall d 82 [.ref r1, .int (f2 ((x3 + 1) : Int32).toNatClampNeg), .int (f2 ((x3 + 2) : Int32).toNatClampNeg)] h ((some (.int z8)), h1)) (e12 : h1.2.2 r0 = some (.inl (8, n10, .inl f11))) (e13 : 0 ≤ ((x3 + 1) : Int32).toInt ∧ ((x3 + 1) : Int32).toInt < (n10 : Nat)) (e14 : 0 ≤ ((x3 + 2) : Int32).toInt ∧ ((x3 + 2) : Int32).toInt < (n10 : Nat)) (e16 : h1.2.2 r2 = some (.inr (12, fs15))) (e18 : qCall d 189 [.ref r2, .int (f11 ((x3 + 1) : Int32).toNatClampNeg), .int (f11 ((x3 + 2) : Int32).toNatClampNeg)] h1 ((some (.int z17)), h2)) (e19 : (z8 : Int32) = z17) (kk : qE d 0 1463 [some (.ref r0), some (.ref r1), some (.ref r2), some (.int x3)] [] h2 q): qE d 0 756 [some (.ref r0), some (.ref r1), some (.ref r2), some (.int x3)] [] h q := by
  refine qe_aload_n c0_756 rfl ?_
  refine qe_aload_n c0_757 rfl ?_
  refine qe_iload_n c0_758 rfl ?_
  refine qe_iconst (x := 1) c0_759 (by decide) ?_
  refine qe_iadd c0_760 ?_
  refine qe_script c0_761 e3 e4 ?_
  refine qe_aload_n c0_762 rfl ?_
  refine qe_iload_n c0_763 rfl ?_
  refine qe_iconst (x := 2) c0_764 (by decide) ?_
  refine qe_iadd c0_765 ?_
  refine qe_script c0_766 e3 e5 ?_
  refine qe_virtual (b := r1) (as := [.int (f2 ((x3 + 1) : Int32).toNatClampNeg), .int (f2 ((x3 + 2) : Int32).toNatClampNeg)]) (r := []) (v := (some (.int z8))) (h2 := h1) c0_767 qo0 qK13_82 rfl rfl rfl (by rw [qo82]; exact e7) (Nat.le_of_ble_eq_true rfl) e9 ?_
  refine qe_aload_n c0_770 rfl ?_
  refine qe_aload_n c0_771 rfl ?_
  refine qe_iload_n c0_772 rfl ?_
  refine qe_iconst (x := 1) c0_773 (by decide) ?_
  refine qe_iadd c0_774 ?_
  refine qe_script c0_775 e12 e13 ?_
  refine qe_aload_n c0_776 rfl ?_
  refine qe_iload_n c0_777 rfl ?_
  refine qe_iconst (x := 2) c0_778 (by decide) ?_
  refine qe_iadd c0_779 ?_
  refine qe_script c0_780 e12 e14 ?_
  refine qe_virtual (b := r2) (as := [.int (f11 ((x3 + 1) : Int32).toNatClampNeg), .int (f11 ((x3 + 2) : Int32).toNatClampNeg)]) (r := [.int z8]) (v := (some (.int z17))) (h2 := h2) c0_781 qo0 qK13_85 rfl rfl rfl (by rw [qo189]; exact e16) (Nat.le_of_ble_eq_true rfl) e18 ?_
  refine qe_icmp_eq_T (t := 1463) c0_784 rfl e19 ?_
  exact kk
theorem b0_787 {d : Nat} {h : qH} {r0 : Nat} {r1 : Nat} {r2 : Nat} {x3 : Int32}   : qE d 0 787 [some (.ref r0), some (.ref r1), some (.ref r2), some (.int x3)] [] h (some (.int 0), h) := by
  refine qe_iconst (x := 0) c0_787 (by decide) ?_
  exact qe_zret c0_788 qr0 (by decide)
theorem b0_789F {d : Nat} {q : Option Value × qH} {h : qH} {r0 : Nat} {r1 : Nat} {r2 : Nat} {x3 : Int32} {n1 : Nat} {f2 : Nat → Int32} {fs6 : List Value} {h1 : qH} {z8 : Int32} {n10 : Nat} {f11 : Nat → Int32} {fs15 : List Value} {h2 : qH} {z17 : Int32}  (e3 : h.2.2 r0 = some (.inl (8, n1, .inl f2))) (e4 : 0 ≤ ((x3 + 1) : Int32).toInt ∧ ((x3 + 1) : Int32).toInt < (n1 : Nat)) (e5 : 0 ≤ ((x3 + 2) : Int32).toInt ∧ ((x3 + 2) : Int32).toInt < (n1 : Nat)) (e7 : h.2.2 r1 = some (.inr (11, fs6))) (e9 : qCall d 72 [.ref r1, .int (f2 ((x3 + 1) : Int32).toNatClampNeg), .int (f2 ((x3 + 2) : Int32).toNatClampNeg)] h ((some (.int z8)), h1)) (e12 : h1.2.2 r0 = some (.inl (8, n10, .inl f11))) (e13 : 0 ≤ ((x3 + 1) : Int32).toInt ∧ ((x3 + 1) : Int32).toInt < (n10 : Nat)) (e14 : 0 ≤ ((x3 + 2) : Int32).toInt ∧ ((x3 + 2) : Int32).toInt < (n10 : Nat)) (e16 : h1.2.2 r2 = some (.inr (12, fs15))) (e18 : qCall d 172 [.ref r2, .int (f11 ((x3 + 1) : Int32).toNatClampNeg), .int (f11 ((x3 + 2) : Int32).toNatClampNeg)] h1 ((some (.int z17)), h2)) (e19 : ¬ ((z8 : Int32) = z17)) (kk : qE d 0 820 [some (.ref r0), some (.ref r1), some (.ref r2), some (.int x3)] [] h2 q): qE d 0 789 [some (.ref r0), some (.ref r1), some (.ref r2), some (.int x3)] [] h q := by
  refine qe_aload_n c0_789 rfl ?_
  refine qe_aload_n c0_790 rfl ?_
  refine qe_iload_n c0_791 rfl ?_
  refine qe_iconst (x := 1) c0_792 (by decide) ?_
  refine qe_iadd c0_793 ?_
  refine qe_script c0_794 e3 e4 ?_
  refine qe_aload_n c0_795 rfl ?_
  refine qe_iload_n c0_796 rfl ?_
  refine qe_iconst (x := 2) c0_797 (by decide) ?_
  refine qe_iadd c0_798 ?_
  refine qe_script c0_799 e3 e5 ?_
  refine qe_virtual (b := r1) (as := [.int (f2 ((x3 + 1) : Int32).toNatClampNeg), .int (f2 ((x3 + 2) : Int32).toNatClampNeg)]) (r := []) (v := (some (.int z8))) (h2 := h1) c0_800 qo0 qK13_86 rfl rfl rfl (by rw [qo72]; exact e7) (Nat.le_of_ble_eq_true rfl) e9 ?_
  refine qe_aload_n c0_803 rfl ?_
  refine qe_aload_n c0_804 rfl ?_
  refine qe_iload_n c0_805 rfl ?_
  refine qe_iconst (x := 1) c0_806 (by decide) ?_
  refine qe_iadd c0_807 ?_
  refine qe_script c0_808 e12 e13 ?_
  refine qe_aload_n c0_809 rfl ?_
  refine qe_iload_n c0_810 rfl ?_
  refine qe_iconst (x := 2) c0_811 (by decide) ?_
  refine qe_iadd c0_812 ?_
  refine qe_script c0_813 e12 e14 ?_
  refine qe_virtual (b := r2) (as := [.int (f11 ((x3 + 1) : Int32).toNatClampNeg), .int (f11 ((x3 + 2) : Int32).toNatClampNeg)]) (r := [.int z8]) (v := (some (.int z17))) (h2 := h2) c0_814 qo0 qK13_89 rfl rfl rfl (by rw [qo172]; exact e16) (Nat.le_of_ble_eq_true rfl) e18 ?_
  refine qe_icmp_eq_F (t := 1463) c0_817 rfl e19 ?_
  exact kk
theorem b0_789T {d : Nat} {q : Option Value × qH} {h : qH} {r0 : Nat} {r1 : Nat} {r2 : Nat} {x3 : Int32} {n1 : Nat} {f2 : Nat → Int32} {fs6 : List Value} {h1 : qH} {z8 : Int32} {n10 : Nat} {f11 : Nat → Int32} {fs15 : List Value} {h2 : qH} {z17 : Int32}  (e3 : h.2.2 r0 = some (.inl (8, n1, .inl f2))) (e4 : 0 ≤ ((x3 + 1) : Int32).toInt ∧ ((x3 + 1) : Int32).toInt < (n1 : Nat)) (e5 : 0 ≤ ((x3 + 2) : Int32).toInt ∧ ((x3 + 2) : Int32).toInt < (n1 : Nat)) (e7 : h.2.2 r1 = some (.inr (11, fs6))) (e9 : qCall d 72 [.ref r1, .int (f2 ((x3 + 1) : Int32).toNatClampNeg), .int (f2 ((x3 + 2) : Int32).toNatClampNeg)] h ((some (.int z8)), h1)) (e12 : h1.2.2 r0 = some (.inl (8, n10, .inl f11))) (e13 : 0 ≤ ((x3 + 1) : Int32).toInt ∧ ((x3 + 1) : Int32).toInt < (n10 : Nat)) (e14 : 0 ≤ ((x3 + 2) : Int32).toInt ∧ ((x3 + 2) : Int32).toInt < (n10 : Nat)) (e16 : h1.2.2 r2 = some (.inr (12, fs15))) (e18 : qCall d 172 [.ref r2, .int (f11 ((x3 + 1) : Int32).toNatClampNeg), .int (f11 ((x3 + 2) : Int32).toNatClampNeg)] h1 ((some (.int z17)), h2)) (e19 : (z8 : Int32) = z17) (kk : qE d 0 1463 [some (.ref r0), some (.ref r1), some (.ref r2), some (.int x3)] [] h2 q): qE d 0 789 [some (.ref r0), some (.ref r1), some (.ref r2), some (.int x3)] [] h q := by
  refine qe_aload_n c0_789 rfl ?_
  refine qe_aload_n c0_790 rfl ?_
  refine qe_iload_n c0_791 rfl ?_
  refine qe_iconst (x := 1) c0_792 (by decide) ?_
  refine qe_iadd c0_793 ?_
  refine qe_script c0_794 e3 e4 ?_
  refine qe_aload_n c0_795 rfl ?_
  refine qe_iload_n c0_796 rfl ?_
  refine qe_iconst (x := 2) c0_797 (by decide) ?_
  refine qe_iadd c0_798 ?_
  refine qe_script c0_799 e3 e5 ?_
  refine qe_virtual (b := r1) (as := [.int (f2 ((x3 + 1) : Int32).toNatClampNeg), .int (f2 ((x3 + 2) : Int32).toNatClampNeg)]) (r := []) (v := (some (.int z8))) (h2 := h1) c0_800 qo0 qK13_86 rfl rfl rfl (by rw [qo72]; exact e7) (Nat.le_of_ble_eq_true rfl) e9 ?_
  refine qe_aload_n c0_803 rfl ?_
  refine qe_aload_n c0_804 rfl ?_
  refine qe_iload_n c0_805 rfl ?_
  refine qe_iconst (x := 1) c0_806 (by decide) ?_
  refine qe_iadd c0_807 ?_
  refine qe_script c0_808 e12 e13 ?_
  refine qe_aload_n c0_809 rfl ?_
  refine qe_iload_n c0_810 rfl ?_
  refine qe_iconst (x := 2) c0_811 (by decide) ?_
  refine qe_iadd c0_812 ?_
  refine qe_script c0_813 e12 e14 ?_
  refine qe_virtual (b := r2) (as := [.int (f11 ((x3 + 1) : Int32).toNatClampNeg), .int (f11 ((x3 + 2) : Int32).toNatClampNeg)]) (r := [.int z8]) (v := (some (.int z17))) (h2 := h2) c0_814 qo0 qK13_89 rfl rfl rfl (by rw [qo172]; exact e16) (Nat.le_of_ble_eq_true rfl) e18 ?_
  refine qe_icmp_eq_T (t := 1463) c0_817 rfl e19 ?_
  exact kk
theorem b0_820 {d : Nat} {h : qH} {r0 : Nat} {r1 : Nat} {r2 : Nat} {x3 : Int32}   : qE d 0 820 [some (.ref r0), some (.ref r1), some (.ref r2), some (.int x3)] [] h (some (.int 0), h) := by
  refine qe_iconst (x := 0) c0_820 (by decide) ?_
  exact qe_zret c0_821 qr0 (by decide)
theorem b0_822F {d : Nat} {q : Option Value × qH} {h : qH} {r0 : Nat} {r1 : Nat} {r2 : Nat} {x3 : Int32} {n1 : Nat} {f2 : Nat → Int32} {fs6 : List Value} {h1 : qH} {z8 : Int32} {n10 : Nat} {f11 : Nat → Int32} {fs15 : List Value} {h2 : qH} {z17 : Int32}  (e3 : h.2.2 r0 = some (.inl (8, n1, .inl f2))) (e4 : 0 ≤ ((x3 + 1) : Int32).toInt ∧ ((x3 + 1) : Int32).toInt < (n1 : Nat)) (e5 : 0 ≤ ((x3 + 2) : Int32).toInt ∧ ((x3 + 2) : Int32).toInt < (n1 : Nat)) (e7 : h.2.2 r1 = some (.inr (11, fs6))) (e9 : qCall d 45 [.ref r1, .int (f2 ((x3 + 1) : Int32).toNatClampNeg), .int (f2 ((x3 + 2) : Int32).toNatClampNeg)] h ((some (.int z8)), h1)) (e12 : h1.2.2 r0 = some (.inl (8, n10, .inl f11))) (e13 : 0 ≤ ((x3 + 1) : Int32).toInt ∧ ((x3 + 1) : Int32).toInt < (n10 : Nat)) (e14 : 0 ≤ ((x3 + 2) : Int32).toInt ∧ ((x3 + 2) : Int32).toInt < (n10 : Nat)) (e16 : h1.2.2 r2 = some (.inr (12, fs15))) (e18 : qCall d 105 [.ref r2, .int (f11 ((x3 + 1) : Int32).toNatClampNeg), .int (f11 ((x3 + 2) : Int32).toNatClampNeg)] h1 ((some (.int z17)), h2)) (e19 : ¬ ((z8 : Int32) = z17)) (kk : qE d 0 853 [some (.ref r0), some (.ref r1), some (.ref r2), some (.int x3)] [] h2 q): qE d 0 822 [some (.ref r0), some (.ref r1), some (.ref r2), some (.int x3)] [] h q := by
  refine qe_aload_n c0_822 rfl ?_
  refine qe_aload_n c0_823 rfl ?_
  refine qe_iload_n c0_824 rfl ?_
  refine qe_iconst (x := 1) c0_825 (by decide) ?_
  refine qe_iadd c0_826 ?_
  refine qe_script c0_827 e3 e4 ?_
  refine qe_aload_n c0_828 rfl ?_
  refine qe_iload_n c0_829 rfl ?_
  refine qe_iconst (x := 2) c0_830 (by decide) ?_
  refine qe_iadd c0_831 ?_
  refine qe_script c0_832 e3 e5 ?_
  refine qe_virtual (b := r1) (as := [.int (f2 ((x3 + 1) : Int32).toNatClampNeg), .int (f2 ((x3 + 2) : Int32).toNatClampNeg)]) (r := []) (v := (some (.int z8))) (h2 := h1) c0_833 qo0 qK13_90 rfl rfl rfl (by rw [qo45]; exact e7) (Nat.le_of_ble_eq_true rfl) e9 ?_
  refine qe_aload_n c0_836 rfl ?_
  refine qe_aload_n c0_837 rfl ?_
  refine qe_iload_n c0_838 rfl ?_
  refine qe_iconst (x := 1) c0_839 (by decide) ?_
  refine qe_iadd c0_840 ?_
  refine qe_script c0_841 e12 e13 ?_
  refine qe_aload_n c0_842 rfl ?_
  refine qe_iload_n c0_843 rfl ?_
  refine qe_iconst (x := 2) c0_844 (by decide) ?_
  refine qe_iadd c0_845 ?_
  refine qe_script c0_846 e12 e14 ?_
  refine qe_virtual (b := r2) (as := [.int (f11 ((x3 + 1) : Int32).toNatClampNeg), .int (f11 ((x3 + 2) : Int32).toNatClampNeg)]) (r := [.int z8]) (v := (some (.int z17))) (h2 := h2) c0_847 qo0 qK13_93 rfl rfl rfl (by rw [qo105]; exact e16) (Nat.le_of_ble_eq_true rfl) e18 ?_
  refine qe_icmp_eq_F (t := 1463) c0_850 rfl e19 ?_
  exact kk
theorem b0_822T {d : Nat} {q : Option Value × qH} {h : qH} {r0 : Nat} {r1 : Nat} {r2 : Nat} {x3 : Int32} {n1 : Nat} {f2 : Nat → Int32} {fs6 : List Value} {h1 : qH} {z8 : Int32} {n10 : Nat} {f11 : Nat → Int32} {fs15 : List Value} {h2 : qH} {z17 : Int32}  (e3 : h.2.2 r0 = some (.inl (8, n1, .inl f2))) (e4 : 0 ≤ ((x3 + 1) : Int32).toInt ∧ ((x3 + 1) : Int32).toInt < (n1 : Nat)) (e5 : 0 ≤ ((x3 + 2) : Int32).toInt ∧ ((x3 + 2) : Int32).toInt < (n1 : Nat)) (e7 : h.2.2 r1 = some (.inr (11, fs6))) (e9 : qCall d 45 [.ref r1, .int (f2 ((x3 + 1) : Int32).toNatClampNeg), .int (f2 ((x3 + 2) : Int32).toNatClampNeg)] h ((some (.int z8)), h1)) (e12 : h1.2.2 r0 = some (.inl (8, n10, .inl f11))) (e13 : 0 ≤ ((x3 + 1) : Int32).toInt ∧ ((x3 + 1) : Int32).toInt < (n10 : Nat)) (e14 : 0 ≤ ((x3 + 2) : Int32).toInt ∧ ((x3 + 2) : Int32).toInt < (n10 : Nat)) (e16 : h1.2.2 r2 = some (.inr (12, fs15))) (e18 : qCall d 105 [.ref r2, .int (f11 ((x3 + 1) : Int32).toNatClampNeg), .int (f11 ((x3 + 2) : Int32).toNatClampNeg)] h1 ((some (.int z17)), h2)) (e19 : (z8 : Int32) = z17) (kk : qE d 0 1463 [some (.ref r0), some (.ref r1), some (.ref r2), some (.int x3)] [] h2 q): qE d 0 822 [some (.ref r0), some (.ref r1), some (.ref r2), some (.int x3)] [] h q := by
  refine qe_aload_n c0_822 rfl ?_
  refine qe_aload_n c0_823 rfl ?_
  refine qe_iload_n c0_824 rfl ?_
  refine qe_iconst (x := 1) c0_825 (by decide) ?_
  refine qe_iadd c0_826 ?_
  refine qe_script c0_827 e3 e4 ?_
  refine qe_aload_n c0_828 rfl ?_
  refine qe_iload_n c0_829 rfl ?_
  refine qe_iconst (x := 2) c0_830 (by decide) ?_
  refine qe_iadd c0_831 ?_
  refine qe_script c0_832 e3 e5 ?_
  refine qe_virtual (b := r1) (as := [.int (f2 ((x3 + 1) : Int32).toNatClampNeg), .int (f2 ((x3 + 2) : Int32).toNatClampNeg)]) (r := []) (v := (some (.int z8))) (h2 := h1) c0_833 qo0 qK13_90 rfl rfl rfl (by rw [qo45]; exact e7) (Nat.le_of_ble_eq_true rfl) e9 ?_
  refine qe_aload_n c0_836 rfl ?_
  refine qe_aload_n c0_837 rfl ?_
  refine qe_iload_n c0_838 rfl ?_
  refine qe_iconst (x := 1) c0_839 (by decide) ?_
  refine qe_iadd c0_840 ?_
  refine qe_script c0_841 e12 e13 ?_
  refine qe_aload_n c0_842 rfl ?_
  refine qe_iload_n c0_843 rfl ?_
  refine qe_iconst (x := 2) c0_844 (by decide) ?_
  refine qe_iadd c0_845 ?_
  refine qe_script c0_846 e12 e14 ?_
  refine qe_virtual (b := r2) (as := [.int (f11 ((x3 + 1) : Int32).toNatClampNeg), .int (f11 ((x3 + 2) : Int32).toNatClampNeg)]) (r := [.int z8]) (v := (some (.int z17))) (h2 := h2) c0_847 qo0 qK13_93 rfl rfl rfl (by rw [qo105]; exact e16) (Nat.le_of_ble_eq_true rfl) e18 ?_
  refine qe_icmp_eq_T (t := 1463) c0_850 rfl e19 ?_
  exact kk
theorem b0_853 {d : Nat} {h : qH} {r0 : Nat} {r1 : Nat} {r2 : Nat} {x3 : Int32}   : qE d 0 853 [some (.ref r0), some (.ref r1), some (.ref r2), some (.int x3)] [] h (some (.int 0), h) := by
  refine qe_iconst (x := 0) c0_853 (by decide) ?_
  exact qe_zret c0_854 qr0 (by decide)
theorem b0_855F {d : Nat} {q : Option Value × qH} {h : qH} {r0 : Nat} {r1 : Nat} {r2 : Nat} {x3 : Int32} {n1 : Nat} {f2 : Nat → Int32} {fs5 : List Value} {h1 : qH} {z7 : Int32} {n9 : Nat} {f10 : Nat → Int32} {fs13 : List Value} {h2 : qH} {z15 : Int32}  (e3 : h.2.2 r0 = some (.inl (8, n1, .inl f2))) (e4 : 0 ≤ ((x3 + 1) : Int32).toInt ∧ ((x3 + 1) : Int32).toInt < (n1 : Nat)) (e6 : h.2.2 r1 = some (.inr (11, fs5))) (e8 : qCall d 31 [.ref r1, .int (f2 ((x3 + 1) : Int32).toNatClampNeg)] h ((some (.int z7)), h1)) (e11 : h1.2.2 r0 = some (.inl (8, n9, .inl f10))) (e12 : 0 ≤ ((x3 + 1) : Int32).toInt ∧ ((x3 + 1) : Int32).toInt < (n9 : Nat)) (e14 : h1.2.2 r2 = some (.inr (12, fs13))) (e16 : qCall d 84 [.ref r2, .int (f10 ((x3 + 1) : Int32).toNatClampNeg)] h1 ((some (.int z15)), h2)) (e17 : ¬ ((z7 : Int32) = z15)) (kk : qE d 0 876 [some (.ref r0), some (.ref r1), some (.ref r2), some (.int x3)] [] h2 q): qE d 0 855 [some (.ref r0), some (.ref r1), some (.ref r2), some (.int x3)] [] h q := by
  refine qe_aload_n c0_855 rfl ?_
  refine qe_aload_n c0_856 rfl ?_
  refine qe_iload_n c0_857 rfl ?_
  refine qe_iconst (x := 1) c0_858 (by decide) ?_
  refine qe_iadd c0_859 ?_
  refine qe_script c0_860 e3 e4 ?_
  refine qe_virtual (b := r1) (as := [.int (f2 ((x3 + 1) : Int32).toNatClampNeg)]) (r := []) (v := (some (.int z7))) (h2 := h1) c0_861 qo0 qK13_94 rfl rfl rfl (by rw [qo31]; exact e6) (Nat.le_of_ble_eq_true rfl) e8 ?_
  refine qe_aload_n c0_864 rfl ?_
  refine qe_aload_n c0_865 rfl ?_
  refine qe_iload_n c0_866 rfl ?_
  refine qe_iconst (x := 1) c0_867 (by decide) ?_
  refine qe_iadd c0_868 ?_
  refine qe_script c0_869 e11 e12 ?_
  refine qe_virtual (b := r2) (as := [.int (f10 ((x3 + 1) : Int32).toNatClampNeg)]) (r := [.int z7]) (v := (some (.int z15))) (h2 := h2) c0_870 qo0 qK13_97 rfl rfl rfl (by rw [qo84]; exact e14) (Nat.le_of_ble_eq_true rfl) e16 ?_
  refine qe_icmp_eq_F (t := 1463) c0_873 rfl e17 ?_
  exact kk
theorem b0_855T {d : Nat} {q : Option Value × qH} {h : qH} {r0 : Nat} {r1 : Nat} {r2 : Nat} {x3 : Int32} {n1 : Nat} {f2 : Nat → Int32} {fs5 : List Value} {h1 : qH} {z7 : Int32} {n9 : Nat} {f10 : Nat → Int32} {fs13 : List Value} {h2 : qH} {z15 : Int32}  (e3 : h.2.2 r0 = some (.inl (8, n1, .inl f2))) (e4 : 0 ≤ ((x3 + 1) : Int32).toInt ∧ ((x3 + 1) : Int32).toInt < (n1 : Nat)) (e6 : h.2.2 r1 = some (.inr (11, fs5))) (e8 : qCall d 31 [.ref r1, .int (f2 ((x3 + 1) : Int32).toNatClampNeg)] h ((some (.int z7)), h1)) (e11 : h1.2.2 r0 = some (.inl (8, n9, .inl f10))) (e12 : 0 ≤ ((x3 + 1) : Int32).toInt ∧ ((x3 + 1) : Int32).toInt < (n9 : Nat)) (e14 : h1.2.2 r2 = some (.inr (12, fs13))) (e16 : qCall d 84 [.ref r2, .int (f10 ((x3 + 1) : Int32).toNatClampNeg)] h1 ((some (.int z15)), h2)) (e17 : (z7 : Int32) = z15) (kk : qE d 0 1463 [some (.ref r0), some (.ref r1), some (.ref r2), some (.int x3)] [] h2 q): qE d 0 855 [some (.ref r0), some (.ref r1), some (.ref r2), some (.int x3)] [] h q := by
  refine qe_aload_n c0_855 rfl ?_
  refine qe_aload_n c0_856 rfl ?_
  refine qe_iload_n c0_857 rfl ?_
  refine qe_iconst (x := 1) c0_858 (by decide) ?_
  refine qe_iadd c0_859 ?_
  refine qe_script c0_860 e3 e4 ?_
  refine qe_virtual (b := r1) (as := [.int (f2 ((x3 + 1) : Int32).toNatClampNeg)]) (r := []) (v := (some (.int z7))) (h2 := h1) c0_861 qo0 qK13_94 rfl rfl rfl (by rw [qo31]; exact e6) (Nat.le_of_ble_eq_true rfl) e8 ?_
  refine qe_aload_n c0_864 rfl ?_
  refine qe_aload_n c0_865 rfl ?_
  refine qe_iload_n c0_866 rfl ?_
  refine qe_iconst (x := 1) c0_867 (by decide) ?_
  refine qe_iadd c0_868 ?_
  refine qe_script c0_869 e11 e12 ?_
  refine qe_virtual (b := r2) (as := [.int (f10 ((x3 + 1) : Int32).toNatClampNeg)]) (r := [.int z7]) (v := (some (.int z15))) (h2 := h2) c0_870 qo0 qK13_97 rfl rfl rfl (by rw [qo84]; exact e14) (Nat.le_of_ble_eq_true rfl) e16 ?_
  refine qe_icmp_eq_T (t := 1463) c0_873 rfl e17 ?_
  exact kk
theorem b0_876 {d : Nat} {h : qH} {r0 : Nat} {r1 : Nat} {r2 : Nat} {x3 : Int32}   : qE d 0 876 [some (.ref r0), some (.ref r1), some (.ref r2), some (.int x3)] [] h (some (.int 0), h) := by
  refine qe_iconst (x := 0) c0_876 (by decide) ?_
  exact qe_zret c0_877 qr0 (by decide)
theorem b0_878F {d : Nat} {q : Option Value × qH} {h : qH} {r0 : Nat} {r1 : Nat} {r2 : Nat} {x3 : Int32} {fs1 : List Value} {h1 : qH} {z3 : Int32} {fs5 : List Value} {h2 : qH} {z7 : Int32}  (e2 : h.2.2 r1 = some (.inr (11, fs1))) (e4 : qCall d 48 [.ref r1] h ((some (.int z3)), h1)) (e6 : h1.2.2 r2 = some (.inr (12, fs5))) (e8 : qCall d 108 [.ref r2] h1 ((some (.int z7)), h2)) (e9 : ¬ ((z3 : Int32) = z7)) (kk : qE d 0 889 [some (.ref r0), some (.ref r1), some (.ref r2), some (.int x3)] [] h2 q): qE d 0 878 [some (.ref r0), some (.ref r1), some (.ref r2), some (.int x3)] [] h q := by
  refine qe_aload_n c0_878 rfl ?_
  refine qe_virtual (b := r1) (as := []) (r := []) (v := (some (.int z3))) (h2 := h1) c0_879 qo0 qK13_98 rfl rfl rfl (by rw [qo48]; exact e2) (Nat.le_of_ble_eq_true rfl) e4 ?_
  refine qe_aload_n c0_882 rfl ?_
  refine qe_virtual (b := r2) (as := []) (r := [.int z3]) (v := (some (.int z7))) (h2 := h2) c0_883 qo0 qK13_101 rfl rfl rfl (by rw [qo108]; exact e6) (Nat.le_of_ble_eq_true rfl) e8 ?_
  refine qe_icmp_eq_F (t := 1463) c0_886 rfl e9 ?_
  exact kk
theorem b0_878T {d : Nat} {q : Option Value × qH} {h : qH} {r0 : Nat} {r1 : Nat} {r2 : Nat} {x3 : Int32} {fs1 : List Value} {h1 : qH} {z3 : Int32} {fs5 : List Value} {h2 : qH} {z7 : Int32}  (e2 : h.2.2 r1 = some (.inr (11, fs1))) (e4 : qCall d 48 [.ref r1] h ((some (.int z3)), h1)) (e6 : h1.2.2 r2 = some (.inr (12, fs5))) (e8 : qCall d 108 [.ref r2] h1 ((some (.int z7)), h2)) (e9 : (z3 : Int32) = z7) (kk : qE d 0 1463 [some (.ref r0), some (.ref r1), some (.ref r2), some (.int x3)] [] h2 q): qE d 0 878 [some (.ref r0), some (.ref r1), some (.ref r2), some (.int x3)] [] h q := by
  refine qe_aload_n c0_878 rfl ?_
  refine qe_virtual (b := r1) (as := []) (r := []) (v := (some (.int z3))) (h2 := h1) c0_879 qo0 qK13_98 rfl rfl rfl (by rw [qo48]; exact e2) (Nat.le_of_ble_eq_true rfl) e4 ?_
  refine qe_aload_n c0_882 rfl ?_
  refine qe_virtual (b := r2) (as := []) (r := [.int z3]) (v := (some (.int z7))) (h2 := h2) c0_883 qo0 qK13_101 rfl rfl rfl (by rw [qo108]; exact e6) (Nat.le_of_ble_eq_true rfl) e8 ?_
  refine qe_icmp_eq_T (t := 1463) c0_886 rfl e9 ?_
  exact kk
theorem b0_889 {d : Nat} {h : qH} {r0 : Nat} {r1 : Nat} {r2 : Nat} {x3 : Int32}   : qE d 0 889 [some (.ref r0), some (.ref r1), some (.ref r2), some (.int x3)] [] h (some (.int 0), h) := by
  refine qe_iconst (x := 0) c0_889 (by decide) ?_
  exact qe_zret c0_890 qr0 (by decide)
theorem b0_891F {d : Nat} {q : Option Value × qH} {h : qH} {r0 : Nat} {r1 : Nat} {r2 : Nat} {x3 : Int32} {n1 : Nat} {f2 : Nat → Int32}  (e3 : h.2.2 r0 = some (.inl (8, n1, .inl f2))) (e4 : 0 ≤ ((x3 + 1) : Int32).toInt ∧ ((x3 + 1) : Int32).toInt < (n1 : Nat)) (e5 : 0 ≤ ((x3 + 2) : Int32).toInt ∧ ((x3 + 2) : Int32).toInt < (n1 : Nat)) (e6 : ¬ (((f2 ((x3 + 2) : Int32).toNatClampNeg) : Int32) = 0)) (kk : qE d 0 905 [some (.ref r0), some (.ref r1), some (.ref r2), some (.int x3)] [.int (f2 ((x3 + 1) : Int32).toNatClampNeg), .ref r1] h q): qE d 0 891 [some (.ref r0), some (.ref r1), some (.ref r2), some (.int x3)] [] h q := by
  refine qe_aload_n c0_891 rfl ?_
  refine qe_aload_n c0_892 rfl ?_
  refine qe_iload_n c0_893 rfl ?_
  refine qe_iconst (x := 1) c0_894 (by decide) ?_
  refine qe_iadd c0_895 ?_
  refine qe_script c0_896 e3 e4 ?_
  refine qe_aload_n c0_897 rfl ?_
  refine qe_iload_n c0_898 rfl ?_
  refine qe_iconst (x := 2) c0_899 (by decide) ?_
  refine qe_iadd c0_900 ?_
  refine qe_script c0_901 e3 e5 ?_
  refine qe_if_eq_F (t := 909) c0_902 rfl e6 ?_
  exact kk
theorem b0_891T {d : Nat} {q : Option Value × qH} {h : qH} {r0 : Nat} {r1 : Nat} {r2 : Nat} {x3 : Int32} {n1 : Nat} {f2 : Nat → Int32}  (e3 : h.2.2 r0 = some (.inl (8, n1, .inl f2))) (e4 : 0 ≤ ((x3 + 1) : Int32).toInt ∧ ((x3 + 1) : Int32).toInt < (n1 : Nat)) (e5 : 0 ≤ ((x3 + 2) : Int32).toInt ∧ ((x3 + 2) : Int32).toInt < (n1 : Nat)) (e6 : ((f2 ((x3 + 2) : Int32).toNatClampNeg) : Int32) = 0) (kk : qE d 0 909 [some (.ref r0), some (.ref r1), some (.ref r2), some (.int x3)] [.int (f2 ((x3 + 1) : Int32).toNatClampNeg), .ref r1] h q): qE d 0 891 [some (.ref r0), some (.ref r1), some (.ref r2), some (.int x3)] [] h q := by
  refine qe_aload_n c0_891 rfl ?_
  refine qe_aload_n c0_892 rfl ?_
  refine qe_iload_n c0_893 rfl ?_
  refine qe_iconst (x := 1) c0_894 (by decide) ?_
  refine qe_iadd c0_895 ?_
  refine qe_script c0_896 e3 e4 ?_
  refine qe_aload_n c0_897 rfl ?_
  refine qe_iload_n c0_898 rfl ?_
  refine qe_iconst (x := 2) c0_899 (by decide) ?_
  refine qe_iadd c0_900 ?_
  refine qe_script c0_901 e3 e5 ?_
  refine qe_if_eq_T (t := 909) c0_902 rfl e6 ?_
  exact kk
theorem b0_905 {d : Nat} {q : Option Value × qH} {h : qH} {r0 : Nat} {r1 : Nat} {r2 : Nat} {x3 : Int32} {rs0 : Nat} {xs1 : Int32}   (kk : qE d 0 910 [some (.ref r0), some (.ref r1), some (.ref r2), some (.int x3)] [.int 1, .int xs1, .ref rs0] h q): qE d 0 905 [some (.ref r0), some (.ref r1), some (.ref r2), some (.int x3)] [.int xs1, .ref rs0] h q := by
  refine qe_iconst (x := 1) c0_905 (by decide) ?_
  refine qe_goto (t := 910) c0_906 rfl ?_
  exact kk
theorem b0_909 {d : Nat} {q : Option Value × qH} {h : qH} {r0 : Nat} {r1 : Nat} {r2 : Nat} {x3 : Int32} {rs0 : Nat} {xs1 : Int32}   (kk : qE d 0 910 [some (.ref r0), some (.ref r1), some (.ref r2), some (.int x3)] [.int 0, .int xs1, .ref rs0] h q): qE d 0 909 [some (.ref r0), some (.ref r1), some (.ref r2), some (.int x3)] [.int xs1, .ref rs0] h q := by
  refine qe_iconst (x := 0) c0_909 (by decide) ?_
  exact kk
theorem b0_910F {d : Nat} {q : Option Value × qH} {h : qH} {r0 : Nat} {r1 : Nat} {r2 : Nat} {x3 : Int32} {rs0 : Nat} {xs1 : Int32} {xs2 : Int32} {fs1 : List Value} {h1 : qH} {z3 : Int32} {n5 : Nat} {f6 : Nat → Int32}  (e2 : h.2.2 rs0 = some (.inr (11, fs1))) (e4 : qCall d 74 [.ref rs0, .int xs1, .int xs2] h ((some (.int z3)), h1)) (e7 : h1.2.2 r0 = some (.inl (8, n5, .inl f6))) (e8 : 0 ≤ ((x3 + 1) : Int32).toInt ∧ ((x3 + 1) : Int32).toInt < (n5 : Nat)) (e9 : 0 ≤ ((x3 + 2) : Int32).toInt ∧ ((x3 + 2) : Int32).toInt < (n5 : Nat)) (e10 : ¬ (((f6 ((x3 + 2) : Int32).toNatClampNeg) : Int32) = 0)) (kk : qE d 0 927 [some (.ref r0), some (.ref r1), some (.ref r2), some (.int x3)] [.int (f6 ((x3 + 1) : Int32).toNatClampNeg), .ref r2, .int z3] h1 q): qE d 0 910 [some (.ref r0), some (.ref r1), some (.ref r2), some (.int x3)] [.int xs2, .int xs1, .ref rs0] h q := by
  refine qe_virtual (b := rs0) (as := [.int xs1, .int xs2]) (r := []) (v := (some (.int z3))) (h2 := h1) c0_910 qo0 qK13_102 rfl rfl rfl (by rw [qo74]; exact e2) (Nat.le_of_ble_eq_true rfl) e4 ?_
  refine qe_aload_n c0_913 rfl ?_
  refine qe_aload_n c0_914 rfl ?_
  refine qe_iload_n c0_915 rfl ?_
  refine qe_iconst (x := 1) c0_916 (by decide) ?_
  refine qe_iadd c0_917 ?_
  refine qe_script c0_918 e7 e8 ?_
  refine qe_aload_n c0_919 rfl ?_
  refine qe_iload_n c0_920 rfl ?_
  refine qe_iconst (x := 2) c0_921 (by decide) ?_
  refine qe_iadd c0_922 ?_
  refine qe_script c0_923 e7 e9 ?_
  refine qe_if_eq_F (t := 931) c0_924 rfl e10 ?_
  exact kk
theorem b0_910T {d : Nat} {q : Option Value × qH} {h : qH} {r0 : Nat} {r1 : Nat} {r2 : Nat} {x3 : Int32} {rs0 : Nat} {xs1 : Int32} {xs2 : Int32} {fs1 : List Value} {h1 : qH} {z3 : Int32} {n5 : Nat} {f6 : Nat → Int32}  (e2 : h.2.2 rs0 = some (.inr (11, fs1))) (e4 : qCall d 74 [.ref rs0, .int xs1, .int xs2] h ((some (.int z3)), h1)) (e7 : h1.2.2 r0 = some (.inl (8, n5, .inl f6))) (e8 : 0 ≤ ((x3 + 1) : Int32).toInt ∧ ((x3 + 1) : Int32).toInt < (n5 : Nat)) (e9 : 0 ≤ ((x3 + 2) : Int32).toInt ∧ ((x3 + 2) : Int32).toInt < (n5 : Nat)) (e10 : ((f6 ((x3 + 2) : Int32).toNatClampNeg) : Int32) = 0) (kk : qE d 0 931 [some (.ref r0), some (.ref r1), some (.ref r2), some (.int x3)] [.int (f6 ((x3 + 1) : Int32).toNatClampNeg), .ref r2, .int z3] h1 q): qE d 0 910 [some (.ref r0), some (.ref r1), some (.ref r2), some (.int x3)] [.int xs2, .int xs1, .ref rs0] h q := by
  refine qe_virtual (b := rs0) (as := [.int xs1, .int xs2]) (r := []) (v := (some (.int z3))) (h2 := h1) c0_910 qo0 qK13_102 rfl rfl rfl (by rw [qo74]; exact e2) (Nat.le_of_ble_eq_true rfl) e4 ?_
  refine qe_aload_n c0_913 rfl ?_
  refine qe_aload_n c0_914 rfl ?_
  refine qe_iload_n c0_915 rfl ?_
  refine qe_iconst (x := 1) c0_916 (by decide) ?_
  refine qe_iadd c0_917 ?_
  refine qe_script c0_918 e7 e8 ?_
  refine qe_aload_n c0_919 rfl ?_
  refine qe_iload_n c0_920 rfl ?_
  refine qe_iconst (x := 2) c0_921 (by decide) ?_
  refine qe_iadd c0_922 ?_
  refine qe_script c0_923 e7 e9 ?_
  refine qe_if_eq_T (t := 931) c0_924 rfl e10 ?_
  exact kk
theorem b0_927 {d : Nat} {q : Option Value × qH} {h : qH} {r0 : Nat} {r1 : Nat} {r2 : Nat} {x3 : Int32} {xs0 : Int32} {rs1 : Nat} {xs2 : Int32}   (kk : qE d 0 932 [some (.ref r0), some (.ref r1), some (.ref r2), some (.int x3)] [.int 1, .int xs2, .ref rs1, .int xs0] h q): qE d 0 927 [some (.ref r0), some (.ref r1), some (.ref r2), some (.int x3)] [.int xs2, .ref rs1, .int xs0] h q := by
  refine qe_iconst (x := 1) c0_927 (by decide) ?_
  refine qe_goto (t := 932) c0_928 rfl ?_
  exact kk
theorem b0_931 {d : Nat} {q : Option Value × qH} {h : qH} {r0 : Nat} {r1 : Nat} {r2 : Nat} {x3 : Int32} {xs0 : Int32} {rs1 : Nat} {xs2 : Int32}   (kk : qE d 0 932 [some (.ref r0), some (.ref r1), some (.ref r2), some (.int x3)] [.int 0, .int xs2, .ref rs1, .int xs0] h q): qE d 0 931 [some (.ref r0), some (.ref r1), some (.ref r2), some (.int x3)] [.int xs2, .ref rs1, .int xs0] h q := by
  refine qe_iconst (x := 0) c0_931 (by decide) ?_
  exact kk
theorem b0_932F {d : Nat} {q : Option Value × qH} {h : qH} {r0 : Nat} {r1 : Nat} {r2 : Nat} {x3 : Int32} {xs0 : Int32} {rs1 : Nat} {xs2 : Int32} {xs3 : Int32} {fs1 : List Value} {h1 : qH} {z3 : Int32}  (e2 : h.2.2 rs1 = some (.inr (12, fs1))) (e4 : qCall d 176 [.ref rs1, .int xs2, .int xs3] h ((some (.int z3)), h1)) (e5 : ¬ ((xs0 : Int32) = z3)) (kk : qE d 0 938 [some (.ref r0), some (.ref r1), some (.ref r2), some (.int x3)] [] h1 q): qE d 0 932 [some (.ref r0), some (.ref r1), some (.ref r2), some (.int x3)] [.int xs3, .int xs2, .ref rs1, .int xs0] h q := by
  refine qe_virtual (b := rs1) (as := [.int xs2, .int xs3]) (r := [.int xs0]) (v := (some (.int z3))) (h2 := h1) c0_932 qo0 qK13_105 rfl rfl rfl (by rw [qo176]; exact e2) (Nat.le_of_ble_eq_true rfl) e4 ?_
  refine qe_icmp_eq_F (t := 1463) c0_935 rfl e5 ?_
  exact kk
theorem b0_932T {d : Nat} {q : Option Value × qH} {h : qH} {r0 : Nat} {r1 : Nat} {r2 : Nat} {x3 : Int32} {xs0 : Int32} {rs1 : Nat} {xs2 : Int32} {xs3 : Int32} {fs1 : List Value} {h1 : qH} {z3 : Int32}  (e2 : h.2.2 rs1 = some (.inr (12, fs1))) (e4 : qCall d 176 [.ref rs1, .int xs2, .int xs3] h ((some (.int z3)), h1)) (e5 : (xs0 : Int32) = z3) (kk : qE d 0 1463 [some (.ref r0), some (.ref r1), some (.ref r2), some (.int x3)] [] h1 q): qE d 0 932 [some (.ref r0), some (.ref r1), some (.ref r2), some (.int x3)] [.int xs3, .int xs2, .ref rs1, .int xs0] h q := by
  refine qe_virtual (b := rs1) (as := [.int xs2, .int xs3]) (r := [.int xs0]) (v := (some (.int z3))) (h2 := h1) c0_932 qo0 qK13_105 rfl rfl rfl (by rw [qo176]; exact e2) (Nat.le_of_ble_eq_true rfl) e4 ?_
  refine qe_icmp_eq_T (t := 1463) c0_935 rfl e5 ?_
  exact kk
theorem b0_938 {d : Nat} {h : qH} {r0 : Nat} {r1 : Nat} {r2 : Nat} {x3 : Int32}   : qE d 0 938 [some (.ref r0), some (.ref r1), some (.ref r2), some (.int x3)] [] h (some (.int 0), h) := by
  refine qe_iconst (x := 0) c0_938 (by decide) ?_
  exact qe_zret c0_939 qr0 (by decide)
theorem b0_940F {d : Nat} {q : Option Value × qH} {h : qH} {r0 : Nat} {r1 : Nat} {r2 : Nat} {x3 : Int32} {n1 : Nat} {f2 : Nat → Int32} {fs7 : List Value} {h1 : qH} {z9 : Int64} {n11 : Nat} {f12 : Nat → Int32} {fs17 : List Value} {h2 : qH} {z19 : Int64}  (e3 : h.2.2 r0 = some (.inl (8, n1, .inl f2))) (e4 : 0 ≤ ((x3 + 1) : Int32).toInt ∧ ((x3 + 1) : Int32).toInt < (n1 : Nat)) (e5 : 0 ≤ ((x3 + 2) : Int32).toInt ∧ ((x3 + 2) : Int32).toInt < (n1 : Nat)) (e6 : 0 ≤ ((x3 + 3) : Int32).toInt ∧ ((x3 + 3) : Int32).toInt < (n1 : Nat)) (e8 : h.2.2 r1 = some (.inr (11, fs7))) (e10 : qCall d 69 [.ref r1, .int (f2 ((x3 + 1) : Int32).toNatClampNeg), .int (f2 ((x3 + 2) : Int32).toNatClampNeg), .int (f2 ((x3 + 3) : Int32).toNatClampNeg)] h ((some (.long z9)), h1)) (e13 : h1.2.2 r0 = some (.inl (8, n11, .inl f12))) (e14 : 0 ≤ ((x3 + 1) : Int32).toInt ∧ ((x3 + 1) : Int32).toInt < (n11 : Nat)) (e15 : 0 ≤ ((x3 + 2) : Int32).toInt ∧ ((x3 + 2) : Int32).toInt < (n11 : Nat)) (e16 : 0 ≤ ((x3 + 3) : Int32).toInt ∧ ((x3 + 3) : Int32).toInt < (n11 : Nat)) (e18 : h1.2.2 r2 = some (.inr (12, fs17))) (e20 : qCall d 166 [.ref r2, .int (f12 ((x3 + 1) : Int32).toNatClampNeg), .int (f12 ((x3 + 2) : Int32).toNatClampNeg), .int (f12 ((x3 + 3) : Int32).toNatClampNeg)] h1 ((some (.long z19)), h2)) (e21 : ¬ (((lg_cmp z9 z19) : Int32) = 0)) (kk : qE d 0 982 [some (.ref r0), some (.ref r1), some (.ref r2), some (.int x3)] [] h2 q): qE d 0 940 [some (.ref r0), some (.ref r1), some (.ref r2), some (.int x3)] [] h q := by
  refine qe_aload_n c0_940 rfl ?_
  refine qe_aload_n c0_941 rfl ?_
  refine qe_iload_n c0_942 rfl ?_
  refine qe_iconst (x := 1) c0_943 (by decide) ?_
  refine qe_iadd c0_944 ?_
  refine qe_script c0_945 e3 e4 ?_
  refine qe_aload_n c0_946 rfl ?_
  refine qe_iload_n c0_947 rfl ?_
  refine qe_iconst (x := 2) c0_948 (by decide) ?_
  refine qe_iadd c0_949 ?_
  refine qe_script c0_950 e3 e5 ?_
  refine qe_aload_n c0_951 rfl ?_
  refine qe_iload_n c0_952 rfl ?_
  refine qe_iconst (x := 3) c0_953 (by decide) ?_
  refine qe_iadd c0_954 ?_
  refine qe_script c0_955 e3 e6 ?_
  refine qe_virtual (b := r1) (as := [.int (f2 ((x3 + 1) : Int32).toNatClampNeg), .int (f2 ((x3 + 2) : Int32).toNatClampNeg), .int (f2 ((x3 + 3) : Int32).toNatClampNeg)]) (r := []) (v := (some (.long z9))) (h2 := h1) c0_956 qo0 qK13_106 rfl rfl rfl (by rw [qo69]; exact e8) (Nat.le_of_ble_eq_true rfl) e10 ?_
  refine qe_aload_n c0_959 rfl ?_
  refine qe_aload_n c0_960 rfl ?_
  refine qe_iload_n c0_961 rfl ?_
  refine qe_iconst (x := 1) c0_962 (by decide) ?_
  refine qe_iadd c0_963 ?_
  refine qe_script c0_964 e13 e14 ?_
  refine qe_aload_n c0_965 rfl ?_
  refine qe_iload_n c0_966 rfl ?_
  refine qe_iconst (x := 2) c0_967 (by decide) ?_
  refine qe_iadd c0_968 ?_
  refine qe_script c0_969 e13 e15 ?_
  refine qe_aload_n c0_970 rfl ?_
  refine qe_iload_n c0_971 rfl ?_
  refine qe_iconst (x := 3) c0_972 (by decide) ?_
  refine qe_iadd c0_973 ?_
  refine qe_script c0_974 e13 e16 ?_
  refine qe_virtual (b := r2) (as := [.int (f12 ((x3 + 1) : Int32).toNatClampNeg), .int (f12 ((x3 + 2) : Int32).toNatClampNeg), .int (f12 ((x3 + 3) : Int32).toNatClampNeg)]) (r := [.long z9]) (v := (some (.long z19))) (h2 := h2) c0_975 qo0 qK13_110 rfl rfl rfl (by rw [qo166]; exact e18) (Nat.le_of_ble_eq_true rfl) e20 ?_
  refine qe_lcmp c0_978 ?_
  refine qe_if_eq_F (t := 1463) c0_979 rfl e21 ?_
  exact kk
theorem b0_940T {d : Nat} {q : Option Value × qH} {h : qH} {r0 : Nat} {r1 : Nat} {r2 : Nat} {x3 : Int32} {n1 : Nat} {f2 : Nat → Int32} {fs7 : List Value} {h1 : qH} {z9 : Int64} {n11 : Nat} {f12 : Nat → Int32} {fs17 : List Value} {h2 : qH} {z19 : Int64}  (e3 : h.2.2 r0 = some (.inl (8, n1, .inl f2))) (e4 : 0 ≤ ((x3 + 1) : Int32).toInt ∧ ((x3 + 1) : Int32).toInt < (n1 : Nat)) (e5 : 0 ≤ ((x3 + 2) : Int32).toInt ∧ ((x3 + 2) : Int32).toInt < (n1 : Nat)) (e6 : 0 ≤ ((x3 + 3) : Int32).toInt ∧ ((x3 + 3) : Int32).toInt < (n1 : Nat)) (e8 : h.2.2 r1 = some (.inr (11, fs7))) (e10 : qCall d 69 [.ref r1, .int (f2 ((x3 + 1) : Int32).toNatClampNeg), .int (f2 ((x3 + 2) : Int32).toNatClampNeg), .int (f2 ((x3 + 3) : Int32).toNatClampNeg)] h ((some (.long z9)), h1)) (e13 : h1.2.2 r0 = some (.inl (8, n11, .inl f12))) (e14 : 0 ≤ ((x3 + 1) : Int32).toInt ∧ ((x3 + 1) : Int32).toInt < (n11 : Nat)) (e15 : 0 ≤ ((x3 + 2) : Int32).toInt ∧ ((x3 + 2) : Int32).toInt < (n11 : Nat)) (e16 : 0 ≤ ((x3 + 3) : Int32).toInt ∧ ((x3 + 3) : Int32).toInt < (n11 : Nat)) (e18 : h1.2.2 r2 = some (.inr (12, fs17))) (e20 : qCall d 166 [.ref r2, .int (f12 ((x3 + 1) : Int32).toNatClampNeg), .int (f12 ((x3 + 2) : Int32).toNatClampNeg), .int (f12 ((x3 + 3) : Int32).toNatClampNeg)] h1 ((some (.long z19)), h2)) (e21 : ((lg_cmp z9 z19) : Int32) = 0) (kk : qE d 0 1463 [some (.ref r0), some (.ref r1), some (.ref r2), some (.int x3)] [] h2 q): qE d 0 940 [some (.ref r0), some (.ref r1), some (.ref r2), some (.int x3)] [] h q := by
  refine qe_aload_n c0_940 rfl ?_
  refine qe_aload_n c0_941 rfl ?_
  refine qe_iload_n c0_942 rfl ?_
  refine qe_iconst (x := 1) c0_943 (by decide) ?_
  refine qe_iadd c0_944 ?_
  refine qe_script c0_945 e3 e4 ?_
  refine qe_aload_n c0_946 rfl ?_
  refine qe_iload_n c0_947 rfl ?_
  refine qe_iconst (x := 2) c0_948 (by decide) ?_
  refine qe_iadd c0_949 ?_
  refine qe_script c0_950 e3 e5 ?_
  refine qe_aload_n c0_951 rfl ?_
  refine qe_iload_n c0_952 rfl ?_
  refine qe_iconst (x := 3) c0_953 (by decide) ?_
  refine qe_iadd c0_954 ?_
  refine qe_script c0_955 e3 e6 ?_
  refine qe_virtual (b := r1) (as := [.int (f2 ((x3 + 1) : Int32).toNatClampNeg), .int (f2 ((x3 + 2) : Int32).toNatClampNeg), .int (f2 ((x3 + 3) : Int32).toNatClampNeg)]) (r := []) (v := (some (.long z9))) (h2 := h1) c0_956 qo0 qK13_106 rfl rfl rfl (by rw [qo69]; exact e8) (Nat.le_of_ble_eq_true rfl) e10 ?_
  refine qe_aload_n c0_959 rfl ?_
  refine qe_aload_n c0_960 rfl ?_
  refine qe_iload_n c0_961 rfl ?_
  refine qe_iconst (x := 1) c0_962 (by decide) ?_
  refine qe_iadd c0_963 ?_
  refine qe_script c0_964 e13 e14 ?_
  refine qe_aload_n c0_965 rfl ?_
  refine qe_iload_n c0_966 rfl ?_
  refine qe_iconst (x := 2) c0_967 (by decide) ?_
  refine qe_iadd c0_968 ?_
  refine qe_script c0_969 e13 e15 ?_
  refine qe_aload_n c0_970 rfl ?_
  refine qe_iload_n c0_971 rfl ?_
  refine qe_iconst (x := 3) c0_972 (by decide) ?_
  refine qe_iadd c0_973 ?_
  refine qe_script c0_974 e13 e16 ?_
  refine qe_virtual (b := r2) (as := [.int (f12 ((x3 + 1) : Int32).toNatClampNeg), .int (f12 ((x3 + 2) : Int32).toNatClampNeg), .int (f12 ((x3 + 3) : Int32).toNatClampNeg)]) (r := [.long z9]) (v := (some (.long z19))) (h2 := h2) c0_975 qo0 qK13_110 rfl rfl rfl (by rw [qo166]; exact e18) (Nat.le_of_ble_eq_true rfl) e20 ?_
  refine qe_lcmp c0_978 ?_
  refine qe_if_eq_T (t := 1463) c0_979 rfl e21 ?_
  exact kk
theorem b0_982 {d : Nat} {h : qH} {r0 : Nat} {r1 : Nat} {r2 : Nat} {x3 : Int32}   : qE d 0 982 [some (.ref r0), some (.ref r1), some (.ref r2), some (.int x3)] [] h (some (.int 0), h) := by
  refine qe_iconst (x := 0) c0_982 (by decide) ?_
  exact qe_zret c0_983 qr0 (by decide)
theorem b0_984F {d : Nat} {q : Option Value × qH} {h : qH} {r0 : Nat} {r1 : Nat} {r2 : Nat} {x3 : Int32} {n1 : Nat} {f2 : Nat → Int32} {fs5 : List Value} {h1 : qH} {z7 : Int32} {n9 : Nat} {f10 : Nat → Int32} {fs13 : List Value} {h2 : qH} {z15 : Int32}  (e3 : h.2.2 r0 = some (.inl (8, n1, .inl f2))) (e4 : 0 ≤ ((x3 + 1) : Int32).toInt ∧ ((x3 + 1) : Int32).toInt < (n1 : Nat)) (e6 : h.2.2 r1 = some (.inr (11, fs5))) (e8 : qCall d 70 [.ref r1, .int (f2 ((x3 + 1) : Int32).toNatClampNeg)] h ((some (.int z7)), h1)) (e11 : h1.2.2 r0 = some (.inl (8, n9, .inl f10))) (e12 : 0 ≤ ((x3 + 1) : Int32).toInt ∧ ((x3 + 1) : Int32).toInt < (n9 : Nat)) (e14 : h1.2.2 r2 = some (.inr (12, fs13))) (e16 : qCall d 168 [.ref r2, .int (f10 ((x3 + 1) : Int32).toNatClampNeg)] h1 ((some (.int z15)), h2)) (e17 : ¬ ((z7 : Int32) = z15)) (kk : qE d 0 1005 [some (.ref r0), some (.ref r1), some (.ref r2), some (.int x3)] [] h2 q): qE d 0 984 [some (.ref r0), some (.ref r1), some (.ref r2), some (.int x3)] [] h q := by
  refine qe_aload_n c0_984 rfl ?_
  refine qe_aload_n c0_985 rfl ?_
  refine qe_iload_n c0_986 rfl ?_
  refine qe_iconst (x := 1) c0_987 (by decide) ?_
  refine qe_iadd c0_988 ?_
  refine qe_script c0_989 e3 e4 ?_
  refine qe_virtual (b := r1) (as := [.int (f2 ((x3 + 1) : Int32).toNatClampNeg)]) (r := []) (v := (some (.int z7))) (h2 := h1) c0_990 qo0 qK13_111 rfl rfl rfl (by rw [qo70]; exact e6) (Nat.le_of_ble_eq_true rfl) e8 ?_
  refine qe_aload_n c0_993 rfl ?_
  refine qe_aload_n c0_994 rfl ?_
  refine qe_iload_n c0_995 rfl ?_
  refine qe_iconst (x := 1) c0_996 (by decide) ?_
  refine qe_iadd c0_997 ?_
  refine qe_script c0_998 e11 e12 ?_
  refine qe_virtual (b := r2) (as := [.int (f10 ((x3 + 1) : Int32).toNatClampNeg)]) (r := [.int z7]) (v := (some (.int z15))) (h2 := h2) c0_999 qo0 qK13_114 rfl rfl rfl (by rw [qo168]; exact e14) (Nat.le_of_ble_eq_true rfl) e16 ?_
  refine qe_icmp_eq_F (t := 1463) c0_1002 rfl e17 ?_
  exact kk
theorem b0_984T {d : Nat} {q : Option Value × qH} {h : qH} {r0 : Nat} {r1 : Nat} {r2 : Nat} {x3 : Int32} {n1 : Nat} {f2 : Nat → Int32} {fs5 : List Value} {h1 : qH} {z7 : Int32} {n9 : Nat} {f10 : Nat → Int32} {fs13 : List Value} {h2 : qH} {z15 : Int32}  (e3 : h.2.2 r0 = some (.inl (8, n1, .inl f2))) (e4 : 0 ≤ ((x3 + 1) : Int32).toInt ∧ ((x3 + 1) : Int32).toInt < (n1 : Nat)) (e6 : h.2.2 r1 = some (.inr (11, fs5))) (e8 : qCall d 70 [.ref r1, .int (f2 ((x3 + 1) : Int32).toNatClampNeg)] h ((some (.int z7)), h1)) (e11 : h1.2.2 r0 = some (.inl (8, n9, .inl f10))) (e12 : 0 ≤ ((x3 + 1) : Int32).toInt ∧ ((x3 + 1) : Int32).toInt < (n9 : Nat)) (e14 : h1.2.2 r2 = some (.inr (12, fs13))) (e16 : qCall d 168 [.ref r2, .int (f10 ((x3 + 1) : Int32).toNatClampNeg)] h1 ((some (.int z15)), h2)) (e17 : (z7 : Int32) = z15) (kk : qE d 0 1463 [some (.ref r0), some (.ref r1), some (.ref r2), some (.int x3)] [] h2 q): qE d 0 984 [some (.ref r0), some (.ref r1), some (.ref r2), some (.int x3)] [] h q := by
  refine qe_aload_n c0_984 rfl ?_
  refine qe_aload_n c0_985 rfl ?_
  refine qe_iload_n c0_986 rfl ?_
  refine qe_iconst (x := 1) c0_987 (by decide) ?_
  refine qe_iadd c0_988 ?_
  refine qe_script c0_989 e3 e4 ?_
  refine qe_virtual (b := r1) (as := [.int (f2 ((x3 + 1) : Int32).toNatClampNeg)]) (r := []) (v := (some (.int z7))) (h2 := h1) c0_990 qo0 qK13_111 rfl rfl rfl (by rw [qo70]; exact e6) (Nat.le_of_ble_eq_true rfl) e8 ?_
  refine qe_aload_n c0_993 rfl ?_
  refine qe_aload_n c0_994 rfl ?_
  refine qe_iload_n c0_995 rfl ?_
  refine qe_iconst (x := 1) c0_996 (by decide) ?_
  refine qe_iadd c0_997 ?_
  refine qe_script c0_998 e11 e12 ?_
  refine qe_virtual (b := r2) (as := [.int (f10 ((x3 + 1) : Int32).toNatClampNeg)]) (r := [.int z7]) (v := (some (.int z15))) (h2 := h2) c0_999 qo0 qK13_114 rfl rfl rfl (by rw [qo168]; exact e14) (Nat.le_of_ble_eq_true rfl) e16 ?_
  refine qe_icmp_eq_T (t := 1463) c0_1002 rfl e17 ?_
  exact kk
theorem b0_1005 {d : Nat} {h : qH} {r0 : Nat} {r1 : Nat} {r2 : Nat} {x3 : Int32}   : qE d 0 1005 [some (.ref r0), some (.ref r1), some (.ref r2), some (.int x3)] [] h (some (.int 0), h) := by
  refine qe_iconst (x := 0) c0_1005 (by decide) ?_
  exact qe_zret c0_1006 qr0 (by decide)
theorem b0_1007F {d : Nat} {q : Option Value × qH} {h : qH} {r0 : Nat} {r1 : Nat} {r2 : Nat} {x3 : Int32} {n1 : Nat} {f2 : Nat → Int32} {fs7 : List Value} {h1 : qH} {z9 : Int32} {n11 : Nat} {f12 : Nat → Int32} {fs17 : List Value} {h2 : qH} {z19 : Int32}  (e3 : h.2.2 r0 = some (.inl (8, n1, .inl f2))) (e4 : 0 ≤ ((x3 + 1) : Int32).toInt ∧ ((x3 + 1) : Int32).toInt < (n1 : Nat)) (e5 : 0 ≤ ((x3 + 2) : Int32).toInt ∧ ((x3 + 2) : Int32).toInt < (n1 : Nat)) (e6 : 0 ≤ ((x3 + 3) : Int32).toInt ∧ ((x3 + 3) : Int32).toInt < (n1 : Nat)) (e8 : h.2.2 r1 = some (.inr (11, fs7))) (e10 : qCall d 53 [.ref r1, .int (f2 ((x3 + 1) : Int32).toNatClampNeg), .int (f2 ((x3 + 2) : Int32).toNatClampNeg), .int (f2 ((x3 + 3) : Int32).toNatClampNeg)] h ((some (.int z9)), h1)) (e13 : h1.2.2 r0 = some (.inl (8, n11, .inl f12))) (e14 : 0 ≤ ((x3 + 1) : Int32).toInt ∧ ((x3 + 1) : Int32).toInt < (n11 : Nat)) (e15 : 0 ≤ ((x3 + 2) : Int32).toInt ∧ ((x3 + 2) : Int32).toInt < (n11 : Nat)) (e16 : 0 ≤ ((x3 + 3) : Int32).toInt ∧ ((x3 + 3) : Int32).toInt < (n11 : Nat)) (e18 : h1.2.2 r2 = some (.inr (12, fs17))) (e20 : qCall d 119 [.ref r2, .int (f12 ((x3 + 1) : Int32).toNatClampNeg), .int (f12 ((x3 + 2) : Int32).toNatClampNeg), .int (f12 ((x3 + 3) : Int32).toNatClampNeg)] h1 ((some (.int z19)), h2)) (e21 : ¬ ((z9 : Int32) = z19)) (kk : qE d 0 1048 [some (.ref r0), some (.ref r1), some (.ref r2), some (.int x3)] [] h2 q): qE d 0 1007 [some (.ref r0), some (.ref r1), some (.ref r2), some (.int x3)] [] h q := by
  refine qe_aload_n c0_1007 rfl ?_
  refine qe_aload_n c0_1008 rfl ?_
  refine qe_iload_n c0_1009 rfl ?_
  refine qe_iconst (x := 1) c0_1010 (by decide) ?_
  refine qe_iadd c0_1011 ?_
  refine qe_script c0_1012 e3 e4 ?_
  refine qe_aload_n c0_1013 rfl ?_
  refine qe_iload_n c0_1014 rfl ?_
  refine qe_iconst (x := 2) c0_1015 (by decide) ?_
  refine qe_iadd c0_1016 ?_
  refine qe_script c0_1017 e3 e5 ?_
  refine qe_aload_n c0_1018 rfl ?_
  refine qe_iload_n c0_1019 rfl ?_
  refine qe_iconst (x := 3) c0_1020 (by decide) ?_
  refine qe_iadd c0_1021 ?_
  refine qe_script c0_1022 e3 e6 ?_
  refine qe_virtual (b := r1) (as := [.int (f2 ((x3 + 1) : Int32).toNatClampNeg), .int (f2 ((x3 + 2) : Int32).toNatClampNeg), .int (f2 ((x3 + 3) : Int32).toNatClampNeg)]) (r := []) (v := (some (.int z9))) (h2 := h1) c0_1023 qo0 qK13_115 rfl rfl rfl (by rw [qo53]; exact e8) (Nat.le_of_ble_eq_true rfl) e10 ?_
  refine qe_aload_n c0_1026 rfl ?_
  refine qe_aload_n c0_1027 rfl ?_
  refine qe_iload_n c0_1028 rfl ?_
  refine qe_iconst (x := 1) c0_1029 (by decide) ?_
  refine qe_iadd c0_1030 ?_
  refine qe_script c0_1031 e13 e14 ?_
  refine qe_aload_n c0_1032 rfl ?_
  refine qe_iload_n c0_1033 rfl ?_
  refine qe_iconst (x := 2) c0_1034 (by decide) ?_
  refine qe_iadd c0_1035 ?_
  refine qe_script c0_1036 e13 e15 ?_
  refine qe_aload_n c0_1037 rfl ?_
  refine qe_iload_n c0_1038 rfl ?_
  refine qe_iconst (x := 3) c0_1039 (by decide) ?_
  refine qe_iadd c0_1040 ?_
  refine qe_script c0_1041 e13 e16 ?_
  refine qe_virtual (b := r2) (as := [.int (f12 ((x3 + 1) : Int32).toNatClampNeg), .int (f12 ((x3 + 2) : Int32).toNatClampNeg), .int (f12 ((x3 + 3) : Int32).toNatClampNeg)]) (r := [.int z9]) (v := (some (.int z19))) (h2 := h2) c0_1042 qo0 qK13_118 rfl rfl rfl (by rw [qo119]; exact e18) (Nat.le_of_ble_eq_true rfl) e20 ?_
  refine qe_icmp_eq_F (t := 1463) c0_1045 rfl e21 ?_
  exact kk
theorem b0_1007T {d : Nat} {q : Option Value × qH} {h : qH} {r0 : Nat} {r1 : Nat} {r2 : Nat} {x3 : Int32} {n1 : Nat} {f2 : Nat → Int32} {fs7 : List Value} {h1 : qH} {z9 : Int32} {n11 : Nat} {f12 : Nat → Int32} {fs17 : List Value} {h2 : qH} {z19 : Int32}  (e3 : h.2.2 r0 = some (.inl (8, n1, .inl f2))) (e4 : 0 ≤ ((x3 + 1) : Int32).toInt ∧ ((x3 + 1) : Int32).toInt < (n1 : Nat)) (e5 : 0 ≤ ((x3 + 2) : Int32).toInt ∧ ((x3 + 2) : Int32).toInt < (n1 : Nat)) (e6 : 0 ≤ ((x3 + 3) : Int32).toInt ∧ ((x3 + 3) : Int32).toInt < (n1 : Nat)) (e8 : h.2.2 r1 = some (.inr (11, fs7))) (e10 : qCall d 53 [.ref r1, .int (f2 ((x3 + 1) : Int32).toNatClampNeg), .int (f2 ((x3 + 2) : Int32).toNatClampNeg), .int (f2 ((x3 + 3) : Int32).toNatClampNeg)] h ((some (.int z9)), h1)) (e13 : h1.2.2 r0 = some (.inl (8, n11, .inl f12))) (e14 : 0 ≤ ((x3 + 1) : Int32).toInt ∧ ((x3 + 1) : Int32).toInt < (n11 : Nat)) (e15 : 0 ≤ ((x3 + 2) : Int32).toInt ∧ ((x3 + 2) : Int32).toInt < (n11 : Nat)) (e16 : 0 ≤ ((x3 + 3) : Int32).toInt ∧ ((x3 + 3) : Int32).toInt < (n11 : Nat)) (e18 : h1.2.2 r2 = some (.inr (12, fs17))) (e20 : qCall d 119 [.ref r2, .int (f12 ((x3 + 1) : Int32).toNatClampNeg), .int (f12 ((x3 + 2) : Int32).toNatClampNeg), .int (f12 ((x3 + 3) : Int32).toNatClampNeg)] h1 ((some (.int z19)), h2)) (e21 : (z9 : Int32) = z19) (kk : qE d 0 1463 [some (.ref r0), some (.ref r1), some (.ref r2), some (.int x3)] [] h2 q): qE d 0 1007 [some (.ref r0), some (.ref r1), some (.ref r2), some (.int x3)] [] h q := by
  refine qe_aload_n c0_1007 rfl ?_
  refine qe_aload_n c0_1008 rfl ?_
  refine qe_iload_n c0_1009 rfl ?_
  refine qe_iconst (x := 1) c0_1010 (by decide) ?_
  refine qe_iadd c0_1011 ?_
  refine qe_script c0_1012 e3 e4 ?_
  refine qe_aload_n c0_1013 rfl ?_
  refine qe_iload_n c0_1014 rfl ?_
  refine qe_iconst (x := 2) c0_1015 (by decide) ?_
  refine qe_iadd c0_1016 ?_
  refine qe_script c0_1017 e3 e5 ?_
  refine qe_aload_n c0_1018 rfl ?_
  refine qe_iload_n c0_1019 rfl ?_
  refine qe_iconst (x := 3) c0_1020 (by decide) ?_
  refine qe_iadd c0_1021 ?_
  refine qe_script c0_1022 e3 e6 ?_
  refine qe_virtual (b := r1) (as := [.int (f2 ((x3 + 1) : Int32).toNatClampNeg), .int (f2 ((x3 + 2) : Int32).toNatClampNeg), .int (f2 ((x3 + 3) : Int32).toNatClampNeg)]) (r := []) (v := (some (.int z9))) (h2 := h1) c0_1023 qo0 qK13_115 rfl rfl rfl (by rw [qo53]; exact e8) (Nat.le_of_ble_eq_true rfl) e10 ?_
  refine qe_aload_n c0_1026 rfl ?_
  refine qe_aload_n c0_1027 rfl ?_
  refine qe_iload_n c0_1028 rfl ?_
  refine qe_iconst (x := 1) c0_1029 (by decide) ?_
  refine qe_iadd c0_1030 ?_
  refine qe_script c0_1031 e13 e14 ?_
  refine qe_aload_n c0_1032 rfl ?_
  refine qe_iload_n c0_1033 rfl ?_
  refine qe_iconst (x := 2) c0_1034 (by decide) ?_
  refine qe_iadd c0_1035 ?_
  refine qe_script c0_1036 e13 e15 ?_
  refine qe_aload_n c0_1037 rfl ?_
  refine qe_iload_n c0_1038 rfl ?_
  refine qe_iconst (x := 3) c0_1039 (by decide) ?_
  refine qe_iadd c0_1040 ?_
  refine qe_script c0_1041 e13 e16 ?_
  refine qe_virtual (b := r2) (as := [.int (f12 ((x3 + 1) : Int32).toNatClampNeg), .int (f12 ((x3 + 2) : Int32).toNatClampNeg), .int (f12 ((x3 + 3) : Int32).toNatClampNeg)]) (r := [.int z9]) (v := (some (.int z19))) (h2 := h2) c0_1042 qo0 qK13_118 rfl rfl rfl (by rw [qo119]; exact e18) (Nat.le_of_ble_eq_true rfl) e20 ?_
  refine qe_icmp_eq_T (t := 1463) c0_1045 rfl e21 ?_
  exact kk
theorem b0_1048 {d : Nat} {h : qH} {r0 : Nat} {r1 : Nat} {r2 : Nat} {x3 : Int32}   : qE d 0 1048 [some (.ref r0), some (.ref r1), some (.ref r2), some (.int x3)] [] h (some (.int 0), h) := by
  refine qe_iconst (x := 0) c0_1048 (by decide) ?_
  exact qe_zret c0_1049 qr0 (by decide)
theorem b0_1050F {d : Nat} {q : Option Value × qH} {h : qH} {r0 : Nat} {r1 : Nat} {r2 : Nat} {x3 : Int32} {n1 : Nat} {f2 : Nat → Int32} {fs6 : List Value} {h1 : qH} {z8 : Int32} {n10 : Nat} {f11 : Nat → Int32} {fs15 : List Value} {h2 : qH} {z17 : Int32}  (e3 : h.2.2 r0 = some (.inl (8, n1, .inl f2))) (e4 : 0 ≤ ((x3 + 1) : Int32).toInt ∧ ((x3 + 1) : Int32).toInt < (n1 : Nat)) (e5 : 0 ≤ ((x3 + 2) : Int32).toInt ∧ ((x3 + 2) : Int32).toInt < (n1 : Nat)) (e7 : h.2.2 r1 = some (.inr (11, fs6))) (e9 : qCall d 59 [.ref r1, .int (f2 ((x3 + 1) : Int32).toNatClampNeg), .int (f2 ((x3 + 2) : Int32).toNatClampNeg)] h ((some (.int z8)), h1)) (e12 : h1.2.2 r0 = some (.inl (8, n10, .inl f11))) (e13 : 0 ≤ ((x3 + 1) : Int32).toInt ∧ ((x3 + 1) : Int32).toInt < (n10 : Nat)) (e14 : 0 ≤ ((x3 + 2) : Int32).toInt ∧ ((x3 + 2) : Int32).toInt < (n10 : Nat)) (e16 : h1.2.2 r2 = some (.inr (12, fs15))) (e18 : qCall d 139 [.ref r2, .int (f11 ((x3 + 1) : Int32).toNatClampNeg), .int (f11 ((x3 + 2) : Int32).toNatClampNeg)] h1 ((some (.int z17)), h2)) (e19 : ¬ ((z8 : Int32) = z17)) (kk : qE d 0 1081 [some (.ref r0), some (.ref r1), some (.ref r2), some (.int x3)] [] h2 q): qE d 0 1050 [some (.ref r0), some (.ref r1), some (.ref r2), some (.int x3)] [] h q := by
  refine qe_aload_n c0_1050 rfl ?_
  refine qe_aload_n c0_1051 rfl ?_
  refine qe_iload_n c0_1052 rfl ?_
  refine qe_iconst (x := 1) c0_1053 (by decide) ?_
  refine qe_iadd c0_1054 ?_
  refine qe_script c0_1055 e3 e4 ?_
  refine qe_aload_n c0_1056 rfl ?_
  refine qe_iload_n c0_1057 rfl ?_
  refine qe_iconst (x := 2) c0_1058 (by decide) ?_
  refine qe_iadd c0_1059 ?_
  refine qe_script c0_1060 e3 e5 ?_
  refine qe_virtual (b := r1) (as := [.int (f2 ((x3 + 1) : Int32).toNatClampNeg), .int (f2 ((x3 + 2) : Int32).toNatClampNeg)]) (r := []) (v := (some (.int z8))) (h2 := h1) c0_1061 qo0 qK13_119 rfl rfl rfl (by rw [qo59]; exact e7) (Nat.le_of_ble_eq_true rfl) e9 ?_
  refine qe_aload_n c0_1064 rfl ?_
  refine qe_aload_n c0_1065 rfl ?_
  refine qe_iload_n c0_1066 rfl ?_
  refine qe_iconst (x := 1) c0_1067 (by decide) ?_
  refine qe_iadd c0_1068 ?_
  refine qe_script c0_1069 e12 e13 ?_
  refine qe_aload_n c0_1070 rfl ?_
  refine qe_iload_n c0_1071 rfl ?_
  refine qe_iconst (x := 2) c0_1072 (by decide) ?_
  refine qe_iadd c0_1073 ?_
  refine qe_script c0_1074 e12 e14 ?_
  refine qe_virtual (b := r2) (as := [.int (f11 ((x3 + 1) : Int32).toNatClampNeg), .int (f11 ((x3 + 2) : Int32).toNatClampNeg)]) (r := [.int z8]) (v := (some (.int z17))) (h2 := h2) c0_1075 qo0 qK13_122 rfl rfl rfl (by rw [qo139]; exact e16) (Nat.le_of_ble_eq_true rfl) e18 ?_
  refine qe_icmp_eq_F (t := 1463) c0_1078 rfl e19 ?_
  exact kk
theorem b0_1050T {d : Nat} {q : Option Value × qH} {h : qH} {r0 : Nat} {r1 : Nat} {r2 : Nat} {x3 : Int32} {n1 : Nat} {f2 : Nat → Int32} {fs6 : List Value} {h1 : qH} {z8 : Int32} {n10 : Nat} {f11 : Nat → Int32} {fs15 : List Value} {h2 : qH} {z17 : Int32}  (e3 : h.2.2 r0 = some (.inl (8, n1, .inl f2))) (e4 : 0 ≤ ((x3 + 1) : Int32).toInt ∧ ((x3 + 1) : Int32).toInt < (n1 : Nat)) (e5 : 0 ≤ ((x3 + 2) : Int32).toInt ∧ ((x3 + 2) : Int32).toInt < (n1 : Nat)) (e7 : h.2.2 r1 = some (.inr (11, fs6))) (e9 : qCall d 59 [.ref r1, .int (f2 ((x3 + 1) : Int32).toNatClampNeg), .int (f2 ((x3 + 2) : Int32).toNatClampNeg)] h ((some (.int z8)), h1)) (e12 : h1.2.2 r0 = some (.inl (8, n10, .inl f11))) (e13 : 0 ≤ ((x3 + 1) : Int32).toInt ∧ ((x3 + 1) : Int32).toInt < (n10 : Nat)) (e14 : 0 ≤ ((x3 + 2) : Int32).toInt ∧ ((x3 + 2) : Int32).toInt < (n10 : Nat)) (e16 : h1.2.2 r2 = some (.inr (12, fs15))) (e18 : qCall d 139 [.ref r2, .int (f11 ((x3 + 1) : Int32).toNatClampNeg), .int (f11 ((x3 + 2) : Int32).toNatClampNeg)] h1 ((some (.int z17)), h2)) (e19 : (z8 : Int32) = z17) (kk : qE d 0 1463 [some (.ref r0), some (.ref r1), some (.ref r2), some (.int x3)] [] h2 q): qE d 0 1050 [some (.ref r0), some (.ref r1), some (.ref r2), some (.int x3)] [] h q := by
  refine qe_aload_n c0_1050 rfl ?_
  refine qe_aload_n c0_1051 rfl ?_
  refine qe_iload_n c0_1052 rfl ?_
  refine qe_iconst (x := 1) c0_1053 (by decide) ?_
  refine qe_iadd c0_1054 ?_
  refine qe_script c0_1055 e3 e4 ?_
  refine qe_aload_n c0_1056 rfl ?_
  refine qe_iload_n c0_1057 rfl ?_
  refine qe_iconst (x := 2) c0_1058 (by decide) ?_
  refine qe_iadd c0_1059 ?_
  refine qe_script c0_1060 e3 e5 ?_
  refine qe_virtual (b := r1) (as := [.int (f2 ((x3 + 1) : Int32).toNatClampNeg), .int (f2 ((x3 + 2) : Int32).toNatClampNeg)]) (r := []) (v := (some (.int z8))) (h2 := h1) c0_1061 qo0 qK13_119 rfl rfl rfl (by rw [qo59]; exact e7) (Nat.le_of_ble_eq_true rfl) e9 ?_
  refine qe_aload_n c0_1064 rfl ?_
  refine qe_aload_n c0_1065 rfl ?_
  refine qe_iload_n c0_1066 rfl ?_
  refine qe_iconst (x := 1) c0_1067 (by decide) ?_
  refine qe_iadd c0_1068 ?_
  refine qe_script c0_1069 e12 e13 ?_
  refine qe_aload_n c0_1070 rfl ?_
  refine qe_iload_n c0_1071 rfl ?_
  refine qe_iconst (x := 2) c0_1072 (by decide) ?_
  refine qe_iadd c0_1073 ?_
  refine qe_script c0_1074 e12 e14 ?_
  refine qe_virtual (b := r2) (as := [.int (f11 ((x3 + 1) : Int32).toNatClampNeg), .int (f11 ((x3 + 2) : Int32).toNatClampNeg)]) (r := [.int z8]) (v := (some (.int z17))) (h2 := h2) c0_1075 qo0 qK13_122 rfl rfl rfl (by rw [qo139]; exact e16) (Nat.le_of_ble_eq_true rfl) e18 ?_
  refine qe_icmp_eq_T (t := 1463) c0_1078 rfl e19 ?_
  exact kk
theorem b0_1081 {d : Nat} {h : qH} {r0 : Nat} {r1 : Nat} {r2 : Nat} {x3 : Int32}   : qE d 0 1081 [some (.ref r0), some (.ref r1), some (.ref r2), some (.int x3)] [] h (some (.int 0), h) := by
  refine qe_iconst (x := 0) c0_1081 (by decide) ?_
  exact qe_zret c0_1082 qr0 (by decide)
theorem b0_1083F {d : Nat} {q : Option Value × qH} {h : qH} {r0 : Nat} {r1 : Nat} {r2 : Nat} {x3 : Int32} {n1 : Nat} {f2 : Nat → Int32} {fs6 : List Value} {h1 : qH} {z8 : Int32} {n10 : Nat} {f11 : Nat → Int32} {fs15 : List Value} {h2 : qH} {z17 : Int32}  (e3 : h.2.2 r0 = some (.inl (8, n1, .inl f2))) (e4 : 0 ≤ ((x3 + 1) : Int32).toInt ∧ ((x3 + 1) : Int32).toInt < (n1 : Nat)) (e5 : 0 ≤ ((x3 + 2) : Int32).toInt ∧ ((x3 + 2) : Int32).toInt < (n1 : Nat)) (e7 : h.2.2 r1 = some (.inr (11, fs6))) (e9 : qCall d 60 [.ref r1, .int (f2 ((x3 + 1) : Int32).toNatClampNeg), .int (f2 ((x3 + 2) : Int32).toNatClampNeg)] h ((some (.int z8)), h1)) (e12 : h1.2.2 r0 = some (.inl (8, n10, .inl f11))) (e13 : 0 ≤ ((x3 + 1) : Int32).toInt ∧ ((x3 + 1) : Int32).toInt < (n10 : Nat)) (e14 : 0 ≤ ((x3 + 2) : Int32).toInt ∧ ((x3 + 2) : Int32).toInt < (n10 : Nat)) (e16 : h1.2.2 r2 = some (.inr (12, fs15))) (e18 : qCall d 141 [.ref r2, .int (f11 ((x3 + 1) : Int32).toNatClampNeg), .int (f11 ((x3 + 2) : Int32).toNatClampNeg)] h1 ((some (.int z17)), h2)) (e19 : ¬ ((z8 : Int32) = z17)) (kk : qE d 0 1114 [some (.ref r0), some (.ref r1), some (.ref r2), some (.int x3)] [] h2 q): qE d 0 1083 [some (.ref r0), some (.ref r1), some (.ref r2), some (.int x3)] [] h q := by
  refine qe_aload_n c0_1083 rfl ?_
  refine qe_aload_n c0_1084 rfl ?_
  refine qe_iload_n c0_1085 rfl ?_
  refine qe_iconst (x := 1) c0_1086 (by decide) ?_
  refine qe_iadd c0_1087 ?_
  refine qe_script c0_1088 e3 e4 ?_
  refine qe_aload_n c0_1089 rfl ?_
  refine qe_iload_n c0_1090 rfl ?_
  refine qe_iconst (x := 2) c0_1091 (by decide) ?_
  refine qe_iadd c0_1092 ?_
  refine qe_script c0_1093 e3 e5 ?_
  refine qe_virtual (b := r1) (as := [.int (f2 ((x3 + 1) : Int32).toNatClampNeg), .int (f2 ((x3 + 2) : Int32).toNatClampNeg)]) (r := []) (v := (some (.int z8))) (h2 := h1) c0_1094 qo0 qK13_123 rfl rfl rfl (by rw [qo60]; exact e7) (Nat.le_of_ble_eq_true rfl) e9 ?_
  refine qe_aload_n c0_1097 rfl ?_
  refine qe_aload_n c0_1098 rfl ?_
  refine qe_iload_n c0_1099 rfl ?_
  refine qe_iconst (x := 1) c0_1100 (by decide) ?_
  refine qe_iadd c0_1101 ?_
  refine qe_script c0_1102 e12 e13 ?_
  refine qe_aload_n c0_1103 rfl ?_
  refine qe_iload_n c0_1104 rfl ?_
  refine qe_iconst (x := 2) c0_1105 (by decide) ?_
  refine qe_iadd c0_1106 ?_
  refine qe_script c0_1107 e12 e14 ?_
  refine qe_virtual (b := r2) (as := [.int (f11 ((x3 + 1) : Int32).toNatClampNeg), .int (f11 ((x3 + 2) : Int32).toNatClampNeg)]) (r := [.int z8]) (v := (some (.int z17))) (h2 := h2) c0_1108 qo0 qK13_126 rfl rfl rfl (by rw [qo141]; exact e16) (Nat.le_of_ble_eq_true rfl) e18 ?_
  refine qe_icmp_eq_F (t := 1463) c0_1111 rfl e19 ?_
  exact kk
theorem b0_1083T {d : Nat} {q : Option Value × qH} {h : qH} {r0 : Nat} {r1 : Nat} {r2 : Nat} {x3 : Int32} {n1 : Nat} {f2 : Nat → Int32} {fs6 : List Value} {h1 : qH} {z8 : Int32} {n10 : Nat} {f11 : Nat → Int32} {fs15 : List Value} {h2 : qH} {z17 : Int32}  (e3 : h.2.2 r0 = some (.inl (8, n1, .inl f2))) (e4 : 0 ≤ ((x3 + 1) : Int32).toInt ∧ ((x3 + 1) : Int32).toInt < (n1 : Nat)) (e5 : 0 ≤ ((x3 + 2) : Int32).toInt ∧ ((x3 + 2) : Int32).toInt < (n1 : Nat)) (e7 : h.2.2 r1 = some (.inr (11, fs6))) (e9 : qCall d 60 [.ref r1, .int (f2 ((x3 + 1) : Int32).toNatClampNeg), .int (f2 ((x3 + 2) : Int32).toNatClampNeg)] h ((some (.int z8)), h1)) (e12 : h1.2.2 r0 = some (.inl (8, n10, .inl f11))) (e13 : 0 ≤ ((x3 + 1) : Int32).toInt ∧ ((x3 + 1) : Int32).toInt < (n10 : Nat)) (e14 : 0 ≤ ((x3 + 2) : Int32).toInt ∧ ((x3 + 2) : Int32).toInt < (n10 : Nat)) (e16 : h1.2.2 r2 = some (.inr (12, fs15))) (e18 : qCall d 141 [.ref r2, .int (f11 ((x3 + 1) : Int32).toNatClampNeg), .int (f11 ((x3 + 2) : Int32).toNatClampNeg)] h1 ((some (.int z17)), h2)) (e19 : (z8 : Int32) = z17) (kk : qE d 0 1463 [some (.ref r0), some (.ref r1), some (.ref r2), some (.int x3)] [] h2 q): qE d 0 1083 [some (.ref r0), some (.ref r1), some (.ref r2), some (.int x3)] [] h q := by
  refine qe_aload_n c0_1083 rfl ?_
  refine qe_aload_n c0_1084 rfl ?_
  refine qe_iload_n c0_1085 rfl ?_
  refine qe_iconst (x := 1) c0_1086 (by decide) ?_
  refine qe_iadd c0_1087 ?_
  refine qe_script c0_1088 e3 e4 ?_
  refine qe_aload_n c0_1089 rfl ?_
  refine qe_iload_n c0_1090 rfl ?_
  refine qe_iconst (x := 2) c0_1091 (by decide) ?_
  refine qe_iadd c0_1092 ?_
  refine qe_script c0_1093 e3 e5 ?_
  refine qe_virtual (b := r1) (as := [.int (f2 ((x3 + 1) : Int32).toNatClampNeg), .int (f2 ((x3 + 2) : Int32).toNatClampNeg)]) (r := []) (v := (some (.int z8))) (h2 := h1) c0_1094 qo0 qK13_123 rfl rfl rfl (by rw [qo60]; exact e7) (Nat.le_of_ble_eq_true rfl) e9 ?_
  refine qe_aload_n c0_1097 rfl ?_
  refine qe_aload_n c0_1098 rfl ?_
  refine qe_iload_n c0_1099 rfl ?_
  refine qe_iconst (x := 1) c0_1100 (by decide) ?_
  refine qe_iadd c0_1101 ?_
  refine qe_script c0_1102 e12 e13 ?_
  refine qe_aload_n c0_1103 rfl ?_
  refine qe_iload_n c0_1104 rfl ?_
  refine qe_iconst (x := 2) c0_1105 (by decide) ?_
  refine qe_iadd c0_1106 ?_
  refine qe_script c0_1107 e12 e14 ?_
  refine qe_virtual (b := r2) (as := [.int (f11 ((x3 + 1) : Int32).toNatClampNeg), .int (f11 ((x3 + 2) : Int32).toNatClampNeg)]) (r := [.int z8]) (v := (some (.int z17))) (h2 := h2) c0_1108 qo0 qK13_126 rfl rfl rfl (by rw [qo141]; exact e16) (Nat.le_of_ble_eq_true rfl) e18 ?_
  refine qe_icmp_eq_T (t := 1463) c0_1111 rfl e19 ?_
  exact kk
theorem b0_1114 {d : Nat} {h : qH} {r0 : Nat} {r1 : Nat} {r2 : Nat} {x3 : Int32}   : qE d 0 1114 [some (.ref r0), some (.ref r1), some (.ref r2), some (.int x3)] [] h (some (.int 0), h) := by
  refine qe_iconst (x := 0) c0_1114 (by decide) ?_
  exact qe_zret c0_1115 qr0 (by decide)
theorem b0_1116F {d : Nat} {q : Option Value × qH} {h : qH} {r0 : Nat} {r1 : Nat} {r2 : Nat} {x3 : Int32} {n1 : Nat} {f2 : Nat → Int32} {fs7 : List Value} {h1 : qH} {z9 : Int32} {n11 : Nat} {f12 : Nat → Int32} {fs17 : List Value} {h2 : qH} {z19 : Int32}  (e3 : h.2.2 r0 = some (.inl (8, n1, .inl f2))) (e4 : 0 ≤ ((x3 + 1) : Int32).toInt ∧ ((x3 + 1) : Int32).toInt < (n1 : Nat)) (e5 : 0 ≤ ((x3 + 2) : Int32).toInt ∧ ((x3 + 2) : Int32).toInt < (n1 : Nat)) (e6 : 0 ≤ ((x3 + 3) : Int32).toInt ∧ ((x3 + 3) : Int32).toInt < (n1 : Nat)) (e8 : h.2.2 r1 = some (.inr (11, fs7))) (e10 : qCall d 36 [.ref r1, .int (f2 ((x3 + 1) : Int32).toNatClampNeg), .int (f2 ((x3 + 2) : Int32).toNatClampNeg), .int (f2 ((x3 + 3) : Int32).toNatClampNeg)] h ((some (.int z9)), h1)) (e13 : h1.2.2 r0 = some (.inl (8, n11, .inl f12))) (e14 : 0 ≤ ((x3 + 1) : Int32).toInt ∧ ((x3 + 1) : Int32).toInt < (n11 : Nat)) (e15 : 0 ≤ ((x3 + 2) : Int32).toInt ∧ ((x3 + 2) : Int32).toInt < (n11 : Nat)) (e16 : 0 ≤ ((x3 + 3) : Int32).toInt ∧ ((x3 + 3) : Int32).toInt < (n11 : Nat)) (e18 : h1.2.2 r2 = some (.inr (12, fs17))) (e20 : qCall d 92 [.ref r2, .int (f12 ((x3 + 1) : Int32).toNatClampNeg), .int (f12 ((x3 + 2) : Int32).toNatClampNeg), .int (f12 ((x3 + 3) : Int32).toNatClampNeg)] h1 ((some (.int z19)), h2)) (e21 : ¬ ((z9 : Int32) = z19)) (kk : qE d 0 1157 [some (.ref r0), some (.ref r1), some (.ref r2), some (.int x3)] [] h2 q): qE d 0 1116 [some (.ref r0), some (.ref r1), some (.ref r2), some (.int x3)] [] h q := by
  refine qe_aload_n c0_1116 rfl ?_
  refine qe_aload_n c0_1117 rfl ?_
  refine qe_iload_n c0_1118 rfl ?_
  refine qe_iconst (x := 1) c0_1119 (by decide) ?_
  refine qe_iadd c0_1120 ?_
  refine qe_script c0_1121 e3 e4 ?_
  refine qe_aload_n c0_1122 rfl ?_
  refine qe_iload_n c0_1123 rfl ?_
  refine qe_iconst (x := 2) c0_1124 (by decide) ?_
  refine qe_iadd c0_1125 ?_
  refine qe_script c0_1126 e3 e5 ?_
  refine qe_aload_n c0_1127 rfl ?_
  refine qe_iload_n c0_1128 rfl ?_
  refine qe_iconst (x := 3) c0_1129 (by decide) ?_
  refine qe_iadd c0_1130 ?_
  refine qe_script c0_1131 e3 e6 ?_
  refine qe_virtual (b := r1) (as := [.int (f2 ((x3 + 1) : Int32).toNatClampNeg), .int (f2 ((x3 + 2) : Int32).toNatClampNeg), .int (f2 ((x3 + 3) : Int32).toNatClampNeg)]) (r := []) (v := (some (.int z9))) (h2 := h1) c0_1132 qo0 qK13_127 rfl rfl rfl (by rw [qo36]; exact e8) (Nat.le_of_ble_eq_true rfl) e10 ?_
  refine qe_aload_n c0_1135 rfl ?_
  refine qe_aload_n c0_1136 rfl ?_
  refine qe_iload_n c0_1137 rfl ?_
  refine qe_iconst (x := 1) c0_1138 (by decide) ?_
  refine qe_iadd c0_1139 ?_
  refine qe_script c0_1140 e13 e14 ?_
  refine qe_aload_n c0_1141 rfl ?_
  refine qe_iload_n c0_1142 rfl ?_
  refine qe_iconst (x := 2) c0_1143 (by decide) ?_
  refine qe_iadd c0_1144 ?_
  refine qe_script c0_1145 e13 e15 ?_
  refine qe_aload_n c0_1146 rfl ?_
  refine qe_iload_n c0_1147 rfl ?_
  refine qe_iconst (x := 3) c0_1148 (by decide) ?_
  refine qe_iadd c0_1149 ?_
  refine qe_script c0_1150 e13 e16 ?_
  refine qe_virtual (b := r2) (as := [.int (f12 ((x3 + 1) : Int32).toNatClampNeg), .int (f12 ((x3 + 2) : Int32).toNatClampNeg), .int (f12 ((x3 + 3) : Int32).toNatClampNeg)]) (r := [.int z9]) (v := (some (.int z19))) (h2 := h2) c0_1151 qo0 qK13_131 rfl rfl rfl (by rw [qo92]; exact e18) (Nat.le_of_ble_eq_true rfl) e20 ?_
  refine qe_icmp_eq_F (t := 1463) c0_1154 rfl e21 ?_
  exact kk
theorem b0_1116T {d : Nat} {q : Option Value × qH} {h : qH} {r0 : Nat} {r1 : Nat} {r2 : Nat} {x3 : Int32} {n1 : Nat} {f2 : Nat → Int32} {fs7 : List Value} {h1 : qH} {z9 : Int32} {n11 : Nat} {f12 : Nat → Int32} {fs17 : List Value} {h2 : qH} {z19 : Int32}  (e3 : h.2.2 r0 = some (.inl (8, n1, .inl f2))) (e4 : 0 ≤ ((x3 + 1) : Int32).toInt ∧ ((x3 + 1) : Int32).toInt < (n1 : Nat)) (e5 : 0 ≤ ((x3 + 2) : Int32).toInt ∧ ((x3 + 2) : Int32).toInt < (n1 : Nat)) (e6 : 0 ≤ ((x3 + 3) : Int32).toInt ∧ ((x3 + 3) : Int32).toInt < (n1 : Nat)) (e8 : h.2.2 r1 = some (.inr (11, fs7))) (e10 : qCall d 36 [.ref r1, .int (f2 ((x3 + 1) : Int32).toNatClampNeg), .int (f2 ((x3 + 2) : Int32).toNatClampNeg), .int (f2 ((x3 + 3) : Int32).toNatClampNeg)] h ((some (.int z9)), h1)) (e13 : h1.2.2 r0 = some (.inl (8, n11, .inl f12))) (e14 : 0 ≤ ((x3 + 1) : Int32).toInt ∧ ((x3 + 1) : Int32).toInt < (n11 : Nat)) (e15 : 0 ≤ ((x3 + 2) : Int32).toInt ∧ ((x3 + 2) : Int32).toInt < (n11 : Nat)) (e16 : 0 ≤ ((x3 + 3) : Int32).toInt ∧ ((x3 + 3) : Int32).toInt < (n11 : Nat)) (e18 : h1.2.2 r2 = some (.inr (12, fs17))) (e20 : qCall d 92 [.ref r2, .int (f12 ((x3 + 1) : Int32).toNatClampNeg), .int (f12 ((x3 + 2) : Int32).toNatClampNeg), .int (f12 ((x3 + 3) : Int32).toNatClampNeg)] h1 ((some (.int z19)), h2)) (e21 : (z9 : Int32) = z19) (kk : qE d 0 1463 [some (.ref r0), some (.ref r1), some (.ref r2), some (.int x3)] [] h2 q): qE d 0 1116 [some (.ref r0), some (.ref r1), some (.ref r2), some (.int x3)] [] h q := by
  refine qe_aload_n c0_1116 rfl ?_
  refine qe_aload_n c0_1117 rfl ?_
  refine qe_iload_n c0_1118 rfl ?_
  refine qe_iconst (x := 1) c0_1119 (by decide) ?_
  refine qe_iadd c0_1120 ?_
  refine qe_script c0_1121 e3 e4 ?_
  refine qe_aload_n c0_1122 rfl ?_
  refine qe_iload_n c0_1123 rfl ?_
  refine qe_iconst (x := 2) c0_1124 (by decide) ?_
  refine qe_iadd c0_1125 ?_
  refine qe_script c0_1126 e3 e5 ?_
  refine qe_aload_n c0_1127 rfl ?_
  refine qe_iload_n c0_1128 rfl ?_
  refine qe_iconst (x := 3) c0_1129 (by decide) ?_
  refine qe_iadd c0_1130 ?_
  refine qe_script c0_1131 e3 e6 ?_
  refine qe_virtual (b := r1) (as := [.int (f2 ((x3 + 1) : Int32).toNatClampNeg), .int (f2 ((x3 + 2) : Int32).toNatClampNeg), .int (f2 ((x3 + 3) : Int32).toNatClampNeg)]) (r := []) (v := (some (.int z9))) (h2 := h1) c0_1132 qo0 qK13_127 rfl rfl rfl (by rw [qo36]; exact e8) (Nat.le_of_ble_eq_true rfl) e10 ?_
  refine qe_aload_n c0_1135 rfl ?_
  refine qe_aload_n c0_1136 rfl ?_
  refine qe_iload_n c0_1137 rfl ?_
  refine qe_iconst (x := 1) c0_1138 (by decide) ?_
  refine qe_iadd c0_1139 ?_
  refine qe_script c0_1140 e13 e14 ?_
  refine qe_aload_n c0_1141 rfl ?_
  refine qe_iload_n c0_1142 rfl ?_
  refine qe_iconst (x := 2) c0_1143 (by decide) ?_
  refine qe_iadd c0_1144 ?_
  refine qe_script c0_1145 e13 e15 ?_
  refine qe_aload_n c0_1146 rfl ?_
  refine qe_iload_n c0_1147 rfl ?_
  refine qe_iconst (x := 3) c0_1148 (by decide) ?_
  refine qe_iadd c0_1149 ?_
  refine qe_script c0_1150 e13 e16 ?_
  refine qe_virtual (b := r2) (as := [.int (f12 ((x3 + 1) : Int32).toNatClampNeg), .int (f12 ((x3 + 2) : Int32).toNatClampNeg), .int (f12 ((x3 + 3) : Int32).toNatClampNeg)]) (r := [.int z9]) (v := (some (.int z19))) (h2 := h2) c0_1151 qo0 qK13_131 rfl rfl rfl (by rw [qo92]; exact e18) (Nat.le_of_ble_eq_true rfl) e20 ?_
  refine qe_icmp_eq_T (t := 1463) c0_1154 rfl e21 ?_
  exact kk
theorem b0_1157 {d : Nat} {h : qH} {r0 : Nat} {r1 : Nat} {r2 : Nat} {x3 : Int32}   : qE d 0 1157 [some (.ref r0), some (.ref r1), some (.ref r2), some (.int x3)] [] h (some (.int 0), h) := by
  refine qe_iconst (x := 0) c0_1157 (by decide) ?_
  exact qe_zret c0_1158 qr0 (by decide)
theorem b0_1159F {d : Nat} {q : Option Value × qH} {h : qH} {r0 : Nat} {r1 : Nat} {r2 : Nat} {x3 : Int32} {n1 : Nat} {f2 : Nat → Int32} {fs6 : List Value} {h1 : qH} {z8 : Int32} {n10 : Nat} {f11 : Nat → Int32} {fs15 : List Value} {h2 : qH} {z17 : Int32}  (e3 : h.2.2 r0 = some (.inl (8, n1, .inl f2))) (e4 : 0 ≤ ((x3 + 1) : Int32).toInt ∧ ((x3 + 1) : Int32).toInt < (n1 : Nat)) (e5 : 0 ≤ ((x3 + 2) : Int32).toInt ∧ ((x3 + 2) : Int32).toInt < (n1 : Nat)) (e7 : h.2.2 r1 = some (.inr (11, fs6))) (e9 : qCall d 65 [.ref r1, .int (f2 ((x3 + 1) : Int32).toNatClampNeg), .int (f2 ((x3 + 2) : Int32).toNatClampNeg)] h ((some (.int z8)), h1)) (e12 : h1.2.2 r0 = some (.inl (8, n10, .inl f11))) (e13 : 0 ≤ ((x3 + 1) : Int32).toInt ∧ ((x3 + 1) : Int32).toInt < (n10 : Nat)) (e14 : 0 ≤ ((x3 + 2) : Int32).toInt ∧ ((x3 + 2) : Int32).toInt < (n10 : Nat)) (e16 : h1.2.2 r2 = some (.inr (12, fs15))) (e18 : qCall d 157 [.ref r2, .int (f11 ((x3 + 1) : Int32).toNatClampNeg), .int (f11 ((x3 + 2) : Int32).toNatClampNeg)] h1 ((some (.int z17)), h2)) (e19 : ¬ ((z8 : Int32) = z17)) (kk : qE d 0 1190 [some (.ref r0), some (.ref r1), some (.ref r2), some (.int x3)] [] h2 q): qE d 0 1159 [some (.ref r0), some (.ref r1), some (.ref r2), some (.int x3)] [] h q := by
  refine qe_aload_n c0_1159 rfl ?_
  refine qe_aload_n c0_1160 rfl ?_
  refine qe_iload_n c0_1161 rfl ?_
  refine qe_iconst (x := 1) c0_1162 (by decide) ?_
  refine qe_iadd c0_1163 ?_
  refine qe_script c0_1164 e3 e4 ?_
  refine qe_aload_n c0_1165 rfl ?_
  refine qe_iload_n c0_1166 rfl ?_
  refine qe_iconst (x := 2) c0_1167 (by decide) ?_
  refine qe_iadd c0_1168 ?_
  refine qe_script c0_1169 e3 e5 ?_
  refine qe_virtual (b := r1) (as := [.int (f2 ((x3 + 1) : Int32).toNatClampNeg), .int (f2 ((x3 + 2) : Int32).toNatClampNeg)]) (r := []) (v := (some (.int z8))) (h2 := h1) c0_1170 qo0 qK13_132 rfl rfl rfl (by rw [qo65]; exact e7) (Nat.le_of_ble_eq_true rfl) e9 ?_
  refine qe_aload_n c0_1173 rfl ?_
  refine qe_aload_n c0_1174 rfl ?_
  refine qe_iload_n c0_1175 rfl ?_
  refine qe_iconst (x := 1) c0_1176 (by decide) ?_
  refine qe_iadd c0_1177 ?_
  refine qe_script c0_1178 e12 e13 ?_
  refine qe_aload_n c0_1179 rfl ?_
  refine qe_iload_n c0_1180 rfl ?_
  refine qe_iconst (x := 2) c0_1181 (by decide) ?_
  refine qe_iadd c0_1182 ?_
  refine qe_script c0_1183 e12 e14 ?_
  refine qe_virtual (b := r2) (as := [.int (f11 ((x3 + 1) : Int32).toNatClampNeg), .int (f11 ((x3 + 2) : Int32).toNatClampNeg)]) (r := [.int z8]) (v := (some (.int z17))) (h2 := h2) c0_1184 qo0 qK13_135 rfl rfl rfl (by rw [qo157]; exact e16) (Nat.le_of_ble_eq_true rfl) e18 ?_
  refine qe_icmp_eq_F (t := 1463) c0_1187 rfl e19 ?_
  exact kk
theorem b0_1159T {d : Nat} {q : Option Value × qH} {h : qH} {r0 : Nat} {r1 : Nat} {r2 : Nat} {x3 : Int32} {n1 : Nat} {f2 : Nat → Int32} {fs6 : List Value} {h1 : qH} {z8 : Int32} {n10 : Nat} {f11 : Nat → Int32} {fs15 : List Value} {h2 : qH} {z17 : Int32}  (e3 : h.2.2 r0 = some (.inl (8, n1, .inl f2))) (e4 : 0 ≤ ((x3 + 1) : Int32).toInt ∧ ((x3 + 1) : Int32).toInt < (n1 : Nat)) (e5 : 0 ≤ ((x3 + 2) : Int32).toInt ∧ ((x3 + 2) : Int32).toInt < (n1 : Nat)) (e7 : h.2.2 r1 = some (.inr (11, fs6))) (e9 : qCall d 65 [.ref r1, .int (f2 ((x3 + 1) : Int32).toNatClampNeg), .int (f2 ((x3 + 2) : Int32).toNatClampNeg)] h ((some (.int z8)), h1)) (e12 : h1.2.2 r0 = some (.inl (8, n10, .inl f11))) (e13 : 0 ≤ ((x3 + 1) : Int32).toInt ∧ ((x3 + 1) : Int32).toInt < (n10 : Nat)) (e14 : 0 ≤ ((x3 + 2) : Int32).toInt ∧ ((x3 + 2) : Int32).toInt < (n10 : Nat)) (e16 : h1.2.2 r2 = some (.inr (12, fs15))) (e18 : qCall d 157 [.ref r2, .int (f11 ((x3 + 1) : Int32).toNatClampNeg), .int (f11 ((x3 + 2) : Int32).toNatClampNeg)] h1 ((some (.int z17)), h2)) (e19 : (z8 : Int32) = z17) (kk : qE d 0 1463 [some (.ref r0), some (.ref r1), some (.ref r2), some (.int x3)] [] h2 q): qE d 0 1159 [some (.ref r0), some (.ref r1), some (.ref r2), some (.int x3)] [] h q := by
  refine qe_aload_n c0_1159 rfl ?_
  refine qe_aload_n c0_1160 rfl ?_
  refine qe_iload_n c0_1161 rfl ?_
  refine qe_iconst (x := 1) c0_1162 (by decide) ?_
  refine qe_iadd c0_1163 ?_
  refine qe_script c0_1164 e3 e4 ?_
  refine qe_aload_n c0_1165 rfl ?_
  refine qe_iload_n c0_1166 rfl ?_
  refine qe_iconst (x := 2) c0_1167 (by decide) ?_
  refine qe_iadd c0_1168 ?_
  refine qe_script c0_1169 e3 e5 ?_
  refine qe_virtual (b := r1) (as := [.int (f2 ((x3 + 1) : Int32).toNatClampNeg), .int (f2 ((x3 + 2) : Int32).toNatClampNeg)]) (r := []) (v := (some (.int z8))) (h2 := h1) c0_1170 qo0 qK13_132 rfl rfl rfl (by rw [qo65]; exact e7) (Nat.le_of_ble_eq_true rfl) e9 ?_
  refine qe_aload_n c0_1173 rfl ?_
  refine qe_aload_n c0_1174 rfl ?_
  refine qe_iload_n c0_1175 rfl ?_
  refine qe_iconst (x := 1) c0_1176 (by decide) ?_
  refine qe_iadd c0_1177 ?_
  refine qe_script c0_1178 e12 e13 ?_
  refine qe_aload_n c0_1179 rfl ?_
  refine qe_iload_n c0_1180 rfl ?_
  refine qe_iconst (x := 2) c0_1181 (by decide) ?_
  refine qe_iadd c0_1182 ?_
  refine qe_script c0_1183 e12 e14 ?_
  refine qe_virtual (b := r2) (as := [.int (f11 ((x3 + 1) : Int32).toNatClampNeg), .int (f11 ((x3 + 2) : Int32).toNatClampNeg)]) (r := [.int z8]) (v := (some (.int z17))) (h2 := h2) c0_1184 qo0 qK13_135 rfl rfl rfl (by rw [qo157]; exact e16) (Nat.le_of_ble_eq_true rfl) e18 ?_
  refine qe_icmp_eq_T (t := 1463) c0_1187 rfl e19 ?_
  exact kk
theorem b0_1190 {d : Nat} {h : qH} {r0 : Nat} {r1 : Nat} {r2 : Nat} {x3 : Int32}   : qE d 0 1190 [some (.ref r0), some (.ref r1), some (.ref r2), some (.int x3)] [] h (some (.int 0), h) := by
  refine qe_iconst (x := 0) c0_1190 (by decide) ?_
  exact qe_zret c0_1191 qr0 (by decide)
theorem b0_1192F {d : Nat} {q : Option Value × qH} {h : qH} {r0 : Nat} {r1 : Nat} {r2 : Nat} {x3 : Int32} {n1 : Nat} {f2 : Nat → Int32} {fs6 : List Value} {h1 : qH} {z8 : Int32} {n10 : Nat} {f11 : Nat → Int32} {fs15 : List Value} {h2 : qH} {z17 : Int32}  (e3 : h.2.2 r0 = some (.inl (8, n1, .inl f2))) (e4 : 0 ≤ ((x3 + 1) : Int32).toInt ∧ ((x3 + 1) : Int32).toInt < (n1 : Nat)) (e5 : 0 ≤ ((x3 + 2) : Int32).toInt ∧ ((x3 + 2) : Int32).toInt < (n1 : Nat)) (e7 : h.2.2 r1 = some (.inr (11, fs6))) (e9 : qCall d 32 [.ref r1, .int (f2 ((x3 + 1) : Int32).toNatClampNeg), .int (f2 ((x3 + 2) : Int32).toNatClampNeg)] h ((some (.int z8)), h1)) (e12 : h1.2.2 r0 = some (.inl (8, n10, .inl f11))) (e13 : 0 ≤ ((x3 + 1) : Int32).toInt ∧ ((x3 + 1) : Int32).toInt < (n10 : Nat)) (e14 : 0 ≤ ((x3 + 2) : Int32).toInt ∧ ((x3 + 2) : Int32).toInt < (n10 : Nat)) (e16 : h1.2.2 r2 = some (.inr (12, fs15))) (e18 : qCall d 85 [.ref r2, .int (f11 ((x3 + 1) : Int32).toNatClampNeg), .int (f11 ((x3 + 2) : Int32).toNatClampNeg)] h1 ((some (.int z17)), h2)) (e19 : ¬ ((z8 : Int32) = z17)) (kk : qE d 0 1223 [some (.ref r0), some (.ref r1), some (.ref r2), some (.int x3)] [] h2 q): qE d 0 1192 [some (.ref r0), some (.ref r1), some (.ref r2), some (.int x3)] [] h q := by
  refine qe_aload_n c0_1192 rfl ?_
  refine qe_aload_n c0_1193 rfl ?_
  refine qe_iload_n c0_1194 rfl ?_
  refine qe_iconst (x := 1) c0_1195 (by decide) ?_
  refine qe_iadd c0_1196 ?_
  refine qe_script c0_1197 e3 e4 ?_
  refine qe_aload_n c0_1198 rfl ?_
  refine qe_iload_n c0_1199 rfl ?_
  refine qe_iconst (x := 2) c0_1200 (by decide) ?_
  refine qe_iadd c0_1201 ?_
  refine qe_script c0_1202 e3 e5 ?_
  refine qe_virtual (b := r1) (as := [.int (f2 ((x3 + 1) : Int32).toNatClampNeg), .int (f2 ((x3 + 2) : Int32).toNatClampNeg)]) (r := []) (v := (some (.int z8))) (h2 := h1) c0_1203 qo0 qK13_136 rfl rfl rfl (by rw [qo32]; exact e7) (Nat.le_of_ble_eq_true rfl) e9 ?_
  refine qe_aload_n c0_1206 rfl ?_
  refine qe_aload_n c0_1207 rfl ?_
  refine qe_iload_n c0_1208 rfl ?_
  refine qe_iconst (x := 1) c0_1209 (by decide) ?_
  refine qe_iadd c0_1210 ?_
  refine qe_script c0_1211 e12 e13 ?_
  refine qe_aload_n c0_1212 rfl ?_
  refine qe_iload_n c0_1213 rfl ?_
  refine qe_iconst (x := 2) c0_1214 (by decide) ?_
  refine qe_iadd c0_1215 ?_
  refine qe_script c0_1216 e12 e14 ?_
  refine qe_virtual (b := r2) (as := [.int (f11 ((x3 + 1) : Int32).toNatClampNeg), .int (f11 ((x3 + 2) : Int32).toNatClampNeg)]) (r := [.int z8]) (v := (some (.int z17))) (h2 := h2) c0_1217 qo0 qK13_139 rfl rfl rfl (by rw [qo85]; exact e16) (Nat.le_of_ble_eq_true rfl) e18 ?_
  refine qe_icmp_eq_F (t := 1463) c0_1220 rfl e19 ?_
  exact kk
theorem b0_1192T {d : Nat} {q : Option Value × qH} {h : qH} {r0 : Nat} {r1 : Nat} {r2 : Nat} {x3 : Int32} {n1 : Nat} {f2 : Nat → Int32} {fs6 : List Value} {h1 : qH} {z8 : Int32} {n10 : Nat} {f11 : Nat → Int32} {fs15 : List Value} {h2 : qH} {z17 : Int32}  (e3 : h.2.2 r0 = some (.inl (8, n1, .inl f2))) (e4 : 0 ≤ ((x3 + 1) : Int32).toInt ∧ ((x3 + 1) : Int32).toInt < (n1 : Nat)) (e5 : 0 ≤ ((x3 + 2) : Int32).toInt ∧ ((x3 + 2) : Int32).toInt < (n1 : Nat)) (e7 : h.2.2 r1 = some (.inr (11, fs6))) (e9 : qCall d 32 [.ref r1, .int (f2 ((x3 + 1) : Int32).toNatClampNeg), .int (f2 ((x3 + 2) : Int32).toNatClampNeg)] h ((some (.int z8)), h1)) (e12 : h1.2.2 r0 = some (.inl (8, n10, .inl f11))) (e13 : 0 ≤ ((x3 + 1) : Int32).toInt ∧ ((x3 + 1) : Int32).toInt < (n10 : Nat)) (e14 : 0 ≤ ((x3 + 2) : Int32).toInt ∧ ((x3 + 2) : Int32).toInt < (n10 : Nat)) (e16 : h1.2.2 r2 = some (.inr (12, fs15))) (e18 : qCall d 85 [.ref r2, .int (f11 ((x3 + 1) : Int32).toNatClampNeg), .int (f11 ((x3 + 2) : Int32).toNatClampNeg)] h1 ((some (.int z17)), h2)) (e19 : (z8 : Int32) = z17) (kk : qE d 0 1463 [some (.ref r0), some (.ref r1), some (.ref r2), some (.int x3)] [] h2 q): qE d 0 1192 [some (.ref r0), some (.ref r1), some (.ref r2), some (.int x3)] [] h q := by
  refine qe_aload_n c0_1192 rfl ?_
  refine qe_aload_n c0_1193 rfl ?_
  refine qe_iload_n c0_1194 rfl ?_
  refine qe_iconst (x := 1) c0_1195 (by decide) ?_
  refine qe_iadd c0_1196 ?_
  refine qe_script c0_1197 e3 e4 ?_
  refine qe_aload_n c0_1198 rfl ?_
  refine qe_iload_n c0_1199 rfl ?_
  refine qe_iconst (x := 2) c0_1200 (by decide) ?_
  refine qe_iadd c0_1201 ?_
  refine qe_script c0_1202 e3 e5 ?_
  refine qe_virtual (b := r1) (as := [.int (f2 ((x3 + 1) : Int32).toNatClampNeg), .int (f2 ((x3 + 2) : Int32).toNatClampNeg)]) (r := []) (v := (some (.int z8))) (h2 := h1) c0_1203 qo0 qK13_136 rfl rfl rfl (by rw [qo32]; exact e7) (Nat.le_of_ble_eq_true rfl) e9 ?_
  refine qe_aload_n c0_1206 rfl ?_
  refine qe_aload_n c0_1207 rfl ?_
  refine qe_iload_n c0_1208 rfl ?_
  refine qe_iconst (x := 1) c0_1209 (by decide) ?_
  refine qe_iadd c0_1210 ?_
  refine qe_script c0_1211 e12 e13 ?_
  refine qe_aload_n c0_1212 rfl ?_
  refine qe_iload_n c0_1213 rfl ?_
  refine qe_iconst (x := 2) c0_1214 (by decide) ?_
  refine qe_iadd c0_1215 ?_
  refine qe_script c0_1216 e12 e14 ?_
  refine qe_virtual (b := r2) (as := [.int (f11 ((x3 + 1) : Int32).toNatClampNeg), .int (f11 ((x3 + 2) : Int32).toNatClampNeg)]) (r := [.int z8]) (v := (some (.int z17))) (h2 := h2) c0_1217 qo0 qK13_139 rfl rfl rfl (by rw [qo85]; exact e16) (Nat.le_of_ble_eq_true rfl) e18 ?_
  refine qe_icmp_eq_T (t := 1463) c0_1220 rfl e19 ?_
  exact kk
theorem b0_1223 {d : Nat} {h : qH} {r0 : Nat} {r1 : Nat} {r2 : Nat} {x3 : Int32}   : qE d 0 1223 [some (.ref r0), some (.ref r1), some (.ref r2), some (.int x3)] [] h (some (.int 0), h) := by
  refine qe_iconst (x := 0) c0_1223 (by decide) ?_
  exact qe_zret c0_1224 qr0 (by decide)
theorem b0_1225F {d : Nat} {q : Option Value × qH} {h : qH} {r0 : Nat} {r1 : Nat} {r2 : Nat} {x3 : Int32} {n1 : Nat} {f2 : Nat → Int32} {fs6 : List Value} {h1 : qH} {z8 : Int32} {n10 : Nat} {f11 : Nat → Int32} {fs15 : List Value} {h2 : qH} {z17 : Int32}  (e3 : h.2.2 r0 = some (.inl (8, n1, .inl f2))) (e4 : 0 ≤ ((x3 + 1) : Int32).toInt ∧ ((x3 + 1) : Int32).toInt < (n1 : Nat)) (e5 : 0 ≤ ((x3 + 2) : Int32).toInt ∧ ((x3 + 2) : Int32).toInt < (n1 : Nat)) (e7 : h.2.2 r1 = some (.inr (11, fs6))) (e9 : qCall d 64 [.ref r1, .int (f2 ((x3 + 1) : Int32).toNatClampNeg), .int (f2 ((x3 + 2) : Int32).toNatClampNeg)] h ((some (.int z8)), h1)) (e12 : h1.2.2 r0 = some (.inl (8, n10, .inl f11))) (e13 : 0 ≤ ((x3 + 1) : Int32).toInt ∧ ((x3 + 1) : Int32).toInt < (n10 : Nat)) (e14 : 0 ≤ ((x3 + 2) : Int32).toInt ∧ ((x3 + 2) : Int32).toInt < (n10 : Nat)) (e16 : h1.2.2 r2 = some (.inr (12, fs15))) (e18 : qCall d 151 [.ref r2, .int (f11 ((x3 + 1) : Int32).toNatClampNeg), .int (f11 ((x3 + 2) : Int32).toNatClampNeg)] h1 ((some (.int z17)), h2)) (e19 : ¬ ((z8 : Int32) = z17)) (kk : qE d 0 1256 [some (.ref r0), some (.ref r1), some (.ref r2), some (.int x3)] [] h2 q): qE d 0 1225 [some (.ref r0), some (.ref r1), some (.ref r2), some (.int x3)] [] h q := by
  refine qe_aload_n c0_1225 rfl ?_
  refine qe_aload_n c0_1226 rfl ?_
  refine qe_iload_n c0_1227 rfl ?_
  refine qe_iconst (x := 1) c0_1228 (by decide) ?_
  refine qe_iadd c0_1229 ?_
  refine qe_script c0_1230 e3 e4 ?_
  refine qe_aload_n c0_1231 rfl ?_
  refine qe_iload_n c0_1232 rfl ?_
  refine qe_iconst (x := 2) c0_1233 (by decide) ?_
  refine qe_iadd c0_1234 ?_
  refine qe_script c0_1235 e3 e5 ?_
  refine qe_virtual (b := r1) (as := [.int (f2 ((x3 + 1) : Int32).toNatClampNeg), .int (f2 ((x3 + 2) : Int32).toNatClampNeg)]) (r := []) (v := (some (.int z8))) (h2 := h1) c0_1236 qo0 qK13_140 rfl rfl rfl (by rw [qo64]; exact e7) (Nat.le_of_ble_eq_true rfl) e9 ?_
  refine qe_aload_n c0_1239 rfl ?_
  refine qe_aload_n c0_1240 rfl ?_
  refine qe_iload_n c0_1241 rfl ?_
  refine qe_iconst (x := 1) c0_1242 (by decide) ?_
  refine qe_iadd c0_1243 ?_
  refine qe_script c0_1244 e12 e13 ?_
  refine qe_aload_n c0_1245 rfl ?_
  refine qe_iload_n c0_1246 rfl ?_
  refine qe_iconst (x := 2) c0_1247 (by decide) ?_
  refine qe_iadd c0_1248 ?_
  refine qe_script c0_1249 e12 e14 ?_
  refine qe_virtual (b := r2) (as := [.int (f11 ((x3 + 1) : Int32).toNatClampNeg), .int (f11 ((x3 + 2) : Int32).toNatClampNeg)]) (r := [.int z8]) (v := (some (.int z17))) (h2 := h2) c0_1250 qo0 qK13_143 rfl rfl rfl (by rw [qo151]; exact e16) (Nat.le_of_ble_eq_true rfl) e18 ?_
  refine qe_icmp_eq_F (t := 1463) c0_1253 rfl e19 ?_
  exact kk
theorem b0_1225T {d : Nat} {q : Option Value × qH} {h : qH} {r0 : Nat} {r1 : Nat} {r2 : Nat} {x3 : Int32} {n1 : Nat} {f2 : Nat → Int32} {fs6 : List Value} {h1 : qH} {z8 : Int32} {n10 : Nat} {f11 : Nat → Int32} {fs15 : List Value} {h2 : qH} {z17 : Int32}  (e3 : h.2.2 r0 = some (.inl (8, n1, .inl f2))) (e4 : 0 ≤ ((x3 + 1) : Int32).toInt ∧ ((x3 + 1) : Int32).toInt < (n1 : Nat)) (e5 : 0 ≤ ((x3 + 2) : Int32).toInt ∧ ((x3 + 2) : Int32).toInt < (n1 : Nat)) (e7 : h.2.2 r1 = some (.inr (11, fs6))) (e9 : qCall d 64 [.ref r1, .int (f2 ((x3 + 1) : Int32).toNatClampNeg), .int (f2 ((x3 + 2) : Int32).toNatClampNeg)] h ((some (.int z8)), h1)) (e12 : h1.2.2 r0 = some (.inl (8, n10, .inl f11))) (e13 : 0 ≤ ((x3 + 1) : Int32).toInt ∧ ((x3 + 1) : Int32).toInt < (n10 : Nat)) (e14 : 0 ≤ ((x3 + 2) : Int32).toInt ∧ ((x3 + 2) : Int32).toInt < (n10 : Nat)) (e16 : h1.2.2 r2 = some (.inr (12, fs15))) (e18 : qCall d 151 [.ref r2, .int (f11 ((x3 + 1) : Int32).toNatClampNeg), .int (f11 ((x3 + 2) : Int32).toNatClampNeg)] h1 ((some (.int z17)), h2)) (e19 : (z8 : Int32) = z17) (kk : qE d 0 1463 [some (.ref r0), some (.ref r1), some (.ref r2), some (.int x3)] [] h2 q): qE d 0 1225 [some (.ref r0), some (.ref r1), some (.ref r2), some (.int x3)] [] h q := by
  refine qe_aload_n c0_1225 rfl ?_
  refine qe_aload_n c0_1226 rfl ?_
  refine qe_iload_n c0_1227 rfl ?_
  refine qe_iconst (x := 1) c0_1228 (by decide) ?_
  refine qe_iadd c0_1229 ?_
  refine qe_script c0_1230 e3 e4 ?_
  refine qe_aload_n c0_1231 rfl ?_
  refine qe_iload_n c0_1232 rfl ?_
  refine qe_iconst (x := 2) c0_1233 (by decide) ?_
  refine qe_iadd c0_1234 ?_
  refine qe_script c0_1235 e3 e5 ?_
  refine qe_virtual (b := r1) (as := [.int (f2 ((x3 + 1) : Int32).toNatClampNeg), .int (f2 ((x3 + 2) : Int32).toNatClampNeg)]) (r := []) (v := (some (.int z8))) (h2 := h1) c0_1236 qo0 qK13_140 rfl rfl rfl (by rw [qo64]; exact e7) (Nat.le_of_ble_eq_true rfl) e9 ?_
  refine qe_aload_n c0_1239 rfl ?_
  refine qe_aload_n c0_1240 rfl ?_
  refine qe_iload_n c0_1241 rfl ?_
  refine qe_iconst (x := 1) c0_1242 (by decide) ?_
  refine qe_iadd c0_1243 ?_
  refine qe_script c0_1244 e12 e13 ?_
  refine qe_aload_n c0_1245 rfl ?_
  refine qe_iload_n c0_1246 rfl ?_
  refine qe_iconst (x := 2) c0_1247 (by decide) ?_
  refine qe_iadd c0_1248 ?_
  refine qe_script c0_1249 e12 e14 ?_
  refine qe_virtual (b := r2) (as := [.int (f11 ((x3 + 1) : Int32).toNatClampNeg), .int (f11 ((x3 + 2) : Int32).toNatClampNeg)]) (r := [.int z8]) (v := (some (.int z17))) (h2 := h2) c0_1250 qo0 qK13_143 rfl rfl rfl (by rw [qo151]; exact e16) (Nat.le_of_ble_eq_true rfl) e18 ?_
  refine qe_icmp_eq_T (t := 1463) c0_1253 rfl e19 ?_
  exact kk
theorem b0_1256 {d : Nat} {h : qH} {r0 : Nat} {r1 : Nat} {r2 : Nat} {x3 : Int32}   : qE d 0 1256 [some (.ref r0), some (.ref r1), some (.ref r2), some (.int x3)] [] h (some (.int 0), h) := by
  refine qe_iconst (x := 0) c0_1256 (by decide) ?_
  exact qe_zret c0_1257 qr0 (by decide)
theorem b0_1258F {d : Nat} {q : Option Value × qH} {h : qH} {r0 : Nat} {r1 : Nat} {r2 : Nat} {x3 : Int32} {n1 : Nat} {f2 : Nat → Int32}  (e3 : h.2.2 r0 = some (.inl (8, n1, .inl f2))) (e4 : 0 ≤ ((x3 + 1) : Int32).toInt ∧ ((x3 + 1) : Int32).toInt < (n1 : Nat)) (e5 : 0 ≤ ((x3 + 2) : Int32).toInt ∧ ((x3 + 2) : Int32).toInt < (n1 : Nat)) (e6 : ¬ (((f2 ((x3 + 2) : Int32).toNatClampNeg) : Int32) = 0)) (kk : qE d 0 1272 [some (.ref r0), some (.ref r1), some (.ref r2), some (.int x3)] [.int (f2 ((x3 + 1) : Int32).toNatClampNeg), .ref r1] h q): qE d 0 1258 [some (.ref r0), some (.ref r1), some (.ref r2), some (.int x3)] [] h q := by
  refine qe_aload_n c0_1258 rfl ?_
  refine qe_aload_n c0_1259 rfl ?_
  refine qe_iload_n c0_1260 rfl ?_
  refine qe_iconst (x := 1) c0_1261 (by decide) ?_
  refine qe_iadd c0_1262 ?_
  refine qe_script c0_1263 e3 e4 ?_
  refine qe_aload_n c0_1264 rfl ?_
  refine qe_iload_n c0_1265 rfl ?_
  refine qe_iconst (x := 2) c0_1266 (by decide) ?_
  refine qe_iadd c0_1267 ?_
  refine qe_script c0_1268 e3 e5 ?_
  refine qe_if_eq_F (t := 1276) c0_1269 rfl e6 ?_
  exact kk
theorem b0_1258T {d : Nat} {q : Option Value × qH} {h : qH} {r0 : Nat} {r1 : Nat} {r2 : Nat} {x3 : Int32} {n1 : Nat} {f2 : Nat → Int32}  (e3 : h.2.2 r0 = some (.inl (8, n1, .inl f2))) (e4 : 0 ≤ ((x3 + 1) : Int32).toInt ∧ ((x3 + 1) : Int32).toInt < (n1 : Nat)) (e5 : 0 ≤ ((x3 + 2) : Int32).toInt ∧ ((x3 + 2) : Int32).toInt < (n1 : Nat)) (e6 : ((f2 ((x3 + 2) : Int32).toNatClampNeg) : Int32) = 0) (kk : qE d 0 1276 [some (.ref r0), some (.ref r1), some (.ref r2), some (.int x3)] [.int (f2 ((x3 + 1) : Int32).toNatClampNeg), .ref r1] h q): qE d 0 1258 [some (.ref r0), some (.ref r1), some (.ref r2), some (.int x3)] [] h q := by
  refine qe_aload_n c0_1258 rfl ?_
  refine qe_aload_n c0_1259 rfl ?_
  refine qe_iload_n c0_1260 rfl ?_
  refine qe_iconst (x := 1) c0_1261 (by decide) ?_
  refine qe_iadd c0_1262 ?_
  refine qe_script c0_1263 e3 e4 ?_
  refine qe_aload_n c0_1264 rfl ?_
  refine qe_iload_n c0_1265 rfl ?_
  refine qe_iconst (x := 2) c0_1266 (by decide) ?_
  refine qe_iadd c0_1267 ?_
  refine qe_script c0_1268 e3 e5 ?_
  refine qe_if_eq_T (t := 1276) c0_1269 rfl e6 ?_
  exact kk
theorem b0_1272 {d : Nat} {q : Option Value × qH} {h : qH} {r0 : Nat} {r1 : Nat} {r2 : Nat} {x3 : Int32} {rs0 : Nat} {xs1 : Int32}   (kk : qE d 0 1277 [some (.ref r0), some (.ref r1), some (.ref r2), some (.int x3)] [.int 1, .int xs1, .ref rs0] h q): qE d 0 1272 [some (.ref r0), some (.ref r1), some (.ref r2), some (.int x3)] [.int xs1, .ref rs0] h q := by
  refine qe_iconst (x := 1) c0_1272 (by decide) ?_
  refine qe_goto (t := 1277) c0_1273 rfl ?_
  exact kk
theorem b0_1276 {d : Nat} {q : Option Value × qH} {h : qH} {r0 : Nat} {r1 : Nat} {r2 : Nat} {x3 : Int32} {rs0 : Nat} {xs1 : Int32}   (kk : qE d 0 1277 [some (.ref r0), some (.ref r1), some (.ref r2), some (.int x3)] [.int 0, .int xs1, .ref rs0] h q): qE d 0 1276 [some (.ref r0), some (.ref r1), some (.ref r2), some (.int x3)] [.int xs1, .ref rs0] h q := by
  refine qe_iconst (x := 0) c0_1276 (by decide) ?_
  exact kk
theorem b0_1277F {d : Nat} {q : Option Value × qH} {h : qH} {r0 : Nat} {r1 : Nat} {r2 : Nat} {x3 : Int32} {rs0 : Nat} {xs1 : Int32} {xs2 : Int32} {n1 : Nat} {f2 : Nat → Int32} {fs5 : List Value} {h1 : qH} {z7 : Int32} {n9 : Nat} {f10 : Nat → Int32}  (e3 : h.2.2 r0 = some (.inl (8, n1, .inl f2))) (e4 : 0 ≤ ((x3 + 3) : Int32).toInt ∧ ((x3 + 3) : Int32).toInt < (n1 : Nat)) (e6 : h.2.2 rs0 = some (.inr (11, fs5))) (e8 : qCall d 33 [.ref rs0, .int xs1, .int xs2, .int (f2 ((x3 + 3) : Int32).toNatClampNeg)] h ((some (.int z7)), h1)) (e11 : h1.2.2 r0 = some (.inl (8, n9, .inl f10))) (e12 : 0 ≤ ((x3 + 1) : Int32).toInt ∧ ((x3 + 1) : Int32).toInt < (n9 : Nat)) (e13 : 0 ≤ ((x3 + 2) : Int32).toInt ∧ ((x3 + 2) : Int32).toInt < (n9 : Nat)) (e14 : ¬ (((f10 ((x3 + 2) : Int32).toNatClampNeg) : Int32) = 0)) (kk : qE d 0 1299 [some (.ref r0), some (.ref r1), some (.ref r2), some (.int x3)] [.int (f10 ((x3 + 1) : Int32).toNatClampNeg), .ref r2, .int z7] h1 q): qE d 0 1277 [some (.ref r0), some (.ref r1), some (.ref r2), some (.int x3)] [.int xs2, .int xs1, .ref rs0] h q := by
  refine qe_aload_n c0_1277 rfl ?_
  refine qe_iload_n c0_1278 rfl ?_
  refine qe_iconst (x := 3) c0_1279 (by decide) ?_
  refine qe_iadd c0_1280 ?_
  refine qe_script c0_1281 e3 e4 ?_
  refine qe_virtual (b := rs0) (as := [.int xs1, .int xs2, .int (f2 ((x3 + 3) : Int32).toNatClampNeg)]) (r := []) (v := (some (.int z7))) (h2 := h1) c0_1282 qo0 qK13_144 rfl rfl rfl (by rw [qo33]; exact e6) (Nat.le_of_ble_eq_true rfl) e8 ?_
  refine qe_aload_n c0_1285 rfl ?_
  refine qe_aload_n c0_1286 rfl ?_
  refine qe_iload_n c0_1287 rfl ?_
  refine qe_iconst (x := 1) c0_1288 (by decide) ?_
  refine qe_iadd c0_1289 ?_
  refine qe_script c0_1290 e11 e12 ?_
  refine qe_aload_n c0_1291 rfl ?_
  refine qe_iload_n c0_1292 rfl ?_
  refine qe_iconst (x := 2) c0_1293 (by decide) ?_
  refine qe_iadd c0_1294 ?_
  refine qe_script c0_1295 e11 e13 ?_
  refine qe_if_eq_F (t := 1303) c0_1296 rfl e14 ?_
  exact kk
theorem b0_1277T {d : Nat} {q : Option Value × qH} {h : qH} {r0 : Nat} {r1 : Nat} {r2 : Nat} {x3 : Int32} {rs0 : Nat} {xs1 : Int32} {xs2 : Int32} {n1 : Nat} {f2 : Nat → Int32} {fs5 : List Value} {h1 : qH} {z7 : Int32} {n9 : Nat} {f10 : Nat → Int32}  (e3 : h.2.2 r0 = some (.inl (8, n1, .inl f2))) (e4 : 0 ≤ ((x3 + 3) : Int32).toInt ∧ ((x3 + 3) : Int32).toInt < (n1 : Nat)) (e6 : h.2.2 rs0 = some (.inr (11, fs5))) (e8 : qCall d 33 [.ref rs0, .int xs1, .int xs2, .int (f2 ((x3 + 3) : Int32).toNatClampNeg)] h ((some (.int z7)), h1)) (e11 : h1.2.2 r0 = some (.inl (8, n9, .inl f10))) (e12 : 0 ≤ ((x3 + 1) : Int32).toInt ∧ ((x3 + 1) : Int32).toInt < (n9 : Nat)) (e13 : 0 ≤ ((x3 + 2) : Int32).toInt ∧ ((x3 + 2) : Int32).toInt < (n9 : Nat)) (e14 : ((f10 ((x3 + 2) : Int32).toNatClampNeg) : Int32) = 0) (kk : qE d 0 1303 [some (.ref r0), some (.ref r1), some (.ref r2), some (.int x3)] [.int (f10 ((x3 + 1) : Int32).toNatClampNeg), .ref r2, .int z7] h1 q): qE d 0 1277 [some (.ref r0), some (.ref r1), some (.ref r2), some (.int x3)] [.int xs2, .int xs1, .ref rs0] h q := by
  refine qe_aload_n c0_1277 rfl ?_
  refine qe_iload_n c0_1278 rfl ?_
  refine qe_iconst (x := 3) c0_1279 (by decide) ?_
  refine qe_iadd c0_1280 ?_
  refine qe_script c0_1281 e3 e4 ?_
  refine qe_virtual (b := rs0) (as := [.int xs1, .int xs2, .int (f2 ((x3 + 3) : Int32).toNatClampNeg)]) (r := []) (v := (some (.int z7))) (h2 := h1) c0_1282 qo0 qK13_144 rfl rfl rfl (by rw [qo33]; exact e6) (Nat.le_of_ble_eq_true rfl) e8 ?_
  refine qe_aload_n c0_1285 rfl ?_
  refine qe_aload_n c0_1286 rfl ?_
  refine qe_iload_n c0_1287 rfl ?_
  refine qe_iconst (x := 1) c0_1288 (by decide) ?_
  refine qe_iadd c0_1289 ?_
  refine qe_script c0_1290 e11 e12 ?_
  refine qe_aload_n c0_1291 rfl ?_
  refine qe_iload_n c0_1292 rfl ?_
  refine qe_iconst (x := 2) c0_1293 (by decide) ?_
  refine qe_iadd c0_1294 ?_
  refine qe_script c0_1295 e11 e13 ?_
  refine qe_if_eq_T (t := 1303) c0_1296 rfl e14 ?_
  exact kk
theorem b0_1299 {d : Nat} {q : Option Value × qH} {h : qH} {r0 : Nat} {r1 : Nat} {r2 : Nat} {x3 : Int32} {xs0 : Int32} {rs1 : Nat} {xs2 : Int32}   (kk : qE d 0 1304 [some (.ref r0), some (.ref r1), some (.ref r2), some (.int x3)] [.int 1, .int xs2, .ref rs1, .int xs0] h q): qE d 0 1299 [some (.ref r0), some (.ref r1), some (.ref r2), some (.int x3)] [.int xs2, .ref rs1, .int xs0] h q := by
  refine qe_iconst (x := 1) c0_1299 (by decide) ?_
  refine qe_goto (t := 1304) c0_1300 rfl ?_
  exact kk
theorem b0_1303 {d : Nat} {q : Option Value × qH} {h : qH} {r0 : Nat} {r1 : Nat} {r2 : Nat} {x3 : Int32} {xs0 : Int32} {rs1 : Nat} {xs2 : Int32}   (kk : qE d 0 1304 [some (.ref r0), some (.ref r1), some (.ref r2), some (.int x3)] [.int 0, .int xs2, .ref rs1, .int xs0] h q): qE d 0 1303 [some (.ref r0), some (.ref r1), some (.ref r2), some (.int x3)] [.int xs2, .ref rs1, .int xs0] h q := by
  refine qe_iconst (x := 0) c0_1303 (by decide) ?_
  exact kk
theorem b0_1304F {d : Nat} {q : Option Value × qH} {h : qH} {r0 : Nat} {r1 : Nat} {r2 : Nat} {x3 : Int32} {xs0 : Int32} {rs1 : Nat} {xs2 : Int32} {xs3 : Int32} {n1 : Nat} {f2 : Nat → Int32} {fs5 : List Value} {h1 : qH} {z7 : Int32}  (e3 : h.2.2 r0 = some (.inl (8, n1, .inl f2))) (e4 : 0 ≤ ((x3 + 3) : Int32).toInt ∧ ((x3 + 3) : Int32).toInt < (n1 : Nat)) (e6 : h.2.2 rs1 = some (.inr (12, fs5))) (e8 : qCall d 86 [.ref rs1, .int xs2, .int xs3, .int (f2 ((x3 + 3) : Int32).toNatClampNeg)] h ((some (.int z7)), h1)) (e9 : ¬ ((xs0 : Int32) = z7)) (kk : qE d 0 1315 [some (.ref r0), some (.ref r1), some (.ref r2), some (.int x3)] [] h1 q): qE d 0 1304 [some (.ref r0), some (.ref r1), some (.ref r2), some (.int x3)] [.int xs3, .int xs2, .ref rs1, .int xs0] h q := by
  refine qe_aload_n c0_1304 rfl ?_
  refine qe_iload_n c0_1305 rfl ?_
  refine qe_iconst (x := 3) c0_1306 (by decide) ?_
  refine qe_iadd c0_1307 ?_
  refine qe_script c0_1308 e3 e4 ?_
  refine qe_virtual (b := rs1) (as := [.int xs2, .int xs3, .int (f2 ((x3 + 3) : Int32).toNatClampNeg)]) (r := [.int xs0]) (v := (some (.int z7))) (h2 := h1) c0_1309 qo0 qK13_148 rfl rfl rfl (by rw [qo86]; exact e6) (Nat.le_of_ble_eq_true rfl) e8 ?_
  refine qe_icmp_eq_F (t := 1463) c0_1312 rfl e9 ?_
  exact kk
theorem b0_1304T {d : Nat} {q : Option Value × qH} {h : qH} {r0 : Nat} {r1 : Nat} {r2 : Nat} {x3 : Int32} {xs0 : Int32} {rs1 : Nat} {xs2 : Int32} {xs3 : Int32} {n1 : Nat} {f2 : Nat → Int32} {fs5 : List Value} {h1 : qH} {z7 : Int32}  (e3 : h.2.2 r0 = some (.inl (8, n1, .inl f2))) (e4 : 0 ≤ ((x3 + 3) : Int32).toInt ∧ ((x3 + 3) : Int32).toInt < (n1 : Nat)) (e6 : h.2.2 rs1 = some (.inr (12, fs5))) (e8 : qCall d 86 [.ref rs1, .int xs2, .int xs3, .int (f2 ((x3 + 3) : Int32).toNatClampNeg)] h ((some (.int z7)), h1)) (e9 : (xs0 : Int32) = z7) (kk : qE d 0 1463 [some (.ref r0), some (.ref r1), some (.ref r2), some (.int x3)] [] h1 q): qE d 0 1304 [some (.ref r0), some (.ref r1), some (.ref r2), some (.int x3)] [.int xs3, .int xs2, .ref rs1, .int xs0] h q := by
  refine qe_aload_n c0_1304 rfl ?_
  refine qe_iload_n c0_1305 rfl ?_
  refine qe_iconst (x := 3) c0_1306 (by decide) ?_
  refine qe_iadd c0_1307 ?_
  refine qe_script c0_1308 e3 e4 ?_
  refine qe_virtual (b := rs1) (as := [.int xs2, .int xs3, .int (f2 ((x3 + 3) : Int32).toNatClampNeg)]) (r := [.int xs0]) (v := (some (.int z7))) (h2 := h1) c0_1309 qo0 qK13_148 rfl rfl rfl (by rw [qo86]; exact e6) (Nat.le_of_ble_eq_true rfl) e8 ?_
  refine qe_icmp_eq_T (t := 1463) c0_1312 rfl e9 ?_
  exact kk
theorem b0_1315 {d : Nat} {h : qH} {r0 : Nat} {r1 : Nat} {r2 : Nat} {x3 : Int32}   : qE d 0 1315 [some (.ref r0), some (.ref r1), some (.ref r2), some (.int x3)] [] h (some (.int 0), h) := by
  refine qe_iconst (x := 0) c0_1315 (by decide) ?_
  exact qe_zret c0_1316 qr0 (by decide)
theorem b0_1317F {d : Nat} {q : Option Value × qH} {h : qH} {r0 : Nat} {r1 : Nat} {r2 : Nat} {x3 : Int32} {n1 : Nat} {f2 : Nat → Int32} {fs5 : List Value} {h1 : qH} {z7 : Int64} {n9 : Nat} {f10 : Nat → Int32} {fs13 : List Value} {h2 : qH} {z15 : Int64}  (e3 : h.2.2 r0 = some (.inl (8, n1, .inl f2))) (e4 : 0 ≤ ((x3 + 1) : Int32).toInt ∧ ((x3 + 1) : Int32).toInt < (n1 : Nat)) (e6 : h.2.2 r1 = some (.inr (11, fs5))) (e8 : qCall d 30 [.ref r1, .int (f2 ((x3 + 1) : Int32).toNatClampNeg)] h ((some (.long z7)), h1)) (e11 : h1.2.2 r0 = some (.inl (8, n9, .inl f10))) (e12 : 0 ≤ ((x3 + 1) : Int32).toInt ∧ ((x3 + 1) : Int32).toInt < (n9 : Nat)) (e14 : h1.2.2 r2 = some (.inr (12, fs13))) (e16 : qCall d 83 [.ref r2, .int (f10 ((x3 + 1) : Int32).toNatClampNeg)] h1 ((some (.long z15)), h2)) (e17 : ¬ (((lg_cmp z7 z15) : Int32) = 0)) (kk : qE d 0 1339 [some (.ref r0), some (.ref r1), some (.ref r2), some (.int x3)] [] h2 q): qE d 0 1317 [some (.ref r0), some (.ref r1), some (.ref r2), some (.int x3)] [] h q := by
  refine qe_aload_n c0_1317 rfl ?_
  refine qe_aload_n c0_1318 rfl ?_
  refine qe_iload_n c0_1319 rfl ?_
  refine qe_iconst (x := 1) c0_1320 (by decide) ?_
  refine qe_iadd c0_1321 ?_
  refine qe_script c0_1322 e3 e4 ?_
  refine qe_virtual (b := r1) (as := [.int (f2 ((x3 + 1) : Int32).toNatClampNeg)]) (r := []) (v := (some (.long z7))) (h2 := h1) c0_1323 qo0 qK13_149 rfl rfl rfl (by rw [qo30]; exact e6) (Nat.le_of_ble_eq_true rfl) e8 ?_
  refine qe_aload_n c0_1326 rfl ?_
  refine qe_aload_n c0_1327 rfl ?_
  refine qe_iload_n c0_1328 rfl ?_
  refine qe_iconst (x := 1) c0_1329 (by decide) ?_
  refine qe_iadd c0_1330 ?_
  refine qe_script c0_1331 e11 e12 ?_
  refine qe_virtual (b := r2) (as := [.int (f10 ((x3 + 1) : Int32).toNatClampNeg)]) (r := [.long z7]) (v := (some (.long z15))) (h2 := h2) c0_1332 qo0 qK13_152 rfl rfl rfl (by rw [qo83]; exact e14) (Nat.le_of_ble_eq_true rfl) e16 ?_
  refine qe_lcmp c0_1335 ?_
  refine qe_if_eq_F (t := 1463) c0_1336 rfl e17 ?_
  exact kk
theorem b0_1317T {d : Nat} {q : Option Value × qH} {h : qH} {r0 : Nat} {r1 : Nat} {r2 : Nat} {x3 : Int32} {n1 : Nat} {f2 : Nat → Int32} {fs5 : List Value} {h1 : qH} {z7 : Int64} {n9 : Nat} {f10 : Nat → Int32} {fs13 : List Value} {h2 : qH} {z15 : Int64}  (e3 : h.2.2 r0 = some (.inl (8, n1, .inl f2))) (e4 : 0 ≤ ((x3 + 1) : Int32).toInt ∧ ((x3 + 1) : Int32).toInt < (n1 : Nat)) (e6 : h.2.2 r1 = some (.inr (11, fs5))) (e8 : qCall d 30 [.ref r1, .int (f2 ((x3 + 1) : Int32).toNatClampNeg)] h ((some (.long z7)), h1)) (e11 : h1.2.2 r0 = some (.inl (8, n9, .inl f10))) (e12 : 0 ≤ ((x3 + 1) : Int32).toInt ∧ ((x3 + 1) : Int32).toInt < (n9 : Nat)) (e14 : h1.2.2 r2 = some (.inr (12, fs13))) (e16 : qCall d 83 [.ref r2, .int (f10 ((x3 + 1) : Int32).toNatClampNeg)] h1 ((some (.long z15)), h2)) (e17 : ((lg_cmp z7 z15) : Int32) = 0) (kk : qE d 0 1463 [some (.ref r0), some (.ref r1), some (.ref r2), some (.int x3)] [] h2 q): qE d 0 1317 [some (.ref r0), some (.ref r1), some (.ref r2), some (.int x3)] [] h q := by
  refine qe_aload_n c0_1317 rfl ?_
  refine qe_aload_n c0_1318 rfl ?_
  refine qe_iload_n c0_1319 rfl ?_
  refine qe_iconst (x := 1) c0_1320 (by decide) ?_
  refine qe_iadd c0_1321 ?_
  refine qe_script c0_1322 e3 e4 ?_
  refine qe_virtual (b := r1) (as := [.int (f2 ((x3 + 1) : Int32).toNatClampNeg)]) (r := []) (v := (some (.long z7))) (h2 := h1) c0_1323 qo0 qK13_149 rfl rfl rfl (by rw [qo30]; exact e6) (Nat.le_of_ble_eq_true rfl) e8 ?_
  refine qe_aload_n c0_1326 rfl ?_
  refine qe_aload_n c0_1327 rfl ?_
  refine qe_iload_n c0_1328 rfl ?_
  refine qe_iconst (x := 1) c0_1329 (by decide) ?_
  refine qe_iadd c0_1330 ?_
  refine qe_script c0_1331 e11 e12 ?_
  refine qe_virtual (b := r2) (as := [.int (f10 ((x3 + 1) : Int32).toNatClampNeg)]) (r := [.long z7]) (v := (some (.long z15))) (h2 := h2) c0_1332 qo0 qK13_152 rfl rfl rfl (by rw [qo83]; exact e14) (Nat.le_of_ble_eq_true rfl) e16 ?_
  refine qe_lcmp c0_1335 ?_
  refine qe_if_eq_T (t := 1463) c0_1336 rfl e17 ?_
  exact kk
theorem b0_1339 {d : Nat} {h : qH} {r0 : Nat} {r1 : Nat} {r2 : Nat} {x3 : Int32}   : qE d 0 1339 [some (.ref r0), some (.ref r1), some (.ref r2), some (.int x3)] [] h (some (.int 0), h) := by
  refine qe_iconst (x := 0) c0_1339 (by decide) ?_
  exact qe_zret c0_1340 qr0 (by decide)
theorem b0_1341F {d : Nat} {q : Option Value × qH} {h : qH} {r0 : Nat} {r1 : Nat} {r2 : Nat} {x3 : Int32} {n1 : Nat} {f2 : Nat → Int32} {fs6 : List Value} {h1 : qH} {z8 : Int32} {n10 : Nat} {f11 : Nat → Int32} {fs15 : List Value} {h2 : qH} {z17 : Int32}  (e3 : h.2.2 r0 = some (.inl (8, n1, .inl f2))) (e4 : 0 ≤ ((x3 + 1) : Int32).toInt ∧ ((x3 + 1) : Int32).toInt < (n1 : Nat)) (e5 : 0 ≤ ((x3 + 2) : Int32).toInt ∧ ((x3 + 2) : Int32).toInt < (n1 : Nat)) (e7 : h.2.2 r1 = some (.inr (11, fs6))) (e9 : qCall d 39 [.ref r1, .int (f2 ((x3 + 1) : Int32).toNatClampNeg), .int (f2 ((x3 + 2) : Int32).toNatClampNeg)] h ((some (.int z8)), h1)) (e12 : h1.2.2 r0 = some (.inl (8, n10, .inl f11))) (e13 : 0 ≤ ((x3 + 1) : Int32).toInt ∧ ((x3 + 1) : Int32).toInt < (n10 : Nat)) (e14 : 0 ≤ ((x3 + 2) : Int32).toInt ∧ ((x3 + 2) : Int32).toInt < (n10 : Nat)) (e16 : h1.2.2 r2 = some (.inr (12, fs15))) (e18 : qCall d 97 [.ref r2, .int (f11 ((x3 + 1) : Int32).toNatClampNeg), .int (f11 ((x3 + 2) : Int32).toNatClampNeg)] h1 ((some (.int z17)), h2)) (e19 : ¬ ((z8 : Int32) = z17)) (kk : qE d 0 1372 [some (.ref r0), some (.ref r1), some (.ref r2), some (.int x3)] [] h2 q): qE d 0 1341 [some (.ref r0), some (.ref r1), some (.ref r2), some (.int x3)] [] h q := by
  refine qe_aload_n c0_1341 rfl ?_
  refine qe_aload_n c0_1342 rfl ?_
  refine qe_iload_n c0_1343 rfl ?_
  refine qe_iconst (x := 1) c0_1344 (by decide) ?_
  refine qe_iadd c0_1345 ?_
  refine qe_script c0_1346 e3 e4 ?_
  refine qe_aload_n c0_1347 rfl ?_
  refine qe_iload_n c0_1348 rfl ?_
  refine qe_iconst (x := 2) c0_1349 (by decide) ?_
  refine qe_iadd c0_1350 ?_
  refine qe_script c0_1351 e3 e5 ?_
  refine qe_virtual (b := r1) (as := [.int (f2 ((x3 + 1) : Int32).toNatClampNeg), .int (f2 ((x3 + 2) : Int32).toNatClampNeg)]) (r := []) (v := (some (.int z8))) (h2 := h1) c0_1352 qo0 qK13_153 rfl rfl rfl (by rw [qo39]; exact e7) (Nat.le_of_ble_eq_true rfl) e9 ?_
  refine qe_aload_n c0_1355 rfl ?_
  refine qe_aload_n c0_1356 rfl ?_
  refine qe_iload_n c0_1357 rfl ?_
  refine qe_iconst (x := 1) c0_1358 (by decide) ?_
  refine qe_iadd c0_1359 ?_
  refine qe_script c0_1360 e12 e13 ?_
  refine qe_aload_n c0_1361 rfl ?_
  refine qe_iload_n c0_1362 rfl ?_
  refine qe_iconst (x := 2) c0_1363 (by decide) ?_
  refine qe_iadd c0_1364 ?_
  refine qe_script c0_1365 e12 e14 ?_
  refine qe_virtual (b := r2) (as := [.int (f11 ((x3 + 1) : Int32).toNatClampNeg), .int (f11 ((x3 + 2) : Int32).toNatClampNeg)]) (r := [.int z8]) (v := (some (.int z17))) (h2 := h2) c0_1366 qo0 qK13_156 rfl rfl rfl (by rw [qo97]; exact e16) (Nat.le_of_ble_eq_true rfl) e18 ?_
  refine qe_icmp_eq_F (t := 1463) c0_1369 rfl e19 ?_
  exact kk
theorem b0_1341T {d : Nat} {q : Option Value × qH} {h : qH} {r0 : Nat} {r1 : Nat} {r2 : Nat} {x3 : Int32} {n1 : Nat} {f2 : Nat → Int32} {fs6 : List Value} {h1 : qH} {z8 : Int32} {n10 : Nat} {f11 : Nat → Int32} {fs15 : List Value} {h2 : qH} {z17 : Int32}  (e3 : h.2.2 r0 = some (.inl (8, n1, .inl f2))) (e4 : 0 ≤ ((x3 + 1) : Int32).toInt ∧ ((x3 + 1) : Int32).toInt < (n1 : Nat)) (e5 : 0 ≤ ((x3 + 2) : Int32).toInt ∧ ((x3 + 2) : Int32).toInt < (n1 : Nat)) (e7 : h.2.2 r1 = some (.inr (11, fs6))) (e9 : qCall d 39 [.ref r1, .int (f2 ((x3 + 1) : Int32).toNatClampNeg), .int (f2 ((x3 + 2) : Int32).toNatClampNeg)] h ((some (.int z8)), h1)) (e12 : h1.2.2 r0 = some (.inl (8, n10, .inl f11))) (e13 : 0 ≤ ((x3 + 1) : Int32).toInt ∧ ((x3 + 1) : Int32).toInt < (n10 : Nat)) (e14 : 0 ≤ ((x3 + 2) : Int32).toInt ∧ ((x3 + 2) : Int32).toInt < (n10 : Nat)) (e16 : h1.2.2 r2 = some (.inr (12, fs15))) (e18 : qCall d 97 [.ref r2, .int (f11 ((x3 + 1) : Int32).toNatClampNeg), .int (f11 ((x3 + 2) : Int32).toNatClampNeg)] h1 ((some (.int z17)), h2)) (e19 : (z8 : Int32) = z17) (kk : qE d 0 1463 [some (.ref r0), some (.ref r1), some (.ref r2), some (.int x3)] [] h2 q): qE d 0 1341 [some (.ref r0), some (.ref r1), some (.ref r2), some (.int x3)] [] h q := by
  refine qe_aload_n c0_1341 rfl ?_
  refine qe_aload_n c0_1342 rfl ?_
  refine qe_iload_n c0_1343 rfl ?_
  refine qe_iconst (x := 1) c0_1344 (by decide) ?_
  refine qe_iadd c0_1345 ?_
  refine qe_script c0_1346 e3 e4 ?_
  refine qe_aload_n c0_1347 rfl ?_
  refine qe_iload_n c0_1348 rfl ?_
  refine qe_iconst (x := 2) c0_1349 (by decide) ?_
  refine qe_iadd c0_1350 ?_
  refine qe_script c0_1351 e3 e5 ?_
  refine qe_virtual (b := r1) (as := [.int (f2 ((x3 + 1) : Int32).toNatClampNeg), .int (f2 ((x3 + 2) : Int32).toNatClampNeg)]) (r := []) (v := (some (.int z8))) (h2 := h1) c0_1352 qo0 qK13_153 rfl rfl rfl (by rw [qo39]; exact e7) (Nat.le_of_ble_eq_true rfl) e9 ?_
  refine qe_aload_n c0_1355 rfl ?_
  refine qe_aload_n c0_1356 rfl ?_
  refine qe_iload_n c0_1357 rfl ?_
  refine qe_iconst (x := 1) c0_1358 (by decide) ?_
  refine qe_iadd c0_1359 ?_
  refine qe_script c0_1360 e12 e13 ?_
  refine qe_aload_n c0_1361 rfl ?_
  refine qe_iload_n c0_1362 rfl ?_
  refine qe_iconst (x := 2) c0_1363 (by decide) ?_
  refine qe_iadd c0_1364 ?_
  refine qe_script c0_1365 e12 e14 ?_
  refine qe_virtual (b := r2) (as := [.int (f11 ((x3 + 1) : Int32).toNatClampNeg), .int (f11 ((x3 + 2) : Int32).toNatClampNeg)]) (r := [.int z8]) (v := (some (.int z17))) (h2 := h2) c0_1366 qo0 qK13_156 rfl rfl rfl (by rw [qo97]; exact e16) (Nat.le_of_ble_eq_true rfl) e18 ?_
  refine qe_icmp_eq_T (t := 1463) c0_1369 rfl e19 ?_
  exact kk
theorem b0_1372 {d : Nat} {h : qH} {r0 : Nat} {r1 : Nat} {r2 : Nat} {x3 : Int32}   : qE d 0 1372 [some (.ref r0), some (.ref r1), some (.ref r2), some (.int x3)] [] h (some (.int 0), h) := by
  refine qe_iconst (x := 0) c0_1372 (by decide) ?_
  exact qe_zret c0_1373 qr0 (by decide)
theorem b0_1374F {d : Nat} {q : Option Value × qH} {h : qH} {r0 : Nat} {r1 : Nat} {r2 : Nat} {x3 : Int32} {n1 : Nat} {f2 : Nat → Int32} {fs7 : List Value} {h1 : qH} {z9 : Int32} {n11 : Nat} {f12 : Nat → Int32} {fs17 : List Value} {h2 : qH} {z19 : Int32}  (e3 : h.2.2 r0 = some (.inl (8, n1, .inl f2))) (e4 : 0 ≤ ((x3 + 1) : Int32).toInt ∧ ((x3 + 1) : Int32).toInt < (n1 : Nat)) (e5 : 0 ≤ ((x3 + 2) : Int32).toInt ∧ ((x3 + 2) : Int32).toInt < (n1 : Nat)) (e6 : 0 ≤ ((x3 + 3) : Int32).toInt ∧ ((x3 + 3) : Int32).toInt < (n1 : Nat)) (e8 : h.2.2 r1 = some (.inr (11, fs7))) (e10 : qCall d 43 [.ref r1, .int (f2 ((x3 + 1) : Int32).toNatClampNeg), .int (f2 ((x3 + 2) : Int32).toNatClampNeg), .int (f2 ((x3 + 3) : Int32).toNatClampNeg)] h ((some (.int z9)), h1)) (e13 : h1.2.2 r0 = some (.inl (8, n11, .inl f12))) (e14 : 0 ≤ ((x3 + 1) : Int32).toInt ∧ ((x3 + 1) : Int32).toInt < (n11 : Nat)) (e15 : 0 ≤ ((x3 + 2) : Int32).toInt ∧ ((x3 + 2) : Int32).toInt < (n11 : Nat)) (e16 : 0 ≤ ((x3 + 3) : Int32).toInt ∧ ((x3 + 3) : Int32).toInt < (n11 : Nat)) (e18 : h1.2.2 r2 = some (.inr (12, fs17))) (e20 : qCall d 99 [.ref r2, .int (f12 ((x3 + 1) : Int32).toNatClampNeg), .int (f12 ((x3 + 2) : Int32).toNatClampNeg), .int (f12 ((x3 + 3) : Int32).toNatClampNeg)] h1 ((some (.int z19)), h2)) (e21 : ¬ ((z9 : Int32) = z19)) (kk : qE d 0 1415 [some (.ref r0), some (.ref r1), some (.ref r2), some (.int x3)] [] h2 q): qE d 0 1374 [some (.ref r0), some (.ref r1), some (.ref r2), some (.int x3)] [] h q := by
  refine qe_aload_n c0_1374 rfl ?_
  refine qe_aload_n c0_1375 rfl ?_
  refine qe_iload_n c0_1376 rfl ?_
  refine qe_iconst (x := 1) c0_1377 (by decide) ?_
  refine qe_iadd c0_1378 ?_
  refine qe_script c0_1379 e3 e4 ?_
  refine qe_aload_n c0_1380 rfl ?_
  refine qe_iload_n c0_1381 rfl ?_
  refine qe_iconst (x := 2) c0_1382 (by decide) ?_
  refine qe_iadd c0_1383 ?_
  refine qe_script c0_1384 e3 e5 ?_
  refine qe_aload_n c0_1385 rfl ?_
  refine qe_iload_n c0_1386 rfl ?_
  refine qe_iconst (x := 3) c0_1387 (by decide) ?_
  refine qe_iadd c0_1388 ?_
  refine qe_script c0_1389 e3 e6 ?_
  refine qe_virtual (b := r1) (as := [.int (f2 ((x3 + 1) : Int32).toNatClampNeg), .int (f2 ((x3 + 2) : Int32).toNatClampNeg), .int (f2 ((x3 + 3) : Int32).toNatClampNeg)]) (r := []) (v := (some (.int z9))) (h2 := h1) c0_1390 qo0 qK13_157 rfl rfl rfl (by rw [qo43]; exact e8) (Nat.le_of_ble_eq_true rfl) e10 ?_
  refine qe_aload_n c0_1393 rfl ?_
  refine qe_aload_n c0_1394 rfl ?_
  refine qe_iload_n c0_1395 rfl ?_
  refine qe_iconst (x := 1) c0_1396 (by decide) ?_
  refine qe_iadd c0_1397 ?_
  refine qe_script c0_1398 e13 e14 ?_
  refine qe_aload_n c0_1399 rfl ?_
  refine qe_iload_n c0_1400 rfl ?_
  refine qe_iconst (x := 2) c0_1401 (by decide) ?_
  refine qe_iadd c0_1402 ?_
  refine qe_script c0_1403 e13 e15 ?_
  refine qe_aload_n c0_1404 rfl ?_
  refine qe_iload_n c0_1405 rfl ?_
  refine qe_iconst (x := 3) c0_1406 (by decide) ?_
  refine qe_iadd c0_1407 ?_
  refine qe_script c0_1408 e13 e16 ?_
  refine qe_virtual (b := r2) (as := [.int (f12 ((x3 + 1) : Int32).toNatClampNeg), .int (f12 ((x3 + 2) : Int32).toNatClampNeg), .int (f12 ((x3 + 3) : Int32).toNatClampNeg)]) (r := [.int z9]) (v := (some (.int z19))) (h2 := h2) c0_1409 qo0 qK13_160 rfl rfl rfl (by rw [qo99]; exact e18) (Nat.le_of_ble_eq_true rfl) e20 ?_
  refine qe_icmp_eq_F (t := 1463) c0_1412 rfl e21 ?_
  exact kk
theorem b0_1374T {d : Nat} {q : Option Value × qH} {h : qH} {r0 : Nat} {r1 : Nat} {r2 : Nat} {x3 : Int32} {n1 : Nat} {f2 : Nat → Int32} {fs7 : List Value} {h1 : qH} {z9 : Int32} {n11 : Nat} {f12 : Nat → Int32} {fs17 : List Value} {h2 : qH} {z19 : Int32}  (e3 : h.2.2 r0 = some (.inl (8, n1, .inl f2))) (e4 : 0 ≤ ((x3 + 1) : Int32).toInt ∧ ((x3 + 1) : Int32).toInt < (n1 : Nat)) (e5 : 0 ≤ ((x3 + 2) : Int32).toInt ∧ ((x3 + 2) : Int32).toInt < (n1 : Nat)) (e6 : 0 ≤ ((x3 + 3) : Int32).toInt ∧ ((x3 + 3) : Int32).toInt < (n1 : Nat)) (e8 : h.2.2 r1 = some (.inr (11, fs7))) (e10 : qCall d 43 [.ref r1, .int (f2 ((x3 + 1) : Int32).toNatClampNeg), .int (f2 ((x3 + 2) : Int32).toNatClampNeg), .int (f2 ((x3 + 3) : Int32).toNatClampNeg)] h ((some (.int z9)), h1)) (e13 : h1.2.2 r0 = some (.inl (8, n11, .inl f12))) (e14 : 0 ≤ ((x3 + 1) : Int32).toInt ∧ ((x3 + 1) : Int32).toInt < (n11 : Nat)) (e15 : 0 ≤ ((x3 + 2) : Int32).toInt ∧ ((x3 + 2) : Int32).toInt < (n11 : Nat)) (e16 : 0 ≤ ((x3 + 3) : Int32).toInt ∧ ((x3 + 3) : Int32).toInt < (n11 : Nat)) (e18 : h1.2.2 r2 = some (.inr (12, fs17))) (e20 : qCall d 99 [.ref r2, .int (f12 ((x3 + 1) : Int32).toNatClampNeg), .int (f12 ((x3 + 2) : Int32).toNatClampNeg), .int (f12 ((x3 + 3) : Int32).toNatClampNeg)] h1 ((some (.int z19)), h2)) (e21 : (z9 : Int32) = z19) (kk : qE d 0 1463 [some (.ref r0), some (.ref r1), some (.ref r2), some (.int x3)] [] h2 q): qE d 0 1374 [some (.ref r0), some (.ref r1), some (.ref r2), some (.int x3)] [] h q := by
  refine qe_aload_n c0_1374 rfl ?_
  refine qe_aload_n c0_1375 rfl ?_
  refine qe_iload_n c0_1376 rfl ?_
  refine qe_iconst (x := 1) c0_1377 (by decide) ?_
  refine qe_iadd c0_1378 ?_
  refine qe_script c0_1379 e3 e4 ?_
  refine qe_aload_n c0_1380 rfl ?_
  refine qe_iload_n c0_1381 rfl ?_
  refine qe_iconst (x := 2) c0_1382 (by decide) ?_
  refine qe_iadd c0_1383 ?_
  refine qe_script c0_1384 e3 e5 ?_
  refine qe_aload_n c0_1385 rfl ?_
  refine qe_iload_n c0_1386 rfl ?_
  refine qe_iconst (x := 3) c0_1387 (by decide) ?_
  refine qe_iadd c0_1388 ?_
  refine qe_script c0_1389 e3 e6 ?_
  refine qe_virtual (b := r1) (as := [.int (f2 ((x3 + 1) : Int32).toNatClampNeg), .int (f2 ((x3 + 2) : Int32).toNatClampNeg), .int (f2 ((x3 + 3) : Int32).toNatClampNeg)]) (r := []) (v := (some (.int z9))) (h2 := h1) c0_1390 qo0 qK13_157 rfl rfl rfl (by rw [qo43]; exact e8) (Nat.le_of_ble_eq_true rfl) e10 ?_
  refine qe_aload_n c0_1393 rfl ?_
  refine qe_aload_n c0_1394 rfl ?_
  refine qe_iload_n c0_1395 rfl ?_
  refine qe_iconst (x := 1) c0_1396 (by decide) ?_
  refine qe_iadd c0_1397 ?_
  refine qe_script c0_1398 e13 e14 ?_
  refine qe_aload_n c0_1399 rfl ?_
  refine qe_iload_n c0_1400 rfl ?_
  refine qe_iconst (x := 2) c0_1401 (by decide) ?_
  refine qe_iadd c0_1402 ?_
  refine qe_script c0_1403 e13 e15 ?_
  refine qe_aload_n c0_1404 rfl ?_
  refine qe_iload_n c0_1405 rfl ?_
  refine qe_iconst (x := 3) c0_1406 (by decide) ?_
  refine qe_iadd c0_1407 ?_
  refine qe_script c0_1408 e13 e16 ?_
  refine qe_virtual (b := r2) (as := [.int (f12 ((x3 + 1) : Int32).toNatClampNeg), .int (f12 ((x3 + 2) : Int32).toNatClampNeg), .int (f12 ((x3 + 3) : Int32).toNatClampNeg)]) (r := [.int z9]) (v := (some (.int z19))) (h2 := h2) c0_1409 qo0 qK13_160 rfl rfl rfl (by rw [qo99]; exact e18) (Nat.le_of_ble_eq_true rfl) e20 ?_
  refine qe_icmp_eq_T (t := 1463) c0_1412 rfl e21 ?_
  exact kk
theorem b0_1415 {d : Nat} {h : qH} {r0 : Nat} {r1 : Nat} {r2 : Nat} {x3 : Int32}   : qE d 0 1415 [some (.ref r0), some (.ref r1), some (.ref r2), some (.int x3)] [] h (some (.int 0), h) := by
  refine qe_iconst (x := 0) c0_1415 (by decide) ?_
  exact qe_zret c0_1416 qr0 (by decide)
theorem b0_1417F {d : Nat} {q : Option Value × qH} {h : qH} {r0 : Nat} {r1 : Nat} {r2 : Nat} {x3 : Int32} {n1 : Nat} {f2 : Nat → Int32} {fs5 : List Value} {h1 : qH} {z7 : Int32} {n9 : Nat} {f10 : Nat → Int32} {fs13 : List Value} {h2 : qH} {z15 : Int32}  (e3 : h.2.2 r0 = some (.inl (8, n1, .inl f2))) (e4 : 0 ≤ ((x3 + 1) : Int32).toInt ∧ ((x3 + 1) : Int32).toInt < (n1 : Nat)) (e6 : h.2.2 r1 = some (.inr (11, fs5))) (e8 : qCall d 35 [.ref r1, .int (f2 ((x3 + 1) : Int32).toNatClampNeg)] h ((some (.int z7)), h1)) (e11 : h1.2.2 r0 = some (.inl (8, n9, .inl f10))) (e12 : 0 ≤ ((x3 + 1) : Int32).toInt ∧ ((x3 + 1) : Int32).toInt < (n9 : Nat)) (e14 : h1.2.2 r2 = some (.inr (12, fs13))) (e16 : qCall d 90 [.ref r2, .int (f10 ((x3 + 1) : Int32).toNatClampNeg)] h1 ((some (.int z15)), h2)) (e17 : ¬ ((z7 : Int32) = z15)) (kk : qE d 0 1438 [some (.ref r0), some (.ref r1), some (.ref r2), some (.int x3)] [] h2 q): qE d 0 1417 [some (.ref r0), some (.ref r1), some (.ref r2), some (.int x3)] [] h q := by
  refine qe_aload_n c0_1417 rfl ?_
  refine qe_aload_n c0_1418 rfl ?_
  refine qe_iload_n c0_1419 rfl ?_
  refine qe_iconst (x := 1) c0_1420 (by decide) ?_
  refine qe_iadd c0_1421 ?_
  refine qe_script c0_1422 e3 e4 ?_
  refine qe_virtual (b := r1) (as := [.int (f2 ((x3 + 1) : Int32).toNatClampNeg)]) (r := []) (v := (some (.int z7))) (h2 := h1) c0_1423 qo0 qK13_161 rfl rfl rfl (by rw [qo35]; exact e6) (Nat.le_of_ble_eq_true rfl) e8 ?_
  refine qe_aload_n c0_1426 rfl ?_
  refine qe_aload_n c0_1427 rfl ?_
  refine qe_iload_n c0_1428 rfl ?_
  refine qe_iconst (x := 1) c0_1429 (by decide) ?_
  refine qe_iadd c0_1430 ?_
  refine qe_script c0_1431 e11 e12 ?_
  refine qe_virtual (b := r2) (as := [.int (f10 ((x3 + 1) : Int32).toNatClampNeg)]) (r := [.int z7]) (v := (some (.int z15))) (h2 := h2) c0_1432 qo0 qK13_164 rfl rfl rfl (by rw [qo90]; exact e14) (Nat.le_of_ble_eq_true rfl) e16 ?_
  refine qe_icmp_eq_F (t := 1463) c0_1435 rfl e17 ?_
  exact kk
theorem b0_1417T {d : Nat} {q : Option Value × qH} {h : qH} {r0 : Nat} {r1 : Nat} {r2 : Nat} {x3 : Int32} {n1 : Nat} {f2 : Nat → Int32} {fs5 : List Value} {h1 : qH} {z7 : Int32} {n9 : Nat} {f10 : Nat → Int32} {fs13 : List Value} {h2 : qH} {z15 : Int32}  (e3 : h.2.2 r0 = some (.inl (8, n1, .inl f2))) (e4 : 0 ≤ ((x3 + 1) : Int32).toInt ∧ ((x3 + 1) : Int32).toInt < (n1 : Nat)) (e6 : h.2.2 r1 = some (.inr (11, fs5))) (e8 : qCall d 35 [.ref r1, .int (f2 ((x3 + 1) : Int32).toNatClampNeg)] h ((some (.int z7)), h1)) (e11 : h1.2.2 r0 = some (.inl (8, n9, .inl f10))) (e12 : 0 ≤ ((x3 + 1) : Int32).toInt ∧ ((x3 + 1) : Int32).toInt < (n9 : Nat)) (e14 : h1.2.2 r2 = some (.inr (12, fs13))) (e16 : qCall d 90 [.ref r2, .int (f10 ((x3 + 1) : Int32).toNatClampNeg)] h1 ((some (.int z15)), h2)) (e17 : (z7 : Int32) = z15) (kk : qE d 0 1463 [some (.ref r0), some (.ref r1), some (.ref r2), some (.int x3)] [] h2 q): qE d 0 1417 [some (.ref r0), some (.ref r1), some (.ref r2), some (.int x3)] [] h q := by
  refine qe_aload_n c0_1417 rfl ?_
  refine qe_aload_n c0_1418 rfl ?_
  refine qe_iload_n c0_1419 rfl ?_
  refine qe_iconst (x := 1) c0_1420 (by decide) ?_
  refine qe_iadd c0_1421 ?_
  refine qe_script c0_1422 e3 e4 ?_
  refine qe_virtual (b := r1) (as := [.int (f2 ((x3 + 1) : Int32).toNatClampNeg)]) (r := []) (v := (some (.int z7))) (h2 := h1) c0_1423 qo0 qK13_161 rfl rfl rfl (by rw [qo35]; exact e6) (Nat.le_of_ble_eq_true rfl) e8 ?_
  refine qe_aload_n c0_1426 rfl ?_
  refine qe_aload_n c0_1427 rfl ?_
  refine qe_iload_n c0_1428 rfl ?_
  refine qe_iconst (x := 1) c0_1429 (by decide) ?_
  refine qe_iadd c0_1430 ?_
  refine qe_script c0_1431 e11 e12 ?_
  refine qe_virtual (b := r2) (as := [.int (f10 ((x3 + 1) : Int32).toNatClampNeg)]) (r := [.int z7]) (v := (some (.int z15))) (h2 := h2) c0_1432 qo0 qK13_164 rfl rfl rfl (by rw [qo90]; exact e14) (Nat.le_of_ble_eq_true rfl) e16 ?_
  refine qe_icmp_eq_T (t := 1463) c0_1435 rfl e17 ?_
  exact kk
theorem b0_1438 {d : Nat} {h : qH} {r0 : Nat} {r1 : Nat} {r2 : Nat} {x3 : Int32}   : qE d 0 1438 [some (.ref r0), some (.ref r1), some (.ref r2), some (.int x3)] [] h (some (.int 0), h) := by
  refine qe_iconst (x := 0) c0_1438 (by decide) ?_
  exact qe_zret c0_1439 qr0 (by decide)
theorem b0_1440F {d : Nat} {q : Option Value × qH} {h : qH} {r0 : Nat} {r1 : Nat} {r2 : Nat} {x3 : Int32} {n1 : Nat} {f2 : Nat → Int32} {fs5 : List Value} {h1 : qH} {z7 : Int32} {n9 : Nat} {f10 : Nat → Int32} {fs13 : List Value} {h2 : qH} {z15 : Int32}  (e3 : h.2.2 r0 = some (.inl (8, n1, .inl f2))) (e4 : 0 ≤ ((x3 + 1) : Int32).toInt ∧ ((x3 + 1) : Int32).toInt < (n1 : Nat)) (e6 : h.2.2 r1 = some (.inr (11, fs5))) (e8 : qCall d 42 [.ref r1, .int (f2 ((x3 + 1) : Int32).toNatClampNeg)] h ((some (.int z7)), h1)) (e11 : h1.2.2 r0 = some (.inl (8, n9, .inl f10))) (e12 : 0 ≤ ((x3 + 1) : Int32).toInt ∧ ((x3 + 1) : Int32).toInt < (n9 : Nat)) (e14 : h1.2.2 r2 = some (.inr (12, fs13))) (e16 : qCall d 98 [.ref r2, .int (f10 ((x3 + 1) : Int32).toNatClampNeg)] h1 ((some (.int z15)), h2)) (e17 : ¬ ((z7 : Int32) = z15)) (kk : qE d 0 1461 [some (.ref r0), some (.ref r1), some (.ref r2), some (.int x3)] [] h2 q): qE d 0 1440 [some (.ref r0), some (.ref r1), some (.ref r2), some (.int x3)] [] h q := by
  refine qe_aload_n c0_1440 rfl ?_
  refine qe_aload_n c0_1441 rfl ?_
  refine qe_iload_n c0_1442 rfl ?_
  refine qe_iconst (x := 1) c0_1443 (by decide) ?_
  refine qe_iadd c0_1444 ?_
  refine qe_script c0_1445 e3 e4 ?_
  refine qe_virtual (b := r1) (as := [.int (f2 ((x3 + 1) : Int32).toNatClampNeg)]) (r := []) (v := (some (.int z7))) (h2 := h1) c0_1446 qo0 qK13_165 rfl rfl rfl (by rw [qo42]; exact e6) (Nat.le_of_ble_eq_true rfl) e8 ?_
  refine qe_aload_n c0_1449 rfl ?_
  refine qe_aload_n c0_1450 rfl ?_
  refine qe_iload_n c0_1451 rfl ?_
  refine qe_iconst (x := 1) c0_1452 (by decide) ?_
  refine qe_iadd c0_1453 ?_
  refine qe_script c0_1454 e11 e12 ?_
  refine qe_virtual (b := r2) (as := [.int (f10 ((x3 + 1) : Int32).toNatClampNeg)]) (r := [.int z7]) (v := (some (.int z15))) (h2 := h2) c0_1455 qo0 qK13_168 rfl rfl rfl (by rw [qo98]; exact e14) (Nat.le_of_ble_eq_true rfl) e16 ?_
  refine qe_icmp_eq_F (t := 1463) c0_1458 rfl e17 ?_
  exact kk
theorem b0_1440T {d : Nat} {q : Option Value × qH} {h : qH} {r0 : Nat} {r1 : Nat} {r2 : Nat} {x3 : Int32} {n1 : Nat} {f2 : Nat → Int32} {fs5 : List Value} {h1 : qH} {z7 : Int32} {n9 : Nat} {f10 : Nat → Int32} {fs13 : List Value} {h2 : qH} {z15 : Int32}  (e3 : h.2.2 r0 = some (.inl (8, n1, .inl f2))) (e4 : 0 ≤ ((x3 + 1) : Int32).toInt ∧ ((x3 + 1) : Int32).toInt < (n1 : Nat)) (e6 : h.2.2 r1 = some (.inr (11, fs5))) (e8 : qCall d 42 [.ref r1, .int (f2 ((x3 + 1) : Int32).toNatClampNeg)] h ((some (.int z7)), h1)) (e11 : h1.2.2 r0 = some (.inl (8, n9, .inl f10))) (e12 : 0 ≤ ((x3 + 1) : Int32).toInt ∧ ((x3 + 1) : Int32).toInt < (n9 : Nat)) (e14 : h1.2.2 r2 = some (.inr (12, fs13))) (e16 : qCall d 98 [.ref r2, .int (f10 ((x3 + 1) : Int32).toNatClampNeg)] h1 ((some (.int z15)), h2)) (e17 : (z7 : Int32) = z15) (kk : qE d 0 1463 [some (.ref r0), some (.ref r1), some (.ref r2), some (.int x3)] [] h2 q): qE d 0 1440 [some (.ref r0), some (.ref r1), some (.ref r2), some (.int x3)] [] h q := by
  refine qe_aload_n c0_1440 rfl ?_
  refine qe_aload_n c0_1441 rfl ?_
  refine qe_iload_n c0_1442 rfl ?_
  refine qe_iconst (x := 1) c0_1443 (by decide) ?_
  refine qe_iadd c0_1444 ?_
  refine qe_script c0_1445 e3 e4 ?_
  refine qe_virtual (b := r1) (as := [.int (f2 ((x3 + 1) : Int32).toNatClampNeg)]) (r := []) (v := (some (.int z7))) (h2 := h1) c0_1446 qo0 qK13_165 rfl rfl rfl (by rw [qo42]; exact e6) (Nat.le_of_ble_eq_true rfl) e8 ?_
  refine qe_aload_n c0_1449 rfl ?_
  refine qe_aload_n c0_1450 rfl ?_
  refine qe_iload_n c0_1451 rfl ?_
  refine qe_iconst (x := 1) c0_1452 (by decide) ?_
  refine qe_iadd c0_1453 ?_
  refine qe_script c0_1454 e11 e12 ?_
  refine qe_virtual (b := r2) (as := [.int (f10 ((x3 + 1) : Int32).toNatClampNeg)]) (r := [.int z7]) (v := (some (.int z15))) (h2 := h2) c0_1455 qo0 qK13_168 rfl rfl rfl (by rw [qo98]; exact e14) (Nat.le_of_ble_eq_true rfl) e16 ?_
  refine qe_icmp_eq_T (t := 1463) c0_1458 rfl e17 ?_
  exact kk
theorem b0_1461 {d : Nat} {h : qH} {r0 : Nat} {r1 : Nat} {r2 : Nat} {x3 : Int32}   : qE d 0 1461 [some (.ref r0), some (.ref r1), some (.ref r2), some (.int x3)] [] h (some (.int 0), h) := by
  refine qe_iconst (x := 0) c0_1461 (by decide) ?_
  exact qe_zret c0_1462 qr0 (by decide)
theorem b0_1463 {d : Nat} {q : Option Value × qH} {h : qH} {r0 : Nat} {r1 : Nat} {r2 : Nat} {x3 : Int32}   (kk : qE d 0 18 [some (.ref r0), some (.ref r1), some (.ref r2), some (.int (x3 + 6))] [] h q): qE d 0 1463 [some (.ref r0), some (.ref r1), some (.ref r2), some (.int x3)] [] h q := by
  refine qe_iinc (y := (x3 + 6)) (ls2 := [some (.ref r0), some (.ref r1), some (.ref r2), some (.int (x3 + 6))]) c0_1463 rfl (Nat.le_of_ble_eq_true rfl) rfl rfl ?_
  refine qe_goto (t := 18) c0_1466 rfl ?_
  exact kk
theorem b0_1469 {d : Nat} {h : qH} {r0 : Nat} {r1 : Nat} {r2 : Nat} {x3 : Int32}   : qE d 0 1469 [some (.ref r0), some (.ref r1), some (.ref r2), some (.int x3)] [] h (some (.int 1), h) := by
  refine qe_iconst (x := 1) c0_1469 (by decide) ?_
  exact qe_zret c0_1470 qr0 (by decide)
