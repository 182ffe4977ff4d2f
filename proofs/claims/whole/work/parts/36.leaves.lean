/-! The smallest methods: what each answers. -/
theorem qcall_of {d k : Nat} {as : List Value} {l : qL} {h : qH} {q : Option Value × qH} (he : qent k as = some l) (kk : qE d k 0 l [] h q) : qCall (d + 1) k as h q := ⟨d, l, rfl, he, kk⟩
theorem qent_mk {k n : Nat} {as : List Value} {l : qL} (hx : qmx k = n) (h22 : Nat.ble n 22 = true) (hl : Nat.ble (as.flatMap fun v => if v.category = 2 then [some v, (none : Option Value)] else [some v]).length n = true)
    (e : (as.flatMap fun v => if v.category = 2 then [some v, (none : Option Value)] else [some v]) ++ List.replicate (n - (as.flatMap fun v => if v.category = 2 then [some v, (none : Option Value)] else [some v]).length) none = l) : qent k as = some l := by
  unfold qent
  rw [hx]
  dsimp only
  rw [if_pos ⟨Nat.le_of_ble_eq_true hl, Nat.le_of_ble_eq_true h22⟩, e]
theorem i32_lt {a b : Int32} : a < b ↔ a.toInt < b.toInt := Int32.lt_iff_toInt_lt
theorem i32_le {a b : Int32} : a ≤ b ↔ a.toInt ≤ b.toInt := Int32.le_iff_toInt_le
theorem i64_lt {a b : Int64} : a < b ↔ a.toInt < b.toInt := Int64.lt_iff_toInt_lt
theorem i32_eq {a b : Int32} : a = b ↔ a.toInt = b.toInt := Int32.toInt_inj.symm
theorem i32_rng (a : Int32) : -2147483648 ≤ a.toInt ∧ a.toInt < 2147483648 := ⟨Int32.le_toInt a, Int32.toInt_lt a⟩
theorem i3264 (a : Int32) : a.toInt64.toInt = a.toInt := Int32.toInt_toInt64 a
theorem i32_sub1 {y : Int32} (h0 : 0 ≤ y.toInt) : (y - 1).toInt = y.toInt - 1 := by
  have := i32_rng y
  rw [Int32.toInt_sub, show Int32.toInt 1 = 1 from by decide]
  exact Int.bmod_eq_of_le (by omega) (by omega)
theorem i32_n0 : Int32.toInt 0 = 0 := by decide
theorem i32_n3 : Int32.toInt 3 = 3 := by decide
theorem i64_n0 : Int64.toInt 0 = 0 := by decide
theorem i64_n1 : Int64.toInt 1 = 1 := by decide
theorem i64_n3 : Int64.toInt 3 = 3 := by decide
theorem i64_n30 : Int64.toInt 30 = 30 := by decide
section LV1
variable {d : Nat} {h : qH}
/-- within(a, lo, hi) -/
theorem m80 {a lo hi : Int32} : qCall (d + 1) 80 [.int a, .int lo, .int hi] h (some (.int (if lo.toInt ≤ a.toInt ∧ a.toInt ≤ hi.toInt then 1 else 0)), h) := by
  refine qcall_of (qent_mk qx80 rfl rfl rfl) ?_
  by_cases h1 : a < lo
  · rw [if_neg (by rw [i32_lt] at h1; omega)]
    exact b80_0T h1 (b80_14 (b80_15 (Or.inl rfl)))
  · by_cases h2 : hi < a
    · rw [if_neg (by rw [i32_lt] at h2; omega)]
      exact b80_0F h1 (b80_5T h2 (b80_14 (b80_15 (Or.inl rfl))))
    · rw [if_pos (by rw [i32_lt] at h1 h2; omega)]
      exact b80_0F h1 (b80_5F h2 (b80_10 (b80_15 (Or.inr rfl))))
/-- lies(v, low, high) -/
theorem m143 {v lo hi : Int64} : qCall (d + 1) 143 [.long v, .long lo, .long hi] h (some (.int (if lo.toInt ≤ v.toInt ∧ v.toInt ≤ hi.toInt then 1 else 0)), h) := by
  refine qcall_of (qent_mk qx143 rfl rfl rfl) ?_
  by_cases h1 : v < lo
  · rw [if_neg (by rw [i64_lt] at h1; omega)]
    exact b143_0T ((lg_cmp_lt v lo).mpr h1) (b143_17 (b143_18 (Or.inl rfl)))
  · by_cases h2 : hi < v
    · rw [if_neg (by rw [i64_lt] at h2; omega)]
      exact b143_0F (fun q => h1 ((lg_cmp_lt v lo).mp q)) (b143_6T ((lg_cmp_gt v hi).mpr h2) (b143_17 (b143_18 (Or.inl rfl))))
    · rw [if_pos (by rw [i64_lt] at h1 h2; omega)]
      exact b143_0F (fun q => h1 ((lg_cmp_lt v lo).mp q)) (b143_6F (fun q => h2 ((lg_cmp_gt v hi).mp q)) (b143_13 (b143_18 (Or.inr rfl))))
theorem qif01 {p : Prop} (hp : Decidable p) : (@ite Int32 p hp 1 0) = 0 ∨ (@ite Int32 p hp 1 0) = 1 := by
  by_cases hq : p
  · rw [if_pos hq]
    exact Or.inr rfl
  · rw [if_neg hq]
    exact Or.inl rfl
/-- the class's isLand(k) -/
theorem m56 {a : Int32} : qCall (d + 2) 56 [.int a] h (some (.int (if 0 ≤ a.toInt ∧ a.toInt ≤ 3 then 1 else 0)), h) :=
  qcall_of (d := d + 1) (qent_mk qx56 rfl rfl rfl) (b56_0 (m80 (lo := 0) (hi := 3)) (qif01 _))
/-- the reference's isLand(k) -/
theorem m126 {a : Int32} : qCall (d + 2) 126 [.int a] h (some (.int (if 0 ≤ a.toInt ∧ a.toInt ≤ 3 then 1 else 0)), h) := by
  have e := m143 (d := d) (h := h) (v := a.toInt64) (lo := 0) (hi := 3)
  rw [i3264, i64_n0, i64_n3] at e
  exact qcall_of (qent_mk qx126 rfl rfl rfl) (b126_0 e (qif01 _))
/-- isLong(n) -/
theorem m127 {a : Int32} : qCall (d + 2) 127 [.int a] h (some (.int (if 1 ≤ a.toInt ∧ a.toInt ≤ 30 then 1 else 0)), h) := by
  have e := m143 (d := d) (h := h) (v := a.toInt64) (lo := 1) (hi := 30)
  rw [i3264, i64_n1, i64_n30] at e
  exact qcall_of (qent_mk qx127 rfl rfl rfl) (b127_0 e (qif01 _))
/-- has(set, k) -/
theorem m118 {x k : Int32} : qCall (d + 1) 118 [.int x, .int k] h (some (.int (if ((x >>> (k &&& 31)) &&& 1) = 1 then 1 else 0)), h) := by
  refine qcall_of (qent_mk qx118 rfl rfl rfl) ?_
  by_cases h1 : ((x >>> (k &&& 31)) &&& 1) = 1
  · rw [if_pos h1]
    exact b118_0F h1 (b118_9 (b118_14 (Or.inr rfl)))
  · rw [if_neg h1]
    exact b118_0T h1 (b118_13 (b118_14 (Or.inl rfl)))
/-- the class's hasSpot(s), hasWire(w), hasWorks(k) -/
theorem m214 {r : Nat} {fs : List Value} {x n : Int32} (e1 : h.2.2 r = some (.inr (4, fs))) (e2 : fs[0]? = some (.int n)) : qCall (d + 1) 214 [.ref r, .int x] h (some (.int (if 0 ≤ x.toInt ∧ x.toInt < n.toInt then 1 else 0)), h) := by
  refine qcall_of (qent_mk qx214 rfl rfl rfl) ?_
  by_cases h1 : x < 0
  · rw [if_neg (by rw [i32_lt, i32_n0] at h1; omega)]
    exact b214_0T h1 (b214_16 (b214_17 (Or.inl rfl)))
  · by_cases h2 : n ≤ x
    · rw [if_neg (by rw [i32_le] at h2; omega)]
      exact b214_0F h1 (b214_4T e1 e2 h2 (b214_16 (b214_17 (Or.inl rfl))))
    · rw [if_pos (by rw [i32_lt, i32_n0] at h1; rw [i32_le] at h2; omega)]
      exact b214_0F h1 (b214_4F e1 e2 h2 (b214_12 (b214_17 (Or.inr rfl))))
theorem m215 {r : Nat} {fs : List Value} {x n : Int32} (e1 : h.2.2 r = some (.inr (4, fs))) (e2 : fs[1]? = some (.int n)) : qCall (d + 1) 215 [.ref r, .int x] h (some (.int (if 0 ≤ x.toInt ∧ x.toInt < n.toInt then 1 else 0)), h) := by
  refine qcall_of (qent_mk qx215 rfl rfl rfl) ?_
  by_cases h1 : x < 0
  · rw [if_neg (by rw [i32_lt, i32_n0] at h1; omega)]
    exact b215_0T h1 (b215_16 (b215_17 (Or.inl rfl)))
  · by_cases h2 : n ≤ x
    · rw [if_neg (by rw [i32_le] at h2; omega)]
      exact b215_0F h1 (b215_4T e1 e2 h2 (b215_16 (b215_17 (Or.inl rfl))))
    · rw [if_pos (by rw [i32_lt, i32_n0] at h1; rw [i32_le] at h2; omega)]
      exact b215_0F h1 (b215_4F e1 e2 h2 (b215_12 (b215_17 (Or.inr rfl))))
theorem m216 {r : Nat} {fs : List Value} {x n : Int32} (e1 : h.2.2 r = some (.inr (4, fs))) (e2 : fs[2]? = some (.int n)) : qCall (d + 1) 216 [.ref r, .int x] h (some (.int (if 0 ≤ x.toInt ∧ x.toInt < n.toInt then 1 else 0)), h) := by
  refine qcall_of (qent_mk qx216 rfl rfl rfl) ?_
  by_cases h1 : x < 0
  · rw [if_neg (by rw [i32_lt, i32_n0] at h1; omega)]
    exact b216_0T h1 (b216_16 (b216_17 (Or.inl rfl)))
  · by_cases h2 : n ≤ x
    · rw [if_neg (by rw [i32_le] at h2; omega)]
      exact b216_0F h1 (b216_4T e1 e2 h2 (b216_16 (b216_17 (Or.inl rfl))))
    · rw [if_pos (by rw [i32_lt, i32_n0] at h1; rw [i32_le] at h2; omega)]
      exact b216_0F h1 (b216_4F e1 e2 h2 (b216_12 (b216_17 (Or.inr rfl))))
/-- the reference's isSpot(s), isWire(w), isWorks(k), isRow(x) -/
theorem qlies {x n : Int32} (hn : 0 ≤ n.toInt) : qCall (d + 1) 143 [.long x.toInt64, .long 0, .long (n - 1).toInt64] h (some (.int (if 0 ≤ x.toInt ∧ x.toInt < n.toInt then 1 else 0)), h) := by
  have e := m143 (d := d) (h := h) (v := x.toInt64) (lo := 0) (hi := (n - 1).toInt64)
  rw [i3264, i3264, i64_n0, i32_sub1 hn] at e
  by_cases hq : 0 ≤ x.toInt ∧ x.toInt < n.toInt
  · rw [if_pos hq]
    rw [if_pos (by omega)] at e
    exact e
  · rw [if_neg hq]
    rw [if_neg (by omega)] at e
    exact e
theorem m132 {r : Nat} {fs : List Value} {x n : Int32} (e1 : h.2.2 r = some (.inr (12, fs))) (e2 : fs[3]? = some (.int n)) (hn : 0 ≤ n.toInt) : qCall (d + 2) 132 [.ref r, .int x] h (some (.int (if 0 ≤ x.toInt ∧ x.toInt < n.toInt then 1 else 0)), h) :=
  qcall_of (qent_mk qx132 rfl rfl rfl) (b132_0 e1 e2 (qlies hn) (qif01 _))
theorem m136 {r : Nat} {fs : List Value} {x n : Int32} (e1 : h.2.2 r = some (.inr (12, fs))) (e2 : fs[4]? = some (.int n)) (hn : 0 ≤ n.toInt) : qCall (d + 2) 136 [.ref r, .int x] h (some (.int (if 0 ≤ x.toInt ∧ x.toInt < n.toInt then 1 else 0)), h) :=
  qcall_of (qent_mk qx136 rfl rfl rfl) (b136_0 e1 e2 (qlies hn) (qif01 _))
theorem m137 {r : Nat} {fs : List Value} {x n : Int32} (e1 : h.2.2 r = some (.inr (12, fs))) (e2 : fs[5]? = some (.int n)) (hn : 0 ≤ n.toInt) : qCall (d + 2) 137 [.ref r, .int x] h (some (.int (if 0 ≤ x.toInt ∧ x.toInt < n.toInt then 1 else 0)), h) :=
  qcall_of (qent_mk qx137 rfl rfl rfl) (b137_0 e1 e2 (qlies hn) (qif01 _))
/-- sizeOfFlow(v) -/
theorem m170 {v : Int64} : qCall (d + 1) 170 [.long v] h (some (.long (if v.toInt < 0 then -v else v)), h) := by
  refine qcall_of (qent_mk qx170 rfl rfl rfl) ?_
  by_cases h1 : (0 : Int32) ≤ lg_cmp v 0
  · have h2 := (lg_cmp_ge v 0).mp h1
    rw [Int64.le_iff_toInt_le, i64_n0] at h2
    rw [if_neg (by omega)]
    exact b170_0T h1 (b170_11 b170_12)
  · have h2 : ¬ (0 : Int64) ≤ v := fun q => h1 ((lg_cmp_ge v 0).mpr q)
    rw [Int64.le_iff_toInt_le, i64_n0] at h2
    rw [if_pos (by omega)]
    exact b170_0F h1 (b170_6 b170_12)
end LV1
