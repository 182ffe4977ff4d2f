/-! Memory: all cells of both objects as one function of whole numbers, and the bytecode's steps on it. -/
abbrev Mm : Type := Nat → Nat → Int
abbrev R4 (x : Int) : Prop := -2147483648 ≤ x ∧ x ≤ 2147483647
abbrev R8 (x : Int) : Prop := -9223372036854775808 ≤ x ∧ x ≤ 9223372036854775807
theorem R4.to8 {x : Int} (h : R4 x) : R8 x := ⟨by have := h.1; omega, by have := h.2; omega⟩
theorem i4_toInt {x : Int} (h : R4 x) : (Int32.ofInt x).toInt = x := by
  have h1 := h.1
  have h2 := h.2
  rw [Int32.toInt_ofInt]
  show x.bmod 4294967296 = x
  exact Int.bmod_eq_of_le (by omega) (by omega)
theorem i8_toInt {x : Int} (h : R8 x) : (Int64.ofInt x).toInt = x := by
  have h1 := h.1
  have h2 := h.2
  rw [Int64.toInt_ofInt]
  show x.bmod 18446744073709551616 = x
  exact Int.bmod_eq_of_le (by omega) (by omega)
theorem r4_toInt (x : Int32) : R4 x.toInt := ⟨Int32.le_toInt x, by have := Int32.toInt_lt x; omega⟩
theorem r8_toInt (x : Int64) : R8 x.toInt := ⟨Int64.le_toInt x, by have := Int64.toInt_lt x; omega⟩
theorem r4_n {x : Int} (h : decide (R4 x) = true) : R4 x := of_decide_eq_true h
theorem r8_n {x : Int} (h : decide (R8 x) = true) : R8 x := of_decide_eq_true h
theorem i4_lt {x y : Int} (hx : R4 x) (hy : R4 y) : Int32.ofInt x < Int32.ofInt y ↔ x < y := by rw [Int32.lt_iff_toInt_lt, i4_toInt hx, i4_toInt hy]
theorem i4_le {x y : Int} (hx : R4 x) (hy : R4 y) : Int32.ofInt x ≤ Int32.ofInt y ↔ x ≤ y := by rw [Int32.le_iff_toInt_le, i4_toInt hx, i4_toInt hy]
theorem i4_eq {x y : Int} (hx : R4 x) (hy : R4 y) : Int32.ofInt x = Int32.ofInt y ↔ x = y := by rw [← Int32.toInt_inj, i4_toInt hx, i4_toInt hy]
theorem i8_lt {x y : Int} (hx : R8 x) (hy : R8 y) : Int64.ofInt x < Int64.ofInt y ↔ x < y := by rw [Int64.lt_iff_toInt_lt, i8_toInt hx, i8_toInt hy]
theorem i8_eq {x y : Int} (hx : R8 x) (hy : R8 y) : Int64.ofInt x = Int64.ofInt y ↔ x = y := by rw [← Int64.toInt_inj, i8_toInt hx, i8_toInt hy]
theorem i4_nat {x : Int} (hx : R4 x) : (Int32.ofInt x).toNatClampNeg = x.toNat := by
  show (Int32.ofInt x).toInt.toNat = x.toNat
  rw [i4_toInt hx]
/-! The bits of ints. -/
def bAnd (x y : Int) : Int := (Int32.ofInt x &&& Int32.ofInt y).toInt
def bOr (x y : Int) : Int := (Int32.ofInt x ||| Int32.ofInt y).toInt
def bXor (x y : Int) : Int := (Int32.ofInt x ^^^ Int32.ofInt y).toInt
def bShl (x y : Int) : Int := (Int32.ofInt x <<< (Int32.ofInt y &&& 31)).toInt
def bShr (x y : Int) : Int := (Int32.ofInt x >>> (Int32.ofInt y &&& 31)).toInt
def bUshr (x y : Int) : Int := ((Int32.ofInt x).toUInt32 >>> ((Int32.ofInt y).toUInt32 &&& Int32.toUInt32 31)).toInt32.toInt
def bByte (x : Int) : Int := (Int32.ofInt x).toInt8.toInt32.toInt
def w4 (x : Int) : Int := (Int32.ofInt x).toInt
def w8 (x : Int) : Int := (Int64.ofInt x).toInt
/-- a store -/
def ms (M : Mm) (a i : Nat) (v : Int) : Mm := fun b j => if b = a ∧ j = i then v else M b j
def fillm (M : Mm) (a n : Nat) (v : Int) : Mm := fun b j => if b = a ∧ j < n then v else M b j
def cpym (M : Mm) (a0 : Nat) (sp : Nat) (a : Nat) (dp n : Nat) : Mm := fun b j => if b = a ∧ dp ≤ j ∧ j < dp + n then M a0 (sp + (j - dp)) else M b j
/-! Cells' shapes. -/
def lay (a : Nat) : Nat × Nat × Nat × List Nat := if a < 200 then qlay.getD a (9, 0, 0, []) else
  if (a - 200) % 5 = 0 then (5, 8, 0, [0, 0, 0, 0, a + 1, a + 2, a + 3, a + 4]) else if (a - 200) % 5 = 1 then (0, 0, 8, []) else (0, 0, 14, [])
def mfld (M : Mm) (a j r : Nat) : Value := if r = 0 then .int (Int32.ofInt (M a j)) else if r ≤ 2 then .ref (M a j).toNat else .ref r
def mflds (M : Mm) (a : Nat) : Nat → List Nat → List Value
  | _, [] => []
  | j, r :: rs => mfld M a j r :: mflds M a (j + 1) rs
def mcellD (M : Mm) (a : Nat) (D : Nat × Nat × Nat × List Nat) : qC := match D with
  | (0, k, n, _) => .inl (k, n, .inl (fun i => Int32.ofInt (M a i)))
  | (1, k, n, _) => .inl (k, n, .inr (.inl (fun i => Int64.ofInt (M a i))))
  | (2, k, n, _) => .inl (k, n, .inr (.inr (.inr (.inr fun i => if M a i = 0 then none else some (M a i).toNat))))
  | (3, k, n, rs) => .inl (k, n, .inr (.inr (.inr (.inr fun i => if i < n then some (rs.getD 0 0 + i) else none))))
  | (_, k, _, rs) => .inr (k, mflds M a 0 rs)
/-- the heap of both objects is memory M; X: how many States were made, slots, the script's cell -/
def Rep (X : Nat × Nat × qC) (M : Mm) (h : qH) : Prop := h.1 = 200 + 5 * X.1 ∧ h.2.1 = X.2.1 ∧ h.2.2 0 = some X.2.2 ∧ h.2.2 1 = some (.inl (9, 11, .inl qSg)) ∧ M 0 0 = X.1 ∧
  (∀ a, 2 ≤ a → a < 200 + 5 * X.1 → h.2.2 a = some (mcellD M a (lay a))) ∧ (∀ a i, R8 (M a i)) ∧ (∀ a i, (lay a).1 ≠ 1 → R4 (M a i))
section REP
variable {X : Nat × Nat × qC} {M : Mm} {h : qH}
theorem Rep.num (r : Rep X M h) : h.1 = 200 + 5 * X.1 := r.1
theorem Rep.slots (r : Rep X M h) : h.2.1 = X.2.1 := r.2.1
theorem Rep.scr (r : Rep X M h) : h.2.2 0 = some X.2.2 := r.2.2.1
theorem Rep.signs (r : Rep X M h) : h.2.2 1 = some (.inl (9, 11, .inl qSg)) := r.2.2.2.1
theorem Rep.n0 (r : Rep X M h) : M 0 0 = X.1 := r.2.2.2.2.1
theorem Rep.cell (r : Rep X M h) : ∀ a, 2 ≤ a → a < 200 + 5 * X.1 → h.2.2 a = some (mcellD M a (lay a)) := r.2.2.2.2.2.1
theorem Rep.r8 (r : Rep X M h) : ∀ a i, R8 (M a i) := r.2.2.2.2.2.2.1
theorem Rep.r4 (r : Rep X M h) : ∀ a i, (lay a).1 ≠ 1 → R4 (M a i) := r.2.2.2.2.2.2.2
end REP
def Ok (X : Nat × Nat × qC) (a : Nat) (D : Nat × Nat × Nat × List Nat) : Prop := lay a = D ∧ 2 ≤ a ∧ a < 200 + 5 * X.1
section OKP
variable {X : Nat × Nat × qC} {a : Nat} {D : Nat × Nat × Nat × List Nat}
theorem Ok.e (k : Ok X a D) : lay a = D := k.1
theorem Ok.lo (k : Ok X a D) : 2 ≤ a := k.2.1
theorem Ok.hi (k : Ok X a D) : a < 200 + 5 * X.1 := k.2.2
end OKP
section OK
variable {X : Nat × Nat × qC} {a s n : Nat} {D : Nat × Nat × Nat × List Nat} {M : Mm} {h : qH}
theorem ok_lit (hl : lay a = D) (h2 : Nat.ble 2 a = true) (h3 : Nat.blt a 200 = true) : Ok X a D := by
  have h5 : a + 1 ≤ 200 := Nat.le_of_ble_eq_true h3
  exact ⟨hl, Nat.le_of_ble_eq_true h2, by omega⟩
/-- States, Standings, Texts -/
abbrev isSt (n s : Nat) : Prop := s = 24 ∨ s = 50 ∨ s = 74 ∨ (200 ≤ s ∧ s < 200 + 5 * n ∧ (s - 200) % 5 = 0)
abbrev isSg (s : Nat) : Prop := s = 31 ∨ s = 55 ∨ s = 79
abbrev isTx (s : Nat) : Prop := s = 4 ∨ s = 135
theorem ok_st0 (hs : isSt X.1 s) : Ok X s (5, 8, 0, [0, 0, 0, 0, s + 1, s + 2, s + 3, s + 4]) := by
  rcases hs with rfl | rfl | rfl | ⟨h1, h2, h3⟩
  · exact ok_lit rfl rfl rfl
  · exact ok_lit rfl rfl rfl
  · exact ok_lit rfl rfl rfl
  · refine ⟨?_, by omega, h2⟩
    unfold lay
    rw [if_neg (by omega), if_pos h3]
theorem ok_st1 (hs : isSt X.1 s) : Ok X (s + 1) (0, 0, 8, []) := by
  rcases hs with rfl | rfl | rfl | ⟨h1, h2, h3⟩
  · exact ok_lit rfl rfl rfl
  · exact ok_lit rfl rfl rfl
  · exact ok_lit rfl rfl rfl
  · refine ⟨?_, by omega, by omega⟩
    unfold lay
    rw [if_neg (by omega), if_neg (by omega), if_pos (by omega)]
theorem ok_stj (hs : isSt X.1 s) {j : Nat} (hj : 2 ≤ j ∧ j ≤ 4) : Ok X (s + j) (0, 0, 14, []) := by
  obtain ⟨h4, h5⟩ := hj
  have h6 : j = 2 ∨ j = 3 ∨ j = 4 := by omega
  rcases hs with rfl | rfl | rfl | ⟨h1, h2, h3⟩
  · rcases h6 with rfl | rfl | rfl <;> exact ok_lit rfl rfl rfl
  · rcases h6 with rfl | rfl | rfl <;> exact ok_lit rfl rfl rfl
  · rcases h6 with rfl | rfl | rfl <;> exact ok_lit rfl rfl rfl
  · refine ⟨?_, by omega, by omega⟩
    unfold lay
    rw [if_neg (by omega), if_neg (by omega), if_neg (by omega)]
theorem ok_st2 (hs : isSt X.1 s) : Ok X (s + 2) (0, 0, 14, []) := ok_stj hs ⟨by decide, by decide⟩
theorem ok_st3 (hs : isSt X.1 s) : Ok X (s + 3) (0, 0, 14, []) := ok_stj hs ⟨by decide, by decide⟩
theorem ok_st4 (hs : isSt X.1 s) : Ok X (s + 4) (0, 0, 14, []) := ok_stj hs ⟨by decide, by decide⟩
theorem ok_sg0 (hs : isSg s) : Ok X s (5, 7, 0, [0, 0, 0, s + 1, s + 2, s + 3, s + 4, s + 5, s + 6, s + 7, s + 8, s + 9]) := by rcases hs with rfl | rfl | rfl <;> exact ok_lit rfl rfl rfl
theorem ok_sg1 (hs : isSg s) : Ok X (s + 1) (0, 0, 8, []) := by rcases hs with rfl | rfl | rfl <;> exact ok_lit rfl rfl rfl
theorem ok_sg2 (hs : isSg s) : Ok X (s + 2) (0, 0, 8, []) := by rcases hs with rfl | rfl | rfl <;> exact ok_lit rfl rfl rfl
theorem ok_sg3 (hs : isSg s) : Ok X (s + 3) (0, 0, 8, []) := by rcases hs with rfl | rfl | rfl <;> exact ok_lit rfl rfl rfl
theorem ok_sg4 (hs : isSg s) : Ok X (s + 4) (0, 0, 9, []) := by rcases hs with rfl | rfl | rfl <;> exact ok_lit rfl rfl rfl
theorem ok_sg5 (hs : isSg s) : Ok X (s + 5) (1, 2, 14, []) := by rcases hs with rfl | rfl | rfl <;> exact ok_lit rfl rfl rfl
theorem ok_sg6 (hs : isSg s) : Ok X (s + 6) (0, 0, 8, []) := by rcases hs with rfl | rfl | rfl <;> exact ok_lit rfl rfl rfl
theorem ok_sg7 (hs : isSg s) : Ok X (s + 7) (0, 0, 8, []) := by rcases hs with rfl | rfl | rfl <;> exact ok_lit rfl rfl rfl
theorem ok_sg8 (hs : isSg s) : Ok X (s + 8) (1, 2, 8, []) := by rcases hs with rfl | rfl | rfl <;> exact ok_lit rfl rfl rfl
theorem ok_sg9 (hs : isSg s) : Ok X (s + 9) (3, 7, 8, [s + 10]) := by rcases hs with rfl | rfl | rfl <;> exact ok_lit rfl rfl rfl
theorem ok_row {m : Nat} {i : Int} (h1 : ∀ j, j < m → Ok X (s + j) D) (hi : 0 ≤ i ∧ i < m) : Ok X (s + i.toNat) D := h1 _ (by omega)
theorem ok_sgr (hs : isSg s) {i : Int} (hi : 0 ≤ i ∧ i < (8 : Nat)) : Ok X (s + 10 + i.toNat) (1, 2, 8, []) := by
  refine ok_row (m := 8) (fun j hj => ?_) hi
  have h6 : j = 0 ∨ j = 1 ∨ j = 2 ∨ j = 3 ∨ j = 4 ∨ j = 5 ∨ j = 6 ∨ j = 7 := by omega
  rcases hs with rfl | rfl | rfl
  all_goals rcases h6 with rfl | rfl | rfl | rfl | rfl | rfl | rfl | rfl <;> exact ok_lit rfl rfl rfl
theorem ok_lead {i : Int} (hi : 0 ≤ i ∧ i < (5 : Nat)) : Ok X (120 + i.toNat) (0, 0, 5, []) := by
  refine ok_row (m := 5) (fun j hj => ?_) hi
  have h6 : j = 0 ∨ j = 1 ∨ j = 2 ∨ j = 3 ∨ j = 4 := by omega
  rcases h6 with rfl | rfl | rfl | rfl | rfl <;> exact ok_lit rfl rfl rfl
theorem ok_scr {i : Int} (hi : 0 ≤ i ∧ i < (4 : Nat)) : Ok X (108 + i.toNat) (1, 2, 14, []) := by
  refine ok_row (m := 4) (fun j hj => ?_) hi
  have h6 : j = 0 ∨ j = 1 ∨ j = 2 ∨ j = 3 := by omega
  rcases h6 with rfl | rfl | rfl | rfl <;> exact ok_lit rfl rfl rfl
theorem ok_tx0 (hs : isTx s) : Ok X s (5, 10, 0, [0, 0, 0, 0, 0, 0, s + 1, s + 2, s + 3, s + 4, s + 5, s + 6]) := by rcases hs with rfl | rfl <;> exact ok_lit rfl rfl rfl
theorem ok_tx1 (hs : isTx s) : Ok X (s + 1) (0, 0, 160, []) := by rcases hs with rfl | rfl <;> exact ok_lit rfl rfl rfl
theorem ok_tx2 (hs : isTx s) : Ok X (s + 2) (0, 0, 320, []) := by rcases hs with rfl | rfl <;> exact ok_lit rfl rfl rfl
theorem ok_tx3 (hs : isTx s) : Ok X (s + 3) (0, 0, 320, []) := by rcases hs with rfl | rfl <;> exact ok_lit rfl rfl rfl
theorem ok_tx4 (hs : isTx s) : Ok X (s + 4) (0, 0, 12, []) := by rcases hs with rfl | rfl <;> exact ok_lit rfl rfl rfl
theorem ok_tx5 (hs : isTx s) : Ok X (s + 5) (0, 1, 12, []) := by rcases hs with rfl | rfl <;> exact ok_lit rfl rfl rfl
theorem ok_tx6 (hs : isTx s) : Ok X (s + 6) (1, 2, 32, []) := by rcases hs with rfl | rfl <;> exact ok_lit rfl rfl rfl
theorem isSt_24 : isSt n 24 := Or.inl rfl
theorem isSt_50 : isSt n 50 := Or.inr (Or.inl rfl)
theorem isSt_74 : isSt n 74 := Or.inr (Or.inr (Or.inl rfl))
theorem isSg_31 : isSg 31 := Or.inl rfl
theorem isSg_55 : isSg 55 := Or.inr (Or.inl rfl)
theorem isSg_79 : isSg 79 := Or.inr (Or.inr rfl)
theorem isTx_4 : isTx 4 := Or.inl rfl
theorem isTx_135 : isTx 135 := Or.inr rfl
/-! Reads and stores. -/
theorem Rep.at (hR : Rep X M h) (hk : Ok X a D) : h.2.2 a = some (mcellD M a D) := by
  rw [← hk.e]
  exact hR.cell a hk.lo hk.hi
theorem mflds_ne {M2 : Mm} : ∀ (rs : List Nat) (j : Nat), (∀ i, M2 a i = M a i) → mflds M2 a j rs = mflds M a j rs
  | [], j, _ => rfl
  | r :: rs, j, hh => by
    show mfld M2 a j r :: _ = mfld M a j r :: _
    rw [mflds_ne rs (j + 1) hh]
    unfold mfld
    rw [hh j]
theorem mcellD_ne {M2 : Mm} (hh : ∀ i, M2 a i = M a i) : mcellD M2 a D = mcellD M a D := by
  unfold mcellD
  split
  · simp only [hh]
  · simp only [hh]
  · simp only [hh]
  · rfl
  · rw [mflds_ne _ _ hh]
theorem mflds_set {j : Nat} {x : Int} {v : Value} {r0 : Nat} (hv : ∀ M : Mm, M a j = x → mfld M a j r0 = v) : ∀ (rs : List Nat) (i m : Nat), rs[m]? = some r0 → j = i + m → mflds (ms M a j x) a i rs = (mflds M a i rs).set m v
  | [], i, m, hm, _ => by cases hm
  | r :: rs, i, 0, hm, hj => by
    cases hm
    have e : j = i := hj
    subst e
    show mfld _ a j r0 :: mflds _ a (j + 1) rs = v :: mflds M a (j + 1) rs
    have h2 : ∀ (rs : List Nat) (i : Nat), j < i → mflds (ms M a j x) a i rs = mflds M a i rs := by
      intro rs
      induction rs with
      | nil => intro i _; rfl
      | cons r rs ih =>
        intro i hi
        show mfld _ a i r :: _ = mfld M a i r :: _
        rw [ih (i + 1) (by omega)]
        have e9 : ms M a j x a i = M a i := if_neg (by omega)
        unfold mfld
        rw [e9]
    rw [hv _ (if_pos ⟨rfl, rfl⟩), h2 rs (j + 1) (by omega)]
  | r :: rs, i, m + 1, hm, hj => by
    show mfld (ms M a j x) a i r :: mflds _ a (i + 1) rs = mfld M a i r :: (mflds M a (i + 1) rs).set m v
    rw [mflds_set hv rs (i + 1) m hm (by omega)]
    have e9 : ms M a j x a i = M a i := if_neg (by omega)
    unfold mfld
    rw [e9]
theorem mflds_get {r : Nat} : ∀ (rs : List Nat) (i m : Nat), rs[m]? = some r → (mflds M a i rs)[m]? = some (mfld M a (i + m) r)
  | [], i, m, hm => by cases hm
  | r0 :: rs, i, 0, hm => by cases hm; rfl
  | r0 :: rs, i, m + 1, hm => by
    show (mflds M a (i + 1) rs)[m]? = _
    rw [mflds_get rs (i + 1) m hm, Nat.add_assoc, Nat.add_comm 1 m]
theorem mflds_len : ∀ (rs : List Nat) (i : Nat), (mflds M a i rs).length = rs.length
  | [], i => rfl
  | r :: rs, i => congrArg (· + 1) (mflds_len rs (i + 1))
theorem Rep.up {M2 : Mm} {c : qC} (hR : Rep X M h) (hk : Ok X a D) (hne : ∀ b, b ≠ a → ∀ i, M2 b i = M b i) (hc : mcellD M2 a D = c) (h8 : ∀ i, R8 (M2 a i)) (h4 : D.1 ≠ 1 → ∀ i, R4 (M2 a i)) : Rep X M2 (qset h a c) := by
  refine ⟨hR.num, hR.slots, ?_, ?_, ?_, ?_, ?_, ?_⟩
  · exact (if_neg (by have := hk.lo; omega)).trans hR.scr
  · exact (if_neg (by have := hk.lo; omega)).trans hR.signs
  · rw [hne 0 (by have := hk.lo; omega)]
    exact hR.n0
  · intro b h2 h3
    show (if b = a then some c else h.2.2 b) = _
    by_cases e : b = a
    · subst e
      rw [if_pos rfl, hk.e, hc]
    · rw [if_neg e, hR.cell b h2 h3, mcellD_ne (hne b e)]
  · intro b i
    by_cases e : b = a
    · rw [e]
      exact h8 i
    · rw [hne b e]
      exact hR.r8 b i
  · intro b i hl
    by_cases e : b = a
    · subst e
      exact h4 (by rw [← hk.e]; exact hl) i
    · rw [hne b e]
      exact hR.r4 b i hl
theorem ms_ne {i : Nat} {v : Int} {b : Nat} (hb : b ≠ a) (j : Nat) : ms M a i v b j = M b j := if_neg (fun q => hb q.1)
theorem Rep.r4' (hR : Rep X M h) (hk : Ok X a D) (hD : D.1 ≠ 1) (i : Nat) : R4 (M a i) := hR.r4 a i (by rw [hk.e]; exact hD)
theorem Rep.arrI (hR : Rep X M h) {k m i : Nat} {rs : List Nat} {v : Int} (hk : Ok X a (0, k, m, rs)) (hv : R4 v) : Rep X (ms M a i v) (qset h a (.inl (k, m, .inl (upd (fun i => Int32.ofInt (M a i)) i (Int32.ofInt v))))) := by
  refine hR.up hk (fun b hb j => ms_ne hb j) ?_ (fun j => ?_) (fun _ j => ?_)
  · show Sum.inl (k, m, Sum.inl _) = _
    congr 3
    refine congrArg _ (funext fun j => ?_)
    unfold ms upd
    by_cases e : j = i
    · rw [if_pos ⟨rfl, e⟩, if_pos e]
    · rw [if_neg (fun q => e q.2), if_neg e]
  · unfold ms
    split
    · exact hv.to8
    · exact hR.r8 a j
  · unfold ms
    split
    · exact hv
    · exact hR.r4' hk (by decide : (0 : Nat) ≠ 1) j
theorem Rep.arrJ (hR : Rep X M h) {k m i : Nat} {rs : List Nat} {v : Int} (hk : Ok X a (1, k, m, rs)) (hv : R8 v) : Rep X (ms M a i v) (qset h a (.inl (k, m, .inr (.inl (vp_updL (fun i => Int64.ofInt (M a i)) i (Int64.ofInt v)))))) := by
  refine hR.up hk (fun b hb j => ms_ne hb j) ?_ (fun j => ?_) (fun q => absurd rfl q)
  · show Sum.inl (k, m, Sum.inr (Sum.inl _)) = _
    congr 3
    refine congrArg _ (congrArg _ (funext fun j => ?_))
    unfold ms vp_updL
    by_cases e : j = i
    · rw [if_pos ⟨rfl, e⟩, if_pos e]
    · rw [if_neg (fun q => e q.2), if_neg e]
  · unfold ms
    split
    · exact hv
    · exact hR.r8 a j
theorem Rep.fldI (hR : Rep X M h) {k m j r : Nat} {rs : List Nat} {v : Int} {w : Value} (hk : Ok X a (5, k, m, rs)) (hj : rs[j]? = some r) (hw : ∀ M : Mm, M a j = v → mfld M a j r = w) (hv : R4 v) : Rep X (ms M a j v) (qset h a (.inr (k, (mflds M a 0 rs).set j w))) := by
  refine hR.up hk (fun b hb j => ms_ne hb j) ?_ (fun j => ?_) (fun _ j => ?_)
  · show Sum.inr (k, mflds (ms M a j v) a 0 rs) = _
    rw [mflds_set hw rs 0 j hj (by omega)]
  · unfold ms
    split
    · exact hv.to8
    · exact hR.r8 a j
  · unfold ms
    split
    · exact hv
    · exact hR.r4' hk (by decide : (5 : Nat) ≠ 1) j
theorem mfld_int {j : Nat} {x : Int} : ∀ M : Mm, M a j = x → mfld M a j 0 = .int (Int32.ofInt x) := fun M e => by subst e; rfl
end OK
