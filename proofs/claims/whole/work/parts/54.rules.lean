/-! How a function's answer is shown. -/
section WI
variable {α β σ τ : Type} {P : α → Prop} {o a b : Option α}
theorem wp_some {r : α} (h : P r) : Wp (some r) P := ⟨r, rfl, h⟩
theorem wp_gd {p : Prop} {hp : Decidable p} (h : p) (k : Wp o P) : Wp (gd p o) P := by
  unfold gd
  rw [if_pos h]
  exact k
theorem wp_pos {p : Prop} {hp : Decidable p} (h : p) (k : Wp a P) : Wp (if p then a else b) P := by
  rw [if_pos h]
  exact k
theorem wp_neg {p : Prop} {hp : Decidable p} (h : ¬ p) (k : Wp b P) : Wp (if p then a else b) P := by
  rw [if_neg h]
  exact k
theorem wp_ite {p : Prop} {hp : Decidable p} (h1 : p → Wp a P) (h2 : ¬ p → Wp b P) : Wp (if p then a else b) P := by
  by_cases h : p
  · exact wp_pos h (h1 h)
  · exact wp_neg h (h2 h)
theorem wp_bind {o : Option β} {f : β → Option α} (h : Wp o (fun r => Wp (f r) P)) : Wp (o.bind f) P := by
  obtain ⟨r, e, r2, e2, h2⟩ := h
  exact ⟨r2, by rw [e]; exact e2, h2⟩
theorem wp_obnd {o : Option (Int × Mm)} {f : Int → Mm → Option α} (h : Wp o (fun r => Wp (f r.1 r.2) P)) : Wp (obnd o f) P := wp_bind h
theorem wp_mlet {e : Mm} {f : Mm → Option α} (h : Wp (f e) P) : Wp (mlet e f) P := h
theorem wp_oinr {o : Option τ} {P : σ ⊕ τ → Prop} (h : Wp o (fun r => P (.inr r))) : Wp (oinr o) P := by
  obtain ⟨r, e, h2⟩ := h
  exact ⟨.inr r, by rw [e]; rfl, h2⟩
theorem wp_iter {f : σ → Option (σ ⊕ τ)} {P : τ → Prop} (I : Nat → σ → Prop) (hb : ∀ m s, I m s → Wp (f s) (Sum.elim (fun t => ∃ k, k < m ∧ I k t) P)) : ∀ (n m : Nat) (s : σ), m < n → I m s → Wp (iter f n s) P
  | 0, m, s, h, _ => by omega
  | n + 1, m, s, h, hi => by
    obtain ⟨r, e, h2⟩ := hb m s hi
    rw [iter]
    match r, e, h2 with
    | .inl t, e, ⟨k, hk, hI⟩ =>
      rw [e]
      exact wp_iter I hb n k t (by omega) hI
    | .inr u, e, h2 =>
      rw [e]
      exact wp_some h2
/-- a loop: I m s holds while at most m more rounds are to come -/
theorem wp_lp {f : σ → Option (σ ⊕ τ)} {P : τ → Prop} {s : σ} (I : Nat → σ → Prop) (m : Nat) (hm : m < 100000) (h0 : I m s) (hb : ∀ m s, I m s → Wp (f s) (Sum.elim (fun t => ∃ k, k < m ∧ I k t) P)) : Wp (lp f s) P := by
  unfold lp
  rw [fuelE]
  exact wp_iter I hb _ m s hm h0
end WI
section LP
variable {α β γ δ τ : Type} {P : τ → Prop}
def up1 (I : Nat → α → Prop) (m : Nat) : α → Prop := fun t => ∃ k, k < m ∧ I k t
def up2 (I : Nat → α → β → Prop) (m : Nat) : α × β → Prop := fun t => ∃ k, k < m ∧ I k t.1 t.2
def up3 (I : Nat → α → β → γ → Prop) (m : Nat) : α × β × γ → Prop := fun t => ∃ k, k < m ∧ I k t.1 t.2.1 t.2.2
def up4 (I : Nat → α → β → γ → δ → Prop) (m : Nat) : α × β × γ × δ → Prop := fun t => ∃ k, k < m ∧ I k t.1 t.2.1 t.2.2.1 t.2.2.2
theorem wp_lp1 {f : α → Option (α ⊕ τ)} {x : α} (I : Nat → α → Prop) (m : Nat) (hm : m < 100000) (h0 : I m x) (hb : ∀ m x, I m x → Wp (f x) (Sum.elim (up1 I m) P)) : Wp (lp f x) P :=
  wp_lp I m hm h0 hb
theorem wp_lp2 {f : α × β → Option ((α × β) ⊕ τ)} {x : α} {y : β} (I : Nat → α → β → Prop) (m : Nat) (hm : m < 100000) (h0 : I m x y) (hb : ∀ m x y, I m x y → Wp (f (x, y)) (Sum.elim (up2 I m) P)) : Wp (lp f (x, y)) P :=
  wp_lp (fun m t => I m t.1 t.2) m hm h0 (fun m t h => hb m t.1 t.2 h)
theorem wp_lp3 {f : α × β × γ → Option ((α × β × γ) ⊕ τ)} {x : α} {y : β} {z : γ} (I : Nat → α → β → γ → Prop) (m : Nat) (hm : m < 100000) (h0 : I m x y z) (hb : ∀ m x y z, I m x y z → Wp (f (x, y, z)) (Sum.elim (up3 I m) P)) : Wp (lp f (x, y, z)) P :=
  wp_lp (fun m t => I m t.1 t.2.1 t.2.2) m hm h0 (fun m t h => hb m t.1 t.2.1 t.2.2 h)
theorem wp_lp4 {f : α × β × γ × δ → Option ((α × β × γ × δ) ⊕ τ)} {x : α} {y : β} {z : γ} {u : δ} (I : Nat → α → β → γ → δ → Prop) (m : Nat) (hm : m < 100000) (h0 : I m x y z u) (hb : ∀ m x y z u, I m x y z u → Wp (f (x, y, z, u)) (Sum.elim (up4 I m) P)) : Wp (lp f (x, y, z, u)) P :=
  wp_lp (fun m t => I m t.1 t.2.1 t.2.2.1 t.2.2.2) m hm h0 (fun m t h => hb m t.1 t.2.1 t.2.2.1 t.2.2.2 h)
theorem wp_i1 {I : Nat → α → Prop} {m : Nat} {x : α} (k : Nat) (hk : k < m) (h : I k x) : Wp (some (.inl x)) (Sum.elim (up1 I m) P) := ⟨_, rfl, k, hk, h⟩
theorem wp_i2 {I : Nat → α → β → Prop} {m : Nat} {x : α} {y : β} (k : Nat) (hk : k < m) (h : I k x y) : Wp (some (.inl (x, y))) (Sum.elim (up2 I m) P) := ⟨_, rfl, k, hk, h⟩
theorem wp_i3 {I : Nat → α → β → γ → Prop} {m : Nat} {x : α} {y : β} {z : γ} (k : Nat) (hk : k < m) (h : I k x y z) : Wp (some (.inl (x, y, z))) (Sum.elim (up3 I m) P) := ⟨_, rfl, k, hk, h⟩
theorem wp_i4 {I : Nat → α → β → γ → δ → Prop} {m : Nat} {x : α} {y : β} {z : γ} {u : δ} (k : Nat) (hk : k < m) (h : I k x y z u) : Wp (some (.inl (x, y, z, u))) (Sum.elim (up4 I m) P) := ⟨_, rfl, k, hk, h⟩
theorem wp_o {σ : Type} {o : Option τ} {E : σ → Prop} (h : Wp o P) : Wp (oinr o) (Sum.elim E P) := wp_oinr h
end LP
/-! Memory after stores. -/
section MS
variable {M : Mm} {a b i j : Nat} {v : Int}
theorem ms_a (h : b ≠ a) : ms M a i v b = M b := funext fun _ => if_neg (fun q => h q.1)
theorem ms_i (h : j ≠ i) : ms M a i v a j = M a j := if_neg (fun q => h q.2)
theorem ms_v : ms M a i v a i = v := if_pos ⟨rfl, rfl⟩
end MS
/-! Bits. -/
theorem bA {x y : Int} (hx : 0 ≤ x) (hx2 : x < 2147483648) (hy : 0 ≤ y) (hy2 : y < 2147483648) : bAnd x y = ((x.toNat &&& y.toNat : Nat) : Int) := by
  unfold bAnd
  obtain ⟨m, rfl⟩ := Int.eq_ofNat_of_zero_le hx
  obtain ⟨n, rfl⟩ := Int.eq_ofNat_of_zero_le hy
  have e : Int32.ofInt m &&& Int32.ofInt n = Int32.ofInt ((m &&& n : Nat) : Int) := by
    show Int32.ofNat m &&& Int32.ofNat n = Int32.ofNat (m &&& n)
    rw [← Int32.toBitVec_inj]
    show BitVec.ofNat 32 m &&& BitVec.ofNat 32 n = BitVec.ofNat 32 (m &&& n)
    apply BitVec.eq_of_toNat_eq
    rw [BitVec.toNat_and, BitVec.toNat_ofNat, BitVec.toNat_ofNat, BitVec.toNat_ofNat, Nat.and_mod_two_pow]
  rw [e, i4_toInt]
  · simp only [Int.toNat_natCast]
  · have := Nat.and_le_left (n := m) (m := n)
    exact ⟨by omega, by omega⟩
theorem bO {x y : Int} (hx : 0 ≤ x) (hx2 : x < 2147483648) (hy : 0 ≤ y) (hy2 : y < 2147483648) : bOr x y = ((x.toNat ||| y.toNat : Nat) : Int) := by
  unfold bOr
  obtain ⟨m, rfl⟩ := Int.eq_ofNat_of_zero_le hx
  obtain ⟨n, rfl⟩ := Int.eq_ofNat_of_zero_le hy
  have e : Int32.ofInt m ||| Int32.ofInt n = Int32.ofInt ((m ||| n : Nat) : Int) := by
    show Int32.ofNat m ||| Int32.ofNat n = Int32.ofNat (m ||| n)
    rw [← Int32.toBitVec_inj]
    show BitVec.ofNat 32 m ||| BitVec.ofNat 32 n = BitVec.ofNat 32 (m ||| n)
    apply BitVec.eq_of_toNat_eq
    rw [BitVec.toNat_or, BitVec.toNat_ofNat, BitVec.toNat_ofNat, BitVec.toNat_ofNat, Nat.or_mod_two_pow]
  rw [e, i4_toInt]
  · simp only [Int.toNat_natCast]
  · have := Nat.or_lt_two_pow (n := 31) (x := m) (y := n) (by omega) (by omega)
    exact ⟨by omega, by omega⟩
theorem bX {x y : Int} (hx : 0 ≤ x) (hx2 : x < 2147483648) (hy : 0 ≤ y) (hy2 : y < 2147483648) : bXor x y = ((x.toNat ^^^ y.toNat : Nat) : Int) := by
  unfold bXor
  obtain ⟨m, rfl⟩ := Int.eq_ofNat_of_zero_le hx
  obtain ⟨n, rfl⟩ := Int.eq_ofNat_of_zero_le hy
  have e : Int32.ofInt m ^^^ Int32.ofInt n = Int32.ofInt ((m ^^^ n : Nat) : Int) := by
    show Int32.ofNat m ^^^ Int32.ofNat n = Int32.ofNat (m ^^^ n)
    rw [← Int32.toBitVec_inj]
    show BitVec.ofNat 32 m ^^^ BitVec.ofNat 32 n = BitVec.ofNat 32 (m ^^^ n)
    apply BitVec.eq_of_toNat_eq
    rw [BitVec.toNat_xor, BitVec.toNat_ofNat, BitVec.toNat_ofNat, BitVec.toNat_ofNat, Nat.xor_mod_two_pow]
  rw [e, i4_toInt]
  · simp only [Int.toNat_natCast]
  · have := Nat.xor_lt_two_pow (n := 31) (x := m) (y := n) (by omega) (by omega)
    exact ⟨by omega, by omega⟩

theorem bS_amt : ∀ n : Fin 32, ((Int32.ofInt (n.val : Int) &&& 31).toBitVec.smod 32).toNat = n.val := by decide
theorem bR {x y : Int} (hx : R4 x) (hy : 0 ≤ y) (hy2 : y < 32) : bShr x y = x / (2 ^ y.toNat : Nat) := by
  unfold bShr
  obtain ⟨n, rfl⟩ := Int.eq_ofNat_of_zero_le hy
  have h := bS_amt ⟨n, by omega⟩
  have e : (Int32.ofInt x >>> (Int32.ofInt (n : Int) &&& 31)).toInt = (Int32.ofInt x).toInt >>> ((Int32.ofInt (n : Int) &&& 31).toBitVec.smod 32).toNat := by
    show BitVec.toInt _ = _
    exact BitVec.toInt_sshiftRight
  rw [e, h, i4_toInt hx, Int.shiftRight_eq_div_pow, Int.toNat_natCast]
theorem bL1 : ∀ n : Fin 31, bShl 1 (n.val : Int) = (2 ^ n.val : Nat) := by decide
theorem bL0 : ∀ n : Fin 31, bShl 0 (n.val : Int) = 0 := by decide
theorem bL {y : Int} (hy : 0 ≤ y) (hy2 : y < 31) : bShl 1 y = (2 ^ y.toNat : Nat) := by
  obtain ⟨n, rfl⟩ := Int.eq_ofNat_of_zero_le hy
  rw [Int.toNat_natCast]
  exact bL1 ⟨n, by omega⟩
theorem bLz {y : Int} (hy : 0 ≤ y) (hy2 : y < 31) : bShl 0 y = 0 := by
  obtain ⟨n, rfl⟩ := Int.eq_ofNat_of_zero_le hy
  exact bL0 ⟨n, by omega⟩
/-- the k-th bit -/
def tb (x : Int) (k : Nat) : Bool := x.toNat.testBit k
theorem bT {x y : Int} (hx : 0 ≤ x) (hx2 : x < 2147483648) (hy : 0 ≤ y) (hy2 : y < 32) : bAnd (bShr x y) 1 = if tb x y.toNat then 1 else 0 := by
  have h4 : R4 x := ⟨by omega, by omega⟩
  rw [bR h4 hy hy2]
  obtain ⟨m, rfl⟩ := Int.eq_ofNat_of_zero_le hx
  have hd : ((m : Int) / (2 ^ y.toNat : Nat)) = ((m / 2 ^ y.toNat : Nat) : Int) := rfl
  have hl := Nat.div_le_self m (2 ^ y.toNat)
  rw [hd]
  unfold tb
  rw [Int.toNat_natCast, Nat.testBit_eq_decide_div_mod_eq]
  generalize m / 2 ^ y.toNat = q at hl ⊢
  rw [bA (x := (q : Int)) (y := 1) (by omega) (by omega) (by decide) (by decide)]
  show (((q : Int).toNat &&& 1 : Nat) : Int) = _
  rw [Int.toNat_natCast, Nat.and_one_is_mod]
  by_cases h : q % 2 = 1
  · rw [h, if_pos (by decide)]; rfl
  · have h2 : q % 2 = 0 := by omega
    rw [h2, if_neg (by decide)]; rfl
theorem bN {x y : Int} (hx : 0 ≤ x) (hx2 : x < 2147483648) (hy : 0 ≤ y) (hy2 : y < 2147483648) : bAnd x (bXor y (-1)) = ((x.toNat ^^^ (x.toNat &&& y.toNat) : Nat) : Int) := by
  unfold bAnd bXor
  obtain ⟨m, rfl⟩ := Int.eq_ofNat_of_zero_le hx
  obtain ⟨n, rfl⟩ := Int.eq_ofNat_of_zero_le hy
  rw [Int32.ofInt_toInt]
  have e : Int32.ofInt m &&& (Int32.ofInt n ^^^ Int32.ofInt (-1)) = Int32.ofInt ((m ^^^ (m &&& n) : Nat) : Int) := by
    show Int32.ofNat m &&& (Int32.ofNat n ^^^ Int32.ofInt (-1)) = Int32.ofNat (m ^^^ (m &&& n))
    rw [← Int32.toBitVec_inj]
    show BitVec.ofNat 32 m &&& (BitVec.ofNat 32 n ^^^ BitVec.ofInt 32 (-1)) = BitVec.ofNat 32 (m ^^^ (m &&& n))
    have e2 : BitVec.ofNat 32 (m ^^^ (m &&& n)) = BitVec.ofNat 32 m ^^^ (BitVec.ofNat 32 m &&& BitVec.ofNat 32 n) := by
      apply BitVec.eq_of_toNat_eq
      rw [BitVec.toNat_xor, BitVec.toNat_and, BitVec.toNat_ofNat, BitVec.toNat_ofNat, BitVec.toNat_ofNat, Nat.xor_mod_two_pow, Nat.and_mod_two_pow]
    rw [e2, show BitVec.ofInt 32 (-1) = BitVec.allOnes 32 by decide, BitVec.xor_allOnes]
    ext i hi
    simp only [BitVec.getElem_and, BitVec.getElem_not, BitVec.getElem_xor]
    cases (BitVec.ofNat 32 m)[i] <;> cases (BitVec.ofNat 32 n)[i] <;> rfl
  rw [e, i4_toInt]
  · simp only [Int.toNat_natCast]
  · have h1 := Nat.and_le_left (n := m) (m := n)
    have := Nat.xor_lt_two_pow (n := 31) (x := m) (y := m &&& n) (by omega) (by omega)
    exact ⟨by omega, by omega⟩
section TB
variable {x y : Int} {k n : Nat}
theorem tb_or (hx : 0 ≤ x) (hx2 : x < 2147483648) (hy : 0 ≤ y) (hy2 : y < 2147483648) : tb (bOr x y) k = (tb x k || tb y k) := by
  rw [bO hx hx2 hy hy2]
  exact Nat.testBit_or _ _ _
theorem tb_and (hx : 0 ≤ x) (hx2 : x < 2147483648) (hy : 0 ≤ y) (hy2 : y < 2147483648) : tb (bAnd x y) k = (tb x k && tb y k) := by
  rw [bA hx hx2 hy hy2]
  exact Nat.testBit_and _ _ _
theorem tb_xor (hx : 0 ≤ x) (hx2 : x < 2147483648) (hy : 0 ≤ y) (hy2 : y < 2147483648) : tb (bXor x y) k = (tb x k ^^ tb y k) := by
  rw [bX hx hx2 hy hy2]
  exact Nat.testBit_xor _ _ _
theorem tb_not (hx : 0 ≤ x) (hx2 : x < 2147483648) (hy : 0 ≤ y) (hy2 : y < 2147483648) : tb (bAnd x (bXor y (-1))) k = (tb x k && !tb y k) := by
  rw [bN hx hx2 hy hy2]
  show Nat.testBit (_ ^^^ _) k = _
  rw [Nat.testBit_xor, Nat.testBit_and]
  unfold tb
  cases x.toNat.testBit k <;> cases y.toNat.testBit k <;> rfl
theorem tb_pow (hy : 0 ≤ y) (hy2 : y < 31) : tb (bShl 1 y) k = decide (y.toNat = k) := by
  rw [bL hy hy2]
  exact Nat.testBit_two_pow
theorem tb_zero : tb 0 k = false := Nat.zero_testBit k
theorem tb_ge (hx : 0 ≤ x) (h : x < (2 ^ n : Nat)) (hk : n ≤ k) : tb x k = false := Nat.testBit_lt_two_pow (Nat.lt_of_lt_of_le (by omega) (Nat.pow_le_pow_right (by decide) hk))
theorem tb_lt (hx : 0 ≤ x) (h : ∀ k, n ≤ k → tb x k = false) : x < (2 ^ n : Nat) := by
  have h1 := Nat.lt_pow_two_of_testBit (n := n) x.toNat (fun i hi => h i hi)
  omega
theorem tb_ext (hx : 0 ≤ x) (hy : 0 ≤ y) (h : ∀ k, tb x k = tb y k) : x = y := by
  have := Nat.eq_of_testBit_eq h
  omega
theorem bO_lt (hn : n ≤ 31) (hx : 0 ≤ x) (hx2 : x < (2 ^ n : Nat)) (hy : 0 ≤ y) (hy2 : y < (2 ^ n : Nat)) : 0 ≤ bOr x y ∧ bOr x y < (2 ^ n : Nat) := by
  have hp : 2 ^ n ≤ 2 ^ 31 := Nat.pow_le_pow_right (by decide) hn
  rw [bO hx (by omega) hy (by omega)]
  have := Nat.or_lt_two_pow (n := n) (x := x.toNat) (y := y.toNat) (by omega) (by omega)
  omega
theorem bX_lt (hn : n ≤ 31) (hx : 0 ≤ x) (hx2 : x < (2 ^ n : Nat)) (hy : 0 ≤ y) (hy2 : y < (2 ^ n : Nat)) : 0 ≤ bXor x y ∧ bXor x y < (2 ^ n : Nat) := by
  have hp : 2 ^ n ≤ 2 ^ 31 := Nat.pow_le_pow_right (by decide) hn
  rw [bX hx (by omega) hy (by omega)]
  have := Nat.xor_lt_two_pow (n := n) (x := x.toNat) (y := y.toNat) (by omega) (by omega)
  omega
theorem bA_lt (hx : 0 ≤ x) (hx2 : x < 2147483648) (hy : 0 ≤ y) (hy2 : y < 2147483648) : 0 ≤ bAnd x y ∧ bAnd x y ≤ x := by
  rw [bA hx hx2 hy hy2]
  have := Nat.and_le_left (n := x.toNat) (m := y.toNat)
  omega
theorem bN_lt (hx : 0 ≤ x) (hx2 : x < 2147483648) (hy : 0 ≤ y) (hy2 : y < 2147483648) : 0 ≤ bAnd x (bXor y (-1)) ∧ bAnd x (bXor y (-1)) < 2147483648 := by
  rw [bN hx hx2 hy hy2]
  have h1 := Nat.and_le_left (n := x.toNat) (m := y.toNat)
  have := Nat.xor_lt_two_pow (n := 31) (x := x.toNat) (y := x.toNat &&& y.toNat) (by omega) (by omega)
  omega
end TB
