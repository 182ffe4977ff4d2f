/-! How many bits. -/
def popc (x : Int) (n : Nat) : Int := sm (fun k => if tb x k then 1 else 0) n
def pcN (x : Nat) : Nat :=
  let a := x - ((x >>> 1) &&& 1431655765)
  let b := (a &&& 858993459) + ((a >>> 2) &&& 858993459)
  let c := (b + (b >>> 4)) &&& 252645135
  let d := c + (c >>> 8)
  let e := d + (d >>> 16)
  e &&& 63
def pcB (x : Nat) : Nat → Nat
  | 0 => 0
  | n + 1 => pcB x n + (if x.testBit n then 1 else 0)
def pcOk : Nat → Bool
  | 0 => true
  | n + 1 => pcN n == pcB n 14 && (n >>> 1 &&& 1431655765) ≤ n && pcOk n
theorem pcOk_all : pcOk 16384 = true := by decide +kernel
theorem pcOk_at : ∀ {m n : Nat}, pcOk m = true → n < m → pcN n = pcB n 14 ∧ (n >>> 1 &&& 1431655765) ≤ n
  | 0, n, _, h => by omega
  | m + 1, n, h, hn => by
    rw [pcOk, Bool.and_eq_true, Bool.and_eq_true] at h
    by_cases e : n = m
    · subst e
      exact ⟨eq_of_beq h.1.1, of_decide_eq_true h.1.2⟩
    · exact pcOk_at h.2 (by omega)
theorem pcB_pop (x : Nat) : ∀ n : Nat, popc (x : Int) n = (pcB x n : Int)
  | 0 => rfl
  | n + 1 => by
    show popc (x : Int) n + (if tb (x : Int) n then 1 else 0) = ((pcB x n + (if x.testBit n then 1 else 0) : Nat) : Int)
    rw [pcB_pop x n]
    unfold tb
    rw [Int.toNat_natCast]
    split <;> rfl
theorem bU {x y : Int} (hx : 0 ≤ x) (hx2 : x < 2147483648) (hy : 0 ≤ y) (hy2 : y < 32) : bUshr x y = ((x.toNat >>> y.toNat : Nat) : Int) := by
  unfold bUshr
  obtain ⟨m, rfl⟩ := Int.eq_ofNat_of_zero_le hx
  obtain ⟨n, rfl⟩ := Int.eq_ofNat_of_zero_le hy
  have hd := Nat.div_le_self m (2 ^ n)
  have e : ((Int32.ofInt (m : Int)).toUInt32 >>> ((Int32.ofInt (n : Int)).toUInt32 &&& Int32.toUInt32 31)).toInt32 = Int32.ofInt ((m >>> n : Nat) : Int) := by
    show ((Int32.ofNat m).toUInt32 >>> ((Int32.ofNat n).toUInt32 &&& Int32.toUInt32 31)).toInt32 = Int32.ofNat (m >>> n)
    rw [← Int32.toBitVec_inj]
    show ((Int32.ofNat m).toUInt32 >>> ((Int32.ofNat n).toUInt32 &&& Int32.toUInt32 31)).toBitVec = BitVec.ofNat 32 (m >>> n)
    apply BitVec.eq_of_toNat_eq
    show ((Int32.ofNat m).toUInt32 >>> ((Int32.ofNat n).toUInt32 &&& Int32.toUInt32 31)).toNat = _
    rw [UInt32.toNat_shiftRight]
    have e1 : (Int32.ofNat m).toUInt32.toNat = m := by
      show (BitVec.ofNat 32 m).toNat = m
      rw [BitVec.toNat_ofNat]
      omega
    have e2 : ((Int32.ofNat n).toUInt32 &&& Int32.toUInt32 31).toNat = n := by
      rw [UInt32.toNat_and]
      have e3 : (Int32.ofNat n).toUInt32.toNat = n := by
        show (BitVec.ofNat 32 n).toNat = n
        rw [BitVec.toNat_ofNat]
        omega
      rw [e3]
      exact (Nat.and_two_pow_sub_one_eq_mod n 5).trans (Nat.mod_eq_of_lt (by omega))
    rw [e1, e2, BitVec.toNat_ofNat, Nat.mod_eq_of_lt (by omega : n < 32), Nat.shiftRight_eq_div_pow]
    exact (Nat.mod_eq_of_lt (Nat.lt_of_le_of_lt hd (by omega))).symm
  rw [e, i4_toInt]
  · simp only [Int.toNat_natCast]
  · rw [Nat.shiftRight_eq_div_pow]
    generalize m / 2 ^ n = q at hd ⊢
    exact ⟨by omega, by omega⟩
theorem w4_n {x : Int} (h : R4 x) : w4 x = x := i4_toInt h
/-- Integer.bitCount of few bits -/
theorem w1 {x : Int} {M : Mm} {P : Int → Prop} (h0 : 0 ≤ x) (h1 : x < 16384) (k : P (popc x 14)) : Wp (f1 x M) P := by
  obtain ⟨n, rfl⟩ := Int.eq_ofNat_of_zero_le h0
  obtain ⟨c1, c2⟩ := pcOk_at (n := n) pcOk_all (by omega)
  rw [pcB_pop, ← c1] at k
  unfold f1
  have nb : ∀ a b : Nat, a < 100000000 → b < 2147483648 → bAnd (a : Int) (b : Int) = ((a &&& b : Nat) : Int) := fun a b ha hb => by
    rw [bA (by omega) (by omega) (by omega) (by omega), Int.toNat_natCast, Int.toNat_natCast]
  have nu : ∀ a b : Nat, a < 100000000 → b < 32 → bUshr (a : Int) (b : Int) = ((a >>> b : Nat) : Int) := fun a b ha hb => by
    rw [bU (by omega) (by omega) (by omega) (by omega), Int.toNat_natCast, Int.toNat_natCast]
  have hs : ∀ a b : Nat, a >>> b ≤ a := fun a b => by
    rw [Nat.shiftRight_eq_div_pow]
    exact Nat.div_le_self _ _
  have ha : ∀ a b : Nat, a &&& b ≤ a := fun a b => Nat.and_le_left
  have e1 : w4 ((n : Int) - bAnd (bUshr (n : Int) 1) 1431655765) = ((n - (n >>> 1 &&& 1431655765) : Nat) : Int) := by
    have z := hs n 1
    have q := nu n 1 (by omega) (by decide)
    rw [show ((1 : Nat) : Int) = 1 from rfl] at q
    have q2 := nb (n >>> 1) 1431655765 (by omega) (by decide)
    rw [show ((1431655765 : Nat) : Int) = 1431655765 from rfl] at q2
    rw [q, q2, w4_n ⟨by omega, by omega⟩]
    omega
  rw [e1]
  generalize hA : n - (n >>> 1 &&& 1431655765) = A
  have bA' : A < 16384 := by omega
  have e2 : w4 (bAnd (A : Int) 858993459 + bAnd (bUshr (A : Int) 2) 858993459) = (((A &&& 858993459) + (A >>> 2 &&& 858993459) : Nat) : Int) := by
    have z := hs A 2
    have q := nu A 2 (by omega) (by decide)
    rw [show ((2 : Nat) : Int) = 2 from rfl] at q
    have q2 := nb (A >>> 2) 858993459 (by omega) (by decide)
    have q3 := nb A 858993459 (by omega) (by decide)
    rw [show ((858993459 : Nat) : Int) = 858993459 from rfl] at q2 q3
    have z2 := ha A 858993459
    have z3 := ha (A >>> 2) 858993459
    rw [q, q2, q3, w4_n ⟨by omega, by omega⟩]
    rfl
  rw [e2]
  generalize hB : (A &&& 858993459) + (A >>> 2 &&& 858993459) = B
  have bB : B < 40000 := by
    have z := hs A 2
    have z2 := ha A 858993459
    have z3 := ha (A >>> 2) 858993459
    omega
  have e3 : bAnd (w4 ((B : Int) + bUshr (B : Int) 4)) 252645135 = (((B + (B >>> 4)) &&& 252645135 : Nat) : Int) := by
    have z := hs B 4
    have q := nu B 4 (by omega) (by decide)
    rw [show ((4 : Nat) : Int) = 4 from rfl] at q
    rw [q, w4_n ⟨by omega, by omega⟩]
    exact nb (B + (B >>> 4)) 252645135 (by omega) (by decide)
  rw [e3]
  generalize hC : (B + (B >>> 4)) &&& 252645135 = C
  have bC : C < 80000 := by
    have z := hs B 4
    have z2 := ha (B + (B >>> 4)) 252645135
    omega
  have e4 : w4 ((C : Int) + bUshr (C : Int) 8) = ((C + (C >>> 8) : Nat) : Int) := by
    have z := hs C 8
    have q := nu C 8 (by omega) (by decide)
    rw [show ((8 : Nat) : Int) = 8 from rfl] at q
    rw [q, w4_n ⟨by omega, by omega⟩]
    rfl
  rw [e4]
  generalize hD : C + (C >>> 8) = D
  have bD : D < 160000 := by
    have z := hs C 8
    omega
  have e5 : bAnd (w4 ((D : Int) + bUshr (D : Int) 16)) 63 = (((D + (D >>> 16)) &&& 63 : Nat) : Int) := by
    have z := hs D 16
    have q := nu D 16 (by omega) (by decide)
    rw [show ((16 : Nat) : Int) = 16 from rfl] at q
    rw [q, w4_n ⟨by omega, by omega⟩]
    exact nb (D + (D >>> 16)) 63 (by omega) (by decide)
  rw [e5]
  refine wp_some ?_
  have : pcN n = (D + (D >>> 16)) &&& 63 := by
    unfold pcN
    dsimp only
    rw [hA, hB, hC, hD]
  rw [← this]
  exact k
