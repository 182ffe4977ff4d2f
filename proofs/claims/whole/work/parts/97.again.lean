/-! Bringing the works back: the meaning. -/
def hngJ (N S : Mm) : Nat → Nat → Prop := jn (nW N) (eA N) (eB N) (fun w => S 0 w ≠ 3)
noncomputable def wlb (N S : Mm) : Nat → Nat := Classical.choose (gLab_ex (n := nN N) (J := hngJ N S) jn_sym)
theorem wlb_lab (N S : Mm) : gLab (nN N) (hngJ N S) (wlb N S) := Classical.choose_spec (gLab_ex (n := nN N) (J := hngJ N S) jn_sym)
theorem wlb_le {N S : Mm} {i : Nat} (h : i < nN N) : wlb N S i ≤ i := (wlb_lab N S).1.1 i h
noncomputable def rcB (N S : Mm) (x : Int) : Nat → Int
  | 0 => 0
  | k + 1 => if tb x k then bOr (rcB N S x k) (bShl 1 ((wlb N S (aK N k) : Nat) : Int)) else rcB N S x k
def pwB (N : Mm) (x : Int) : Nat → Int
  | 0 => 0
  | k + 1 => pwB N x k + if tb x k then N 21 k else 0
noncomputable def svB (N S : Mm) (x : Int) : Nat → Int
  | 0 => 0
  | j + 1 => if tb (rcB N S x (nK N)) (wlb N S (oR N j)) = true ∧ svB N S x j + S 3 (oR N j) ≤ pwB N x (nK N) then svB N S x j + S 3 (oR N j) else svB N S x j
def tlB (N S : Mm) : Nat → Int
  | 0 => 0
  | j + 1 => tlB N S j + S 3 (oR N j)
noncomputable def hgB (N S : Mm) (x : Int) : Int := tlB N S (nN N) - svB N S x (nN N)
noncomputable def avB (N S : Mm) (bg ln : Nat → Int) (T : Nat → Int) (x : Int) (k : Nat) : Int :=
  if tb x k then -1 else if bg k = 0 ∧ ¬ tb (rcB N S x (nK N)) (wlb N S (aK N k)) = true then -1 else if T (bOr x (bShl 1 (k : Int))).toNat = -1 then -1 else ln k * hgB N S x + T (bOr x (bShl 1 (k : Int))).toNat
noncomputable def bfB (N S : Mm) (bg ln : Nat → Int) (T : Nat → Int) (x : Int) : Nat → Int
  | 0 => -1
  | k + 1 => if avB N S bg ln T x k = -1 then bfB N S bg ln T x k else if bfB N S bg ln T x k = -1 ∨ avB N S bg ln T x k < bfB N S bg ln T x k then avB N S bg ln T x k else bfB N S bg ln T x k
noncomputable def tabB (N S : Mm) (bg ln : Nat → Int) : Nat → Nat → Int
  | 0 => fun _ => 0
  | i + 1 => fun y => if y = 2 ^ nK N - 1 - (i + 1) then bfB N S bg ln (tabB N S bg ln i) (y : Int) (nK N) else tabB N S bg ln i y
noncomputable def TB (N S : Mm) (bg ln : Nat → Int) : Nat → Int := tabB N S bg ln (2 ^ nK N - 1)
def fsN (f : Nat → Bool) : Nat → Nat
  | 0 => 0
  | n + 1 => if fsN f n < n then fsN f n else if f n then n else n + 1
theorem fsN_s (f : Nat → Bool) : ∀ n, (fsN f n = n ∧ ∀ j, j < n → ¬ f j = true) ∨ (fsN f n < n ∧ f (fsN f n) = true ∧ ∀ j, j < fsN f n → ¬ f j = true)
  | 0 => Or.inl ⟨rfl, fun j hj => absurd hj (Nat.not_lt_zero _)⟩
  | n + 1 => by
    rw [fsN]
    rcases fsN_s f n with ⟨h1, h2⟩ | ⟨h1, h2, h3⟩
    · rw [if_neg (by omega)]
      by_cases e : f n = true
      · rw [if_pos e]
        exact Or.inr ⟨by omega, e, h2⟩
      · rw [if_neg e]
        refine Or.inl ⟨rfl, fun j hj => ?_⟩
        by_cases e2 : j = n
        · rw [e2]; exact e
        · exact h2 j (by omega)
    · rw [if_pos h1]
      exact Or.inr ⟨by omega, h2, h3⟩
theorem fsN_u {f : Nat → Bool} {n k : Nat} (hk : k < n) (h : f k = true) (h2 : ∀ j, j < k → ¬ f j = true) : fsN f n = k := by
  rcases fsN_s f n with ⟨h3, h4⟩ | ⟨h3, h4, h5⟩
  · exact absurd h (h4 k hk)
  · rcases Nat.lt_trichotomy (fsN f n) k with c | c | c
    · exact absurd h4 (h2 _ c)
    · exact c
    · exact absurd h (h5 k c)
noncomputable def mkB (N S : Mm) (bg ln : Nat → Int) : Nat → Int
  | 0 => 0
  | i + 1 => bOr (mkB N S bg ln i) (bShl 1 ((fsN (fun k => decide (avB N S bg ln (TB N S bg ln) (mkB N S bg ln i) k = TB N S bg ln (mkB N S bg ln i).toNat)) (nK N) : Nat) : Int))
noncomputable def ptB (N S : Mm) (bg ln : Nat → Int) (i : Nat) : Nat := fsN (fun k => decide (avB N S bg ln (TB N S bg ln) (mkB N S bg ln i) k = TB N S bg ln (mkB N S bg ln i).toNat)) (nK N)
section AG
variable {N S M M2 : Mm} {bg ln T T2 : Nat → Int} {x : Int} {k : Nat}
/-- one more bit -/
theorem bit1 {n : Nat} (hn : n ≤ 9) (hx : 0 ≤ x ∧ x < (2 ^ n : Nat)) (hk : k < n) : (0 ≤ bOr x (bShl 1 (k : Int)) ∧ bOr x (bShl 1 (k : Int)) < (2 ^ n : Nat)) ∧ (∀ j, tb (bOr x (bShl 1 (k : Int))) j = (tb x j || decide (k = j))) ∧ (tb x k = false → x < bOr x (bShl 1 (k : Int))) ∧ (tb x k = true → bOr x (bShl 1 (k : Int)) = x) := by
  have hp : (2 ^ n : Nat) ≤ 2 ^ 9 := Nat.pow_le_pow_right (by decide) hn
  have hp' : (2 ^ 9 : Nat) = 512 := by decide
  have hbl : bShl 1 (k : Int) = (2 ^ k : Nat) := by rw [bL (by omega) (by omega), Int.toNat_natCast]
  have hl2 : (2 ^ k : Nat) < 2 ^ n := Nat.pow_lt_pow_right (by decide) hk
  have hz : 0 < (2 ^ k : Nat) := Nat.two_pow_pos _
  have h1 := bO_lt (n := n) (x := x) (y := bShl 1 (k : Int)) (by omega) hx.1 hx.2 (by omega) (by omega)
  have h2 : ∀ j, tb (bOr x (bShl 1 (k : Int))) j = (tb x j || decide (k = j)) := fun j => by
    rw [tb_or hx.1 (by omega) (by omega) (by omega), tb_pow (by omega) (by omega), Int.toNat_natCast]
  refine ⟨h1, h2, fun h => ?_, fun h => ?_⟩
  · have hle : x ≤ bOr x (bShl 1 (k : Int)) := by
      rw [bO hx.1 (by omega) (by omega) (by omega)]
      have := Nat.left_le_or (n := x.toNat) (m := (bShl 1 (k : Int)).toNat)
      omega
    have hne : x ≠ bOr x (bShl 1 (k : Int)) := fun e => by
      have z := h2 k
      rw [← e, h, decide_eq_true rfl] at z
      exact absurd z (by decide)
    omega
  · refine tb_ext h1.1 hx.1 (fun j => ?_)
    rw [h2]
    by_cases e : k = j
    · rw [← e, h, Bool.true_or]
    · rw [decide_eq_false e, Bool.or_false]
theorem av_cg (h : tb x k = false → T (bOr x (bShl 1 (k : Int))).toNat = T2 (bOr x (bShl 1 (k : Int))).toNat) : avB N S bg ln T x k = avB N S bg ln T2 x k := by
  unfold avB
  cases e : tb x k
  · rw [h e]
  · rfl
theorem bf_cg (n : Nat) (h : ∀ k, k < n → tb x k = false → T (bOr x (bShl 1 (k : Int))).toNat = T2 (bOr x (bShl 1 (k : Int))).toNat) : bfB N S bg ln T x n = bfB N S bg ln T2 x n := by
  induction n with
  | zero => rfl
  | succ n ih =>
    rw [bfB, bfB, ih (fun k hk => h k (by omega)), av_cg (h n (by omega))]
theorem tab_st {i y : Nat} (hy : 2 ^ nK N - 1 - i ≤ y) : ∀ m : Nat, tabB N S bg ln (i + m) y = tabB N S bg ln i y ∨ 2 ^ nK N - 1 ≤ i + m
  | 0 => Or.inl rfl
  | m + 1 => by
    by_cases c : 2 ^ nK N - 1 < i + (m + 1)
    · exact Or.inr (by omega)
    · rcases tab_st hy m with h | h
      · refine Or.inl ?_
        show (if y = 2 ^ nK N - 1 - (i + m + 1) then _ else _) = _
        rw [if_neg (by omega)]
        exact h
      · exact Or.inr (by omega)
theorem tab_T {i y : Nat} (hi : i ≤ 2 ^ nK N - 1) (hy : 2 ^ nK N - 1 - i ≤ y) : tabB N S bg ln i y = TB N S bg ln y := by
  have key : ∀ m : Nat, i + m ≤ 2 ^ nK N - 1 → tabB N S bg ln (i + m) y = tabB N S bg ln i y := fun m => by
    induction m with
    | zero => exact fun _ => rfl
    | succ m ih =>
      intro h
      show (if y = 2 ^ nK N - 1 - (i + m + 1) then _ else _) = _
      rw [if_neg (by omega)]
      exact ih (by omega)
  unfold TB
  have := key (2 ^ nK N - 1 - i) (by omega)
  rw [show i + (2 ^ nK N - 1 - i) = 2 ^ nK N - 1 by omega] at this
  exact this.symm
theorem TB_full : TB N S bg ln (2 ^ nK N - 1) = 0 := by
  rw [← tab_T (i := 0) (by omega) (by omega)]
  rfl
theorem TB_rec (hN : NC N) {y : Nat} (hy : y < 2 ^ nK N - 1) : TB N S bg ln y = bfB N S bg ln (TB N S bg ln) (y : Int) (nK N) := by
  have h9 := hN.k9
  rw [← tab_T (i := 2 ^ nK N - 1 - y) (by omega) (by omega)]
  obtain ⟨i, hi⟩ : ∃ i, 2 ^ nK N - 1 - y = i + 1 := ⟨2 ^ nK N - 1 - y - 1, by omega⟩
  rw [hi]
  show (if y = 2 ^ nK N - 1 - (i + 1) then _ else _) = _
  rw [if_pos (by omega)]
  refine bf_cg _ (fun k hk ht => tab_T (by omega) ?_)
  have b := bit1 (x := (y : Int)) (n := nK N) h9 (by omega) hk
  have := b.2.2.1 ht
  omega
theorem rcB_b (hN : NC N) : ∀ k : Nat, k ≤ nK N → 0 ≤ rcB N S x k ∧ rcB N S x k < (2 ^ 8 : Nat) ∧ ∀ i, tb (rcB N S x k) i = true ↔ ∃ j, j < k ∧ tb x j = true ∧ wlb N S (aK N j) = i
  | 0, _ => ⟨Int.le_refl _, by show (0 : Int) < _; decide, fun i => by rw [rcB, tb_zero]; exact ⟨fun h => (by cases h), fun ⟨j, h, _⟩ => absurd h (Nat.not_lt_zero _)⟩⟩
  | k + 1, hk => by
    have h8 := hN.n8
    have ih := rcB_b hN k (by omega)
    have hw := wlb_le (S := S) (hN.ck k (by omega)).1.2
    have hw2 := (hN.ck k (by omega)).1.2
    rw [rcB]
    have hbl : bShl 1 ((wlb N S (aK N k) : Nat) : Int) = (2 ^ (wlb N S (aK N k)) : Nat) := by rw [bL (by omega) (by omega), Int.toNat_natCast]
    have hl2 : (2 ^ (wlb N S (aK N k)) : Nat) < 2 ^ 8 := Nat.pow_lt_pow_right (by decide) (by omega)
    have hz : 0 < (2 ^ (wlb N S (aK N k)) : Nat) := Nat.two_pow_pos _
    have h28 : (2 ^ 8 : Nat) = 256 := by decide
    by_cases e : tb x k = true
    · rw [if_pos e]
      have h1 := bO_lt (n := 8) (x := rcB N S x k) (y := bShl 1 ((wlb N S (aK N k) : Nat) : Int)) (by omega) ih.1 ih.2.1 (by omega) (by omega)
      refine ⟨h1.1, h1.2, fun i => ?_⟩
      rw [tb_or ih.1 (by omega) (by omega) (by omega), tb_pow (by omega) (by omega), Int.toNat_natCast, Bool.or_eq_true, ih.2.2, decide_eq_true_iff]
      constructor
      · rintro (⟨j, a, b, c⟩ | h)
        · exact ⟨j, by omega, b, c⟩
        · exact ⟨k, by omega, e, h⟩
      · rintro ⟨j, a, b, c⟩
        by_cases e2 : j = k
        · rw [e2] at c; exact Or.inr c
        · exact Or.inl ⟨j, by omega, b, c⟩
    · rw [if_neg e]
      refine ⟨ih.1, ih.2.1, fun i => ?_⟩
      rw [ih.2.2]
      constructor
      · rintro ⟨j, a, b, c⟩
        exact ⟨j, by omega, b, c⟩
      · rintro ⟨j, a, b, c⟩
        by_cases e2 : j = k
        · rw [e2] at b; exact absurd b e
        · exact ⟨j, by omega, b, c⟩
theorem pwB_b (hN : NC N) : ∀ k : Nat, k ≤ nK N → 0 ≤ pwB N x k ∧ pwB N x k ≤ 5000 * k
  | 0, _ => ⟨Int.le_refl _, Int.le_refl _⟩
  | k + 1, hk => by
    have ih := pwB_b hN k (by omega)
    have := (hN.ck k (by omega)).2.1
    rw [pwB]
    split <;> omega
theorem svB_b (hN : NC N) (hS : sV N S) : ∀ j : Nat, j ≤ nN N → 0 ≤ svB N S x j ∧ svB N S x j ≤ tlB N S j ∧ tlB N S j ≤ 2000 * j
  | 0, _ => ⟨Int.le_refl _, Int.le_refl _, Int.le_refl _⟩
  | j + 1, hj => by
    have h8 := hN.n8
    have ih := svB_b hN hS j (by omega)
    have h1 := (hN.cr.1 j (by omega)).2
    have := hS.2.1 (oR N j) (by omega)
    rw [svB, tlB]
    split <;> omega
theorem hgB_b (hN : NC N) (hS : sV N S) : 0 ≤ hgB N S x ∧ hgB N S x ≤ 16000 := by
  have h8 := hN.n8
  have := svB_b (x := x) hN hS (nN N) (Nat.le_refl _)
  unfold hgB
  omega
/-- how far the numbers go -/
def tOK (ln T : Nat → Int) (f : Nat) : Prop := ∀ y : Nat, y ≤ f → -1 ≤ T y ∧ T y ≤ 1600000 * ((f : Int) - y)
theorem mulb {a b : Int} (ha : 1 ≤ a ∧ a ≤ 100) (hb : 0 ≤ b ∧ b ≤ 16000) : 0 ≤ a * b ∧ a * b ≤ 1600000 := by
  refine ⟨Int.mul_nonneg (by omega) hb.1, ?_⟩
  have h1 : a * b ≤ 100 * b := Int.mul_le_mul_of_nonneg_right ha.2 hb.1
  omega
theorem av_b (hN : NC N) (hS : sV N S) (hl : ∀ k, k < 9 → 1 ≤ ln k ∧ ln k ≤ 100) (hx : 0 ≤ x ∧ x < (2 ^ nK N : Nat)) (hk : k < nK N) (hT : ∀ y : Nat, x < y → y ≤ 2 ^ nK N - 1 → -1 ≤ T y ∧ T y ≤ 1600000 * (((2 ^ nK N - 1 : Nat) : Int) - y)) : -1 ≤ avB N S bg ln T x k ∧ avB N S bg ln T x k ≤ 1600000 * (((2 ^ nK N - 1 : Nat) : Int) - x) := by
  have h9 := hN.k9
  unfold avB
  have b := bit1 (x := x) (n := nK N) h9 hx hk
  cases e : tb x k
  · rw [if_neg (by decide)]
    have b3 := b.2.2.1 e
    have hh := hgB_b (x := x) hN hS
    have hm := mulb (hl k (by omega)) hh
    have ht := hT (bOr x (bShl 1 (k : Int))).toNat (by omega) (by omega)
    split
    · omega
    · split
      · omega
      · omega
  · rw [if_pos rfl]
    omega
theorem bf_b (hN : NC N) (hS : sV N S) (hl : ∀ k, k < 9 → 1 ≤ ln k ∧ ln k ≤ 100) (hx : 0 ≤ x ∧ x < (2 ^ nK N : Nat)) (hT : ∀ y : Nat, x < y → y ≤ 2 ^ nK N - 1 → -1 ≤ T y ∧ T y ≤ 1600000 * (((2 ^ nK N - 1 : Nat) : Int) - y)) : ∀ n, n ≤ nK N → -1 ≤ bfB N S bg ln T x n ∧ bfB N S bg ln T x n ≤ 1600000 * (((2 ^ nK N - 1 : Nat) : Int) - x)
  | 0, _ => ⟨Int.le_refl _, by show (-1 : Int) ≤ _; omega⟩
  | n + 1, hn => by
    have ih := bf_b hN hS hl hx hT n (by omega)
    have := av_b (bg := bg) hN hS hl hx (show n < nK N by omega) hT
    rw [bfB]
    split
    · exact ih
    · split
      · exact this
      · exact ih
theorem TB_b (hN : NC N) (hS : sV N S) (hl : ∀ k, k < 9 → 1 ≤ ln k ∧ ln k ≤ 100) : ∀ m y : Nat, y ≤ 2 ^ nK N - 1 → 2 ^ nK N - 1 - y ≤ m → -1 ≤ TB N S bg ln y ∧ TB N S bg ln y ≤ 1600000 * (((2 ^ nK N - 1 : Nat) : Int) - y)
  | 0, y, hy, hm => by
    rw [show y = 2 ^ nK N - 1 by omega, TB_full]
    omega
  | m + 1, y, hy, hm => by
    by_cases e : y = 2 ^ nK N - 1
    · rw [e, TB_full]
      omega
    · rw [TB_rec hN (by omega)]
      exact bf_b hN hS hl (by omega) (fun z h1 h2 => TB_b hN hS hl m z h2 (by omega)) (nK N) (Nat.le_refl _)
/-- some one is the best -/
theorem bf_ex : ∀ n, bfB N S bg ln T x n ≠ -1 → ∃ k, k < n ∧ avB N S bg ln T x k = bfB N S bg ln T x n
  | 0, h => absurd rfl h
  | n + 1, h => by
    rw [bfB] at h ⊢
    by_cases c1 : avB N S bg ln T x n = -1
    · rw [if_pos c1] at h ⊢
      obtain ⟨k, h1, h2⟩ := bf_ex n h
      exact ⟨k, by omega, h2⟩
    · rw [if_neg c1] at h ⊢
      by_cases c2 : bfB N S bg ln T x n = -1 ∨ avB N S bg ln T x n < bfB N S bg ln T x n
      · rw [if_pos c2] at h ⊢
        exact ⟨n, by omega, rfl⟩
      · rw [if_neg c2] at h ⊢
        obtain ⟨k, h1, h2⟩ := bf_ex n h
        exact ⟨k, by omega, h2⟩
theorem pop_le {x : Int} : ∀ n, popc x n ≤ n
  | 0 => Int.le_refl _
  | n + 1 => by
    have := pop_le (x := x) n
    show popc x n + (if tb x n then 1 else 0) ≤ _
    split <;> omega
/-- the way that is gone -/
theorem mk_ok (hN : NC N) (h0 : TB N S bg ln 0 ≠ -1) : ∀ i, i ≤ nK N → (0 ≤ mkB N S bg ln i ∧ mkB N S bg ln i < (2 ^ nK N : Nat)) ∧ popc (mkB N S bg ln i) (nK N) = i ∧ TB N S bg ln (mkB N S bg ln i).toNat ≠ -1 ∧
    (i < nK N → ptB N S bg ln i < nK N ∧ tb (mkB N S bg ln i) (ptB N S bg ln i) = false ∧ avB N S bg ln (TB N S bg ln) (mkB N S bg ln i) (ptB N S bg ln i) = TB N S bg ln (mkB N S bg ln i).toNat ∧ ∀ k, k < ptB N S bg ln i → avB N S bg ln (TB N S bg ln) (mkB N S bg ln i) k ≠ TB N S bg ln (mkB N S bg ln i).toNat) := by
  have h9 := hN.k9
  have hpk := Nat.two_pow_pos (nK N)
  have last : ∀ i, i < nK N → (0 ≤ mkB N S bg ln i ∧ mkB N S bg ln i < (2 ^ nK N : Nat)) → popc (mkB N S bg ln i) (nK N) = i → TB N S bg ln (mkB N S bg ln i).toNat ≠ -1 → ptB N S bg ln i < nK N ∧ tb (mkB N S bg ln i) (ptB N S bg ln i) = false ∧ avB N S bg ln (TB N S bg ln) (mkB N S bg ln i) (ptB N S bg ln i) = TB N S bg ln (mkB N S bg ln i).toNat ∧ ∀ k, k < ptB N S bg ln i → avB N S bg ln (TB N S bg ln) (mkB N S bg ln i) k ≠ TB N S bg ln (mkB N S bg ln i).toNat := fun i hi a1 a2 a3 => by
    have hne : (mkB N S bg ln i).toNat < 2 ^ nK N - 1 := by
      rcases Nat.lt_or_ge (mkB N S bg ln i).toNat (2 ^ nK N - 1) with c | c
      · exact c
      · exfalso
        have e : mkB N S bg ln i = ((2 ^ nK N - 1 : Nat) : Int) := by omega
        have : ∀ n, n ≤ nK N → popc ((2 ^ nK N - 1 : Nat) : Int) n = n := fun n => by
          induction n with
          | zero => exact fun _ => rfl
          | succ n ih =>
            intro hn
            show popc _ n + (if tb ((2 ^ nK N - 1 : Nat) : Int) n then 1 else 0) = _
            have : tb ((2 ^ nK N - 1 : Nat) : Int) n = true := by
              unfold tb
              rw [Int.toNat_natCast, Nat.testBit_two_pow_sub_one]
              exact decide_eq_true (by omega)
            rw [ih (by omega), if_pos this]
            omega
        have h := this (nK N) (Nat.le_refl _)
        rw [← e, a2] at h
        omega
    have hr := TB_rec (S := S) (bg := bg) (ln := ln) hN hne
    rw [show (((mkB N S bg ln i).toNat : Nat) : Int) = mkB N S bg ln i by omega] at hr
    obtain ⟨k, k1, k2⟩ := bf_ex (nK N) (by rw [← hr]; exact a3)
    rw [← hr] at k2
    have hs := fsN_s (fun k => decide (avB N S bg ln (TB N S bg ln) (mkB N S bg ln i) k = TB N S bg ln (mkB N S bg ln i).toNat)) (nK N)
    have hs2 : ptB N S bg ln i < nK N ∧ decide (avB N S bg ln (TB N S bg ln) (mkB N S bg ln i) (ptB N S bg ln i) = TB N S bg ln (mkB N S bg ln i).toNat) = true ∧ ∀ j, j < ptB N S bg ln i → ¬ decide (avB N S bg ln (TB N S bg ln) (mkB N S bg ln i) j = TB N S bg ln (mkB N S bg ln i).toNat) = true := by
      rcases hs with ⟨q1, q2⟩ | q
      · exact absurd (decide_eq_true k2) (q2 k k1)
      · exact q
    have hv := of_decide_eq_true hs2.2.1
    refine ⟨hs2.1, ?_, hv, fun j hj z => hs2.2.2 j hj (decide_eq_true z)⟩
    cases e : tb (mkB N S bg ln i) (ptB N S bg ln i)
    · rfl
    · unfold avB at hv
      rw [if_pos e] at hv
      exact absurd hv.symm a3
  intro i
  induction i with
  | zero =>
    intro _
    have p0 : popc (mkB N S bg ln 0) (nK N) = ((0 : Nat) : Int) := sm_zero (fun j _ => by show (if tb (0 : Int) j = true then (1 : Int) else 0) = 0; rw [tb_zero]; rfl)
    have b0 : 0 ≤ mkB N S bg ln 0 ∧ mkB N S bg ln 0 < (2 ^ nK N : Nat) := ⟨Int.le_refl _, by show (0 : Int) < _; omega⟩
    exact ⟨b0, p0, h0, fun hi => last 0 hi b0 p0 h0⟩
  | succ i ih =>
    intro hi
    obtain ⟨a1, a2, a3, a4⟩ := ih (by omega)
    obtain ⟨c1, c2, c3, c4⟩ := a4 (by omega)
    have em : mkB N S bg ln (i + 1) = bOr (mkB N S bg ln i) (bShl 1 ((ptB N S bg ln i : Nat) : Int)) := rfl
    have b := bit1 (x := mkB N S bg ln i) (n := nK N) h9 a1 c1
    have b0 : 0 ≤ mkB N S bg ln (i + 1) ∧ mkB N S bg ln (i + 1) < (2 ^ nK N : Nat) := by rw [em]; exact b.1
    have p0 : popc (mkB N S bg ln (i + 1)) (nK N) = ((i + 1 : Nat) : Int) := by
      have := sm_upd (f := fun k => if tb (mkB N S bg ln i) k then (1 : Int) else 0) (g := fun k => if tb (mkB N S bg ln (i + 1)) k then (1 : Int) else 0) (n := nK N) (p := ptB N S bg ln i) (x := 1) c1 (fun j hj => by
        show (if tb (mkB N S bg ln (i + 1)) j = true then (1 : Int) else 0) = (if tb (mkB N S bg ln i) j = true then (1 : Int) else 0) + if j = ptB N S bg ln i then 1 else 0
        rw [em, b.2.1 j]
        by_cases e : j = ptB N S bg ln i
        · rw [if_pos e, e, c2, decide_eq_true rfl]
          rfl
        · rw [if_neg e, decide_eq_false (fun z => e z.symm), Bool.or_false, Int.add_zero])
      have e2 : popc (mkB N S bg ln (i + 1)) (nK N) = popc (mkB N S bg ln i) (nK N) + 1 := this
      rw [e2, a2]
      omega
    have t0 : TB N S bg ln (mkB N S bg ln (i + 1)).toNat ≠ -1 := by
      rw [em]
      intro z
      unfold avB at c3
      rw [if_neg (by rw [c2]; decide)] at c3
      by_cases q : bg (ptB N S bg ln i) = 0 ∧ ¬ tb (rcB N S (mkB N S bg ln i) (nK N)) (wlb N S (aK N (ptB N S bg ln i))) = true
      · rw [if_pos q] at c3
        exact a3 c3.symm
      · rw [if_neg q, if_pos z] at c3
        exact a3 c3.symm
    exact ⟨b0, p0, t0, fun hi2 => last (i + 1) hi2 b0 p0 t0⟩
end AG

section AG2
variable {N S M M0 M2 : Mm} {bg ln : Nat → Int} {x : Int} {k : Nat}
/-- what the first object's search reads -/
def agC (N S : Mm) (bg ln : Nat → Int) (M : Mm) : Prop := nCl N M ∧ (∀ i, i < 8 → M 25 i = S 3 i) ∧ (∀ i : Nat, i < nN N → M 131 i = wlb N S i) ∧ ∀ k, k < 9 → M 126 k = bg k ∧ M 127 k = ln k
theorem w195 {P : Int → Prop} (hN : NC N) (h : agC N S bg ln M) (hx : 0 ≤ x ∧ x < 512) (kk : P (rcB N S x (nK N))) : Wp (f195 x M) P := by
  have h9 := hN.k9
  have h8 := hN.n8
  unfold f195 f195_5
  refine wp_lp2 (fun n a y => ∃ j : Nat, y = j ∧ j ≤ nK N ∧ n = nK N - j ∧ a = rcB N S x j) (nK N) (by omega) ⟨0, rfl, by omega, rfl, rfl⟩ ?_
  rintro n a y ⟨j, rfl, a1, a2, a3⟩
  dsimp only
  unfold lb195_5
  rw [h.1.1, hN.k, bT hx.1 (by omega) (by omega) (by omega), Int.toNat_natCast]
  refine wp_ite (fun c => ?_) (fun c => wp_o (wp_some (by rw [a3, show j = nK N by omega]; exact kk)))
  have hj := hN.ck j (by omega)
  rw [h.1.2 20 (by decide) (by decide), hj.1.1, Int.toNat_natCast, h.2.2.1 _ hj.1.2]
  unfold f195_41
  by_cases e : tb x j = true
  · rw [if_pos e]
    exact wp_pos rfl (wp_gd (by omega) (wp_gd (by omega) (wp_gd (by omega) (wp_i2 (n - 1) (by omega) ⟨j + 1, by omega, by omega, by omega, by rw [rcB, if_pos e, a3]⟩))))
  · rw [if_neg e]
    exact wp_neg (by decide) (wp_gd (by omega) (wp_i2 (n - 1) (by omega) ⟨j + 1, by omega, by omega, by omega, by rw [rcB, if_neg e, a3]⟩))
theorem w197 {P : Int → Prop} (hN : NC N) (hS : sV N S) (h : agC N S bg ln M) (hx : 0 ≤ x ∧ x < 512) (kk : P (hgB N S x)) : Wp (f197 24 x M) P := by
  have h9 := hN.k9
  have h8 := hN.n8
  have e28 : (2 ^ 8 : Nat) = 256 := by decide
  unfold f197 f197_6
  refine wp_lp2 (fun n a y => ∃ j : Nat, y = j ∧ j ≤ nK N ∧ n = nK N - j ∧ a = pwB N x j) (nK N) (by omega) ⟨0, rfl, by omega, rfl, rfl⟩ ?_
  rintro n a y ⟨j, rfl, a1, a2, a3⟩
  dsimp only
  unfold lb197_6
  rw [h.1.1, hN.k, bT hx.1 (by omega) (by omega) (by omega), Int.toNat_natCast]
  refine wp_ite (fun c => ?_) (fun c => wp_o (wp_bind (w195 hN h hx ?_)))
  · have hj := (hN.ck j (by omega)).2.1
    have pb := pwB_b (x := x) hN j (by omega)
    rw [h.1.2 21 (by decide) (by decide)]
    by_cases e : tb x j = true
    · rw [if_pos e]
      exact wp_pos rfl (wp_gd (by omega) (wp_gd (by omega) (wp_gd (by omega) (wp_i2 (n - 1) (by omega) ⟨j + 1, by omega, by omega, by omega, by rw [pwB, if_pos e, a3]⟩))))
    · rw [if_neg e]
      exact wp_neg (by decide) (wp_gd (by omega) (wp_gd (by omega) (wp_i2 (n - 1) (by omega) ⟨j + 1, by omega, by omega, by omega, by rw [pwB, if_neg e, a3]⟩)))
  · have ea : a = pwB N x (nK N) := by rw [a3, show j = nK N by omega]
    have pb := pwB_b (x := x) hN (nK N) (Nat.le_refl _)
    have rb := rcB_b (S := S) (x := x) hN (nK N) (Nat.le_refl _)
    unfold f197_64
    refine wp_lp3 (fun n sv tl y => ∃ j : Nat, y = j ∧ j ≤ nN N ∧ n = nN N - j ∧ sv = svB N S x j ∧ tl = tlB N S j) (nN N) (by omega) ⟨0, rfl, by omega, rfl, rfl, rfl⟩ ?_
    clear a1 a2 a3 c
    rintro n2 sv tl y ⟨i, rfl, b1, b2, b3, b4⟩
    dsimp only
    unfold lb197_64
    rw [h.1.1, hN.n, Int.toNat_natCast]
    have sb := svB_b (x := x) hN hS i (by omega)
    refine wp_ite (fun c => ?_) (fun c => wp_o (wp_gd (by omega) (wp_some ?_)))
    · have hi : i < nN N := by omega
      have ho := hN.cr.1 i hi
      have hs := hS.2.1 (oR N i) (by omega)
      have hwl := wlb_le (S := S) ho.2
      rw [h.1.2 13 (by decide) (by decide), ho.1, Int.toNat_natCast, h.2.1 _ (by omega), h.2.2.1 _ ho.2, bT rb.1 (by omega) (by omega) (by omega), Int.toNat_natCast]
      unfold f197_131
      refine wp_gd (by omega) (wp_gd (by omega) (wp_gd (by omega) ?_))
      by_cases e : tb (rcB N S x (nK N)) (wlb N S (oR N i)) = true
      · rw [if_pos e]
        refine wp_pos rfl (wp_gd (by omega) (wp_ite (fun q => ?_) (fun q => ?_)))
        · exact wp_gd (by omega) (wp_i3 (n2 - 1) (by omega) ⟨i + 1, by omega, by omega, by omega, by rw [svB, if_neg (fun z => by omega)]; exact b3, by rw [tlB, b4]⟩)
        · exact wp_gd (by omega) (wp_i3 (n2 - 1) (by omega) ⟨i + 1, by omega, by omega, by omega, by rw [svB, if_pos ⟨e, by omega⟩, b3], by rw [tlB, b4]⟩)
      · rw [if_neg e]
        exact wp_neg (by decide) (wp_gd (by omega) (wp_i3 (n2 - 1) (by omega) ⟨i + 1, by omega, by omega, by omega, by rw [svB, if_neg (fun z => e z.1)]; exact b3, by rw [tlB, b4]⟩))
    · rw [b3, b4, show i = nN N by omega]
      exact kk
/-- one work, the first object -/
theorem w191 {T : Nat → Int} {P : Int → Prop} (hN : NC N) (hS : sV N S) (h : agC N S bg ln M) (hl : ∀ k, k < 9 → 1 ≤ ln k ∧ ln k ≤ 100) (hx : 0 ≤ x ∧ x < (2 ^ nK N : Nat)) (hk : k < nK N) (h130 : M 130 x.toNat = hgB N S x)
    (hT : ∀ y : Nat, x < y → y ≤ 2 ^ nK N - 1 → M 129 y = T y ∧ -1 ≤ T y ∧ T y ≤ 900000000) (kk : P (avB N S bg ln T x k)) : Wp (f191 x (rcB N S x (nK N)) k M) P := by
  have h9 := hN.k9
  have h8 := hN.n8
  have e28 : (2 ^ 8 : Nat) = 256 := by decide
  have pk := pw2_k hN
  have hp := Nat.two_pow_pos (nK N)
  have b := bit1 (x := x) (n := nK N) h9 hx hk
  have hj := hN.ck k hk
  have rb := rcB_b (S := S) (x := x) hN (nK N) (Nat.le_refl _)
  have hwl := wlb_le (S := S) hj.1.2
  have hh := hgB_b (x := x) hN hS
  have hm := mulb (hl k (by omega)) hh
  unfold f191 f191_30
  rw [Int.toNat_natCast, (h.2.2.2 k (by omega)).1, h.1.2 20 (by decide) (by decide), hj.1.1, Int.toNat_natCast, h.2.2.1 _ hj.1.2, bT rb.1 (by omega) (by omega) (by omega), Int.toNat_natCast]
  have go : ∀ f : Int, (f = 0 ∨ f = 1) → (f = 0 ↔ (bg k = 0 ∧ ¬ tb (rcB N S x (nK N)) (wlb N S (aK N k)) = true)) → Wp (if (bOr x (bShl 1 (k : Int))) = x then (some (-1)) else (f191_51 x k f (bOr x (bShl 1 (k : Int))) M)) P := fun f f1 f2 => by
    unfold avB at kk
    cases e : tb x k
    · have b3 := b.2.2.1 e
      rw [e, if_neg (by decide)] at kk
      refine wp_neg (by omega) ?_
      unfold f191_51
      have ht := hT (bOr x (bShl 1 (k : Int))).toNat (by omega) (by omega)
      refine wp_ite (fun c => ?_) (fun c => ?_)
      · rw [if_pos (f2.mp c)] at kk
        exact wp_some kk
      · rw [if_neg (fun z => c (f2.mpr z))] at kk
        rw [ht.1, Int.toNat_natCast, (h.2.2.2 k (by omega)).2, h130]
        refine wp_gd (by omega) (wp_ite (fun c2 => ?_) (fun c2 => ?_))
        · rw [if_pos c2] at kk
          exact wp_some kk
        · rw [if_neg c2] at kk
          exact wp_gd (by omega) (wp_gd (by omega) (wp_gd ⟨by omega, by omega⟩ (wp_gd ⟨by omega, by omega⟩ (wp_some kk))))
    · rw [e, if_pos rfl] at kk
      exact wp_pos (b.2.2.2 e) (wp_some kk)
  refine wp_gd (by omega) (wp_ite (fun c => wp_gd (by omega) ?_) (fun c => go 1 (Or.inr rfl) ⟨fun z => absurd z (by decide), fun z => absurd z.1 c⟩))
  by_cases e : tb (rcB N S x (nK N)) (wlb N S (aK N k)) = true
  · rw [if_pos e]
    exact wp_pos rfl (go 1 (Or.inr rfl) ⟨fun z => absurd z (by decide), fun z => absurd e z.2⟩)
  · rw [if_neg e]
    exact wp_neg (by decide) (go 0 (Or.inl rfl) ⟨fun _ => ⟨c, e⟩, fun _ => rfl⟩)
theorem w194 {T : Nat → Int} {P : Int → Prop} (hN : NC N) (hS : sV N S) (h : agC N S bg ln M) (hl : ∀ k, k < 9 → 1 ≤ ln k ∧ ln k ≤ 100) (hx : 0 ≤ x ∧ x < (2 ^ nK N : Nat)) (h130 : M 130 x.toNat = hgB N S x)
    (hT : ∀ y : Nat, x < y → y ≤ 2 ^ nK N - 1 → M 129 y = T y ∧ -1 ≤ T y ∧ T y ≤ 900000000) (kk : P (bfB N S bg ln T x (nK N))) : Wp (f194 x M) P := by
  have h9 := hN.k9
  have pk := pw2_k hN
  unfold f194
  refine wp_bind (w195 hN h (by omega) ?_)
  unfold f194_13
  refine wp_lp2 (fun n a y => ∃ j : Nat, y = j ∧ j ≤ nK N ∧ n = nK N - j ∧ a = bfB N S bg ln T x j) (nK N) (by omega) ⟨0, rfl, by omega, rfl, rfl⟩ ?_
  rintro n a y ⟨j, rfl, a1, a2, a3⟩
  dsimp only
  unfold lb194_13
  rw [h.1.1, hN.k]
  refine wp_ite (fun c => wp_bind (w191 (T := T) hN hS h hl hx (by omega) h130 hT ?_)) (fun c => wp_o (wp_some (by rw [a3, show j = nK N by omega]; exact kk)))
  have es : bfB N S bg ln T x (j + 1) = if avB N S bg ln T x j = -1 then bfB N S bg ln T x j else if bfB N S bg ln T x j = -1 ∨ avB N S bg ln T x j < bfB N S bg ln T x j then avB N S bg ln T x j else bfB N S bg ln T x j := rfl
  unfold f194_51 f194_54
  refine wp_ite (fun c2 => wp_gd (by omega) (wp_i2 (n - 1) (by omega) ⟨j + 1, by omega, by omega, by omega, ?_⟩)) (fun c2 => wp_ite (fun c3 => wp_gd (by omega) (wp_i2 (n - 1) (by omega) ⟨j + 1, by omega, by omega, by omega, ?_⟩)) (fun c3 => wp_ite (fun c4 => wp_gd (by omega) (wp_i2 (n - 1) (by omega) ⟨j + 1, by omega, by omega, by omega, ?_⟩)) (fun c4 => wp_gd (by omega) (wp_i2 (n - 1) (by omega) ⟨j + 1, by omega, by omega, by omega, ?_⟩))))
  · rw [es, if_pos c2]; exact a3
  · rw [es, if_neg c2, if_pos (Or.inl (by omega))]
  · rw [es, if_neg c2, if_pos (Or.inr (by omega))]
  · rw [es, if_neg c2, if_neg (by omega)]; exact a3
/-- the first object's search -/
theorem w192 (hN : NC N) (hS : sV N S) (hcl : nCl N M) (h26 : ∀ w, w < 14 → M 26 w = S 0 w) (h25 : ∀ i, i < 8 → M 25 i = S 3 i) (hbl : ∀ k, k < 9 → M 126 k = bg k ∧ M 127 k = ln k) (hl : ∀ k, k < 9 → 1 ≤ ln k ∧ ln k ≤ 100) :
    Wp (f192 24 M) (fun r => (∀ b, (b < 128 ∨ 131 < b) → r.2 b = M b) ∧ ((TB N S bg ln 0 = -1 ∧ r.1 = 0) ∨ (TB N S bg ln 0 ≠ -1 ∧ r.1 = 1 ∧ r.2 129 0 = TB N S bg ln 0 ∧ ∀ i, i < nK N → r.2 128 i = ptB N S bg ln i))) := by
  have h9 := hN.k9
  have h8 := hN.n8
  have pk := pw2_k hN
  have hp := Nat.two_pow_pos (nK N)
  unfold f192
  refine wp_bind (w213 (n := nN N) (nw := nW N) (G := wlb N S) (A := eA N) (B := eB N) (U := fun w => S 0 w ≠ 3) (by rw [hcl.1]; exact hN.n) h8 (by rw [hcl.1]; exact hN.w) hN.w14 (fun w hw => by rw [hcl.r (b := 14) (by decide) (by decide)]; exact (hN.cw w hw).1.1) (fun w hw => by rw [hcl.r (b := 15) (by decide) (by decide)]; exact (hN.cw w hw).2.1.1) (fun w hw => ⟨(hN.cw w hw).1.2, (hN.cw w hw).2.1.2⟩) (fun w hw => ?_) (by decide) (by decide) (by decide) (by decide) (wlb_lab N S) (fun M1 a1 a2 => ?_))
  · have := hN.w14
    rw [h26 w (by omega)]
    constructor
    · intro z
      by_cases e : S 0 w = 0
      · exact Or.inl e
      · exact Or.inr ⟨by decide, z⟩
    · rintro (z | z)
      · omega
      · exact z.2
  have e32 : M1 3 2 = nK N := by rw [a1 3 (by decide), hcl.1]; exact hN.k
  rw [e32, bL (by omega) (by omega), Int.toNat_natCast]
  have ag : ∀ M2 : Mm, (∀ b, (b < 128 ∨ 130 < b) → M2 b = M1 b) → agC N S bg ln M2 := fun M2 g => ⟨hcl.to (by rw [g 3 (by omega), a1 3 (by decide)]) (fun b q1 q2 => by rw [g b (by omega), a1 b (by omega)]), fun i hi => by rw [g 25 (by omega), a1 25 (by decide)]; exact h25 i hi, fun i hi => by rw [g 131 (by omega)]; exact a2 i hi, fun k hk => by rw [g 126 (by omega), g 127 (by omega), a1 126 (by decide), a1 127 (by decide)]; exact hbl k hk⟩
  have tb' := fun y hy => TB_b (bg := bg) hN hS hl (2 ^ nK N - 1) y hy (by omega)
  refine wp_gd (by omega) (wp_gd (by omega) (wp_mlet (wp_gd (by omega) ?_)))
  rw [show (((2 ^ nK N : Nat) : Int) - 1).toNat = 2 ^ nK N - 1 by omega]
  unfold f192_31
  refine wp_lp2 (fun n y M2 => -1 ≤ y ∧ y ≤ ((2 ^ nK N : Nat) : Int) - 1 - 1 ∧ (n : Int) = y + 1 ∧ (∀ b, (b < 129 ∨ 130 < b) → M2 b = M1 b) ∧ ∀ z : Nat, y < z → z ≤ 2 ^ nK N - 1 → M2 129 z = TB N S bg ln z ∧ (z < 2 ^ nK N - 1 → M2 130 z = hgB N S z)) (2 ^ nK N - 1) (by omega) ⟨by omega, by omega, by omega, fun b hb => ms_a (by omega), fun z q1 q2 => ?_⟩ ?_
  · have : z = 2 ^ nK N - 1 := by omega
    rw [this, ms_v, TB_full]
    exact ⟨rfl, fun q => by omega⟩
  rintro n y M2 ⟨b1, b2, b3, b4, b5⟩
  dsimp only
  unfold lb192_31
  refine wp_ite (fun c => wp_o ?_) (fun c => ?_)
  · -- the table is full
    have hM129 : ∀ z : Nat, z ≤ 2 ^ nK N - 1 → M2 129 z = TB N S bg ln z := fun z hz => (b5 z (by omega) hz).1
    have fr : ∀ b, (b < 128 ∨ 131 < b) → M2 b = M b := fun b hb => (b4 b (by omega)).trans (a1 b (by omega))
    rw [hM129 0 (by omega)]
    refine wp_ite (fun c2 => wp_some ⟨fr, Or.inl ⟨c2, rfl⟩⟩) (fun c2 => wp_bind ?_)
    have mo := mk_ok (S := S) (bg := bg) (ln := ln) hN c2
    unfold f196 f196_4
    refine wp_lp3 (fun n u y M3 => ∃ i : Nat, y = i ∧ i ≤ nK N ∧ n = nK N - i ∧ u = mkB N S bg ln i ∧ (∀ b, b ≠ 128 → M3 b = M2 b) ∧ ∀ j, j < i → M3 128 j = ptB N S bg ln j) (nK N) (by omega) ⟨0, rfl, by omega, rfl, rfl, fun _ _ => rfl, fun j hj => absurd hj (Nat.not_lt_zero _)⟩ ?_
    rintro n2 u y2 M3 ⟨i, rfl, d1, d2, rfl, d4, d5⟩
    dsimp only
    unfold lb196_4
    have ag3 : agC N S bg ln M3 := ag M3 (fun b hb => (d4 b (by omega)).trans (b4 b (by omega)))
    rw [d4 3 (by decide), b4 3 (by omega), e32]
    refine wp_ite (fun e => ?_) (fun e => wp_o (wp_some (wp_some ⟨fun b hb => (d4 b (by omega)).trans (fr b hb), Or.inr ⟨c2, rfl, by show M3 129 0 = _; rw [d4 129 (by decide)]; exact hM129 0 (by omega), fun j hj => d5 j (by omega)⟩⟩)))
    obtain ⟨o1, o2, o3, o4⟩ := mo i (by omega)
    obtain ⟨p1, p2, p3, p4⟩ := o4 (by omega)
    refine wp_bind (w195 hN ag3 (by omega) ?_)
    have hne : (mkB N S bg ln i).toNat < 2 ^ nK N - 1 := by
      have b := bit1 (x := mkB N S bg ln i) (n := nK N) h9 o1 p1
      have := b.2.2.1 p2
      omega
    have h130 : M3 130 (mkB N S bg ln i).toNat = hgB N S (mkB N S bg ln i) := by
      rw [d4 130 (by decide), (b5 (mkB N S bg ln i).toNat (by omega) (by omega)).2 hne, show (((mkB N S bg ln i).toNat : Nat) : Int) = mkB N S bg ln i by omega]
    have hT : ∀ z : Nat, mkB N S bg ln i < z → z ≤ 2 ^ nK N - 1 → M3 129 z = TB N S bg ln z ∧ -1 ≤ TB N S bg ln z ∧ TB N S bg ln z ≤ 900000000 := fun z q1 q2 => by
      have := tb' z q2
      exact ⟨by rw [d4 129 (by decide)]; exact hM129 z q2, this.1, by omega⟩
    unfold f196_23
    refine wp_lp1 (fun n3 y3 => ∃ k : Nat, y3 = k ∧ k ≤ ptB N S bg ln i ∧ n3 = nK N - k) (nK N) (by omega) ⟨0, rfl, by omega, rfl⟩ ?_
    rintro n3 y3 ⟨k, rfl, g1, g2⟩
    try dsimp only
    unfold lb196_23
    rw [d4 3 (by decide), b4 3 (by omega), e32]
    refine wp_pos (by omega) (wp_bind (w191 (T := TB N S bg ln) hN hS ag3 hl o1 (by omega) h130 hT ?_))
    rw [d4 129 (by decide), hM129 _ (by omega)]
    unfold f196_75
    refine wp_gd (by omega) (wp_ite (fun q => wp_o (wp_gd (by omega) (wp_mlet (wp_gd (by omega) (wp_i3 (n2 - 1) (by omega) ⟨i + 1, by omega, by omega, by omega, ?_, fun b hb => (ms_a hb).trans (d4 b hb), fun j hj => ?_⟩))))) (fun q => wp_gd (by omega) (wp_i1 (n3 - 1) (by omega) ⟨k + 1, by omega, ?_, by omega⟩)))
    · have ek : k = ptB N S bg ln i := by
        rcases Nat.lt_or_ge k (ptB N S bg ln i) with z | z
        · exact absurd q (p4 k z)
        · omega
      rw [ek]
      rfl
    · have ek : k = ptB N S bg ln i := by
        rcases Nat.lt_or_ge k (ptB N S bg ln i) with z | z
        · exact absurd q (p4 k z)
        · omega
      rw [Int.toNat_natCast]
      by_cases e2 : j = i
      · rw [e2, ms_v, ek]
      · rw [ms_i e2]
        exact d5 j (by omega)
    · rcases Nat.lt_or_ge k (ptB N S bg ln i) with z | z
      · omega
      · exfalso
        have : k = ptB N S bg ln i := by omega
        rw [this] at q
        exact q p3
  · obtain ⟨u, rfl⟩ := Int.eq_ofNat_of_zero_le (show 0 ≤ y by omega)
    have ag2 : agC N S bg ln M2 := ag M2 (fun b hb => b4 b (by omega))
    refine wp_bind (w197 hN hS ag2 (by omega) (wp_gd (by omega) (wp_mlet ?_)))
    rw [Int.toNat_natCast]
    have ag3 : agC N S bg ln (ms M2 130 u (hgB N S u)) := ag _ (fun b hb => by rw [ms_a (by omega)]; exact b4 b (by omega))
    refine wp_bind (w194 (T := TB N S bg ln) hN hS ag3 hl (by omega) (by rw [Int.toNat_natCast, ms_v]) (fun z q1 q2 => ?_) (wp_mlet (wp_gd (by omega) (wp_i2 (n - 1) (by omega) ⟨by omega, by omega, by omega, fun b hb => by rw [ms_a (by omega), ms_a (by omega)]; exact b4 b hb, fun z q1 q2 => ?_⟩))))
    · have := tb' z q2
      rw [ms_a (by decide)]
      exact ⟨(b5 z (by omega) q2).1, this.1, by omega⟩
    · by_cases e : z = u
      · subst e
        rw [ms_v, ms_a (by decide), ms_v]
        exact ⟨(TB_rec hN (by omega)).symm, fun _ => rfl⟩
      · rw [ms_i e, ms_a (by decide), ms_a (by decide), ms_i e]
        exact b5 z (by omega) q2
end AG2

/-- the first of those not done, up to u -/
def selP (N : Mm) (dn z : Int) (u : Nat) : Prop := (z = -1 ∧ ∀ s, s < u → tb dn s = true) ∨ ∃ s : Nat, z = s ∧ s < u ∧ ¬ tb dn s = true ∧ ∀ s2, s2 < u → ¬ tb dn s2 = true → s2 = s ∨ befR N s s2
section AG3
variable {N S M M0 M2 : Mm} {bg ln : Nat → Int} {x : Int} {k : Nat}
/-- what the second object's search reads -/
def agM (N S : Mm) (bg ln : Nat → Int) (M : Mm) : Prop := nMd N M ∧ (∀ i, i < 8 → M 144 (36059 + i) = S 3 i) ∧ (∀ i : Nat, i < nN N → M 158 i = wlb N S i) ∧ ∀ k, k < 9 → M 156 k = bg k ∧ M 157 k = ln k
theorem oR_ne (hN : NC N) {i j : Nat} (h : i < j) (hj : j < nN N) : oR N i ≠ oR N j := fun e => by
  have := hN.cr.2.1 i j h hj
  rw [e] at this
  exact befR_irr _ this
theorem w100 {P : Int → Prop} (hN : NC N) (hS : sV N S) (h : agM N S bg ln M) (hx : 0 ≤ x ∧ x < 512) (kk : P (hgB N S x)) : Wp (f100 x M) P := by
  have h9 := hN.k9
  have h8 := hN.n8
  have e28 : (2 ^ 8 : Nat) = 256 := by decide
  have m3 : M 142 3 = nN N := by rw [h.1.1]; exact hN.n
  have m5 : M 142 5 = nK N := by rw [h.1.2.2.1]; exact hN.k
  unfold f100 f100_7
  refine wp_lp3 (fun n pw rc y => ∃ j : Nat, y = j ∧ j ≤ nK N ∧ n = nK N - j ∧ pw = pwB N x j ∧ rc = rcB N S x j) (nK N) (by omega) ⟨0, rfl, by omega, rfl, rfl, rfl⟩ ?_
  rintro n pw rc y ⟨j, rfl, a1, a2, rfl, rfl⟩
  dsimp only
  unfold lb100_7
  rw [m5]
  refine wp_ite (fun c => wp_bind (w118 hx.1 (by omega) (by omega) (by omega) ?_)) (fun c => wp_o ?_)
  · have hj := hN.ck j (by omega)
    have hm := h.1.2.2.2.2.2 j (by omega)
    have pb := pwB_b (x := x) hN j (by omega)
    rw [Int.toNat_natCast, hm.2.1, hm.1, hj.1.1, Int.toNat_natCast, h.2.2.1 _ hj.1.2]
    unfold f100_55
    by_cases e : tb x j = true
    · rw [if_pos e]
      exact wp_neg (by decide) (wp_gd (by omega) (wp_gd (by omega) (wp_gd (by omega) (wp_gd (by omega) (wp_i3 (n - 1) (by omega) ⟨j + 1, by omega, by omega, by omega, by rw [pwB, if_pos e], by rw [rcB, if_pos e]⟩)))))
    · rw [if_neg e]
      exact wp_pos rfl (wp_gd (by omega) (wp_i3 (n - 1) (by omega) ⟨j + 1, by omega, by omega, by omega, by rw [pwB, if_neg e, Int.add_zero], by rw [rcB, if_neg e]⟩))
  · rw [show j = nK N by omega]
    have pb := pwB_b (x := x) hN (nK N) (Nat.le_refl _)
    have rb := rcB_b (S := S) (x := x) hN (nK N) (Nat.le_refl _)
    unfold f100_73
    refine wp_lp4 (fun n un sv dn y => ∃ i : Nat, y = i ∧ i ≤ nN N ∧ n = nN N - i ∧ un = tlB N S i - svB N S x i ∧ sv = svB N S x i ∧ (0 ≤ dn ∧ dn < (2 ^ 8 : Nat)) ∧ ∀ s, tb dn s = true ↔ ∃ j, j < i ∧ oR N j = s) (nN N) (by omega) ⟨0, rfl, by omega, rfl, rfl, rfl, by omega, fun s => by rw [tb_zero]; exact ⟨fun z => (by cases z), fun ⟨j, z, _⟩ => absurd z (Nat.not_lt_zero _)⟩⟩ ?_
    rintro n2 un sv dn y2 ⟨i, rfl, b1, b2, b3, b4, b5, b6⟩
    dsimp only
    unfold lb100_73
    rw [m3]
    refine wp_ite (fun c2 => ?_) (fun c2 => wp_o (wp_some (by rw [b3, show i = nN N by omega]; exact kk)))
    have hi : i < nN N := by omega
    have ho := hN.cr.1 i hi
    have hs := hS.2.1 (oR N i) (by omega)
    have sb := svB_b (x := x) hN hS i (by omega)
    have nd : ¬ tb dn (oR N i) = true := fun z => by
      obtain ⟨j, q1, q2⟩ := (b6 _).mp z
      exact oR_ne hN q1 hi q2
    unfold f100_88
    refine wp_lp2 (fun n3 z y3 => ∃ u : Nat, y3 = u ∧ u ≤ nN N ∧ n3 = nN N - u ∧ selP N dn z u) (nN N) (by omega) ⟨0, rfl, by omega, rfl, Or.inl ⟨rfl, fun s hs => absurd hs (Nat.not_lt_zero _)⟩⟩ ?_
    rintro n3 z y3 ⟨u, rfl, d1, d2, d3⟩
    dsimp only
    unfold lb100_88
    rw [m3]
    refine wp_ite (fun c3 => wp_bind (w118 b5.1 (by omega) (by omega) (by omega) ?_)) (fun c3 => wp_o ?_)
    · rw [Int.toNat_natCast]
      have hu : u < nN N := by omega
      unfold f100_130 f100_134
      by_cases e : tb dn u = true
      · rw [if_pos e]
        refine wp_neg (by decide) (wp_gd (by omega) (wp_i2 (n3 - 1) (by omega) ⟨u + 1, by omega, by omega, by omega, ?_⟩))
        rcases d3 with ⟨q1, q2⟩ | ⟨s, q1, q2, q3, q4⟩
        · refine Or.inl ⟨q1, fun s hs => ?_⟩
          by_cases e2 : s = u
          · rw [e2]; exact e
          · exact q2 s (by omega)
        · refine Or.inr ⟨s, q1, by omega, q3, fun s2 h2 h3 => ?_⟩
          by_cases e2 : s2 = u
          · rw [e2] at h3; exact absurd e h3
          · exact q4 s2 (by omega) h3
      · rw [if_neg e]
        refine wp_pos rfl (wp_ite (fun c4 => wp_gd (by omega) (wp_i2 (n3 - 1) (by omega) ⟨u + 1, by omega, by omega, by omega, Or.inr ⟨u, rfl, by omega, e, fun s2 h2 h3 => ?_⟩⟩)) (fun c4 => ?_))
        · rcases d3 with ⟨q1, q2⟩ | ⟨s, q1, _⟩
          · by_cases e2 : s2 = u
            · exact Or.inl e2
            · exact absurd (q2 s2 (by omega)) h3
          · omega
        · rcases d3 with ⟨q1, q2⟩ | ⟨s, rfl, q2, q3, q4⟩
          · exact absurd q1 c4
          · rw [Int.toNat_natCast, (h.1.2.2.2.1 s (by omega)).2, (h.1.2.2.2.1 u hu).2]
            refine wp_gd (by omega) (wp_gd (by omega) (wp_ite (fun c5 => wp_gd (by omega) (wp_i2 (n3 - 1) (by omega) ⟨u + 1, by omega, by omega, by omega, Or.inr ⟨u, rfl, by omega, e, fun s2 h2 h3 => ?_⟩⟩)) (fun c5 => wp_gd (by omega) (wp_i2 (n3 - 1) (by omega) ⟨u + 1, by omega, by omega, by omega, Or.inr ⟨s, rfl, by omega, q3, fun s2 h2 h3 => ?_⟩⟩))))
            · have us : befR N u s := Or.inl c5
              by_cases e2 : s2 = u
              · exact Or.inl e2
              · rcases q4 s2 (by omega) h3 with z | z
                · rw [z]; exact Or.inr us
                · exact Or.inr (befR_trans us z)
            · by_cases e2 : s2 = u
              · refine Or.inr ?_
                rw [e2]
                unfold befR
                omega
              · exact q4 s2 (by omega) h3
    · rw [show u = nN N by omega] at d3
      have ez : z = oR N i := by
        rcases d3 with ⟨q1, q2⟩ | ⟨s, q1, q2, q3, q4⟩
        · exact absurd (q2 _ ho.2) nd
        · rcases q4 _ ho.2 nd with e | e
          · rw [q1, e]
          · exfalso
            obtain ⟨j2, j1, j3⟩ := hN.cr.2.2 s q2
            rcases Nat.lt_trichotomy j2 i with g | g | g
            · exact q3 ((b6 s).mpr ⟨j2, g, j3⟩)
            · rw [g] at j3
              rw [← j3] at e
              exact befR_irr _ e
            · have := hN.cr.2.1 i j2 g j1
              rw [j3] at this
              exact befR_asym e this
      subst ez
      have hwl := wlb_le (S := S) ho.2
      rw [Int.toNat_natCast, show (36059 + (oR N i : Int)).toNat = 36059 + oR N i by omega, h.2.1 _ (by omega), h.2.2.1 _ ho.2]
      have b1' := bit1 (x := dn) (n := 8) (k := oR N i) (by decide) b5 (by omega)
      have dn2 : ∀ s, tb (bOr dn (bShl 1 ((oR N i : Nat) : Int))) s = true ↔ ∃ j, j < i + 1 ∧ oR N j = s := fun s => by
        rw [b1'.2.1, Bool.or_eq_true, b6, decide_eq_true_iff]
        constructor
        · rintro (⟨j, q1, q2⟩ | q)
          · exact ⟨j, by omega, q2⟩
          · exact ⟨i, by omega, q⟩
        · rintro ⟨j, q1, q2⟩
          by_cases e2 : j = i
          · rw [e2] at q2; exact Or.inr q2
          · exact Or.inl ⟨j, by omega, q2⟩
      refine wp_gd (by omega) (wp_gd (by omega) (wp_gd (by omega) (wp_bind (w118 rb.1 (by omega) (by omega) (by omega) ?_))))
      rw [Int.toNat_natCast]
      unfold f100_194 f100_201
      by_cases e : tb (rcB N S x (nK N)) (wlb N S (oR N i)) = true
      · rw [if_pos e]
        refine wp_neg (by decide) (wp_gd (by omega) (wp_ite (fun q => ?_) (fun q => ?_)))
        · exact wp_gd (by omega) (wp_gd (by omega) (wp_i4 (n2 - 1) (by omega) ⟨i + 1, by omega, by omega, by omega, by rw [svB, if_neg (fun z => by omega), tlB]; omega, by rw [svB, if_neg (fun z => by omega)]; exact b4, b1'.1, dn2⟩))
        · exact wp_gd (by omega) (wp_i4 (n2 - 1) (by omega) ⟨i + 1, by omega, by omega, by omega, by rw [svB, if_pos ⟨e, by omega⟩, tlB]; omega, by rw [svB, if_pos ⟨e, by omega⟩, b4], b1'.1, dn2⟩)
      · rw [if_neg e]
        exact wp_pos rfl (wp_gd (by omega) (wp_gd (by omega) (wp_i4 (n2 - 1) (by omega) ⟨i + 1, by omega, by omega, by omega, by rw [svB, if_neg (fun z => e z.1), tlB]; omega, by rw [svB, if_neg (fun z => e z.1)]; exact b4, b1'.1, dn2⟩)))
theorem w88 (hN : NC N) (h : agM N S bg ln M) (hx : 0 ≤ x ∧ x < 512) (hk : k < nK N) : Wp (f88 k x M) (fun v => (v = 0 ∧ bg k = 0 ∧ ¬ tb (rcB N S x (nK N)) (wlb N S (aK N k)) = true) ∨ (v = 1 ∧ ¬ (bg k = 0 ∧ ¬ tb (rcB N S x (nK N)) (wlb N S (aK N k)) = true))) := by
  have h9 := hN.k9
  have h8 := hN.n8
  have m5 : M 142 5 = nK N := by rw [h.1.2.2.1]; exact hN.k
  have rb := (rcB_b (S := S) (x := x) hN (nK N) (Nat.le_refl _)).2.2 (wlb N S (aK N k))
  have hj := hN.ck k hk
  have hm := h.1.2.2.2.2.2 k hk
  unfold f88
  rw [Int.toNat_natCast, (h.2.2.2 k (by omega)).1]
  refine wp_gd (by omega) (wp_ite (fun c => ?_) (fun c => wp_some (Or.inr ⟨rfl, fun z => c z.1⟩)))
  unfold f88_13
  refine wp_lp1 (fun n y => ∃ j : Nat, y = j ∧ j ≤ nK N ∧ n = nK N - j ∧ ∀ i, i < j → ¬ (tb x i = true ∧ wlb N S (aK N i) = wlb N S (aK N k))) (nK N) (by omega) ⟨0, rfl, by omega, rfl, fun i hi => absurd hi (Nat.not_lt_zero _)⟩ ?_
  rintro n y ⟨j, rfl, a1, a2, a3⟩
  try dsimp only
  unfold lb88_13
  rw [m5]
  refine wp_ite (fun c2 => wp_bind (w118 hx.1 (by omega) (by omega) (by omega) ?_)) (fun c2 => wp_o (wp_some (Or.inl ⟨rfl, c, fun z => ?_⟩)))
  · have hj2 := hN.ck j (by omega)
    have hm2 := h.1.2.2.2.2.2 j (by omega)
    rw [Int.toNat_natCast, Int.toNat_natCast, hm.1, hm2.1, hj.1.1, hj2.1.1, Int.toNat_natCast, Int.toNat_natCast, h.2.2.1 _ hj.1.2, h.2.2.1 _ hj2.1.2]
    have next : ¬ (tb x j = true ∧ wlb N S (aK N j) = wlb N S (aK N k)) → Wp (f88_56 k x j M) (Sum.elim (up1 (fun n y => ∃ j : Nat, y = j ∧ j ≤ nK N ∧ n = nK N - j ∧ ∀ i, i < j → ¬ (tb x i = true ∧ wlb N S (aK N i) = wlb N S (aK N k))) n) (fun v => (v = 0 ∧ bg k = 0 ∧ ¬ tb (rcB N S x (nK N)) (wlb N S (aK N k)) = true) ∨ (v = 1 ∧ ¬ (bg k = 0 ∧ ¬ tb (rcB N S x (nK N)) (wlb N S (aK N k)) = true)))) := fun z => by
      unfold f88_56
      refine wp_gd (by omega) (wp_i1 (n - 1) (by omega) ⟨j + 1, by omega, by omega, by omega, fun i hi => ?_⟩)
      by_cases e2 : i = j
      · rw [e2]; exact z
      · exact a3 i (by omega)
    by_cases e : tb x j = true
    · rw [if_pos e]
      refine wp_neg (by decide) (wp_gd (by omega) (wp_gd (by omega) (wp_gd (by omega) (wp_gd (by omega) (wp_ite (fun q => wp_o (wp_some (Or.inr ⟨rfl, fun z => z.2 (rb.mpr ⟨j, by omega, e, by omega⟩)⟩))) (fun q => next (fun z => q (by rw [z.2]))))))))
    · rw [if_neg e]
      exact wp_pos rfl (next (fun z => e z.1))
  · obtain ⟨i, q1, q2, q3⟩ := rb.mp z
    exact a3 i (by omega) ⟨q2, q3⟩
theorem w101 {T : Nat → Int} {P : Int → Prop} (hN : NC N) (hS : sV N S) (h : agM N S bg ln M) (hl : ∀ k, k < 9 → 1 ≤ ln k ∧ ln k ≤ 100) (hx : 0 ≤ x ∧ x < (2 ^ nK N : Nat)) (hk : k < nK N) (ht : tb x k = false)
    (hT : ∀ y : Nat, x < y → y ≤ 2 ^ nK N - 1 → M 198 y = T y ∧ -1 ≤ T y ∧ T y ≤ 900000000) (kk : P (avB N S bg ln T x k)) : Wp (f101 x k M) P := by
  have h9 := hN.k9
  have pk := pw2_k hN
  have b := bit1 (x := x) (n := nK N) h9 hx hk
  have b3 := b.2.2.1 ht
  have hT1 := hT (bOr x (bShl 1 (k : Int))).toNat (by omega) (by omega)
  have hh := hgB_b (x := x) hN hS
  have hm := mulb (hl k (by omega)) hh
  unfold f101
  unfold avB at kk
  rw [ht, if_neg (by decide)] at kk
  rw [hT1.1]
  refine wp_gd (by omega) (wp_ite (fun c => wp_some ?_) (fun c => wp_bind (wpW (w88 hN h (by omega) hk) (fun v hv => ?_))))
  · rw [if_pos (show T (bOr x (bShl 1 (k : Int))).toNat = -1 by omega), ite_self] at kk
    exact kk
  · rcases hv with ⟨v1, v2⟩ | ⟨v1, v2⟩
    · rw [if_pos v2] at kk
      exact wp_pos v1 (wp_some kk)
    · rw [if_neg v2, if_neg (by omega)] at kk
      refine wp_neg (by omega) (wp_gd (by omega) (wp_bind (w100 hN hS h (by omega) ?_)))
      rw [Int.toNat_natCast, (h.2.2.2 k (by omega)).2]
      refine wp_gd ⟨by omega, by omega⟩ (wp_gd ⟨by omega, by omega⟩ (wp_some ?_))
      rw [Int.add_comm]
      exact kk
/-- the second object's search -/
theorem w83 {x1 : Int} (hN : NC N) (hS : sV N S) (hmd : nMd N M) (h0 : ∀ w, w < 14 → M 144 (36000 + w) = S 0 w) (h25 : ∀ i, i < 8 → M 144 (36059 + i) = S 3 i) (hbl : ∀ k, k < 9 → M 156 k = bg k ∧ M 157 k = ln k) (hl : ∀ k, k < 9 → 1 ≤ ln k ∧ ln k ≤ 100) (hk0 : 0 < nK N) (hx1 : -1 ≤ x1 ∧ x1 < nK N) :
    Wp (f83 x1 M) (fun r => r.1 = (if TB N S bg ln 0 = -1 then -2 else if x1 = -1 then TB N S bg ln 0 else (ptB N S bg ln x1.toNat : Int)) ∧ ∀ b, b ≠ 158 → b ≠ 198 → r.2 b = M b) := by
  have h9 := hN.k9
  have h8 := hN.n8
  have pk := pw2_k hN
  have hp := Nat.two_pow_pos (nK N)
  have m5 : M 142 5 = nK N := by rw [hmd.2.2.1]; exact hN.k
  unfold f83
  rw [m5]
  refine wp_neg (by omega) (wp_gd (by omega) (wp_bind (w143 ?_)))
  rw [if_pos (show -1 ≤ x1 ∧ x1 ≤ (nK N : Int) - 1 by omega)]
  refine wp_neg (by decide) (wp_bind (w117 (z := 36000) (n := nN N) (nw := nW N) (G := wlb N S) (A := eA N) (B := eB N) (U := fun w => S 0 w ≠ 3) (by rw [hmd.1]; exact hN.n) h8 (by rw [hmd.2.1]; exact hN.w) hN.w14 (by decide) (fun w hw => by rw [(hmd.2.2.2.2.1 w hw).1]; exact (hN.cw w hw).1.1) (fun w hw => by rw [(hmd.2.2.2.2.1 w hw).2.1]; exact (hN.cw w hw).2.1.1) (fun w hw => ⟨(hN.cw w hw).1.2, (hN.cw w hw).2.1.2⟩) (fun w hw => ?_) (wlb_lab N S) (fun M1 a1 a2 => ?_)))
  · have := hN.w14
    rw [if_neg (by decide), h0 w (by omega)]
  have e32 : M1 142 5 = nK N := by rw [a1 142 (by decide)]; exact m5
  rw [e32, bL (by omega) (by omega), Int.toNat_natCast]
  have ag : ∀ M2 : Mm, (∀ b, b ≠ 198 → M2 b = M1 b) → agM N S bg ln M2 := fun M2 g => ⟨hmd.to (by rw [g 142 (by decide), a1 142 (by decide)]) (by rw [g 142 (by decide), a1 142 (by decide)]) (by rw [g 142 (by decide), a1 142 (by decide)]) (fun b q1 q2 => by rw [g b (by omega), a1 b (by omega)]), fun i hi => by rw [g 144 (by decide), a1 144 (by decide)]; exact h25 i hi, fun i hi => by rw [g 158 (by decide)]; exact a2 i hi, fun k hk => by rw [g 156 (by decide), g 157 (by decide), a1 156 (by decide), a1 157 (by decide)]; exact hbl k hk⟩
  have tb' := fun y hy => TB_b (bg := bg) hN hS hl (2 ^ nK N - 1) y hy (by omega)
  refine wp_gd (by omega) (wp_gd (by omega) (wp_mlet (wp_gd (by omega) ?_)))
  rw [show (((2 ^ nK N : Nat) : Int) - 1).toNat = 2 ^ nK N - 1 by omega]
  unfold f83_60
  let I0 : Nat → Int → Mm → Prop := fun n y M2 => -1 ≤ y ∧ y ≤ ((2 ^ nK N : Nat) : Int) - 1 - 1 ∧ (n : Int) = y + 1 ∧ (∀ b, b ≠ 198 → M2 b = M1 b) ∧ ∀ z : Nat, y < z → z ≤ 2 ^ nK N - 1 → M2 198 z = TB N S bg ln z
  refine wp_lp2 I0 (2 ^ nK N - 1) (by omega) ⟨by omega, by omega, by omega, fun b hb => ms_a hb, fun z q1 q2 => ?_⟩ ?_
  · have : z = 2 ^ nK N - 1 := by omega
    rw [this, ms_v, TB_full]
  rintro n y M2 ⟨b1, b2, b3, b4, b5⟩
  dsimp only
  unfold lb83_60
  refine wp_ite (fun c => wp_o ?_) (fun c => ?_)
  · have hM : ∀ z : Nat, z ≤ 2 ^ nK N - 1 → M2 198 z = TB N S bg ln z := fun z hz => b5 z (by omega) hz
    have fr : ∀ b, b ≠ 158 → b ≠ 198 → M2 b = M b := fun b q1 q2 => (b4 b q2).trans (a1 b q1)
    have t0 := tb' 0 (by omega)
    rw [hM 0 (by omega)]
    refine wp_ite (fun c2 => wp_some ⟨?_, fr⟩) (fun c2 => wp_ite (fun c3 => wp_some ⟨?_, fr⟩) (fun c3 => ?_))
    · rw [if_pos (by omega)]
    · rw [if_neg (by omega), if_pos c3]
    · rw [if_neg (by omega), if_neg c3]
      have mo := mk_ok (S := S) (bg := bg) (ln := ln) hN (show TB N S bg ln 0 ≠ -1 by omega)
      obtain ⟨w, rfl⟩ := Int.eq_ofNat_of_zero_le (show 0 ≤ x1 by omega)
      rw [Int.toNat_natCast]
      have ag2 : agM N S bg ln M2 := ag M2 b4
      unfold f83_191
      refine wp_lp3 (fun n u z y => ∃ i : Nat, y = i ∧ i ≤ w + 1 ∧ n = w + 1 - i ∧ u = mkB N S bg ln i ∧ (∀ j, i = j + 1 → z = ptB N S bg ln j)) (w + 1) (by omega) ⟨0, rfl, by omega, rfl, rfl, fun j hj => by omega⟩ ?_
      rintro n2 u z y2 ⟨i, rfl, d1, d2, rfl, d5⟩
      dsimp only
      unfold lb83_191
      refine wp_ite (fun e => wp_o (wp_some ⟨d5 w (by omega), fr⟩)) (fun e => ?_)
      obtain ⟨o1, o2, o3, o4⟩ := mo i (by omega)
      obtain ⟨p1, p2, p3, p4⟩ := o4 (by omega)
      have hT : ∀ z : Nat, mkB N S bg ln i < z → z ≤ 2 ^ nK N - 1 → M2 198 z = TB N S bg ln z ∧ -1 ≤ TB N S bg ln z ∧ TB N S bg ln z ≤ 900000000 := fun z q1 q2 => by
        have := tb' z q2
        exact ⟨hM z q2, this.1, by omega⟩
      unfold f83_200
      refine wp_lp1 (fun n3 y3 => ∃ k : Nat, y3 = k ∧ k ≤ ptB N S bg ln i ∧ n3 = nK N - k) (nK N) (by omega) ⟨0, rfl, by omega, rfl⟩ ?_
      rintro n3 y3 ⟨k, rfl, g1, g2⟩
      try dsimp only
      unfold lb83_200
      refine wp_bind (w118 o1.1 (by omega) (by omega) (by omega) ?_)
      rw [Int.toNat_natCast]
      unfold f83_226
      cases ht : tb (mkB N S bg ln i) k
      · refine wp_pos rfl (wp_bind (w101 (T := TB N S bg ln) hN hS ag2 hl o1 (by omega) ht hT ?_))
        rw [hM _ (by omega)]
        refine wp_gd (by omega) (wp_ite (fun q => wp_o (wp_gd (by omega) (wp_i3 (n2 - 1) (by omega) ⟨i + 1, by omega, by omega, by omega, ?_, fun j hj => ?_⟩))) (fun q => wp_gd (by omega) (wp_i1 (n3 - 1) (by omega) ⟨k + 1, by omega, ?_, by omega⟩)))
        · have ek : k = ptB N S bg ln i := by
            rcases Nat.lt_or_ge k (ptB N S bg ln i) with z | z
            · exact absurd q (p4 k z)
            · omega
          rw [ek]
          rfl
        · have ek : k = ptB N S bg ln i := by
            rcases Nat.lt_or_ge k (ptB N S bg ln i) with z | z
            · exact absurd q (p4 k z)
            · omega
          rw [ek, show j = i by omega]
        · rcases Nat.lt_or_ge k (ptB N S bg ln i) with z | z
          · omega
          · exfalso
            have : k = ptB N S bg ln i := by omega
            rw [this] at q
            exact q p3
      · rw [if_pos rfl]
        refine wp_neg (by decide) (wp_gd (by omega) (wp_i1 (n3 - 1) (by omega) ⟨k + 1, by omega, ?_, by omega⟩))
        rcases Nat.lt_or_ge k (ptB N S bg ln i) with z | z
        · omega
        · exfalso
          have : k = ptB N S bg ln i := by omega
          rw [this, p2] at ht
          cases ht
  · obtain ⟨u, rfl⟩ := Int.eq_ofNat_of_zero_le (show 0 ≤ y by omega)
    rw [Int.toNat_natCast]
    refine wp_gd (by omega) (wp_mlet ?_)
    unfold f83_76
    let I1 : Nat → Int → Mm → Prop := fun n y M3 => ∃ j : Nat, y = j ∧ j ≤ nK N ∧ n = nK N - j ∧ (∀ b, b ≠ 198 → M3 b = M1 b) ∧ (∀ z : Nat, u < z → z ≤ 2 ^ nK N - 1 → M3 198 z = TB N S bg ln z) ∧ M3 198 u = bfB N S bg ln (TB N S bg ln) u j
    refine wp_lp2 I1 (nK N) (by omega) ⟨0, rfl, by omega, rfl, fun b hb => (ms_a hb).trans (b4 b hb), fun z q1 q2 => by rw [ms_i (by omega)]; exact b5 z (by omega) q2, ms_v⟩ ?_
    rintro n2 y2 M3 ⟨j, rfl, d1, d2, d3, d4, d5⟩
    dsimp only
    unfold lb83_76
    rw [d3 142 (by decide), e32]
    refine wp_ite (fun e => wp_bind (w118 (by omega) (by omega) (by omega) (by omega) ?_)) (fun e => wp_o (wp_gd (by omega) (wp_i2 (n - 1) (by omega) ⟨by omega, by omega, by omega, d3, fun z q1 q2 => ?_⟩)))
    · rw [Int.toNat_natCast]
      have es : bfB N S bg ln (TB N S bg ln) u (j + 1) = if avB N S bg ln (TB N S bg ln) u j = -1 then bfB N S bg ln (TB N S bg ln) u j else if bfB N S bg ln (TB N S bg ln) u j = -1 ∨ avB N S bg ln (TB N S bg ln) u j < bfB N S bg ln (TB N S bg ln) u j then avB N S bg ln (TB N S bg ln) u j else bfB N S bg ln (TB N S bg ln) u j := rfl
      have hTb : ∀ z : Nat, (u : Int) < z → z ≤ 2 ^ nK N - 1 → -1 ≤ TB N S bg ln z ∧ TB N S bg ln z ≤ 1600000 * (((2 ^ nK N - 1 : Nat) : Int) - z) := fun z _ q2 => tb' z q2
      have avb := av_b (bg := bg) (k := j) hN hS hl (show 0 ≤ (u : Int) ∧ (u : Int) < (2 ^ nK N : Nat) by omega) (by omega) hTb
      have bfb := bf_b (bg := bg) hN hS hl (show 0 ≤ (u : Int) ∧ (u : Int) < (2 ^ nK N : Nat) by omega) hTb j d1
      have skip : bfB N S bg ln (TB N S bg ln) u (j + 1) = bfB N S bg ln (TB N S bg ln) u j → Wp (f83_144 x1 u j M3) (Sum.elim (up2 I1 n2) (Sum.elim (up2 I0 n) (fun r => r.1 = (if TB N S bg ln 0 = -1 then -2 else if x1 = -1 then TB N S bg ln 0 else (ptB N S bg ln x1.toNat : Int)) ∧ ∀ b, b ≠ 158 → b ≠ 198 → r.2 b = M b))) := fun z => by
        unfold f83_144
        exact wp_gd (by omega) (wp_i2 (n2 - 1) (by omega) ⟨j + 1, by omega, by omega, by omega, d3, d4, by rw [z]; exact d5⟩)
      have take : bfB N S bg ln (TB N S bg ln) u (j + 1) = avB N S bg ln (TB N S bg ln) u j → Wp (f83_136 x1 u j (avB N S bg ln (TB N S bg ln) u j) M3) (Sum.elim (up2 I1 n2) (Sum.elim (up2 I0 n) (fun r => r.1 = (if TB N S bg ln 0 = -1 then -2 else if x1 = -1 then TB N S bg ln 0 else (ptB N S bg ln x1.toNat : Int)) ∧ ∀ b, b ≠ 158 → b ≠ 198 → r.2 b = M b))) := fun z => by
        unfold f83_136 f83_144
        rw [Int.toNat_natCast]
        exact wp_gd (by omega) (wp_mlet (wp_gd (by omega) (wp_i2 (n2 - 1) (by omega) ⟨j + 1, by omega, by omega, by omega, fun b hb => (ms_a hb).trans (d3 b hb), fun z2 q1 q2 => by rw [ms_i (by omega)]; exact d4 z2 q1 q2, by rw [ms_v, z]⟩)))
      cases ht : tb (u : Int) j
      · have hT : ∀ z : Nat, (u : Int) < z → z ≤ 2 ^ nK N - 1 → M3 198 z = TB N S bg ln z ∧ -1 ≤ TB N S bg ln z ∧ TB N S bg ln z ≤ 900000000 := fun z q1 q2 => by
          have := tb' z q2
          exact ⟨d4 z (by omega) q2, this.1, by omega⟩
        refine wp_pos rfl (wp_bind (w101 (T := TB N S bg ln) hN hS (ag M3 d3) hl (by omega) (by omega) ht hT ?_))
        rw [Int.toNat_natCast, d5]
        refine wp_ite (fun q => skip (by rw [es, if_pos (by omega)])) (fun q => wp_gd (by omega) (wp_ite (fun q2 => take ?_) (fun q2 => wp_ite (fun q3 => take ?_) (fun q3 => skip ?_))))
        · rw [es, if_neg (by omega), if_pos (Or.inl (by omega))]
        · rw [es, if_neg (by omega), if_pos (Or.inr q3)]
        · rw [es, if_neg (by omega), if_neg (by omega)]
      · rw [if_pos rfl]
        refine wp_neg (by decide) (skip ?_)
        rw [es, if_pos]
        unfold avB
        rw [if_pos ht]
    · by_cases e2 : z = u
      · rw [e2, d5, show j = nK N by omega]
        exact (TB_rec hN (by omega)).symm
      · exact d4 z (by omega) q2
end AG3
section AG4
variable {N S M M2 : Mm} {Ps : Nat → Mm} {l : List (Bool × Sem)}
theorem c30 {x1 : Int} (h : IV N S Ps l M) : Wp (f30 x1 M) (fun r => JJ r.1 (f83 x1 r.2)) := by
  have h9 := h.1.1.k9
  unfold f30
  rw [h.e32]
  refine wp_ite (fun c => wp_some ?_) (fun c => ?_)
  · show JJ (-2) (f83 x1 M)
    unfold f83
    rw [h.m5]
    exact wp_pos c (wp_some ⟨rfl, h.G⟩)
  have go : -1 ≤ x1 ∧ x1 < nK N → Wp (f30_34 x1 M) (fun r => JJ r.1 (f83 x1 r.2)) := fun hx1 => by
    have hb := h.2.2.2.2.2.2.1
    have hl : ∀ k, k < 9 → 1 ≤ M 157 k ∧ M 157 k ≤ 100 := fun k hk => (hb k hk).2.2
    unfold f30_34
    refine wp_obnd (wpW (w192 (bg := M 156) (ln := M 157) h.1.1 h.1.2.1 h.1.2.2.1 (fun w hw => (h.1.2.2.2.2.1.1 w hw).1) (fun i hi => h.1.2.2.2.2.1.2.1 i hi) (fun k hk => ⟨(hb k hk).1.1, (hb k hk).2.1⟩) hl) (fun r2 hr2 => ?_))
    obtain ⟨v, M1⟩ := r2
    obtain ⟨o1, o2⟩ := hr2
    dsimp only at o1 o2 ⊢
    have f1 : fpP M M1 := fpP.of (fun b hb => o1 b (by unfold perB at hb; omega))
    have g1 := h.fp f1
    have model : ∀ w : Int, w = (if TB N S (M 156) (M 157) 0 = -1 then -2 else if x1 = -1 then TB N S (M 156) (M 157) 0 else (ptB N S (M 156) (M 157) x1.toNat : Int)) → JJ w (f83 x1 M1) := fun w hw => by
      refine wpW (w83 (x1 := x1) (bg := M 156) (ln := M 157) g1.1.1 g1.1.2.1 g1.1.2.2.2.1 (fun w hw => (g1.1.2.2.2.2.2.1.1 w hw).1) (fun i hi => (g1.1.2.2.2.2.2.1.2.1 i hi).1) (fun k hk => ⟨by rw [f1.1 156 (by unfold perB; omega)], by rw [f1.1 157 (by unfold perB; omega)]⟩) hl (by omega) hx1) (fun r hr => ⟨hr.1.trans hw.symm, (g1.fp (fpP.of (fun b hb => hr.2 b (by unfold perB at hb; omega) (by unfold perB at hb; omega)))).G⟩)
    rcases o2 with ⟨p1, p2⟩ | ⟨p1, p2, p3, p4⟩
    · exact wp_pos p2 (wp_some (model _ (by rw [if_pos p1])))
    · refine wp_neg (by omega) (wp_ite (fun c2 => wp_some (model _ ?_)) (fun c2 => wp_gd (by omega) (wp_some (model _ ?_))))
      · rw [if_neg p1, if_pos c2]
        exact p3
      · rw [if_neg p1, if_neg c2]
        exact p4 _ (by omega)
  refine wp_ite (fun c2 => go (by omega)) (fun c2 => wp_bind (w216 h.e32 ?_))
  by_cases h1 : 0 ≤ x1 ∧ x1 < nK N
  · rw [if_pos h1]
    exact wp_neg (by decide) (go (by omega))
  · rw [if_neg h1]
    refine wp_pos rfl (wp_some ?_)
    show JJ (-1) (f83 x1 M)
    unfold f83
    rw [h.m5]
    refine wp_neg c (wp_gd (by omega) (wp_bind (w143 ?_)))
    rw [if_neg (show ¬ (-1 ≤ x1 ∧ x1 ≤ (nK N : Int) - 1) by omega)]
    exact wp_pos rfl (wp_some ⟨rfl, h.G⟩)
end AG4
