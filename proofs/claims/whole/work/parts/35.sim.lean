/-! The claim out of a simulation: what is left to prove, call by call. -/
theorem qh0_T (L : Nat) (xs : Nat → Int32) : qh0 L xs = qT [.inl (8, L, .inl xs), .inl (9, 11, .inl qSg)] 0 := by
  refine Prod.ext rfl (Prod.ext rfl (funext fun i => ?_))
  match i with
  | 0 => rfl
  | 1 => rfl
  | n + 2 => rfl
theorem qlstart {L : Nat} {xs : Nat → Int32} {q : Option Value × qH} (kk : qE 2048 0 18 [some (.ref 0), some (.ref 2), some (.ref 142), some (.int 0)] [] (qg373 L xs) q) : qE 2048 0 0 [some (.ref 0), none, none, none] [] (qh0 L xs) q := by
  rw [qh0_T]
  refine qe_new (fs := [.null, .null, .null, .null, .null, .null, .null, .null, .null, .null, .null, .null, .null, .null]) (N := 14) c0_0 qo0 qN13_7 (by decide +kernel) (by decide +kernel) ?_
  refine qE_heap (h2 := qg0 L xs) (qT_new rfl rfl) ?_
  show qE _ _ _ _ [.ref 2] _ _
  refine qe_dup c0_3 rfl ?_
  refine qe_special (b := 2) (as := []) (r := [.ref 2]) (v := none) (h2 := qg230 L xs) c0_4 qo0 (by decide +kernel) qK13_9 rfl ⟨rfl, Or.inl rfl⟩ rfl (Nat.le_of_ble_eq_true rfl) qg_c1_55 ?_
  refine qe_astore_n (ls2 := [some (.ref 0), some (.ref 2), none, none]) c0_7 (Nat.le_of_ble_eq_true rfl) rfl ?_
  refine qe_new (fs := [.null, .int 0, .int 0, .int 0, .int 0, .int 0, .int 0, .int 0, .int 0, .int 0, .null, .null, .null, .null, .null, .null, .null, .null, .null, .null, .null, .null, .null, .null, .null, .null, .null, .null, .null, .int 0, .null, .null, .null, .null, .null, .null, .null, .null, .null, .null, .null, .null, .null, .null, .int 0, .int 0, .int 0, .int 0, .int 0, .int 0, .int 0, .int 0, .int 0, .null, .int 0, .int 0, .int 0, .null, .null, .int 0, .null, .null, .null, .null, .null, .null, .null, .null, .null, .null, .null, .null, .null, .null, .null, .null, .null, .null, .null, .null]) (N := 80) c0_8 qo0 qN13_10 (by decide +kernel) (by decide +kernel) ?_
  refine qE_heap (h2 := qg231 L xs) (qT_new rfl rfl) ?_
  show qE _ _ _ _ [.ref 142] _ _
  refine qe_dup c0_11 rfl ?_
  refine qe_special (b := 142) (as := []) (r := [.ref 142]) (v := none) (h2 := qg373 L xs) c0_12 qo0 (by decide +kernel) qK13_12 rfl ⟨rfl, Or.inl rfl⟩ rfl (Nat.le_of_ble_eq_true rfl) qg_c18_123 ?_
  refine qe_astore_n (ls2 := [some (.ref 0), some (.ref 2), some (.ref 142), none]) c0_15 (Nat.le_of_ble_eq_true rfl) rfl ?_
  refine qe_iconst (x := 0) c0_16 (by decide) ?_
  refine qe_istore_n (ls2 := [some (.ref 0), some (.ref 2), some (.ref 142), some (.int 0)]) c0_17 (Nat.le_of_ble_eq_true rfl) rfl ?_
  exact kk
/-- one call on both: the answers are the same, and P holds behind them; S is the script's cell -/
def qOneI (kC kM : Nat) (as : List Value) (h : qH) (S : qC) (P : qH → Prop) : Prop := ∃ (r : Int32) (h1 h2 : qH) (fsM : List Value), qCall 2048 kC (.ref 2 :: as) h (some (.int r), h1) ∧ h1.2.2 0 = some S ∧ h1.2.2 142 = some (.inr (12, fsM)) ∧ qCall 2048 kM (.ref 142 :: as) h1 (some (.int r), h2) ∧ P h2
def qOneJ (kC kM : Nat) (as : List Value) (h : qH) (S : qC) (P : qH → Prop) : Prop := ∃ (r : Int64) (h1 h2 : qH) (fsM : List Value), qCall 2048 kC (.ref 2 :: as) h (some (.long r), h1) ∧ h1.2.2 0 = some S ∧ h1.2.2 142 = some (.inr (12, fsM)) ∧ qCall 2048 kM (.ref 142 :: as) h1 (some (.long r), h2) ∧ P h2
/-- the 36 calls -/
def qAll (h : qH) (S : qC) (P : qH → Prop) : Prop :=
  (∀ a b c : Int32, qOneI 71 171 [.int a, .int b, .int c] h S P) /- spot -/ ∧
  (∀ a b c d e : Int32, qOneI 77 185 [.int a, .int b, .int c, .int d, .int e] h S P) /- wire -/ ∧
  (∀ a b c : Int32, qOneI 81 188 [.int a, .int b, .int c] h S P) /- works -/ ∧
  (∀ a b : Int32, qOneI 75 180 [.int a, .int b] h S P) /- tree -/ ∧
  (∀ a : Int32, qOneI 38 95 [.int a] h S P) /- cool -/ ∧
  (∀ a b : Int32, (b = 0 ∨ b = 1) → qOneI 76 181 [.int a, .int b] h S P) /- turn -/ ∧
  (∀ a b : Int32, (b = 0 ∨ b = 1) → qOneI 67 159 [.int a, .int b] h S P) /- run -/ ∧
  (∀ a b : Int32, (b = 0 ∨ b = 1) → qOneI 68 161 [.int a, .int b] h S P) /- shed -/ ∧
  (∀ a b : Int32, qOneI 62 144 [.int a, .int b] h S P) /- load -/ ∧
  (∀ a : Int32, qOneI 63 147 [.int a] h S P) /- mend -/ ∧
  (∀ a b c d e : Int32, qOneI 46 107 [.int a, .int b, .int c, .int d, .int e] h S P) /- feed -/ ∧
  (∀ a : Int32, qOneI 66 158 [.int a] h S P) /- rules -/ ∧
  (qOneI 51 113 [] h S P) /- goes -/ ∧
  (∀ a : Int32, qOneJ 50 110 [.int a] h S P) /- flow -/ ∧
  (∀ a b : Int32, qOneI 78 186 [.int a, .int b] h S P) /- wireIs -/ ∧
  (∀ a b : Int32, qOneI 82 189 [.int a, .int b] h S P) /- worksAre -/ ∧
  (∀ a b : Int32, qOneI 72 172 [.int a, .int b] h S P) /- spotIs -/ ∧
  (∀ a b : Int32, qOneI 45 105 [.int a, .int b] h S P) /- event -/ ∧
  (∀ a : Int32, qOneI 31 84 [.int a] h S P) /- bear -/ ∧
  (qOneI 48 108 [] h S P) /- firstBorne -/ ∧
  (∀ a b : Int32, (b = 0 ∨ b = 1) → qOneI 74 176 [.int a, .int b] h S P) /- stop -/ ∧
  (∀ a b c : Int32, qOneJ 69 166 [.int a, .int b, .int c] h S P) /- shown -/ ∧
  (∀ a : Int32, qOneI 70 168 [.int a] h S P) /- sign -/ ∧
  (∀ a b c : Int32, qOneI 53 119 [.int a, .int b, .int c] h S P) /- held -/ ∧
  (∀ a b : Int32, qOneI 59 139 [.int a, .int b] h S P) /- last -/ ∧
  (∀ a b : Int32, qOneI 60 141 [.int a, .int b] h S P) /- least -/ ∧
  (∀ a b c : Int32, qOneI 36 92 [.int a, .int b, .int c] h S P) /- clock -/ ∧
  (∀ a b : Int32, qOneI 65 157 [.int a, .int b] h S P) /- row -/ ∧
  (∀ a b : Int32, qOneI 32 85 [.int a, .int b] h S P) /- before -/ ∧
  (∀ a b : Int32, qOneI 64 151 [.int a, .int b] h S P) /- order -/ ∧
  (∀ a b c : Int32, (b = 0 ∨ b = 1) → qOneI 33 86 [.int a, .int b, .int c] h S P) /- begins -/ ∧
  (∀ a : Int32, qOneJ 30 83 [.int a] h S P) /- again -/ ∧
  (∀ a b : Int32, qOneI 39 97 [.int a, .int b] h S P) /- cost -/ ∧
  (∀ a b c : Int32, qOneI 43 99 [.int a, .int b, .int c] h S P) /- cut -/ ∧
  (∀ a : Int32, qOneI 35 90 [.int a] h S P) /- check -/ ∧
  (∀ a : Int32, qOneI 42 98 [.int a] h S P) /- count -/
theorem qb01 (x : Int32) : qb x = 0 ∨ qb x = 1 := by
  unfold qb
  by_cases h : x = 0
  · rw [if_pos h]
    exact Or.inl rfl
  · rw [if_neg h]
    exact Or.inr rfl
theorem qL6 {L : Nat} {x : Int32} (hL : L ≤ 3072) : (Int32.ofNat L - 6 < x) ↔ (L : Int) - 6 < x.toInt := by
  rw [Int32.lt_iff_toInt_lt, Int32.toInt_sub, toInt_of (c := L) rfl (by omega), show Int32.toInt 6 = 6 from by decide, Int.bmod_eq_of_le (by omega) (by omega)]
theorem qxplus6 {L : Nat} {x : Int32} (h0 : 0 ≤ x.toInt) (h1 : x.toInt + 6 ≤ L) (hL : L ≤ 3072) : (x + 6).toInt = x.toInt + 6 := by
  rw [Int32.toInt_add, show Int32.toInt 6 = 6 from by decide]
  exact Int.bmod_eq_of_le (by omega) (by omega)
set_option maxHeartbeats 4000000 in
/-- the claim in pure words out of a simulation -/
theorem qsim (I : Nat → (Nat → Int32) → Nat → qH → Prop) (h0 : ∀ L xs, L ≤ 3072 → I L xs 0 (qg373 L xs))
    (hb : ∀ L xs j h, I L xs j h → h.2.2 0 = some (.inl (8, L, .inl xs)) ∧ ∃ fs, h.2.2 2 = some (.inr (11, fs)))
    (hr : ∀ L xs j h, j ≤ 512 → I L xs j h → h.1 ≤ 600002 ∧ h.2.1 ≤ 7302250)
    (hw : ∀ L xs j h, I L xs j h → I L xs (j + 1) h)
    (hs : ∀ L xs j h, j < 512 → I L xs j h → qAll h (.inl (8, L, .inl xs)) (I L xs (j + 1))) : qPure := by
  intro L xs hL
  have loop : ∀ (m j : Nat) (x3 : Int32) (h : qH), I L xs j h → 0 ≤ x3.toInt → x3.toInt = 6 * (j : Int) → j ≤ 512 → (L : Int) - x3.toInt ≤ m → ∃ hF : qH, qE 2048 0 18 [some (.ref 0), some (.ref 2), some (.ref 142), some (.int x3)] [] h (some (.int 1), hF) ∧ hF.1 ≤ 600002 ∧ hF.2.1 ≤ 7302250 := by
    intro m
    induction m with
    | zero =>
      intro j x3 h hI g0 g1 g2 g3
      exact ⟨h, qlend (hb _ _ _ _ hI).1 ((qL6 hL).mpr (by omega)), hr _ _ _ _ g2 hI⟩
    | succ m ih =>
      intro j x3 h hI g0 g1 g2 g3
      obtain ⟨b1, fsC, b2⟩ := hb _ _ _ _ hI
      by_cases hc : Int32.ofNat L - 6 < x3
      · exact ⟨h, qlend b1 hc, hr _ _ _ _ g2 hI⟩
      · have hc2 : ¬ ((L : Int) - 6 < x3.toInt) := fun q => hc ((qL6 hL).mpr q)
        have hx1 : x3.toInt + 6 ≤ L := by omega
        have e6 := qxplus6 g0 hx1 hL
        have hj : j < 512 := by omega
        have nx : ∀ h2 : qH, I L xs (j + 1) h2 → ∃ hF : qH, qE 2048 0 18 [some (.ref 0), some (.ref 2), some (.ref 142), some (.int (x3 + 6))] [] h2 (some (.int 1), hF) ∧ hF.1 ≤ 600002 ∧ hF.2.1 ≤ 7302250 := fun h2 hI2 => ih (j + 1) (x3 + 6) h2 hI2 (by omega) (by rw [e6]; omega) (by omega) (by omega)
        have A := hs L xs j h hj hI
        unfold qAll at A
        obtain ⟨A0, A1, A2, A3, A4, A5, A6, A7, A8, A9, A10, A11, A12, A13, A14, A15, A16, A17, A18, A19, A20, A21, A22, A23, A24, A25, A26, A27, A28, A29, A30, A31, A32, A33, A34, A35⟩ := A
        by_cases k0 : (xs x3.toNatClampNeg &&& 63).toInt = 0
        · obtain ⟨r, h1, h2, fsM, c1, c2, c3, c4, hI2⟩ := A0 (xs (x3 + 1).toNatClampNeg) (xs (x3 + 2).toNatClampNeg) (xs (x3 + 3).toNatClampNeg) 
          obtain ⟨hF, n1, n2⟩ := nx h2 hI2
          exact ⟨hF, qlgo b1 hc (ql0 g0 hx1 hL b1 b2 c1 c2 c3 c4 k0 n1), n2⟩
        by_cases k1 : (xs x3.toNatClampNeg &&& 63).toInt = 1
        · obtain ⟨r, h1, h2, fsM, c1, c2, c3, c4, hI2⟩ := A1 (xs (x3 + 1).toNatClampNeg) (xs (x3 + 2).toNatClampNeg) (xs (x3 + 3).toNatClampNeg) (xs (x3 + 4).toNatClampNeg) (xs (x3 + 5).toNatClampNeg) 
          obtain ⟨hF, n1, n2⟩ := nx h2 hI2
          exact ⟨hF, qlgo b1 hc (ql1 g0 hx1 hL b1 b2 c1 c2 c3 c4 k1 n1), n2⟩
        by_cases k2 : (xs x3.toNatClampNeg &&& 63).toInt = 2
        · obtain ⟨r, h1, h2, fsM, c1, c2, c3, c4, hI2⟩ := A2 (xs (x3 + 1).toNatClampNeg) (xs (x3 + 2).toNatClampNeg) (xs (x3 + 3).toNatClampNeg) 
          obtain ⟨hF, n1, n2⟩ := nx h2 hI2
          exact ⟨hF, qlgo b1 hc (ql2 g0 hx1 hL b1 b2 c1 c2 c3 c4 k2 n1), n2⟩
        by_cases k3 : (xs x3.toNatClampNeg &&& 63).toInt = 3
        · obtain ⟨r, h1, h2, fsM, c1, c2, c3, c4, hI2⟩ := A3 (xs (x3 + 1).toNatClampNeg) (xs (x3 + 2).toNatClampNeg) 
          obtain ⟨hF, n1, n2⟩ := nx h2 hI2
          exact ⟨hF, qlgo b1 hc (ql3 g0 hx1 hL b1 b2 c1 c2 c3 c4 k3 n1), n2⟩
        by_cases k4 : (xs x3.toNatClampNeg &&& 63).toInt = 4
        · obtain ⟨r, h1, h2, fsM, c1, c2, c3, c4, hI2⟩ := A4 (xs (x3 + 1).toNatClampNeg) 
          obtain ⟨hF, n1, n2⟩ := nx h2 hI2
          exact ⟨hF, qlgo b1 hc (ql4 g0 hx1 hL b1 b2 c1 c2 c3 c4 k4 n1), n2⟩
        by_cases k5 : (xs x3.toNatClampNeg &&& 63).toInt = 5
        · obtain ⟨r, h1, h2, fsM, c1, c2, c3, c4, hI2⟩ := A5 (xs (x3 + 1).toNatClampNeg) (qb (xs (x3 + 2).toNatClampNeg)) (qb01 _)
          obtain ⟨hF, n1, n2⟩ := nx h2 hI2
          exact ⟨hF, qlgo b1 hc (ql5 g0 hx1 hL b1 b2 c1 c2 c3 c4 k5 n1), n2⟩
        by_cases k6 : (xs x3.toNatClampNeg &&& 63).toInt = 6
        · obtain ⟨r, h1, h2, fsM, c1, c2, c3, c4, hI2⟩ := A6 (xs (x3 + 1).toNatClampNeg) (qb (xs (x3 + 2).toNatClampNeg)) (qb01 _)
          obtain ⟨hF, n1, n2⟩ := nx h2 hI2
          exact ⟨hF, qlgo b1 hc (ql6 g0 hx1 hL b1 b2 c1 c2 c3 c4 k6 n1), n2⟩
        by_cases k7 : (xs x3.toNatClampNeg &&& 63).toInt = 7
        · obtain ⟨r, h1, h2, fsM, c1, c2, c3, c4, hI2⟩ := A7 (xs (x3 + 1).toNatClampNeg) (qb (xs (x3 + 2).toNatClampNeg)) (qb01 _)
          obtain ⟨hF, n1, n2⟩ := nx h2 hI2
          exact ⟨hF, qlgo b1 hc (ql7 g0 hx1 hL b1 b2 c1 c2 c3 c4 k7 n1), n2⟩
        by_cases k8 : (xs x3.toNatClampNeg &&& 63).toInt = 8
        · obtain ⟨r, h1, h2, fsM, c1, c2, c3, c4, hI2⟩ := A8 (xs (x3 + 1).toNatClampNeg) (xs (x3 + 2).toNatClampNeg) 
          obtain ⟨hF, n1, n2⟩ := nx h2 hI2
          exact ⟨hF, qlgo b1 hc (ql8 g0 hx1 hL b1 b2 c1 c2 c3 c4 k8 n1), n2⟩
        by_cases k9 : (xs x3.toNatClampNeg &&& 63).toInt = 9
        · obtain ⟨r, h1, h2, fsM, c1, c2, c3, c4, hI2⟩ := A9 (xs (x3 + 1).toNatClampNeg) 
          obtain ⟨hF, n1, n2⟩ := nx h2 hI2
          exact ⟨hF, qlgo b1 hc (ql9 g0 hx1 hL b1 b2 c1 c2 c3 c4 k9 n1), n2⟩
        by_cases k10 : (xs x3.toNatClampNeg &&& 63).toInt = 10
        · obtain ⟨r, h1, h2, fsM, c1, c2, c3, c4, hI2⟩ := A10 (xs (x3 + 1).toNatClampNeg) (xs (x3 + 2).toNatClampNeg) (xs (x3 + 3).toNatClampNeg) (xs (x3 + 4).toNatClampNeg) (xs (x3 + 5).toNatClampNeg) 
          obtain ⟨hF, n1, n2⟩ := nx h2 hI2
          exact ⟨hF, qlgo b1 hc (ql10 g0 hx1 hL b1 b2 c1 c2 c3 c4 k10 n1), n2⟩
        by_cases k11 : (xs x3.toNatClampNeg &&& 63).toInt = 11
        · obtain ⟨r, h1, h2, fsM, c1, c2, c3, c4, hI2⟩ := A11 (xs (x3 + 1).toNatClampNeg) 
          obtain ⟨hF, n1, n2⟩ := nx h2 hI2
          exact ⟨hF, qlgo b1 hc (ql11 g0 hx1 hL b1 b2 c1 c2 c3 c4 k11 n1), n2⟩
        by_cases k12 : (xs x3.toNatClampNeg &&& 63).toInt = 12
        · obtain ⟨r, h1, h2, fsM, c1, c2, c3, c4, hI2⟩ := A12  
          obtain ⟨hF, n1, n2⟩ := nx h2 hI2
          exact ⟨hF, qlgo b1 hc (ql12 g0 hx1 hL b1 b2 c1 c2 c3 c4 k12 n1), n2⟩
        by_cases k13 : (xs x3.toNatClampNeg &&& 63).toInt = 13
        · obtain ⟨r, h1, h2, fsM, c1, c2, c3, c4, hI2⟩ := A13 (xs (x3 + 1).toNatClampNeg) 
          obtain ⟨hF, n1, n2⟩ := nx h2 hI2
          exact ⟨hF, qlgo b1 hc (ql13 g0 hx1 hL b1 b2 c1 c2 c3 c4 k13 n1), n2⟩
        by_cases k14 : (xs x3.toNatClampNeg &&& 63).toInt = 14
        · obtain ⟨r, h1, h2, fsM, c1, c2, c3, c4, hI2⟩ := A14 (xs (x3 + 1).toNatClampNeg) (xs (x3 + 2).toNatClampNeg) 
          obtain ⟨hF, n1, n2⟩ := nx h2 hI2
          exact ⟨hF, qlgo b1 hc (ql14 g0 hx1 hL b1 b2 c1 c2 c3 c4 k14 n1), n2⟩
        by_cases k15 : (xs x3.toNatClampNeg &&& 63).toInt = 15
        · obtain ⟨r, h1, h2, fsM, c1, c2, c3, c4, hI2⟩ := A15 (xs (x3 + 1).toNatClampNeg) (xs (x3 + 2).toNatClampNeg) 
          obtain ⟨hF, n1, n2⟩ := nx h2 hI2
          exact ⟨hF, qlgo b1 hc (ql15 g0 hx1 hL b1 b2 c1 c2 c3 c4 k15 n1), n2⟩
        by_cases k16 : (xs x3.toNatClampNeg &&& 63).toInt = 16
        · obtain ⟨r, h1, h2, fsM, c1, c2, c3, c4, hI2⟩ := A16 (xs (x3 + 1).toNatClampNeg) (xs (x3 + 2).toNatClampNeg) 
          obtain ⟨hF, n1, n2⟩ := nx h2 hI2
          exact ⟨hF, qlgo b1 hc (ql16 g0 hx1 hL b1 b2 c1 c2 c3 c4 k16 n1), n2⟩
        by_cases k17 : (xs x3.toNatClampNeg &&& 63).toInt = 17
        · obtain ⟨r, h1, h2, fsM, c1, c2, c3, c4, hI2⟩ := A17 (xs (x3 + 1).toNatClampNeg) (xs (x3 + 2).toNatClampNeg) 
          obtain ⟨hF, n1, n2⟩ := nx h2 hI2
          exact ⟨hF, qlgo b1 hc (ql17 g0 hx1 hL b1 b2 c1 c2 c3 c4 k17 n1), n2⟩
        by_cases k18 : (xs x3.toNatClampNeg &&& 63).toInt = 18
        · obtain ⟨r, h1, h2, fsM, c1, c2, c3, c4, hI2⟩ := A18 (xs (x3 + 1).toNatClampNeg) 
          obtain ⟨hF, n1, n2⟩ := nx h2 hI2
          exact ⟨hF, qlgo b1 hc (ql18 g0 hx1 hL b1 b2 c1 c2 c3 c4 k18 n1), n2⟩
        by_cases k19 : (xs x3.toNatClampNeg &&& 63).toInt = 19
        · obtain ⟨r, h1, h2, fsM, c1, c2, c3, c4, hI2⟩ := A19  
          obtain ⟨hF, n1, n2⟩ := nx h2 hI2
          exact ⟨hF, qlgo b1 hc (ql19 g0 hx1 hL b1 b2 c1 c2 c3 c4 k19 n1), n2⟩
        by_cases k20 : (xs x3.toNatClampNeg &&& 63).toInt = 20
        · obtain ⟨r, h1, h2, fsM, c1, c2, c3, c4, hI2⟩ := A20 (xs (x3 + 1).toNatClampNeg) (qb (xs (x3 + 2).toNatClampNeg)) (qb01 _)
          obtain ⟨hF, n1, n2⟩ := nx h2 hI2
          exact ⟨hF, qlgo b1 hc (ql20 g0 hx1 hL b1 b2 c1 c2 c3 c4 k20 n1), n2⟩
        by_cases k21 : (xs x3.toNatClampNeg &&& 63).toInt = 21
        · obtain ⟨r, h1, h2, fsM, c1, c2, c3, c4, hI2⟩ := A21 (xs (x3 + 1).toNatClampNeg) (xs (x3 + 2).toNatClampNeg) (xs (x3 + 3).toNatClampNeg) 
          obtain ⟨hF, n1, n2⟩ := nx h2 hI2
          exact ⟨hF, qlgo b1 hc (ql21 g0 hx1 hL b1 b2 c1 c2 c3 c4 k21 n1), n2⟩
        by_cases k22 : (xs x3.toNatClampNeg &&& 63).toInt = 22
        · obtain ⟨r, h1, h2, fsM, c1, c2, c3, c4, hI2⟩ := A22 (xs (x3 + 1).toNatClampNeg) 
          obtain ⟨hF, n1, n2⟩ := nx h2 hI2
          exact ⟨hF, qlgo b1 hc (ql22 g0 hx1 hL b1 b2 c1 c2 c3 c4 k22 n1), n2⟩
        by_cases k23 : (xs x3.toNatClampNeg &&& 63).toInt = 23
        · obtain ⟨r, h1, h2, fsM, c1, c2, c3, c4, hI2⟩ := A23 (xs (x3 + 1).toNatClampNeg) (xs (x3 + 2).toNatClampNeg) (xs (x3 + 3).toNatClampNeg) 
          obtain ⟨hF, n1, n2⟩ := nx h2 hI2
          exact ⟨hF, qlgo b1 hc (ql23 g0 hx1 hL b1 b2 c1 c2 c3 c4 k23 n1), n2⟩
        by_cases k24 : (xs x3.toNatClampNeg &&& 63).toInt = 24
        · obtain ⟨r, h1, h2, fsM, c1, c2, c3, c4, hI2⟩ := A24 (xs (x3 + 1).toNatClampNeg) (xs (x3 + 2).toNatClampNeg) 
          obtain ⟨hF, n1, n2⟩ := nx h2 hI2
          exact ⟨hF, qlgo b1 hc (ql24 g0 hx1 hL b1 b2 c1 c2 c3 c4 k24 n1), n2⟩
        by_cases k25 : (xs x3.toNatClampNeg &&& 63).toInt = 25
        · obtain ⟨r, h1, h2, fsM, c1, c2, c3, c4, hI2⟩ := A25 (xs (x3 + 1).toNatClampNeg) (xs (x3 + 2).toNatClampNeg) 
          obtain ⟨hF, n1, n2⟩ := nx h2 hI2
          exact ⟨hF, qlgo b1 hc (ql25 g0 hx1 hL b1 b2 c1 c2 c3 c4 k25 n1), n2⟩
        by_cases k26 : (xs x3.toNatClampNeg &&& 63).toInt = 26
        · obtain ⟨r, h1, h2, fsM, c1, c2, c3, c4, hI2⟩ := A26 (xs (x3 + 1).toNatClampNeg) (xs (x3 + 2).toNatClampNeg) (xs (x3 + 3).toNatClampNeg) 
          obtain ⟨hF, n1, n2⟩ := nx h2 hI2
          exact ⟨hF, qlgo b1 hc (ql26 g0 hx1 hL b1 b2 c1 c2 c3 c4 k26 n1), n2⟩
        by_cases k27 : (xs x3.toNatClampNeg &&& 63).toInt = 27
        · obtain ⟨r, h1, h2, fsM, c1, c2, c3, c4, hI2⟩ := A27 (xs (x3 + 1).toNatClampNeg) (xs (x3 + 2).toNatClampNeg) 
          obtain ⟨hF, n1, n2⟩ := nx h2 hI2
          exact ⟨hF, qlgo b1 hc (ql27 g0 hx1 hL b1 b2 c1 c2 c3 c4 k27 n1), n2⟩
        by_cases k28 : (xs x3.toNatClampNeg &&& 63).toInt = 28
        · obtain ⟨r, h1, h2, fsM, c1, c2, c3, c4, hI2⟩ := A28 (xs (x3 + 1).toNatClampNeg) (xs (x3 + 2).toNatClampNeg) 
          obtain ⟨hF, n1, n2⟩ := nx h2 hI2
          exact ⟨hF, qlgo b1 hc (ql28 g0 hx1 hL b1 b2 c1 c2 c3 c4 k28 n1), n2⟩
        by_cases k29 : (xs x3.toNatClampNeg &&& 63).toInt = 29
        · obtain ⟨r, h1, h2, fsM, c1, c2, c3, c4, hI2⟩ := A29 (xs (x3 + 1).toNatClampNeg) (xs (x3 + 2).toNatClampNeg) 
          obtain ⟨hF, n1, n2⟩ := nx h2 hI2
          exact ⟨hF, qlgo b1 hc (ql29 g0 hx1 hL b1 b2 c1 c2 c3 c4 k29 n1), n2⟩
        by_cases k30 : (xs x3.toNatClampNeg &&& 63).toInt = 30
        · obtain ⟨r, h1, h2, fsM, c1, c2, c3, c4, hI2⟩ := A30 (xs (x3 + 1).toNatClampNeg) (qb (xs (x3 + 2).toNatClampNeg)) (xs (x3 + 3).toNatClampNeg) (qb01 _)
          obtain ⟨hF, n1, n2⟩ := nx h2 hI2
          exact ⟨hF, qlgo b1 hc (ql30 g0 hx1 hL b1 b2 c1 c2 c3 c4 k30 n1), n2⟩
        by_cases k31 : (xs x3.toNatClampNeg &&& 63).toInt = 31
        · obtain ⟨r, h1, h2, fsM, c1, c2, c3, c4, hI2⟩ := A31 (xs (x3 + 1).toNatClampNeg) 
          obtain ⟨hF, n1, n2⟩ := nx h2 hI2
          exact ⟨hF, qlgo b1 hc (ql31 g0 hx1 hL b1 b2 c1 c2 c3 c4 k31 n1), n2⟩
        by_cases k32 : (xs x3.toNatClampNeg &&& 63).toInt = 32
        · obtain ⟨r, h1, h2, fsM, c1, c2, c3, c4, hI2⟩ := A32 (xs (x3 + 1).toNatClampNeg) (xs (x3 + 2).toNatClampNeg) 
          obtain ⟨hF, n1, n2⟩ := nx h2 hI2
          exact ⟨hF, qlgo b1 hc (ql32 g0 hx1 hL b1 b2 c1 c2 c3 c4 k32 n1), n2⟩
        by_cases k33 : (xs x3.toNatClampNeg &&& 63).toInt = 33
        · obtain ⟨r, h1, h2, fsM, c1, c2, c3, c4, hI2⟩ := A33 (xs (x3 + 1).toNatClampNeg) (xs (x3 + 2).toNatClampNeg) (xs (x3 + 3).toNatClampNeg) 
          obtain ⟨hF, n1, n2⟩ := nx h2 hI2
          exact ⟨hF, qlgo b1 hc (ql33 g0 hx1 hL b1 b2 c1 c2 c3 c4 k33 n1), n2⟩
        by_cases k34 : (xs x3.toNatClampNeg &&& 63).toInt = 34
        · obtain ⟨r, h1, h2, fsM, c1, c2, c3, c4, hI2⟩ := A34 (xs (x3 + 1).toNatClampNeg) 
          obtain ⟨hF, n1, n2⟩ := nx h2 hI2
          exact ⟨hF, qlgo b1 hc (ql34 g0 hx1 hL b1 b2 c1 c2 c3 c4 k34 n1), n2⟩
        by_cases k35 : (xs x3.toNatClampNeg &&& 63).toInt = 35
        · obtain ⟨r, h1, h2, fsM, c1, c2, c3, c4, hI2⟩ := A35 (xs (x3 + 1).toNatClampNeg) 
          obtain ⟨hF, n1, n2⟩ := nx h2 hI2
          exact ⟨hF, qlgo b1 hc (ql35 g0 hx1 hL b1 b2 c1 c2 c3 c4 k35 n1), n2⟩
        obtain ⟨hF, n1, n2⟩ := nx h (hw _ _ _ _ hI)
        exact ⟨hF, qlgo b1 hc (qlD g0 hx1 hL b1 (by omega) n1), n2⟩
  obtain ⟨hF, e1, e2⟩ := loop L 0 0 (qg373 L xs) (h0 L xs hL) (by decide) rfl (by omega) (by show (L : Int) - Int32.toInt 0 ≤ L; rw [show Int32.toInt 0 = 0 from by decide]; omega)
  obtain ⟨n, e3⟩ := qlstart e1
  exact ⟨n, hF, e3, e2⟩
