/-! The calls put together. -/
/-- what holds of the heap before each call -/
def rvI (L : Nat) (xs : Nat → Int32) (h : qH) : Prop := ∃ (X : Nat × Nat × qC) (M : Mm), Rep X M h ∧ GI M ∧ X.2.2 = .inl (8, L, .inl xs) ∧ X.2.1 = 61442 + 58 * X.1
theorem cell142 {X : Nat × Nat × qC} {M : Mm} {h : qH} (hR : Rep X M h) : ∃ fs, h.2.2 142 = some (.inr (12, fs)) := by
  have h1 := hR.cell 142 (by decide) (by omega)
  have e : lay 142 = (5, 12, 0, (lay 142).2.2.2) := rfl
  rw [e] at h1
  exact ⟨_, h1⟩
theorem cell2 {X : Nat × Nat × qC} {M : Mm} {h : qH} (hR : Rep X M h) : h.2.2 2 = some (.inr (11, mflds M 2 0 [3, 24, 29, 30, 31, 49, 73, 98, 102, 112, 125, 132, 134, 2])) := by
  have h1 := hR.cell 2 (by decide) (by omega)
  have e : lay 2 = (5, 11, 0, [3, 24, 29, 30, 31, 49, 73, 98, 102, 112, 125, 132, 134, 2]) := rfl
  rw [e] at h1
  exact h1
theorem cell24 {X : Nat × Nat × qC} {M : Mm} {h : qH} (hR : Rep X M h) : h.2.2 24 = some (.inr (8, mflds M 24 0 [0, 0, 0, 0, 25, 26, 27, 28])) := by
  have h1 := hR.cell 24 (by decide) (by omega)
  have e : lay 24 = (5, 8, 0, [0, 0, 0, 0, 25, 26, 27, 28]) := rfl
  rw [e] at h1
  exact h1
section ONE
variable {X : Nat × Nat × qC} {M : Mm} {h : qH} {L : Nat} {xs : Nat → Int32} {kC kM : Nat} {as : List Value}
theorem oneI (hR : Rep X M h) (hX : X.2.2 = .inl (8, L, .inl xs)) (hs : X.2.1 = 61442 + 58 * X.1) (c : mC X 2048 kC 1 (.ref 2 :: as) M (fun v M2 => mC X 2048 kM 1 (.ref 142 :: as) M2 (fun v2 M3 => v2 = v ∧ GI M3))) : qOneI kC kM as h (.inl (8, L, .inl xs)) (rvI L xs) := by
  obtain ⟨v, M2, h1, c1, R1, _, c2⟩ := c h hR
  obtain ⟨v2, M3, h2, d1, R2, _, d2, d3⟩ := c2 h1 R1
  obtain ⟨fs, e⟩ := cell142 R1
  subst d2
  exact ⟨Int32.ofInt v2, h1, h2, fs, c1, by rw [R1.scr, hX], e, d1, X, M3, R2, d3, hX, hs⟩
theorem oneJ (hR : Rep X M h) (hX : X.2.2 = .inl (8, L, .inl xs)) (hs : X.2.1 = 61442 + 58 * X.1) (c : mC X 2048 kC 2 (.ref 2 :: as) M (fun v M2 => mC X 2048 kM 2 (.ref 142 :: as) M2 (fun v2 M3 => v2 = v ∧ GI M3))) : qOneJ kC kM as h (.inl (8, L, .inl xs)) (rvI L xs) := by
  obtain ⟨v, M2, h1, c1, R1, _, c2⟩ := c h hR
  obtain ⟨v2, M3, h2, d1, R2, _, d2, d3⟩ := c2 h1 R1
  obtain ⟨fs, e⟩ := cell142 R1
  subst d2
  exact ⟨Int64.ofInt v2, h1, h2, fs, c1, by rw [R1.scr, hX], e, d1, X, M3, R2, d3, hX, hs⟩
end ONE
theorem g71 {X : Nat × Nat × qC} {N S M : Mm} {Ps : Nat → Mm} {l : List (Bool × Sem)} {x1 x2 x3 : Int} (h : IV N S Ps l M) (hx1 : R4 x1) (hx2 : R4 x2) (hx3 : R4 x3) : mC X 2048 71 1 [.ref 2, .int (Int32.ofInt x1), .int (Int32.ofInt x2), .int (Int32.ofInt x3)] M (fun v M2 => mC X 2048 171 1 [.ref 142, .int (Int32.ofInt x1), .int (Int32.ofInt x2), .int (Int32.ofInt x3)] M2 (fun v2 M3 => v2 = v ∧ GI M3)) :=
  mC.mono (s71 (d := 2045) (R := fun r => JJ r.1 (f171 x1 x2 x3 r.2)) hx1 hx2 hx3 (c71 h)) (fun v M2 w => s171 (d := 2045) (R := fun r => r.1 = v ∧ GI r.2) hx1 hx2 hx3 w)
theorem a71 {X : Nat × Nat × qC} {M : Mm} {h : qH} {L : Nat} {xs : Nat → Int32} (hR : Rep X M h) (hX : X.2.2 = .inl (8, L, .inl xs)) (hs : X.2.1 = 61442 + 58 * X.1) (hg : GI M) (a b c : Int32) : qOneI 71 171 [.int a, .int b, .int c] h (.inl (8, L, .inl xs)) (rvI L xs) := by
  obtain ⟨N, S, Ps, l, g⟩ := hg
  have key := g71 (X := X) (x1 := a.toInt) (x2 := b.toInt) (x3 := c.toInt) g (r4_toInt a) (r4_toInt b) (r4_toInt c)
  simp only [Int32.ofInt_toInt] at key
  exact oneI hR hX hs key
theorem g77 {X : Nat × Nat × qC} {N S M : Mm} {Ps : Nat → Mm} {l : List (Bool × Sem)} {x1 x2 x3 x4 x5 : Int} (h : IV N S Ps l M) (hx1 : R4 x1) (hx2 : R4 x2) (hx3 : R4 x3) (hx4 : R4 x4) (hx5 : R4 x5) : mC X 2048 77 1 [.ref 2, .int (Int32.ofInt x1), .int (Int32.ofInt x2), .int (Int32.ofInt x3), .int (Int32.ofInt x4), .int (Int32.ofInt x5)] M (fun v M2 => mC X 2048 185 1 [.ref 142, .int (Int32.ofInt x1), .int (Int32.ofInt x2), .int (Int32.ofInt x3), .int (Int32.ofInt x4), .int (Int32.ofInt x5)] M2 (fun v2 M3 => v2 = v ∧ GI M3)) :=
  mC.mono (s77 (d := 2046) (R := fun r => JJ r.1 (f185 x1 x2 x3 x4 x5 r.2)) hx1 hx2 hx3 hx4 hx5 (c77 h)) (fun v M2 w => s185 (d := 2045) (R := fun r => r.1 = v ∧ GI r.2) hx1 hx2 hx3 hx4 hx5 w)
theorem a77 {X : Nat × Nat × qC} {M : Mm} {h : qH} {L : Nat} {xs : Nat → Int32} (hR : Rep X M h) (hX : X.2.2 = .inl (8, L, .inl xs)) (hs : X.2.1 = 61442 + 58 * X.1) (hg : GI M) (a b c d e : Int32) : qOneI 77 185 [.int a, .int b, .int c, .int d, .int e] h (.inl (8, L, .inl xs)) (rvI L xs) := by
  obtain ⟨N, S, Ps, l, g⟩ := hg
  have key := g77 (X := X) (x1 := a.toInt) (x2 := b.toInt) (x3 := c.toInt) (x4 := d.toInt) (x5 := e.toInt) g (r4_toInt a) (r4_toInt b) (r4_toInt c) (r4_toInt d) (r4_toInt e)
  simp only [Int32.ofInt_toInt] at key
  exact oneI hR hX hs key
theorem g81 {X : Nat × Nat × qC} {N S M : Mm} {Ps : Nat → Mm} {l : List (Bool × Sem)} {x1 x2 x3 : Int} (h : IV N S Ps l M) (hx1 : R4 x1) (hx2 : R4 x2) (hx3 : R4 x3) : mC X 2048 81 1 [.ref 2, .int (Int32.ofInt x1), .int (Int32.ofInt x2), .int (Int32.ofInt x3)] M (fun v M2 => mC X 2048 188 1 [.ref 142, .int (Int32.ofInt x1), .int (Int32.ofInt x2), .int (Int32.ofInt x3)] M2 (fun v2 M3 => v2 = v ∧ GI M3)) :=
  mC.mono (s81 (d := 2046) (R := fun r => JJ r.1 (f188 x1 x2 x3 r.2)) hx1 hx2 hx3 (c81 h)) (fun v M2 w => s188 (d := 2045) (R := fun r => r.1 = v ∧ GI r.2) hx1 hx2 hx3 w)
theorem a81 {X : Nat × Nat × qC} {M : Mm} {h : qH} {L : Nat} {xs : Nat → Int32} (hR : Rep X M h) (hX : X.2.2 = .inl (8, L, .inl xs)) (hs : X.2.1 = 61442 + 58 * X.1) (hg : GI M) (a b c : Int32) : qOneI 81 188 [.int a, .int b, .int c] h (.inl (8, L, .inl xs)) (rvI L xs) := by
  obtain ⟨N, S, Ps, l, g⟩ := hg
  have key := g81 (X := X) (x1 := a.toInt) (x2 := b.toInt) (x3 := c.toInt) g (r4_toInt a) (r4_toInt b) (r4_toInt c)
  simp only [Int32.ofInt_toInt] at key
  exact oneI hR hX hs key
theorem g75 {X : Nat × Nat × qC} {N S M : Mm} {Ps : Nat → Mm} {l : List (Bool × Sem)} {x1 x2 : Int} (h : IV N S Ps l M) (hx1 : R4 x1) (hx2 : R4 x2) : mC X 2048 75 1 [.ref 2, .int (Int32.ofInt x1), .int (Int32.ofInt x2)] M (fun v M2 => mC X 2048 180 1 [.ref 142, .int (Int32.ofInt x1), .int (Int32.ofInt x2)] M2 (fun v2 M3 => v2 = v ∧ GI M3)) :=
  mC.mono (s75 (d := 2046) (R := fun r => JJ r.1 (f180 x1 x2 r.2)) hx1 hx2 (c75 h)) (fun v M2 w => s180 (d := 2045) (R := fun r => r.1 = v ∧ GI r.2) hx1 hx2 w)
theorem a75 {X : Nat × Nat × qC} {M : Mm} {h : qH} {L : Nat} {xs : Nat → Int32} (hR : Rep X M h) (hX : X.2.2 = .inl (8, L, .inl xs)) (hs : X.2.1 = 61442 + 58 * X.1) (hg : GI M) (a b : Int32) : qOneI 75 180 [.int a, .int b] h (.inl (8, L, .inl xs)) (rvI L xs) := by
  obtain ⟨N, S, Ps, l, g⟩ := hg
  have key := g75 (X := X) (x1 := a.toInt) (x2 := b.toInt) g (r4_toInt a) (r4_toInt b)
  simp only [Int32.ofInt_toInt] at key
  exact oneI hR hX hs key
theorem g38 {X : Nat × Nat × qC} {N S M : Mm} {Ps : Nat → Mm} {l : List (Bool × Sem)} {x1 : Int} (h : IV N S Ps l M) (hx1 : R4 x1) : mC X 2048 38 1 [.ref 2, .int (Int32.ofInt x1)] M (fun v M2 => mC X 2048 95 1 [.ref 142, .int (Int32.ofInt x1)] M2 (fun v2 M3 => v2 = v ∧ GI M3)) :=
  mC.mono (s38 (d := 2046) (R := fun r => JJ r.1 (f95 x1 r.2)) hx1 (c38 h)) (fun v M2 w => s95 (d := 2046) (R := fun r => r.1 = v ∧ GI r.2) hx1 w)
theorem a38 {X : Nat × Nat × qC} {M : Mm} {h : qH} {L : Nat} {xs : Nat → Int32} (hR : Rep X M h) (hX : X.2.2 = .inl (8, L, .inl xs)) (hs : X.2.1 = 61442 + 58 * X.1) (hg : GI M) (a : Int32) : qOneI 38 95 [.int a] h (.inl (8, L, .inl xs)) (rvI L xs) := by
  obtain ⟨N, S, Ps, l, g⟩ := hg
  have key := g38 (X := X) (x1 := a.toInt) g (r4_toInt a)
  simp only [Int32.ofInt_toInt] at key
  exact oneI hR hX hs key
theorem g76 {X : Nat × Nat × qC} {N S M : Mm} {Ps : Nat → Mm} {l : List (Bool × Sem)} {x1 x2 : Int} (h : IV N S Ps l M) (hx1 : R4 x1) (hx2 : R4 x2) (h2 : x2 = 0 ∨ x2 = 1) : mC X 2048 76 1 [.ref 2, .int (Int32.ofInt x1), .int (Int32.ofInt x2)] M (fun v M2 => mC X 2048 181 1 [.ref 142, .int (Int32.ofInt x1), .int (Int32.ofInt x2)] M2 (fun v2 M3 => v2 = v ∧ GI M3)) :=
  mC.mono (s76 (d := 2046) (R := fun r => JJ r.1 (f181 x1 x2 r.2)) hx1 hx2 (c76 h h2)) (fun v M2 w => s181 (d := 2045) (R := fun r => r.1 = v ∧ GI r.2) hx1 hx2 w)
theorem a76 {X : Nat × Nat × qC} {M : Mm} {h : qH} {L : Nat} {xs : Nat → Int32} (hR : Rep X M h) (hX : X.2.2 = .inl (8, L, .inl xs)) (hs : X.2.1 = 61442 + 58 * X.1) (hg : GI M) (a b : Int32) (hb : b = 0 ∨ b = 1) : qOneI 76 181 [.int a, .int b] h (.inl (8, L, .inl xs)) (rvI L xs) := by
  obtain ⟨N, S, Ps, l, g⟩ := hg
  have hb2 : b.toInt = 0 ∨ b.toInt = 1 := by rcases hb with rfl | rfl
                                             · exact Or.inl rfl
                                             · exact Or.inr rfl
  have key := g76 (X := X) (x1 := a.toInt) (x2 := b.toInt) g (r4_toInt a) (r4_toInt b) hb2
  simp only [Int32.ofInt_toInt] at key
  exact oneI hR hX hs key
theorem g67 {X : Nat × Nat × qC} {N S M : Mm} {Ps : Nat → Mm} {l : List (Bool × Sem)} {x1 x2 : Int} (h : IV N S Ps l M) (hx1 : R4 x1) (hx2 : R4 x2) (h2 : x2 = 0 ∨ x2 = 1) : mC X 2048 67 1 [.ref 2, .int (Int32.ofInt x1), .int (Int32.ofInt x2)] M (fun v M2 => mC X 2048 159 1 [.ref 142, .int (Int32.ofInt x1), .int (Int32.ofInt x2)] M2 (fun v2 M3 => v2 = v ∧ GI M3)) :=
  mC.mono (s67 (d := 2046) (R := fun r => JJ r.1 (f159 x1 x2 r.2)) hx1 hx2 (c67 h h2)) (fun v M2 w => s159 (d := 2045) (R := fun r => r.1 = v ∧ GI r.2) hx1 hx2 w)
theorem a67 {X : Nat × Nat × qC} {M : Mm} {h : qH} {L : Nat} {xs : Nat → Int32} (hR : Rep X M h) (hX : X.2.2 = .inl (8, L, .inl xs)) (hs : X.2.1 = 61442 + 58 * X.1) (hg : GI M) (a b : Int32) (hb : b = 0 ∨ b = 1) : qOneI 67 159 [.int a, .int b] h (.inl (8, L, .inl xs)) (rvI L xs) := by
  obtain ⟨N, S, Ps, l, g⟩ := hg
  have hb2 : b.toInt = 0 ∨ b.toInt = 1 := by rcases hb with rfl | rfl
                                             · exact Or.inl rfl
                                             · exact Or.inr rfl
  have key := g67 (X := X) (x1 := a.toInt) (x2 := b.toInt) g (r4_toInt a) (r4_toInt b) hb2
  simp only [Int32.ofInt_toInt] at key
  exact oneI hR hX hs key
theorem g68 {X : Nat × Nat × qC} {N S M : Mm} {Ps : Nat → Mm} {l : List (Bool × Sem)} {x1 x2 : Int} (h : IV N S Ps l M) (hx1 : R4 x1) (hx2 : R4 x2) (h2 : x2 = 0 ∨ x2 = 1) : mC X 2048 68 1 [.ref 2, .int (Int32.ofInt x1), .int (Int32.ofInt x2)] M (fun v M2 => mC X 2048 161 1 [.ref 142, .int (Int32.ofInt x1), .int (Int32.ofInt x2)] M2 (fun v2 M3 => v2 = v ∧ GI M3)) :=
  mC.mono (s68 (d := 2046) (R := fun r => JJ r.1 (f161 x1 x2 r.2)) hx1 hx2 (c68 h h2)) (fun v M2 w => s161 (d := 2045) (R := fun r => r.1 = v ∧ GI r.2) hx1 hx2 w)
theorem a68 {X : Nat × Nat × qC} {M : Mm} {h : qH} {L : Nat} {xs : Nat → Int32} (hR : Rep X M h) (hX : X.2.2 = .inl (8, L, .inl xs)) (hs : X.2.1 = 61442 + 58 * X.1) (hg : GI M) (a b : Int32) (hb : b = 0 ∨ b = 1) : qOneI 68 161 [.int a, .int b] h (.inl (8, L, .inl xs)) (rvI L xs) := by
  obtain ⟨N, S, Ps, l, g⟩ := hg
  have hb2 : b.toInt = 0 ∨ b.toInt = 1 := by rcases hb with rfl | rfl
                                             · exact Or.inl rfl
                                             · exact Or.inr rfl
  have key := g68 (X := X) (x1 := a.toInt) (x2 := b.toInt) g (r4_toInt a) (r4_toInt b) hb2
  simp only [Int32.ofInt_toInt] at key
  exact oneI hR hX hs key
theorem g62 {X : Nat × Nat × qC} {N S M : Mm} {Ps : Nat → Mm} {l : List (Bool × Sem)} {x1 x2 : Int} (h : IV N S Ps l M) (hx1 : R4 x1) (hx2 : R4 x2) : mC X 2048 62 1 [.ref 2, .int (Int32.ofInt x1), .int (Int32.ofInt x2)] M (fun v M2 => mC X 2048 144 1 [.ref 142, .int (Int32.ofInt x1), .int (Int32.ofInt x2)] M2 (fun v2 M3 => v2 = v ∧ GI M3)) :=
  mC.mono (s62 (d := 2046) (R := fun r => JJ r.1 (f144 x1 x2 r.2)) hx1 hx2 (c62 h)) (fun v M2 w => s144 (d := 2045) (R := fun r => r.1 = v ∧ GI r.2) hx1 hx2 w)
theorem a62 {X : Nat × Nat × qC} {M : Mm} {h : qH} {L : Nat} {xs : Nat → Int32} (hR : Rep X M h) (hX : X.2.2 = .inl (8, L, .inl xs)) (hs : X.2.1 = 61442 + 58 * X.1) (hg : GI M) (a b : Int32) : qOneI 62 144 [.int a, .int b] h (.inl (8, L, .inl xs)) (rvI L xs) := by
  obtain ⟨N, S, Ps, l, g⟩ := hg
  have key := g62 (X := X) (x1 := a.toInt) (x2 := b.toInt) g (r4_toInt a) (r4_toInt b)
  simp only [Int32.ofInt_toInt] at key
  exact oneI hR hX hs key
theorem g63 {X : Nat × Nat × qC} {N S M : Mm} {Ps : Nat → Mm} {l : List (Bool × Sem)} {x1 : Int} (h : IV N S Ps l M) (hx1 : R4 x1) : mC X 2048 63 1 [.ref 2, .int (Int32.ofInt x1)] M (fun v M2 => mC X 2048 147 1 [.ref 142, .int (Int32.ofInt x1)] M2 (fun v2 M3 => v2 = v ∧ GI M3)) :=
  mC.mono (s63 (d := 2046) (R := fun r => JJ r.1 (f147 x1 r.2)) hx1 (c63 h)) (fun v M2 w => s147 (d := 2045) (R := fun r => r.1 = v ∧ GI r.2) hx1 w)
theorem a63 {X : Nat × Nat × qC} {M : Mm} {h : qH} {L : Nat} {xs : Nat → Int32} (hR : Rep X M h) (hX : X.2.2 = .inl (8, L, .inl xs)) (hs : X.2.1 = 61442 + 58 * X.1) (hg : GI M) (a : Int32) : qOneI 63 147 [.int a] h (.inl (8, L, .inl xs)) (rvI L xs) := by
  obtain ⟨N, S, Ps, l, g⟩ := hg
  have key := g63 (X := X) (x1 := a.toInt) g (r4_toInt a)
  simp only [Int32.ofInt_toInt] at key
  exact oneI hR hX hs key
theorem g46 {X : Nat × Nat × qC} {N S M : Mm} {Ps : Nat → Mm} {l : List (Bool × Sem)} {x1 x2 x3 x4 x5 : Int} (h : IV N S Ps l M) (hx1 : R4 x1) (hx2 : R4 x2) (hx3 : R4 x3) (hx4 : R4 x4) (hx5 : R4 x5) : mC X 2048 46 1 [.ref 2, .int (Int32.ofInt x1), .int (Int32.ofInt x2), .int (Int32.ofInt x3), .int (Int32.ofInt x4), .int (Int32.ofInt x5)] M (fun v M2 => mC X 2048 107 1 [.ref 142, .int (Int32.ofInt x1), .int (Int32.ofInt x2), .int (Int32.ofInt x3), .int (Int32.ofInt x4), .int (Int32.ofInt x5)] M2 (fun v2 M3 => v2 = v ∧ GI M3)) :=
  mC.mono (s46 (d := 2046) (R := fun r => JJ r.1 (f107 x1 x2 x3 x4 x5 r.2)) hx1 hx2 hx3 hx4 hx5 (c46 h)) (fun v M2 w => s107 (d := 2046) (R := fun r => r.1 = v ∧ GI r.2) hx1 hx2 hx3 hx4 hx5 w)
theorem a46 {X : Nat × Nat × qC} {M : Mm} {h : qH} {L : Nat} {xs : Nat → Int32} (hR : Rep X M h) (hX : X.2.2 = .inl (8, L, .inl xs)) (hs : X.2.1 = 61442 + 58 * X.1) (hg : GI M) (a b c d e : Int32) : qOneI 46 107 [.int a, .int b, .int c, .int d, .int e] h (.inl (8, L, .inl xs)) (rvI L xs) := by
  obtain ⟨N, S, Ps, l, g⟩ := hg
  have key := g46 (X := X) (x1 := a.toInt) (x2 := b.toInt) (x3 := c.toInt) (x4 := d.toInt) (x5 := e.toInt) g (r4_toInt a) (r4_toInt b) (r4_toInt c) (r4_toInt d) (r4_toInt e)
  simp only [Int32.ofInt_toInt] at key
  exact oneI hR hX hs key
theorem g66 {X : Nat × Nat × qC} {N S M : Mm} {Ps : Nat → Mm} {l : List (Bool × Sem)} {x1 : Int} (h : IV N S Ps l M) (hx1 : R4 x1) : mC X 2048 66 1 [.ref 2, .int (Int32.ofInt x1)] M (fun v M2 => mC X 2048 158 1 [.ref 142, .int (Int32.ofInt x1)] M2 (fun v2 M3 => v2 = v ∧ GI M3)) :=
  mC.mono (s66 (d := 2003) (R := fun r => JJ r.1 (f158 x1 r.2)) hx1 (c66 h)) (fun v M2 w => s158 (d := 2040) (R := fun r => r.1 = v ∧ GI r.2) hx1 w)
theorem a66 {X : Nat × Nat × qC} {M : Mm} {h : qH} {L : Nat} {xs : Nat → Int32} (hR : Rep X M h) (hX : X.2.2 = .inl (8, L, .inl xs)) (hs : X.2.1 = 61442 + 58 * X.1) (hg : GI M) (a : Int32) : qOneI 66 158 [.int a] h (.inl (8, L, .inl xs)) (rvI L xs) := by
  obtain ⟨N, S, Ps, l, g⟩ := hg
  have key := g66 (X := X) (x1 := a.toInt) g (r4_toInt a)
  simp only [Int32.ofInt_toInt] at key
  exact oneI hR hX hs key
theorem g50 {X : Nat × Nat × qC} {N S M : Mm} {Ps : Nat → Mm} {l : List (Bool × Sem)} {x1 : Int} (h : IV N S Ps l M) (hx1 : R4 x1) : mC X 2048 50 2 [.ref 2, .int (Int32.ofInt x1)] M (fun v M2 => mC X 2048 110 2 [.ref 142, .int (Int32.ofInt x1)] M2 (fun v2 M3 => v2 = v ∧ GI M3)) :=
  mC.mono (s50 (d := 2043) (R := fun r => JJ r.1 (f110 x1 r.2)) hx1 (c50 h)) (fun v M2 w => s110 (d := 2042) (R := fun r => r.1 = v ∧ GI r.2) hx1 w)
theorem a50 {X : Nat × Nat × qC} {M : Mm} {h : qH} {L : Nat} {xs : Nat → Int32} (hR : Rep X M h) (hX : X.2.2 = .inl (8, L, .inl xs)) (hs : X.2.1 = 61442 + 58 * X.1) (hg : GI M) (a : Int32) : qOneJ 50 110 [.int a] h (.inl (8, L, .inl xs)) (rvI L xs) := by
  obtain ⟨N, S, Ps, l, g⟩ := hg
  have key := g50 (X := X) (x1 := a.toInt) g (r4_toInt a)
  simp only [Int32.ofInt_toInt] at key
  exact oneJ hR hX hs key
theorem g78 {X : Nat × Nat × qC} {N S M : Mm} {Ps : Nat → Mm} {l : List (Bool × Sem)} {x1 x2 : Int} (h : IV N S Ps l M) (hx1 : R4 x1) (hx2 : R4 x2) : mC X 2048 78 1 [.ref 2, .int (Int32.ofInt x1), .int (Int32.ofInt x2)] M (fun v M2 => mC X 2048 186 1 [.ref 142, .int (Int32.ofInt x1), .int (Int32.ofInt x2)] M2 (fun v2 M3 => v2 = v ∧ GI M3)) :=
  mC.mono (s78 (d := 2041) (R := fun r => JJ r.1 (f186 x1 x2 r.2)) hx1 hx2 (c78 h)) (fun v M2 w => s186 (d := 2041) (R := fun r => r.1 = v ∧ GI r.2) hx1 hx2 w)
theorem a78 {X : Nat × Nat × qC} {M : Mm} {h : qH} {L : Nat} {xs : Nat → Int32} (hR : Rep X M h) (hX : X.2.2 = .inl (8, L, .inl xs)) (hs : X.2.1 = 61442 + 58 * X.1) (hg : GI M) (a b : Int32) : qOneI 78 186 [.int a, .int b] h (.inl (8, L, .inl xs)) (rvI L xs) := by
  obtain ⟨N, S, Ps, l, g⟩ := hg
  have key := g78 (X := X) (x1 := a.toInt) (x2 := b.toInt) g (r4_toInt a) (r4_toInt b)
  simp only [Int32.ofInt_toInt] at key
  exact oneI hR hX hs key
theorem g82 {X : Nat × Nat × qC} {N S M : Mm} {Ps : Nat → Mm} {l : List (Bool × Sem)} {x1 x2 : Int} (h : IV N S Ps l M) (hx1 : R4 x1) (hx2 : R4 x2) : mC X 2048 82 1 [.ref 2, .int (Int32.ofInt x1), .int (Int32.ofInt x2)] M (fun v M2 => mC X 2048 189 1 [.ref 142, .int (Int32.ofInt x1), .int (Int32.ofInt x2)] M2 (fun v2 M3 => v2 = v ∧ GI M3)) :=
  mC.mono (s82 (d := 2043) (R := fun r => JJ r.1 (f189 x1 x2 r.2)) hx1 hx2 (c82 h)) (fun v M2 w => s189 (d := 2042) (R := fun r => r.1 = v ∧ GI r.2) hx1 hx2 w)
theorem a82 {X : Nat × Nat × qC} {M : Mm} {h : qH} {L : Nat} {xs : Nat → Int32} (hR : Rep X M h) (hX : X.2.2 = .inl (8, L, .inl xs)) (hs : X.2.1 = 61442 + 58 * X.1) (hg : GI M) (a b : Int32) : qOneI 82 189 [.int a, .int b] h (.inl (8, L, .inl xs)) (rvI L xs) := by
  obtain ⟨N, S, Ps, l, g⟩ := hg
  have key := g82 (X := X) (x1 := a.toInt) (x2 := b.toInt) g (r4_toInt a) (r4_toInt b)
  simp only [Int32.ofInt_toInt] at key
  exact oneI hR hX hs key
theorem g72 {X : Nat × Nat × qC} {N S M : Mm} {Ps : Nat → Mm} {l : List (Bool × Sem)} {x1 x2 : Int} (h : IV N S Ps l M) (hx1 : R4 x1) (hx2 : R4 x2) : mC X 2048 72 1 [.ref 2, .int (Int32.ofInt x1), .int (Int32.ofInt x2)] M (fun v M2 => mC X 2048 172 1 [.ref 142, .int (Int32.ofInt x1), .int (Int32.ofInt x2)] M2 (fun v2 M3 => v2 = v ∧ GI M3)) :=
  mC.mono (s72 (d := 2043) (R := fun r => JJ r.1 (f172 x1 x2 r.2)) hx1 hx2 (c72 h)) (fun v M2 w => s172 (d := 2042) (R := fun r => r.1 = v ∧ GI r.2) hx1 hx2 w)
theorem a72 {X : Nat × Nat × qC} {M : Mm} {h : qH} {L : Nat} {xs : Nat → Int32} (hR : Rep X M h) (hX : X.2.2 = .inl (8, L, .inl xs)) (hs : X.2.1 = 61442 + 58 * X.1) (hg : GI M) (a b : Int32) : qOneI 72 172 [.int a, .int b] h (.inl (8, L, .inl xs)) (rvI L xs) := by
  obtain ⟨N, S, Ps, l, g⟩ := hg
  have key := g72 (X := X) (x1 := a.toInt) (x2 := b.toInt) g (r4_toInt a) (r4_toInt b)
  simp only [Int32.ofInt_toInt] at key
  exact oneI hR hX hs key
theorem g45 {X : Nat × Nat × qC} {N S M : Mm} {Ps : Nat → Mm} {l : List (Bool × Sem)} {x1 x2 : Int} (h : IV N S Ps l M) (hx1 : R4 x1) (hx2 : R4 x2) : mC X 2048 45 1 [.ref 2, .int (Int32.ofInt x1), .int (Int32.ofInt x2)] M (fun v M2 => mC X 2048 105 1 [.ref 142, .int (Int32.ofInt x1), .int (Int32.ofInt x2)] M2 (fun v2 M3 => v2 = v ∧ GI M3)) :=
  mC.mono (s45 (d := 2040) (R := fun r => JJ r.1 (f105 x1 x2 r.2)) hx1 hx2 (c45 h)) (fun v M2 w => s105 (d := 2040) (R := fun r => r.1 = v ∧ GI r.2) hx1 hx2 w)
theorem a45 {X : Nat × Nat × qC} {M : Mm} {h : qH} {L : Nat} {xs : Nat → Int32} (hR : Rep X M h) (hX : X.2.2 = .inl (8, L, .inl xs)) (hs : X.2.1 = 61442 + 58 * X.1) (hg : GI M) (a b : Int32) : qOneI 45 105 [.int a, .int b] h (.inl (8, L, .inl xs)) (rvI L xs) := by
  obtain ⟨N, S, Ps, l, g⟩ := hg
  have key := g45 (X := X) (x1 := a.toInt) (x2 := b.toInt) g (r4_toInt a) (r4_toInt b)
  simp only [Int32.ofInt_toInt] at key
  exact oneI hR hX hs key
theorem g31 {X : Nat × Nat × qC} {N S M : Mm} {Ps : Nat → Mm} {l : List (Bool × Sem)} {x1 : Int} (h : IV N S Ps l M) (hx1 : R4 x1) : mC X 2048 31 1 [.ref 2, .int (Int32.ofInt x1)] M (fun v M2 => mC X 2048 84 1 [.ref 142, .int (Int32.ofInt x1)] M2 (fun v2 M3 => v2 = v ∧ GI M3)) :=
  mC.mono (s31 (d := 2046) hx1 (c31 h)) (fun v M2 w => by
    obtain ⟨e, w⟩ := w
    subst e
    exact mC.mono (s84 (d := 2046) (R := fun v2 => v2 = v) hx1 w) (fun v2 M3 w2 => ⟨w2.2, w2.1 ▸ h.G⟩))
theorem a31 {X : Nat × Nat × qC} {M : Mm} {h : qH} {L : Nat} {xs : Nat → Int32} (hR : Rep X M h) (hX : X.2.2 = .inl (8, L, .inl xs)) (hs : X.2.1 = 61442 + 58 * X.1) (hg : GI M) (a : Int32) : qOneI 31 84 [.int a] h (.inl (8, L, .inl xs)) (rvI L xs) := by
  obtain ⟨N, S, Ps, l, g⟩ := hg
  have key := g31 (X := X) (x1 := a.toInt) g (r4_toInt a)
  simp only [Int32.ofInt_toInt] at key
  exact oneI hR hX hs key
theorem g48 {X : Nat × Nat × qC} {N S M : Mm} {Ps : Nat → Mm} {l : List (Bool × Sem)} (h : IV N S Ps l M) : mC X 2048 48 1 [.ref 2] M (fun v M2 => mC X 2048 108 1 [.ref 142] M2 (fun v2 M3 => v2 = v ∧ GI M3)) :=
  mC.mono (s48 (d := 2047)  (c48 h)) (fun v M2 w => by
    obtain ⟨e, w⟩ := w
    subst e
    exact mC.mono (s108 (d := 2047) (R := fun v2 => v2 = v)  w) (fun v2 M3 w2 => ⟨w2.2, w2.1 ▸ h.G⟩))
theorem a48 {X : Nat × Nat × qC} {M : Mm} {h : qH} {L : Nat} {xs : Nat → Int32} (hR : Rep X M h) (hX : X.2.2 = .inl (8, L, .inl xs)) (hs : X.2.1 = 61442 + 58 * X.1) (hg : GI M) : qOneI 48 108 [] h (.inl (8, L, .inl xs)) (rvI L xs) := by
  obtain ⟨N, S, Ps, l, g⟩ := hg
  exact oneI hR hX hs (g48 g)
theorem g74 {X : Nat × Nat × qC} {N S M : Mm} {Ps : Nat → Mm} {l : List (Bool × Sem)} {x1 x2 : Int} (h : IV N S Ps l M) (hx1 : R4 x1) (hx2 : R4 x2) (h2 : x2 = 0 ∨ x2 = 1) : mC X 2048 74 1 [.ref 2, .int (Int32.ofInt x1), .int (Int32.ofInt x2)] M (fun v M2 => mC X 2048 176 1 [.ref 142, .int (Int32.ofInt x1), .int (Int32.ofInt x2)] M2 (fun v2 M3 => v2 = v ∧ GI M3)) :=
  mC.mono (s74 (d := 2045) (R := fun r => JJ r.1 (f176 x1 x2 r.2)) hx1 hx2 (c74 h h2)) (fun v M2 w => s176 (d := 2045) (R := fun r => r.1 = v ∧ GI r.2) hx1 hx2 w)
theorem a74 {X : Nat × Nat × qC} {M : Mm} {h : qH} {L : Nat} {xs : Nat → Int32} (hR : Rep X M h) (hX : X.2.2 = .inl (8, L, .inl xs)) (hs : X.2.1 = 61442 + 58 * X.1) (hg : GI M) (a b : Int32) (hb : b = 0 ∨ b = 1) : qOneI 74 176 [.int a, .int b] h (.inl (8, L, .inl xs)) (rvI L xs) := by
  obtain ⟨N, S, Ps, l, g⟩ := hg
  have hb2 : b.toInt = 0 ∨ b.toInt = 1 := by rcases hb with rfl | rfl
                                             · exact Or.inl rfl
                                             · exact Or.inr rfl
  have key := g74 (X := X) (x1 := a.toInt) (x2 := b.toInt) g (r4_toInt a) (r4_toInt b) hb2
  simp only [Int32.ofInt_toInt] at key
  exact oneI hR hX hs key
theorem g69 {X : Nat × Nat × qC} {N S M : Mm} {Ps : Nat → Mm} {l : List (Bool × Sem)} {x1 x2 x3 : Int} (h : IV N S Ps l M) (hx1 : R4 x1) (hx2 : R4 x2) (hx3 : R4 x3) : mC X 2048 69 2 [.ref 2, .int (Int32.ofInt x1), .int (Int32.ofInt x2), .int (Int32.ofInt x3)] M (fun v M2 => mC X 2048 166 2 [.ref 142, .int (Int32.ofInt x1), .int (Int32.ofInt x2), .int (Int32.ofInt x3)] M2 (fun v2 M3 => v2 = v ∧ GI M3)) :=
  mC.mono (s69 (d := 2045) hx1 hx2 hx3 (c69 h)) (fun v M2 w => by
    obtain ⟨e, w⟩ := w
    subst e
    exact mC.mono (s166 (d := 2045) (R := fun v2 => v2 = v) hx1 hx2 hx3 w) (fun v2 M3 w2 => ⟨w2.2, w2.1 ▸ h.G⟩))
theorem a69 {X : Nat × Nat × qC} {M : Mm} {h : qH} {L : Nat} {xs : Nat → Int32} (hR : Rep X M h) (hX : X.2.2 = .inl (8, L, .inl xs)) (hs : X.2.1 = 61442 + 58 * X.1) (hg : GI M) (a b c : Int32) : qOneJ 69 166 [.int a, .int b, .int c] h (.inl (8, L, .inl xs)) (rvI L xs) := by
  obtain ⟨N, S, Ps, l, g⟩ := hg
  have key := g69 (X := X) (x1 := a.toInt) (x2 := b.toInt) (x3 := c.toInt) g (r4_toInt a) (r4_toInt b) (r4_toInt c)
  simp only [Int32.ofInt_toInt] at key
  exact oneJ hR hX hs key
theorem g70 {X : Nat × Nat × qC} {N S M : Mm} {Ps : Nat → Mm} {l : List (Bool × Sem)} {x1 : Int} (h : IV N S Ps l M) (hx1 : R4 x1) : mC X 2048 70 1 [.ref 2, .int (Int32.ofInt x1)] M (fun v M2 => mC X 2048 168 1 [.ref 142, .int (Int32.ofInt x1)] M2 (fun v2 M3 => v2 = v ∧ GI M3)) :=
  mC.mono (s70 (d := 2045) hx1 (c70 h)) (fun v M2 w => by
    obtain ⟨e, w⟩ := w
    subst e
    exact mC.mono (s168 (d := 2045) (R := fun v2 => v2 = v) hx1 w) (fun v2 M3 w2 => ⟨w2.2, w2.1 ▸ h.G⟩))
theorem a70 {X : Nat × Nat × qC} {M : Mm} {h : qH} {L : Nat} {xs : Nat → Int32} (hR : Rep X M h) (hX : X.2.2 = .inl (8, L, .inl xs)) (hs : X.2.1 = 61442 + 58 * X.1) (hg : GI M) (a : Int32) : qOneI 70 168 [.int a] h (.inl (8, L, .inl xs)) (rvI L xs) := by
  obtain ⟨N, S, Ps, l, g⟩ := hg
  have key := g70 (X := X) (x1 := a.toInt) g (r4_toInt a)
  simp only [Int32.ofInt_toInt] at key
  exact oneI hR hX hs key
theorem g53 {X : Nat × Nat × qC} {N S M : Mm} {Ps : Nat → Mm} {l : List (Bool × Sem)} {x1 x2 x3 : Int} (h : IV N S Ps l M) (hx1 : R4 x1) (hx2 : R4 x2) (hx3 : R4 x3) : mC X 2048 53 1 [.ref 2, .int (Int32.ofInt x1), .int (Int32.ofInt x2), .int (Int32.ofInt x3)] M (fun v M2 => mC X 2048 119 1 [.ref 142, .int (Int32.ofInt x1), .int (Int32.ofInt x2), .int (Int32.ofInt x3)] M2 (fun v2 M3 => v2 = v ∧ GI M3)) :=
  mC.mono (s53 (d := 2041) (R := fun r => JJ r.1 (f119 x1 x2 x3 r.2)) hx1 hx2 hx3 (c53 h hx2)) (fun v M2 w => s119 (d := 2040) (R := fun r => r.1 = v ∧ GI r.2) hx1 hx2 hx3 w)
theorem a53 {X : Nat × Nat × qC} {M : Mm} {h : qH} {L : Nat} {xs : Nat → Int32} (hR : Rep X M h) (hX : X.2.2 = .inl (8, L, .inl xs)) (hs : X.2.1 = 61442 + 58 * X.1) (hg : GI M) (a b c : Int32) : qOneI 53 119 [.int a, .int b, .int c] h (.inl (8, L, .inl xs)) (rvI L xs) := by
  obtain ⟨N, S, Ps, l, g⟩ := hg
  have key := g53 (X := X) (x1 := a.toInt) (x2 := b.toInt) (x3 := c.toInt) g (r4_toInt a) (r4_toInt b) (r4_toInt c)
  simp only [Int32.ofInt_toInt] at key
  exact oneI hR hX hs key
theorem g59 {X : Nat × Nat × qC} {N S M : Mm} {Ps : Nat → Mm} {l : List (Bool × Sem)} {x1 x2 : Int} (h : IV N S Ps l M) (hx1 : R4 x1) (hx2 : R4 x2) : mC X 2048 59 1 [.ref 2, .int (Int32.ofInt x1), .int (Int32.ofInt x2)] M (fun v M2 => mC X 2048 139 1 [.ref 142, .int (Int32.ofInt x1), .int (Int32.ofInt x2)] M2 (fun v2 M3 => v2 = v ∧ GI M3)) :=
  mC.mono (s59 (d := 2041) (R := fun r => JJ r.1 (f139 x1 x2 r.2)) hx1 hx2 (c59 h hx1)) (fun v M2 w => s139 (d := 2040) (R := fun r => r.1 = v ∧ GI r.2) hx1 hx2 w)
theorem a59 {X : Nat × Nat × qC} {M : Mm} {h : qH} {L : Nat} {xs : Nat → Int32} (hR : Rep X M h) (hX : X.2.2 = .inl (8, L, .inl xs)) (hs : X.2.1 = 61442 + 58 * X.1) (hg : GI M) (a b : Int32) : qOneI 59 139 [.int a, .int b] h (.inl (8, L, .inl xs)) (rvI L xs) := by
  obtain ⟨N, S, Ps, l, g⟩ := hg
  have key := g59 (X := X) (x1 := a.toInt) (x2 := b.toInt) g (r4_toInt a) (r4_toInt b)
  simp only [Int32.ofInt_toInt] at key
  exact oneI hR hX hs key
theorem g60 {X : Nat × Nat × qC} {N S M : Mm} {Ps : Nat → Mm} {l : List (Bool × Sem)} {x1 x2 : Int} (h : IV N S Ps l M) (hx1 : R4 x1) (hx2 : R4 x2) : mC X 2048 60 1 [.ref 2, .int (Int32.ofInt x1), .int (Int32.ofInt x2)] M (fun v M2 => mC X 2048 141 1 [.ref 142, .int (Int32.ofInt x1), .int (Int32.ofInt x2)] M2 (fun v2 M3 => v2 = v ∧ GI M3)) :=
  mC.mono (s60 (d := 2040) (R := fun r => JJ r.1 (f141 x1 x2 r.2)) hx1 hx2 (c60 h)) (fun v M2 w => s141 (d := 2040) (R := fun r => r.1 = v ∧ GI r.2) hx1 hx2 w)
theorem a60 {X : Nat × Nat × qC} {M : Mm} {h : qH} {L : Nat} {xs : Nat → Int32} (hR : Rep X M h) (hX : X.2.2 = .inl (8, L, .inl xs)) (hs : X.2.1 = 61442 + 58 * X.1) (hg : GI M) (a b : Int32) : qOneI 60 141 [.int a, .int b] h (.inl (8, L, .inl xs)) (rvI L xs) := by
  obtain ⟨N, S, Ps, l, g⟩ := hg
  have key := g60 (X := X) (x1 := a.toInt) (x2 := b.toInt) g (r4_toInt a) (r4_toInt b)
  simp only [Int32.ofInt_toInt] at key
  exact oneI hR hX hs key
theorem g36 {X : Nat × Nat × qC} {N S M : Mm} {Ps : Nat → Mm} {l : List (Bool × Sem)} {x1 x2 x3 : Int} (h : IV N S Ps l M) (hx1 : R4 x1) (hx2 : R4 x2) (hx3 : R4 x3) : mC X 2048 36 1 [.ref 2, .int (Int32.ofInt x1), .int (Int32.ofInt x2), .int (Int32.ofInt x3)] M (fun v M2 => mC X 2048 92 1 [.ref 142, .int (Int32.ofInt x1), .int (Int32.ofInt x2), .int (Int32.ofInt x3)] M2 (fun v2 M3 => v2 = v ∧ GI M3)) :=
  mC.mono (s36 (d := 2045) (R := fun r => JJ r.1 (f92 x1 x2 x3 r.2)) hx1 hx2 hx3 (c36 h)) (fun v M2 w => s92 (d := 2045) (R := fun r => r.1 = v ∧ GI r.2) hx1 hx2 hx3 w)
theorem a36 {X : Nat × Nat × qC} {M : Mm} {h : qH} {L : Nat} {xs : Nat → Int32} (hR : Rep X M h) (hX : X.2.2 = .inl (8, L, .inl xs)) (hs : X.2.1 = 61442 + 58 * X.1) (hg : GI M) (a b c : Int32) : qOneI 36 92 [.int a, .int b, .int c] h (.inl (8, L, .inl xs)) (rvI L xs) := by
  obtain ⟨N, S, Ps, l, g⟩ := hg
  have key := g36 (X := X) (x1 := a.toInt) (x2 := b.toInt) (x3 := c.toInt) g (r4_toInt a) (r4_toInt b) (r4_toInt c)
  simp only [Int32.ofInt_toInt] at key
  exact oneI hR hX hs key
theorem g65 {X : Nat × Nat × qC} {N S M : Mm} {Ps : Nat → Mm} {l : List (Bool × Sem)} {x1 x2 : Int} (h : IV N S Ps l M) (hx1 : R4 x1) (hx2 : R4 x2) : mC X 2048 65 1 [.ref 2, .int (Int32.ofInt x1), .int (Int32.ofInt x2)] M (fun v M2 => mC X 2048 157 1 [.ref 142, .int (Int32.ofInt x1), .int (Int32.ofInt x2)] M2 (fun v2 M3 => v2 = v ∧ GI M3)) :=
  mC.mono (s65 (d := 2045) (R := fun r => JJ r.1 (f157 x1 x2 r.2)) hx1 hx2 (c65 h)) (fun v M2 w => s157 (d := 2045) (R := fun r => r.1 = v ∧ GI r.2) hx1 hx2 w)
theorem a65 {X : Nat × Nat × qC} {M : Mm} {h : qH} {L : Nat} {xs : Nat → Int32} (hR : Rep X M h) (hX : X.2.2 = .inl (8, L, .inl xs)) (hs : X.2.1 = 61442 + 58 * X.1) (hg : GI M) (a b : Int32) : qOneI 65 157 [.int a, .int b] h (.inl (8, L, .inl xs)) (rvI L xs) := by
  obtain ⟨N, S, Ps, l, g⟩ := hg
  have key := g65 (X := X) (x1 := a.toInt) (x2 := b.toInt) g (r4_toInt a) (r4_toInt b)
  simp only [Int32.ofInt_toInt] at key
  exact oneI hR hX hs key
theorem g32 {X : Nat × Nat × qC} {N S M : Mm} {Ps : Nat → Mm} {l : List (Bool × Sem)} {x1 x2 : Int} (h : IV N S Ps l M) (hx1 : R4 x1) (hx2 : R4 x2) : mC X 2048 32 1 [.ref 2, .int (Int32.ofInt x1), .int (Int32.ofInt x2)] M (fun v M2 => mC X 2048 85 1 [.ref 142, .int (Int32.ofInt x1), .int (Int32.ofInt x2)] M2 (fun v2 M3 => v2 = v ∧ GI M3)) :=
  mC.mono (s32 (d := 2046) (R := fun r => JJ r.1 (f85 x1 x2 r.2)) hx1 hx2 (c32 h)) (fun v M2 w => s85 (d := 2045) (R := fun r => r.1 = v ∧ GI r.2) hx1 hx2 w)
theorem a32 {X : Nat × Nat × qC} {M : Mm} {h : qH} {L : Nat} {xs : Nat → Int32} (hR : Rep X M h) (hX : X.2.2 = .inl (8, L, .inl xs)) (hs : X.2.1 = 61442 + 58 * X.1) (hg : GI M) (a b : Int32) : qOneI 32 85 [.int a, .int b] h (.inl (8, L, .inl xs)) (rvI L xs) := by
  obtain ⟨N, S, Ps, l, g⟩ := hg
  have key := g32 (X := X) (x1 := a.toInt) (x2 := b.toInt) g (r4_toInt a) (r4_toInt b)
  simp only [Int32.ofInt_toInt] at key
  exact oneI hR hX hs key
theorem g64 {X : Nat × Nat × qC} {N S M : Mm} {Ps : Nat → Mm} {l : List (Bool × Sem)} {x1 x2 : Int} (h : IV N S Ps l M) (hx1 : R4 x1) (hx2 : R4 x2) : mC X 2048 64 1 [.ref 2, .int (Int32.ofInt x1), .int (Int32.ofInt x2)] M (fun v M2 => mC X 2048 151 1 [.ref 142, .int (Int32.ofInt x1), .int (Int32.ofInt x2)] M2 (fun v2 M3 => v2 = v ∧ GI M3)) :=
  mC.mono (s64 (d := 2044) (R := fun r => JJ r.1 (f151 x1 x2 r.2)) hx1 hx2 (c64 h)) (fun v M2 w => s151 (d := 2045) (R := fun r => r.1 = v ∧ GI r.2) hx1 hx2 w)
theorem a64 {X : Nat × Nat × qC} {M : Mm} {h : qH} {L : Nat} {xs : Nat → Int32} (hR : Rep X M h) (hX : X.2.2 = .inl (8, L, .inl xs)) (hs : X.2.1 = 61442 + 58 * X.1) (hg : GI M) (a b : Int32) : qOneI 64 151 [.int a, .int b] h (.inl (8, L, .inl xs)) (rvI L xs) := by
  obtain ⟨N, S, Ps, l, g⟩ := hg
  have key := g64 (X := X) (x1 := a.toInt) (x2 := b.toInt) g (r4_toInt a) (r4_toInt b)
  simp only [Int32.ofInt_toInt] at key
  exact oneI hR hX hs key
theorem g33 {X : Nat × Nat × qC} {N S M : Mm} {Ps : Nat → Mm} {l : List (Bool × Sem)} {x1 x2 x3 : Int} (h : IV N S Ps l M) (hx1 : R4 x1) (hx2 : R4 x2) (hx3 : R4 x3) (h2 : x2 = 0 ∨ x2 = 1) : mC X 2048 33 1 [.ref 2, .int (Int32.ofInt x1), .int (Int32.ofInt x2), .int (Int32.ofInt x3)] M (fun v M2 => mC X 2048 86 1 [.ref 142, .int (Int32.ofInt x1), .int (Int32.ofInt x2), .int (Int32.ofInt x3)] M2 (fun v2 M3 => v2 = v ∧ GI M3)) :=
  mC.mono (s33 (d := 2046) (R := fun r => JJ r.1 (f86 x1 x2 x3 r.2)) hx1 hx2 hx3 (c33 h h2)) (fun v M2 w => s86 (d := 2045) (R := fun r => r.1 = v ∧ GI r.2) hx1 hx2 hx3 w)
theorem a33 {X : Nat × Nat × qC} {M : Mm} {h : qH} {L : Nat} {xs : Nat → Int32} (hR : Rep X M h) (hX : X.2.2 = .inl (8, L, .inl xs)) (hs : X.2.1 = 61442 + 58 * X.1) (hg : GI M) (a b c : Int32) (hb : b = 0 ∨ b = 1) : qOneI 33 86 [.int a, .int b, .int c] h (.inl (8, L, .inl xs)) (rvI L xs) := by
  obtain ⟨N, S, Ps, l, g⟩ := hg
  have hb2 : b.toInt = 0 ∨ b.toInt = 1 := by rcases hb with rfl | rfl
                                             · exact Or.inl rfl
                                             · exact Or.inr rfl
  have key := g33 (X := X) (x1 := a.toInt) (x2 := b.toInt) (x3 := c.toInt) g (r4_toInt a) (r4_toInt b) (r4_toInt c) hb2
  simp only [Int32.ofInt_toInt] at key
  exact oneI hR hX hs key
theorem g30 {X : Nat × Nat × qC} {N S M : Mm} {Ps : Nat → Mm} {l : List (Bool × Sem)} {x1 : Int} (h : IV N S Ps l M) (hx1 : R4 x1) : mC X 2048 30 2 [.ref 2, .int (Int32.ofInt x1)] M (fun v M2 => mC X 2048 83 2 [.ref 142, .int (Int32.ofInt x1)] M2 (fun v2 M3 => v2 = v ∧ GI M3)) :=
  mC.mono (s30 (d := 2044) (R := fun r => JJ r.1 (f83 x1 r.2)) hx1 (c30 h)) (fun v M2 w => s83 (d := 2044) (R := fun r => r.1 = v ∧ GI r.2) hx1 w)
theorem a30 {X : Nat × Nat × qC} {M : Mm} {h : qH} {L : Nat} {xs : Nat → Int32} (hR : Rep X M h) (hX : X.2.2 = .inl (8, L, .inl xs)) (hs : X.2.1 = 61442 + 58 * X.1) (hg : GI M) (a : Int32) : qOneJ 30 83 [.int a] h (.inl (8, L, .inl xs)) (rvI L xs) := by
  obtain ⟨N, S, Ps, l, g⟩ := hg
  have key := g30 (X := X) (x1 := a.toInt) g (r4_toInt a)
  simp only [Int32.ofInt_toInt] at key
  exact oneJ hR hX hs key
theorem g39 {X : Nat × Nat × qC} {N S M : Mm} {Ps : Nat → Mm} {l : List (Bool × Sem)} {x1 x2 : Int} (h : IV N S Ps l M) (hx1 : R4 x1) (hx2 : R4 x2) : mC X 2048 39 1 [.ref 2, .int (Int32.ofInt x1), .int (Int32.ofInt x2)] M (fun v M2 => mC X 2048 97 1 [.ref 142, .int (Int32.ofInt x1), .int (Int32.ofInt x2)] M2 (fun v2 M3 => v2 = v ∧ GI M3)) :=
  mC.mono (s39 (d := 2046) (R := fun r => JJ r.1 (f97 x1 x2 r.2)) hx1 hx2 (c39 h)) (fun v M2 w => s97 (d := 2045) (R := fun r => r.1 = v ∧ GI r.2) hx1 hx2 w)
theorem a39 {X : Nat × Nat × qC} {M : Mm} {h : qH} {L : Nat} {xs : Nat → Int32} (hR : Rep X M h) (hX : X.2.2 = .inl (8, L, .inl xs)) (hs : X.2.1 = 61442 + 58 * X.1) (hg : GI M) (a b : Int32) : qOneI 39 97 [.int a, .int b] h (.inl (8, L, .inl xs)) (rvI L xs) := by
  obtain ⟨N, S, Ps, l, g⟩ := hg
  have key := g39 (X := X) (x1 := a.toInt) (x2 := b.toInt) g (r4_toInt a) (r4_toInt b)
  simp only [Int32.ofInt_toInt] at key
  exact oneI hR hX hs key
theorem g43 {X : Nat × Nat × qC} {N S M : Mm} {Ps : Nat → Mm} {l : List (Bool × Sem)} {x1 x2 x3 : Int} (h : IV N S Ps l M) (hx1 : R4 x1) (hx2 : R4 x2) (hx3 : R4 x3) : mC X 2048 43 1 [.ref 2, .int (Int32.ofInt x1), .int (Int32.ofInt x2), .int (Int32.ofInt x3)] M (fun v M2 => mC X 2048 99 1 [.ref 142, .int (Int32.ofInt x1), .int (Int32.ofInt x2), .int (Int32.ofInt x3)] M2 (fun v2 M3 => v2 = v ∧ GI M3)) :=
  mC.mono (s43 (d := 2040) (R := fun r => JJ r.1 (f99 x1 x2 x3 r.2)) hx1 hx2 hx3 (c43 h)) (fun v M2 w => s99 (d := 2040) (R := fun r => r.1 = v ∧ GI r.2) hx1 hx2 hx3 w)
theorem a43 {X : Nat × Nat × qC} {M : Mm} {h : qH} {L : Nat} {xs : Nat → Int32} (hR : Rep X M h) (hX : X.2.2 = .inl (8, L, .inl xs)) (hs : X.2.1 = 61442 + 58 * X.1) (hg : GI M) (a b c : Int32) : qOneI 43 99 [.int a, .int b, .int c] h (.inl (8, L, .inl xs)) (rvI L xs) := by
  obtain ⟨N, S, Ps, l, g⟩ := hg
  have key := g43 (X := X) (x1 := a.toInt) (x2 := b.toInt) (x3 := c.toInt) g (r4_toInt a) (r4_toInt b) (r4_toInt c)
  simp only [Int32.ofInt_toInt] at key
  exact oneI hR hX hs key
theorem g35 {X : Nat × Nat × qC} {N S M : Mm} {Ps : Nat → Mm} {l : List (Bool × Sem)} {x1 : Int} (h : IV N S Ps l M) (hx1 : R4 x1) : mC X 2048 35 1 [.ref 2, .int (Int32.ofInt x1)] M (fun v M2 => mC X 2048 90 1 [.ref 142, .int (Int32.ofInt x1)] M2 (fun v2 M3 => v2 = v ∧ GI M3)) :=
  mC.mono (s35 (d := 2045) (R := fun r => JJ r.1 (f90 x1 r.2)) hx1 (c35 h)) (fun v M2 w => s90 (d := 2046) (R := fun r => r.1 = v ∧ GI r.2) hx1 w)
theorem a35 {X : Nat × Nat × qC} {M : Mm} {h : qH} {L : Nat} {xs : Nat → Int32} (hR : Rep X M h) (hX : X.2.2 = .inl (8, L, .inl xs)) (hs : X.2.1 = 61442 + 58 * X.1) (hg : GI M) (a : Int32) : qOneI 35 90 [.int a] h (.inl (8, L, .inl xs)) (rvI L xs) := by
  obtain ⟨N, S, Ps, l, g⟩ := hg
  have key := g35 (X := X) (x1 := a.toInt) g (r4_toInt a)
  simp only [Int32.ofInt_toInt] at key
  exact oneI hR hX hs key
theorem g42 {X : Nat × Nat × qC} {N S M : Mm} {Ps : Nat → Mm} {l : List (Bool × Sem)} {x1 : Int} (h : IV N S Ps l M) (hx1 : R4 x1) : mC X 2048 42 1 [.ref 2, .int (Int32.ofInt x1)] M (fun v M2 => mC X 2048 98 1 [.ref 142, .int (Int32.ofInt x1)] M2 (fun v2 M3 => v2 = v ∧ GI M3)) :=
  mC.mono (s42 (d := 2046) hx1 (c42 h hx1)) (fun v M2 w => by
    obtain ⟨e, w⟩ := w
    subst e
    exact mC.mono (s98 (d := 2046) (R := fun v2 => v2 = v) hx1 w) (fun v2 M3 w2 => ⟨w2.2, w2.1 ▸ h.G⟩))
theorem a42 {X : Nat × Nat × qC} {M : Mm} {h : qH} {L : Nat} {xs : Nat → Int32} (hR : Rep X M h) (hX : X.2.2 = .inl (8, L, .inl xs)) (hs : X.2.1 = 61442 + 58 * X.1) (hg : GI M) (a : Int32) : qOneI 42 98 [.int a] h (.inl (8, L, .inl xs)) (rvI L xs) := by
  obtain ⟨N, S, Ps, l, g⟩ := hg
  have key := g42 (X := X) (x1 := a.toInt) g (r4_toInt a)
  simp only [Int32.ofInt_toInt] at key
  exact oneI hR hX hs key

/-! goes: a new State. -/
theorem new242 {d : Nat} {h : qH} (hd : 0 < d) : ∃ h2, qE d 242 0 [some (.ref h.1)] [] (qnew h 8 (.inr (8, [.int 0, .int 0, .int 0, .int 0, .null, .null, .null, .null]))) (none, h2) ∧ h2.1 = h.1 + 5 ∧ h2.2.1 = h.2.1 + 58 ∧ h2.2.2 h.1 = some (.inr (8, [.int 0, .int 0, .int 0, .int 0, .ref (h.1 + 1), .ref (h.1 + 2), .ref (h.1 + 3), .ref (h.1 + 4)])) ∧ h2.2.2 (h.1 + 1) = some (.inl (0, 8, .inl fun _ => 0)) ∧
    h2.2.2 (h.1 + 2) = some (.inl (0, 14, .inl fun _ => 0)) ∧ h2.2.2 (h.1 + 3) = some (.inl (0, 14, .inl fun _ => 0)) ∧ h2.2.2 (h.1 + 4) = some (.inl (0, 14, .inl fun _ => 0)) ∧ ∀ a, a < h.1 → h2.2.2 a = h.2.2 a := by
  refine ⟨_, b242_0 (fs2 := [.int 0, .int 0, .int 0, .int 0, .null, .null, .null, .null]) (fs7 := [.int 0, .int 0, .int 0, .int 0, .ref (h.1 + 1), .null, .null, .null]) (fs12 := [.int 0, .int 0, .int 0, .int 0, .ref (h.1 + 1), .ref (h.1 + 2), .null, .null]) (fs17 := [.int 0, .int 0, .int 0, .int 0, .ref (h.1 + 1), .ref (h.1 + 2), .ref (h.1 + 3), .null]) hd rfl ?_ (Nat.le_of_ble_eq_true rfl) rfl rfl ?_ (Nat.le_of_ble_eq_true rfl) rfl rfl ?_ (Nat.le_of_ble_eq_true rfl) rfl rfl ?_ (Nat.le_of_ble_eq_true rfl) rfl, ?_, ?_, ?_, ?_, ?_, ?_, ?_, fun a ha => ?_⟩
  · show (if h.1 = h.1 + 1 then _ else if h.1 = h.1 then _ else _) = _
    rw [if_neg (by omega), if_pos rfl]
  · show (if h.1 = h.1 + 1 + 1 then _ else if h.1 = h.1 then _ else _) = _
    rw [if_neg (by omega), if_pos rfl]
    rfl
  · show (if h.1 = h.1 + 1 + 1 + 1 then _ else if h.1 = h.1 then _ else _) = _
    rw [if_neg (by omega), if_pos rfl]
    rfl
  · show (if h.1 = h.1 + 1 + 1 + 1 + 1 then _ else if h.1 = h.1 then _ else _) = _
    rw [if_neg (by omega), if_pos rfl]
    rfl
  · rfl
  · rfl
  · show (if h.1 = h.1 then _ else _) = _
    rw [if_pos rfl]
    rfl
  · show (if h.1 + 1 = h.1 then _ else if h.1 + 1 = h.1 + 1 + 1 + 1 + 1 then _ else if h.1 + 1 = h.1 then _ else if h.1 + 1 = h.1 + 1 + 1 + 1 then _ else if h.1 + 1 = h.1 then _ else if h.1 + 1 = h.1 + 1 + 1 then _ else if h.1 + 1 = h.1 then _ else if h.1 + 1 = h.1 + 1 then _ else _) = _
    rw [if_neg (by omega), if_neg (by omega), if_neg (by omega), if_neg (by omega), if_neg (by omega), if_neg (by omega), if_neg (by omega), if_pos rfl]
  · show (if h.1 + 2 = h.1 then _ else if h.1 + 2 = h.1 + 1 + 1 + 1 + 1 then _ else if h.1 + 2 = h.1 then _ else if h.1 + 2 = h.1 + 1 + 1 + 1 then _ else if h.1 + 2 = h.1 then _ else if h.1 + 2 = h.1 + 1 + 1 then _ else _) = _
    rw [if_neg (by omega), if_neg (by omega), if_neg (by omega), if_neg (by omega), if_neg (by omega), if_pos (by omega)]
  · show (if h.1 + 3 = h.1 then _ else if h.1 + 3 = h.1 + 1 + 1 + 1 + 1 then _ else if h.1 + 3 = h.1 then _ else if h.1 + 3 = h.1 + 1 + 1 + 1 then _ else _) = _
    rw [if_neg (by omega), if_neg (by omega), if_neg (by omega), if_pos (by omega)]
  · show (if h.1 + 4 = h.1 then _ else if h.1 + 4 = h.1 + 1 + 1 + 1 + 1 then _ else _) = _
    rw [if_neg (by omega), if_pos (by omega)]
  · show (if a = h.1 then _ else if a = h.1 + 1 + 1 + 1 + 1 then _ else if a = h.1 then _ else if a = h.1 + 1 + 1 + 1 then _ else if a = h.1 then _ else if a = h.1 + 1 + 1 then _ else if a = h.1 then _ else if a = h.1 + 1 then _ else if a = h.1 then _ else h.2.2 a) = _
    rw [if_neg (by omega), if_neg (by omega), if_neg (by omega), if_neg (by omega), if_neg (by omega), if_neg (by omega), if_neg (by omega), if_neg (by omega), if_neg (by omega)]
theorem mflds_cg {M M2 : Mm} {a : Nat} (e : M2 a = M a) : ∀ (rs : List Nat) (j : Nat), mflds M2 a j rs = mflds M a j rs
  | [], _ => rfl
  | r :: rs, j => by
    rw [mflds, mflds, mflds_cg e rs]
    unfold mfld
    rw [e]
theorem mcellD_cg {M M2 : Mm} {a : Nat} {D : Nat × Nat × Nat × List Nat} (e : M2 a = M a) : mcellD M2 a D = mcellD M a D := by
  obtain ⟨t, k, n, rs⟩ := D
  unfold mcellD
  rw [e]
  split
  any_goals rfl
  rw [mflds_cg e]
/-- the memory with one State more -/
def newM (n : Nat) (M : Mm) : Mm := fun b j => if b = 0 ∧ j = 0 then (n : Int) + 1 else if 200 + 5 * n ≤ b then 0 else M b j
theorem newM_o {n b : Nat} {M : Mm} (h0 : b ≠ 0) (h1 : b < 200 + 5 * n) : newM n M b = M b := funext fun j => by
  unfold newM
  rw [if_neg (fun z => h0 z.1), if_neg (by omega)]
theorem newM_n {n b j : Nat} {M : Mm} (h1 : 200 + 5 * n ≤ b) : newM n M b j = 0 := by
  unfold newM
  rw [if_neg (by omega), if_pos h1]
theorem rep_new {X : Nat × Nat × qC} {M : Mm} {h h2 : qH} (hR : Rep X M h) (hb : X.1 ≤ 499) (e1 : h2.1 = h.1 + 5) (e2 : h2.2.1 = h.2.1 + 58) (e3 : h2.2.2 h.1 = some (.inr (8, [.int 0, .int 0, .int 0, .int 0, .ref (h.1 + 1), .ref (h.1 + 2), .ref (h.1 + 3), .ref (h.1 + 4)]))) (e4 : h2.2.2 (h.1 + 1) = some (.inl (0, 8, .inl fun _ => 0)))
    (e5 : h2.2.2 (h.1 + 2) = some (.inl (0, 14, .inl fun _ => 0))) (e6 : h2.2.2 (h.1 + 3) = some (.inl (0, 14, .inl fun _ => 0))) (e7 : h2.2.2 (h.1 + 4) = some (.inl (0, 14, .inl fun _ => 0))) (e8 : ∀ a, a < h.1 → h2.2.2 a = h.2.2 a) : Rep (X.1 + 1, X.2.1 + 58, X.2.2) (newM X.1 M) h2 := by
  have hn := hR.num
  refine ⟨?_, ?_, ?_, ?_, ?_, fun a q1 q2 => ?_, fun a i => ?_, fun a i q => ?_⟩
  · rw [e1, hn]
    show _ = 200 + 5 * (X.1 + 1)
    omega
  · rw [e2, hR.slots]
  · rw [e8 0 (by omega)]
    exact hR.scr
  · rw [e8 1 (by omega)]
    exact hR.signs
  · show newM X.1 M 0 0 = ((X.1 + 1 : Nat) : Int)
    unfold newM
    rw [if_pos ⟨rfl, rfl⟩]
    omega
  · by_cases c : a < h.1
    · rw [e8 a c, mcellD_cg (newM_o (by omega) (by omega))]
      exact hR.cell a q1 (by omega)
    · have q2' : a < 200 + 5 * (X.1 + 1) := q2
      have hz : ∀ j, newM X.1 M a j = 0 := fun j => newM_n (by omega)
      have arr : ∀ n, lay a = (0, 0, n, []) → mcellD (newM X.1 M) a (lay a) = .inl (0, n, .inl fun _ => 0) := fun n hl => by
        rw [hl]
        show Sum.inl (0, n, Sum.inl (fun i => Int32.ofInt (newM X.1 M a i))) = _
        simp only [hz]
        rfl
      have hl : a = h.1 ∨ a = h.1 + 1 ∨ a = h.1 + 2 ∨ a = h.1 + 3 ∨ a = h.1 + 4 := by omega
      rcases hl with e | e | e | e | e
      · have hl : lay a = (5, 8, 0, [0, 0, 0, 0, a + 1, a + 2, a + 3, a + 4]) := by
          unfold lay
          rw [if_neg (by omega), if_pos (by omega)]
        rw [e, e3, ← e, hl]
        show _ = some (Sum.inr (8, mflds (newM X.1 M) a 0 [0, 0, 0, 0, a + 1, a + 2, a + 3, a + 4]))
        have m0 : ∀ j, mfld (newM X.1 M) a j 0 = .int 0 := fun j => by
          unfold mfld
          rw [if_pos rfl, hz]
          rfl
        have mr : ∀ j r, 3 ≤ r → mfld (newM X.1 M) a j r = .ref r := fun j r hr => by
          unfold mfld
          rw [if_neg (by omega), if_neg (by omega)]
        simp only [mflds]
        rw [m0, m0, m0, m0, mr _ _ (by omega), mr _ _ (by omega), mr _ _ (by omega), mr _ _ (by omega)]
      · rw [arr 8 (by unfold lay; rw [if_neg (by omega), if_neg (by omega), if_pos (by omega)]), e]
        exact e4
      · rw [arr 14 (by unfold lay; rw [if_neg (by omega), if_neg (by omega), if_neg (by omega)]), e]
        exact e5
      · rw [arr 14 (by unfold lay; rw [if_neg (by omega), if_neg (by omega), if_neg (by omega)]), e]
        exact e6
      · rw [arr 14 (by unfold lay; rw [if_neg (by omega), if_neg (by omega), if_neg (by omega)]), e]
        exact e7
  · unfold newM
    split
    · exact ⟨by omega, by omega⟩
    · split
      · exact ⟨by omega, by omega⟩
      · exact hR.r8 a i
  · unfold newM
    split
    · exact ⟨by omega, by omega⟩
    · split
      · exact ⟨by omega, by omega⟩
      · exact hR.r4 a i q
theorem a51 {X : Nat × Nat × qC} {M : Mm} {h : qH} {L : Nat} {xs : Nat → Int32} (hR : Rep X M h) (hX : X.2.2 = .inl (8, L, .inl xs)) (hs : X.2.1 = 61442 + 58 * X.1) (hg : GI M) : qOneI 51 113 [] h (.inl (8, L, .inl xs)) (rvI L xs) := by
  obtain ⟨N, S, Ps, l, g⟩ := hg
  have hnw := g.nw
  have hn0 : X.1 = nwS S := by
    have a1 := hR.n0
    have a2 := g.now.2.2
    omega
  have e24 := g.now.1
  have c2 := cell2 hR
  have c24 := cell24 hR
  have y7 : (mflds M 24 0 [0, 0, 0, 0, 25, 26, 27, 28])[0]? = some (.int (Int32.ofInt (M 24 0))) := rfl
  obtain ⟨z, Mz, hz, q80, Rz, _, ez, vz⟩ := s80 (X := X) (d := 2046) (x0 := M 24 0) (x1 := 0) (x2 := 498) (M := M) (R := fun v => v = if 0 ≤ M 24 0 ∧ M 24 0 ≤ 498 then 1 else 0) ⟨by omega, by omega⟩ (r4_n rfl) (r4_n rfl) (w80 rfl) h hR
  subst ez
  by_cases hn : nwS S ≤ 498
  · rw [if_pos (by omega)] at vz
    subst vz
    obtain ⟨h2, q242, b1, b2, b3, b4, b5, b6, b7, b8⟩ := new242 (d := 2046) (h := hz) (by decide)
    have R2 := rep_new Rz (by omega) b1 b2 b3 b4 b5 b6 b7 b8
    have hz1 : hz.1 = 200 + 5 * nwS S := by rw [Rz.num, hn0]
    have key := t51_29 (X := (X.1 + 1, X.2.1 + 58, X.2.2)) (d := 2041) (x1 := (nwS S : Int)) (r2 := 200 + 5 * nwS S) (M := newM X.1 M) (R := fun r => JJ r.1 (f113 r.2)) ⟨by omega, by omega⟩ (by show isSt (X.1 + 1) _; unfold isSt; omega) (c51 g hn (fun b q1 q2 => newM_o q1 (by omega)) (by unfold newM; rw [if_pos ⟨rfl, rfl⟩, hn0]))
    obtain ⟨v, M3, h3, qe3, R3, _, v3⟩ := key h2 R2
    obtain ⟨w, M4, h4, qc4, R4', _, w1, w2⟩ := s113 (X := (X.1 + 1, X.2.1 + 58, X.2.2)) (d := 2041) (R := fun r => r.1 = v ∧ GI r.2) v3 h3 R3
    obtain ⟨fs, e⟩ := cell142 R3
    have w1' : w = v := w1
    subst w1'
    refine ⟨Int32.ofInt w, h3, h4, fs, ⟨2047, _, rfl, qent_mk qx51 rfl rfl rfl, ?_⟩, by rw [R3.scr]; exact congrArg some hX, e, qc4, (X.1 + 1, X.2.1 + 58, X.2.2), M4, R4', w2, hX, by show X.2.1 + 58 = 61442 + 58 * (X.1 + 1); omega⟩
    refine b51_0T (fs1 := mflds M 2 0 [3, 24, 29, 30, 31, 49, 73, 98, 102, 112, 125, 132, 134, 2]) (y3 := 24) (fs5 := mflds M 24 0 [0, 0, 0, 0, 25, 26, 27, 28]) (y7 := Int32.ofInt (M 24 0)) (z9 := Int32.ofInt 1) c2 rfl c24 y7 q80 (by decide) ?_
    refine qe_new (fs := [.int 0, .int 0, .int 0, .int 0, .null, .null, .null, .null]) (N := 8) c51_21 qo51 qN11_16 (by decide +kernel) (by decide +kernel) ?_
    refine qe_dup c51_24 rfl ?_
    refine qe_special (b := hz.1) (as := []) (r := [.ref hz.1]) (v := none) (h2 := h2) c51_25 qo51 (by decide +kernel) qK11_18 rfl ⟨rfl, Or.inr rfl⟩ rfl (Nat.le_of_ble_eq_true rfl) ⟨2046, _, rfl, qent_mk qx242 rfl rfl rfl, q242⟩ ?_
    refine qe_astore_n (ls2 := [some (.ref 2), some (.int (Int32.ofInt (M 24 0))), some (.ref hz.1)]) c51_28 (Nat.le_of_ble_eq_true rfl) rfl ?_
    rw [hz1, e24]
    exact qe3
  · rw [if_neg (by omega)] at vz
    subst vz
    obtain ⟨w, M4, h4, qc4, R4', _, w1, w2⟩ := s113 (X := X) (d := 2041) (R := fun r => r.1 = -1 ∧ GI r.2) (c51x g hn) hz Rz
    obtain ⟨fs, e⟩ := cell142 Rz
    have w1' : w = -1 := w1
    subst w1'
    refine ⟨Int32.ofInt (-1), hz, h4, fs, ⟨2047, _, rfl, qent_mk qx51 rfl rfl rfl, ?_⟩, by rw [Rz.scr, hX], e, qc4, X, M4, R4', w2, hX, hs⟩
    exact b51_0F (fs1 := mflds M 2 0 [3, 24, 29, 30, 31, 49, 73, 98, 102, 112, 125, 132, 134, 2]) (y3 := 24) (fs5 := mflds M 24 0 [0, 0, 0, 0, 25, 26, 27, 28]) (y7 := Int32.ofInt (M 24 0)) (z9 := Int32.ofInt 0) c2 rfl c24 y7 q80 (by decide) b51_19
theorem all36 {X : Nat × Nat × qC} {M : Mm} {h : qH} {L : Nat} {xs : Nat → Int32} (hR : Rep X M h) (hX : X.2.2 = .inl (8, L, .inl xs)) (hs : X.2.1 = 61442 + 58 * X.1) (hg : GI M) : qAll h (.inl (8, L, .inl xs)) (rvI L xs) :=
  ⟨(fun a b c => a71 hR hX hs hg a b c), (fun a b c d e => a77 hR hX hs hg a b c d e), (fun a b c => a81 hR hX hs hg a b c), (fun a b => a75 hR hX hs hg a b), (fun a => a38 hR hX hs hg a), (fun a b hb => a76 hR hX hs hg a b hb), (fun a b hb => a67 hR hX hs hg a b hb), (fun a b hb => a68 hR hX hs hg a b hb), (fun a b => a62 hR hX hs hg a b), (fun a => a63 hR hX hs hg a), (fun a b c d e => a46 hR hX hs hg a b c d e), (fun a => a66 hR hX hs hg a), a51 hR hX hs hg, (fun a => a50 hR hX hs hg a), (fun a b => a78 hR hX hs hg a b), (fun a b => a82 hR hX hs hg a b), (fun a b => a72 hR hX hs hg a b), (fun a b => a45 hR hX hs hg a b), (fun a => a31 hR hX hs hg a), a48 hR hX hs hg, (fun a b hb => a74 hR hX hs hg a b hb), (fun a b c => a69 hR hX hs hg a b c), (fun a => a70 hR hX hs hg a), (fun a b c => a53 hR hX hs hg a b c), (fun a b => a59 hR hX hs hg a b), (fun a b => a60 hR hX hs hg a b), (fun a b c => a36 hR hX hs hg a b c), (fun a b => a65 hR hX hs hg a b), (fun a b => a32 hR hX hs hg a b), (fun a b => a64 hR hX hs hg a b), (fun a b c hb => a33 hR hX hs hg a b c hb), (fun a => a30 hR hX hs hg a), (fun a b => a39 hR hX hs hg a b), (fun a b c => a43 hR hX hs hg a b c), (fun a => a35 hR hX hs hg a), (fun a => a42 hR hX hs hg a)⟩

/-! The start. -/
def spA : List Nat := [104, 105, 127, 144, 152, 157, 190]
def M0s : Mm := fun a i => if a = 3 ∧ i = 3 then 100 else if a = 3 ∧ i = 4 then 4 else if a = 2 ∧ i = 13 then 135 else (qAs0 a i).toInt
theorem M0_A {a i : Nat} (h2 : a ≠ 2) (h3 : a ≠ 3) : M0s a i = (qAs0 a i).toInt := by
  unfold M0s
  rw [if_neg (fun z => h3 z.1), if_neg (fun z => h3 z.1), if_neg (fun z => h2 z.1)]
theorem qA_0 {a : Nat} (h : ¬ a ∈ spA) : qAs0 a = fun _ => 0 := by
  unfold spA at h
  simp only [List.mem_cons, List.not_mem_nil, or_false, not_or] at h
  obtain ⟨h1, h2, h3, h4, h5, h6, h7⟩ := h
  unfold qAs0
  rw [if_neg h1, if_neg h2, if_neg h3, if_neg h4, if_neg h5, if_neg h6, if_neg h7]
theorem M0_0 {a i : Nat} (h2 : a ≠ 2) (h3 : a ≠ 3) (h : ¬ a ∈ spA) : M0s a i = 0 := by
  rw [M0_A h2 h3, qA_0 h]
  rfl
def okD (a : Nat) : Bool := match qlay.getD a (9, 0, 0, []) with
  | (0, _, _, _) => true
  | (1, _, _, _) => !spA.contains a
  | (2, _, _, _) => !spA.contains a
  | (3, _, _, _) => true
  | (_, _, _, rs) => a == 2 || a == 3 || (!spA.contains a && rs.all (fun r => r != 1 && r != 2))
theorem okD_all : ∀ a, a < 200 → (a < 2 ∨ okD a = true) := by decide +kernel
theorem flds_0 {a : Nat} (h2 : a ≠ 2) (h3 : a ≠ 3) (h : ¬ a ∈ spA) : ∀ (rs : List Nat) (j : Nat), (∀ r, r ∈ rs → r ≠ 1 ∧ r ≠ 2) → qflds qFs0 4 135 a j rs = mflds M0s a j rs
  | [], _, _ => rfl
  | r :: rs, j, hr => by
    rw [qflds, mflds, flds_0 h2 h3 h rs (j + 1) (fun r q => hr r (List.mem_cons_of_mem _ q))]
    have := hr r List.mem_cons_self
    have e : qfld qFs0 4 135 a j r = mfld M0s a j r := by
      unfold qfld mfld
      by_cases e0 : r = 0
      · rw [if_pos e0, if_pos e0, M0_0 h2 h3 h]
        unfold qFs0
        rw [if_neg (fun z => h3 z.1)]
        rfl
      · rw [if_neg e0, if_neg e0, if_neg this.1, if_neg this.2, if_neg (by omega)]
    rw [e]
theorem cell0 {a : Nat} (h2 : 2 ≤ a) (h : a < 200) : qcell qAs0 (fun _ _ => 0) qFs0 4 135 (fun _ => none) a = mcellD M0s a (lay a) := by
  have hl : lay a = qlay.getD a (9, 0, 0, []) := by unfold lay; rw [if_pos h]
  by_cases e2 : a = 2
  · subst e2
    rfl
  by_cases e3 : a = 3
  · subst e3
    rfl
  have ho : okD a = true := (okD_all a h).resolve_left (by omega)
  rw [hl]
  unfold qcell
  unfold okD at ho
  generalize qlay.getD a (9, 0, 0, []) = D at ho
  obtain ⟨t, k, n, rs⟩ := D
  match t with
  | 0 =>
    show Sum.inl (k, n, Sum.inl (qAs0 a)) = Sum.inl (k, n, Sum.inl (fun i => Int32.ofInt (M0s a i)))
    have : (fun i => Int32.ofInt (M0s a i)) = qAs0 a := funext fun i => by rw [M0_A e2 e3, Int32.ofInt_toInt]
    rw [this]
  | 1 =>
    have hs : ¬ a ∈ spA := by simpa using ho
    show Sum.inl (k, n, Sum.inr (Sum.inl (fun _ => (0 : Int64)))) = Sum.inl (k, n, Sum.inr (Sum.inl (fun i => Int64.ofInt (M0s a i))))
    have : (fun i => Int64.ofInt (M0s a i)) = fun _ => (0 : Int64) := funext fun i => by rw [M0_0 e2 e3 hs]; rfl
    rw [this]
  | 2 =>
    have hs : ¬ a ∈ spA := by simpa using ho
    show Sum.inl (k, n, Sum.inr (Sum.inr (Sum.inr (Sum.inr fun _ => none)))) = Sum.inl (k, n, Sum.inr (Sum.inr (Sum.inr (Sum.inr fun i => if M0s a i = 0 then none else some (M0s a i).toNat))))
    have : (fun i => if M0s a i = 0 then none else some (M0s a i).toNat) = fun _ => (none : Option Nat) := funext fun i => by rw [M0_0 e2 e3 hs]; rfl
    rw [this]
  | 3 => rfl
  | t + 4 =>
    show Sum.inr (k, qflds qFs0 4 135 a 0 rs) = Sum.inr (k, mflds M0s a 0 rs)
    have ho : (a == 2 || a == 3 || (!spA.contains a && rs.all (fun r => r != 1 && r != 2))) = true := ho
    rw [beq_false_of_ne e2, beq_false_of_ne e3, Bool.false_or, Bool.false_or, Bool.and_eq_true] at ho
    have hs : ¬ a ∈ spA := by simpa using ho.1
    have hr : ∀ r, r ∈ rs → r ≠ 1 ∧ r ≠ 2 := by simpa using ho.2
    rw [flds_0 e2 e3 hs rs 0 hr]
set_option maxRecDepth 20000 in
theorem rep0 (L : Nat) (xs : Nat → Int32) : Rep (0, 61442, .inl (8, L, .inl xs)) M0s (qg373 L xs) := by
  have r4 : ∀ a i, R4 (M0s a i) := fun a i => by
    unfold M0s
    split
    · exact r4_n rfl
    · split
      · exact r4_n rfl
      · split
        · exact r4_n rfl
        · exact r4_toInt _
  refine ⟨rfl, rfl, rfl, rfl, ?_, fun a q1 q2 => ?_, fun a i => (r4 a i).to8, fun a i _ => r4 a i⟩
  · exact M0_0 (by decide) (by decide) (by decide)
  · have q3 : a < 200 := q2
    rw [← cell0 q1 q3]
    exact qRep0 L xs a q1 q3
theorem gi0 : GI M0s := by
  have z : ∀ a i, a ≠ 2 → a ≠ 3 → ¬ a ∈ spA → M0s a i = 0 := fun a i q1 q2 q3 => M0_0 q1 q2 q3
  have sp : ∀ a, a ∈ spA → a = 104 ∨ a = 105 ∨ a = 127 ∨ a = 144 ∨ a = 152 ∨ a = 157 ∨ a = 190 := fun a h => by
    unfold spA at h
    simpa using h
  have z' : ∀ a i, a ≠ 2 → a ≠ 3 → a ≠ 104 → a ≠ 105 → a ≠ 127 → a ≠ 144 → a ≠ 152 → a ≠ 157 → a ≠ 190 → M0s a i = 0 := fun a i q1 q2 q3 q4 q5 q6 q7 q8 q9 => z a i q1 q2 (fun h => by have := sp a h; omega)
  have e30 : M0s 3 0 = 0 := by decide
  have e31 : M0s 3 1 = 0 := by decide
  have e32 : M0s 3 2 = 0 := by decide
  have e33 : M0s 3 3 = 100 := by decide
  have e34 : M0s 3 4 = 4 := by decide
  have e213 : M0s 2 13 = 135 := by decide
  have n0 : nN M0s = 0 := by unfold nN; rw [e30]; rfl
  have w0 : nW M0s = 0 := by unfold nW; rw [e31]; rfl
  have k0 : nK M0s = 0 := by unfold nK; rw [e32]; rfl
  have e144 : ∀ i, i ≠ 36069 → M0s 144 i = 0 := fun i hi => by
    rw [M0_A (by decide) (by decide)]
    have : qAs0 144 = upd (fun _ => 0) 36069 100 := rfl
    rw [this]
    unfold upd
    rw [if_neg hi]
    rfl
  have e144b : M0s 144 36069 = 100 := by
    rw [M0_A (by decide) (by decide)]
    have : qAs0 144 = upd (fun _ => 0) 36069 100 := rfl
    rw [this]
    unfold upd
    rw [if_pos rfl]
    rfl
  have four : ∀ k, k < 4 → M0s 104 k = -1 ∧ M0s 105 k = -1 ∧ M0s 190 k = -1 := by decide
  have nine : ∀ k, k < 9 → M0s 127 k = 10 ∧ M0s 157 k = 10 := by decide
  have w14 : ∀ w, w < 14 → M0s 152 w = 1 := by decide
  refine ⟨M0s, fun _ _ => 0, fun _ _ _ => 0, [], ⟨⟨⟨by rw [n0, e30]; rfl, by omega⟩, ⟨by rw [w0, e31]; rfl, by omega⟩, ⟨by rw [k0, e32]; rfl, by omega⟩, fun i hi => by omega, fun w hw => by omega, fun k hk => by omega, ⟨fun j hj => by omega, fun i j _ hj => by omega, fun s hs => by omega⟩, ⟨fun j hj => by omega, fun i j _ hj => by omega, fun s hs => by omega⟩⟩, ?_, ⟨rfl, fun _ _ _ => rfl⟩, ?_, ?_, ?_, fun w _ hw => w14 w hw, ?_, ?_⟩, ?_, ?_, ?_, ?_, ?_, ?_, ?_⟩
  · exact ⟨fun w hw => ⟨⟨Int.le_refl _, (by decide : (0 : Int) ≤ 3)⟩, ⟨Int.le_refl _, (by decide : (0 : Int) ≤ 1000000)⟩, Int.le_refl _, (by decide : (0 : Int) ≤ 100000)⟩, fun i hi => ⟨Int.le_refl _, (by decide : (0 : Int) ≤ 2000)⟩, fun i => Or.inl rfl, fun i _ => rfl, fun k => Or.inl rfl, fun k _ => rfl, by decide, by decide⟩
  · refine ⟨?_, ?_, ?_, fun i hi => by omega, fun w hw => by omega, fun k hk => by omega⟩
    · rw [z' 142 3 (by decide) (by decide) (by decide) (by decide) (by decide) (by decide) (by decide) (by decide) (by decide), e30]
    · rw [z' 142 4 (by decide) (by decide) (by decide) (by decide) (by decide) (by decide) (by decide) (by decide) (by decide), e31]
    · rw [z' 142 5 (by decide) (by decide) (by decide) (by decide) (by decide) (by decide) (by decide) (by decide) (by decide), e32]
  · have q : ∀ a i, 24 ≤ a → a ≤ 28 → M0s a i = 0 := fun a i q1 q2 => z' a i (by omega) (by omega) (by omega) (by omega) (by omega) (by omega) (by omega) (by omega) (by omega)
    refine ⟨fun w hw => ⟨q _ _ (by omega) (by omega), q _ _ (by omega) (by omega), q _ _ (by omega) (by omega)⟩, fun i hi => q _ _ (by omega) (by omega), ⟨?_, ?_, fun i => ?_⟩, ⟨?_, ?_, fun i => ?_⟩, q _ _ (by omega) (by omega), q _ _ (by omega) (by omega)⟩
    · rw [q 24 1 (by omega) (by omega)]; decide
    · rw [q 24 1 (by omega) (by omega), n0]; decide
    · rw [q 24 1 (by omega) (by omega), tb_zero]; rfl
    · rw [q 24 2 (by omega) (by omega)]; decide
    · rw [q 24 2 (by omega) (by omega), k0]; decide
    · rw [q 24 2 (by omega) (by omega), tb_zero]; rfl
  · exact ⟨fun w hw => ⟨e144 _ (by omega), e144 _ (by omega), e144 _ (by omega)⟩, fun i hi => ⟨e144 _ (by omega), e144 _ (by omega)⟩, fun k hk => e144 _ (by omega), e144 _ (by omega), e144 _ (by omega)⟩
  · exact ⟨z' 142 2 (by decide) (by decide) (by decide) (by decide) (by decide) (by decide) (by decide) (by decide) (by decide), by decide⟩
  · rw [e33, e144b]
    decide
  · exact ⟨z' 0 0 (by decide) (by decide) (by decide) (by decide) (by decide) (by decide) (by decide) (by decide) (by decide), fun m hm => absurd hm (Nat.not_lt_zero m)⟩
  · refine ⟨4, 135, Or.inl ⟨rfl, rfl⟩, e34, e213, ⟨?_, by decide, fun _ => 0, rfl, fun j x hx => by cases hx⟩, Or.inl ?_, Or.inl ?_, ⟨?_, by decide, fun _ => 0, fun j x hx => by cases hx⟩, ?_⟩
    · exact z' 4 0 (by decide) (by decide) (by decide) (by decide) (by decide) (by decide) (by decide) (by decide) (by decide)
    · exact z' 135 5 (by decide) (by decide) (by decide) (by decide) (by decide) (by decide) (by decide) (by decide) (by decide)
    · exact z' 4 5 (by decide) (by decide) (by decide) (by decide) (by decide) (by decide) (by decide) (by decide) (by decide)
    · exact z' 142 6 (by decide) (by decide) (by decide) (by decide) (by decide) (by decide) (by decide) (by decide) (by decide)
    · exact z' 142 52 (by decide) (by decide) (by decide) (by decide) (by decide) (by decide) (by decide) (by decide) (by decide)
  · exact ⟨0, z' 98 0 (by decide) (by decide) (by decide) (by decide) (by decide) (by decide) (by decide) (by decide) (by decide), z' 142 7 (by decide) (by decide) (by decide) (by decide) (by decide) (by decide) (by decide) (by decide) (by decide), by decide, fun j hj => absurd hj (Nat.not_lt_zero j)⟩
  · refine ⟨fun m w hm => absurd hm (Nat.not_lt_zero m), fun k hk => ?_⟩
    have e188 : M0s 188 k = 0 := z' 188 k (by decide) (by decide) (by decide) (by decide) (by decide) (by decide) (by decide) (by decide) (by decide)
    have e103 : M0s 103 k = 0 := z' 103 k (by decide) (by decide) (by decide) (by decide) (by decide) (by decide) (by decide) (by decide) (by decide)
    obtain ⟨f1, f2, f3⟩ := four k hk
    exact ⟨⟨e103.trans e188.symm, Or.inl e188⟩, f1.trans f3.symm, Or.inl f3, fun _ => f2, fun q => by omega⟩
  · refine ⟨0, 0, ?_, ?_, by decide, ?_, ?_, by decide, fun k hk => ?_, fun i hi => absurd hi (Nat.not_lt_zero i), fun i hi => absurd hi (Nat.not_lt_zero i)⟩
    · exact z' 112 0 (by decide) (by decide) (by decide) (by decide) (by decide) (by decide) (by decide) (by decide) (by decide)
    · exact z' 142 8 (by decide) (by decide) (by decide) (by decide) (by decide) (by decide) (by decide) (by decide) (by decide)
    · exact z' 112 1 (by decide) (by decide) (by decide) (by decide) (by decide) (by decide) (by decide) (by decide) (by decide)
    · exact z' 142 9 (by decide) (by decide) (by decide) (by decide) (by decide) (by decide) (by decide) (by decide) (by decide)
    · rw [z' 113 k (by decide) (by decide) (by decide) (by decide) (by decide) (by decide) (by decide) (by decide) (by decide), z' 114 k (by decide) (by decide) (by decide) (by decide) (by decide) (by decide) (by decide) (by decide) (by decide), z' 191 k (by decide) (by decide) (by decide) (by decide) (by decide) (by decide) (by decide) (by decide) (by decide), z' 192 k (by decide) (by decide) (by decide) (by decide) (by decide) (by decide) (by decide) (by decide) (by decide)]
      decide
  · intro k hk
    obtain ⟨f1, f2⟩ := nine k hk
    have e126 : M0s 126 k = 0 := z' 126 k (by decide) (by decide) (by decide) (by decide) (by decide) (by decide) (by decide) (by decide) (by decide)
    have e156 : M0s 156 k = 0 := z' 156 k (by decide) (by decide) (by decide) (by decide) (by decide) (by decide) (by decide) (by decide) (by decide)
    exact ⟨⟨e126.trans e156.symm, Or.inl e156⟩, f1.trans f2.symm, by omega, by omega⟩
  · exact ⟨0, z' 132 0 (by decide) (by decide) (by decide) (by decide) (by decide) (by decide) (by decide) (by decide) (by decide), z' 142 1 (by decide) (by decide) (by decide) (by decide) (by decide) (by decide) (by decide) (by decide) (by decide), by decide, fun i hi => absurd hi (Nat.not_lt_zero i)⟩
theorem qpure : qPure := by
  refine qsim (fun L xs _ h => rvI L xs h) (fun L xs _ => ⟨_, M0s, rep0 L xs, gi0, rfl, rfl⟩) (fun L xs j h hI => ?_) (fun L xs j h hj hI => ?_) (fun L xs j h hI => hI) (fun L xs j h hj hI => ?_)
  · obtain ⟨X, M, hR, hg, hX, hs⟩ := hI
    exact ⟨by rw [hR.scr, hX], _, cell2 hR⟩
  · obtain ⟨X, M, hR, ⟨N, S, Ps, l, g⟩, hX, hs⟩ := hI
    have a1 := hR.n0
    have a2 := g.now.2.2
    have a3 := g.nw
    rw [hR.num, hR.slots, hs]
    omega
  · obtain ⟨X, M, hR, hg, hX, hs⟩ := hI
    exact all36 hR hX hs hg

/-- YOUR PART: from the entry, for every script of at most 3072 ints, the law comes to its end with true ('hflags': the launch's flags, for a law that throws: no stack traces) -/
theorem whole_start {p : Program} {e : Env} {s : State} {m : MethodId} {below : List Frame} {meth : Method} {c : Code} (l : Launch) (hflags : l.flags = flags0) {b L : Nat} {xs : Nat → Int32} (hL : L ≤ 3072) (C0 : lw_At p s m meth c b L xs) : W p l e room_1 s m #[Value.ref b] below meth c s.heap [] 0 0 (lw_Z below #[Value.ref b] s) (entryFrame m ([Value.ref b] : List Value).toArray 4) :=
  qstart qpure l hL C0

set_option maxHeartbeats 4000000 in
theorem lw_walk (l : Launch) (hflags : l.flags = flags0) (b : Addr) (xs : List Int32) : MetFree l x (headSpec (Jvm.Cond.code x code maxLocals ret :: tables_1) room_1) (lw_P b xs) (fun _ _ _ _ _ => True) lw_Q := by
  refine MetFree.of_bodyS (code := code) (maxLocals := maxLocals) (ret := ret) (by decide) ?_ ?_
  · intro args s m h hn
    obtain ⟨meth, c, h1, h2, h3, h4, h5, h6, -, -⟩ := Cond.code_spec hn (atoms_spec (ws := Jvm.Cond.code x code maxLocals ret :: tables_1) h _ List.mem_cons_self)
    exact ⟨meth, c, h1, h2, h3, h4, h5, h6⟩
  · intro p e s m args below meth c s₁ B hml0 hP _
    obtain ⟨rfl, hx, hbd, hgv⟩ := hP
    obtain ⟨scr, harrAt, hlist, hof, hsmall⟩ := hx
    obtain ⟨hcb, hkn, -, -⟩ := State.arrayAt?_spec harrAt
    have hown : s.vm.findClass R_law = some m.cls := findClass_of_methodNamed B.named
    have hts0 : ∀ c ∈ (Jvm.Cond.code x code maxLocals ret :: tables_1), c.before #[Value.ref b] s = true := atoms_spec (ws := Jvm.Cond.code x code maxLocals ret :: tables_1) B.pre
    have hts : ∀ w ∈ lw_tbl, w.before #[Value.ref b] s = true := k2_hts_sels lw_privs (fun w hw => hts0 w (List.mem_cons_of_mem _ hw)) lw_privs_ok
    have hml : c.maxLocals = 4 := B.maxLocals_eq (hts0 _ List.mem_cons_self)
    have X₀ : Stand p l e room_1 s m #[Value.ref b] below meth c s₁ [] 0 0 := Stand.of_body B
    have hh0 : s₁.heap = s.heap := by rw [B.state]; rfl
    have hsz : scr.slots.size = xs.length := by rw [← Array.length_toList, hlist, List.length_map]
    have hval : ∀ j : Nat, j < xs.length → scr.slots[j]? = some (.int (xs.getD j 0)) := fun j hj => by
      rw [← Array.getElem?_toList, hlist]
      simp [hj]
    have hbl : b < s.heap.size := (Array.getElem?_eq_some_iff.mp hcb).1
    have hX : va_X b xs.length (fun j => xs.getD j 0) s s.heap := ⟨scr, hcb, hof, hkn, hsz, hval⟩
    have K : W p l e room_1 s m #[Value.ref b] below meth c s₁.heap [] 0 0 (lw_Z below #[Value.ref b] s) (entryFrame m ([Value.ref b] : List Value).toArray 4) := by
      rw [hh0]
      exact whole_start l hflags hbd ⟨B.exec, B.bytes, B.returns, hml, hown, hts, hX, hbl, B.notSynchronized, hgv⟩
    obtain ⟨t, a1, o, b1, b2, b3⟩ := K s₁ rfl X₀
    exact ⟨t, o, a1, b1, b2, b3⟩
theorem lw_pre_spec {args : Array Value} {s : State} (h : (Jvm.Cond.and given_1 narrow_1).before args s = true) (hr : rest_1_c.before args s = true) : ∃ (b : Addr) (xs : List Int32), lw_P b xs args s := by
  have hs := flat_of_before _ h
  have hq := flat_of_before _ hr
  have hc : (Cond.count 1).before args s = true := hs _ (by decide +kernel)
  have harr : (Cond.arrayOf (.arg 0) .int).before args s = true := hs _ (by decide +kernel)
  have hle : (Cond.le (.length (.arg 0)) (.int 3072)).before args s = true := hs _ (by decide +kernel)
  have hlen : (Cond.isInt (.length (.arg 0))).before args s = true := hq _ (by decide +kernel)
  have hall : (Cond.all (.arg 0) (.isInt (.elem (.arg 0) (.index 0)))).before args s = true := hq _ (by decide +kernel)
  obtain ⟨b, xs, hb, hx⟩ := State.ints_of_pre rfl harr hlen hall
  have hsm : xs.length < 2 ^ 31 := hx.choose_spec.2.2.2
  have hev : (Term.length (.arg 0)).eval args s none [] s = some (.int xs.length.toInt32) := hx.length_eval hb
  have hv := Cond.le_ints hev (show (Term.int 3072).eval args s none [] s = some (.int 3072) from rfl)
  have hd : xs.length.toInt32 ≤ 3072 := by
    simpa [Cond.before, Cond.holds, hv] using hle
  have hN : xs.length ≤ 3072 := (Int32.ofNat_le_ofNat hsm (by decide)).mp (show Int32.ofNat xs.length ≤ Int32.ofNat 3072 from hd)
  exact ⟨b, xs, Cond.one_arg hc (show args[0]? = some (.ref b) from hb), hx, hN, h⟩
theorem lw_comes (l : Launch) (hflags : l.flags = flags0) : Comes l x (Jvm.Cond.code x code maxLocals ret :: tables_1) room_1 (fun tb e args s => Calls_1 tb e args s ∧ rest_1 tb e args s ∧ Pre_1 tb e args s)
    (fun _ _ args s o t => lw_Q args s o t) := by
  intro p e ha hc hk s m args below hf hfit hheap happ hpre
  obtain ⟨b, xs, hP⟩ := lw_pre_spec hpre.2.2 hpre.2.1
  obtain ⟨k, o, h1, h2, h3, hQ⟩ := lw_walk l hflags b xs p e ha hc hk s m args below hf ((Spec.applies_iff_loose hf).mp happ).1 hP trivial
  exact ⟨k, o, h1, h2, h3, hQ⟩
theorem lw_frame {s t : State} {o : Outcome} {args : Array Value} (h : Framed s o t [] 600000 7302250) :
    Framed s o t (fieldLocs frame_1_writes args s ++ arrayLocs frame_1_arrays args s ++ staticLocs frame_1_statics s) 600000 7302250 := h
theorem lw_limb (L : Cond) (hL : ∀ (args : Array Value) (s t : State), L.after args s (.returned (some (.int 1))) t = true) :
    ArmFor flags0 classFile x code maxLocals ret World_1 tables_1 room_1 Calls_1 rest_1 Pre_1
      (fun tb e a s o t => postC L tb e a s o t ∧ Framed s o t (fieldLocs frame_1_writes a s ++ arrayLocs frame_1_arrays a s ++ staticLocs frame_1_statics s) 600000 7302250) := by
  intro l hflags _ _ p e ha hc hk s m args below hf hfit hheap happ hpre
  obtain ⟨k, o, h1, h2, h3, rfl, hF⟩ := lw_comes l hflags p e ha hc hk s m args below hf hfit hheap happ hpre
  exact ⟨k, _, h1, h2, h3, hL args s _, lw_frame hF⟩
theorem i_vc : Claimed_1_1 ∧ Claimed_1_2 := ⟨lw_limb limb_1_1 (fun args s t => by simp [limb_1_1, Cond.after, Cond.holds, Cond.value]), lw_limb limb_1_2 (fun args s t => Cond.after_iff.mpr (by
  first | (rw [show limb_1_2 = Cond.eq .result (.int 1) from rfl, Cond.eq_ints (x := 1) (y := 1) rfl rfl]; simp; done) | (simp [limb_1_2, Cond.value, Term.eval]; done)))⟩
