/-! The calls put together. -/
/-- what holds of the heap before each call -/
def rvI (L : Nat) (xs : Nat → Int32) (h : qH) : Prop := ∃ (X : Nat × Nat × qC) (M : Mm), Rep X M h ∧ GI M ∧ X.2.2 = .inl (8, L, .inl xs) ∧ X.2.1 = 61442 + 58 * X.1
theorem cell142 {X : Nat × Nat × qC} {M : Mm} {h : qH} (hR : Rep X M h) : ∃ fs, h.2.2 142 = some (.inr (12, fs)) := by
  have h1 := hR.cell 142 (by decide) (by omega)
  have e : lay 142 = (5, 12, 0, (lay 142).2.2.2) := rfl
  rw [e] at h1
  exact ⟨_, h1⟩
theorem cell2 {X : Nat × Nat × qC} {M : Mm} {h : qH} (hR : Rep X M h) : h.2.2 2 = some (.inr (11, mflds M 2 0 [3, 24, 29, 30, 31, 49, 73, 98, 102, 112, 125, 132, 134, 2])) := by
  have h1 := hR.cell 2 (by decide) (by omega)
  have e : lay 2 = (5, 11, 0, [3, 24, 29, 30, 31, 49, 73, 98, 102, 112, 125, 132, 134, 2]) := rfl
  rw [e] at h1
  exact h1
theorem cell24 {X : Nat × Nat × qC} {M : Mm} {h : qH} (hR : Rep X M h) : h.2.2 24 = some (.inr (8, mflds M 24 0 [0, 0, 0, 0, 25, 26, 27, 28])) := by
  have h1 := hR.cell 24 (by decide) (by omega)
  have e : lay 24 = (5, 8, 0, [0, 0, 0, 0, 25, 26, 27, 28]) := rfl
  rw [e] at h1
  exact h1
section ONE
variable {X : Nat × Nat × qC} {M : Mm} {h : qH} {L : Nat} {xs : Nat → Int32} {kC kM : Nat} {as : List Value}
theorem oneI (hR : Rep X M h) (hX : X.2.2 = .inl (8, L, .inl xs)) (hs : X.2.1 = 61442 + 58 * X.1) (c : mC X 2048 kC 1 (.ref 2 :: as) M (fun v M2 => mC X 2048 kM 1 (.ref 142 :: as) M2 (fun v2 M3 => v2 = v ∧ GI M3))) : qOneI kC kM as h (.inl (8, L, .inl xs)) (rvI L xs) := by
  obtain ⟨v, M2, h1, c1, R1, _, c2⟩ := c h hR
  obtain ⟨v2, M3, h2, d1, R2, _, d2, d3⟩ := c2 h1 R1
  obtain ⟨fs, e⟩ := cell142 R1
  subst d2
  exact ⟨Int32.ofInt v2, h1, h2, fs, c1, by rw [R1.scr, hX], e, d1, X, M3, R2, d3, hX, hs⟩
theorem oneJ (hR : Rep X M h) (hX : X.2.2 = .inl (8, L, .inl xs)) (hs : X.2.1 = 61442 + 58 * X.1) (c : mC X 2048 kC 2 (.ref 2 :: as) M (fun v M2 => mC X 2048 kM 2 (.ref 142 :: as) M2 (fun v2 M3 => v2 = v ∧ GI M3))) : qOneJ kC kM as h (.inl (8, L, .inl xs)) (rvI L xs) := by
  obtain ⟨v, M2, h1, c1, R1, _, c2⟩ := c h hR
  obtain ⟨v2, M3, h2, d1, R2, _, d2, d3⟩ := c2 h1 R1
  obtain ⟨fs, e⟩ := cell142 R1
  subst d2
  exact ⟨Int64.ofInt v2, h1, h2, fs, c1, by rw [R1.scr, hX], e, d1, X, M3, R2, d3, hX, hs⟩
end ONE
theorem g71 {X : Nat × Nat × qC} {N S M : Mm} {Ps : Nat → Mm} {l : List (Bool × Sem)} {x1 x2 x3 : Int} (h : IV N S Ps l M) (hx1 : R4 x1) (hx2 : R4 x2) (hx3 : R4 x3) : mC X 2048 71 1 [.ref 2, .int (Int32.ofInt x1), .int (Int32.ofInt x2), .int (Int32.ofInt x3)] M (fun v M2 => mC X 2048 171 1 [.ref 142, .int (Int32.ofInt x1), .int (Int32.ofInt x2), .int (Int32.ofInt x3)] M2 (fun v2 M3 => v2 = v ∧ GI M3)) :=
  mC.mono (s71 (d := 2045) (R := fun r => JJ r.1 (f171 x1 x2 x3 r.2)) hx1 hx2 hx3 (c71 h)) (fun v M2 w => s171 (d := 2045) (R := fun r => r.1 = v ∧ GI r.2) hx1 hx2 hx3 w)
theorem a71 {X : Nat × Nat × qC} {M : Mm} {h : qH} {L : Nat} {xs : Nat → Int32} (hR : Rep X M h) (hX : X.2.2 = .inl (8, L, .inl xs)) (hs : X.2.1 = 61442 + 58 * X.1) (hg : GI M) (a b c : Int32) : qOneI 71 171 [.int a, .int b, .int c] h (.inl (8, L, .inl xs)) (rvI L xs) := by
  obtain ⟨N, S, Ps, l, g⟩ := hg
  have key := g71 (X := X) (x1 := a.toInt) (x2 := b.toInt) (x3 := c.toInt) g (r4_toInt a) (r4_toInt b) (r4_toInt c)
  simp only [Int32.ofInt_toInt] at key
  exact oneI hR hX hs key
theorem g77 {X : Nat × Nat × qC} {N S M : Mm} {Ps : Nat → Mm} {l : List (Bool × Sem)} {x1 x2 x3 x4 x5 : Int} (h : IV N S Ps l M) (hx1 : R4 x1) (hx2 : R4 x2) (hx3 : R4 x3) (hx4 : R4 x4) (hx5 : R4 x5) : mC X 2048 77 1 [.ref 2, .int (Int32.ofInt x1), .int (Int32.ofInt x2), .int (Int32.ofInt x3), .int (Int32.ofInt x4), .int (Int32.ofInt x5)] M (fun v M2 => mC X 2048 185 1 [.ref 142, .int (Int32.ofInt x1), .int (Int32.ofInt x2), .int (Int32.ofInt x3), .int (Int32.ofInt x4), .int (Int32.ofInt x5)] M2 (fun v2 M3 => v2 = v ∧ GI M3)) :=
  mC.mono (s77 (d := 2046) (R := fun r => JJ r.1 (f185 x1 x2 x3 x4 x5 r.2)) hx1 hx2 hx3 hx4 hx5 (c77 h)) (fun v M2 w => s185 (d := 2045) (R := fun r => r.1 = v ∧ GI r.2) hx1 hx2 hx3 hx4 hx5 w)
theorem a77 {X : Nat × Nat × qC} {M : Mm} {h : qH} {L : Nat} {xs : Nat → Int32} (hR : Rep X M h) (hX : X.2.2 = .inl (8, L, .inl xs)) (hs : X.2.1 = 61442 + 58 * X.1) (hg : GI M) (a b c d e : Int32) : qOneI 77 185 [.int a, .int b, .int c, .int d, .int e] h (.inl (8, L, .inl xs)) (rvI L xs) := by
  obtain ⟨N, S, Ps, l, g⟩ := hg
  have key := g77 (X := X) (x1 := a.toInt) (x2 := b.toInt) (x3 := c.toInt) (x4 := d.toInt) (x5 := e.toInt) g (r4_toInt a) (r4_toInt b) (r4_toInt c) (r4_toInt d) (r4_toInt e)
  simp only [Int32.ofInt_toInt] at key
  exact oneI hR hX hs key
theorem g81 {X : Nat × Nat × qC} {N S M : Mm} {Ps : Nat → Mm} {l : List (Bool × Sem)} {x1 x2 x3 : Int} (h : IV N S Ps l M) (hx1 : R4 x1) (hx2 : R4 x2) (hx3 : R4 x3) : mC X 2048 81 1 [.ref 2, .int (Int32.ofInt x1), .int (Int32.ofInt x2), .int (Int32.ofInt x3)] M (fun v M2 => mC X 2048 188 1 [.ref 142, .int (Int32.ofInt x1), .int (Int32.ofInt x2), .int (Int32.ofInt x3)] M2 (fun v2 M3 => v2 = v ∧ GI M3)) :=
  mC.mono (s81 (d := 2046) (R := fun r => JJ r.1 (f188 x1 x2 x3 r.2)) hx1 hx2 hx3 (c81 h)) (fun v M2 w => s188 (d := 2045) (R := fun r => r.1 = v ∧ GI r.2) hx1 hx2 hx3 w)
theorem a81 {X : Nat × Nat × qC} {M : Mm} {h : qH} {L : Nat} {xs : Nat → Int32} (hR : Rep X M h) (hX : X.2.2 = .inl (8, L, .inl xs)) (hs : X.2.1 = 61442 + 58 * X.1) (hg : GI M) (a b c : Int32) : qOneI 81 188 [.int a, .int b, .int c] h (.inl (8, L, .inl xs)) (rvI L xs) := by
  obtain ⟨N, S, Ps, l, g⟩ := hg
  have key := g81 (X := X) (x1 := a.toInt) (x2 := b.toInt) (x3 := c.toInt) g (r4_toInt a) (r4_toInt b) (r4_toInt c)
  simp only [Int32.ofInt_toInt] at key
  exact oneI hR hX hs key
theorem g75 {X : Nat × Nat × qC} {N S M : Mm} {Ps : Nat → Mm} {l : List (Bool × Sem)} {x1 x2 : Int} (h : IV N S Ps l M) (hx1 : R4 x1) (hx2 : R4 x2) : mC X 2048 75 1 [.ref 2, .int (Int32.ofInt x1), .int (Int32.ofInt x2)] M (fun v M2 => mC X 2048 180 1 [.ref 142, .int (Int32.ofInt x1), .int (Int32.ofInt x2)] M2 (fun v2 M3 => v2 = v ∧ GI M3)) :=
  mC.mono (s75 (d := 2046) (R := fun r => JJ r.1 (f180 x1 x2 r.2)) hx1 hx2 (c75 h)) (fun v M2 w => s180 (d := 2045) (R := fun r => r.1 = v ∧ GI r.2) hx1 hx2 w)
theorem a75 {X : Nat × Nat × qC} {M : Mm} {h : qH} {L : Nat} {xs : Nat → Int32} (hR : Rep X M h) (hX : X.2.2 = .inl (8, L, .inl xs)) (hs : X.2.1 = 61442 + 58 * X.1) (hg : GI M) (a b : Int32) : qOneI 75 180 [.int a, .int b] h (.inl (8, L, .inl xs)) (rvI L xs) := by
  obtain ⟨N, S, Ps, l, g⟩ := hg
  have key := g75 (X := X) (x1 := a.toInt) (x2 := b.toInt) g (r4_toInt a) (r4_toInt b)
  simp only [Int32.ofInt_toInt] at key
  exact oneI hR hX hs key
theorem g38 {X : Nat × Nat × qC} {N S M : Mm} {Ps : Nat → Mm} {l : List (Bool × Sem)} {x1 : Int} (h : IV N S Ps l M) (hx1 : R4 x1) : mC X 2048 38 1 [.ref 2, .int (Int32.ofInt x1)] M (fun v M2 => mC X 2048 95 1 [.ref 142, .int (Int32.ofInt x1)] M2 (fun v2 M3 => v2 = v ∧ GI M3)) :=
  mC.mono (s38 (d := 2046) (R := fun r => JJ r.1 (f95 x1 r.2)) hx1 (c38 h)) (fun v M2 w => s95 (d := 2046) (R := fun r => r.1 = v ∧ GI r.2) hx1 w)
theorem a38 {X : Nat × Nat × qC} {M : Mm} {h : qH} {L : Nat} {xs : Nat → Int32} (hR : Rep X M h) (hX : X.2.2 = .inl (8, L, .inl xs)) (hs : X.2.1 = 61442 + 58 * X.1) (hg : GI M) (a : Int32) : qOneI 38 95 [.int a] h (.inl (8, L, .inl xs)) (rvI L xs) := by
  obtain ⟨N, S, Ps, l, g⟩ := hg
  have key := g38 (X := X) (x1 := a.toInt) g (r4_toInt a)
  simp only [Int32.ofInt_toInt] at key
  exact oneI hR hX hs key
theorem g76 {X : Nat × Nat × qC} {N S M : Mm} {Ps : Nat → Mm} {l : List (Bool × Sem)} {x1 x2 : Int} (h : IV N S Ps l M) (hx1 : R4 x1) (hx2 : R4 x2) (h2 : x2 = 0 ∨ x2 = 1) : mC X 2048 76 1 [.ref 2, .int (Int32.ofInt x1), .int (Int32.ofInt x2)] M (fun v M2 => mC X 2048 181 1 [.ref 142, .int (Int32.ofInt x1), .int (Int32.ofInt x2)] M2 (fun v2 M3 => v2 = v ∧ GI M3)) :=
  mC.mono (s76 (d := 2046) (R := fun r => JJ r.1 (f181 x1 x2 r.2)) hx1 hx2 (c76 h h2)) (fun v M2 w => s181 (d := 2045) (R := fun r => r.1 = v ∧ GI r.2) hx1 hx2 w)
theorem a76 {X : Nat × Nat × qC} {M : Mm} {h : qH} {L : Nat} {xs : Nat → Int32} (hR : Rep X M h) (hX : X.2.2 = .inl (8, L, .inl xs)) (hs : X.2.1 = 61442 + 58 * X.1) (hg : GI M) (a b : Int32) (hb : b = 0 ∨ b = 1) : qOneI 76 181 [.int a, .int b] h (.inl (8, L, .inl xs)) (rvI L xs) := by
  obtain ⟨N, S, Ps, l, g⟩ := hg
  have hb2 : b.toInt = 0 ∨ b.toInt = 1 := by rcases hb with rfl | rfl
                                             · exact Or.inl rfl
                                             · exact Or.inr rfl
  have key := g76 (X := X) (x1 := a.toInt) (x2 := b.toInt) g (r4_toInt a) (r4_toInt b) hb2
  simp only [Int32.ofInt_toInt] at key
  exact oneI hR hX hs key
theorem g67 {X : Nat × Nat × qC} {N S M : Mm} {Ps : Nat → Mm} {l : List (Bool × Sem)} {x1 x2 : Int} (h : IV N S Ps l M) (hx1 : R4 x1) (hx2 : R4 x2) (h2 : x2 = 0 ∨ x2 = 1) : mC X 2048 67 1 [.ref 2, .int (Int32.ofInt x1), .int (Int32.ofInt x2)] M (fun v M2 => mC X 2048 159 1 [.ref 142, .int (Int32.ofInt x1), .int (Int32.ofInt x2)] M2 (fun v2 M3 => v2 = v ∧ GI M3)) :=
  mC.mono (s67 (d := 2046) (R := fun r => JJ r.1 (f159 x1 x2 r.2)) hx1 hx2 (c67 h h2)) (fun v M2 w => s159 (d := 2045) (R := fun r => r.1 = v ∧ GI r.2) hx1 hx2 w)
theorem a67 {X : Nat × Nat × qC} {M : Mm} {h : qH} {L : Nat} {xs : Nat → Int32} (hR : Rep X M h) (hX : X.2.2 = .inl (8, L, .inl xs)) (hs : X.2.1 = 61442 + 58 * X.1) (hg : GI M) (a b : Int32) (hb : b = 0 ∨ b = 1) : qOneI 67 159 [.int a, .int b] h (.inl (8, L, .inl xs)) (rvI L xs) := by
  obtain ⟨N, S, Ps, l, g⟩ := hg
  have hb2 : b.toInt = 0 ∨ b.toInt = 1 := by rcases hb with rfl | rfl
                                             · exact Or.inl rfl
                                             · exact Or.inr rfl
  have key := g67 (X := X) (x1 := a.toInt) (x2 := b.toInt) g (r4_toInt a) (r4_toInt b) hb2
  simp only [Int32.ofInt_toInt] at key
  exact oneI hR hX hs key
theorem g68 {X : Nat × Nat × qC} {N S M : Mm} {Ps : Nat → Mm} {l : List (Bool × Sem)} {x1 x2 : Int} (h : IV N S Ps l M) (hx1 : R4 x1) (hx2 : R4 x2) (h2 : x2 = 0 ∨ x2 = 1) : mC X 2048 68 1 [.ref 2, .int (Int32.ofInt x1), .int (Int32.ofInt x2)] M (fun v M2 => mC X 2048 161 1 [.ref 142, .int (Int32.ofInt x1), .int (Int32.ofInt x2)] M2 (fun v2 M3 => v2 = v ∧ GI M3)) :=
  mC.mono (s68 (d := 2046) (R := fun r => JJ r.1 (f161 x1 x2 r.2)) hx1 hx2 (c68 h h2)) (fun v M2 w => s161 (d := 2045) (R := fun r => r.1 = v ∧ GI r.2) hx1 hx2 w)
theorem a68 {X : Nat × Nat × qC} {M : Mm} {h : qH} {L : Nat} {xs : Nat → Int32} (hR : Rep X M h) (hX : X.2.2 = .inl (8, L, .inl xs)) (hs : X.2.1 = 61442 + 58 * X.1) (hg : GI M) (a b : Int32) (hb : b = 0 ∨ b = 1) : qOneI 68 161 [.int a, .int b] h (.inl (8, L, .inl xs)) (rvI L xs) := by
  obtain ⟨N, S, Ps, l, g⟩ := hg
  have hb2 : b.toInt = 0 ∨ b.toInt = 1 := by rcases hb with rfl | rfl
                                             · exact Or.inl rfl
                                             · exact Or.inr rfl
  have key := g68 (X := X) (x1 := a.toInt) (x2 := b.toInt) g (r4_toInt a) (r4_toInt b) hb2
  simp only [Int32.ofInt_toInt] at key
  exact oneI hR hX hs key
theorem g62 {X : Nat × Nat × qC} {N S M : Mm} {Ps : Nat → Mm} {l : List (Bool × Sem)} {x1 x2 : Int} (h : IV N S Ps l M) (hx1 : R4 x1) (hx2 : R4 x2) : mC X 2048 62 1 [.ref 2, .int (Int32.ofInt x1), .int (Int32.ofInt x2)] M (fun v M2 => mC X 2048 144 1 [.ref 142, .int (Int32.ofInt x1), .int (Int32.ofInt x2)] M2 (fun v2 M3 => v2 = v ∧ GI M3)) :=
  mC.mono (s62 (d := 2046) (R := fun r => JJ r.1 (f144 x1 x2 r.2)) hx1 hx2 (c62 h)) (fun v M2 w => s144 (d := 2045) (R := fun r => r.1 = v ∧ GI r.2) hx1 hx2 w)
theorem a62 {X : Nat × Nat × qC} {M : Mm} {h : qH} {L : Nat} {xs : Nat → Int32} (hR : Rep X M h) (hX : X.2.2 = .inl (8, L, .inl xs)) (hs : X.2.1 = 61442 + 58 * X.1) (hg : GI M) (a b : Int32) : qOneI 62 144 [.int a, .int b] h (.inl (8, L, .inl xs)) (rvI L xs) := by
  obtain ⟨N, S, Ps, l, g⟩ := hg
  have key := g62 (X := X) (x1 := a.toInt) (x2 := b.toInt) g (r4_toInt a) (r4_toInt b)
  simp only [Int32.ofInt_toInt] at key
  exact oneI hR hX hs key
theorem g63 {X : Nat × Nat × qC} {N S M : Mm} {Ps : Nat → Mm} {l : List (Bool × Sem)} {x1 : Int} (h : IV N S Ps l M) (hx1 : R4 x1) : mC X 2048 63 1 [.ref 2, .int (Int32.ofInt x1)] M (fun v M2 => mC X 2048 147 1 [.ref 142, .int (Int32.ofInt x1)] M2 (fun v2 M3 => v2 = v ∧ GI M3)) :=
  mC.mono (s63 (d := 2046) (R := fun r => JJ r.1 (f147 x1 r.2)) hx1 (c63 h)) (fun v M2 w => s147 (d := 2045) (R := fun r => r.1 = v ∧ GI r.2) hx1 w)
theorem a63 {X : Nat × Nat × qC} {M : Mm} {h : qH} {L : Nat} {xs : Nat → Int32} (hR : Rep X M h) (hX : X.2.2 = .inl (8, L, .inl xs)) (hs : X.2.1 = 61442 + 58 * X.1) (hg : GI M) (a : Int32) : qOneI 63 147 [.int a] h (.inl (8, L, .inl xs)) (rvI L xs) := by
  obtain ⟨N, S, Ps, l, g⟩ := hg
  have key := g63 (X := X) (x1 := a.toInt) g (r4_toInt a)
  simp only [Int32.ofInt_toInt] at key
  exact oneI hR hX hs key
theorem g46 {X : Nat × Nat × qC} {N S M : Mm} {Ps : Nat → Mm} {l : List (Bool × Sem)} {x1 x2 x3 x4 x5 : Int} (h : IV N S Ps l M) (hx1 : R4 x1) (hx2 : R4 x2) (hx3 : R4 x3) (hx4 : R4 x4) (hx5 : R4 x5) : mC X 2048 46 1 [.ref 2, .int (Int32.ofInt x1), .int (Int32.ofInt x2), .int (Int32.ofInt x3), .int (Int32.ofInt x4), .int (Int32.ofInt x5)] M (fun v M2 => mC X 2048 107 1 [.ref 142, .int (Int32.ofInt x1), .int (Int32.ofInt x2), .int (Int32.ofInt x3), .int (Int32.ofInt x4), .int (Int32.ofInt x5)] M2 (fun v2 M3 => v2 = v ∧ GI M3)) :=
  mC.mono (s46 (d := 2046) (R := fun r => JJ r.1 (f107 x1 x2 x3 x4 x5 r.2)) hx1 hx2 hx3 hx4 hx5 (c46 h)) (fun v M2 w => s107 (d := 2046) (R := fun r => r.1 = v ∧ GI r.2) hx1 hx2 hx3 hx4 hx5 w)
theorem a46 {X : Nat × Nat × qC} {M : Mm} {h : qH} {L : Nat} {xs : Nat → Int32} (hR : Rep X M h) (hX : X.2.2 = .inl (8, L, .inl xs)) (hs : X.2.1 = 61442 + 58 * X.1) (hg : GI M) (a b c d e : Int32) : qOneI 46 107 [.int a, .int b, .int c, .int d, .int e] h (.inl (8, L, .inl xs)) (rvI L xs) := by
  obtain ⟨N, S, Ps, l, g⟩ := hg
  have key := g46 (X := X) (x1 := a.toInt) (x2 := b.toInt) (x3 := c.toInt) (x4 := d.toInt) (x5 := e.toInt) g (r4_toInt a) (r4_toInt b) (r4_toInt c) (r4_toInt d) (r4_toInt e)
  simp only [Int32.ofInt_toInt] at key
  exact oneI hR hX hs key
theorem g66 {X : Nat × Nat × qC} {N S M : Mm} {Ps : Nat → Mm} {l : List (Bool × Sem)} {x1 : Int} (h : IV N S Ps l M) (hx1 : R4 x1) : mC X 2048 66 1 [.ref 2, .int (Int32.ofInt x1)] M (fun v M2 => mC X 2048 158 1 [.ref 142, .int (Int32.ofInt x1)] M2 (fun v2 M3 => v2 = v ∧ GI M3)) :=
  mC.mono (s66 (d := 2002) (R := fun r => JJ r.1 (f158 x1 r.2)) hx1 (c66 h)) (fun v M2 w => s158 (d := 2040) (R := fun r => r.1 = v ∧ GI r.2) hx1 w)
theorem a66 {X : Nat × Nat × qC} {M : Mm} {h : qH} {L : Nat} {xs : Nat → Int32} (hR : Rep X M h) (hX : X.2.2 = .inl (8, L, .inl xs)) (hs : X.2.1 = 61442 + 58 * X.1) (hg : GI M) (a : Int32) : qOneI 66 158 [.int a] h (.inl (8, L, .inl xs)) (rvI L xs) := by
  obtain ⟨N, S, Ps, l, g⟩ := hg
  have key := g66 (X := X) (x1 := a.toInt) g (r4_toInt a)
  simp only [Int32.ofInt_toInt] at key
  exact oneI hR hX hs key
theorem g50 {X : Nat × Nat × qC} {N S M : Mm} {Ps : Nat → Mm} {l : List (Bool × Sem)} {x1 : Int} (h : IV N S Ps l M) (hx1 : R4 x1) : mC X 2048 50 2 [.ref 2, .int (Int32.ofInt x1)] M (fun v M2 => mC X 2048 110 2 [.ref 142, .int (Int32.ofInt x1)] M2 (fun v2 M3 => v2 = v ∧ GI M3)) :=
  mC.mono (s50 (d := 2043) (R := fun r => JJ r.1 (f110 x1 r.2)) hx1 (c50 h)) (fun v M2 w => s110 (d := 2042) (R := fun r => r.1 = v ∧ GI r.2) hx1 w)
theorem a50 {X : Nat × Nat × qC} {M : Mm} {h : qH} {L : Nat} {xs : Nat → Int32} (hR : Rep X M h) (hX : X.2.2 = .inl (8, L, .inl xs)) (hs : X.2.1 = 61442 + 58 * X.1) (hg : GI M) (a : Int32) : qOneJ 50 110 [.int a] h (.inl (8, L, .inl xs)) (rvI L xs) := by
  obtain ⟨N, S, Ps, l, g⟩ := hg
  have key := g50 (X := X) (x1 := a.toInt) g (r4_toInt a)
  simp only [Int32.ofInt_toInt] at key
  exact oneJ hR hX hs key
theorem g78 {X : Nat × Nat × qC} {N S M : Mm} {Ps : Nat → Mm} {l : List (Bool × Sem)} {x1 x2 : Int} (h : IV N S Ps l M) (hx1 : R4 x1) (hx2 : R4 x2) : mC X 2048 78 1 [.ref 2, .int (Int32.ofInt x1), .int (Int32.ofInt x2)] M (fun v M2 => mC X 2048 186 1 [.ref 142, .int (Int32.ofInt x1), .int (Int32.ofInt x2)] M2 (fun v2 M3 => v2 = v ∧ GI M3)) :=
  mC.mono (s78 (d := 2041) (R := fun r => JJ r.1 (f186 x1 x2 r.2)) hx1 hx2 (c78 h)) (fun v M2 w => s186 (d := 2041) (R := fun r => r.1 = v ∧ GI r.2) hx1 hx2 w)
theorem a78 {X : Nat × Nat × qC} {M : Mm} {h : qH} {L : Nat} {xs : Nat → Int32} (hR : Rep X M h) (hX : X.2.2 = .inl (8, L, .inl xs)) (hs : X.2.1 = 61442 + 58 * X.1) (hg : GI M) (a b : Int32) : qOneI 78 186 [.int a, .int b] h (.inl (8, L, .inl xs)) (rvI L xs) := by
  obtain ⟨N, S, Ps, l, g⟩ := hg
  have key := g78 (X := X) (x1 := a.toInt) (x2 := b.toInt) g (r4_toInt a) (r4_toInt b)
  simp only [Int32.ofInt_toInt] at key
  exact oneI hR hX hs key
theorem g82 {X : Nat × Nat × qC} {N S M : Mm} {Ps : Nat → Mm} {l : List (Bool × Sem)} {x1 x2 : Int} (h : IV N S Ps l M) (hx1 : R4 x1) (hx2 : R4 x2) : mC X 2048 82 1 [.ref 2, .int (Int32.ofInt x1), .int (Int32.ofInt x2)] M (fun v M2 => mC X 2048 189 1 [.ref 142, .int (Int32.ofInt x1), .int (Int32.ofInt x2)] M2 (fun v2 M3 => v2 = v ∧ GI M3)) :=
  mC.mono (s82 (d := 2043) (R := fun r => JJ r.1 (f189 x1 x2 r.2)) hx1 hx2 (c82 h)) (fun v M2 w => s189 (d := 2042) (R := fun r => r.1 = v ∧ GI r.2) hx1 hx2 w)
theorem a82 {X : Nat × Nat × qC} {M : Mm} {h : qH} {L : Nat} {xs : Nat → Int32} (hR : Rep X M h) (hX : X.2.2 = .inl (8, L, .inl xs)) (hs : X.2.1 = 61442 + 58 * X.1) (hg : GI M) (a b : Int32) : qOneI 82 189 [.int a, .int b] h (.inl (8, L, .inl xs)) (rvI L xs) := by
  obtain ⟨N, S, Ps, l, g⟩ := hg
  have key := g82 (X := X) (x1 := a.toInt) (x2 := b.toInt) g (r4_toInt a) (r4_toInt b)
  simp only [Int32.ofInt_toInt] at key
  exact oneI hR hX hs key
theorem g72 {X : Nat × Nat × qC} {N S M : Mm} {Ps : Nat → Mm} {l : List (Bool × Sem)} {x1 x2 : Int} (h : IV N S Ps l M) (hx1 : R4 x1) (hx2 : R4 x2) : mC X 2048 72 1 [.ref 2, .int (Int32.ofInt x1), .int (Int32.ofInt x2)] M (fun v M2 => mC X 2048 172 1 [.ref 142, .int (Int32.ofInt x1), .int (Int32.ofInt x2)] M2 (fun v2 M3 => v2 = v ∧ GI M3)) :=
  mC.mono (s72 (d := 2043) (R := fun r => JJ r.1 (f172 x1 x2 r.2)) hx1 hx2 (c72 h)) (fun v M2 w => s172 (d := 2042) (R := fun r => r.1 = v ∧ GI r.2) hx1 hx2 w)
theorem a72 {X : Nat × Nat × qC} {M : Mm} {h : qH} {L : Nat} {xs : Nat → Int32} (hR : Rep X M h) (hX : X.2.2 = .inl (8, L, .inl xs)) (hs : X.2.1 = 61442 + 58 * X.1) (hg : GI M) (a b : Int32) : qOneI 72 172 [.int a, .int b] h (.inl (8, L, .inl xs)) (rvI L xs) := by
  obtain ⟨N, S, Ps, l, g⟩ := hg
  have key := g72 (X := X) (x1 := a.toInt) (x2 := b.toInt) g (r4_toInt a) (r4_toInt b)
  simp only [Int32.ofInt_toInt] at key
  exact oneI hR hX hs key
theorem g45 {X : Nat × Nat × qC} {N S M : Mm} {Ps : Nat → Mm} {l : List (Bool × Sem)} {x1 x2 : Int} (h : IV N S Ps l M) (hx1 : R4 x1) (hx2 : R4 x2) : mC X 2048 45 1 [.ref 2, .int (Int32.ofInt x1), .int (Int32.ofInt x2)] M (fun v M2 => mC X 2048 105 1 [.ref 142, .int (Int32.ofInt x1), .int (Int32.ofInt x2)] M2 (fun v2 M3 => v2 = v ∧ GI M3)) :=
  mC.mono (s45 (d := 2040) (R := fun r => JJ r.1 (f105 x1 x2 r.2)) hx1 hx2 (c45 h)) (fun v M2 w => s105 (d := 2040) (R := fun r => r.1 = v ∧ GI r.2) hx1 hx2 w)
theorem a45 {X : Nat × Nat × qC} {M : Mm} {h : qH} {L : Nat} {xs : Nat → Int32} (hR : Rep X M h) (hX : X.2.2 = .inl (8, L, .inl xs)) (hs : X.2.1 = 61442 + 58 * X.1) (hg : GI M) (a b : Int32) : qOneI 45 105 [.int a, .int b] h (.inl (8, L, .inl xs)) (rvI L xs) := by
  obtain ⟨N, S, Ps, l, g⟩ := hg
  have key := g45 (X := X) (x1 := a.toInt) (x2 := b.toInt) g (r4_toInt a) (r4_toInt b)
  simp only [Int32.ofInt_toInt] at key
  exact oneI hR hX hs key
theorem g31 {X : Nat × Nat × qC} {N S M : Mm} {Ps : Nat → Mm} {l : List (Bool × Sem)} {x1 : Int} (h : IV N S Ps l M) (hx1 : R4 x1) : mC X 2048 31 1 [.ref 2, .int (Int32.ofInt x1)] M (fun v M2 => mC X 2048 84 1 [.ref 142, .int (Int32.ofInt x1)] M2 (fun v2 M3 => v2 = v ∧ GI M3)) :=
  mC.mono (s31 (d := 2046) hx1 (c31 h)) (fun v M2 w => by
    obtain ⟨e, w⟩ := w
    subst e
    exact mC.mono (s84 (d := 2046) (R := fun v2 => v2 = v) hx1 w) (fun v2 M3 w2 => ⟨w2.2, w2.1 ▸ h.G⟩))
theorem a31 {X : Nat × Nat × qC} {M : Mm} {h : qH} {L : Nat} {xs : Nat → Int32} (hR : Rep X M h) (hX : X.2.2 = .inl (8, L, .inl xs)) (hs : X.2.1 = 61442 + 58 * X.1) (hg : GI M) (a : Int32) : qOneI 31 84 [.int a] h (.inl (8, L, .inl xs)) (rvI L xs) := by
  obtain ⟨N, S, Ps, l, g⟩ := hg
  have key := g31 (X := X) (x1 := a.toInt) g (r4_toInt a)
  simp only [Int32.ofInt_toInt] at key
  exact oneI hR hX hs key
theorem g48 {X : Nat × Nat × qC} {N S M : Mm} {Ps : Nat → Mm} {l : List (Bool × Sem)} (h : IV N S Ps l M) : mC X 2048 48 1 [.ref 2] M (fun v M2 => mC X 2048 108 1 [.ref 142] M2 (fun v2 M3 => v2 = v ∧ GI M3)) :=
  mC.mono (s48 (d := 2047)  (c48 h)) (fun v M2 w => by
    obtain ⟨e, w⟩ := w
    subst e
    exact mC.mono (s108 (d := 2047) (R := fun v2 => v2 = v)  w) (fun v2 M3 w2 => ⟨w2.2, w2.1 ▸ h.G⟩))
theorem a48 {X : Nat × Nat × qC} {M : Mm} {h : qH} {L : Nat} {xs : Nat → Int32} (hR : Rep X M h) (hX : X.2.2 = .inl (8, L, .inl xs)) (hs : X.2.1 = 61442 + 58 * X.1) (hg : GI M) : qOneI 48 108 [] h (.inl (8, L, .inl xs)) (rvI L xs) := by
  obtain ⟨N, S, Ps, l, g⟩ := hg
  exact oneI hR hX hs (g48 g)
theorem g74 {X : Nat × Nat × qC} {N S M : Mm} {Ps : Nat → Mm} {l : List (Bool × Sem)} {x1 x2 : Int} (h : IV N S Ps l M) (hx1 : R4 x1) (hx2 : R4 x2) (h2 : x2 = 0 ∨ x2 = 1) : mC X 2048 74 1 [.ref 2, .int (Int32.ofInt x1), .int (Int32.ofInt x2)] M (fun v M2 => mC X 2048 176 1 [.ref 142, .int (Int32.ofInt x1), .int (Int32.ofInt x2)] M2 (fun v2 M3 => v2 = v ∧ GI M3)) :=
  mC.mono (s74 (d := 2045) (R := fun r => JJ r.1 (f176 x1 x2 r.2)) hx1 hx2 (c74 h h2)) (fun v M2 w => s176 (d := 2045) (R := fun r => r.1 = v ∧ GI r.2) hx1 hx2 w)
theorem a74 {X : Nat × Nat × qC} {M : Mm} {h : qH} {L : Nat} {xs : Nat → Int32} (hR : Rep X M h) (hX : X.2.2 = .inl (8, L, .inl xs)) (hs : X.2.1 = 61442 + 58 * X.1) (hg : GI M) (a b : Int32) (hb : b = 0 ∨ b = 1) : qOneI 74 176 [.int a, .int b] h (.inl (8, L, .inl xs)) (rvI L xs) := by
  obtain ⟨N, S, Ps, l, g⟩ := hg
  have hb2 : b.toInt = 0 ∨ b.toInt = 1 := by rcases hb with rfl | rfl
                                             · exact Or.inl rfl
                                             · exact Or.inr rfl
  have key := g74 (X := X) (x1 := a.toInt) (x2 := b.toInt) g (r4_toInt a) (r4_toInt b) hb2
  simp only [Int32.ofInt_toInt] at key
  exact oneI hR hX hs key
theorem g69 {X : Nat × Nat × qC} {N S M : Mm} {Ps : Nat → Mm} {l : List (Bool × Sem)} {x1 x2 x3 : Int} (h : IV N S Ps l M) (hx1 : R4 x1) (hx2 : R4 x2) (hx3 : R4 x3) : mC X 2048 69 2 [.ref 2, .int (Int32.ofInt x1), .int (Int32.ofInt x2), .int (Int32.ofInt x3)] M (fun v M2 => mC X 2048 166 2 [.ref 142, .int (Int32.ofInt x1), .int (Int32.ofInt x2), .int (Int32.ofInt x3)] M2 (fun v2 M3 => v2 = v ∧ GI M3)) :=
  mC.mono (s69 (d := 2045) hx1 hx2 hx3 (c69 h)) (fun v M2 w => by
    obtain ⟨e, w⟩ := w
    subst e
    exact mC.mono (s166 (d := 2045) (R := fun v2 => v2 = v) hx1 hx2 hx3 w) (fun v2 M3 w2 => ⟨w2.2, w2.1 ▸ h.G⟩))
theorem a69 {X : Nat × Nat × qC} {M : Mm} {h : qH} {L : Nat} {xs : Nat → Int32} (hR : Rep X M h) (hX : X.2.2 = .inl (8, L, .inl xs)) (hs : X.2.1 = 61442 + 58 * X.1) (hg : GI M) (a b c : Int32) : qOneJ 69 166 [.int a, .int b, .int c] h (.inl (8, L, .inl xs)) (rvI L xs) := by
  obtain ⟨N, S, Ps, l, g⟩ := hg
  have key := g69 (X := X) (x1 := a.toInt) (x2 := b.toInt) (x3 := c.toInt) g (r4_toInt a) (r4_toInt b) (r4_toInt c)
  simp only [Int32.ofInt_toInt] at key
  exact oneJ hR hX hs key
theorem g70 {X : Nat × Nat × qC} {N S M : Mm} {Ps : Nat → Mm} {l : List (Bool × Sem)} {x1 : Int} (h : IV N S Ps l M) (hx1 : R4 x1) : mC X 2048 70 1 [.ref 2, .int (Int32.ofInt x1)] M (fun v M2 => mC X 2048 168 1 [.ref 142, .int (Int32.ofInt x1)] M2 (fun v2 M3 => v2 = v ∧ GI M3)) :=
  mC.mono (s70 (d := 2045) hx1 (c70 h)) (fun v M2 w => by
    obtain ⟨e, w⟩ := w
    subst e
    exact mC.mono (s168 (d := 2045) (R := fun v2 => v2 = v) hx1 w) (fun v2 M3 w2 => ⟨w2.2, w2.1 ▸ h.G⟩))
theorem a70 {X : Nat × Nat × qC} {M : Mm} {h : qH} {L : Nat} {xs : Nat → Int32} (hR : Rep X M h) (hX : X.2.2 = .inl (8, L, .inl xs)) (hs : X.2.1 = 61442 + 58 * X.1) (hg : GI M) (a : Int32) : qOneI 70 168 [.int a] h (.inl (8, L, .inl xs)) (rvI L xs) := by
  obtain ⟨N, S, Ps, l, g⟩ := hg
  have key := g70 (X := X) (x1 := a.toInt) g (r4_toInt a)
  simp only [Int32.ofInt_toInt] at key
  exact oneI hR hX hs key
theorem g53 {X : Nat × Nat × qC} {N S M : Mm} {Ps : Nat → Mm} {l : List (Bool × Sem)} {x1 x2 x3 : Int} (h : IV N S Ps l M) (hx1 : R4 x1) (hx2 : R4 x2) (hx3 : R4 x3) : mC X 2048 53 1 [.ref 2, .int (Int32.ofInt x1), .int (Int32.ofInt x2), .int (Int32.ofInt x3)] M (fun v M2 => mC X 2048 119 1 [.ref 142, .int (Int32.ofInt x1), .int (Int32.ofInt x2), .int (Int32.ofInt x3)] M2 (fun v2 M3 => v2 = v ∧ GI M3)) :=
  mC.mono (s53 (d := 2041) (R := fun r => JJ r.1 (f119 x1 x2 x3 r.2)) hx1 hx2 hx3 (c53 h hx2)) (fun v M2 w => s119 (d := 2040) (R := fun r => r.1 = v ∧ GI r.2) hx1 hx2 hx3 w)
theorem a53 {X : Nat × Nat × qC} {M : Mm} {h : qH} {L : Nat} {xs : Nat → Int32} (hR : Rep X M h) (hX : X.2.2 = .inl (8, L, .inl xs)) (hs : X.2.1 = 61442 + 58 * X.1) (hg : GI M) (a b c : Int32) : qOneI 53 119 [.int a, .int b, .int c] h (.inl (8, L, .inl xs)) (rvI L xs) := by
  obtain ⟨N, S, Ps, l, g⟩ := hg
  have key := g53 (X := X) (x1 := a.toInt) (x2 := b.toInt) (x3 := c.toInt) g (r4_toInt a) (r4_toInt b) (r4_toInt c)
  simp only [Int32.ofInt_toInt] at key
  exact oneI hR hX hs key
theorem g59 {X : Nat × Nat × qC} {N S M : Mm} {Ps : Nat → Mm} {l : List (Bool × Sem)} {x1 x2 : Int} (h : IV N S Ps l M) (hx1 : R4 x1) (hx2 : R4 x2) : mC X 2048 59 1 [.ref 2, .int (Int32.ofInt x1), .int (Int32.ofInt x2)] M (fun v M2 => mC X 2048 139 1 [.ref 142, .int (Int32.ofInt x1), .int (Int32.ofInt x2)] M2 (fun v2 M3 => v2 = v ∧ GI M3)) :=
  mC.mono (s59 (d := 2041) (R := fun r => JJ r.1 (f139 x1 x2 r.2)) hx1 hx2 (c59 h hx1)) (fun v M2 w => s139 (d := 2040) (R := fun r => r.1 = v ∧ GI r.2) hx1 hx2 w)
theorem a59 {X : Nat × Nat × qC} {M : Mm} {h : qH} {L : Nat} {xs : Nat → Int32} (hR : Rep X M h) (hX : X.2.2 = .inl (8, L, .inl xs)) (hs : X.2.1 = 61442 + 58 * X.1) (hg : GI M) (a b : Int32) : qOneI 59 139 [.int a, .int b] h (.inl (8, L, .inl xs)) (rvI L xs) := by
  obtain ⟨N, S, Ps, l, g⟩ := hg
  have key := g59 (X := X) (x1 := a.toInt) (x2 := b.toInt) g (r4_toInt a) (r4_toInt b)
  simp only [Int32.ofInt_toInt] at key
  exact oneI hR hX hs key
theorem g60 {X : Nat × Nat × qC} {N S M : Mm} {Ps : Nat → Mm} {l : List (Bool × Sem)} {x1 x2 : Int} (h : IV N S Ps l M) (hx1 : R4 x1) (hx2 : R4 x2) : mC X 2048 60 1 [.ref 2, .int (Int32.ofInt x1), .int (Int32.ofInt x2)] M (fun v M2 => mC X 2048 141 1 [.ref 142, .int (Int32.ofInt x1), .int (Int32.ofInt x2)] M2 (fun v2 M3 => v2 = v ∧ GI M3)) :=
  mC.mono (s60 (d := 2040) (R := fun r => JJ r.1 (f141 x1 x2 r.2)) hx1 hx2 (c60 h)) (fun v M2 w => s141 (d := 2040) (R := fun r => r.1 = v ∧ GI r.2) hx1 hx2 w)
theorem a60 {X : Nat × Nat × qC} {M : Mm} {h : qH} {L : Nat} {xs : Nat → Int32} (hR : Rep X M h) (hX : X.2.2 = .inl (8, L, .inl xs)) (hs : X.2.1 = 61442 + 58 * X.1) (hg : GI M) (a b : Int32) : qOneI 60 141 [.int a, .int b] h (.inl (8, L, .inl xs)) (rvI L xs) := by
  obtain ⟨N, S, Ps, l, g⟩ := hg
  have key := g60 (X := X) (x1 := a.toInt) (x2 := b.toInt) g (r4_toInt a) (r4_toInt b)
  simp only [Int32.ofInt_toInt] at key
  exact oneI hR hX hs key
theorem g36 {X : Nat × Nat × qC} {N S M : Mm} {Ps : Nat → Mm} {l : List (Bool × Sem)} {x1 x2 x3 : Int} (h : IV N S Ps l M) (hx1 : R4 x1) (hx2 : R4 x2) (hx3 : R4 x3) : mC X 2048 36 1 [.ref 2, .int (Int32.ofInt x1), .int (Int32.ofInt x2), .int (Int32.ofInt x3)] M (fun v M2 => mC X 2048 92 1 [.ref 142, .int (Int32.ofInt x1), .int (Int32.ofInt x2), .int (Int32.ofInt x3)] M2 (fun v2 M3 => v2 = v ∧ GI M3)) :=
  mC.mono (s36 (d := 2045) (R := fun r => JJ r.1 (f92 x1 x2 x3 r.2)) hx1 hx2 hx3 (c36 h)) (fun v M2 w => s92 (d := 2045) (R := fun r => r.1 = v ∧ GI r.2) hx1 hx2 hx3 w)
theorem a36 {X : Nat × Nat × qC} {M : Mm} {h : qH} {L : Nat} {xs : Nat → Int32} (hR : Rep X M h) (hX : X.2.2 = .inl (8, L, .inl xs)) (hs : X.2.1 = 61442 + 58 * X.1) (hg : GI M) (a b c : Int32) : qOneI 36 92 [.int a, .int b, .int c] h (.inl (8, L, .inl xs)) (rvI L xs) := by
  obtain ⟨N, S, Ps, l, g⟩ := hg
  have key := g36 (X := X) (x1 := a.toInt) (x2 := b.toInt) (x3 := c.toInt) g (r4_toInt a) (r4_toInt b) (r4_toInt c)
  simp only [Int32.ofInt_toInt] at key
  exact oneI hR hX hs key
theorem g65 {X : Nat × Nat × qC} {N S M : Mm} {Ps : Nat → Mm} {l : List (Bool × Sem)} {x1 x2 : Int} (h : IV N S Ps l M) (hx1 : R4 x1) (hx2 : R4 x2) : mC X 2048 65 1 [.ref 2, .int (Int32.ofInt x1), .int (Int32.ofInt x2)] M (fun v M2 => mC X 2048 157 1 [.ref 142, .int (Int32.ofInt x1), .int (Int32.ofInt x2)] M2 (fun v2 M3 => v2 = v ∧ GI M3)) :=
  mC.mono (s65 (d := 2045) (R := fun r => JJ r.1 (f157 x1 x2 r.2)) hx1 hx2 (c65 h)) (fun v M2 w => s157 (d := 2045) (R := fun r => r.1 = v ∧ GI r.2) hx1 hx2 w)
theorem a65 {X : Nat × Nat × qC} {M : Mm} {h : qH} {L : Nat} {xs : Nat → Int32} (hR : Rep X M h) (hX : X.2.2 = .inl (8, L, .inl xs)) (hs : X.2.1 = 61442 + 58 * X.1) (hg : GI M) (a b : Int32) : qOneI 65 157 [.int a, .int b] h (.inl (8, L, .inl xs)) (rvI L xs) := by
  obtain ⟨N, S, Ps, l, g⟩ := hg
  have key := g65 (X := X) (x1 := a.toInt) (x2 := b.toInt) g (r4_toInt a) (r4_toInt b)
  simp only [Int32.ofInt_toInt] at key
  exact oneI hR hX hs key
theorem g32 {X : Nat × Nat × qC} {N S M : Mm} {Ps : Nat → Mm} {l : List (Bool × Sem)} {x1 x2 : Int} (h : IV N S Ps l M) (hx1 : R4 x1) (hx2 : R4 x2) : mC X 2048 32 1 [.ref 2, .int (Int32.ofInt x1), .int (Int32.ofInt x2)] M (fun v M2 => mC X 2048 85 1 [.ref 142, .int (Int32.ofInt x1), .int (Int32.ofInt x2)] M2 (fun v2 M3 => v2 = v ∧ GI M3)) :=
  mC.mono (s32 (d := 2046) (R := fun r => JJ r.1 (f85 x1 x2 r.2)) hx1 hx2 (c32 h)) (fun v M2 w => s85 (d := 2045) (R := fun r => r.1 = v ∧ GI r.2) hx1 hx2 w)
theorem a32 {X : Nat × Nat × qC} {M : Mm} {h : qH} {L : Nat} {xs : Nat → Int32} (hR : Rep X M h) (hX : X.2.2 = .inl (8, L, .inl xs)) (hs : X.2.1 = 61442 + 58 * X.1) (hg : GI M) (a b : Int32) : qOneI 32 85 [.int a, .int b] h (.inl (8, L, .inl xs)) (rvI L xs) := by
  obtain ⟨N, S, Ps, l, g⟩ := hg
  have key := g32 (X := X) (x1 := a.toInt) (x2 := b.toInt) g (r4_toInt a) (r4_toInt b)
  simp only [Int32.ofInt_toInt] at key
  exact oneI hR hX hs key
theorem g64 {X : Nat × Nat × qC} {N S M : Mm} {Ps : Nat → Mm} {l : List (Bool × Sem)} {x1 x2 : Int} (h : IV N S Ps l M) (hx1 : R4 x1) (hx2 : R4 x2) : mC X 2048 64 1 [.ref 2, .int (Int32.ofInt x1), .int (Int32.ofInt x2)] M (fun v M2 => mC X 2048 151 1 [.ref 142, .int (Int32.ofInt x1), .int (Int32.ofInt x2)] M2 (fun v2 M3 => v2 = v ∧ GI M3)) :=
  mC.mono (s64 (d := 2044) (R := fun r => JJ r.1 (f151 x1 x2 r.2)) hx1 hx2 (c64 h)) (fun v M2 w => s151 (d := 2045) (R := fun r => r.1 = v ∧ GI r.2) hx1 hx2 w)
theorem a64 {X : Nat × Nat × qC} {M : Mm} {h : qH} {L : Nat} {xs : Nat → Int32} (hR : Rep X M h) (hX : X.2.2 = .inl (8, L, .inl xs)) (hs : X.2.1 = 61442 + 58 * X.1) (hg : GI M) (a b : Int32) : qOneI 64 151 [.int a, .int b] h (.inl (8, L, .inl xs)) (rvI L xs) := by
  obtain ⟨N, S, Ps, l, g⟩ := hg
  have key := g64 (X := X) (x1 := a.toInt) (x2 := b.toInt) g (r4_toInt a) (r4_toInt b)
  simp only [Int32.ofInt_toInt] at key
  exact oneI hR hX hs key
theorem g33 {X : Nat × Nat × qC} {N S M : Mm} {Ps : Nat → Mm} {l : List (Bool × Sem)} {x1 x2 x3 : Int} (h : IV N S Ps l M) (hx1 : R4 x1) (hx2 : R4 x2) (hx3 : R4 x3) (h2 : x2 = 0 ∨ x2 = 1) : mC X 2048 33 1 [.ref 2, .int (Int32.ofInt x1), .int (Int32.ofInt x2), .int (Int32.ofInt x3)] M (fun v M2 => mC X 2048 86 1 [.ref 142, .int (Int32.ofInt x1), .int (Int32.ofInt x2), .int (Int32.ofInt x3)] M2 (fun v2 M3 => v2 = v ∧ GI M3)) :=
  mC.mono (s33 (d := 2046) (R := fun r => JJ r.1 (f86 x1 x2 x3 r.2)) hx1 hx2 hx3 (c33 h h2)) (fun v M2 w => s86 (d := 2045) (R := fun r => r.1 = v ∧ GI r.2) hx1 hx2 hx3 w)
theorem a33 {X : Nat × Nat × qC} {M : Mm} {h : qH} {L : Nat} {xs : Nat → Int32} (hR : Rep X M h) (hX : X.2.2 = .inl (8, L, .inl xs)) (hs : X.2.1 = 61442 + 58 * X.1) (hg : GI M) (a b c : Int32) (hb : b = 0 ∨ b = 1) : qOneI 33 86 [.int a, .int b, .int c] h (.inl (8, L, .inl xs)) (rvI L xs) := by
  obtain ⟨N, S, Ps, l, g⟩ := hg
  have hb2 : b.toInt = 0 ∨ b.toInt = 1 := by rcases hb with rfl | rfl
                                             · exact Or.inl rfl
                                             · exact Or.inr rfl
  have key := g33 (X := X) (x1 := a.toInt) (x2 := b.toInt) (x3 := c.toInt) g (r4_toInt a) (r4_toInt b) (r4_toInt c) hb2
  simp only [Int32.ofInt_toInt] at key
  exact oneI hR hX hs key
theorem g30 {X : Nat × Nat × qC} {N S M : Mm} {Ps : Nat → Mm} {l : List (Bool × Sem)} {x1 : Int} (h : IV N S Ps l M) (hx1 : R4 x1) : mC X 2048 30 2 [.ref 2, .int (Int32.ofInt x1)] M (fun v M2 => mC X 2048 83 2 [.ref 142, .int (Int32.ofInt x1)] M2 (fun v2 M3 => v2 = v ∧ GI M3)) :=
  mC.mono (s30 (d := 2044) (R := fun r => JJ r.1 (f83 x1 r.2)) hx1 (c30 h)) (fun v M2 w => s83 (d := 2044) (R := fun r => r.1 = v ∧ GI r.2) hx1 w)
theorem a30 {X : Nat × Nat × qC} {M : Mm} {h : qH} {L : Nat} {xs : Nat → Int32} (hR : Rep X M h) (hX : X.2.2 = .inl (8, L, .inl xs)) (hs : X.2.1 = 61442 + 58 * X.1) (hg : GI M) (a : Int32) : qOneJ 30 83 [.int a] h (.inl (8, L, .inl xs)) (rvI L xs) := by
  obtain ⟨N, S, Ps, l, g⟩ := hg
  have key := g30 (X := X) (x1 := a.toInt) g (r4_toInt a)
  simp only [Int32.ofInt_toInt] at key
  exact oneJ hR hX hs key
theorem g39 {X : Nat × Nat × qC} {N S M : Mm} {Ps : Nat → Mm} {l : List (Bool × Sem)} {x1 x2 : Int} (h : IV N S Ps l M) (hx1 : R4 x1) (hx2 : R4 x2) : mC X 2048 39 1 [.ref 2, .int (Int32.ofInt x1), .int (Int32.ofInt x2)] M (fun v M2 => mC X 2048 97 1 [.ref 142, .int (Int32.ofInt x1), .int (Int32.ofInt x2)] M2 (fun v2 M3 => v2 = v ∧ GI M3)) :=
  mC.mono (s39 (d := 2046) (R := fun r => JJ r.1 (f97 x1 x2 r.2)) hx1 hx2 (c39 h)) (fun v M2 w => s97 (d := 2045) (R := fun r => r.1 = v ∧ GI r.2) hx1 hx2 w)
theorem a39 {X : Nat × Nat × qC} {M : Mm} {h : qH} {L : Nat} {xs : Nat → Int32} (hR : Rep X M h) (hX : X.2.2 = .inl (8, L, .inl xs)) (hs : X.2.1 = 61442 + 58 * X.1) (hg : GI M) (a b : Int32) : qOneI 39 97 [.int a, .int b] h (.inl (8, L, .inl xs)) (rvI L xs) := by
  obtain ⟨N, S, Ps, l, g⟩ := hg
  have key := g39 (X := X) (x1 := a.toInt) (x2 := b.toInt) g (r4_toInt a) (r4_toInt b)
  simp only [Int32.ofInt_toInt] at key
  exact oneI hR hX hs key
theorem g43 {X : Nat × Nat × qC} {N S M : Mm} {Ps : Nat → Mm} {l : List (Bool × Sem)} {x1 x2 x3 : Int} (h : IV N S Ps l M) (hx1 : R4 x1) (hx2 : R4 x2) (hx3 : R4 x3) : mC X 2048 43 1 [.ref 2, .int (Int32.ofInt x1), .int (Int32.ofInt x2), .int (Int32.ofInt x3)] M (fun v M2 => mC X 2048 99 1 [.ref 142, .int (Int32.ofInt x1), .int (Int32.ofInt x2), .int (Int32.ofInt x3)] M2 (fun v2 M3 => v2 = v ∧ GI M3)) :=
  mC.mono (s43 (d := 2040) (R := fun r => JJ r.1 (f99 x1 x2 x3 r.2)) hx1 hx2 hx3 (c43 h)) (fun v M2 w => s99 (d := 2040) (R := fun r => r.1 = v ∧ GI r.2) hx1 hx2 hx3 w)
theorem a43 {X : Nat × Nat × qC} {M : Mm} {h : qH} {L : Nat} {xs : Nat → Int32} (hR : Rep X M h) (hX : X.2.2 = .inl (8, L, .inl xs)) (hs : X.2.1 = 61442 + 58 * X.1) (hg : GI M) (a b c : Int32) : qOneI 43 99 [.int a, .int b, .int c] h (.inl (8, L, .inl xs)) (rvI L xs) := by
  obtain ⟨N, S, Ps, l, g⟩ := hg
  have key := g43 (X := X) (x1 := a.toInt) (x2 := b.toInt) (x3 := c.toInt) g (r4_toInt a) (r4_toInt b) (r4_toInt c)
  simp only [Int32.ofInt_toInt] at key
  exact oneI hR hX hs key
theorem g35 {X : Nat × Nat × qC} {N S M : Mm} {Ps : Nat → Mm} {l : List (Bool × Sem)} {x1 : Int} (h : IV N S Ps l M) (hx1 : R4 x1) : mC X 2048 35 1 [.ref 2, .int (Int32.ofInt x1)] M (fun v M2 => mC X 2048 90 1 [.ref 142, .int (Int32.ofInt x1)] M2 (fun v2 M3 => v2 = v ∧ GI M3)) :=
  mC.mono (s35 (d := 2045) (R := fun r => JJ r.1 (f90 x1 r.2)) hx1 (c35 h)) (fun v M2 w => s90 (d := 2046) (R := fun r => r.1 = v ∧ GI r.2) hx1 w)
theorem a35 {X : Nat × Nat × qC} {M : Mm} {h : qH} {L : Nat} {xs : Nat → Int32} (hR : Rep X M h) (hX : X.2.2 = .inl (8, L, .inl xs)) (hs : X.2.1 = 61442 + 58 * X.1) (hg : GI M) (a : Int32) : qOneI 35 90 [.int a] h (.inl (8, L, .inl xs)) (rvI L xs) := by
  obtain ⟨N, S, Ps, l, g⟩ := hg
  have key := g35 (X := X) (x1 := a.toInt) g (r4_toInt a)
  simp only [Int32.ofInt_toInt] at key
  exact oneI hR hX hs key
theorem g42 {X : Nat × Nat × qC} {N S M : Mm} {Ps : Nat → Mm} {l : List (Bool × Sem)} {x1 : Int} (h : IV N S Ps l M) (hx1 : R4 x1) : mC X 2048 42 1 [.ref 2, .int (Int32.ofInt x1)] M (fun v M2 => mC X 2048 98 1 [.ref 142, .int (Int32.ofInt x1)] M2 (fun v2 M3 => v2 = v ∧ GI M3)) :=
  mC.mono (s42 (d := 2046) hx1 (c42 h hx1)) (fun v M2 w => by
    obtain ⟨e, w⟩ := w
    subst e
    exact mC.mono (s98 (d := 2046) (R := fun v2 => v2 = v) hx1 w) (fun v2 M3 w2 => ⟨w2.2, w2.1 ▸ h.G⟩))
theorem a42 {X : Nat × Nat × qC} {M : Mm} {h : qH} {L : Nat} {xs : Nat → Int32} (hR : Rep X M h) (hX : X.2.2 = .inl (8, L, .inl xs)) (hs : X.2.1 = 61442 + 58 * X.1) (hg : GI M) (a : Int32) : qOneI 42 98 [.int a] h (.inl (8, L, .inl xs)) (rvI L xs) := by
  obtain ⟨N, S, Ps, l, g⟩ := hg
  have key := g42 (X := X) (x1 := a.toInt) g (r4_toInt a)
  simp only [Int32.ofInt_toInt] at key
  exact oneI hR hX hs key

/-! goes: a new State. -/
theorem new242 {d : Nat} {h : qH} (hd : 0 < d) : ∃ h2, qE d 242 0 [some (.ref h.1)] [] (qnew h 8 (.inr (8, [.int 0, .int 0, .int 0, .int 0, .null, .null, .null, .null]))) (none, h2) ∧ h2.1 = h.1 + 5 ∧ h2.2.1 = h.2.1 + 58 ∧ h2.2.2 h.1 = some (.inr (8, [.int 0, .int 0, .int 0, .int 0, .ref (h.1 + 1), .ref (h.1 + 2), .ref (h.1 + 3), .ref (h.1 + 4)])) ∧ h2.2.2 (h.1 + 1) = some (.inl (0, 8, .inl fun _ => 0)) ∧
    h2.2.2 (h.1 + 2) = some (.inl (0, 14, .inl fun _ => 0)) ∧ h2.2.2 (h.1 + 3) = some (.inl (0, 14, .inl fun _ => 0)) ∧ h2.2.2 (h.1 + 4) = some (.inl (0, 14, .inl fun _ => 0)) ∧ ∀ a, a < h.1 → h2.2.2 a = h.2.2 a := by
  refine ⟨_, b242_0 (fs2 := [.int 0, .int 0, .int 0, .int 0, .null, .null, .null, .null]) (fs7 := [.int 0, .int 0, .int 0, .int 0, .ref (h.1 + 1), .null, .null, .null]) (fs12 := [.int 0, .int 0, .int 0, .int 0, .ref (h.1 + 1), .ref (h.1 + 2), .null, .null]) (fs17 := [.int 0, .int 0, .int 0, .int 0, .ref (h.1 + 1), .ref (h.1 + 2), .ref (h.1 + 3), .null]) hd rfl ?_ (Nat.le_of_ble_eq_true rfl) rfl rfl ?_ (Nat.le_of_ble_eq_true rfl) rfl rfl ?_ (Nat.le_of_ble_eq_true rfl) rfl rfl ?_ (Nat.le_of_ble_eq_true rfl) rfl, ?_, ?_, ?_, ?_, ?_, ?_, ?_, fun a ha => ?_⟩
  · show (if h.1 = h.1 + 1 then _ else if h.1 = h.1 then _ else _) = _
    rw [if_neg (by omega), if_pos rfl]
  · show (if h.1 = h.1 + 1 + 1 then _ else if h.1 = h.1 then _ else _) = _
    rw [if_neg (by omega), if_pos rfl]
    rfl
  · show (if h.1 = h.1 + 1 + 1 + 1 then _ else if h.1 = h.1 then _ else _) = _
    rw [if_neg (by omega), if_pos rfl]
    rfl
  · show (if h.1 = h.1 + 1 + 1 + 1 + 1 then _ else if h.1 = h.1 then _ else _) = _
    rw [if_neg (by omega), if_pos rfl]
    rfl
  · rfl
  · rfl
  · show (if h.1 = h.1 then _ else _) = _
    rw [if_pos rfl]
    rfl
  · show (if h.1 + 1 = h.1 then _ else if h.1 + 1 = h.1 + 1 + 1 + 1 + 1 then _ else if h.1 + 1 = h.1 then _ else if h.1 + 1 = h.1 + 1 + 1 + 1 then _ else if h.1 + 1 = h.1 then _ else if h.1 + 1 = h.1 + 1 + 1 then _ else if h.1 + 1 = h.1 then _ else if h.1 + 1 = h.1 + 1 then _ else _) = _
    rw [if_neg (by omega), if_neg (by omega), if_neg (by omega), if_neg (by omega), if_neg (by omega), if_neg (by omega), if_neg (by omega), if_pos rfl]
  · show (if h.1 + 2 = h.1 then _ else if h.1 + 2 = h.1 + 1 + 1 + 1 + 1 then _ else if h.1 + 2 = h.1 then _ else if h.1 + 2 = h.1 + 1 + 1 + 1 then _ else if h.1 + 2 = h.1 then _ else if h.1 + 2 = h.1 + 1 + 1 then _ else _) = _
    rw [if_neg (by omega), if_neg (by omega), if_neg (by omega), if_neg (by omega), if_neg (by omega), if_pos (by omega)]
  · show (if h.1 + 3 = h.1 then _ else if h.1 + 3 = h.1 + 1 + 1 + 1 + 1 then _ else if h.1 + 3 = h.1 then _ else if h.1 + 3 = h.1 + 1 + 1 + 1 then _ else _) = _
    rw [if_neg (by omega), if_neg (by omega), if_neg (by omega), if_pos (by omega)]
  · show (if h.1 + 4 = h.1 then _ else if h.1 + 4 = h.1 + 1 + 1 + 1 + 1 then _ else _) = _
    rw [if_neg (by omega), if_pos (by omega)]
  · show (if a = h.1 then _ else if a = h.1 + 1 + 1 + 1 + 1 then _ else if a = h.1 then _ else if a = h.1 + 1 + 1 + 1 then _ else if a = h.1 then _ else if a = h.1 + 1 + 1 then _ else if a = h.1 then _ else if a = h.1 + 1 then _ else if a = h.1 then _ else h.2.2 a) = _
    rw [if_neg (by omega), if_neg (by omega), if_neg (by omega), if_neg (by omega), if_neg (by omega), if_neg (by omega), if_neg (by omega), if_neg (by omega), if_neg (by omega)]
theorem mflds_cg {M M2 : Mm} {a : Nat} (e : M2 a = M a) : ∀ (rs : List Nat) (j : Nat), mflds M2 a j rs = mflds M a j rs
  | [], _ => rfl
  | r :: rs, j => by
    rw [mflds, mflds, mflds_cg e rs]
    unfold mfld
    rw [e]
theorem mcellD_cg {M M2 : Mm} {a : Nat} {D : Nat × Nat × Nat × List Nat} (e : M2 a = M a) : mcellD M2 a D = mcellD M a D := by
  obtain ⟨t, k, n, rs⟩ := D
  unfold mcellD
  rw [e]
  split
  any_goals rfl
  rw [mflds_cg e]
/-- the memory with one State more -/
def newM (n : Nat) (M : Mm) : Mm := fun b j => if b = 0 ∧ j = 0 then (n : Int) + 1 else if 200 + 5 * n ≤ b then 0 else M b j
theorem newM_o {n b : Nat} {M : Mm} (h0 : b ≠ 0) (h1 : b < 200 + 5 * n) : newM n M b = M b := funext fun j => by
  unfold newM
  rw [if_neg (fun z => h0 z.1), if_neg (by omega)]
theorem newM_n {n b j : Nat} {M : Mm} (h1 : 200 + 5 * n ≤ b) : newM n M b j = 0 := by
  unfold newM
  rw [if_neg (by omega), if_pos h1]
theorem rep_new {X : Nat × Nat × qC} {M : Mm} {h h2 : qH} (hR : Rep X M h) (hb : X.1 ≤ 499) (e1 : h2.1 = h.1 + 5) (e2 : h2.2.1 = h.2.1 + 58) (e3 : h2.2.2 h.1 = some (.inr (8, [.int 0, .int 0, .int 0, .int 0, .ref (h.1 + 1), .ref (h.1 + 2), .ref (h.1 + 3), .ref (h.1 + 4)]))) (e4 : h2.2.2 (h.1 + 1) = some (.inl (0, 8, .inl fun _ => 0)))
    (e5 : h2.2.2 (h.1 + 2) = some (.inl (0, 14, .inl fun _ => 0))) (e6 : h2.2.2 (h.1 + 3) = some (.inl (0, 14, .inl fun _ => 0))) (e7 : h2.2.2 (h.1 + 4) = some (.inl (0, 14, .inl fun _ => 0))) (e8 : ∀ a, a < h.1 → h2.2.2 a = h.2.2 a) : Rep (X.1 + 1, X.2.1 + 58, X.2.2) (newM X.1 M) h2 := by
  have hn := hR.num
  refine ⟨?_, ?_, ?_, ?_, ?_, fun a q1 q2 => ?_, fun a i => ?_, fun a i q => ?_⟩
  · rw [e1, hn]
    show _ = 200 + 5 * (X.1 + 1)
    omega
  · rw [e2, hR.slots]
  · rw [e8 0 (by omega)]
    exact hR.scr
  · rw [e8 1 (by omega)]
    exact hR.signs
  · show newM X.1 M 0 0 = ((X.1 + 1 : Nat) : Int)
    unfold newM
    rw [if_pos ⟨rfl, rfl⟩]
    omega
  · by_cases c : a < h.1
    · rw [e8 a c, mcellD_cg (newM_o (by omega) (by omega))]
      exact hR.cell a q1 (by omega)
    · have q2' : a < 200 + 5 * (X.1 + 1) := q2
      have hz : ∀ j, newM X.1 M a j = 0 := fun j => newM_n (by omega)
      have arr : ∀ n, lay a = (0, 0, n, []) → mcellD (newM X.1 M) a (lay a) = .inl (0, n, .inl fun _ => 0) := fun n hl => by
        rw [hl]
        show Sum.inl (0, n, Sum.inl (fun i => Int32.ofInt (newM X.1 M a i))) = _
        simp only [hz]
        rfl
      have hl : a = h.1 ∨ a = h.1 + 1 ∨ a = h.1 + 2 ∨ a = h.1 + 3 ∨ a = h.1 + 4 := by omega
      rcases hl with e | e | e | e | e
      · have hl : lay a = (5, 8, 0, [0, 0, 0, 0, a + 1, a + 2, a + 3, a + 4]) := by
          unfold lay
          rw [if_neg (by omega), if_pos (by omega)]
        rw [e, e3, ← e, hl]
        show _ = some (Sum.inr (8, mflds (newM X.1 M) a 0 [0, 0, 0, 0, a + 1, a + 2, a + 3, a + 4]))
        have m0 : ∀ j, mfld (newM X.1 M) a j 0 = .int 0 := fun j => by
          unfold mfld
          rw [if_pos rfl, hz]
          rfl
        have mr : ∀ j r, 3 ≤ r → mfld (newM X.1 M) a j r = .ref r := fun j r hr => by
          unfold mfld
          rw [if_neg (by omega), if_neg (by omega)]
        simp only [mflds]
        rw [m0, m0, m0, m0, mr _ _ (by omega), mr _ _ (by omega), mr _ _ (by omega), mr _ _ (by omega)]
      · rw [arr 8 (by unfold lay; rw [if_neg (by omega), if_neg (by omega), if_pos (by omega)]), e]
        exact e4
      · rw [arr 14 (by unfold lay; rw [if_neg (by omega), if_neg (by omega), if_neg (by omega)]), e]
        exact e5
      · rw [arr 14 (by unfold lay; rw [if_neg (by omega), if_neg (by omega), if_neg (by omega)]), e]
        exact e6
      · rw [arr 14 (by unfold lay; rw [if_neg (by omega), if_neg (by omega), if_neg (by omega)]), e]
        exact e7
  · unfold newM
    split
    · exact ⟨by omega, by omega⟩
    · split
      · exact ⟨by omega, by omega⟩
      · exact hR.r8 a i
  · unfold newM
    split
    · exact ⟨by omega, by omega⟩
    · split
      · exact ⟨by omega, by omega⟩
      · exact hR.r4 a i q
theorem a51 {X : Nat × Nat × qC} {M : Mm} {h : qH} {L : Nat} {xs : Nat → Int32} (hR : Rep X M h) (hX : X.2.2 = .inl (8, L, .inl xs)) (hs : X.2.1 = 61442 + 58 * X.1) (hg : GI M) : qOneI 51 113 [] h (.inl (8, L, .inl xs)) (rvI L xs) := by
  obtain ⟨N, S, Ps, l, g⟩ := hg
  have hnw := g.nw
  have hn0 : X.1 = nwS S := by
    have a1 := hR.n0
    have a2 := g.now.2.2
    omega
  have e24 := g.now.1
  have c2 := cell2 hR
  have c24 := cell24 hR
  have y7 : (mflds M 24 0 [0, 0, 0, 0, 25, 26, 27, 28])[0]? = some (.int (Int32.ofInt (M 24 0))) := rfl
  obtain ⟨z, Mz, hz, q80, Rz, _, ez, vz⟩ := s80 (X := X) (d := 2046) (x0 := M 24 0) (x1 := 0) (x2 := 498) (M := M) (R := fun v => v = if 0 ≤ M 24 0 ∧ M 24 0 ≤ 498 then 1 else 0) ⟨by omega, by omega⟩ (r4_n rfl) (r4_n rfl) (w80 rfl) h hR
  subst ez
  by_cases hn : nwS S ≤ 498
  · rw [if_pos (by omega)] at vz
    subst vz
    obtain ⟨h2, q242, b1, b2, b3, b4, b5, b6, b7, b8⟩ := new242 (d := 2046) (h := hz) (by decide)
    have R2 := rep_new Rz (by omega) b1 b2 b3 b4 b5 b6 b7 b8
    have hz1 : hz.1 = 200 + 5 * nwS S := by rw [Rz.num, hn0]
    have key := t51_29 (X := (X.1 + 1, X.2.1 + 58, X.2.2)) (d := 2041) (x1 := (nwS S : Int)) (r2 := 200 + 5 * nwS S) (M := newM X.1 M) (R := fun r => JJ r.1 (f113 r.2)) ⟨by omega, by omega⟩ (by show isSt (X.1 + 1) _; unfold isSt; omega) (c51 g hn (fun b q1 q2 => newM_o q1 (by omega)) (by unfold newM; rw [if_pos ⟨rfl, rfl⟩, hn0]))
    obtain ⟨v, M3, h3, qe3, R3, _, v3⟩ := key h2 R2
    obtain ⟨w, M4, h4, qc4, R4', _, w1, w2⟩ := s113 (X := (X.1 + 1, X.2.1 + 58, X.2.2)) (d := 2041) (R := fun r => r.1 = v ∧ GI r.2) v3 h3 R3
    obtain ⟨fs, e⟩ := cell142 R3
    have w1' : w = v := w1
    subst w1'
    refine ⟨Int32.ofInt w, h3, h4, fs, ⟨2047, _, rfl, qent_mk qx51 rfl rfl rfl, ?_⟩, by rw [R3.scr]; exact congrArg some hX, e, qc4, (X.1 + 1, X.2.1 + 58, X.2.2), M4, R4', w2, hX, by show X.2.1 + 58 = 61442 + 58 * (X.1 + 1); omega⟩
    refine b51_0T (fs1 := mflds M 2 0 [3, 24, 29, 30, 31, 49, 73, 98, 102, 112, 125, 132, 134, 2]) (y3 := 24) (fs5 := mflds M 24 0 [0, 0, 0, 0, 25, 26, 27, 28]) (y7 := Int32.ofInt (M 24 0)) (z9 := Int32.ofInt 1) c2 rfl c24 y7 q80 (by decide) ?_
    refine qe_new (fs := [.int 0, .int 0, .int 0, .int 0, .null, .null, .null, .null]) (N := 8) c51_21 qo51 qN11_16 (by decide +kernel) (by decide +kernel) ?_
    refine qe_dup c51_24 rfl ?_
    refine qe_special (b := hz.1) (as := []) (r := [.ref hz.1]) (v := none) (h2 := h2) c51_25 qo51 (by decide +kernel) qK11_18 rfl ⟨rfl, Or.inr rfl⟩ rfl (Nat.le_of_ble_eq_true rfl) ⟨2046, _, rfl, qent_mk qx242 rfl rfl rfl, q242⟩ ?_
    refine qe_astore_n (ls2 := [some (.ref 2), some (.int (Int32.ofInt (M 24 0))), some (.ref hz.1)]) c51_28 (Nat.le_of_ble_eq_true rfl) rfl ?_
    rw [hz1, e24]
    exact qe3
  · rw [if_neg (by omega)] at vz
    subst vz
    obtain ⟨w, M4, h4, qc4, R4', _, w1, w2⟩ := s113 (X := X) (d := 2041) (R := fun r => r.1 = -1 ∧ GI r.2) (c51x g hn) hz Rz
    obtain ⟨fs, e⟩ := cell142 Rz
    have w1' : w = -1 := w1
    subst w1'
    refine ⟨Int32.ofInt (-1), hz, h4, fs, ⟨2047, _, rfl, qent_mk qx51 rfl rfl rfl, ?_⟩, by rw [Rz.scr, hX], e, qc4, X, M4, R4', w2, hX, hs⟩
    exact b51_0F (fs1 := mflds M 2 0 [3, 24, 29, 30, 31, 49, 73, 98, 102, 112, 125, 132, 134, 2]) (y3 := 24) (fs5 := mflds M 24 0 [0, 0, 0, 0, 25, 26, 27, 28]) (y7 := Int32.ofInt (M 24 0)) (z9 := Int32.ofInt 0) c2 rfl c24 y7 q80 (by decide) b51_19
theorem all36 {X : Nat × Nat × qC} {M : Mm} {h : qH} {L : Nat} {xs : Nat → Int32} (hR : Rep X M h) (hX : X.2.2 = .inl (8, L, .inl xs)) (hs : X.2.1 = 61442 + 58 * X.1) (hg : GI M) : qAll h (.inl (8, L, .inl xs)) (rvI L xs) :=
  ⟨(fun a b c => a71 hR hX hs hg a b c), (fun a b c d e => a77 hR hX hs hg a b c d e), (fun a b c => a81 hR hX hs hg a b c), (fun a b => a75 hR hX hs hg a b), (fun a => a38 hR hX hs hg a), (fun a b hb => a76 hR hX hs hg a b hb), (fun a b hb => a67 hR hX hs hg a b hb), (fun a b hb => a68 hR hX hs hg a b hb), (fun a b => a62 hR hX hs hg a b), (fun a => a63 hR hX hs hg a), (fun a b c d e => a46 hR hX hs hg a b c d e), (fun a => a66 hR hX hs hg a), a51 hR hX hs hg, (fun a => a50 hR hX hs hg a), (fun a b => a78 hR hX hs hg a b), (fun a b => a82 hR hX hs hg a b), (fun a b => a72 hR hX hs hg a b), (fun a b => a45 hR hX hs hg a b), (fun a => a31 hR hX hs hg a), a48 hR hX hs hg, (fun a b hb => a74 hR hX hs hg a b hb), (fun a b c => a69 hR hX hs hg a b c), (fun a => a70 hR hX hs hg a), (fun a b c => a53 hR hX hs hg a b c), (fun a b => a59 hR hX hs hg a b), (fun a b => a60 hR hX hs hg a b), (fun a b c => a36 hR hX hs hg a b c), (fun a b => a65 hR hX hs hg a b), (fun a b => a32 hR hX hs hg a b), (fun a b => a64 hR hX hs hg a b), (fun a b c hb => a33 hR hX hs hg a b c hb), (fun a => a30 hR hX hs hg a), (fun a b => a39 hR hX hs hg a b), (fun a b c => a43 hR hX hs hg a b c), (fun a => a35 hR hX hs hg a), (fun a => a42 hR hX hs hg a)⟩
