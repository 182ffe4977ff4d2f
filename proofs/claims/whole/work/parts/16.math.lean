/-! The four of Math, run by their own bytes. -/
section QX
variable {n d k pc pc2 z : Nat} {i : Instr} {ls ls2 : qL} {st st2 : List Value} {h h2 : qH} {v : Option Value}
theorem qX1 (h1 : qcd k pc = some (i, z)) (hs : qStep d k pc ls st h i = some (.inl (pc2, ls2, st2, h2))) : qExec (n + 1) d k pc ls st h = qExec n d k pc2 ls2 st2 h2 := by
  rw [qExec, h1]
  dsimp only
  rw [hs]
theorem qX2 (h1 : qcd k pc = some (i, z)) (hs : qStep d k pc ls st h i = some (.inr (.inl v))) : qExec (n + 1) d k pc ls st h = some (v, h) := by
  rw [qExec, h1]
  dsimp only
  rw [hs]
theorem qX0 (h1 : qcd k pc = some (i, z)) (hs : qStep d k pc ls st h i = none) : qExec n d k pc ls st h = none := by
  cases n with
  | zero => rfl
  | succ n =>
    rw [qExec, h1]
    dsimp only
    rw [hs]
end QX
theorem qt4_mx : qmx 4 = 2 := by decide +kernel
theorem qt4_rt : qrt 4 = (some .long) := by decide +kernel
theorem qt4_0 : qcd 4 0 = some (.lload_n 0, 1) := by decide +kernel
theorem qt4_1 : qcd 4 1 = some (.lconst 0, 1) := by decide +kernel
theorem qt4_2 : qcd 4 2 = some (.lcmp, 1) := by decide +kernel
theorem qt4_3 : qcd 4 3 = some (.ifCond .ge 8, 3) := by decide +kernel
theorem qt4_6 : qcd 4 6 = some (.lload_n 0, 1) := by decide +kernel
theorem qt4_7 : qcd 4 7 = some (.lneg, 1) := by decide +kernel
theorem qt4_8 : qcd 4 8 = some (.goto 4, 3) := by decide +kernel
theorem qt4_11 : qcd 4 11 = some (.lload_n 0, 1) := by decide +kernel
theorem qt4_12 : qcd 4 12 = some (.lreturn, 1) := by decide +kernel
theorem qt5_mx : qmx 5 = 4 := by decide +kernel
theorem qt5_rt : qrt 5 = (some .long) := by decide +kernel
theorem qt5_0 : qcd 5 0 = some (.lload_n 0, 1) := by decide +kernel
theorem qt5_1 : qcd 5 1 = some (.lload_n 2, 1) := by decide +kernel
theorem qt5_2 : qcd 5 2 = some (.lcmp, 1) := by decide +kernel
theorem qt5_3 : qcd 5 3 = some (.ifCond .lt 7, 3) := by decide +kernel
theorem qt5_6 : qcd 5 6 = some (.lload_n 0, 1) := by decide +kernel
theorem qt5_7 : qcd 5 7 = some (.goto 4, 3) := by decide +kernel
theorem qt5_10 : qcd 5 10 = some (.lload_n 2, 1) := by decide +kernel
theorem qt5_11 : qcd 5 11 = some (.lreturn, 1) := by decide +kernel
theorem qt6_mx : qmx 6 = 2 := by decide +kernel
theorem qt6_rt : qrt 6 = (some .int) := by decide +kernel
theorem qt6_0 : qcd 6 0 = some (.iload_n 0, 1) := by decide +kernel
theorem qt6_1 : qcd 6 1 = some (.iload_n 1, 1) := by decide +kernel
theorem qt6_2 : qcd 6 2 = some (.if_icmp .gt 7, 3) := by decide +kernel
theorem qt6_5 : qcd 6 5 = some (.iload_n 0, 1) := by decide +kernel
theorem qt6_6 : qcd 6 6 = some (.goto 4, 3) := by decide +kernel
theorem qt6_9 : qcd 6 9 = some (.iload_n 1, 1) := by decide +kernel
theorem qt6_10 : qcd 6 10 = some (.ireturn, 1) := by decide +kernel
theorem qt7_mx : qmx 7 = 4 := by decide +kernel
theorem qt7_rt : qrt 7 = (some .long) := by decide +kernel
theorem qt7_0 : qcd 7 0 = some (.lload_n 0, 1) := by decide +kernel
theorem qt7_1 : qcd 7 1 = some (.lload_n 2, 1) := by decide +kernel
theorem qt7_2 : qcd 7 2 = some (.lcmp, 1) := by decide +kernel
theorem qt7_3 : qcd 7 3 = some (.ifCond .gt 7, 3) := by decide +kernel
theorem qt7_6 : qcd 7 6 = some (.lload_n 0, 1) := by decide +kernel
theorem qt7_7 : qcd 7 7 = some (.goto 4, 3) := by decide +kernel
theorem qt7_10 : qcd 7 10 = some (.lload_n 2, 1) := by decide +kernel
theorem qt7_11 : qcd 7 11 = some (.lreturn, 1) := by decide +kernel
theorem qrun_6 {n d : Nat} {h : qH} (x y : Int32) : qExec (n + 12) d 6 0 [some (.int x), some (.int y)] [] h = some (some (.int (if y < x then y else x)), h) := by
  by_cases hc : y < x
  · rw [if_pos hc]
    refine (qX1 qt6_0 (pc2 := 1) (ls2 := [some (.int x), some (.int y)]) (st2 := [.int x]) (h2 := h) rfl).trans ?_
    refine (qX1 qt6_1 (pc2 := 2) (ls2 := [some (.int x), some (.int y)]) (st2 := [.int y, .int x]) (h2 := h) rfl).trans ?_
    refine (qX1 qt6_2 (pc2 := 9) (ls2 := [some (.int x), some (.int y)]) (st2 := []) (h2 := h) (by show (if y < x then _ else _) = _; exact if_pos hc)).trans ?_
    refine (qX1 qt6_9 (pc2 := 10) (ls2 := [some (.int x), some (.int y)]) (st2 := [.int y]) (h2 := h) rfl).trans ?_
    exact qX2 qt6_10 (by unfold qStep qend; rw [qt6_rt])
  · rw [if_neg hc]
    refine (qX1 qt6_0 (pc2 := 1) (ls2 := [some (.int x), some (.int y)]) (st2 := [.int x]) (h2 := h) rfl).trans ?_
    refine (qX1 qt6_1 (pc2 := 2) (ls2 := [some (.int x), some (.int y)]) (st2 := [.int y, .int x]) (h2 := h) rfl).trans ?_
    refine (qX1 qt6_2 (pc2 := 5) (ls2 := [some (.int x), some (.int y)]) (st2 := []) (h2 := h) (by show (if y < x then _ else _) = _; exact if_neg hc)).trans ?_
    refine (qX1 qt6_5 (pc2 := 6) (ls2 := [some (.int x), some (.int y)]) (st2 := [.int x]) (h2 := h) rfl).trans ?_
    refine (qX1 qt6_6 (pc2 := 10) (ls2 := [some (.int x), some (.int y)]) (st2 := [.int x]) (h2 := h) rfl).trans ?_
    exact qX2 qt6_10 (by unfold qStep qend; rw [qt6_rt])

theorem qrun_7 {n d : Nat} {h : qH} (x y : Int64) : qExec (n + 12) d 7 0 [some (.long x), none, some (.long y), none] [] h = some (some (.long (if y < x then y else x)), h) := by
  by_cases hc : 0 < lg_cmp x y
  · rw [if_pos ((lg_cmp_gt x y).mp hc)]
    refine (qX1 qt7_0 (pc2 := 1) (ls2 := [some (.long x), none, some (.long y), none]) (st2 := [.long x]) (h2 := h) rfl).trans ?_
    refine (qX1 qt7_1 (pc2 := 2) (ls2 := [some (.long x), none, some (.long y), none]) (st2 := [.long y, .long x]) (h2 := h) rfl).trans ?_
    refine (qX1 qt7_2 (pc2 := 3) (ls2 := [some (.long x), none, some (.long y), none]) (st2 := [.int (lg_cmp x y)]) (h2 := h) rfl).trans ?_
    refine (qX1 qt7_3 (pc2 := 10) (ls2 := [some (.long x), none, some (.long y), none]) (st2 := []) (h2 := h) (by show (if 0 < lg_cmp x y then _ else _) = _; exact if_pos hc)).trans ?_
    refine (qX1 qt7_10 (pc2 := 11) (ls2 := [some (.long x), none, some (.long y), none]) (st2 := [.long y]) (h2 := h) rfl).trans ?_
    exact qX2 qt7_11 (by unfold qStep qendL; rw [qt7_rt])
  · rw [if_neg (fun q => hc ((lg_cmp_gt x y).mpr q))]
    refine (qX1 qt7_0 (pc2 := 1) (ls2 := [some (.long x), none, some (.long y), none]) (st2 := [.long x]) (h2 := h) rfl).trans ?_
    refine (qX1 qt7_1 (pc2 := 2) (ls2 := [some (.long x), none, some (.long y), none]) (st2 := [.long y, .long x]) (h2 := h) rfl).trans ?_
    refine (qX1 qt7_2 (pc2 := 3) (ls2 := [some (.long x), none, some (.long y), none]) (st2 := [.int (lg_cmp x y)]) (h2 := h) rfl).trans ?_
    refine (qX1 qt7_3 (pc2 := 6) (ls2 := [some (.long x), none, some (.long y), none]) (st2 := []) (h2 := h) (by show (if 0 < lg_cmp x y then _ else _) = _; exact if_neg hc)).trans ?_
    refine (qX1 qt7_6 (pc2 := 7) (ls2 := [some (.long x), none, some (.long y), none]) (st2 := [.long x]) (h2 := h) rfl).trans ?_
    refine (qX1 qt7_7 (pc2 := 11) (ls2 := [some (.long x), none, some (.long y), none]) (st2 := [.long x]) (h2 := h) rfl).trans ?_
    exact qX2 qt7_11 (by unfold qStep qendL; rw [qt7_rt])

theorem qrun_5 {n d : Nat} {h : qH} (x y : Int64) : qExec (n + 12) d 5 0 [some (.long x), none, some (.long y), none] [] h = some (some (.long (if y < x then x else y)), h) := by
  by_cases hc : lg_cmp x y < 0
  · rw [if_neg (fun q => by have h9 := (lg_cmp_lt x y).mp hc; rw [Int64.lt_iff_toInt_lt] at h9 q; omega)]
    refine (qX1 qt5_0 (pc2 := 1) (ls2 := [some (.long x), none, some (.long y), none]) (st2 := [.long x]) (h2 := h) rfl).trans ?_
    refine (qX1 qt5_1 (pc2 := 2) (ls2 := [some (.long x), none, some (.long y), none]) (st2 := [.long y, .long x]) (h2 := h) rfl).trans ?_
    refine (qX1 qt5_2 (pc2 := 3) (ls2 := [some (.long x), none, some (.long y), none]) (st2 := [.int (lg_cmp x y)]) (h2 := h) rfl).trans ?_
    refine (qX1 qt5_3 (pc2 := 10) (ls2 := [some (.long x), none, some (.long y), none]) (st2 := []) (h2 := h) (by show (if lg_cmp x y < 0 then _ else _) = _; exact if_pos hc)).trans ?_
    refine (qX1 qt5_10 (pc2 := 11) (ls2 := [some (.long x), none, some (.long y), none]) (st2 := [.long y]) (h2 := h) rfl).trans ?_
    exact qX2 qt5_11 (by unfold qStep qendL; rw [qt5_rt])
  · have e9 : (if y < x then x else y) = x := by
      by_cases h9 : y < x
      · rw [if_pos h9]
      · rw [if_neg h9]
        have h8 : ¬ x < y := fun q => hc ((lg_cmp_lt x y).mpr q)
        rw [Int64.lt_iff_toInt_lt] at h8 h9
        exact Int64.toInt_inj.mp (by omega)
    rw [e9]
    refine (qX1 qt5_0 (pc2 := 1) (ls2 := [some (.long x), none, some (.long y), none]) (st2 := [.long x]) (h2 := h) rfl).trans ?_
    refine (qX1 qt5_1 (pc2 := 2) (ls2 := [some (.long x), none, some (.long y), none]) (st2 := [.long y, .long x]) (h2 := h) rfl).trans ?_
    refine (qX1 qt5_2 (pc2 := 3) (ls2 := [some (.long x), none, some (.long y), none]) (st2 := [.int (lg_cmp x y)]) (h2 := h) rfl).trans ?_
    refine (qX1 qt5_3 (pc2 := 6) (ls2 := [some (.long x), none, some (.long y), none]) (st2 := []) (h2 := h) (by show (if lg_cmp x y < 0 then _ else _) = _; exact if_neg hc)).trans ?_
    refine (qX1 qt5_6 (pc2 := 7) (ls2 := [some (.long x), none, some (.long y), none]) (st2 := [.long x]) (h2 := h) rfl).trans ?_
    refine (qX1 qt5_7 (pc2 := 11) (ls2 := [some (.long x), none, some (.long y), none]) (st2 := [.long x]) (h2 := h) rfl).trans ?_
    exact qX2 qt5_11 (by unfold qStep qendL; rw [qt5_rt])

theorem qrun_4 {n d : Nat} {h : qH} (x : Int64) : qExec (n + 12) d 4 0 [some (.long x), none] [] h = some (some (.long (if 0 < x then x else -x)), h) := by
  by_cases hc : 0 ≤ lg_cmp x 0
  · have e9 : (if 0 < x then x else -x) = x := by
      by_cases h9 : 0 < x
      · rw [if_pos h9]
      · rw [if_neg h9]
        have h8 := (lg_cmp_ge x 0).mp hc
        rw [Int64.le_iff_toInt_le] at h8
        rw [Int64.lt_iff_toInt_lt] at h9
        have h7 : x = 0 := Int64.toInt_inj.mp (by omega)
        rw [h7]
        rfl
    rw [e9]
    refine (qX1 qt4_0 (pc2 := 1) (ls2 := [some (.long x), none]) (st2 := [.long x]) (h2 := h) rfl).trans ?_
    refine (qX1 qt4_1 (pc2 := 2) (ls2 := [some (.long x), none]) (st2 := [.long 0, .long x]) (h2 := h) rfl).trans ?_
    refine (qX1 qt4_2 (pc2 := 3) (ls2 := [some (.long x), none]) (st2 := [.int (lg_cmp x 0)]) (h2 := h) rfl).trans ?_
    refine (qX1 qt4_3 (pc2 := 11) (ls2 := [some (.long x), none]) (st2 := []) (h2 := h) (by show (if 0 ≤ lg_cmp x 0 then _ else _) = _; exact if_pos hc)).trans ?_
    refine (qX1 qt4_11 (pc2 := 12) (ls2 := [some (.long x), none]) (st2 := [.long x]) (h2 := h) rfl).trans ?_
    exact qX2 qt4_12 (by unfold qStep qendL; rw [qt4_rt])
  · rw [if_neg (fun q => hc ((lg_cmp_ge x 0).mpr (by rw [Int64.lt_iff_toInt_lt] at q; rw [Int64.le_iff_toInt_le]; omega)))]
    refine (qX1 qt4_0 (pc2 := 1) (ls2 := [some (.long x), none]) (st2 := [.long x]) (h2 := h) rfl).trans ?_
    refine (qX1 qt4_1 (pc2 := 2) (ls2 := [some (.long x), none]) (st2 := [.long 0, .long x]) (h2 := h) rfl).trans ?_
    refine (qX1 qt4_2 (pc2 := 3) (ls2 := [some (.long x), none]) (st2 := [.int (lg_cmp x 0)]) (h2 := h) rfl).trans ?_
    refine (qX1 qt4_3 (pc2 := 6) (ls2 := [some (.long x), none]) (st2 := []) (h2 := h) (by show (if 0 ≤ lg_cmp x 0 then _ else _) = _; exact if_neg hc)).trans ?_
    refine (qX1 qt4_6 (pc2 := 7) (ls2 := [some (.long x), none]) (st2 := [.long x]) (h2 := h) rfl).trans ?_
    refine (qX1 qt4_7 (pc2 := 8) (ls2 := [some (.long x), none]) (st2 := [.long (-x)]) (h2 := h) rfl).trans ?_
    refine (qX1 qt4_8 (pc2 := 12) (ls2 := [some (.long x), none]) (st2 := [.long (-x)]) (h2 := h) rfl).trans ?_
    exact qX2 qt4_12 (by unfold qStep qendL; rw [qt4_rt])

theorem qmath_4 {n d : Nat} {a : Value} {l2 : qL} {h h2 : qH} {v : Option Value} (hent : qent 4 [a] = some l2) (hex : qExec n d 4 0 l2 [] h = some (v, h2)) : ∃ x : Int64, a = .long x ∧ v = some (.long (if 0 < x then x else -x)) ∧ h2 = h := by
  have hl : ∀ l9 : qL, qent 4 [a] = some l9 → l9 = ([a] : List Value).flatMap (fun v => if v.category = 2 then [some v, none] else [some v]) ++ List.replicate (2 - (([a] : List Value).flatMap (fun v => if v.category = 2 then [some v, (none : Option Value)] else [some v])).length) none := by
    intro l9 h9
    unfold qent at h9
    rw [qt4_mx] at h9
    dsimp only at h9
    split at h9
    · cases h9
      rfl
    · cases h9
  have hl2 := hl l2 hent
  subst hl2
  cases a with
  | int x => exact absurd (hex.symm.trans (qX0 qt4_0 rfl)) (by intro q; cases q)
  | long x =>
    have := qfuelA 12 _ _ _ _ _ _ _ _ hex
    have e := this.symm.trans (qrun_4 x)
    cases e
    exact ⟨x, rfl, rfl, rfl⟩
  | float x => exact absurd (hex.symm.trans (qX0 qt4_0 rfl)) (by intro q; cases q)
  | double x => exact absurd (hex.symm.trans (qX0 qt4_0 rfl)) (by intro q; cases q)
  | null => exact absurd (hex.symm.trans (qX0 qt4_0 rfl)) (by intro q; cases q)
  | ref x => exact absurd (hex.symm.trans (qX0 qt4_0 rfl)) (by intro q; cases q)
  | retAddr x => exact absurd (hex.symm.trans (qX0 qt4_0 rfl)) (by intro q; cases q)

theorem qmath_5 {n d : Nat} {a b : Value} {l2 : qL} {h h2 : qH} {v : Option Value} (hent : qent 5 [a, b] = some l2) (hex : qExec n d 5 0 l2 [] h = some (v, h2)) : ∃ x : Int64, ∃ y : Int64, a = .long x ∧ b = .long y ∧ v = some (.long (if y < x then x else y)) ∧ h2 = h := by
  have hl : ∀ l9 : qL, qent 5 [a, b] = some l9 → l9 = ([a, b] : List Value).flatMap (fun v => if v.category = 2 then [some v, none] else [some v]) ++ List.replicate (4 - (([a, b] : List Value).flatMap (fun v => if v.category = 2 then [some v, (none : Option Value)] else [some v])).length) none := by
    intro l9 h9
    unfold qent at h9
    rw [qt5_mx] at h9
    dsimp only at h9
    split at h9
    · cases h9
      rfl
    · cases h9
  have hl2 := hl l2 hent
  subst hl2
  cases a with
  | int x => exact absurd (hex.symm.trans (qX0 qt5_0 rfl)) (by intro q; cases q)
  | long x =>
    cases b with
    | int y => exact absurd (hex.symm.trans (by cases n with | zero => rfl | succ n => exact (qX1 qt5_0 rfl).trans (qX0 qt5_1 rfl))) (by intro q; cases q)
    | long y =>
      have := qfuelA 12 _ _ _ _ _ _ _ _ hex
      have e := this.symm.trans (qrun_5 x y)
      cases e
      exact ⟨x, y, rfl, rfl, rfl, rfl⟩
    | float y => exact absurd (hex.symm.trans (by cases n with | zero => rfl | succ n => exact (qX1 qt5_0 rfl).trans (qX0 qt5_1 rfl))) (by intro q; cases q)
    | double y => exact absurd (hex.symm.trans (by cases n with | zero => rfl | succ n => exact (qX1 qt5_0 rfl).trans (qX0 qt5_1 rfl))) (by intro q; cases q)
    | null => exact absurd (hex.symm.trans (by cases n with | zero => rfl | succ n => exact (qX1 qt5_0 rfl).trans (qX0 qt5_1 rfl))) (by intro q; cases q)
    | ref y => exact absurd (hex.symm.trans (by cases n with | zero => rfl | succ n => exact (qX1 qt5_0 rfl).trans (qX0 qt5_1 rfl))) (by intro q; cases q)
    | retAddr y => exact absurd (hex.symm.trans (by cases n with | zero => rfl | succ n => exact (qX1 qt5_0 rfl).trans (qX0 qt5_1 rfl))) (by intro q; cases q)
  | float x => exact absurd (hex.symm.trans (qX0 qt5_0 rfl)) (by intro q; cases q)
  | double x => exact absurd (hex.symm.trans (qX0 qt5_0 rfl)) (by intro q; cases q)
  | null => exact absurd (hex.symm.trans (qX0 qt5_0 rfl)) (by intro q; cases q)
  | ref x => exact absurd (hex.symm.trans (qX0 qt5_0 rfl)) (by intro q; cases q)
  | retAddr x => exact absurd (hex.symm.trans (qX0 qt5_0 rfl)) (by intro q; cases q)

theorem qmath_6 {n d : Nat} {a b : Value} {l2 : qL} {h h2 : qH} {v : Option Value} (hent : qent 6 [a, b] = some l2) (hex : qExec n d 6 0 l2 [] h = some (v, h2)) : ∃ x : Int32, ∃ y : Int32, a = .int x ∧ b = .int y ∧ v = some (.int (if y < x then y else x)) ∧ h2 = h := by
  have hl : ∀ l9 : qL, qent 6 [a, b] = some l9 → l9 = ([a, b] : List Value).flatMap (fun v => if v.category = 2 then [some v, none] else [some v]) ++ List.replicate (2 - (([a, b] : List Value).flatMap (fun v => if v.category = 2 then [some v, (none : Option Value)] else [some v])).length) none := by
    intro l9 h9
    unfold qent at h9
    rw [qt6_mx] at h9
    dsimp only at h9
    split at h9
    · cases h9
      rfl
    · cases h9
  have hl2 := hl l2 hent
  subst hl2
  cases a with
  | int x =>
    cases b with
    | int y =>
      have := qfuelA 12 _ _ _ _ _ _ _ _ hex
      have e := this.symm.trans (qrun_6 x y)
      cases e
      exact ⟨x, y, rfl, rfl, rfl, rfl⟩
    | long y => exact absurd (hex.symm.trans (by cases n with | zero => rfl | succ n => exact (qX1 qt6_0 rfl).trans (qX0 qt6_1 rfl))) (by intro q; cases q)
    | float y => exact absurd (hex.symm.trans (by cases n with | zero => rfl | succ n => exact (qX1 qt6_0 rfl).trans (qX0 qt6_1 rfl))) (by intro q; cases q)
    | double y => exact absurd (hex.symm.trans (by cases n with | zero => rfl | succ n => exact (qX1 qt6_0 rfl).trans (qX0 qt6_1 rfl))) (by intro q; cases q)
    | null => exact absurd (hex.symm.trans (by cases n with | zero => rfl | succ n => exact (qX1 qt6_0 rfl).trans (qX0 qt6_1 rfl))) (by intro q; cases q)
    | ref y => exact absurd (hex.symm.trans (by cases n with | zero => rfl | succ n => exact (qX1 qt6_0 rfl).trans (qX0 qt6_1 rfl))) (by intro q; cases q)
    | retAddr y => exact absurd (hex.symm.trans (by cases n with | zero => rfl | succ n => exact (qX1 qt6_0 rfl).trans (qX0 qt6_1 rfl))) (by intro q; cases q)
  | long x => exact absurd (hex.symm.trans (qX0 qt6_0 rfl)) (by intro q; cases q)
  | float x => exact absurd (hex.symm.trans (qX0 qt6_0 rfl)) (by intro q; cases q)
  | double x => exact absurd (hex.symm.trans (qX0 qt6_0 rfl)) (by intro q; cases q)
  | null => exact absurd (hex.symm.trans (qX0 qt6_0 rfl)) (by intro q; cases q)
  | ref x => exact absurd (hex.symm.trans (qX0 qt6_0 rfl)) (by intro q; cases q)
  | retAddr x => exact absurd (hex.symm.trans (qX0 qt6_0 rfl)) (by intro q; cases q)

theorem qmath_7 {n d : Nat} {a b : Value} {l2 : qL} {h h2 : qH} {v : Option Value} (hent : qent 7 [a, b] = some l2) (hex : qExec n d 7 0 l2 [] h = some (v, h2)) : ∃ x : Int64, ∃ y : Int64, a = .long x ∧ b = .long y ∧ v = some (.long (if y < x then y else x)) ∧ h2 = h := by
  have hl : ∀ l9 : qL, qent 7 [a, b] = some l9 → l9 = ([a, b] : List Value).flatMap (fun v => if v.category = 2 then [some v, none] else [some v]) ++ List.replicate (4 - (([a, b] : List Value).flatMap (fun v => if v.category = 2 then [some v, (none : Option Value)] else [some v])).length) none := by
    intro l9 h9
    unfold qent at h9
    rw [qt7_mx] at h9
    dsimp only at h9
    split at h9
    · cases h9
      rfl
    · cases h9
  have hl2 := hl l2 hent
  subst hl2
  cases a with
  | int x => exact absurd (hex.symm.trans (qX0 qt7_0 rfl)) (by intro q; cases q)
  | long x =>
    cases b with
    | int y => exact absurd (hex.symm.trans (by cases n with | zero => rfl | succ n => exact (qX1 qt7_0 rfl).trans (qX0 qt7_1 rfl))) (by intro q; cases q)
    | long y =>
      have := qfuelA 12 _ _ _ _ _ _ _ _ hex
      have e := this.symm.trans (qrun_7 x y)
      cases e
      exact ⟨x, y, rfl, rfl, rfl, rfl⟩
    | float y => exact absurd (hex.symm.trans (by cases n with | zero => rfl | succ n => exact (qX1 qt7_0 rfl).trans (qX0 qt7_1 rfl))) (by intro q; cases q)
    | double y => exact absurd (hex.symm.trans (by cases n with | zero => rfl | succ n => exact (qX1 qt7_0 rfl).trans (qX0 qt7_1 rfl))) (by intro q; cases q)
    | null => exact absurd (hex.symm.trans (by cases n with | zero => rfl | succ n => exact (qX1 qt7_0 rfl).trans (qX0 qt7_1 rfl))) (by intro q; cases q)
    | ref y => exact absurd (hex.symm.trans (by cases n with | zero => rfl | succ n => exact (qX1 qt7_0 rfl).trans (qX0 qt7_1 rfl))) (by intro q; cases q)
    | retAddr y => exact absurd (hex.symm.trans (by cases n with | zero => rfl | succ n => exact (qX1 qt7_0 rfl).trans (qX0 qt7_1 rfl))) (by intro q; cases q)
  | float x => exact absurd (hex.symm.trans (qX0 qt7_0 rfl)) (by intro q; cases q)
  | double x => exact absurd (hex.symm.trans (qX0 qt7_0 rfl)) (by intro q; cases q)
  | null => exact absurd (hex.symm.trans (qX0 qt7_0 rfl)) (by intro q; cases q)
  | ref x => exact absurd (hex.symm.trans (qX0 qt7_0 rfl)) (by intro q; cases q)
  | retAddr x => exact absurd (hex.symm.trans (qX0 qt7_0 rfl)) (by intro q; cases q)

def q15 (k : Nat) : Bool := !(Nat.beq (qown k) 15) || (Nat.ble 4 k && Nat.ble k 7)
theorem q15_all : (List.range 251).all q15 = true := by decide +kernel
section QCM
variable {p : Program} {l : Launch} {e : Env} {R : Room} {s : State} {m : MethodId} {args : Array Value} {below : List Frame} {meth : Method} {c : Code} {H : Heap} {locs : List Loc} {nc ns : Nat} {Q : State → Prop}
variable {d2 k k2 pc n : Nat} {A : Array Slot} {am : Nat → Nat} {ls l2 : qL} {st as r : List Value} {h h2 : qH} {v : Option Value}
variable {dC : Nat → ClassId} {dI : Nat → Nat → Nat} {tc : Nat → ClassId} {base L : Nat} {xs : Nat → Int32}
theorem qlen2 {as : List Value} (h : as.length = 2) : ∃ a b, as = [a, b] := by
  match as, h with
  | [a, b], _ => exact ⟨a, b, rfl⟩
theorem qlen1 {as : List Value} (h : as.length = 1) : ∃ a, as = [a] := by
  match as, h with
  | [a], _ => exact ⟨a, rfl⟩
theorem qgo_M {z p1 p2 p3 p4 n9 : Nat} (hf : qFr am dC dI tc base L xs p R s m args meth c k (d2 + 1)) (hlr : qLR am ls A (qmx k)) (hH : qHR am dC dI tc base L xs h H) (hS : va_S (fun q => base ≤ q) s.heap H locs) (hent : qent k2 as = some l2) (hex : qExec n d2 k2 0 l2 [] h = some (v, h2)) (hRc : nc + (h2.1 - h.1) ≤ R.cells) (hRs : ns + (h2.2.1 - h.2.1) ≤ R.slots) (h15 : qown k2 = 15) (hKe : qK_ (qown k) z = some (k2, n9, 1, p1, p2, p3, p4)) (h8 : qcat r ≤ 8) (hlen : as.length = n9) (hst : st = as.reverse ++ r) (hd : decode (qby k) pc = .ok (.invokestatic z, 3)) : (∀ H1 locs1, qHR am dC dI tc base L xs h2 H1 → va_S (fun q => base ≤ q) s.heap H1 locs1 → (W p l e R s m args below meth c H1 locs1 (nc + (h2.1 - h.1)) (ns + (h2.2.1 - h.2.1)) Q (F0 m (pc + 3) A ((v.toList ++ r).map (qV am))))) → (W p l e R s m args below meth c H locs nc ns Q (F0 m pc A (st.map (qV am)))) := by
  intro kk
  obtain ⟨hx, hb, hml, hown, hts, hini, hK, hZ, hfr, hlo, ham⟩ := hf
  obtain ⟨k1, k2l, kd, ki, k13, kl, ks, kse, kin⟩ := qK_spec hKe
  have hsz : A.size = qmx k := by obtain ⟨_, lv, g1, _⟩ := hlr; exact g1.1
  have hr8 : ((r.map (qV am)).map fun v => v.category).sum ≤ 8 := by rw [qcat_map]; exact h8
  have hml2 : c.maxLocals = A.size := by rw [hml, hsz]
  have kl := hts _ (kl (by decide))
  have ks : (Cond.static (qnm k2)).before args s = true := hts _ ks
  have kin := hts _ kin
  have kc := hts _ (qcw_in k2 k1 k2l)
  have hk : 4 ≤ k2 ∧ k2 ≤ 7 := by
    have := qrange q15_all k2l
    unfold q15 at this
    rw [h15] at this
    simp only [Bool.or_eq_true, Bool.and_eq_true] at this
    rcases this with q | q
    · cases q
    · exact ⟨Nat.le_of_ble_eq_true q.1, Nat.le_of_ble_eq_true q.2⟩
  have hk4 : k2 = 4 ∨ k2 = 5 ∨ k2 = 6 ∨ k2 = 7 := by omega
  have done : h2 = h → (W p l e R s m args below meth c H locs nc ns Q (F0 m (pc + 3) A ((v.toList ++ r).map (qV am)))) := by
    intro e
    have K := kk H locs (by rw [e]; exact hH) hS
    rw [e, Nat.sub_self, Nat.sub_self] at K
    exact K
  subst hst
  rcases hk4 with rfl | rfl | rfl | rfl

  · have en : n9 = 1 := Option.some.inj (kd.symm.trans (by decide +kernel))
    obtain ⟨a, rfl⟩ := qlen1 (hlen.trans en)
    obtain ⟨x, rfl, rfl, e2⟩ := qmath_4 hent hex
    exact va_mabs_long (rest := r.map (qV am)) hx hb hml2 hown kl ks kin kc (by omega) (by omega) (by omega) (by omega) hd (done e2)
  · have en : n9 = 2 := Option.some.inj (kd.symm.trans (by decide +kernel))
    obtain ⟨a, b, rfl⟩ := qlen2 (hlen.trans en)
    obtain ⟨x, y, rfl, rfl, rfl, e2⟩ := qmath_5 hent hex
    exact va_mmax_long (rest := r.map (qV am)) hx hb hml2 hown kl ks kin kc (by omega) (by omega) (by omega) (by omega) hd (done e2)
  · have en : n9 = 2 := Option.some.inj (kd.symm.trans (by decide +kernel))
    obtain ⟨a, b, rfl⟩ := qlen2 (hlen.trans en)
    obtain ⟨x, y, rfl, rfl, rfl, e2⟩ := qmath_6 hent hex
    exact va_mmin (rest := r.map (qV am)) hx hb hml2 hown kl ks kin kc (by omega) (by omega) (by omega) (by omega) hd (done e2)
  · have en : n9 = 2 := Option.some.inj (kd.symm.trans (by decide +kernel))
    obtain ⟨a, b, rfl⟩ := qlen2 (hlen.trans en)
    obtain ⟨x, y, rfl, rfl, rfl, e2⟩ := qmath_7 hent hex
    exact va_mmin_long (rest := r.map (qV am)) hx hb hml2 hown kl ks kin kc (by omega) (by omega) (by omega) (by omega) hd (done e2)
end QCM
