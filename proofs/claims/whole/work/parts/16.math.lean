/-! The four of Math, run by their own bytes. -/
theorem qt4_mx : qmx 4 = 2 := by decide +kernel
theorem qt4_rt : qrt 4 = (some .long) := by decide +kernel
theorem qt4_0 : qcd 4 0 = some (.lload_n 0, 1) := by decide +kernel
theorem qt4_1 : qcd 4 1 = some (.lconst 0, 1) := by decide +kernel
theorem qt4_2 : qcd 4 2 = some (.lcmp, 1) := by decide +kernel
theorem qt4_3 : qcd 4 3 = some (.ifCond .ge 8, 3) := by decide +kernel
theorem qt4_6 : qcd 4 6 = some (.lload_n 0, 1) := by decide +kernel
theorem qt4_7 : qcd 4 7 = some (.lneg, 1) := by decide +kernel
theorem qt4_8 : qcd 4 8 = some (.goto 4, 3) := by decide +kernel
theorem qt4_11 : qcd 4 11 = some (.lload_n 0, 1) := by decide +kernel
theorem qt4_12 : qcd 4 12 = some (.lreturn, 1) := by decide +kernel
theorem qt5_mx : qmx 5 = 4 := by decide +kernel
theorem qt5_rt : qrt 5 = (some .long) := by decide +kernel
theorem qt5_0 : qcd 5 0 = some (.lload_n 0, 1) := by decide +kernel
theorem qt5_1 : qcd 5 1 = some (.lload_n 2, 1) := by decide +kernel
theorem qt5_2 : qcd 5 2 = some (.lcmp, 1) := by decide +kernel
theorem qt5_3 : qcd 5 3 = some (.ifCond .lt 7, 3) := by decide +kernel
theorem qt5_6 : qcd 5 6 = some (.lload_n 0, 1) := by decide +kernel
theorem qt5_7 : qcd 5 7 = some (.goto 4, 3) := by decide +kernel
theorem qt5_10 : qcd 5 10 = some (.lload_n 2, 1) := by decide +kernel
theorem qt5_11 : qcd 5 11 = some (.lreturn, 1) := by decide +kernel
theorem qt6_mx : qmx 6 = 2 := by decide +kernel
theorem qt6_rt : qrt 6 = (some .int) := by decide +kernel
theorem qt6_0 : qcd 6 0 = some (.iload_n 0, 1) := by decide +kernel
theorem qt6_1 : qcd 6 1 = some (.iload_n 1, 1) := by decide +kernel
theorem qt6_2 : qcd 6 2 = some (.if_icmp .gt 7, 3) := by decide +kernel
theorem qt6_5 : qcd 6 5 = some (.iload_n 0, 1) := by decide +kernel
theorem qt6_6 : qcd 6 6 = some (.goto 4, 3) := by decide +kernel
theorem qt6_9 : qcd 6 9 = some (.iload_n 1, 1) := by decide +kernel
theorem qt6_10 : qcd 6 10 = some (.ireturn, 1) := by decide +kernel
theorem qt7_mx : qmx 7 = 4 := by decide +kernel
theorem qt7_rt : qrt 7 = (some .long) := by decide +kernel
theorem qt7_0 : qcd 7 0 = some (.lload_n 0, 1) := by decide +kernel
theorem qt7_1 : qcd 7 1 = some (.lload_n 2, 1) := by decide +kernel
theorem qt7_2 : qcd 7 2 = some (.lcmp, 1) := by decide +kernel
theorem qt7_3 : qcd 7 3 = some (.ifCond .gt 7, 3) := by decide +kernel
theorem qt7_6 : qcd 7 6 = some (.lload_n 0, 1) := by decide +kernel
theorem qt7_7 : qcd 7 7 = some (.goto 4, 3) := by decide +kernel
theorem qt7_10 : qcd 7 10 = some (.lload_n 2, 1) := by decide +kernel
theorem qt7_11 : qcd 7 11 = some (.lreturn, 1) := by decide +kernel
set_option maxRecDepth 20000 in
theorem qmath_4 {n d : Nat} {a : Value} {l2 : qL} {h h2 : qH} {v : Option Value} (hent : qent 4 [a] = some l2) (hex : qExec n d 4 0 l2 [] h = some (v, h2)) : ∃ x : Int64, a = .long x ∧ v = some (.long (if 0 < x then x else -x)) ∧ h2 = h := by
  have hex := qfuelA 12 _ _ _ _ _ _ _ _ hex
  unfold qent at hent
  rw [qt4_mx] at hent
  cases a
  all_goals simp [Value.category] at hent
  all_goals subst hent
  all_goals simp only [qExec, qStep, qt4_0, qt4_1, qt4_2, qt4_3, qt4_6, qt4_7, qt4_8, qt4_11, qt4_12, qt4_rt, qldI, qldL, qld, qgo, qii, qll, ql_1, qi_1, qto, qbr, qend, qendL, List.getElem?_cons_zero, List.getElem?_cons_succ, reduceCtorEq] at hex
  all_goals sorry
set_option maxRecDepth 20000 in
theorem qmath_5 {n d : Nat} {a b : Value} {l2 : qL} {h h2 : qH} {v : Option Value} (hent : qent 5 [a, b] = some l2) (hex : qExec n d 5 0 l2 [] h = some (v, h2)) : ∃ x : Int64, ∃ y : Int64, a = .long x ∧ b = .long y ∧ v = some (.long (if y < x then x else y)) ∧ h2 = h := by
  have hex := qfuelA 12 _ _ _ _ _ _ _ _ hex
  unfold qent at hent
  rw [qt5_mx] at hent
  cases a <;> cases b
  all_goals simp [Value.category] at hent
  all_goals subst hent
  all_goals simp only [qExec, qStep, qt5_0, qt5_1, qt5_2, qt5_3, qt5_6, qt5_7, qt5_10, qt5_11, qt5_rt, qldI, qldL, qld, qgo, qii, qll, ql_1, qi_1, qto, qbr, qend, qendL, List.getElem?_cons_zero, List.getElem?_cons_succ, reduceCtorEq] at hex
  all_goals sorry
set_option maxRecDepth 20000 in
theorem qmath_6 {n d : Nat} {a b : Value} {l2 : qL} {h h2 : qH} {v : Option Value} (hent : qent 6 [a, b] = some l2) (hex : qExec n d 6 0 l2 [] h = some (v, h2)) : ∃ x : Int32, ∃ y : Int32, a = .int x ∧ b = .int y ∧ v = some (.int (if y < x then y else x)) ∧ h2 = h := by
  have hex := qfuelA 12 _ _ _ _ _ _ _ _ hex
  unfold qent at hent
  rw [qt6_mx] at hent
  cases a <;> cases b
  all_goals simp [Value.category] at hent
  all_goals subst hent
  all_goals simp only [qExec, qStep, qt6_0, qt6_1, qt6_2, qt6_5, qt6_6, qt6_9, qt6_10, qt6_rt, qldI, qldL, qld, qgo, qii, qll, ql_1, qi_1, qto, qbr, qend, qendL, List.getElem?_cons_zero, List.getElem?_cons_succ, reduceCtorEq] at hex
  all_goals sorry
set_option maxRecDepth 20000 in
theorem qmath_7 {n d : Nat} {a b : Value} {l2 : qL} {h h2 : qH} {v : Option Value} (hent : qent 7 [a, b] = some l2) (hex : qExec n d 7 0 l2 [] h = some (v, h2)) : ∃ x : Int64, ∃ y : Int64, a = .long x ∧ b = .long y ∧ v = some (.long (if y < x then y else x)) ∧ h2 = h := by
  have hex := qfuelA 12 _ _ _ _ _ _ _ _ hex
  unfold qent at hent
  rw [qt7_mx] at hent
  cases a <;> cases b
  all_goals simp [Value.category] at hent
  all_goals subst hent
  all_goals simp only [qExec, qStep, qt7_0, qt7_1, qt7_2, qt7_3, qt7_6, qt7_7, qt7_10, qt7_11, qt7_rt, qldI, qldL, qld, qgo, qii, qll, ql_1, qi_1, qto, qbr, qend, qendL, List.getElem?_cons_zero, List.getElem?_cons_succ, reduceCtorEq] at hex
  all_goals sorry

