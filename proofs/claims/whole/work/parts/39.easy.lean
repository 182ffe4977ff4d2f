/-! Calls as changes of the picture. -/
/-- the picture's numbers: arrays, longs, fields, live text, draft, past -/
abbrev qS : Type := (Nat → Nat → Int32) × (Nat → Nat → Int64) × (Nat → Nat → Int32) × Nat × Nat × (Nat → Option Nat)
def qRepS (S : qS) (h : qH) : Prop := qRep S.1 S.2.1 S.2.2.1 S.2.2.2.1 S.2.2.2.2.1 S.2.2.2.2.2 h
def qSame (h h2 : qH) : Prop := h2.1 = h.1 ∧ h2.2.1 = h.2.1 ∧ ∀ a, (a < 2 ∨ 200 ≤ a) → h2.2.2 a = h.2.2 a
theorem qSame.refl (h : qH) : qSame h h := ⟨rfl, rfl, fun _ _ => rfl⟩
theorem qSame.trans {h g f : qH} (a : qSame h g) (b : qSame g f) : qSame h f := ⟨b.1.trans a.1, b.2.1.trans a.2.1, fun x hx => (b.2.2 x hx).trans (a.2.2 x hx)⟩
theorem qSame_set {h : qH} {a : Nat} {c : qC} (h2 : Nat.ble 2 a = true) (h3 : Nat.blt a 200 = true) : qSame h (qset h a c) := ⟨rfl, rfl, fun x hx => if_neg (by
  have h4 := Nat.le_of_ble_eq_true h2
  have h5 : a + 1 ≤ 200 := Nat.le_of_ble_eq_true h3
  omega)⟩
/-- method k, called so on picture S, answers v and leaves picture S2; no other cell is touched, none is made -/
def qDo (d k : Nat) (as : List Value) (S : qS) (v : Option Value) (S2 : qS) : Prop := ∀ h, qRepS S h → ∃ h2, qCall d k as h (v, h2) ∧ qRepS S2 h2 ∧ qSame h h2
def qSF (S : qS) (a j : Nat) (x : Int32) : qS := (S.1, S.2.1, qupF S.2.2.1 a j x, S.2.2.2)
def qSA (S : qS) (a i : Nat) (x : Int32) : qS := (qupA S.1 a (upd (S.1 a) i x), S.2.1, S.2.2.1, S.2.2.2)
theorem i32_n1000 : Int32.toInt 1000 = 1000 := by decide
theorem i64_n1000 : Int64.toInt 1000 = 1000 := by decide
section EZ
variable {d : Nat} {S : qS}
/-- within with its numbers known -/
theorem w80 {h : qH} {a lo hi : Int32} {l u : Int} (hl : lo.toInt = l) (hu : hi.toInt = u) (hq : l ≤ a.toInt ∧ a.toInt ≤ u) : qCall (d + 1) 80 [.int a, .int lo, .int hi] h (some (.int 1), h) := by
  have e := m80 (d := d) (h := h) (a := a) (lo := lo) (hi := hi)
  rw [hl, hu, if_pos hq] at e
  exact e
theorem w80n {h : qH} {a lo hi : Int32} {l u : Int} (hl : lo.toInt = l) (hu : hi.toInt = u) (hq : ¬ (l ≤ a.toInt ∧ a.toInt ≤ u)) : qCall (d + 1) 80 [.int a, .int lo, .int hi] h (some (.int 0), h) := by
  have e := m80 (d := d) (h := h) (a := a) (lo := lo) (hi := hi)
  rw [hl, hu, if_neg hq] at e
  exact e
theorem w143 {h : qH} {a : Int32} {lo hi : Int64} {l u : Int} (hl : lo.toInt = l) (hu : hi.toInt = u) (hq : l ≤ a.toInt ∧ a.toInt ≤ u) : qCall (d + 1) 143 [.long a.toInt64, .long lo, .long hi] h (some (.int 1), h) := by
  have e := m143 (d := d) (h := h) (v := a.toInt64) (lo := lo) (hi := hi)
  rw [i3264, hl, hu, if_pos hq] at e
  exact e
theorem w143n {h : qH} {a : Int32} {lo hi : Int64} {l u : Int} (hl : lo.toInt = l) (hu : hi.toInt = u) (hq : ¬ (l ≤ a.toInt ∧ a.toInt ≤ u)) : qCall (d + 1) 143 [.long a.toInt64, .long lo, .long hi] h (some (.int 0), h) := by
  have e := m143 (d := d) (h := h) (v := a.toInt64) (lo := lo) (hi := hi)
  rw [i3264, hl, hu, if_neg hq] at e
  exact e
/-- cool(n), the class's -/
theorem coolC {n : Int32} : qDo (d + 2) 38 [.ref 2, .int n] S (some (.int (if 0 ≤ n.toInt ∧ n.toInt ≤ 1000 then 1 else 0))) (if 0 ≤ n.toInt ∧ n.toInt ≤ 1000 then qSF S 3 3 n else S) := by
  intro h hR
  by_cases hq : 0 ≤ n.toInt ∧ n.toInt ≤ 1000
  · rw [if_pos hq, if_pos hq]
    exact ⟨_, qcall_of (qent_mk qx38 rfl rfl rfl) (b38_0T (w80 i32_n0 i32_n1000 hq) (by decide) (b38_13 (hR.at 2 rfl rfl rfl) rfl (hR.at 3 rfl rfl rfl) (Nat.le_of_ble_eq_true rfl) rfl)), hR.fld rfl rfl rfl, qSame_set rfl rfl⟩
  · rw [if_neg hq, if_neg hq]
    exact ⟨_, qcall_of (qent_mk qx38 rfl rfl rfl) (b38_0F (w80n i32_n0 i32_n1000 hq) rfl b38_11), hR, qSame.refl h⟩
/-- cool(n), the reference's -/
theorem coolM {n : Int32} : qDo (d + 2) 95 [.ref 142, .int n] S (some (.int (if 0 ≤ n.toInt ∧ n.toInt ≤ 1000 then 1 else 0))) (if 0 ≤ n.toInt ∧ n.toInt ≤ 1000 then qSA S 144 36069 n else S) := by
  intro h hR
  by_cases hq : 0 ≤ n.toInt ∧ n.toInt ≤ 1000
  · rw [if_pos hq, if_pos hq]
    exact ⟨_, qcall_of (qent_mk qx95 rfl rfl rfl) (b95_0T (w143 i64_n0 i64_n1000 hq) (by decide) (b95_14 (hR.at 142 rfl rfl rfl) rfl (hR.at 144 rfl rfl rfl) (by decide) rfl)), hR.arr rfl, qSame_set rfl rfl⟩
  · rw [if_neg hq, if_neg hq]
    exact ⟨_, qcall_of (qent_mk qx95 rfl rfl rfl) (b95_0F (w143n i64_n0 i64_n1000 hq) rfl b95_12), hR, qSame.refl h⟩
end EZ
