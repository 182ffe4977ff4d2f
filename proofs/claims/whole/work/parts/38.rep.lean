/-! The heap of both objects as one picture: arrays A (numbers), B (longs), fields F, the two texts, the past. -/
def qlay : List (Nat × Nat × Nat × List Nat) := [(9, 0, 0, []),
  (9, 0, 0, []),
  (5, 11, 0, [3, 24, 29, 30, 31, 49, 73, 98, 102, 112, 125, 132, 134, 2]),
  (5, 4, 0, [0, 0, 0, 0, 1, 11, 12, 13, 14, 15, 16, 17, 18, 19, 20, 21, 22, 23]),
  (5, 10, 0, [0, 0, 0, 0, 0, 0, 5, 6, 7, 8, 9, 10]),
  (0, 0, 160, []),
  (0, 0, 320, []),
  (0, 0, 320, []),
  (0, 0, 12, []),
  (0, 1, 12, []),
  (1, 2, 32, []),
  (0, 0, 8, []),
  (0, 0, 8, []),
  (0, 0, 8, []),
  (0, 0, 14, []),
  (0, 0, 14, []),
  (0, 0, 14, []),
  (0, 0, 14, []),
  (0, 0, 14, []),
  (0, 0, 14, []),
  (0, 0, 9, []),
  (0, 0, 9, []),
  (0, 0, 9, []),
  (0, 0, 9, []),
  (5, 8, 0, [0, 0, 0, 0, 25, 26, 27, 28]),
  (0, 0, 8, []),
  (0, 0, 14, []),
  (0, 0, 14, []),
  (0, 0, 14, []),
  (2, 5, 499, []),
  (0, 0, 499, []),
  (5, 7, 0, [0, 0, 0, 32, 33, 34, 35, 36, 37, 38, 39, 40]),
  (0, 0, 8, []),
  (0, 0, 8, []),
  (0, 0, 8, []),
  (0, 0, 9, []),
  (1, 2, 14, []),
  (0, 0, 8, []),
  (0, 0, 8, []),
  (1, 2, 8, []),
  (3, 7, 8, [41]),
  (1, 2, 8, []),
  (1, 2, 8, []),
  (1, 2, 8, []),
  (1, 2, 8, []),
  (1, 2, 8, []),
  (1, 2, 8, []),
  (1, 2, 8, []),
  (1, 2, 8, []),
  (5, 0, 0, [50, 55]),
  (5, 8, 0, [0, 0, 0, 0, 51, 52, 53, 54]),
  (0, 0, 8, []),
  (0, 0, 14, []),
  (0, 0, 14, []),
  (0, 0, 14, []),
  (5, 7, 0, [0, 0, 0, 56, 57, 58, 59, 60, 61, 62, 63, 64]),
  (0, 0, 8, []),
  (0, 0, 8, []),
  (0, 0, 8, []),
  (0, 0, 9, []),
  (1, 2, 14, []),
  (0, 0, 8, []),
  (0, 0, 8, []),
  (1, 2, 8, []),
  (3, 7, 8, [65]),
  (1, 2, 8, []),
  (1, 2, 8, []),
  (1, 2, 8, []),
  (1, 2, 8, []),
  (1, 2, 8, []),
  (1, 2, 8, []),
  (1, 2, 8, []),
  (1, 2, 8, []),
  (5, 5, 0, [74, 79, 0, 0, 0, 0, 0, 97]),
  (5, 8, 0, [0, 0, 0, 0, 75, 76, 77, 78]),
  (0, 0, 8, []),
  (0, 0, 14, []),
  (0, 0, 14, []),
  (0, 0, 14, []),
  (5, 7, 0, [0, 0, 0, 80, 81, 82, 83, 84, 85, 86, 87, 88]),
  (0, 0, 8, []),
  (0, 0, 8, []),
  (0, 0, 8, []),
  (0, 0, 9, []),
  (1, 2, 14, []),
  (0, 0, 8, []),
  (0, 0, 8, []),
  (1, 2, 8, []),
  (3, 7, 8, [89]),
  (1, 2, 8, []),
  (1, 2, 8, []),
  (1, 2, 8, []),
  (1, 2, 8, []),
  (1, 2, 8, []),
  (1, 2, 8, []),
  (1, 2, 8, []),
  (1, 2, 8, []),
  (1, 2, 11, []),
  (5, 3, 0, [0, 99, 100, 101]),
  (0, 0, 400, []),
  (0, 0, 400, []),
  (0, 0, 400, []),
  (5, 6, 0, [103, 104, 105, 106, 107]),
  (0, 1, 4, []),
  (0, 0, 4, []),
  (0, 0, 4, []),
  (0, 0, 4, []),
  (3, 7, 4, [108]),
  (1, 2, 14, []),
  (1, 2, 14, []),
  (1, 2, 14, []),
  (1, 2, 14, []),
  (5, 2, 0, [0, 0, 113, 114, 115, 116, 117, 118, 119]),
  (0, 0, 4, []),
  (0, 0, 4, []),
  (0, 0, 40, []),
  (0, 0, 40, []),
  (0, 0, 100, []),
  (0, 0, 100, []),
  (3, 6, 5, [120]),
  (0, 0, 5, []),
  (0, 0, 5, []),
  (0, 0, 5, []),
  (0, 0, 5, []),
  (0, 0, 5, []),
  (5, 1, 0, [126, 127, 128, 129, 130, 131]),
  (0, 1, 9, []),
  (0, 0, 9, []),
  (0, 0, 9, []),
  (0, 0, 512, []),
  (0, 0, 512, []),
  (0, 0, 8, []),
  (5, 9, 0, [0, 133]),
  (0, 0, 200, []),
  (0, 0, 8, []),
  (5, 10, 0, [0, 0, 0, 0, 0, 0, 136, 137, 138, 139, 140, 141]),
  (0, 0, 160, []),
  (0, 0, 320, []),
  (0, 0, 320, []),
  (0, 0, 12, []),
  (0, 1, 12, []),
  (1, 2, 32, []),
  (5, 12, 0, [143, 0, 0, 0, 0, 0, 0, 0, 0, 0, 144, 145, 146, 147, 148, 149, 150, 151, 152, 153, 154, 155, 156, 157, 158, 159, 160, 161, 162, 0, 163, 164, 165, 166, 167, 168, 169, 170, 171, 172, 173, 174, 175, 176, 0, 0, 0, 0, 0, 0, 0, 0, 0, 177, 0, 0, 0, 178, 179, 0, 180, 181, 182, 183, 184, 185, 186, 187, 188, 189, 190, 191, 192, 193, 194, 195, 196, 197, 198, 199]),
  (0, 3, 200, []),
  (0, 0, 36400, []),
  (0, 0, 8, []),
  (0, 0, 8, []),
  (0, 0, 14, []),
  (0, 0, 14, []),
  (0, 0, 14, []),
  (0, 0, 14, []),
  (0, 0, 14, []),
  (0, 0, 14, []),
  (0, 0, 9, []),
  (0, 0, 9, []),
  (0, 0, 9, []),
  (0, 1, 9, []),
  (0, 0, 9, []),
  (0, 0, 8, []),
  (0, 0, 9, []),
  (0, 0, 8, []),
  (1, 2, 14, []),
  (1, 2, 14, []),
  (0, 0, 8, []),
  (1, 2, 98, []),
  (0, 0, 8, []),
  (1, 2, 8, []),
  (0, 0, 12, []),
  (0, 0, 12, []),
  (0, 0, 12, []),
  (0, 0, 160, []),
  (0, 0, 160, []),
  (0, 0, 12, []),
  (0, 0, 12, []),
  (0, 0, 12, []),
  (0, 0, 160, []),
  (0, 0, 160, []),
  (0, 0, 200, []),
  (1, 2, 200, []),
  (0, 1, 200, []),
  (0, 0, 64, []),
  (0, 0, 64, []),
  (0, 0, 500, []),
  (0, 0, 7000, []),
  (0, 1, 7000, []),
  (0, 0, 400, []),
  (0, 0, 400, []),
  (0, 0, 400, []),
  (0, 1, 4, []),
  (0, 0, 4, []),
  (0, 0, 4, []),
  (0, 0, 4, []),
  (0, 0, 4, []),
  (0, 0, 40, []),
  (0, 0, 40, []),
  (0, 0, 100, []),
  (0, 0, 100, []),
  (0, 0, 25, []),
  (1, 2, 512, []),
  (0, 0, 8, [])]
def qfld (F : Nat → Nat → Int32) (tx dx a j r : Nat) : Value := if r = 0 then .int (F a j) else if r = 1 then .ref tx else if r = 2 then .ref dx else .ref r
def qflds (F : Nat → Nat → Int32) (tx dx a : Nat) : Nat → List Nat → List Value
  | _, [] => []
  | j, r :: rs => qfld F tx dx a j r :: qflds F tx dx a (j + 1) rs
def qcellD (A : Nat → Nat → Int32) (B : Nat → Nat → Int64) (F : Nat → Nat → Int32) (tx dx : Nat) (P : Nat → Option Nat) (a : Nat) (D : Nat × Nat × Nat × List Nat) : qC := match D with
  | (0, k, n, _) => .inl (k, n, .inl (A a))
  | (1, k, n, _) => .inl (k, n, .inr (.inl (B a)))
  | (2, k, n, _) => .inl (k, n, .inr (.inr (.inr (.inr P))))
  | (3, k, n, rs) => .inl (k, n, .inr (.inr (.inr (.inr fun i => if i < n then some (rs.getD 0 0 + i) else none))))
  | (_, k, _, rs) => .inr (k, qflds F tx dx a 0 rs)
def qcell (A : Nat → Nat → Int32) (B : Nat → Nat → Int64) (F : Nat → Nat → Int32) (tx dx : Nat) (P : Nat → Option Nat) (a : Nat) : qC := qcellD A B F tx dx P a (qlay.getD a (9, 0, 0, []))
/-- the picture holds of the heap -/
def qRep (A : Nat → Nat → Int32) (B : Nat → Nat → Int64) (F : Nat → Nat → Int32) (tx dx : Nat) (P : Nat → Option Nat) (h : qH) : Prop := ∀ a, 2 ≤ a → a < 200 → h.2.2 a = some (qcell A B F tx dx P a)
def qupA {α : Type} (A : Nat → α) (a : Nat) (g : α) : Nat → α := fun b => if b = a then g else A b
def qupF (F : Nat → Nat → Int32) (a j : Nat) (x : Int32) : Nat → Nat → Int32 := fun b i => if b = a ∧ i = j then x else F b i
section RP
variable {A : Nat → Nat → Int32} {B : Nat → Nat → Int64} {F : Nat → Nat → Int32} {tx dx : Nat} {P : Nat → Option Nat} {h : qH}
theorem qRep.at (hR : qRep A B F tx dx P h) (a : Nat) (h2 : Nat.ble 2 a = true) (h3 : Nat.blt a 200 = true) {c : qC} (hc : qcell A B F tx dx P a = c) : h.2.2 a = some c := by
  rw [← hc]
  exact hR a (Nat.le_of_ble_eq_true h2) (Nat.le_of_ble_eq_true h3)
theorem qRep.arr (hR : qRep A B F tx dx P h) {a k n : Nat} {rs : List Nat} {g : Nat → Int32} (hl : qlay.getD a (9, 0, 0, []) = (0, k, n, rs)) : qRep (qupA A a g) B F tx dx P (qset h a (.inl (k, n, .inl g))) := by
  intro b h2 h3
  show (if b = a then some _ else h.2.2 b) = _
  by_cases e : b = a
  · subst e
    rw [if_pos rfl]
    unfold qcell
    rw [hl]
    show _ = some (Sum.inl (k, n, Sum.inl (qupA A b g b)))
    unfold qupA
    rw [if_pos rfl]
  · rw [if_neg e, hR b h2 h3]
    unfold qcell
    congr 1
    unfold qcellD
    split
    · show _ = Sum.inl (_, _, Sum.inl (qupA A a g b))
      unfold qupA
      rw [if_neg e]
    all_goals rfl
theorem qRep.arrL (hR : qRep A B F tx dx P h) {a k n : Nat} {rs : List Nat} {g : Nat → Int64} (hl : qlay.getD a (9, 0, 0, []) = (1, k, n, rs)) : qRep A (qupA B a g) F tx dx P (qset h a (.inl (k, n, .inr (.inl g)))) := by
  intro b h2 h3
  show (if b = a then some _ else h.2.2 b) = _
  by_cases e : b = a
  · subst e
    rw [if_pos rfl]
    unfold qcell
    rw [hl]
    show _ = some (Sum.inl (k, n, Sum.inr (Sum.inl (qupA B b g b))))
    unfold qupA
    rw [if_pos rfl]
  · rw [if_neg e, hR b h2 h3]
    unfold qcell
    congr 1
    unfold qcellD
    split
    · rfl
    · show _ = Sum.inl (_, _, Sum.inr (Sum.inl (qupA B a g b)))
      unfold qupA
      rw [if_neg e]
    all_goals rfl
theorem qfld_ne {F2 : Nat → Nat → Int32} {a j r : Nat} (hh : F2 a j = F a j) : qfld F2 tx dx a j r = qfld F tx dx a j r := by
  unfold qfld
  rw [hh]
theorem qupF_ne {a j i : Nat} {x : Int32} (hh : i ≠ j) : qupF F a j x a i = F a i := if_neg (fun q => hh q.2)
theorem qflds_ne {F2 : Nat → Nat → Int32} {a : Nat} : ∀ (rs : List Nat) (j : Nat), (∀ i, F2 a i = F a i) → qflds F2 tx dx a j rs = qflds F tx dx a j rs
  | [], j, _ => rfl
  | r :: rs, j, hh => by
    show qfld F2 tx dx a j r :: _ = qfld F tx dx a j r :: _
    rw [qflds_ne rs (j + 1) hh]
    unfold qfld
    rw [hh j]
theorem qflds_set {a j : Nat} {x : Int32} : ∀ (rs : List Nat) (i m : Nat), rs[m]? = some 0 → j = i + m → qflds (qupF F a j x) tx dx a i rs = (qflds F tx dx a i rs).set m (.int x)
  | [], i, m, hm, _ => by cases hm
  | r :: rs, i, 0, hm, hj => by
    cases hm
    have e : j = i := hj
    subst e
    show qfld _ tx dx a j 0 :: qflds _ tx dx a (j + 1) rs = Value.int x :: qflds F tx dx a (j + 1) rs
    have h1 : qfld (qupF F a j x) tx dx a j 0 = .int x := by
      unfold qfld qupF
      rw [if_pos rfl, if_pos ⟨rfl, rfl⟩]
    have h2 : ∀ (rs : List Nat) (i : Nat), j < i → qflds (qupF F a j x) tx dx a i rs = qflds F tx dx a i rs := by
      intro rs
      induction rs with
      | nil => intro i _; rfl
      | cons r rs ih =>
        intro i hi
        show qfld _ tx dx a i r :: _ = qfld F tx dx a i r :: _
        rw [ih (i + 1) (by omega), qfld_ne (qupF_ne (by omega))]
    rw [h1, h2 rs (j + 1) (by omega)]
  | r :: rs, i, m + 1, hm, hj => by
    show qfld (qupF F a j x) tx dx a i r :: qflds _ tx dx a (i + 1) rs = qfld F tx dx a i r :: (qflds F tx dx a (i + 1) rs).set m (.int x)
    rw [qflds_set rs (i + 1) m hm (by omega), qfld_ne (qupF_ne (by omega))]
theorem qRep.fld (hR : qRep A B F tx dx P h) {a k n j : Nat} {rs : List Nat} {x : Int32} {fs : List Value} (hl : qlay.getD a (9, 0, 0, []) = (5, k, n, rs)) (hj : rs[j]? = some 0) (hf : qflds F tx dx a 0 rs = fs) : qRep A B (qupF F a j x) tx dx P (qset h a (.inr (k, fs.set j (.int x)))) := by
  intro b h2 h3
  show (if b = a then some _ else h.2.2 b) = _
  by_cases e : b = a
  · subst e
    rw [if_pos rfl]
    unfold qcell
    rw [hl]
    show _ = some (Sum.inr (k, qflds (qupF F b j x) tx dx b 0 rs))
    rw [qflds_set rs 0 j hj (by omega), hf]
  · rw [if_neg e, hR b h2 h3]
    unfold qcell
    congr 1
    unfold qcellD
    split
    any_goals rfl
    show Sum.inr (_, _) = Sum.inr (_, qflds (qupF F a j x) tx dx b 0 _)
    rw [qflds_ne (F2 := qupF F a j x) (F := F) _ 0 (fun i => if_neg (fun q => e q.1))]
end RP
def qAs0 : Nat → Nat → Int32 := fun a => if a = 104 then upd (upd (upd (upd (fun _ => 0) 0 (-1)) 1 (-1)) 2 (-1)) 3 (-1) else if a = 105 then upd (upd (upd (upd (fun _ => 0) 0 (-1)) 1 (-1)) 2 (-1)) 3 (-1) else if a = 127 then upd (upd (upd (upd (upd (upd (upd (upd (upd (fun _ => 0) 0 10) 1 10) 2 10) 3 10) 4 10) 5 10) 6 10) 7 10) 8 10 else if a = 144 then upd (fun _ => 0) 36069 100 else if a = 152 then upd (upd (upd (upd (upd (upd (upd (upd (upd (upd (upd (upd (upd (upd (fun _ => 0) 0 1) 1 1) 2 1) 3 1) 4 1) 5 1) 6 1) 7 1) 8 1) 9 1) 10 1) 11 1) 12 1) 13 1 else if a = 157 then upd (upd (upd (upd (upd (upd (upd (upd (upd (fun _ => 0) 0 10) 1 10) 2 10) 3 10) 4 10) 5 10) 6 10) 7 10) 8 10 else if a = 190 then upd (upd (upd (upd (fun _ => 0) 0 (-1)) 1 (-1)) 2 (-1)) 3 (-1) else fun _ => 0
def qFs0 : Nat → Nat → Int32 := fun a j => if a = 3 ∧ j = 3 then 100 else 0
set_option maxRecDepth 20000 in
theorem qRep0 (L : Nat) (xs : Nat → Int32) : qRep qAs0 (fun _ _ => 0) qFs0 4 135 (fun _ => none) (qg373 L xs) := by
  intro a h2 h3
  match a, h2, h3 with
  | 0, h, _ => exact absurd h (by decide)
  | 1, h, _ => exact absurd h (by decide)
  | 2, h, _ => rfl
  | 3, h, _ => rfl
  | 4, h, _ => rfl
  | 5, h, _ => rfl
  | 6, h, _ => rfl
  | 7, h, _ => rfl
  | 8, h, _ => rfl
  | 9, h, _ => rfl
  | 10, h, _ => rfl
  | 11, h, _ => rfl
  | 12, h, _ => rfl
  | 13, h, _ => rfl
  | 14, h, _ => rfl
  | 15, h, _ => rfl
  | 16, h, _ => rfl
  | 17, h, _ => rfl
  | 18, h, _ => rfl
  | 19, h, _ => rfl
  | 20, h, _ => rfl
  | 21, h, _ => rfl
  | 22, h, _ => rfl
  | 23, h, _ => rfl
  | 24, h, _ => rfl
  | 25, h, _ => rfl
  | 26, h, _ => rfl
  | 27, h, _ => rfl
  | 28, h, _ => rfl
  | 29, h, _ => rfl
  | 30, h, _ => rfl
  | 31, h, _ => rfl
  | 32, h, _ => rfl
  | 33, h, _ => rfl
  | 34, h, _ => rfl
  | 35, h, _ => rfl
  | 36, h, _ => rfl
  | 37, h, _ => rfl
  | 38, h, _ => rfl
  | 39, h, _ => rfl
  | 40, h, _ => rfl
  | 41, h, _ => rfl
  | 42, h, _ => rfl
  | 43, h, _ => rfl
  | 44, h, _ => rfl
  | 45, h, _ => rfl
  | 46, h, _ => rfl
  | 47, h, _ => rfl
  | 48, h, _ => rfl
  | 49, h, _ => rfl
  | 50, h, _ => rfl
  | 51, h, _ => rfl
  | 52, h, _ => rfl
  | 53, h, _ => rfl
  | 54, h, _ => rfl
  | 55, h, _ => rfl
  | 56, h, _ => rfl
  | 57, h, _ => rfl
  | 58, h, _ => rfl
  | 59, h, _ => rfl
  | 60, h, _ => rfl
  | 61, h, _ => rfl
  | 62, h, _ => rfl
  | 63, h, _ => rfl
  | 64, h, _ => rfl
  | 65, h, _ => rfl
  | 66, h, _ => rfl
  | 67, h, _ => rfl
  | 68, h, _ => rfl
  | 69, h, _ => rfl
  | 70, h, _ => rfl
  | 71, h, _ => rfl
  | 72, h, _ => rfl
  | 73, h, _ => rfl
  | 74, h, _ => rfl
  | 75, h, _ => rfl
  | 76, h, _ => rfl
  | 77, h, _ => rfl
  | 78, h, _ => rfl
  | 79, h, _ => rfl
  | 80, h, _ => rfl
  | 81, h, _ => rfl
  | 82, h, _ => rfl
  | 83, h, _ => rfl
  | 84, h, _ => rfl
  | 85, h, _ => rfl
  | 86, h, _ => rfl
  | 87, h, _ => rfl
  | 88, h, _ => rfl
  | 89, h, _ => rfl
  | 90, h, _ => rfl
  | 91, h, _ => rfl
  | 92, h, _ => rfl
  | 93, h, _ => rfl
  | 94, h, _ => rfl
  | 95, h, _ => rfl
  | 96, h, _ => rfl
  | 97, h, _ => rfl
  | 98, h, _ => rfl
  | 99, h, _ => rfl
  | 100, h, _ => rfl
  | 101, h, _ => rfl
  | 102, h, _ => rfl
  | 103, h, _ => rfl
  | 104, h, _ => rfl
  | 105, h, _ => rfl
  | 106, h, _ => rfl
  | 107, h, _ => rfl
  | 108, h, _ => rfl
  | 109, h, _ => rfl
  | 110, h, _ => rfl
  | 111, h, _ => rfl
  | 112, h, _ => rfl
  | 113, h, _ => rfl
  | 114, h, _ => rfl
  | 115, h, _ => rfl
  | 116, h, _ => rfl
  | 117, h, _ => rfl
  | 118, h, _ => rfl
  | 119, h, _ => rfl
  | 120, h, _ => rfl
  | 121, h, _ => rfl
  | 122, h, _ => rfl
  | 123, h, _ => rfl
  | 124, h, _ => rfl
  | 125, h, _ => rfl
  | 126, h, _ => rfl
  | 127, h, _ => rfl
  | 128, h, _ => rfl
  | 129, h, _ => rfl
  | 130, h, _ => rfl
  | 131, h, _ => rfl
  | 132, h, _ => rfl
  | 133, h, _ => rfl
  | 134, h, _ => rfl
  | 135, h, _ => rfl
  | 136, h, _ => rfl
  | 137, h, _ => rfl
  | 138, h, _ => rfl
  | 139, h, _ => rfl
  | 140, h, _ => rfl
  | 141, h, _ => rfl
  | 142, h, _ => rfl
  | 143, h, _ => rfl
  | 144, h, _ => rfl
  | 145, h, _ => rfl
  | 146, h, _ => rfl
  | 147, h, _ => rfl
  | 148, h, _ => rfl
  | 149, h, _ => rfl
  | 150, h, _ => rfl
  | 151, h, _ => rfl
  | 152, h, _ => rfl
  | 153, h, _ => rfl
  | 154, h, _ => rfl
  | 155, h, _ => rfl
  | 156, h, _ => rfl
  | 157, h, _ => rfl
  | 158, h, _ => rfl
  | 159, h, _ => rfl
  | 160, h, _ => rfl
  | 161, h, _ => rfl
  | 162, h, _ => rfl
  | 163, h, _ => rfl
  | 164, h, _ => rfl
  | 165, h, _ => rfl
  | 166, h, _ => rfl
  | 167, h, _ => rfl
  | 168, h, _ => rfl
  | 169, h, _ => rfl
  | 170, h, _ => rfl
  | 171, h, _ => rfl
  | 172, h, _ => rfl
  | 173, h, _ => rfl
  | 174, h, _ => rfl
  | 175, h, _ => rfl
  | 176, h, _ => rfl
  | 177, h, _ => rfl
  | 178, h, _ => rfl
  | 179, h, _ => rfl
  | 180, h, _ => rfl
  | 181, h, _ => rfl
  | 182, h, _ => rfl
  | 183, h, _ => rfl
  | 184, h, _ => rfl
  | 185, h, _ => rfl
  | 186, h, _ => rfl
  | 187, h, _ => rfl
  | 188, h, _ => rfl
  | 189, h, _ => rfl
  | 190, h, _ => rfl
  | 191, h, _ => rfl
  | 192, h, _ => rfl
  | 193, h, _ => rfl
  | 194, h, _ => rfl
  | 195, h, _ => rfl
  | 196, h, _ => rfl
  | 197, h, _ => rfl
  | 198, h, _ => rfl
  | 199, h, _ => rfl
  | n + 200, _, h => exact absurd h (by omega)
