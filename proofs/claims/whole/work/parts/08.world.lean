/-! The world of the pure machine, and the tables in words. -/
def qWall : List Cond := lw_tbl.filter goodWord
theorem qwall_in {p : Nat} {w : Cond} (h : lw_tbl[p]? = some w) (hg : goodWord w = true) : w ∈ qWall := List.mem_filter.mpr ⟨List.mem_of_getElem? h, hg⟩
theorem qwall_tbl {w : Cond} (h : w ∈ qWall) : w ∈ lw_tbl := (List.mem_filter.mp h).1
theorem qwall_good : GoodIn qWall qWall := fun w h => ⟨h, good_of_word (List.mem_filter.mp h).2⟩
def qDef : vw_C := ("", fun _ => ("", "", "", false), 0)
def qClOk (c : Nat) : Bool :=
  let D := qCl.getD c qDef
  decide (D.1 = qR c) && Nat.beq D.2.2 (qTys.getD c []).length && (List.range D.2.2).all (fun k => decide ((D.2.1 k).1 = qR c) && decide (parseFieldDescriptor (D.2.1 k).2.2.1 = some (qty c k)))
def qNmOk (c : Nat) : Bool :=
  let D := qCl.getD c qDef
  (List.range D.2.2).all (fun a => (List.range D.2.2).all (fun b => Nat.beq a b || decide ((D.2.1 a).2.1 ≠ (D.2.1 b).2.1)))
theorem qClOk_all : (List.range 13).all qClOk = true := by decide +kernel
theorem qNmOk_all : (List.range 13).all qNmOk = true := by decide +kernel
theorem qrange {f : Nat → Bool} {n : Nat} (h : (List.range n).all f = true) {i : Nat} (hi : i < n) : f i = true := List.all_eq_true.mp h i (List.mem_range.mpr hi)
theorem qCl_at {c : Nat} (h : c < 13) : qCl[c]? = some (qCl.getD c qDef) := by
  have : c < qCl.length := h
  rw [List.getD_eq_getElem?_getD, List.getElem?_eq_getElem this]
  rfl
theorem qCl_R {c : Nat} (h : c < 13) : (qCl.getD c qDef).1 = qR c := by
  have := qrange qClOk_all h
  simp only [qClOk, Bool.and_eq_true, decide_eq_true_eq] at this
  exact this.1.1
theorem qCl_N {c : Nat} (h : c < 13) : (qCl.getD c qDef).2.2 = (qTys.getD c []).length := by
  have := qrange qClOk_all h
  simp only [qClOk, Bool.and_eq_true, decide_eq_true_eq] at this
  exact Nat.eq_of_beq_eq_true this.1.2
theorem qCl_T {c k : Nat} (h : c < 13) (hk : k < (qCl.getD c qDef).2.2) : ((qCl.getD c qDef).2.1 k).1 = qR c ∧ parseFieldDescriptor ((qCl.getD c qDef).2.1 k).2.2.1 = some (qty c k) := by
  have := qrange qClOk_all h
  simp only [qClOk, Bool.and_eq_true] at this
  have h2 := qrange this.2 hk
  simp only [Bool.and_eq_true, decide_eq_true_eq] at h2
  exact h2
theorem qCl_nm {c : Nat} (h : c < 13) : ∀ a, a < (qCl.getD c qDef).2.2 → ∀ b, b < (qCl.getD c qDef).2.2 → a ≠ b → ((qCl.getD c qDef).2.1 a).2.1 ≠ ((qCl.getD c qDef).2.1 b).2.1 := by
  intro a ha b hb hne
  have := qrange (qrange (qrange qNmOk_all h) ha) hb
  simp only [Bool.or_eq_true, decide_eq_true_eq] at this
  exact this.resolve_left (fun q => hne (Nat.eq_of_beq_eq_true q))
theorem qchunk {α : Type} {f : α → Bool} {l : List α} {a n : Nat} (h1 : ((l.drop a).take n).all f = true) (h2 : (l.drop (a + n)).all f = true) : (l.drop a).all f = true := by
  rw [← List.take_append_drop n (l.drop a), List.all_append, h1, List.drop_drop, h2]
  rfl
theorem qdone {α : Type} {f : α → Bool} {l : List α} {a : Nat} (h : l.length ≤ a) : (l.drop a).all f = true := by
  rw [List.drop_eq_nil_of_le h]
  rfl
theorem qFc {c a n : Nat} (h1 : qFok2 c a n = true) (h2 : ((qF.getD c []).drop (a + n)).all (fun e => qAt e.2.2.2.1 (qFw c e)) = true) : ((qF.getD c []).drop a).all (fun e => qAt e.2.2.2.1 (qFw c e)) = true := qchunk h1 h2
theorem qFd {c a : Nat} (h : Nat.ble (qF.getD c []).length a = true) : ((qF.getD c []).drop a).all (fun e => qAt e.2.2.2.1 (qFw c e)) = true := qdone (Nat.le_of_ble_eq_true h)
theorem qF0 {c : Nat} (h : ((qF.getD c []).drop 0).all (fun e => qAt e.2.2.2.1 (qFw c e)) = true) : (qF.getD c []).all (fun e => qAt e.2.2.2.1 (qFw c e)) = true := h
theorem qKc {c a n : Nat} (h1 : qKok c a n = true) (h2 : ((qK.getD c []).drop (a + n)).all (qKw c) = true) : ((qK.getD c []).drop a).all (qKw c) = true := qchunk h1 h2
theorem qKd {c a : Nat} (h : Nat.ble (qK.getD c []).length a = true) : ((qK.getD c []).drop a).all (qKw c) = true := qdone (Nat.le_of_ble_eq_true h)
theorem qK0 {c : Nat} (h : ((qK.getD c []).drop 0).all (qKw c) = true) : (qK.getD c []).all (qKw c) = true := h
theorem qWc {c a n : Nat} (h1 : qWok c a n = true) (h2 : (((qW.getD c []).zip (List.range 100)).drop (a + n)).all (fun e => qAt e.1 (u_lay (qR c) (qCl.getD c ("", fun _ => ("", "", "", false), 0)).2.1 e.2)) = true) : (((qW.getD c []).zip (List.range 100)).drop a).all (fun e => qAt e.1 (u_lay (qR c) (qCl.getD c ("", fun _ => ("", "", "", false), 0)).2.1 e.2)) = true := qchunk h1 h2
theorem qWd {c a : Nat} (h : Nat.ble ((qW.getD c []).zip (List.range 100)).length a = true) : (((qW.getD c []).zip (List.range 100)).drop a).all (fun e => qAt e.1 (u_lay (qR c) (qCl.getD c ("", fun _ => ("", "", "", false), 0)).2.1 e.2)) = true := qdone (Nat.le_of_ble_eq_true h)
theorem qW0 {c : Nat} (h : (((qW.getD c []).zip (List.range 100)).drop 0).all (fun e => qAt e.1 (u_lay (qR c) (qCl.getD c ("", fun _ => ("", "", "", false), 0)).2.1 e.2)) = true) : ((qW.getD c []).zip (List.range 100)).all (fun e => qAt e.1 (u_lay (qR c) (qCl.getD c ("", fun _ => ("", "", "", false), 0)).2.1 e.2)) = true := h
theorem qF_all_0 : (qF.getD 0 []).all (fun e => qAt e.2.2.2.1 (qFw 0 e)) = true := qF0 (qFc qF_0_0 (qFd (by decide +kernel)))
theorem qF_all_1 : (qF.getD 1 []).all (fun e => qAt e.2.2.2.1 (qFw 1 e)) = true := qF0 (qFc qF_1_0 (qFd (by decide +kernel)))
theorem qF_all_2 : (qF.getD 2 []).all (fun e => qAt e.2.2.2.1 (qFw 2 e)) = true := qF0 (qFc qF_2_0 (qFd (by decide +kernel)))
theorem qF_all_3 : (qF.getD 3 []).all (fun e => qAt e.2.2.2.1 (qFw 3 e)) = true := qF0 (qFc qF_3_0 (qFd (by decide +kernel)))
theorem qF_all_4 : (qF.getD 4 []).all (fun e => qAt e.2.2.2.1 (qFw 4 e)) = true := qF0 (qFc qF_4_0 (qFd (by decide +kernel)))
theorem qF_all_5 : (qF.getD 5 []).all (fun e => qAt e.2.2.2.1 (qFw 5 e)) = true := qF0 (qFc qF_5_0 (qFc qF_5_1 (qFd (by decide +kernel))))
theorem qF_all_6 : (qF.getD 6 []).all (fun e => qAt e.2.2.2.1 (qFw 6 e)) = true := qF0 (qFc qF_6_0 (qFd (by decide +kernel)))
theorem qF_all_7 : (qF.getD 7 []).all (fun e => qAt e.2.2.2.1 (qFw 7 e)) = true := qF0 (qFc qF_7_0 (qFc qF_7_1 (qFd (by decide +kernel))))
theorem qF_all_8 : (qF.getD 8 []).all (fun e => qAt e.2.2.2.1 (qFw 8 e)) = true := qF0 (qFc qF_8_0 (qFd (by decide +kernel)))
theorem qF_all_9 : (qF.getD 9 []).all (fun e => qAt e.2.2.2.1 (qFw 9 e)) = true := qF0 (qFc qF_9_0 (qFd (by decide +kernel)))
theorem qF_all_10 : (qF.getD 10 []).all (fun e => qAt e.2.2.2.1 (qFw 10 e)) = true := qF0 (qFc qF_10_0 (qFd (by decide +kernel)))
theorem qF_all_11 : (qF.getD 11 []).all (fun e => qAt e.2.2.2.1 (qFw 11 e)) = true := qF0 (qFc qF_11_0 (qFc qF_11_1 (qFc qF_11_2 (qFd (by decide +kernel)))))
theorem qF_all_12 : (qF.getD 12 []).all (fun e => qAt e.2.2.2.1 (qFw 12 e)) = true := qF0 (qFc qF_12_0 (qFc qF_12_1 (qFc qF_12_2 (qFc qF_12_3 (qFd (by decide +kernel))))))
theorem qF_all_13 : (qF.getD 13 []).all (fun e => qAt e.2.2.2.1 (qFw 13 e)) = true := qF0 (qFd (by decide +kernel))
theorem qF_all_14 : (qF.getD 14 []).all (fun e => qAt e.2.2.2.1 (qFw 14 e)) = true := qF0 (qFd (by decide +kernel))
theorem qF_all_15 : (qF.getD 15 []).all (fun e => qAt e.2.2.2.1 (qFw 15 e)) = true := qF0 (qFd (by decide +kernel))
theorem qF_all_16 : (qF.getD 16 []).all (fun e => qAt e.2.2.2.1 (qFw 16 e)) = true := qF0 (qFd (by decide +kernel))
theorem qF_all : ∀ c, (qF.getD c []).all (fun e => qAt e.2.2.2.1 (qFw c e)) = true := fun c => by
  match c with
  | 0 => exact qF_all_0
  | 1 => exact qF_all_1
  | 2 => exact qF_all_2
  | 3 => exact qF_all_3
  | 4 => exact qF_all_4
  | 5 => exact qF_all_5
  | 6 => exact qF_all_6
  | 7 => exact qF_all_7
  | 8 => exact qF_all_8
  | 9 => exact qF_all_9
  | 10 => exact qF_all_10
  | 11 => exact qF_all_11
  | 12 => exact qF_all_12
  | 13 => exact qF_all_13
  | 14 => exact qF_all_14
  | 15 => exact qF_all_15
  | 16 => exact qF_all_16
  | n + 17 => rfl
theorem qK_all_0 : (qK.getD 0 []).all (qKw 0) = true := qK0 (qKc qK_0_0 (qKd (by decide +kernel)))
theorem qK_all_1 : (qK.getD 1 []).all (qKw 1) = true := qK0 (qKc qK_1_0 (qKd (by decide +kernel)))
theorem qK_all_2 : (qK.getD 2 []).all (qKw 2) = true := qK0 (qKc qK_2_0 (qKd (by decide +kernel)))
theorem qK_all_3 : (qK.getD 3 []).all (qKw 3) = true := qK0 (qKc qK_3_0 (qKd (by decide +kernel)))
theorem qK_all_4 : (qK.getD 4 []).all (qKw 4) = true := qK0 (qKc qK_4_0 (qKd (by decide +kernel)))
theorem qK_all_5 : (qK.getD 5 []).all (qKw 5) = true := qK0 (qKc qK_5_0 (qKd (by decide +kernel)))
theorem qK_all_6 : (qK.getD 6 []).all (qKw 6) = true := qK0 (qKc qK_6_0 (qKd (by decide +kernel)))
theorem qK_all_7 : (qK.getD 7 []).all (qKw 7) = true := qK0 (qKc qK_7_0 (qKd (by decide +kernel)))
theorem qK_all_8 : (qK.getD 8 []).all (qKw 8) = true := qK0 (qKd (by decide +kernel))
theorem qK_all_9 : (qK.getD 9 []).all (qKw 9) = true := qK0 (qKd (by decide +kernel))
theorem qK_all_10 : (qK.getD 10 []).all (qKw 10) = true := qK0 (qKc qK_10_0 (qKd (by decide +kernel)))
theorem qK_all_11 : (qK.getD 11 []).all (qKw 11) = true := qK0 (qKc qK_11_0 (qKc qK_11_1 (qKc qK_11_2 (qKd (by decide +kernel)))))
theorem qK_all_12 : (qK.getD 12 []).all (qKw 12) = true := qK0 (qKc qK_12_0 (qKc qK_12_1 (qKc qK_12_2 (qKc qK_12_3 (qKd (by decide +kernel))))))
theorem qK_all_13 : (qK.getD 13 []).all (qKw 13) = true := qK0 (qKc qK_13_0 (qKc qK_13_1 (qKc qK_13_2 (qKc qK_13_3 (qKd (by decide +kernel))))))
theorem qK_all_14 : (qK.getD 14 []).all (qKw 14) = true := qK0 (qKd (by decide +kernel))
theorem qK_all_15 : (qK.getD 15 []).all (qKw 15) = true := qK0 (qKd (by decide +kernel))
theorem qK_all_16 : (qK.getD 16 []).all (qKw 16) = true := qK0 (qKd (by decide +kernel))
theorem qK_all : ∀ c, (qK.getD c []).all (qKw c) = true := fun c => by
  match c with
  | 0 => exact qK_all_0
  | 1 => exact qK_all_1
  | 2 => exact qK_all_2
  | 3 => exact qK_all_3
  | 4 => exact qK_all_4
  | 5 => exact qK_all_5
  | 6 => exact qK_all_6
  | 7 => exact qK_all_7
  | 8 => exact qK_all_8
  | 9 => exact qK_all_9
  | 10 => exact qK_all_10
  | 11 => exact qK_all_11
  | 12 => exact qK_all_12
  | 13 => exact qK_all_13
  | 14 => exact qK_all_14
  | 15 => exact qK_all_15
  | 16 => exact qK_all_16
  | n + 17 => rfl
theorem qW_all_0 : ((qW.getD 0 []).zip (List.range 100)).all (fun e => qAt e.1 (u_lay (qR 0) (qCl.getD 0 ("", fun _ => ("", "", "", false), 0)).2.1 e.2)) = true := qW0 (qWc qW_0_0 (qWd (by decide +kernel)))
theorem qW_all_1 : ((qW.getD 1 []).zip (List.range 100)).all (fun e => qAt e.1 (u_lay (qR 1) (qCl.getD 1 ("", fun _ => ("", "", "", false), 0)).2.1 e.2)) = true := qW0 (qWc qW_1_0 (qWd (by decide +kernel)))
theorem qW_all_2 : ((qW.getD 2 []).zip (List.range 100)).all (fun e => qAt e.1 (u_lay (qR 2) (qCl.getD 2 ("", fun _ => ("", "", "", false), 0)).2.1 e.2)) = true := qW0 (qWc qW_2_0 (qWd (by decide +kernel)))
theorem qW_all_3 : ((qW.getD 3 []).zip (List.range 100)).all (fun e => qAt e.1 (u_lay (qR 3) (qCl.getD 3 ("", fun _ => ("", "", "", false), 0)).2.1 e.2)) = true := qW0 (qWc qW_3_0 (qWd (by decide +kernel)))
theorem qW_all_4 : ((qW.getD 4 []).zip (List.range 100)).all (fun e => qAt e.1 (u_lay (qR 4) (qCl.getD 4 ("", fun _ => ("", "", "", false), 0)).2.1 e.2)) = true := qW0 (qWc qW_4_0 (qWd (by decide +kernel)))
theorem qW_all_5 : ((qW.getD 5 []).zip (List.range 100)).all (fun e => qAt e.1 (u_lay (qR 5) (qCl.getD 5 ("", fun _ => ("", "", "", false), 0)).2.1 e.2)) = true := qW0 (qWc qW_5_0 (qWd (by decide +kernel)))
theorem qW_all_6 : ((qW.getD 6 []).zip (List.range 100)).all (fun e => qAt e.1 (u_lay (qR 6) (qCl.getD 6 ("", fun _ => ("", "", "", false), 0)).2.1 e.2)) = true := qW0 (qWc qW_6_0 (qWd (by decide +kernel)))
theorem qW_all_7 : ((qW.getD 7 []).zip (List.range 100)).all (fun e => qAt e.1 (u_lay (qR 7) (qCl.getD 7 ("", fun _ => ("", "", "", false), 0)).2.1 e.2)) = true := qW0 (qWc qW_7_0 (qWd (by decide +kernel)))
theorem qW_all_8 : ((qW.getD 8 []).zip (List.range 100)).all (fun e => qAt e.1 (u_lay (qR 8) (qCl.getD 8 ("", fun _ => ("", "", "", false), 0)).2.1 e.2)) = true := qW0 (qWc qW_8_0 (qWd (by decide +kernel)))
theorem qW_all_9 : ((qW.getD 9 []).zip (List.range 100)).all (fun e => qAt e.1 (u_lay (qR 9) (qCl.getD 9 ("", fun _ => ("", "", "", false), 0)).2.1 e.2)) = true := qW0 (qWc qW_9_0 (qWd (by decide +kernel)))
theorem qW_all_10 : ((qW.getD 10 []).zip (List.range 100)).all (fun e => qAt e.1 (u_lay (qR 10) (qCl.getD 10 ("", fun _ => ("", "", "", false), 0)).2.1 e.2)) = true := qW0 (qWc qW_10_0 (qWd (by decide +kernel)))
theorem qW_all_11 : ((qW.getD 11 []).zip (List.range 100)).all (fun e => qAt e.1 (u_lay (qR 11) (qCl.getD 11 ("", fun _ => ("", "", "", false), 0)).2.1 e.2)) = true := qW0 (qWc qW_11_0 (qWd (by decide +kernel)))
theorem qW_all_12 : ((qW.getD 12 []).zip (List.range 100)).all (fun e => qAt e.1 (u_lay (qR 12) (qCl.getD 12 ("", fun _ => ("", "", "", false), 0)).2.1 e.2)) = true := qW0 (qWc qW_12_0 (qWc qW_12_1 (qWc qW_12_2 (qWc qW_12_3 (qWd (by decide +kernel))))))
theorem qW_all : ∀ c, c < 13 → ((qW.getD c []).zip (List.range 100)).all (fun e => qAt e.1 (u_lay (qR c) (qCl.getD c ("", fun _ => ("", "", "", false), 0)).2.1 e.2)) = true := fun c hc => by
  match c, hc with
  | 0, _ => exact qW_all_0
  | 1, _ => exact qW_all_1
  | 2, _ => exact qW_all_2
  | 3, _ => exact qW_all_3
  | 4, _ => exact qW_all_4
  | 5, _ => exact qW_all_5
  | 6, _ => exact qW_all_6
  | 7, _ => exact qW_all_7
  | 8, _ => exact qW_all_8
  | 9, _ => exact qW_all_9
  | 10, _ => exact qW_all_10
  | 11, _ => exact qW_all_11
  | 12, _ => exact qW_all_12
  | n + 13, h => exact absurd h (by omega)
theorem qN_all : ∀ c, qNok c = true := fun c => by
  match c with
  | 0 => exact qN_ok_0
  | 1 => exact rfl
  | 2 => exact rfl
  | 3 => exact rfl
  | 4 => exact qN_ok_4
  | 5 => exact qN_ok_5
  | 6 => exact rfl
  | 7 => exact rfl
  | 8 => exact rfl
  | 9 => exact rfl
  | 10 => exact rfl
  | 11 => exact qN_ok_11
  | 12 => exact rfl
  | 13 => exact qN_ok_13
  | 14 => exact rfl
  | 15 => exact rfl
  | 16 => exact rfl
  | n + 17 => rfl
theorem qI_all : ∀ c, qIok c = true := fun c => by
  match c with
  | 0 => exact rfl
  | 1 => exact rfl
  | 2 => exact qI_ok_2
  | 3 => exact rfl
  | 4 => exact rfl
  | 5 => exact rfl
  | 6 => exact rfl
  | 7 => exact rfl
  | 8 => exact rfl
  | 9 => exact rfl
  | 10 => exact rfl
  | 11 => exact qI_ok_11
  | 12 => exact qI_ok_12
  | 13 => exact rfl
  | 14 => exact qI_ok_14
  | 15 => exact rfl
  | 16 => exact rfl
  | n + 17 => rfl
theorem qJ_all : ∀ c, qJok c = true := fun c => by
  match c with
  | 0 => exact rfl
  | 1 => exact rfl
  | 2 => exact rfl
  | 3 => exact rfl
  | 4 => exact rfl
  | 5 => exact qJ_ok_5
  | 6 => exact rfl
  | 7 => exact qJ_ok_7
  | 8 => exact rfl
  | 9 => exact rfl
  | 10 => exact rfl
  | 11 => exact qJ_ok_11
  | 12 => exact qJ_ok_12
  | 13 => exact rfl
  | 14 => exact rfl
  | 15 => exact rfl
  | 16 => exact rfl
  | n + 17 => rfl
theorem qO_all : ∀ c, c < 13 → qOok c = true := fun c hc => by
  match c, hc with
  | 0, _ => exact qO_ok_0
  | 1, _ => exact qO_ok_1
  | 2, _ => exact qO_ok_2
  | 3, _ => exact qO_ok_3
  | 4, _ => exact qO_ok_4
  | 5, _ => exact qO_ok_5
  | 6, _ => exact qO_ok_6
  | 7, _ => exact qO_ok_7
  | 8, _ => exact qO_ok_8
  | 9, _ => exact qO_ok_9
  | 10, _ => exact qO_ok_10
  | 11, _ => exact qO_ok_11
  | 12, _ => exact qO_ok_12
  | n + 13, h => exact absurd h (by omega)
theorem qW_in {c : Nat} (h : c < 13) : ∀ w ∈ u_ws (qCl.getD c qDef).1 (qCl.getD c qDef).2.1 (qCl.getD c qDef).2.2, w ∈ qWall := by
  intro w hw
  obtain ⟨k, hk, rfl⟩ := List.mem_map.mp hw
  have hk := List.mem_range.mp hk
  have hl : (qW.getD c []).length = (qCl.getD c qDef).2.2 ∧ (qCl.getD c qDef).2.2 ≤ 100 := by
    have : (List.range 13).all (fun c => Nat.beq (qW.getD c []).length (qCl.getD c qDef).2.2 && Nat.ble (qCl.getD c qDef).2.2 100) = true := by decide +kernel
    have := qrange this h
    simp only [Bool.and_eq_true] at this
    exact ⟨Nat.eq_of_beq_eq_true this.1, Nat.le_of_ble_eq_true this.2⟩
  have hz : ((qW.getD c []).zip (List.range 100))[k]? = some ((qW.getD c [])[k]'(by omega), k) := by
    rw [List.getElem?_eq_getElem (by rw [List.length_zip, List.length_range]; omega), List.getElem_zip, List.getElem_range]
  have hm := List.all_eq_true.mp (qW_all c h) _ (List.mem_of_getElem? hz)
  have he := qAt_spec hm
  rw [show (qCl.getD c ("", fun _ => ("", "", "", false), 0)) = qCl.getD c qDef from rfl, ← qCl_R h] at he
  refine qwall_in he ?_
  unfold u_lay
  split <;> rfl
def qFj (c : Nat) : Bool := (qF.getD c []).all (fun e => Nat.blt e.2.1 13 && Nat.blt e.2.2.1 (qTys.getD e.2.1 []).length)
theorem qFj_all : (List.range 17).all qFj = true := by decide +kernel
theorem qF_mem {c i a b p : Nat} {n : Bool} (h : qF_ c i = some (a, b, p, n)) : (i, a, b, p, n) ∈ qF.getD c [] := qlookup h
theorem qF_spec {c i a b p : Nat} {n : Bool} (h : qF_ c i = some (a, b, p, n)) : lw_tbl[p]? = some (qFw c (i, a, b, p, n)) ∧ a < 13 ∧ b < (qTys.getD a []).length := by
  have hm := qF_mem h
  have hc : c < 17 := Nat.lt_of_not_le fun q => by
    rw [List.getD_eq_getElem?_getD, List.getElem?_eq_none (show qF.length ≤ c from q)] at hm
    cases hm
  have h2 := List.all_eq_true.mp (qrange qFj_all hc) _ hm
  simp only [Bool.and_eq_true] at h2
  exact ⟨qAt_spec (List.all_eq_true.mp (qF_all c) _ hm), by simpa using h2.1, by simpa using h2.2⟩
theorem qI_spec {c i p : Nat} {v : Int32} (h : qI_ c i = some (v, p)) : Cond.constant (qR c) i v ∈ qWall := by
  have h2 := List.all_eq_true.mp (qI_all c) _ (qlookup h)
  exact qwall_in (qAt_spec h2) rfl
theorem qJ_spec {c i p : Nat} {v : Int64} (h : qJ_ c i = some (v, p)) : Cond.constantLong (qR c) i v ∈ qWall := by
  have h2 := List.all_eq_true.mp (qJ_all c) _ (qlookup h)
  exact qwall_in (qAt_spec h2) rfl
theorem qN_spec {c i a p1 p2 p3 : Nat} (h : qN_ c i = some (a, p1, p2, p3)) : Cond.classLink (qR c) i (qR a) ∈ qWall ∧ Cond.instantiable (qR a) (qTys.getD a []).length ∈ qWall ∧ Cond.initialized (qR a) ∈ qWall := by
  have h2 := List.all_eq_true.mp (qN_all c) _ (qlookup h)
  simp only [Bool.and_eq_true] at h2
  exact ⟨qwall_in (qAt_spec h2.1.1) rfl, qwall_in (qAt_spec h2.1.2) rfl, qwall_in (qAt_spec h2.2) rfl⟩
theorem qO_spec {c : Nat} (h : c < 13) : Cond.methodLink (qR c) (qO.getD c (0, 0)).1 objectInit ∈ qWall := qwall_in (qAt_spec (qO_all c h)) rfl
