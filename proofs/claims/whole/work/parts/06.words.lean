/-! the tables' links are words of the Statement -/
def qR (c : Nat) : String := qOwn.getD c ""
def qf (c j : Nat) : String × String × String × Bool := (qCl.getD c ("", fun _ => ("", "", "", false), 0)).2.1 j
def qFw (c : Nat) (e : Nat × Nat × Nat × Nat × Bool) : Cond := if e.2.2.2.2 then .fieldLinkNest (qR c) e.1 (qR e.2.1) (qf e.2.1 e.2.2.1).2.1 (qf e.2.1 e.2.2.1).2.2.1 "SaggingNet" else .fieldLink (qR c) e.1 (qR e.2.1) (qf e.2.1 e.2.2.1).2.1 (qf e.2.1 e.2.2.1).2.2.1
def qAt (p : Nat) (w : Cond) : Bool := match lw_tbl[p]? with
  | some v => decide (v = w)
  | none => false
theorem qAt_spec {p : Nat} {w : Cond} (h : qAt p w = true) : lw_tbl[p]? = some w := by
  unfold qAt at h
  split at h
  · rename_i v hv
    rw [decide_eq_true_eq] at h
    rw [hv, h]
  · cases h
def qFok (c : Nat) : Bool := (qF.getD c []).all (fun e => qAt e.2.2.2.1 (qFw c e))
/-- a call's words: link, static or instance, selects, initialized -/
def qKw (c : Nat) (e : Nat × Nat × Nat × Nat × Nat × Nat × Nat × Nat) : Bool :=
  let y := qnm e.2.1
  qAt e.2.2.2.2.1 (if e.2.2.2.1 = 3 then .methodLinkNest (qR c) e.1 y "SaggingNet" else .methodLink (qR c) e.1 y) &&
  qAt e.2.2.2.2.2.1 (if e.2.2.2.1 = 1 then .static y else .instanceMethod y) &&
  (e.2.2.2.1 != 0 || qAt e.2.2.2.2.2.2.1 (.selects y.cls y y)) && qAt e.2.2.2.2.2.2.2 (.initialized y.cls)
def qKok (c a n : Nat) : Bool := (((qK.getD c []).drop a).take n).all (qKw c)
def qNok (c : Nat) : Bool := (qN.getD c []).all (fun e => qAt e.2.2.1 (.classLink (qR c) e.1 (qR e.2.1)) && qAt e.2.2.2.1 (.instantiable (qR e.2.1) (qTys.getD e.2.1 []).length) && qAt e.2.2.2.2 (.initialized (qR e.2.1)))
def qIok (c : Nat) : Bool := (qI.getD c []).all (fun e => qAt e.2.2 (.constant (qR c) e.1 e.2.1))
def qJok (c : Nat) : Bool := (qJ.getD c []).all (fun e => qAt e.2.2 (.constantLong (qR c) e.1 e.2.1))
def qOok (c : Nat) : Bool := qAt (qO.getD c (0, 0)).2 (.methodLink (qR c) (qO.getD c (0, 0)).1 objectInit)
def qFok2 (c a n : Nat) : Bool := (((qF.getD c []).drop a).take n).all (fun e => qAt e.2.2.2.1 (qFw c e))
def qWok (c a n : Nat) : Bool := ((((qW.getD c []).zip (List.range 100)).drop a).take n).all (fun e => qAt e.1 (u_lay (qR c) (qCl.getD c ("", fun _ => ("", "", "", false), 0)).2.1 e.2))
theorem qF_0_0 : qFok2 0 0 20 = true := by decide +kernel
theorem qK_0_0 : qKok 0 0 20 = true := by decide +kernel
theorem qW_0_0 : qWok 0 0 20 = true := by decide +kernel
theorem qN_ok_0 : qNok 0 = true := by decide +kernel
theorem qO_ok_0 : qOok 0 = true := by decide +kernel
theorem qF_1_0 : qFok2 1 0 20 = true := by decide +kernel
theorem qK_1_0 : qKok 1 0 20 = true := by decide +kernel
theorem qW_1_0 : qWok 1 0 20 = true := by decide +kernel
theorem qO_ok_1 : qOok 1 = true := by decide +kernel
theorem qF_2_0 : qFok2 2 0 20 = true := by decide +kernel
theorem qK_2_0 : qKok 2 0 20 = true := by decide +kernel
theorem qW_2_0 : qWok 2 0 20 = true := by decide +kernel
theorem qI_ok_2 : qIok 2 = true := by decide +kernel
theorem qO_ok_2 : qOok 2 = true := by decide +kernel
theorem qF_3_0 : qFok2 3 0 20 = true := by decide +kernel
theorem qK_3_0 : qKok 3 0 20 = true := by decide +kernel
theorem qW_3_0 : qWok 3 0 20 = true := by decide +kernel
theorem qO_ok_3 : qOok 3 = true := by decide +kernel
theorem qF_4_0 : qFok2 4 0 20 = true := by decide +kernel
theorem qK_4_0 : qKok 4 0 20 = true := by decide +kernel
theorem qW_4_0 : qWok 4 0 20 = true := by decide +kernel
theorem qN_ok_4 : qNok 4 = true := by decide +kernel
theorem qO_ok_4 : qOok 4 = true := by decide +kernel
theorem qF_5_0 : qFok2 5 0 20 = true := by decide +kernel
theorem qF_5_1 : qFok2 5 20 20 = true := by decide +kernel
theorem qK_5_0 : qKok 5 0 20 = true := by decide +kernel
theorem qW_5_0 : qWok 5 0 20 = true := by decide +kernel
theorem qN_ok_5 : qNok 5 = true := by decide +kernel
theorem qJ_ok_5 : qJok 5 = true := by decide +kernel
theorem qO_ok_5 : qOok 5 = true := by decide +kernel
theorem qF_6_0 : qFok2 6 0 20 = true := by decide +kernel
theorem qK_6_0 : qKok 6 0 20 = true := by decide +kernel
theorem qW_6_0 : qWok 6 0 20 = true := by decide +kernel
theorem qO_ok_6 : qOok 6 = true := by decide +kernel
theorem qF_7_0 : qFok2 7 0 20 = true := by decide +kernel
theorem qF_7_1 : qFok2 7 20 20 = true := by decide +kernel
theorem qK_7_0 : qKok 7 0 20 = true := by decide +kernel
theorem qW_7_0 : qWok 7 0 20 = true := by decide +kernel
theorem qJ_ok_7 : qJok 7 = true := by decide +kernel
theorem qO_ok_7 : qOok 7 = true := by decide +kernel
theorem qF_8_0 : qFok2 8 0 20 = true := by decide +kernel
theorem qW_8_0 : qWok 8 0 20 = true := by decide +kernel
theorem qO_ok_8 : qOok 8 = true := by decide +kernel
theorem qF_9_0 : qFok2 9 0 20 = true := by decide +kernel
theorem qW_9_0 : qWok 9 0 20 = true := by decide +kernel
theorem qO_ok_9 : qOok 9 = true := by decide +kernel
theorem qF_10_0 : qFok2 10 0 20 = true := by decide +kernel
theorem qK_10_0 : qKok 10 0 20 = true := by decide +kernel
theorem qW_10_0 : qWok 10 0 20 = true := by decide +kernel
theorem qO_ok_10 : qOok 10 = true := by decide +kernel
theorem qF_11_0 : qFok2 11 0 20 = true := by decide +kernel
theorem qF_11_1 : qFok2 11 20 20 = true := by decide +kernel
theorem qF_11_2 : qFok2 11 40 20 = true := by decide +kernel
theorem qK_11_0 : qKok 11 0 20 = true := by decide +kernel
theorem qK_11_1 : qKok 11 20 20 = true := by decide +kernel
theorem qK_11_2 : qKok 11 40 20 = true := by decide +kernel
theorem qW_11_0 : qWok 11 0 20 = true := by decide +kernel
theorem qN_ok_11 : qNok 11 = true := by decide +kernel
theorem qI_ok_11 : qIok 11 = true := by decide +kernel
theorem qJ_ok_11 : qJok 11 = true := by decide +kernel
theorem qO_ok_11 : qOok 11 = true := by decide +kernel
theorem qF_12_0 : qFok2 12 0 20 = true := by decide +kernel
theorem qF_12_1 : qFok2 12 20 20 = true := by decide +kernel
theorem qF_12_2 : qFok2 12 40 20 = true := by decide +kernel
theorem qF_12_3 : qFok2 12 60 20 = true := by decide +kernel
theorem qK_12_0 : qKok 12 0 20 = true := by decide +kernel
theorem qK_12_1 : qKok 12 20 20 = true := by decide +kernel
theorem qK_12_2 : qKok 12 40 20 = true := by decide +kernel
theorem qK_12_3 : qKok 12 60 20 = true := by decide +kernel
theorem qW_12_0 : qWok 12 0 20 = true := by decide +kernel
theorem qW_12_1 : qWok 12 20 20 = true := by decide +kernel
theorem qW_12_2 : qWok 12 40 20 = true := by decide +kernel
theorem qW_12_3 : qWok 12 60 20 = true := by decide +kernel
theorem qI_ok_12 : qIok 12 = true := by decide +kernel
theorem qJ_ok_12 : qJok 12 = true := by decide +kernel
theorem qO_ok_12 : qOok 12 = true := by decide +kernel
theorem qK_13_0 : qKok 13 0 20 = true := by decide +kernel
theorem qK_13_1 : qKok 13 20 20 = true := by decide +kernel
theorem qK_13_2 : qKok 13 40 20 = true := by decide +kernel
theorem qK_13_3 : qKok 13 60 20 = true := by decide +kernel
theorem qN_ok_13 : qNok 13 = true := by decide +kernel
theorem qI_ok_14 : qIok 14 = true := by decide +kernel
