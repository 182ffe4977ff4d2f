/-! The law: from a run of the pure machine to the walk of its body. (The rows up to lw_At are the skeleton's.) -/
def R_law : String := "SaggingNetLaw"
def lw_P (b : Addr) (xs : List Int32) (args : Array Value) (s : State) : Prop := args = #[.ref b] ∧ s.IntsAt b xs ∧ xs.length ≤ 3072 ∧ (Jvm.Cond.and given_1 narrow_1).before args s = true
def lw_Q (_ : Array Value) (s : State) (o : Outcome) (t : State) : Prop := o = .returned (some (.int 1)) ∧ Framed s o t [] 600000 7302250
def lw_Z (below : List Frame) (a : Array Value) (s : State) : State → Prop := fun t => ∃ o, t.status = .running ∧ Ended t below o ∧ lw_Q a s o t
/-- the law's own end, with 1 on the stack, nothing written that was there before, its room as the claim has it -/
theorem lw_ret {p : Program} {l : Launch} {e : Env} {s : State} {m : MethodId} {below : List Frame} {meth : Method} {c : Code} {b : Nat} (hx : p.tables.exec = Jvm.exec) (hb : c.code = code) (hr : meth.sig.returnType = ret) (hlocks : meth.locks = false) {pc : Nat} {H : Heap} {ls : Array Slot} (hdg : decode code pc = .ok (.ireturn, 1)) : W p l e room_1 s m #[Value.ref b] below meth c H [] 600000 7302250 (lw_Z below #[Value.ref b] s) (F0 m pc ls [.int 1]) := by
  intro T hT X
  obtain ⟨fs, hret, hrun, hended, hW, hframe⟩ := X.leave (v := some (.int 1)) (hlocks := hlocks) (fun h => by rw [hr] at h; cases h)
  have hmeth' : T.vm.method? m = some meth := X.method'
  refine ⟨T.setFrames fs, ?_, .returned (some (.int 1)), hrun, hended, rfl, ⟨_, rfl⟩, hW, hframe⟩
  jvm_step X.here [X.here.top, hx, hb, hdg, hmeth', hr, ret, narrow_b1]
  (try refine ⟨rfl, ?_⟩); (try refine ⟨rfl, ?_⟩)
  first | (intro acts; rw [hret _ acts rfl rfl rfl]) | rw [hret _ _ rfl rfl rfl]
  exact Steps.refl _
/-- what holds at the law's entry: the machine, the code, the tables' words (any of lw_tbl by 'hts w (by decide +kernel)'), the script of L ints xs at the cell b, what the Statement gives of the start (any of its parts by flat_of_before) -/
def lw_At (p : Program) (s : State) (m : MethodId) (meth : Method) (c : Code) (b L : Nat) (xs : Nat → Int32) : Prop :=
  p.tables.exec = Jvm.exec ∧ c.code = code ∧ meth.sig.returnType = ret ∧ c.maxLocals = 4 ∧ s.vm.findClass R_law = some m.cls ∧ (∀ w ∈ lw_tbl, w.before #[Value.ref b] s = true) ∧ va_X b L xs s s.heap ∧ b < s.heap.size ∧ meth.locks = false ∧ (Jvm.Cond.and given_1 narrow_1).before #[Value.ref b] s = true

def qInst : List Nat := [396, 546, 506, 455, 139, 413, 478, 335, 281, 575, 145, 131, 1174]
theorem qInst_ok : (List.range 13).all (fun c => qAt (qInst.getD c 0) (.instantiable (qR c) (qTys.getD c []).length)) = true := by decide +kernel
theorem qinst_in {c : Nat} (h : c < 13) : Cond.instantiable (qR c) (qTys.getD c []).length ∈ qWall := qwall_in (qAt_spec (qrange qInst_ok h)) rfl
theorem qao_1 : lw_tbl[333]? = some (Cond.arrayOver (.object "SaggingNet$State")) := qAt_spec (by decide +kernel)
theorem qao_2 : lw_tbl[341]? = some (Cond.arrayOver (.array .long)) := qAt_spec (by decide +kernel)
theorem qao_3 : lw_tbl[512]? = some (Cond.arrayOver (.array .int)) := qAt_spec (by decide +kernel)
theorem qls_1 : lw_tbl[783]? = some (Cond.laysStatic "SaggingNet$Text" "SIGNS" "[C") := qAt_spec (by decide +kernel)
theorem qls_2 : lw_tbl[115]? = some (Cond.initialized "SaggingNet$Text") := qAt_spec (by decide +kernel)
theorem qac_char : Cond.arrayClass .char ∈ qWall := qwall_in (p := 1878) (qAt_spec (by decide +kernel)) rfl
def qam (b t base : Nat) : Nat → Nat
  | 0 => b
  | 1 => t
  | i + 2 => base + i
/-- the pure heap of the law's entry: the script of L ints xs, and the static row -/
def qh0 (L : Nat) (xs : Nat → Int32) : qH := (2, 0, fun i => if i = 0 then some (.inl (8, L, .inl xs)) else if i = 1 then some (.inl (9, 11, .inl qSg)) else none)
/-- THE CLAIM IN PURE WORDS: on every script the pure machine runs the law to its end with 1, within the room -/
def qPure : Prop := ∀ (L : Nat) (xs : Nat → Int32), L ≤ 3072 → ∃ (n : Nat) (hF : qH), qExec n 2048 0 0 [some (.ref 0), none, none, none] [] (qh0 L xs) = some (some (.int 1), hF) ∧ hF.1 ≤ 600002 ∧ hF.2.1 ≤ 7302250
theorem qarr_of {args : Array Value} {s : State} {ty : FieldType} (h : (Cond.arrayClass ty).before args s = true) (hr : ∀ cA : ClassId, s.vm.findClass ("[" ++ ty.toString) = some cA → va_RA s cA ty) : ∃ cA : ClassId, ArrOfT s cA ty ∧ va_RA s cA ty := by
  obtain ⟨cA, k, comp, h1, h2, h3⟩ := Cond.arrayClass_spec h
  exact ⟨cA, fun N z => ⟨fun q hq => (by cases hq), k, h2, comp, h3⟩, hr cA h1⟩
theorem qarr_obj {args : Array Value} {s : State} {C : String} (h : (Cond.arrayOver (.object C)).before args s = true) : ∃ cA : ClassId, ArrOfT s cA (.object C) ∧ va_RA s cA (.object C) := by
  obtain ⟨comp, cA, k, h1, h2, h3, h4, h5⟩ := Cond.arrayOver_spec h
  exact ⟨cA, fun N z => ⟨fun q hq => (by cases hq), k, h3, comp, h4⟩, k, comp, h3, h4, h1, h5⟩
theorem qarr_arr {args : Array Value} {s : State} {ty : FieldType} (h : (Cond.arrayOver (.array ty)).before args s = true) : ∃ cA : ClassId, ArrOfT s cA (.array ty) ∧ va_RA s cA (.array ty) := by
  obtain ⟨comp, cA, k, h1, h3, h4, h5⟩ := Cond.arrayOver_specA h
  exact ⟨cA, fun N z => ⟨fun q hq => (by cases hq), k, h3, comp, h4⟩, h5⟩
theorem qKS_start {s : State} {b : Nat} (hts : ∀ w ∈ lw_tbl, w.before #[Value.ref b] s = true) : ∃ (dC : Nat → ClassId) (dI : Nat → Nat → Nat) (tc : Nat → ClassId), qKS dC dI tc s := by
  have htw : ∀ w ∈ qWall, w.before #[Value.ref b] s = true := fun w hw => hts w (qwall_tbl hw)
  have at_ : ∀ {p : Nat} {w : Cond}, lw_tbl[p]? = some w → w.before #[Value.ref b] s = true := fun h => hts _ (List.mem_of_getElem? h)
  have hk : ∀ c : Nat, ∃ x : ClassId × (Nat → Nat), c < 13 → u_Kn s (qCl.getD c qDef).1 (qCl.getD c qDef).2.1 (qCl.getD c qDef).2.2 x.1 x.2 := by
    intro c
    by_cases hc : c < 13
    · obtain ⟨cC, iS, h⟩ := u_known (n := (qTys.getD c []).length) htw (qW_in hc) (by rw [qCl_R hc]; exact htw _ (qinst_in hc))
      exact ⟨(cC, iS), fun _ => h⟩
    · exact ⟨(0, fun _ => 0), fun h => absurd h hc⟩
  have ht : ∀ k : Nat, ∃ cA : ClassId, k < 8 → ArrOfT s cA (qTy.getD k .int) ∧ va_RA s cA (qTy.getD k .int) := by
    intro k
    by_cases hk8 : k < 8
    · have key : (∃ cA : ClassId, ArrOfT s cA (qTy.getD k .int) ∧ va_RA s cA (qTy.getD k .int)) → ∃ cA : ClassId, k < 8 → ArrOfT s cA (qTy.getD k .int) ∧ va_RA s cA (qTy.getD k .int) := fun ⟨cA, h⟩ => ⟨cA, fun _ => h⟩
      apply key
      have h9 : k = 0 ∨ k = 1 ∨ k = 2 ∨ k = 3 ∨ k = 4 ∨ k = 5 ∨ k = 6 ∨ k = 7 := by omega
      rcases h9 with rfl | rfl | rfl | rfl | rfl | rfl | rfl | rfl
      · exact qarr_of (ty := .int) (htw _ qac_int) (fun _ h => h)
      · exact qarr_of (ty := .boolean) (htw _ qac_boolean) (fun _ h => h)
      · exact qarr_of (ty := .long) (htw _ qac_long) (fun _ h => h)
      · exact qarr_of (ty := .byte) (htw _ qac_byte) (fun _ h => h)
      · exact qarr_of (ty := .char) (htw _ qac_char) (fun _ h => h)
      · exact qarr_obj (at_ qao_1)
      · exact qarr_arr (at_ qao_3)
      · exact qarr_arr (at_ qao_2)
    · exact ⟨0, fun h => absurd h hk8⟩
  refine ⟨fun c => (Classical.choose (hk c)).1, fun c => (Classical.choose (hk c)).2, fun k => Classical.choose (ht k), ⟨fun c q hq => ?_, fun k q hq => ?_⟩, fun c e he hn => ?_, fun c e he hn => ?_, va_AO.of (at_ qao_1), at_ qao_3, at_ qao_2⟩
  · have hc : c < 13 := (List.getElem?_eq_some_iff.mp hq).1
    have hq2 := (qCl_at hc).symm.trans hq
    cases hq2
    exact Classical.choose_spec (hk c) hc
  · have hk8 : k < 8 := by
      have := (List.getElem?_eq_some_iff.mp hq).1
      unfold qtys at this
      rw [List.length_map, List.length_range] at this
      exact this
    unfold qtys at hq
    rw [List.getElem?_map, List.getElem?_range hk8] at hq
    cases hq
    exact Classical.choose_spec (ht k) hk8
  · have hm := List.all_eq_true.mp (qF_all c) _ he
    have h9 := at_ (qAt_spec hm)
    unfold qFw at h9 ⊢
    rw [if_pos hn] at h9 ⊢
    exact va_Nw.of rfl h9
  · have hm := List.all_eq_true.mp (qK_all c) _ he
    unfold qKw at hm
    simp only [Bool.and_eq_true] at hm
    have h9 := at_ (qAt_spec hm.1.1.1)
    rw [if_pos hn] at h9
    exact va_Nw.of rfl h9
theorem qHS_start {s : State} {b L : Nat} {xs : Nat → Int32} (hts : ∀ w ∈ lw_tbl, w.before #[Value.ref b] s = true) (hX : va_X b L xs s s.heap) (hbl : b < s.heap.size) (hgv : (Jvm.Cond.and given_1 narrow_1).before #[Value.ref b] s = true) : ∃ t : Nat, qHS (qam b t s.heap.size) s.heap.size L xs s s.heap := by
  have at_ : ∀ {p : Nat} {w : Cond}, lw_tbl[p]? = some w → w.before #[Value.ref b] s = true := fun h => hts _ (List.mem_of_getElem? h)
  have hs := flat_of_before _ hgv
  have hA : ∀ a : Nat, a < s.heap.size → ¬ s.heap.size ≤ a := fun a h => by omega
  obtain ⟨t, ht, hT⟩ := va_Tof (tm := .static "SaggingNet$Text" "SIGNS" "[C") (ty := .char) (N := 11) (f := fun j => .int (qSg j)) (A := fun q => s.heap.size ≤ q) (by decide) (hs _ (by decide +kernel)) (va_eqt (z := 11) (hs _ (by decide +kernel))) (fun j hj => by
      have h9 : j = 0 ∨ j = 1 ∨ j = 2 ∨ j = 3 ∨ j = 4 ∨ j = 5 ∨ j = 6 ∨ j = 7 ∨ j = 8 ∨ j = 9 ∨ j = 10 := by omega
      rcases h9 with rfl | rfl | rfl | rfl | rfl | rfl | rfl | rfl | rfl | rfl | rfl
      · exact va_eqt (z := 109) (hs (.eq (.elem (.static "SaggingNet$Text" "SIGNS" "[C") (.int 0)) (.int 109)) (by decide +kernel))
      · exact va_eqt (z := 105) (hs (.eq (.elem (.static "SaggingNet$Text" "SIGNS" "[C") (.int 1)) (.int 105)) (by decide +kernel))
      · exact va_eqt (z := 107) (hs (.eq (.elem (.static "SaggingNet$Text" "SIGNS" "[C") (.int 2)) (.int 107)) (by decide +kernel))
      · exact va_eqt (z := 114) (hs (.eq (.elem (.static "SaggingNet$Text" "SIGNS" "[C") (.int 3)) (.int 114)) (by decide +kernel))
      · exact va_eqt (z := 100) (hs (.eq (.elem (.static "SaggingNet$Text" "SIGNS" "[C") (.int 4)) (.int 100)) (by decide +kernel))
      · exact va_eqt (z := 110) (hs (.eq (.elem (.static "SaggingNet$Text" "SIGNS" "[C") (.int 5)) (.int 110)) (by decide +kernel))
      · exact va_eqt (z := 102) (hs (.eq (.elem (.static "SaggingNet$Text" "SIGNS" "[C") (.int 6)) (.int 102)) (by decide +kernel))
      · exact va_eqt (z := 108) (hs (.eq (.elem (.static "SaggingNet$Text" "SIGNS" "[C") (.int 7)) (.int 108)) (by decide +kernel))
      · exact va_eqt (z := 119) (hs (.eq (.elem (.static "SaggingNet$Text" "SIGNS" "[C") (.int 8)) (.int 119)) (by decide +kernel))
      · exact va_eqt (z := 103) (hs (.eq (.elem (.static "SaggingNet$Text" "SIGNS" "[C") (.int 9)) (.int 103)) (by decide +kernel))
      · exact va_eqt (z := 120) (hs (.eq (.elem (.static "SaggingNet$Text" "SIGNS" "[C") (.int 10)) (.int 120)) (by decide +kernel))) hA
  exact ⟨t, hX, hbl, by show ¬ s.heap.size ≤ b; omega, va_Zof (at_ qls_1) (at_ qls_2) ht hA, hT⟩
theorem q48 : 2048 ≤ room_1.frames := Nat.le_of_ble_eq_true rfl
theorem q49 : 41 * 2048 ≤ room_1.locals := Nat.le_of_ble_eq_true rfl
set_option maxHeartbeats 4000000 in
/-- the walk out of the pure run -/
theorem qstart (hP : qPure) {p : Program} {e : Env} {s : State} {m : MethodId} {below : List Frame} {meth : Method} {c : Code} (l : Launch) {b L : Nat} {xs : Nat → Int32} (hL : L ≤ 3072) (C0 : lw_At p s m meth c b L xs) : W p l e room_1 s m #[Value.ref b] below meth c s.heap [] 0 0 (lw_Z below #[Value.ref b] s) (entryFrame m ([Value.ref b] : List Value).toArray 4) := by
  obtain ⟨hx, hb, hr, hml, hown, hts, hX, hbl, hlocks, hgv⟩ := C0
  obtain ⟨dC, dI, tc, hK⟩ := qKS_start hts
  obtain ⟨t, hZ⟩ := qHS_start hts hX hbl hgv
  obtain ⟨n, hF, hq, hcF, hsF⟩ := hP L xs hL
  have hent : qent 0 [.ref 0] = some [some (.ref 0), none, none, none] := by decide +kernel
  obtain ⟨-, g2⟩ := qent_spec hent (qam b t s.heap.size)
  rw [lg_entry_eq]
  have hmx : qmx 0 = 4 := by decide +kernel
  rw [hmx] at g2
  change qLR _ _ ((lg_sl [Value.ref b] ++ List.replicate (4 - (lg_sl [Value.ref b]).length) Slot.unset).toArray) 4 at g2
  generalize (lg_sl [Value.ref b] ++ List.replicate (4 - (lg_sl [Value.ref b]).length) Slot.unset).toArray = A at g2 ⊢
  have hini : qini 0 = false := by decide +kernel
  have hrt : qrt 0 = some .boolean := by decide +kernel
  have hf : qFr (qam b t s.heap.size) dC dI tc s.heap.size L xs p room_1 s m #[Value.ref b] meth c 0 2048 :=
    ⟨hx, hb, (by rw [hml, hmx]), hown, fun w hw => hts w (qwall_tbl hw), (fun h => by rw [hini] at h; cases h), hK, hZ, q48, q49, fun i => rfl⟩
  have z1 : (qh0 L xs).1 = 2 := rfl
  have z2 : room_1.cells = 600000 := rfl
  have z3 : (qh0 L xs).2.1 = 0 := rfl
  have z4 : room_1.slots = 7302250 := rfl
  have z5 : room_1.frames = 2048 := rfl
  have z6 : room_1.locals = 84000 := rfl
  refine qOK_all n 2048 0 0 _ [] (qh0 L xs) _ hF hq (qam b t s.heap.size) dC dI tc s.heap.size L xs p l e room_1 s m _ below meth c _ (qh0 L xs) hf (by rw [z1, z2]; omega) (by rw [z3, z4]; omega) ?_ A s.heap [] 0 0 (by rw [hmx]; exact g2) ⟨Nat.le_refl _, rfl, (fun i c hc => by cases hc), (fun c hc => by cases hc; rfl), (fun c hc => by cases hc; rfl)⟩ va_S.rf rfl rfl
  intro d pc ls st i n9 A H locs nc ns hd hlen hs hH hS hc1 hc2
  have hc1 : hF.1 = 2 + nc := hc1
  have hc2 : hF.2.1 = 0 + ns := hc2
  have fin : st = [.int 1] → decode code pc = .ok (.ireturn, 1) → W p l e room_1 s m #[Value.ref b] below meth c H locs nc ns (lw_Z below #[Value.ref b] s) (F0 m pc A (st.map (qV (qam b t s.heap.size)))) := by
    intro e1 e2
    subst e1
    refine va_forget (fun q hq => hS.2.2 q hq) (W.widen (k := 600000) (n := 7302250) (by omega) (by omega) ?_)
    exact lw_ret hx hb hr hlocks e2
  unfold qStep at hs
  split at hs
  all_goals try simp only [qgo, qldI, qldL, qldA, qld, qstI, qstL, qstA, qii, qll, qi_1, ql_1, qix, qcallV, qcallS, qcallI, qcpy, qcall, qget, qputf, qnewA, qnewM, qto, qbr] at hs
  all_goals (repeat' split at hs)
  all_goals try (cases hs; done)
  · have hn : n9 = 1 := by rcases hlen with q | q <;> cases q; rfl
    subst hn
    unfold qend at hs
    rw [hrt] at hs
    split at hs
    · rename_i h9
      cases h9
    · split at hs
      · cases hs
        exact fin rfl hd
      · cases hs
    · cases hs

