/-! The pure machine is the machine: a run of it is a walk, a call of it a contract. -/
def qws (k : Nat) : List Cond := qcw k :: qWall
theorem qHS.moved {am : Nat → Nat} {base L : Nat} {xs : Nat → Int32} {u U : State} {H : Heap} (hvm : u.vm.Alike U.vm) (h : qHS am base L xs u H) : qHS am base L xs U H := by
  obtain ⟨⟨scr, h1, h2, h3⟩, hb1, hb2, h4, h5⟩ := h
  exact ⟨⟨scr, h1, State.isArrayOf_alike hvm h2, h3⟩, hb1, hb2, h4.moved hvm, h5.moved hvm⟩
theorem qHS.kept {am : Nat → Nat} {base L : Nat} {xs : Nat → Int32} {U : State} {H H1 : Heap} (h : qHS am base L xs U H) (hz : H.size ≤ H1.size) (hq : ∀ q : Nat, q < H.size → ¬ base ≤ q → H1[q]? = H[q]?) : qHS am base L xs U H1 := by
  obtain ⟨⟨scr, h1, h2, h3⟩, hb1, hb2, h4, h5⟩ := h
  exact ⟨⟨scr, by rw [hq _ hb1 hb2]; exact h1, h2, h3⟩, Nat.lt_of_lt_of_le hb1 hz, hb2, h4.kept hq, h5.kept hq⟩
def qPc (am : Nat → Nat) (dC : Nat → ClassId) (dI : Nat → Nat → Nat) (tc : Nat → ClassId) (base L : Nat) (xs : Nat → Int32) (as : List Value) (h : qH) : Array Value → State → Prop :=
  fun v U => v = (as.map (qV am)).toArray ∧ qHR am dC dI tc base L xs h U.heap ∧ qKS dC dI tc U ∧ qHS am base L xs U U.heap
def qQc (am : Nat → Nat) (dC : Nat → ClassId) (dI : Nat → Nat → Nat) (tc : Nat → ClassId) (base L : Nat) (xs : Nat → Int32) (r : Option Value) (hF : qH) : Array Value → State → Outcome → State → Prop :=
  fun _ st o t => o = .returned (r.map (qV am)) ∧ qHR am dC dI tc base L xs hF t.heap ∧ va_F (fun q => base ≤ q) st t
theorem qPc_blind {am : Nat → Nat} {dC : Nat → ClassId} {dI : Nat → Nat → Nat} {tc : Nat → ClassId} {base L : Nat} {xs : Nat → Int32} {as : List Value} {h : qH} : FrameBlind (qPc am dC dI tc base L xs as h) := by
  intro a U g mk hq
  obtain ⟨h1, h2, h3, h4⟩ := hq
  exact ⟨h1, h2, qKS.same (s := U) (U := U.calling g mk a) rfl h3, qHS.moved (u := U) (U := U.calling g mk a) (Vm.Alike.refl U.vm) h4⟩
/-- a method's frame -/
def qFr (am : Nat → Nat) (dC : Nat → ClassId) (dI : Nat → Nat → Nat) (tc : Nat → ClassId) (base L : Nat) (xs : Nat → Int32) (p : Program) (R : Room) (s : State) (m : MethodId) (args : Array Value) (meth : Method) (c : Code) (k d : Nat) : Prop :=
  p.tables.exec = Jvm.exec ∧ c.code = qby k ∧ c.maxLocals = qmx k ∧ s.vm.findClass (qR (qown k)) = some m.cls ∧ (∀ w ∈ qWall, w.before args s = true) ∧ (qini k = true → meth.name = "<init>") ∧ qKS dC dI tc s ∧ qHS am base L xs s s.heap ∧ d ≤ R.frames ∧ 41 * d ≤ R.locals ∧ ∀ i, am (i + 2) = base + i
/-- what the end of a walk asks for -/
def qEnd (am : Nat → Nat) (dC : Nat → ClassId) (dI : Nat → Nat → Nat) (tc : Nat → ClassId) (base L : Nat) (xs : Nat → Int32) (p : Program) (l : Launch) (e : Env) (R : Room) (s : State) (m : MethodId) (args : Array Value) (below : List Frame) (meth : Method) (c : Code) (Q : State → Prop) (k : Nat) (h0 hF : qH) (r : Option Value) : Prop :=
  ∀ (d pc : Nat) (ls : qL) (st : List Value) (i : Instr) (n : Nat) (A : Array Slot) (H : Heap) (locs : List Loc) (nc ns : Nat), decode (qby k) pc = .ok (i, n) → (qlen i = 0 ∨ qlen i = n) → qStep d k pc ls st hF i = some (.inr (.inl r)) → qHR am dC dI tc base L xs hF H → va_S (fun q => base ≤ q) s.heap H locs →
    hF.1 = h0.1 + nc → hF.2.1 = h0.2.1 + ns → W p l e R s m args below meth c H locs nc ns Q (F0 m pc A (st.map (qV am)))
section QSO
variable {p : Program} {l : Launch} {e : Env} {R : Room} {s : State} {m : MethodId} {args : Array Value} {below : List Frame} {meth : Method} {c : Code} {H : Heap} {locs : List Loc} {nc ns : Nat} {Q : State → Prop}
variable {cc : ByteArray} {d k pc nL : Nat} {A : Array Slot} {am : Nat → Nat} {ls : qL} {st : List Value} {h : qH} {g : Nat × qL × List Value × qH}
variable {dC : Nat → ClassId} {dI : Nat → Nat → Nat} {tc : Nat → ClassId} {base L : Nat} {xs : Nat → Int32}
theorem qrun_go {mc ms : Nat} {st0 rest : List Value} {Qa : State → Outcome → State → Prop} {free : Addr → Prop} (hr : va_Run p l e R s m args below meth c H locs nc ns mc ms (F0 m pc A st0) rest Qa free)
    (kk : ∀ (v : Option Value) (st₀ t : State) (H1 : Heap) (L9 : List Loc), st₀.heap = H → t.heap = H1 → Qa st₀ (.returned v) t → (∀ q ∈ L9, free q.base) → W p l e R s m args below meth c H1 (locs ++ L9) (nc + mc) (ns + ms) Q (F0 m (pc + 3) A (v.toList ++ rest))) : W p l e R s m args below meth c H locs nc ns Q (F0 m pc A st0) := by
  intro T hT X
  obtain ⟨v, st₀, t, T', L9, h0, X', hL, e1, e2, hq, st⟩ := hr T hT X
  obtain ⟨t2, a1, b1⟩ := kk v st₀ t T'.heap L9 h0 e1.symm hq hL T' rfl X'
  exact ⟨t2, st t2 a1, b1⟩
/-- the ends of a method -/
theorem qret {h0 hF : qH} {r : Option Value} {d0 : Nat} (hf : qFr am dC dI tc base L xs p R s m args meth c k d0) (hr : meth.sig.returnType = qrt k) (hlocks : meth.locks = false) (hRc : hF.1 = h0.1 + R.cells) (hRs : hF.2.1 = h0.2.1 + R.slots) :
    qEnd am dC dI tc base L xs p l e R s m args below meth c (MQ below (qQc am dC dI tc base L xs r hF) args s R.cells R.slots (fun q => base ≤ q)) k h0 hF r := by
  intro d pc ls st i n A H locs nc ns hd hlen hs hH hS hc1 hc2
  obtain ⟨hx, hb, -⟩ := hf
  have hRc2 : nc = R.cells := by omega
  have hRs2 : ns = R.slots := by omega
  subst hRc2
  subst hRs2
  have post : ∀ (v : Option Value) (t : State), v = r.map (qV am) → t.heap = H → qQc am dC dI tc base L xs r hF args s (.returned v) t := fun v t hv ht => ⟨by rw [hv], by rw [ht]; exact hH, hS.F ht⟩
  unfold qStep at hs
  split at hs
  all_goals try simp only [qgo, qldI, qldL, qldA, qld, qstI, qstL, qstA, qii, qll, qi_1, ql_1, qix, qcallV, qcallS, qcallI, qcpy, qcall, qget, qputf, qnewA, qnewM, qto, qbr] at hs
  all_goals (repeat' split at hs)
  all_goals try (cases hs; done)

  · have hn : n = 1 := by rcases hlen with q | q <;> cases q; rfl
    subst hn
    unfold qend at hs
    split at hs
    · rename_i hrt
      cases hs
      rw [hrt] at hr
      exact W.iret hx hb hr (fun t ht _ => post _ t rfl ht) hS.2.2 hd
    · rename_i hrt
      split at hs
      · rename_i h01
        cases hs
        rw [hrt] at hr
        exact W.zret hx hb hr (by rcases h01 with rfl | rfl <;> rfl) (fun t ht _ => post _ t rfl ht) hS.2.2 hd
      · cases hs
    · cases hs
  · have hn : n = 1 := by rcases hlen with q | q <;> cases q; rfl
    subst hn
    unfold qendL at hs
    split at hs
    · rename_i hrt
      cases hs
      rw [hrt] at hr
      exact W.lret hx hb hr (fun t ht _ => post _ t rfl ht) hS.2.2 hd
    · cases hs
  · have hn : n = 1 := by rcases hlen with q | q <;> cases q; rfl
    subst hn
    unfold qendA at hs
    split at hs
    · rename_i hrt
      cases hs
      rw [hrt] at hr
      exact W.aret hx hb hr (Or.inl ⟨_, rfl⟩) (Or.inr ⟨_, rfl⟩) (fun t ht _ => post _ t rfl ht) hS.2.2 hd
    · rename_i hrt
      cases hs
      rw [hrt] at hr
      exact W.aret hx hb hr (Or.inl ⟨_, rfl⟩) (Or.inl rfl) (fun t ht _ => post _ t rfl ht) hS.2.2 hd
    · cases hs
  · have hn : n = 1 := by rcases hlen with q | q <;> cases q; rfl
    subst hn
    unfold qendV at hs
    split at hs
    · rename_i hrt
      cases hs
      rw [hrt] at hr
      exact W.vret hx hb hr (fun t ht _ => post _ t rfl ht) hS.2.2 hd
    · cases hs
/-- locals at the entry -/
theorem qent_args (am : Nat → Nat) : ∀ (as : List Value) (off i : Nat) (v : Value), (as.flatMap fun v => if v.category = 2 then [some v, (none : Option Value)] else [some v])[i]? = some (some v) → (off + i, qV am v) ∈ lv_args off (as.map (qV am))
  | [], off, i, v, hh => by cases hh
  | a :: as, off, i, v, hh => by
    rw [List.flatMap_cons] at hh
    show (off + i, qV am v) ∈ (off, qV am a) :: lv_args (if (qV am a).category = 2 then off + 2 else off + 1) (as.map (qV am))
    rw [qV_cat]
    by_cases hc : a.category = 2
    · rw [if_pos hc] at hh ⊢
      match i, hh with
      | 0, hh => cases hh; exact List.mem_cons_self
      | 1, hh => cases hh
      | i + 2, hh =>
        have := qent_args am as (off + 2) i v hh
        rw [show off + (i + 2) = off + 2 + i by omega]
        exact List.mem_cons_of_mem _ this
    · rw [if_neg hc] at hh ⊢
      match i, hh with
      | 0, hh => cases hh; exact List.mem_cons_self
      | i + 1, hh =>
        have := qent_args am as (off + 1) i v hh
        rw [show off + (i + 1) = off + 1 + i by omega]
        exact List.mem_cons_of_mem _ this
theorem qent_len (am : Nat → Nat) : ∀ (as : List Value), (lg_sl (as.map (qV am))).length = (as.flatMap fun v => if v.category = 2 then [some v, (none : Option Value)] else [some v]).length
  | [] => rfl
  | a :: as => by
    have ih := qent_len am as
    unfold lg_sl at ih ⊢
    rw [List.map_cons, List.flatMap_cons, List.flatMap_cons, List.length_append, List.length_append, ih, qV_cat]
    by_cases hc : a.category = 2
    · rw [if_pos hc, if_pos hc]; rfl
    · rw [if_neg hc, if_neg hc]; rfl
theorem qent_spec {k2 : Nat} {as : List Value} {l2 : qL} (hh : qent k2 as = some l2) (am : Nat → Nat) : qmx k2 ≤ 22 ∧ qLR am l2 ((lg_sl (as.map (qV am)) ++ List.replicate (qmx k2 - (lg_sl (as.map (qV am))).length) Slot.unset).toArray) (qmx k2) := by
  unfold qent at hh
  dsimp only at hh
  split at hh
  · rename_i hc
    cases hh
    have hle : (lg_sl (as.map (qV am))).length ≤ qmx k2 := by rw [qent_len]; exact hc.1
    refine ⟨hc.2, ?_, _, lv_entry (as.map (qV am)) hle, fun i v hi => ?_⟩
    · rw [List.length_append, List.length_replicate]
      omega
    · by_cases hl : i < (as.flatMap fun v => if v.category = 2 then [some v, (none : Option Value)] else [some v]).length
      · rw [List.getElem?_append_left hl] at hi
        have := qent_args am as 0 i v hi
        rw [Nat.zero_add] at this
        exact this
      · rw [List.getElem?_append_right (by omega)] at hi
        have := List.eq_of_mem_replicate (List.mem_of_getElem? hi)
        cases this
  · cases hh
end QSO
/-- soundness at a fuel -/
def qOK (n : Nat) : Prop := ∀ (d k pc : Nat) (ls : qL) (st : List Value) (h : qH) (r : Option Value) (hF : qH), qExec n d k pc ls st h = some (r, hF) →
  ∀ (am : Nat → Nat) (dC : Nat → ClassId) (dI : Nat → Nat → Nat) (tc : Nat → ClassId) (base L : Nat) (xs : Nat → Int32) (p : Program) (l : Launch) (e : Env) (R : Room) (s : State) (m : MethodId) (args : Array Value) (below : List Frame) (meth : Method) (c : Code) (Q : State → Prop) (h0 : qH),
    qFr am dC dI tc base L xs p R s m args meth c k d → hF.1 ≤ h0.1 + R.cells → hF.2.1 ≤ h0.2.1 + R.slots → qEnd am dC dI tc base L xs p l e R s m args below meth c Q k h0 hF r →
    ∀ (A : Array Slot) (H : Heap) (locs : List Loc) (nc ns : Nat), qLR am ls A (qmx k) → qHR am dC dI tc base L xs h H → va_S (fun q => base ≤ q) s.heap H locs → h.1 = h0.1 + nc → h.2.1 = h0.2.1 + ns → W p l e R s m args below meth c H locs nc ns Q (F0 m pc A (st.map (qV am)))
theorem qm_facts {k : Nat} (h : k < 251) : (qnm k).cls = qR (qown k) ∧ (qown k ≠ 15 → plainName (qnm k).cls = true) ∧ (qini k = true → (qnm k).name = "<init>") ∧ (qnm k).cls ≠ "java/lang/invoke/MethodHandle" ∧ (qnm k).cls ≠ "java/lang/invoke/VarHandle" := by
  have := qrange qmOk_all h
  unfold qmOk at this
  simp only [Bool.and_eq_true, Bool.or_eq_true, decide_eq_true_eq, Bool.not_eq_true'] at this
  obtain ⟨⟨⟨⟨h1, h2⟩, h3⟩, h4⟩, h5⟩ := this
  exact ⟨h1, fun hn => h2.resolve_left (fun hz => hn (Nat.eq_of_beq_eq_true hz)), fun hq => h3.resolve_left (fun hz => by rw [hq] at hz; cases hz), h4, h5⟩
set_option maxHeartbeats 4000000 in
/-- a call's contract -/
theorem qMet {n d2 k2 : Nat} (IH : qOK n) (hk : k2 < 251) (h15 : qown k2 ≠ 15) {as : List Value} {l2 : qL} {h h2 : qH} {v : Option Value} (hent : qent k2 as = some l2) (hex : qExec n d2 k2 0 l2 [] h = some (v, h2))
    (am : Nat → Nat) (dC : Nat → ClassId) (dI : Nat → Nat → Nat) (tc : Nat → ClassId) (base L : Nat) (xs : Nat → Int32) (ham : ∀ i, am (i + 2) = base + i) (l : Launch) :
    Met l (qnm k2) (qws k2) ({ frames := d2, cells := h2.1 - h.1, slots := h2.2.1 - h.2.1, locals := 41 * d2 }) (qPc am dC dI tc base L xs as h) (qQc am dC dI tc base L xs v h2) (h2.1 - h.1) (h2.2.1 - h.2.1) (fun q => base ≤ q) := by
  obtain ⟨f1, f2, f3, -, -⟩ := qm_facts hk
  have hmono := qmonoX _ _ _ _ _ _ _ _ _ hex
  refine Met.ofW (cc := qby k2) (maxL := qmx k2) (ret := qrt k2) (f2 h15) rfl ?_
  intro p e s m args below meth c s₁ B hml hv
  obtain ⟨rfl, hH, hK, hZ⟩ := hv
  have hts0 := atoms_spec (ws := qws k2) B.pre
  have hown : s.vm.findClass (qnm k2).cls = some m.cls := findClass_of_methodNamed B.named
  obtain ⟨g1, g2⟩ := qent_spec hent am
  rw [lg_entry_eq]
  generalize (lg_sl (as.map (qV am)) ++ List.replicate (qmx k2 - (lg_sl (as.map (qV am))).length) Slot.unset).toArray = A at g2 ⊢
  have hf : qFr am dC dI tc base L xs p ({ frames := d2, cells := h2.1 - h.1, slots := h2.2.1 - h.2.1, locals := 41 * d2 } : Room) s m (as.map (qV am)).toArray meth c k2 d2 :=
    ⟨B.exec, B.bytes, hml, by rw [← f1]; exact hown, fun w hw => hts0 w (List.mem_cons_of_mem _ hw), fun hi => (name_of_methodNamed B.named B.method).1.trans (f3 hi), hK, hZ, Nat.le_refl _, Nat.le_refl _, ham⟩
  exact IH d2 k2 0 l2 [] h v h2 hex am dC dI tc base L xs p l e _ s m _ below meth c _ h hf (by show h2.1 ≤ h.1 + (h2.1 - h.1); omega) (by show h2.2.1 ≤ h.2.1 + (h2.2.1 - h.2.1); omega)
    (qret hf B.returns B.notSynchronized (by show h2.1 = h.1 + (h2.1 - h.1); omega) (by show h2.2.1 = h.2.1 + (h2.2.1 - h.2.1); omega)) A s.heap [] 0 0 g2 hH va_S.rf rfl rfl

