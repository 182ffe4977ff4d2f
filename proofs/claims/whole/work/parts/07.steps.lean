/-! A step of the pure machine is the machine's: instructions that write no cell. -/
def qTy : List FieldType := [.int, .boolean, .long, .byte, .char, .object "SaggingNet$State", .array .int, .array .long]
def qtys (tc : Nat → ClassId) : List (ClassId × FieldType) := (List.range 8).map (fun k => (tc k, qTy.getD k .int))
def qV (am : Nat → Nat) : Value → Value
  | .ref a => .ref (am a)
  | v => v
theorem qV_cat (am : Nat → Nat) (v : Value) : (qV am v).category = v.category := by cases v <;> rfl
theorem qcat_map (am : Nat → Nat) (r : List Value) : ((r.map (qV am)).map fun v => v.category).sum = qcat r := by
  unfold qcat
  rw [List.map_map]
  congr 1
  apply List.map_congr_left
  intro v _
  exact qV_cat am v
/-- locals that the pure machine knows are held -/
def qLR (am : Nat → Nat) (ls : qL) (A : Array Slot) (n : Nat) : Prop := ls.length = n ∧ ∃ lv, lv_has A n lv ∧ ∀ (i : Nat) (v : Value), ls[i]? = some (some v) → (i, qV am v) ∈ lv
theorem qLR.get {am : Nat → Nat} {ls : qL} {A : Array Slot} {n i : Nat} {v : Value} (h : qLR am ls A n) (hv : ls[i]? = some (some v)) : A[i]? = some (.val (qV am v)) := by
  obtain ⟨_, lv, h1, h2⟩ := h
  exact h1.2.2 _ (h2 i v hv)
theorem qkill_get {ls : qL} {i j : Nat} {w : Value} (h : (qkill ls i)[j]? = some (some w)) : ls[j]? = some (some w) ∧ ¬ (j + 1 = i ∧ w.category = 2) := by
  cases i with
  | zero => exact ⟨h, fun q => by omega⟩
  | succ i =>
    simp only [qkill] at h
    split at h
    · rename_i v hv
      split at h
      · rename_i hc
        rw [List.getElem?_set] at h
        split at h
        · split at h <;> cases h
        · rename_i hne
          exact ⟨h, fun q => hne (by omega)⟩
      · rename_i hc
        refine ⟨h, fun q => ?_⟩
        have : j = i := by omega
        subst this
        rw [hv] at h
        cases h
        exact hc q.2
    · rename_i hn
      refine ⟨h, fun q => ?_⟩
      have : j = i := by omega
      subst this
      exact hn w h
theorem qput1_get {ls : qL} {i j : Nat} {v w : Value} (h : (qput1 ls i v)[j]? = some (some w)) : (j = i ∧ w = v) ∨ (j ≠ i ∧ ls[j]? = some (some w) ∧ ¬ (j + 1 = i ∧ w.category = 2)) := by
  unfold qput1 at h
  rw [List.getElem?_set] at h
  split at h
  · rename_i e
    subst e
    split at h
    · cases h; exact Or.inl ⟨rfl, rfl⟩
    · cases h
  · rename_i e
    exact Or.inr ⟨fun q => e q.symm, qkill_get h⟩
theorem qput2_get {ls : qL} {i j : Nat} {v w : Value} (h : (qput2 ls i v)[j]? = some (some w)) : (j = i ∧ w = v) ∨ (j ≠ i ∧ j ≠ i + 1 ∧ ls[j]? = some (some w) ∧ ¬ (j + 1 = i ∧ w.category = 2)) := by
  unfold qput2 at h
  rw [List.getElem?_set] at h
  split at h
  · split at h <;> cases h
  · rename_i e
    rcases qput1_get (ls := ls) (v := v) h with ⟨q1, q2⟩ | ⟨q1, q2⟩
    · exact Or.inl ⟨q1, q2⟩
    · exact Or.inr ⟨q1, fun q => e q.symm, q2⟩
theorem qkill_len (ls : qL) (i : Nat) : (qkill ls i).length = ls.length := by
  cases i with
  | zero => rfl
  | succ i =>
    simp only [qkill]
    split
    · split
      · rw [List.length_set]
      · rfl
    · rfl
theorem qput1_len (ls : qL) (i : Nat) (v : Value) : (qput1 ls i v).length = ls.length := by unfold qput1; rw [List.length_set, qkill_len]
theorem qput2_len (ls : qL) (i : Nat) (v : Value) : (qput2 ls i v).length = ls.length := by unfold qput2; rw [List.length_set, List.length_set, qkill_len]
theorem qLR_put1 {am : Nat → Nat} {ls : qL} {n i : Nat} {v : Value} {lv : List (Nat × Value)} {A : Array Slot} (hn : ls.length = n) (h2 : ∀ (i : Nat) (v : Value), ls[i]? = some (some v) → (i, qV am v) ∈ lv)
    (hA : lv_has A n ((i, qV am v) :: lv.filter (fun q => !(q.1 == i) && !(q.1 + 1 == i && q.2.category == 2)))) : qLR am (qput1 ls i v) A n := by
  refine ⟨by rw [qput1_len]; exact hn, _, hA, fun j w h => ?_⟩
  rcases qput1_get h with ⟨rfl, rfl⟩ | ⟨q1, q2, q3⟩
  · exact List.mem_cons_self
  · refine List.mem_cons_of_mem _ (List.mem_filter.mpr ⟨h2 j w q2, ?_⟩)
    show (!(j == i) && !(j + 1 == i && (qV am w).category == 2)) = true
    rw [qV_cat]
    simp only [Bool.and_eq_true, Bool.not_eq_true', beq_eq_false_iff_ne, ne_eq, Bool.and_eq_false_iff]
    refine ⟨q1, ?_⟩
    by_cases e : j + 1 = i
    · exact Or.inr (fun q => q3 ⟨e, q⟩)
    · exact Or.inl e
theorem qLR_put2 {am : Nat → Nat} {ls : qL} {n i : Nat} {v : Value} {lv : List (Nat × Value)} {A : Array Slot} (hn : ls.length = n) (h2 : ∀ (i : Nat) (v : Value), ls[i]? = some (some v) → (i, qV am v) ∈ lv)
    (hA : lv_has A n ((i, qV am v) :: lv.filter (fun q => !(q.1 == i) && (!(q.1 == i + 1) && !(q.1 + 1 == i && q.2.category == 2))))) : qLR am (qput2 ls i v) A n := by
  refine ⟨by rw [qput2_len]; exact hn, _, hA, fun j w h => ?_⟩
  rcases qput2_get h with ⟨rfl, rfl⟩ | ⟨q1, q0, q2, q3⟩
  · exact List.mem_cons_self
  · refine List.mem_cons_of_mem _ (List.mem_filter.mpr ⟨h2 j w q2, ?_⟩)
    show (!(j == i) && (!(j == i + 1) && !(j + 1 == i && (qV am w).category == 2))) = true
    rw [qV_cat]
    simp only [Bool.and_eq_true, Bool.not_eq_true', beq_eq_false_iff_ne, ne_eq, Bool.and_eq_false_iff]
    refine ⟨q1, q0, ?_⟩
    by_cases e : j + 1 = i
    · exact Or.inr (fun q => q3 ⟨e, q⟩)
    · exact Or.inl e
theorem qto_spec {pc : Nat} {o : Int} {f : Nat → Option qO_} {g : qO_} (h : qto pc o f = some g) : ∃ t : Nat, (pc : Int) + o = (t : Int) ∧ f t = some g := by
  unfold qto at h
  split at h
  · rename_i t ht
    exact ⟨t, ht, h⟩
  · cases h
section QS
variable {p : Program} {l : Launch} {e : Env} {R : Room} {s : State} {m : MethodId} {args : Array Value} {below : List Frame} {meth : Method} {c : Code} {H : Heap} {locs : List Loc} {nc ns : Nat} {Q : State → Prop}
variable {cc : ByteArray} {d k pc nL : Nat} {A : Array Slot} {am : Nat → Nat} {ls : qL} {st : List Value} {h : qH} {g : Nat × qL × List Value × qH}

theorem qs_iconst {z : Int} (hx : p.tables.exec = Jvm.exec) (hb : c.code = cc) (hlr : qLR am ls A nL) (hd : decode cc pc = .ok (.iconst z, 1)) (hs : qStep d k pc ls st h (.iconst z) = some (.inl g)) : g.2.2.2 = h ∧ ((∀ B, qLR am g.2.1 B nL → (W p l e R s m args below meth c H locs nc ns Q (F0 m g.1 B (g.2.2.1.map (qV am))))) → (W p l e R s m args below meth c H locs nc ns Q (F0 m pc A (st.map (qV am))))) := by
  simp only [qStep, qgo] at hs
  cases hs
  exact ⟨rfl, fun kk => lv_iconst hx hb hd rfl (kk A hlr)⟩
theorem qs_bipush {z : Int} (hx : p.tables.exec = Jvm.exec) (hb : c.code = cc) (hlr : qLR am ls A nL) (hd : decode cc pc = .ok (.bipush z, 2)) (hs : qStep d k pc ls st h (.bipush z) = some (.inl g)) : g.2.2.2 = h ∧ ((∀ B, qLR am g.2.1 B nL → (W p l e R s m args below meth c H locs nc ns Q (F0 m g.1 B (g.2.2.1.map (qV am))))) → (W p l e R s m args below meth c H locs nc ns Q (F0 m pc A (st.map (qV am))))) := by
  simp only [qStep, qgo] at hs
  cases hs
  exact ⟨rfl, fun kk => lv_bipush hx hb hd rfl (kk A hlr)⟩
theorem qs_sipush {z : Int} (hx : p.tables.exec = Jvm.exec) (hb : c.code = cc) (hlr : qLR am ls A nL) (hd : decode cc pc = .ok (.sipush z, 3)) (hs : qStep d k pc ls st h (.sipush z) = some (.inl g)) : g.2.2.2 = h ∧ ((∀ B, qLR am g.2.1 B nL → (W p l e R s m args below meth c H locs nc ns Q (F0 m g.1 B (g.2.2.1.map (qV am))))) → (W p l e R s m args below meth c H locs nc ns Q (F0 m pc A (st.map (qV am))))) := by
  simp only [qStep, qgo] at hs
  cases hs
  exact ⟨rfl, fun kk => lv_sipush hx hb hd rfl (kk A hlr)⟩
theorem qs_lconst {z : Fin 2} (hx : p.tables.exec = Jvm.exec) (hb : c.code = cc) (hlr : qLR am ls A nL) (hd : decode cc pc = .ok (.lconst z, 1)) (hs : qStep d k pc ls st h (.lconst z) = some (.inl g)) : g.2.2.2 = h ∧ ((∀ B, qLR am g.2.1 B nL → (W p l e R s m args below meth c H locs nc ns Q (F0 m g.1 B (g.2.2.1.map (qV am))))) → (W p l e R s m args below meth c H locs nc ns Q (F0 m pc A (st.map (qV am))))) := by
  simp only [qStep, qgo] at hs
  cases hs
  exact ⟨rfl, fun kk => lv_lconst hx hb hd rfl (kk A hlr)⟩
theorem qs_null (hx : p.tables.exec = Jvm.exec) (hb : c.code = cc) (hlr : qLR am ls A nL) (hd : decode cc pc = .ok (.aconst_null, 1)) (hs : qStep d k pc ls st h (.aconst_null) = some (.inl g)) : g.2.2.2 = h ∧ ((∀ B, qLR am g.2.1 B nL → (W p l e R s m args below meth c H locs nc ns Q (F0 m g.1 B (g.2.2.1.map (qV am))))) → (W p l e R s m args below meth c H locs nc ns Q (F0 m pc A (st.map (qV am))))) := by
  simp only [qStep, qgo] at hs
  cases hs
  exact ⟨rfl, fun kk => lv_null hx hb hd (kk A hlr)⟩
theorem qs_iload_n {z : Fin 4} (hx : p.tables.exec = Jvm.exec) (hb : c.code = cc) (hlr : qLR am ls A nL) (hd : decode cc pc = .ok (.iload_n z, 1)) (hs : qStep d k pc ls st h (.iload_n z) = some (.inl g)) : g.2.2.2 = h ∧ ((∀ B, qLR am g.2.1 B nL → (W p l e R s m args below meth c H locs nc ns Q (F0 m g.1 B (g.2.2.1.map (qV am))))) → (W p l e R s m args below meth c H locs nc ns Q (F0 m pc A (st.map (qV am))))) := by
  simp only [qStep, qldI, qld, qgo] at hs
  split at hs
  · rename_i v hv
    split at hs
    · cases hs
      exact ⟨rfl, fun kk => lv_iload_n hx hb hd rfl (hlr.get hv) (kk A hlr)⟩
    · cases hs
  · cases hs
theorem qs_iload {z : Nat} (hx : p.tables.exec = Jvm.exec) (hb : c.code = cc) (hlr : qLR am ls A nL) (hd : decode cc pc = .ok (.iload z, 2)) (hs : qStep d k pc ls st h (.iload z) = some (.inl g)) : g.2.2.2 = h ∧ ((∀ B, qLR am g.2.1 B nL → (W p l e R s m args below meth c H locs nc ns Q (F0 m g.1 B (g.2.2.1.map (qV am))))) → (W p l e R s m args below meth c H locs nc ns Q (F0 m pc A (st.map (qV am))))) := by
  simp only [qStep, qldI, qld, qgo] at hs
  split at hs
  · rename_i v hv
    split at hs
    · cases hs
      exact ⟨rfl, fun kk => lv_iload hx hb hd (hlr.get hv) (kk A hlr)⟩
    · cases hs
  · cases hs
theorem qs_lload_n {z : Fin 4} (hx : p.tables.exec = Jvm.exec) (hb : c.code = cc) (hlr : qLR am ls A nL) (hd : decode cc pc = .ok (.lload_n z, 1)) (hs : qStep d k pc ls st h (.lload_n z) = some (.inl g)) : g.2.2.2 = h ∧ ((∀ B, qLR am g.2.1 B nL → (W p l e R s m args below meth c H locs nc ns Q (F0 m g.1 B (g.2.2.1.map (qV am))))) → (W p l e R s m args below meth c H locs nc ns Q (F0 m pc A (st.map (qV am))))) := by
  simp only [qStep, qldL, qld, qgo] at hs
  split at hs
  · rename_i v hv
    split at hs
    · cases hs
      exact ⟨rfl, fun kk => lv_lload_n hx hb hd rfl (hlr.get hv) (kk A hlr)⟩
    · cases hs
  · cases hs
theorem qs_lload {z : Nat} (hx : p.tables.exec = Jvm.exec) (hb : c.code = cc) (hlr : qLR am ls A nL) (hd : decode cc pc = .ok (.lload z, 2)) (hs : qStep d k pc ls st h (.lload z) = some (.inl g)) : g.2.2.2 = h ∧ ((∀ B, qLR am g.2.1 B nL → (W p l e R s m args below meth c H locs nc ns Q (F0 m g.1 B (g.2.2.1.map (qV am))))) → (W p l e R s m args below meth c H locs nc ns Q (F0 m pc A (st.map (qV am))))) := by
  simp only [qStep, qldL, qld, qgo] at hs
  split at hs
  · rename_i v hv
    split at hs
    · cases hs
      exact ⟨rfl, fun kk => lv_lload hx hb hd (hlr.get hv) (kk A hlr)⟩
    · cases hs
  · cases hs
theorem qs_aload_n {z : Fin 4} (hx : p.tables.exec = Jvm.exec) (hb : c.code = cc) (hlr : qLR am ls A nL) (hd : decode cc pc = .ok (.aload_n z, 1)) (hs : qStep d k pc ls st h (.aload_n z) = some (.inl g)) : g.2.2.2 = h ∧ ((∀ B, qLR am g.2.1 B nL → (W p l e R s m args below meth c H locs nc ns Q (F0 m g.1 B (g.2.2.1.map (qV am))))) → (W p l e R s m args below meth c H locs nc ns Q (F0 m pc A (st.map (qV am))))) := by
  simp only [qStep, qldA, qld, qgo] at hs
  split at hs
  · rename_i v hv
    split at hs
    · cases hs
      exact ⟨rfl, fun kk => lv_aload_n hx hb hd rfl (hlr.get hv) (kk A hlr)⟩
    · cases hs
      exact ⟨rfl, fun kk => lv_aload_nN hx hb hd rfl (hlr.get hv) (kk A hlr)⟩
    · cases hs
  · cases hs
theorem qs_aload {z : Nat} (hx : p.tables.exec = Jvm.exec) (hb : c.code = cc) (hlr : qLR am ls A nL) (hd : decode cc pc = .ok (.aload z, 2)) (hs : qStep d k pc ls st h (.aload z) = some (.inl g)) : g.2.2.2 = h ∧ ((∀ B, qLR am g.2.1 B nL → (W p l e R s m args below meth c H locs nc ns Q (F0 m g.1 B (g.2.2.1.map (qV am))))) → (W p l e R s m args below meth c H locs nc ns Q (F0 m pc A (st.map (qV am))))) := by
  simp only [qStep, qldA, qld, qgo] at hs
  split at hs
  · rename_i v hv
    split at hs
    · cases hs
      exact ⟨rfl, fun kk => lv_aload hx hb hd (hlr.get hv) (kk A hlr)⟩
    · cases hs
      exact ⟨rfl, fun kk => lv_aloadN hx hb hd (hlr.get hv) (kk A hlr)⟩
    · cases hs
  · cases hs
theorem qs_istore_n {z : Fin 4} (hx : p.tables.exec = Jvm.exec) (hb : c.code = cc) (hlr : qLR am ls A nL) (hd : decode cc pc = .ok (.istore_n z, 1)) (hs : qStep d k pc ls st h (.istore_n z) = some (.inl g)) : g.2.2.2 = h ∧ ((∀ B, qLR am g.2.1 B nL → (W p l e R s m args below meth c H locs nc ns Q (F0 m g.1 B (g.2.2.1.map (qV am))))) → (W p l e R s m args below meth c H locs nc ns Q (F0 m pc A (st.map (qV am))))) := by
  obtain ⟨hn, lv, h1, h2⟩ := hlr
  simp only [qStep, qstI, qgo] at hs
  split at hs
  · split at hs
    · rename_i hi
      cases hs
      exact ⟨rfl, fun kk => lv_istore_n hx hb hd rfl h1 (by rw [← hn]; exact hi) rfl (fun B hB => kk B (qLR_put1 hn h2 hB))⟩
    · cases hs
  · cases hs
theorem qs_istore {z : Nat} (hx : p.tables.exec = Jvm.exec) (hb : c.code = cc) (hlr : qLR am ls A nL) (hd : decode cc pc = .ok (.istore z, 2)) (hs : qStep d k pc ls st h (.istore z) = some (.inl g)) : g.2.2.2 = h ∧ ((∀ B, qLR am g.2.1 B nL → (W p l e R s m args below meth c H locs nc ns Q (F0 m g.1 B (g.2.2.1.map (qV am))))) → (W p l e R s m args below meth c H locs nc ns Q (F0 m pc A (st.map (qV am))))) := by
  obtain ⟨hn, lv, h1, h2⟩ := hlr
  simp only [qStep, qstI, qgo] at hs
  split at hs
  · split at hs
    · rename_i hi
      cases hs
      exact ⟨rfl, fun kk => lv_istore hx hb hd h1 (by rw [← hn]; exact hi) rfl (fun B hB => kk B (qLR_put1 hn h2 hB))⟩
    · cases hs
  · cases hs
theorem qs_lstore_n {z : Fin 4} (hx : p.tables.exec = Jvm.exec) (hb : c.code = cc) (hlr : qLR am ls A nL) (hd : decode cc pc = .ok (.lstore_n z, 1)) (hs : qStep d k pc ls st h (.lstore_n z) = some (.inl g)) : g.2.2.2 = h ∧ ((∀ B, qLR am g.2.1 B nL → (W p l e R s m args below meth c H locs nc ns Q (F0 m g.1 B (g.2.2.1.map (qV am))))) → (W p l e R s m args below meth c H locs nc ns Q (F0 m pc A (st.map (qV am))))) := by
  obtain ⟨hn, lv, h1, h2⟩ := hlr
  simp only [qStep, qstL, qgo] at hs
  split at hs
  · split at hs
    · rename_i hi
      cases hs
      exact ⟨rfl, fun kk => lv_lstore_n hx hb hd rfl h1 (by rw [← hn]; exact hi) rfl (fun B hB => kk B (qLR_put2 hn h2 hB))⟩
    · cases hs
  · cases hs
theorem qs_lstore {z : Nat} (hx : p.tables.exec = Jvm.exec) (hb : c.code = cc) (hlr : qLR am ls A nL) (hd : decode cc pc = .ok (.lstore z, 2)) (hs : qStep d k pc ls st h (.lstore z) = some (.inl g)) : g.2.2.2 = h ∧ ((∀ B, qLR am g.2.1 B nL → (W p l e R s m args below meth c H locs nc ns Q (F0 m g.1 B (g.2.2.1.map (qV am))))) → (W p l e R s m args below meth c H locs nc ns Q (F0 m pc A (st.map (qV am))))) := by
  obtain ⟨hn, lv, h1, h2⟩ := hlr
  simp only [qStep, qstL, qgo] at hs
  split at hs
  · split at hs
    · rename_i hi
      cases hs
      exact ⟨rfl, fun kk => lv_lstore hx hb hd h1 (by rw [← hn]; exact hi) rfl (fun B hB => kk B (qLR_put2 hn h2 hB))⟩
    · cases hs
  · cases hs
theorem qs_astore_n {z : Fin 4} (hx : p.tables.exec = Jvm.exec) (hb : c.code = cc) (hlr : qLR am ls A nL) (hd : decode cc pc = .ok (.astore_n z, 1)) (hs : qStep d k pc ls st h (.astore_n z) = some (.inl g)) : g.2.2.2 = h ∧ ((∀ B, qLR am g.2.1 B nL → (W p l e R s m args below meth c H locs nc ns Q (F0 m g.1 B (g.2.2.1.map (qV am))))) → (W p l e R s m args below meth c H locs nc ns Q (F0 m pc A (st.map (qV am))))) := by
  obtain ⟨hn, lv, h1, h2⟩ := hlr
  simp only [qStep, qstA, qgo] at hs
  split at hs
  · split at hs
    · rename_i hi
      cases hs
      exact ⟨rfl, fun kk => lv_astore_n hx hb hd rfl h1 (by rw [← hn]; exact hi) rfl (fun B hB => kk B (qLR_put1 hn h2 hB))⟩
    · cases hs
  · split at hs
    · rename_i hi
      cases hs
      exact ⟨rfl, fun kk => lv_astore_nN hx hb hd rfl h1 (by rw [← hn]; exact hi) rfl (fun B hB => kk B (qLR_put1 hn h2 hB))⟩
    · cases hs
  · cases hs
theorem qs_astore {z : Nat} (hx : p.tables.exec = Jvm.exec) (hb : c.code = cc) (hlr : qLR am ls A nL) (hd : decode cc pc = .ok (.astore z, 2)) (hs : qStep d k pc ls st h (.astore z) = some (.inl g)) : g.2.2.2 = h ∧ ((∀ B, qLR am g.2.1 B nL → (W p l e R s m args below meth c H locs nc ns Q (F0 m g.1 B (g.2.2.1.map (qV am))))) → (W p l e R s m args below meth c H locs nc ns Q (F0 m pc A (st.map (qV am))))) := by
  obtain ⟨hn, lv, h1, h2⟩ := hlr
  simp only [qStep, qstA, qgo] at hs
  split at hs
  · split at hs
    · rename_i hi
      cases hs
      exact ⟨rfl, fun kk => lv_astore hx hb hd h1 (by rw [← hn]; exact hi) rfl (fun B hB => kk B (qLR_put1 hn h2 hB))⟩
    · cases hs
  · split at hs
    · rename_i hi
      cases hs
      exact ⟨rfl, fun kk => lv_astoreN hx hb hd h1 (by rw [← hn]; exact hi) rfl (fun B hB => kk B (qLR_put1 hn h2 hB))⟩
    · cases hs
  · cases hs
theorem qs_iinc {z : Nat} {w : Int} (hx : p.tables.exec = Jvm.exec) (hb : c.code = cc) (hlr : qLR am ls A nL) (hd : decode cc pc = .ok (.iinc z w, 3)) (hs : qStep d k pc ls st h (.iinc z w) = some (.inl g)) : g.2.2.2 = h ∧ ((∀ B, qLR am g.2.1 B nL → (W p l e R s m args below meth c H locs nc ns Q (F0 m g.1 B (g.2.2.1.map (qV am))))) → (W p l e R s m args below meth c H locs nc ns Q (F0 m pc A (st.map (qV am))))) := by
  obtain ⟨hn, lv, h1, h2⟩ := hlr
  simp only [qStep, qld, qgo] at hs
  split at hs
  · rename_i v hv
    split at hs
    · split at hs
      · rename_i hi
        cases hs
        obtain ⟨kx, hkx⟩ := List.getElem?_of_mem (h2 _ _ hv)
        exact ⟨rfl, fun kk => lv_iinc hx hb hd h1 hkx rfl (by rw [← hn]; exact hi) rfl (fun B hB => kk B (qLR_put1 hn h2 hB))⟩
      · cases hs
    · cases hs
  · cases hs
theorem qs_iadd (hx : p.tables.exec = Jvm.exec) (hb : c.code = cc) (hlr : qLR am ls A nL) (hd : decode cc pc = .ok (.iadd, 1)) (hs : qStep d k pc ls st h (.iadd) = some (.inl g)) : g.2.2.2 = h ∧ ((∀ B, qLR am g.2.1 B nL → (W p l e R s m args below meth c H locs nc ns Q (F0 m g.1 B (g.2.2.1.map (qV am))))) → (W p l e R s m args below meth c H locs nc ns Q (F0 m pc A (st.map (qV am))))) := by
  simp only [qStep, qii, qgo] at hs
  split at hs
  · cases hs
    exact ⟨rfl, fun kk => lv_iadd hx hb hd (kk A hlr)⟩
  · cases hs
theorem qs_isub (hx : p.tables.exec = Jvm.exec) (hb : c.code = cc) (hlr : qLR am ls A nL) (hd : decode cc pc = .ok (.isub, 1)) (hs : qStep d k pc ls st h (.isub) = some (.inl g)) : g.2.2.2 = h ∧ ((∀ B, qLR am g.2.1 B nL → (W p l e R s m args below meth c H locs nc ns Q (F0 m g.1 B (g.2.2.1.map (qV am))))) → (W p l e R s m args below meth c H locs nc ns Q (F0 m pc A (st.map (qV am))))) := by
  simp only [qStep, qii, qgo] at hs
  split at hs
  · cases hs
    exact ⟨rfl, fun kk => lv_isub hx hb hd (kk A hlr)⟩
  · cases hs
theorem qs_imul (hx : p.tables.exec = Jvm.exec) (hb : c.code = cc) (hlr : qLR am ls A nL) (hd : decode cc pc = .ok (.imul, 1)) (hs : qStep d k pc ls st h (.imul) = some (.inl g)) : g.2.2.2 = h ∧ ((∀ B, qLR am g.2.1 B nL → (W p l e R s m args below meth c H locs nc ns Q (F0 m g.1 B (g.2.2.1.map (qV am))))) → (W p l e R s m args below meth c H locs nc ns Q (F0 m pc A (st.map (qV am))))) := by
  simp only [qStep, qii, qgo] at hs
  split at hs
  · cases hs
    exact ⟨rfl, fun kk => lv_imul hx hb hd (kk A hlr)⟩
  · cases hs
theorem qs_iand (hx : p.tables.exec = Jvm.exec) (hb : c.code = cc) (hlr : qLR am ls A nL) (hd : decode cc pc = .ok (.iand, 1)) (hs : qStep d k pc ls st h (.iand) = some (.inl g)) : g.2.2.2 = h ∧ ((∀ B, qLR am g.2.1 B nL → (W p l e R s m args below meth c H locs nc ns Q (F0 m g.1 B (g.2.2.1.map (qV am))))) → (W p l e R s m args below meth c H locs nc ns Q (F0 m pc A (st.map (qV am))))) := by
  simp only [qStep, qii, qgo] at hs
  split at hs
  · cases hs
    exact ⟨rfl, fun kk => lv_iand hx hb hd (kk A hlr)⟩
  · cases hs
theorem qs_ior (hx : p.tables.exec = Jvm.exec) (hb : c.code = cc) (hlr : qLR am ls A nL) (hd : decode cc pc = .ok (.ior, 1)) (hs : qStep d k pc ls st h (.ior) = some (.inl g)) : g.2.2.2 = h ∧ ((∀ B, qLR am g.2.1 B nL → (W p l e R s m args below meth c H locs nc ns Q (F0 m g.1 B (g.2.2.1.map (qV am))))) → (W p l e R s m args below meth c H locs nc ns Q (F0 m pc A (st.map (qV am))))) := by
  simp only [qStep, qii, qgo] at hs
  split at hs
  · cases hs
    exact ⟨rfl, fun kk => lv_ior hx hb hd (kk A hlr)⟩
  · cases hs
theorem qs_ixor (hx : p.tables.exec = Jvm.exec) (hb : c.code = cc) (hlr : qLR am ls A nL) (hd : decode cc pc = .ok (.ixor, 1)) (hs : qStep d k pc ls st h (.ixor) = some (.inl g)) : g.2.2.2 = h ∧ ((∀ B, qLR am g.2.1 B nL → (W p l e R s m args below meth c H locs nc ns Q (F0 m g.1 B (g.2.2.1.map (qV am))))) → (W p l e R s m args below meth c H locs nc ns Q (F0 m pc A (st.map (qV am))))) := by
  simp only [qStep, qii, qgo] at hs
  split at hs
  · cases hs
    exact ⟨rfl, fun kk => lv_ixor hx hb hd (kk A hlr)⟩
  · cases hs
theorem qs_ishl (hx : p.tables.exec = Jvm.exec) (hb : c.code = cc) (hlr : qLR am ls A nL) (hd : decode cc pc = .ok (.ishl, 1)) (hs : qStep d k pc ls st h (.ishl) = some (.inl g)) : g.2.2.2 = h ∧ ((∀ B, qLR am g.2.1 B nL → (W p l e R s m args below meth c H locs nc ns Q (F0 m g.1 B (g.2.2.1.map (qV am))))) → (W p l e R s m args below meth c H locs nc ns Q (F0 m pc A (st.map (qV am))))) := by
  simp only [qStep, qii, qgo] at hs
  split at hs
  · cases hs
    exact ⟨rfl, fun kk => lv_ishl hx hb hd (kk A hlr)⟩
  · cases hs
theorem qs_ishr (hx : p.tables.exec = Jvm.exec) (hb : c.code = cc) (hlr : qLR am ls A nL) (hd : decode cc pc = .ok (.ishr, 1)) (hs : qStep d k pc ls st h (.ishr) = some (.inl g)) : g.2.2.2 = h ∧ ((∀ B, qLR am g.2.1 B nL → (W p l e R s m args below meth c H locs nc ns Q (F0 m g.1 B (g.2.2.1.map (qV am))))) → (W p l e R s m args below meth c H locs nc ns Q (F0 m pc A (st.map (qV am))))) := by
  simp only [qStep, qii, qgo] at hs
  split at hs
  · cases hs
    exact ⟨rfl, fun kk => lv_ishr hx hb hd (kk A hlr)⟩
  · cases hs
theorem qs_iushr (hx : p.tables.exec = Jvm.exec) (hb : c.code = cc) (hlr : qLR am ls A nL) (hd : decode cc pc = .ok (.iushr, 1)) (hs : qStep d k pc ls st h (.iushr) = some (.inl g)) : g.2.2.2 = h ∧ ((∀ B, qLR am g.2.1 B nL → (W p l e R s m args below meth c H locs nc ns Q (F0 m g.1 B (g.2.2.1.map (qV am))))) → (W p l e R s m args below meth c H locs nc ns Q (F0 m pc A (st.map (qV am))))) := by
  simp only [qStep, qii, qgo] at hs
  split at hs
  · cases hs
    exact ⟨rfl, fun kk => lv_iushr hx hb hd rfl (kk A hlr)⟩
  · cases hs
theorem qs_idiv (hx : p.tables.exec = Jvm.exec) (hb : c.code = cc) (hlr : qLR am ls A nL) (hd : decode cc pc = .ok (.idiv, 1)) (hs : qStep d k pc ls st h (.idiv) = some (.inl g)) : g.2.2.2 = h ∧ ((∀ B, qLR am g.2.1 B nL → (W p l e R s m args below meth c H locs nc ns Q (F0 m g.1 B (g.2.2.1.map (qV am))))) → (W p l e R s m args below meth c H locs nc ns Q (F0 m pc A (st.map (qV am))))) := by
  simp only [qStep, qii, qgo] at hs
  split at hs
  · split at hs
    · cases hs
    · rename_i hy
      cases hs
      exact ⟨rfl, fun kk => lv_idiv hx hb hd hy (kk A hlr)⟩
  · cases hs
theorem qs_irem (hx : p.tables.exec = Jvm.exec) (hb : c.code = cc) (hlr : qLR am ls A nL) (hd : decode cc pc = .ok (.irem, 1)) (hs : qStep d k pc ls st h (.irem) = some (.inl g)) : g.2.2.2 = h ∧ ((∀ B, qLR am g.2.1 B nL → (W p l e R s m args below meth c H locs nc ns Q (F0 m g.1 B (g.2.2.1.map (qV am))))) → (W p l e R s m args below meth c H locs nc ns Q (F0 m pc A (st.map (qV am))))) := by
  simp only [qStep, qii, qgo] at hs
  split at hs
  · split at hs
    · cases hs
    · rename_i hy
      cases hs
      exact ⟨rfl, fun kk => lv_irem hx hb hd hy (kk A hlr)⟩
  · cases hs
theorem qs_ladd (hx : p.tables.exec = Jvm.exec) (hb : c.code = cc) (hlr : qLR am ls A nL) (hd : decode cc pc = .ok (.ladd, 1)) (hs : qStep d k pc ls st h (.ladd) = some (.inl g)) : g.2.2.2 = h ∧ ((∀ B, qLR am g.2.1 B nL → (W p l e R s m args below meth c H locs nc ns Q (F0 m g.1 B (g.2.2.1.map (qV am))))) → (W p l e R s m args below meth c H locs nc ns Q (F0 m pc A (st.map (qV am))))) := by
  simp only [qStep, qll, qgo] at hs
  split at hs
  · cases hs
    exact ⟨rfl, fun kk => lv_ladd hx hb hd (kk A hlr)⟩
  · cases hs
theorem qs_lsub (hx : p.tables.exec = Jvm.exec) (hb : c.code = cc) (hlr : qLR am ls A nL) (hd : decode cc pc = .ok (.lsub, 1)) (hs : qStep d k pc ls st h (.lsub) = some (.inl g)) : g.2.2.2 = h ∧ ((∀ B, qLR am g.2.1 B nL → (W p l e R s m args below meth c H locs nc ns Q (F0 m g.1 B (g.2.2.1.map (qV am))))) → (W p l e R s m args below meth c H locs nc ns Q (F0 m pc A (st.map (qV am))))) := by
  simp only [qStep, qll, qgo] at hs
  split at hs
  · cases hs
    exact ⟨rfl, fun kk => lv_lsub hx hb hd (kk A hlr)⟩
  · cases hs
theorem qs_lmul (hx : p.tables.exec = Jvm.exec) (hb : c.code = cc) (hlr : qLR am ls A nL) (hd : decode cc pc = .ok (.lmul, 1)) (hs : qStep d k pc ls st h (.lmul) = some (.inl g)) : g.2.2.2 = h ∧ ((∀ B, qLR am g.2.1 B nL → (W p l e R s m args below meth c H locs nc ns Q (F0 m g.1 B (g.2.2.1.map (qV am))))) → (W p l e R s m args below meth c H locs nc ns Q (F0 m pc A (st.map (qV am))))) := by
  simp only [qStep, qll, qgo] at hs
  split at hs
  · cases hs
    exact ⟨rfl, fun kk => lv_lmul hx hb hd (kk A hlr)⟩
  · cases hs
theorem qs_lcmp (hx : p.tables.exec = Jvm.exec) (hb : c.code = cc) (hlr : qLR am ls A nL) (hd : decode cc pc = .ok (.lcmp, 1)) (hs : qStep d k pc ls st h (.lcmp) = some (.inl g)) : g.2.2.2 = h ∧ ((∀ B, qLR am g.2.1 B nL → (W p l e R s m args below meth c H locs nc ns Q (F0 m g.1 B (g.2.2.1.map (qV am))))) → (W p l e R s m args below meth c H locs nc ns Q (F0 m pc A (st.map (qV am))))) := by
  simp only [qStep, qll, qgo] at hs
  split at hs
  · cases hs
    exact ⟨rfl, fun kk => W.lcmp hx hb hd (kk A hlr)⟩
  · cases hs
theorem qs_ldiv (hx : p.tables.exec = Jvm.exec) (hb : c.code = cc) (hlr : qLR am ls A nL) (hd : decode cc pc = .ok (.ldiv, 1)) (hs : qStep d k pc ls st h (.ldiv) = some (.inl g)) : g.2.2.2 = h ∧ ((∀ B, qLR am g.2.1 B nL → (W p l e R s m args below meth c H locs nc ns Q (F0 m g.1 B (g.2.2.1.map (qV am))))) → (W p l e R s m args below meth c H locs nc ns Q (F0 m pc A (st.map (qV am))))) := by
  simp only [qStep, qll, qgo] at hs
  split at hs
  · split at hs
    · cases hs
    · rename_i hy
      cases hs
      exact ⟨rfl, fun kk => lv_ldiv hx hb hd hy (kk A hlr)⟩
  · cases hs
theorem qs_lrem (hx : p.tables.exec = Jvm.exec) (hb : c.code = cc) (hlr : qLR am ls A nL) (hd : decode cc pc = .ok (.lrem, 1)) (hs : qStep d k pc ls st h (.lrem) = some (.inl g)) : g.2.2.2 = h ∧ ((∀ B, qLR am g.2.1 B nL → (W p l e R s m args below meth c H locs nc ns Q (F0 m g.1 B (g.2.2.1.map (qV am))))) → (W p l e R s m args below meth c H locs nc ns Q (F0 m pc A (st.map (qV am))))) := by
  simp only [qStep, qll, qgo] at hs
  split at hs
  · split at hs
    · cases hs
    · rename_i hy
      cases hs
      exact ⟨rfl, fun kk => lv_lrem hx hb hd hy (kk A hlr)⟩
  · cases hs
theorem qs_ineg (hx : p.tables.exec = Jvm.exec) (hb : c.code = cc) (hlr : qLR am ls A nL) (hd : decode cc pc = .ok (.ineg, 1)) (hs : qStep d k pc ls st h (.ineg) = some (.inl g)) : g.2.2.2 = h ∧ ((∀ B, qLR am g.2.1 B nL → (W p l e R s m args below meth c H locs nc ns Q (F0 m g.1 B (g.2.2.1.map (qV am))))) → (W p l e R s m args below meth c H locs nc ns Q (F0 m pc A (st.map (qV am))))) := by
  simp only [qStep, qi_1, qgo] at hs
  split at hs
  · cases hs
    exact ⟨rfl, fun kk => lv_ineg hx hb hd (kk A hlr)⟩
  · cases hs
theorem qs_lneg (hx : p.tables.exec = Jvm.exec) (hb : c.code = cc) (hlr : qLR am ls A nL) (hd : decode cc pc = .ok (.lneg, 1)) (hs : qStep d k pc ls st h (.lneg) = some (.inl g)) : g.2.2.2 = h ∧ ((∀ B, qLR am g.2.1 B nL → (W p l e R s m args below meth c H locs nc ns Q (F0 m g.1 B (g.2.2.1.map (qV am))))) → (W p l e R s m args below meth c H locs nc ns Q (F0 m pc A (st.map (qV am))))) := by
  simp only [qStep, ql_1, qgo] at hs
  split at hs
  · cases hs
    exact ⟨rfl, fun kk => lv_lneg hx hb hd (kk A hlr)⟩
  · cases hs
theorem qs_i2l (hx : p.tables.exec = Jvm.exec) (hb : c.code = cc) (hlr : qLR am ls A nL) (hd : decode cc pc = .ok (.i2l, 1)) (hs : qStep d k pc ls st h (.i2l) = some (.inl g)) : g.2.2.2 = h ∧ ((∀ B, qLR am g.2.1 B nL → (W p l e R s m args below meth c H locs nc ns Q (F0 m g.1 B (g.2.2.1.map (qV am))))) → (W p l e R s m args below meth c H locs nc ns Q (F0 m pc A (st.map (qV am))))) := by
  simp only [qStep, qi_1, qgo] at hs
  split at hs
  · cases hs
    exact ⟨rfl, fun kk => lv_i2l hx hb hd rfl (kk A hlr)⟩
  · cases hs
theorem qs_i2b (hx : p.tables.exec = Jvm.exec) (hb : c.code = cc) (hlr : qLR am ls A nL) (hd : decode cc pc = .ok (.i2b, 1)) (hs : qStep d k pc ls st h (.i2b) = some (.inl g)) : g.2.2.2 = h ∧ ((∀ B, qLR am g.2.1 B nL → (W p l e R s m args below meth c H locs nc ns Q (F0 m g.1 B (g.2.2.1.map (qV am))))) → (W p l e R s m args below meth c H locs nc ns Q (F0 m pc A (st.map (qV am))))) := by
  simp only [qStep, qi_1, qgo] at hs
  split at hs
  · cases hs
    exact ⟨rfl, fun kk => lv_i2b hx hb hd rfl (kk A hlr)⟩
  · cases hs
theorem qs_l2i (hx : p.tables.exec = Jvm.exec) (hb : c.code = cc) (hlr : qLR am ls A nL) (hd : decode cc pc = .ok (.l2i, 1)) (hs : qStep d k pc ls st h (.l2i) = some (.inl g)) : g.2.2.2 = h ∧ ((∀ B, qLR am g.2.1 B nL → (W p l e R s m args below meth c H locs nc ns Q (F0 m g.1 B (g.2.2.1.map (qV am))))) → (W p l e R s m args below meth c H locs nc ns Q (F0 m pc A (st.map (qV am))))) := by
  simp only [qStep, ql_1, qgo] at hs
  split at hs
  · cases hs
    exact ⟨rfl, fun kk => lv_l2i hx hb hd rfl (kk A hlr)⟩
  · cases hs
theorem qs_dup (hx : p.tables.exec = Jvm.exec) (hb : c.code = cc) (hlr : qLR am ls A nL) (hd : decode cc pc = .ok (.dup, 1)) (hs : qStep d k pc ls st h (.dup) = some (.inl g)) : g.2.2.2 = h ∧ ((∀ B, qLR am g.2.1 B nL → (W p l e R s m args below meth c H locs nc ns Q (F0 m g.1 B (g.2.2.1.map (qV am))))) → (W p l e R s m args below meth c H locs nc ns Q (F0 m pc A (st.map (qV am))))) := by
  simp only [qStep, qgo] at hs
  split at hs
  · split at hs
    · rename_i hc
      cases hs
      exact ⟨rfl, fun kk => lv_dup hx hb hd (by rw [qV_cat]; exact hc) (kk A hlr)⟩
    · cases hs
  · cases hs
theorem qs_dup2 (hx : p.tables.exec = Jvm.exec) (hb : c.code = cc) (hlr : qLR am ls A nL) (hd : decode cc pc = .ok (.dup2, 1)) (hs : qStep d k pc ls st h (.dup2) = some (.inl g)) : g.2.2.2 = h ∧ ((∀ B, qLR am g.2.1 B nL → (W p l e R s m args below meth c H locs nc ns Q (F0 m g.1 B (g.2.2.1.map (qV am))))) → (W p l e R s m args below meth c H locs nc ns Q (F0 m pc A (st.map (qV am))))) := by
  simp only [qStep, qgo] at hs
  split at hs
  · rename_i v r
    split at hs
    · rename_i hc
      cases hs
      exact ⟨rfl, fun kk => lv_dup2_2 hx hb hd (by rw [qV_cat]; exact hc) (kk A hlr)⟩
    · rename_i hc
      split at hs
      · split at hs
        · rename_i hw
          cases hs
          have hc1 : v.category = 1 := (lv_cat v).resolve_right hc
          exact ⟨rfl, fun kk => lv_dup2_11 hx hb hd (by rw [qV_cat]; exact hc1) (by rw [qV_cat]; exact hw) (kk A hlr)⟩
        · cases hs
      · cases hs
  · cases hs
theorem qs_goto {z : Int} (hx : p.tables.exec = Jvm.exec) (hb : c.code = cc) (hlr : qLR am ls A nL) (hd : decode cc pc = .ok (.goto z, 3)) (hs : qStep d k pc ls st h (.goto z) = some (.inl g)) : g.2.2.2 = h ∧ ((∀ B, qLR am g.2.1 B nL → (W p l e R s m args below meth c H locs nc ns Q (F0 m g.1 B (g.2.2.1.map (qV am))))) → (W p l e R s m args below meth c H locs nc ns Q (F0 m pc A (st.map (qV am))))) := by
  simp only [qStep] at hs
  obtain ⟨t, ht, hs⟩ := qto_spec hs
  simp only [qgo] at hs
  cases hs
  exact ⟨rfl, fun kk => lv_goto hx hb hd ht (kk A hlr)⟩
theorem qs_ifCond {w : ClassFile.Cond} {z : Int} (hx : p.tables.exec = Jvm.exec) (hb : c.code = cc) (hlr : qLR am ls A nL) (hd : decode cc pc = .ok (.ifCond w z, 3)) (hs : qStep d k pc ls st h (.ifCond w z) = some (.inl g)) : g.2.2.2 = h ∧ ((∀ B, qLR am g.2.1 B nL → (W p l e R s m args below meth c H locs nc ns Q (F0 m g.1 B (g.2.2.1.map (qV am))))) → (W p l e R s m args below meth c H locs nc ns Q (F0 m pc A (st.map (qV am))))) := by
  simp only [qStep, qi_1] at hs
  split at hs
  · obtain ⟨t, ht, hs⟩ := qto_spec hs
    cases w <;> simp only [qbr, qgo] at hs <;> split at hs <;> rename_i hc <;> cases hs
    · exact ⟨rfl, fun kk => lv_if_eq hx hb hd ht (fun _ => kk A hlr) (fun q => absurd hc q)⟩
    · exact ⟨rfl, fun kk => lv_if_eq hx hb hd ht (fun q => absurd q hc) (fun _ => kk A hlr)⟩
    · exact ⟨rfl, fun kk => lv_if_ne hx hb hd ht (fun q => absurd hc q) (fun _ => kk A hlr)⟩
    · exact ⟨rfl, fun kk => lv_if_ne hx hb hd ht (fun _ => kk A hlr) (fun q => absurd q hc)⟩
    · exact ⟨rfl, fun kk => lv_if_lt hx hb hd ht (fun _ => kk A hlr) (fun q => absurd hc q)⟩
    · exact ⟨rfl, fun kk => lv_if_lt hx hb hd ht (fun q => absurd q hc) (fun _ => kk A hlr)⟩
    · exact ⟨rfl, fun kk => lv_if_ge hx hb hd ht (fun _ => kk A hlr) (fun q => absurd hc q)⟩
    · exact ⟨rfl, fun kk => lv_if_ge hx hb hd ht (fun q => absurd q hc) (fun _ => kk A hlr)⟩
    · exact ⟨rfl, fun kk => lv_if_gt hx hb hd ht (fun _ => kk A hlr) (fun q => absurd hc q)⟩
    · exact ⟨rfl, fun kk => lv_if_gt hx hb hd ht (fun q => absurd q hc) (fun _ => kk A hlr)⟩
    · exact ⟨rfl, fun kk => lv_if_le hx hb hd ht (fun _ => kk A hlr) (fun q => absurd hc q)⟩
    · exact ⟨rfl, fun kk => lv_if_le hx hb hd ht (fun q => absurd q hc) (fun _ => kk A hlr)⟩
  · cases hs
theorem qs_if_icmp {w : ClassFile.Cond} {z : Int} (hx : p.tables.exec = Jvm.exec) (hb : c.code = cc) (hlr : qLR am ls A nL) (hd : decode cc pc = .ok (.if_icmp w z, 3)) (hs : qStep d k pc ls st h (.if_icmp w z) = some (.inl g)) : g.2.2.2 = h ∧ ((∀ B, qLR am g.2.1 B nL → (W p l e R s m args below meth c H locs nc ns Q (F0 m g.1 B (g.2.2.1.map (qV am))))) → (W p l e R s m args below meth c H locs nc ns Q (F0 m pc A (st.map (qV am))))) := by
  simp only [qStep, qii] at hs
  split at hs
  · obtain ⟨t, ht, hs⟩ := qto_spec hs
    cases w <;> simp only [qbr, qgo] at hs <;> split at hs <;> rename_i hc <;> cases hs
    · exact ⟨rfl, fun kk => lv_icmp_eq hx hb hd ht (fun _ => kk A hlr) (fun q => absurd hc q)⟩
    · exact ⟨rfl, fun kk => lv_icmp_eq hx hb hd ht (fun q => absurd q hc) (fun _ => kk A hlr)⟩
    · exact ⟨rfl, fun kk => lv_icmp_ne hx hb hd ht (fun q => absurd hc q) (fun _ => kk A hlr)⟩
    · exact ⟨rfl, fun kk => lv_icmp_ne hx hb hd ht (fun _ => kk A hlr) (fun q => absurd q hc)⟩
    · exact ⟨rfl, fun kk => lv_icmp_lt hx hb hd ht (fun _ => kk A hlr) (fun q => absurd hc q)⟩
    · exact ⟨rfl, fun kk => lv_icmp_lt hx hb hd ht (fun q => absurd q hc) (fun _ => kk A hlr)⟩
    · exact ⟨rfl, fun kk => lv_icmp_ge hx hb hd ht (fun _ => kk A hlr) (fun q => absurd hc q)⟩
    · exact ⟨rfl, fun kk => lv_icmp_ge hx hb hd ht (fun q => absurd q hc) (fun _ => kk A hlr)⟩
    · exact ⟨rfl, fun kk => lv_icmp_gt hx hb hd ht (fun _ => kk A hlr) (fun q => absurd hc q)⟩
    · exact ⟨rfl, fun kk => lv_icmp_gt hx hb hd ht (fun q => absurd q hc) (fun _ => kk A hlr)⟩
    · exact ⟨rfl, fun kk => lv_icmp_le hx hb hd ht (fun _ => kk A hlr) (fun q => absurd hc q)⟩
    · exact ⟨rfl, fun kk => lv_icmp_le hx hb hd ht (fun q => absurd q hc) (fun _ => kk A hlr)⟩
  · cases hs
theorem qs_ifnull {z : Int} (hx : p.tables.exec = Jvm.exec) (hb : c.code = cc) (hlr : qLR am ls A nL) (hd : decode cc pc = .ok (.ifnull z, 3)) (hs : qStep d k pc ls st h (.ifnull z) = some (.inl g)) : g.2.2.2 = h ∧ ((∀ B, qLR am g.2.1 B nL → (W p l e R s m args below meth c H locs nc ns Q (F0 m g.1 B (g.2.2.1.map (qV am))))) → (W p l e R s m args below meth c H locs nc ns Q (F0 m pc A (st.map (qV am))))) := by
  simp only [qStep] at hs
  split at hs
  · obtain ⟨t, ht, hs⟩ := qto_spec hs
    simp only [qgo] at hs
    cases hs
    exact ⟨rfl, fun kk => lv_ifnullN hx hb hd ht (kk A hlr)⟩
  · simp only [qgo] at hs
    cases hs
    exact ⟨rfl, fun kk => lv_ifnull hx hb hd (kk A hlr)⟩
  · cases hs
theorem qs_ifnonnull {z : Int} (hx : p.tables.exec = Jvm.exec) (hb : c.code = cc) (hlr : qLR am ls A nL) (hd : decode cc pc = .ok (.ifnonnull z, 3)) (hs : qStep d k pc ls st h (.ifnonnull z) = some (.inl g)) : g.2.2.2 = h ∧ ((∀ B, qLR am g.2.1 B nL → (W p l e R s m args below meth c H locs nc ns Q (F0 m g.1 B (g.2.2.1.map (qV am))))) → (W p l e R s m args below meth c H locs nc ns Q (F0 m pc A (st.map (qV am))))) := by
  simp only [qStep] at hs
  split at hs
  · obtain ⟨t, ht, hs⟩ := qto_spec hs
    simp only [qgo] at hs
    cases hs
    exact ⟨rfl, fun kk => lv_ifnonnull hx hb hd ht (kk A hlr)⟩
  · simp only [qgo] at hs
    cases hs
    exact ⟨rfl, fun kk => lv_ifnonnullN hx hb hd (kk A hlr)⟩
  · cases hs
theorem qs_tableswitch {z lo hi : Int} {offs : Array Int} {len : Nat} (hx : p.tables.exec = Jvm.exec) (hb : c.code = cc) (hlr : qLR am ls A nL) (hd : decode cc pc = .ok (.tableswitch z lo hi offs, len)) (hs : qStep d k pc ls st h (.tableswitch z lo hi offs) = some (.inl g)) : g.2.2.2 = h ∧ ((∀ B, qLR am g.2.1 B nL → (W p l e R s m args below meth c H locs nc ns Q (F0 m g.1 B (g.2.2.1.map (qV am))))) → (W p l e R s m args below meth c H locs nc ns Q (F0 m pc A (st.map (qV am))))) := by
  simp only [qStep, qi_1] at hs
  split at hs
  · rename_i x r
    split at hs
    · rename_i ho
      obtain ⟨t, ht, hs⟩ := qto_spec hs
      simp only [qgo] at hs
      cases hs
      exact ⟨rfl, fun kk => lv_tableOut hx hb hd ho ht (kk A hlr)⟩
    · rename_i ho
      split at hs
      · rename_i o hoo
        obtain ⟨t, ht, hs⟩ := qto_spec hs
        simp only [qgo] at hs
        cases hs
        exact ⟨rfl, fun kk => lv_tableIn hx hb hd (fun q => ho (Or.inl q)) (fun q => ho (Or.inr q)) hoo ht (kk A hlr)⟩
      · cases hs
  · cases hs
theorem qs_lookupswitch {z : Int} {ps : Array (Int × Int)} {len : Nat} (hx : p.tables.exec = Jvm.exec) (hb : c.code = cc) (hlr : qLR am ls A nL) (hd : decode cc pc = .ok (.lookupswitch z ps, len)) (hs : qStep d k pc ls st h (.lookupswitch z ps) = some (.inl g)) : g.2.2.2 = h ∧ ((∀ B, qLR am g.2.1 B nL → (W p l e R s m args below meth c H locs nc ns Q (F0 m g.1 B (g.2.2.1.map (qV am))))) → (W p l e R s m args below meth c H locs nc ns Q (F0 m pc A (st.map (qV am))))) := by
  simp only [qStep, qi_1] at hs
  split at hs
  · rename_i x r
    split at hs
    · rename_i hp
      obtain ⟨t, ht, hs⟩ := qto_spec hs
      simp only [qgo] at hs
      cases hs
      exact ⟨rfl, fun kk => lv_lookup hx hb hd hp rfl ht (kk A hlr)⟩
    · cases hs
  · cases hs
end QS
