/-! Steps that write cells, and that make them. -/
theorem qfit_ok (am : Nat → Nat) {ty : FieldType} {v : Value} (h : qfit ty v = true) : narrow ty (qV am v) = qV am v ∧ fits ty (qV am v) = true := by
  unfold qfit at h
  split at h
  · exact ⟨rfl, rfl⟩
  · exact ⟨rfl, rfl⟩
  · rw [decide_eq_true_eq] at h
    rcases h with rfl | rfl
    · exact ⟨rfl, rfl⟩
    · exact ⟨rfl, rfl⟩
  · exact ⟨rfl, rfl⟩
  · exact ⟨rfl, rfl⟩
  · exact ⟨rfl, rfl⟩
  · exact ⟨rfl, rfl⟩
  · cases h
theorem qV_def (am : Nat → Nat) (ty : FieldType) : qV am (defaultValue ty) = defaultValue ty := by cases ty <;> rfl
def qNj (c : Nat) : Bool := (qN.getD c []).all (fun e => Nat.blt e.2.1 13)
theorem qNj_all : (List.range 17).all qNj = true := by decide +kernel
theorem qN_lt {c i a p1 p2 p3 : Nat} (h : qN_ c i = some (a, p1, p2, p3)) : a < 13 := by
  have hm := qlookup h
  have hc : c < 17 := Nat.lt_of_not_le fun q => by
    rw [List.getD_eq_getElem?_getD, List.getElem?_eq_none (show qN.length ≤ c from q)] at hm
    cases hm
  have := List.all_eq_true.mp (qrange qNj_all hc) _ hm
  simpa using this
theorem qac_int : Cond.arrayClass .int ∈ qWall := qwall_in (p := 188) (qAt_spec (by decide +kernel)) rfl
theorem qac_boolean : Cond.arrayClass .boolean ∈ qWall := qwall_in (p := 189) (qAt_spec (by decide +kernel)) rfl
theorem qac_long : Cond.arrayClass .long ∈ qWall := qwall_in (p := 190) (qAt_spec (by decide +kernel)) rfl
theorem qac_byte : Cond.arrayClass .byte ∈ qWall := qwall_in (p := 1422) (qAt_spec (by decide +kernel)) rfl
theorem qcl_state : Cond.classLink (qR 11) 16 "SaggingNet$State" ∈ qWall := qwall_in (p := 280) (qAt_spec (by decide +kernel)) rfl
theorem qcl_2 : Cond.classLink (qR 2) 30 "[[I" ∈ qWall := qwall_in (p := 511) (qAt_spec (by decide +kernel)) rfl
theorem qcl_6 : Cond.classLink (qR 6) 25 "[[J" ∈ qWall := qwall_in (p := 483) (qAt_spec (by decide +kernel)) rfl
theorem qcl_7 : Cond.classLink (qR 7) 37 "[[J" ∈ qWall := qwall_in (p := 340) (qAt_spec (by decide +kernel)) rfl
theorem qcpy_10 : Cond.methodLink (qR 10) 42 arraycopyName ∈ qWall := qwall_in (p := 736) (qAt_spec (by decide +kernel)) rfl
theorem qcpy_8 : Cond.methodLink (qR 8) 37 arraycopyName ∈ qWall := qwall_in (p := 804) (qAt_spec (by decide +kernel)) rfl
theorem qcpy_n : Cond.native arraycopyName ∈ qWall := qwall_in (p := 738) (qAt_spec (by decide +kernel)) rfl
theorem qcpy_s : Cond.static arraycopyName ∈ qWall := qwall_in (p := 737) (qAt_spec (by decide +kernel)) rfl
theorem qcpy_i : Cond.initialized "java/lang/System" ∈ qWall := qwall_in (p := 127) (qAt_spec (by decide +kernel)) rfl

section QW
variable {p : Program} {l : Launch} {e : Env} {R : Room} {s : State} {m : MethodId} {args : Array Value} {below : List Frame} {meth : Method} {c : Code} {H : Heap} {locs : List Loc} {nc ns : Nat} {Q : State → Prop}
variable {cc : ByteArray} {d k pc nL : Nat} {A : Array Slot} {am : Nat → Nat} {ls : qL} {st : List Value} {h : qH} {g : Nat × qL × List Value × qH}
variable {dC : Nat → ClassId} {dI : Nat → Nat → Nat} {tc : Nat → ClassId} {base L : Nat} {xs : Nat → Int32}
theorem qs_iastore (hx : p.tables.exec = Jvm.exec) (hb : c.code = cc) (hlr : qLR am ls A nL) (ham : ∀ i, am (i + 2) = base + i) (hK : qKS dC dI tc s) (hH : qHR am dC dI tc base L xs h H) (hS : va_S (fun q => base ≤ q) s.heap H locs) (hd : decode cc pc = .ok (.iastore, 1)) (hs : qStep d k pc ls st h (.iastore) = some (.inl g)) : (∀ B H1 locs1 nc1 ns1, qLR am g.2.1 B nL → qHR am dC dI tc base L xs g.2.2.2 H1 → va_S (fun q => base ≤ q) s.heap H1 locs1 → nc1 + h.1 = nc + g.2.2.2.1 → ns1 + h.2.1 = ns + g.2.2.2.2.1 → (W p l e R s m args below meth c H1 locs1 nc1 ns1 Q (F0 m g.1 B (g.2.2.1.map (qV am))))) → (W p l e R s m args below meth c H locs nc ns Q (F0 m pc A (st.map (qV am)))) := by
  simp only [qStep, qix, qgo] at hs
  split at hs
  · rename_i x st1
    split at hs
    · rename_i i a r
      split at hs
      · rename_i t n gg hc
        split at hs
        · rename_i hr
          split at hs
          · rename_i q n2 f he
            cases he
            split at hs
            · rename_i ht
              subst ht
              cases hs
              intro kk
              have hv := vp_in_iff.mpr hr
              obtain ⟨hat, -, h2a, hba⟩ := hH.arr ham hc (Nat.ne_of_beq_eq_false rfl) (Nat.ne_of_beq_eq_false rfl)
              have hcell : H[am a]? = some (vp_cell (tc 0) (n, .inl f)) := hat
              refine W.iast hx hb hcell ((hK.1.2 0 _ rfl).1 n (fun j => .int (f j))) (fun q => by cases q) (by show ¬ (i < 0 ∨ (arrV _ _ _).slots.size ≤ _); rw [arrV_size]; exact hv) rfl rfl hd fun H1 e1 z oq => ?_
              refine kk A H1 _ nc ns hlr (hH.set ham h2a hc ?_ (fun o ho => by cases ho; exact Nat.le_of_ble_eq_true rfl) z oq) (hS.put z oq hba) rfl rfl
              show H1[am a]? = some (vp_cell (tc 0) (n, .inl (upd f i.toNatClampNeg x)))
              rw [e1, vp_cell_i, vp_cell_i, arrV_store]
              congr 2
              funext q
              by_cases hq : q = i.toNatClampNeg
              · subst hq
                simp [updV, upd, vp_updL]
              · simp [updV, upd, vp_updL, hq]
            · cases hs
          · cases hs
        · cases hs
      · cases hs
    · cases hs
  · cases hs
theorem qs_lastore (hx : p.tables.exec = Jvm.exec) (hb : c.code = cc) (hlr : qLR am ls A nL) (ham : ∀ i, am (i + 2) = base + i) (hK : qKS dC dI tc s) (hH : qHR am dC dI tc base L xs h H) (hS : va_S (fun q => base ≤ q) s.heap H locs) (hd : decode cc pc = .ok (.lastore, 1)) (hs : qStep d k pc ls st h (.lastore) = some (.inl g)) : (∀ B H1 locs1 nc1 ns1, qLR am g.2.1 B nL → qHR am dC dI tc base L xs g.2.2.2 H1 → va_S (fun q => base ≤ q) s.heap H1 locs1 → nc1 + h.1 = nc + g.2.2.2.1 → ns1 + h.2.1 = ns + g.2.2.2.2.1 → (W p l e R s m args below meth c H1 locs1 nc1 ns1 Q (F0 m g.1 B (g.2.2.1.map (qV am))))) → (W p l e R s m args below meth c H locs nc ns Q (F0 m pc A (st.map (qV am)))) := by
  simp only [qStep, qix, qgo] at hs
  split at hs
  · rename_i x st1
    split at hs
    · rename_i i a r
      split at hs
      · rename_i t n gg hc
        split at hs
        · rename_i hr
          split at hs
          · rename_i q n2 f he
            cases he
            split at hs
            · rename_i ht
              subst ht
              cases hs
              intro kk
              have hv := vp_in_iff.mpr hr
              obtain ⟨hat, -, h2a, hba⟩ := hH.arr ham hc (Nat.ne_of_beq_eq_false rfl) (Nat.ne_of_beq_eq_false rfl)
              have hcell : H[am a]? = some (vp_cell (tc 2) (n, .inr (.inl f))) := hat
              refine W.last hx hb hcell ((hK.1.2 2 _ rfl).1 n (fun j => .long (f j))) (fun q => by cases q) (by show ¬ (i < 0 ∨ (arrV _ _ _).slots.size ≤ _); rw [arrV_size]; exact hv) rfl rfl hd fun H1 e1 z oq => ?_
              refine kk A H1 _ nc ns hlr (hH.set ham h2a hc ?_ (fun o ho => by cases ho; exact Nat.le_of_ble_eq_true rfl) z oq) (hS.put z oq hba) rfl rfl
              show H1[am a]? = some (vp_cell (tc 2) (n, .inr (.inl (vp_updL f i.toNatClampNeg x))))
              rw [e1, vp_cell_l, vp_cell_l, arrV_store]
              congr 2
              funext q
              by_cases hq : q = i.toNatClampNeg
              · subst hq
                simp [updV, upd, vp_updL]
              · simp [updV, upd, vp_updL, hq]
            · cases hs
          · cases hs
        · cases hs
      · cases hs
    · cases hs
  · cases hs
theorem qs_bastore (hx : p.tables.exec = Jvm.exec) (hb : c.code = cc) (hlr : qLR am ls A nL) (ham : ∀ i, am (i + 2) = base + i) (hK : qKS dC dI tc s) (hH : qHR am dC dI tc base L xs h H) (hS : va_S (fun q => base ≤ q) s.heap H locs) (hd : decode cc pc = .ok (.bastore, 1)) (hs : qStep d k pc ls st h (.bastore) = some (.inl g)) : (∀ B H1 locs1 nc1 ns1, qLR am g.2.1 B nL → qHR am dC dI tc base L xs g.2.2.2 H1 → va_S (fun q => base ≤ q) s.heap H1 locs1 → nc1 + h.1 = nc + g.2.2.2.1 → ns1 + h.2.1 = ns + g.2.2.2.2.1 → (W p l e R s m args below meth c H1 locs1 nc1 ns1 Q (F0 m g.1 B (g.2.2.1.map (qV am))))) → (W p l e R s m args below meth c H locs nc ns Q (F0 m pc A (st.map (qV am)))) := by
  simp only [qStep, qix, qgo] at hs
  split at hs
  · rename_i x st1
    split at hs
    · rename_i i a r
      split at hs
      · rename_i t n gg hc
        split at hs
        · rename_i hr
          split at hs
          · rename_i q n2 f he
            cases he
            split at hs
            · rename_i ht
              subst ht
              cases hs
              intro kk
              have hv := vp_in_iff.mpr hr
              obtain ⟨hat, -, h2a, hba⟩ := hH.arr ham hc (Nat.ne_of_beq_eq_false rfl) (Nat.ne_of_beq_eq_false rfl)
              have hcell : H[am a]? = some (vp_cell (tc 3) (n, .inl f)) := hat
              refine W.bast hx hb hcell ((hK.1.2 3 _ rfl).1 n (fun j => .int (f j))) (fun q => by cases q) (by show ¬ (i < 0 ∨ (arrV _ _ _).slots.size ≤ _); rw [arrV_size]; exact hv) rfl rfl hd fun H1 e1 z oq => ?_
              have hn9 : narrow .byte (.int x) = .int x.toInt8.toInt32 := rfl
              rw [hn9] at e1
              refine kk A H1 _ nc ns hlr (hH.set ham h2a hc ?_ (fun o ho => by cases ho; exact Nat.le_of_ble_eq_true rfl) z oq) (hS.put z oq hba) rfl rfl
              show H1[am a]? = some (vp_cell (tc 3) (n, .inl (upd f i.toNatClampNeg x.toInt8.toInt32)))
              rw [e1, vp_cell_i, vp_cell_i, arrV_store]
              congr 2
              funext q
              by_cases hq : q = i.toNatClampNeg
              · subst hq
                simp [updV, upd, vp_updL]
              · simp [updV, upd, vp_updL, hq]
            · split at hs
              · rename_i ht
                obtain ⟨ht, hx01⟩ := ht
                subst ht
                cases hs
                intro kk
                have hv := vp_in_iff.mpr hr
                obtain ⟨hat, -, h2a, hba⟩ := hH.arr ham hc (Nat.ne_of_beq_eq_false rfl) (Nat.ne_of_beq_eq_false rfl)
                have hcell : H[am a]? = some (vp_cell (tc 1) (n, .inl f)) := hat
                refine W.zast hx hb hcell ((hK.1.2 1 _ rfl).1 n (fun j => .int (f j))) (fun q => by cases q) (by show ¬ (i < 0 ∨ (arrV _ _ _).slots.size ≤ _); rw [arrV_size]; exact hv) rfl rfl hd fun H1 e1 z oq => ?_
                have hn9 : narrow .boolean (.int x) = .int x := by rcases hx01 with rfl | rfl <;> rfl
                rw [hn9] at e1
                refine kk A H1 _ nc ns hlr (hH.set ham h2a hc ?_ (fun o ho => by cases ho; exact Nat.le_of_ble_eq_true rfl) z oq) (hS.put z oq hba) rfl rfl
                show H1[am a]? = some (vp_cell (tc 1) (n, .inl (upd f i.toNatClampNeg x)))
                rw [e1, vp_cell_i, vp_cell_i, arrV_store]
                congr 2
                funext q
                by_cases hq : q = i.toNatClampNeg
                · subst hq
                  simp [updV, upd, vp_updL]
                · simp [updV, upd, vp_updL, hq]
              · cases hs
          · cases hs
        · cases hs
      · cases hs
    · cases hs
  · cases hs
theorem qs_aastore (hx : p.tables.exec = Jvm.exec) (hb : c.code = cc) (hlr : qLR am ls A nL) (ham : ∀ i, am (i + 2) = base + i) (hK : qKS dC dI tc s) (hH : qHR am dC dI tc base L xs h H) (hS : va_S (fun q => base ≤ q) s.heap H locs) (hd : decode cc pc = .ok (.aastore, 1)) (hs : qStep d k pc ls st h (.aastore) = some (.inl g)) : (∀ B H1 locs1 nc1 ns1, qLR am g.2.1 B nL → qHR am dC dI tc base L xs g.2.2.2 H1 → va_S (fun q => base ≤ q) s.heap H1 locs1 → nc1 + h.1 = nc + g.2.2.2.1 → ns1 + h.2.1 = ns + g.2.2.2.2.1 → (W p l e R s m args below meth c H1 locs1 nc1 ns1 Q (F0 m g.1 B (g.2.2.1.map (qV am))))) → (W p l e R s m args below meth c H locs nc ns Q (F0 m pc A (st.map (qV am)))) := by
  simp only [qStep, qix, qgo] at hs
  split at hs
  · rename_i v st1
    split at hs
    · rename_i vs hvo
      split at hs
      · rename_i i a r
        split at hs
        · rename_i t n gg hc
          split at hs
          · rename_i hr
            split at hs
            · rename_i q n2 f he
              cases he
              split at hs
              · rename_i ht
                subst ht
                cases hs
                intro kk
                have hv := vp_in_iff.mpr hr
                have hlt : i.toNatClampNeg < n := Nat.not_le.mp fun q => hv (Or.inr q)
                have h0 : ¬ i < 0 := fun q => hv (Or.inl q)
                obtain ⟨hat, -, h2a, hba⟩ := hH.arr ham hc (Nat.ne_of_beq_eq_false rfl) (Nat.ne_of_beq_eq_false rfl)
                have hcell : H[am a]? = some (vp_cell (tc 5) (n, .inr (.inr (.inr (.inr fun j => (f j).map am))))) := hat
                obtain ⟨r', hr', cellV, g1, g2, g3, -⟩ := (hH.obj ham hvo).1
                have h813 : 8 < 13 := Nat.le_of_ble_eq_true rfl
                have hcls := (hK.1.1 8 _ (qCl_at h813)).2
                have hra : va_RA s (tc 5) (.object "SaggingNet$State") := (hK.1.2 5 _ rfl).2
                obtain ⟨kA, comp, k1, k2, k3, -⟩ := hra
                have hcomp : comp = dC 8 := Option.some.inj (k3.symm.trans hcls.1)
                subst hcomp
                obtain ⟨kC, hkC, -⟩ := hcls.2
                refine W.aast hx hb hcell (fun q h => by cases h) (fun h => by cases h) k1 k2 rfl hkC ⟨h0, by show _ < (arrV _ _ _).slots.size; rw [arrV_size]; exact hlt⟩ g1 (fun q h => by rw [g3] at h; cases h) (by rw [g2]; exact hkC) (by rw [g2]; exact va_assign hcls) rfl rfl hd fun H1 e1 z oq => ?_
                refine kk A H1 _ nc ns hlr (hH.set ham h2a hc ?_ (fun o ho => by cases ho; exact Nat.le_of_ble_eq_true rfl) z oq) (hS.put z oq hba) rfl rfl
                show H1[am a]? = some (vp_cell (tc 5) (n, .inr (.inr (.inr (.inr fun j => (va_up f i.toNatClampNeg (some v) j).map am)))))
                rw [e1, vp_cell_q, vp_cell_q, arrV_store]
                congr 2
                funext q
                by_cases hq : q = i.toNatClampNeg
                · subst hq
                  simp [updV, va_up, va_rf]
                · simp [updV, va_up, hq]
              · cases hs
            · cases hs
          · cases hs
        · cases hs
      · cases hs
    · cases hs
  · cases hs
theorem qs_putfield {z : Nat} (hx : p.tables.exec = Jvm.exec) (hb : c.code = cc) (hlr : qLR am ls A nL) (ham : ∀ i, am (i + 2) = base + i) (hK : qKS dC dI tc s) (hH : qHR am dC dI tc base L xs h H) (hS : va_S (fun q => base ≤ q) s.heap H locs) (hts : ∀ w ∈ qWall, w.before args s = true) (hown : s.vm.findClass (qR (qown k)) = some m.cls) (hini : qini k = true → meth.name = "<init>") (hd : decode cc pc = .ok (.putfield z, 3)) (hs : qStep d k pc ls st h (.putfield z) = some (.inl g)) : (∀ B H1 locs1 nc1 ns1, qLR am g.2.1 B nL → qHR am dC dI tc base L xs g.2.2.2 H1 → va_S (fun q => base ≤ q) s.heap H1 locs1 → nc1 + h.1 = nc + g.2.2.2.1 → ns1 + h.2.1 = ns + g.2.2.2.2.1 → (W p l e R s m args below meth c H1 locs1 nc1 ns1 Q (F0 m g.1 B (g.2.2.1.map (qV am))))) → (W p l e R s m args below meth c H locs nc ns Q (F0 m pc A (st.map (qV am)))) := by
  simp only [qStep, qputf, qgo] at hs
  split at hs
  · rename_i ci j pp nest v a r hF
    split at hs
    · rename_i c2 fs hc
      split at hs
      · rename_i hq
        obtain ⟨hcc, hl, hfit, hfin⟩ := hq
        cases hs
        subst hcc
        intro kk
        obtain ⟨f1, f2, f3⟩ := qF_spec hF
        have hN : j < (qCl.getD c2 qDef).2.2 := by rw [qCl_N f2]; exact f3
        have hT := qCl_T f2 hN
        obtain ⟨hat, h2a, hba⟩ := hH.obj ham hc
        obtain ⟨r9, hr9, cell, q1, q2, q3, q4⟩ := hat
        have hr : r9 = qCl.getD c2 qDef := Option.some.inj (hr9.symm.trans (qCl_at f2))
        subst hr
        obtain ⟨hSl, hfc, kC, hkC, hkind⟩ := hK.1.1 c2 _ (qCl_at f2)
        obtain ⟨cf, kf, fi, f, hi, hsl⟩ := hSl j hN
        have hlay := hts _ (qW_in f2 _ (u_in_lay hN))
        have hst := (u_facts hfc hkC (u_lays hts (qW_in f2) hN) hi).1
        have hnf := qfit_ok am hfit
        have hap := va_apart (own := qR (qown k)) hts (qW_in f2) (qty c2) (fun k hk => (qCl_T f2 hk).2) (qCl_nm f2) hK.1 (qCl_at f2)
        have hsame : ∀ x, s.fieldFound? ((qCl.getD c2 qDef).2.1 j).1 ((qCl.getD c2 qDef).2.1 j).2.1 ((qCl.getD c2 qDef).2.1 j).2.2.1 = some x → s.fieldFound? (qR c2) ((qCl.getD c2 qDef).2.1 j).2.1 ((qCl.getD c2 qDef).2.1 j).2.2.1 = some x := fun x hx9 => by rw [hT.1] at hx9; exact hx9
        have fin : ∀ H1 : Heap, H1[am a]? = some (cell.setSlot (dI c2 j) (qV am v)) → H1.size = H.size → (∀ q, q ≠ am a → H1[q]? = H[q]?) → ∀ i9, (W p l e R s m args below meth c H1 (locs ++ [⟨am a, i9⟩]) nc ns Q (F0 m (pc + 3) A (r.map (qV am)))) := by
          intro H1 e1 e2 e3 i9
          refine kk A H1 _ nc ns hlr (hH.set ham h2a hc ?_ (fun o ho => by cases ho) e2 e3) (hS.put e2 e3 hba) rfl rfl
          refine ⟨_, qCl_at f2, t_OB.to (V := updV (vp_V (fs.map (qV am))) j (qV am v)) ⟨_, e1, q2, q3, t_set q4 hap hN (qV am v)⟩ (fun i _ => ?_)⟩
          show _ = vp_V ((fs.set j v).map (qV am)) i
          rw [List.map_set]
          exact vp_updV_set (by rw [List.length_map]; exact hl) (qV am v) i
        by_cases hfn : qfin c2 j = false
        · unfold u_lay at hlay
          rw [if_neg (by rw [show ((qCl.getD c2 qDef).2.1 j).2.2.2 = false from hfn]; decide)] at hlay
          have h6 := u_store hfc hkC hkind hlay hi hT.2 hnf.1 hnf.2
          cases nest with
          | false =>
            refine W.putK hx hb (f := f) ⟨hown, hts _ (qwall_in f1 rfl), ⟨_, _, _, hsame _ hi⟩, hst⟩ (by rw [q2]; exact h6) q1 q3 (by rw [hsl]; exact k2_hasslot (q4 j hN)) rfl rfl hd fun H1 e1 e2 e3 => ?_
            rw [hsl] at e1
            exact fin H1 e1 e2 e3 _
          | true =>
            refine va_WputK (host := "SaggingNet") hx hb (f := f) hown (va_Nw.use rfl (hK.2.1 _ _ (qF_mem hF) rfl)) (hsame _ hi) hst (by rw [q2]; exact h6) q1 q3 (by rw [hsl]; exact k2_hasslot (q4 j hN)) rfl rfl hd fun H1 e1 e2 e3 => ?_
            rw [hsl] at e1
            exact fin H1 e1 e2 e3 _
        · obtain ⟨hi1, hi2, hi3⟩ := hfin.resolve_left hfn
          subst hi3
          have hft : qfin c2 j = true := by cases hz : qfin c2 j with
            | false => exact absurd hz hfn
            | true => rfl
          unfold u_lay at hlay
          rw [if_pos (show ((qCl.getD c2 qDef).2.1 j).2.2.2 = true from hft)] at hlay
          have hcf : m.cls = cf := by
            obtain ⟨_, _, c', _, _, _, -, -, hf', -, -, -, hown2, -⟩ := Cond.laysFinal_spec hlay
            have e1 : c' = cf := by have := hi.symm.trans hf'; simp at this; exact this.1.symm
            rw [hT.1, ← hi2] at hown2
            rw [← e1]; exact Option.some.inj (hown.symm.trans hown2)
          have h6 := u_fits hfc hkC hkind (Or.inr hlay) hi hT.2 hnf.1 hnf.2
          refine W.putFinK hx hb hown (hts _ (qwall_in f1 rfl)) (hsame _ hi) hst hcf (hini hi1) (by rw [q2]; exact h6) q1 q3 (by rw [hsl]; exact k2_hasslot (q4 j hN)) rfl rfl hd fun H1 e1 e2 e3 => ?_
          rw [hsl] at e1
          exact fin H1 e1 e2 e3 _
      · cases hs
    · cases hs
  · cases hs
theorem qs_new {z : Nat} (hx : p.tables.exec = Jvm.exec) (hb : c.code = cc) (hlr : qLR am ls A nL) (ham : ∀ i, am (i + 2) = base + i) (hK : qKS dC dI tc s) (hH : qHR am dC dI tc base L xs h H) (hS : va_S (fun q => base ≤ q) s.heap H locs) (hts : ∀ w ∈ qWall, w.before args s = true) (hown : s.vm.findClass (qR (qown k)) = some m.cls) (hcap : nc + g.2.2.2.1 ≤ R.cells + h.1) (hcapS : ns + g.2.2.2.2.1 ≤ R.slots + h.2.1) (hd : decode cc pc = .ok (.new z, 3)) (hs : qStep d k pc ls st h (.new z) = some (.inl g)) : (∀ B H1 locs1 nc1 ns1, qLR am g.2.1 B nL → qHR am dC dI tc base L xs g.2.2.2 H1 → va_S (fun q => base ≤ q) s.heap H1 locs1 → nc1 + h.1 = nc + g.2.2.2.1 → ns1 + h.2.1 = ns + g.2.2.2.2.1 → (W p l e R s m args below meth c H1 locs1 nc1 ns1 Q (F0 m g.1 B (g.2.2.1.map (qV am))))) → (W p l e R s m args below meth c H locs nc ns Q (F0 m pc A (st.map (qV am)))) := by
  simp only [qStep, qgo] at hs
  split at hs
  · rename_i ci pp hN
    cases hs
    intro kk
    obtain ⟨n1, n2, n3⟩ := qN_spec hN
    have h13 := qN_lt hN
    have hKn := hK.1.1 ci _ (qCl_at h13)
    have hfc : s.vm.findClass (qR ci) = some (dC ci) := by rw [← qCl_R h13]; exact hKn.2.1
    have hc1 : nc + (h.1 + 1) ≤ R.cells + h.1 := hcap
    have hc2 : ns + (h.2.1 + (qTys.getD ci []).length) ≤ R.slots + h.2.1 := hcapS
    refine W.newcK hx hb hown (hts _ n1) (hts _ n2) (hts _ n3) rfl hd (by omega) (by omega) hfc rfl fun H1 kC hkC e1 z1 o1 => ?_
    have hat : va_at (dC, dI) qCl (H.size, qCe am tc (.inr (ci, (qTys.getD ci []).map defaultValue))) H1 := by
      refine ⟨_, qCl_at h13, (u_born (qty ci) hts (qW_in h13) hKn hkC e1 (fun j hj => (qCl_T h13 hj).2)).to (fun j hj => ?_)⟩
      rw [qCl_N h13] at hj
      show defaultValue (qty ci j) = vp_V (((qTys.getD ci []).map defaultValue).map (qV am)) j
      unfold vp_V qty
      generalize qTys.getD ci [] = T at hj ⊢
      rw [List.map_map, List.getD_eq_getElem?_getD, List.getD_eq_getElem?_getD, List.getElem?_map, List.getElem?_eq_getElem hj]
      exact (qV_def am _).symm
    obtain ⟨hn, hea⟩ := hH.new (n := (qTys.getD ci []).length) ham hat (fun o ho => by cases ho) z1 o1
    have K := kk A H1 locs (nc + 1) (ns + (qTys.getD ci []).length) hlr hn ⟨Nat.le_trans hS.1 (by omega), fun x h1 h2 => (o1 x (Nat.lt_of_lt_of_le h1 hS.1)).trans (hS.2.1 x h1 h2), hS.2.2⟩ (by show nc + 1 + h.1 = nc + (h.1 + 1); omega) (by show _ = ns + (h.2.1 + _); omega)
    change (W p l e R s m args below meth c H1 locs (nc + 1) (ns + (qTys.getD ci []).length) Q (F0 m (pc + 3) A (Value.ref (am h.1) :: st.map (qV am)))) at K
    rw [hea] at K
    exact K
  · cases hs
theorem qs_newarray_int (hx : p.tables.exec = Jvm.exec) (hb : c.code = cc) (hlr : qLR am ls A nL) (ham : ∀ i, am (i + 2) = base + i) (hK : qKS dC dI tc s) (hH : qHR am dC dI tc base L xs h H) (hS : va_S (fun q => base ≤ q) s.heap H locs) (hts : ∀ w ∈ qWall, w.before args s = true) (hown : s.vm.findClass (qR (qown k)) = some m.cls) (hcap : nc + g.2.2.2.1 ≤ R.cells + h.1) (hcapS : ns + g.2.2.2.2.1 ≤ R.slots + h.2.1) (hd : decode cc pc = .ok (.newarray .int, 2)) (hs : qStep d k pc ls st h (.newarray .int) = some (.inl g)) : (∀ B H1 locs1 nc1 ns1, qLR am g.2.1 B nL → qHR am dC dI tc base L xs g.2.2.2 H1 → va_S (fun q => base ≤ q) s.heap H1 locs1 → nc1 + h.1 = nc + g.2.2.2.1 → ns1 + h.2.1 = ns + g.2.2.2.2.1 → (W p l e R s m args below meth c H1 locs1 nc1 ns1 Q (F0 m g.1 B (g.2.2.1.map (qV am))))) → (W p l e R s m args below meth c H locs nc ns Q (F0 m pc A (st.map (qV am)))) := by
  simp only [qStep, qnewA, qgo] at hs
  split at hs
  · rename_i n r
    split at hs
    · rename_i hn
      cases hs
      intro kk
      have hn0 : ¬ n < 0 := by rw [Int32.lt_iff_toInt_lt, Int32.toInt_zero]; omega
      have hnn : n.toNatClampNeg ≤ 60000000 := by show n.toInt.toNat ≤ 60000000; omega
      have hc1 : nc + (h.1 + 1) ≤ R.cells + h.1 := hcap
      have hc2 : ns + (h.2.1 + n.toNatClampNeg) ≤ R.slots + h.2.1 := hcapS
      refine va_newaK (atype := .int) hx hb (hts _ qac_int) rfl hd rfl hn0 rfl (Nat.le_trans (Nat.mul_le_mul_right _ hnn) (Nat.le_of_ble_eq_true rfl)) (by omega) (by omega) rfl fun H1 cA e1 z1 o1 hAr hNm => ?_
      have hcA : cA = tc 0 := Option.some.inj (hNm.symm.trans (show s.vm.findClass _ = some (tc 0) from (hK.1.2 0 _ rfl).2))
      subst hcA
      have hat : va_at (dC, dI) qCl (H.size, qCe am tc (.inl (0, n.toNatClampNeg, .inl fun _ => 0))) H1 := e1
      obtain ⟨hn9, hea⟩ := hH.new (n := n.toNatClampNeg) ham hat (fun o ho => by cases ho; exact Nat.le_of_ble_eq_true rfl) z1 o1
      have K := kk A H1 locs (nc + 1) (ns + n.toNatClampNeg) hlr hn9 ⟨Nat.le_trans hS.1 (by omega), fun x h1 h2 => (o1 x (Nat.lt_of_lt_of_le h1 hS.1)).trans (hS.2.1 x h1 h2), hS.2.2⟩ (by show nc + 1 + h.1 = nc + (h.1 + 1); omega) (by show _ = ns + (h.2.1 + _); omega)
      change (W p l e R s m args below meth c H1 locs (nc + 1) (ns + n.toNatClampNeg) Q (F0 m (pc + 2) A (Value.ref (am h.1) :: r.map (qV am)))) at K
      rw [hea] at K
      exact K
    · cases hs
  · cases hs
theorem qs_newarray_boolean (hx : p.tables.exec = Jvm.exec) (hb : c.code = cc) (hlr : qLR am ls A nL) (ham : ∀ i, am (i + 2) = base + i) (hK : qKS dC dI tc s) (hH : qHR am dC dI tc base L xs h H) (hS : va_S (fun q => base ≤ q) s.heap H locs) (hts : ∀ w ∈ qWall, w.before args s = true) (hown : s.vm.findClass (qR (qown k)) = some m.cls) (hcap : nc + g.2.2.2.1 ≤ R.cells + h.1) (hcapS : ns + g.2.2.2.2.1 ≤ R.slots + h.2.1) (hd : decode cc pc = .ok (.newarray .boolean, 2)) (hs : qStep d k pc ls st h (.newarray .boolean) = some (.inl g)) : (∀ B H1 locs1 nc1 ns1, qLR am g.2.1 B nL → qHR am dC dI tc base L xs g.2.2.2 H1 → va_S (fun q => base ≤ q) s.heap H1 locs1 → nc1 + h.1 = nc + g.2.2.2.1 → ns1 + h.2.1 = ns + g.2.2.2.2.1 → (W p l e R s m args below meth c H1 locs1 nc1 ns1 Q (F0 m g.1 B (g.2.2.1.map (qV am))))) → (W p l e R s m args below meth c H locs nc ns Q (F0 m pc A (st.map (qV am)))) := by
  simp only [qStep, qnewA, qgo] at hs
  split at hs
  · rename_i n r
    split at hs
    · rename_i hn
      cases hs
      intro kk
      have hn0 : ¬ n < 0 := by rw [Int32.lt_iff_toInt_lt, Int32.toInt_zero]; omega
      have hnn : n.toNatClampNeg ≤ 60000000 := by show n.toInt.toNat ≤ 60000000; omega
      have hc1 : nc + (h.1 + 1) ≤ R.cells + h.1 := hcap
      have hc2 : ns + (h.2.1 + n.toNatClampNeg) ≤ R.slots + h.2.1 := hcapS
      refine va_newaK (atype := .boolean) hx hb (hts _ qac_boolean) rfl hd rfl hn0 rfl (Nat.le_trans (Nat.mul_le_mul_right _ hnn) (Nat.le_of_ble_eq_true rfl)) (by omega) (by omega) rfl fun H1 cA e1 z1 o1 hAr hNm => ?_
      have hcA : cA = tc 1 := Option.some.inj (hNm.symm.trans (show s.vm.findClass _ = some (tc 1) from (hK.1.2 1 _ rfl).2))
      subst hcA
      have hat : va_at (dC, dI) qCl (H.size, qCe am tc (.inl (1, n.toNatClampNeg, .inl fun _ => 0))) H1 := e1
      obtain ⟨hn9, hea⟩ := hH.new (n := n.toNatClampNeg) ham hat (fun o ho => by cases ho; exact Nat.le_of_ble_eq_true rfl) z1 o1
      have K := kk A H1 locs (nc + 1) (ns + n.toNatClampNeg) hlr hn9 ⟨Nat.le_trans hS.1 (by omega), fun x h1 h2 => (o1 x (Nat.lt_of_lt_of_le h1 hS.1)).trans (hS.2.1 x h1 h2), hS.2.2⟩ (by show nc + 1 + h.1 = nc + (h.1 + 1); omega) (by show _ = ns + (h.2.1 + _); omega)
      change (W p l e R s m args below meth c H1 locs (nc + 1) (ns + n.toNatClampNeg) Q (F0 m (pc + 2) A (Value.ref (am h.1) :: r.map (qV am)))) at K
      rw [hea] at K
      exact K
    · cases hs
  · cases hs
theorem qs_newarray_long (hx : p.tables.exec = Jvm.exec) (hb : c.code = cc) (hlr : qLR am ls A nL) (ham : ∀ i, am (i + 2) = base + i) (hK : qKS dC dI tc s) (hH : qHR am dC dI tc base L xs h H) (hS : va_S (fun q => base ≤ q) s.heap H locs) (hts : ∀ w ∈ qWall, w.before args s = true) (hown : s.vm.findClass (qR (qown k)) = some m.cls) (hcap : nc + g.2.2.2.1 ≤ R.cells + h.1) (hcapS : ns + g.2.2.2.2.1 ≤ R.slots + h.2.1) (hd : decode cc pc = .ok (.newarray .long, 2)) (hs : qStep d k pc ls st h (.newarray .long) = some (.inl g)) : (∀ B H1 locs1 nc1 ns1, qLR am g.2.1 B nL → qHR am dC dI tc base L xs g.2.2.2 H1 → va_S (fun q => base ≤ q) s.heap H1 locs1 → nc1 + h.1 = nc + g.2.2.2.1 → ns1 + h.2.1 = ns + g.2.2.2.2.1 → (W p l e R s m args below meth c H1 locs1 nc1 ns1 Q (F0 m g.1 B (g.2.2.1.map (qV am))))) → (W p l e R s m args below meth c H locs nc ns Q (F0 m pc A (st.map (qV am)))) := by
  simp only [qStep, qnewA, qgo] at hs
  split at hs
  · rename_i n r
    split at hs
    · rename_i hn
      cases hs
      intro kk
      have hn0 : ¬ n < 0 := by rw [Int32.lt_iff_toInt_lt, Int32.toInt_zero]; omega
      have hnn : n.toNatClampNeg ≤ 60000000 := by show n.toInt.toNat ≤ 60000000; omega
      have hc1 : nc + (h.1 + 1) ≤ R.cells + h.1 := hcap
      have hc2 : ns + (h.2.1 + n.toNatClampNeg) ≤ R.slots + h.2.1 := hcapS
      refine va_newaK (atype := .long) hx hb (hts _ qac_long) rfl hd rfl hn0 rfl (Nat.le_trans (Nat.mul_le_mul_right _ hnn) (Nat.le_of_ble_eq_true rfl)) (by omega) (by omega) rfl fun H1 cA e1 z1 o1 hAr hNm => ?_
      have hcA : cA = tc 2 := Option.some.inj (hNm.symm.trans (show s.vm.findClass _ = some (tc 2) from (hK.1.2 2 _ rfl).2))
      subst hcA
      have hat : va_at (dC, dI) qCl (H.size, qCe am tc (.inl (2, n.toNatClampNeg, .inr (.inl fun _ => 0)))) H1 := e1
      obtain ⟨hn9, hea⟩ := hH.new (n := n.toNatClampNeg) ham hat (fun o ho => by cases ho; exact Nat.le_of_ble_eq_true rfl) z1 o1
      have K := kk A H1 locs (nc + 1) (ns + n.toNatClampNeg) hlr hn9 ⟨Nat.le_trans hS.1 (by omega), fun x h1 h2 => (o1 x (Nat.lt_of_lt_of_le h1 hS.1)).trans (hS.2.1 x h1 h2), hS.2.2⟩ (by show nc + 1 + h.1 = nc + (h.1 + 1); omega) (by show _ = ns + (h.2.1 + _); omega)
      change (W p l e R s m args below meth c H1 locs (nc + 1) (ns + n.toNatClampNeg) Q (F0 m (pc + 2) A (Value.ref (am h.1) :: r.map (qV am)))) at K
      rw [hea] at K
      exact K
    · cases hs
  · cases hs
theorem qs_newarray_byte (hx : p.tables.exec = Jvm.exec) (hb : c.code = cc) (hlr : qLR am ls A nL) (ham : ∀ i, am (i + 2) = base + i) (hK : qKS dC dI tc s) (hH : qHR am dC dI tc base L xs h H) (hS : va_S (fun q => base ≤ q) s.heap H locs) (hts : ∀ w ∈ qWall, w.before args s = true) (hown : s.vm.findClass (qR (qown k)) = some m.cls) (hcap : nc + g.2.2.2.1 ≤ R.cells + h.1) (hcapS : ns + g.2.2.2.2.1 ≤ R.slots + h.2.1) (hd : decode cc pc = .ok (.newarray .byte, 2)) (hs : qStep d k pc ls st h (.newarray .byte) = some (.inl g)) : (∀ B H1 locs1 nc1 ns1, qLR am g.2.1 B nL → qHR am dC dI tc base L xs g.2.2.2 H1 → va_S (fun q => base ≤ q) s.heap H1 locs1 → nc1 + h.1 = nc + g.2.2.2.1 → ns1 + h.2.1 = ns + g.2.2.2.2.1 → (W p l e R s m args below meth c H1 locs1 nc1 ns1 Q (F0 m g.1 B (g.2.2.1.map (qV am))))) → (W p l e R s m args below meth c H locs nc ns Q (F0 m pc A (st.map (qV am)))) := by
  simp only [qStep, qnewA, qgo] at hs
  split at hs
  · rename_i n r
    split at hs
    · rename_i hn
      cases hs
      intro kk
      have hn0 : ¬ n < 0 := by rw [Int32.lt_iff_toInt_lt, Int32.toInt_zero]; omega
      have hnn : n.toNatClampNeg ≤ 60000000 := by show n.toInt.toNat ≤ 60000000; omega
      have hc1 : nc + (h.1 + 1) ≤ R.cells + h.1 := hcap
      have hc2 : ns + (h.2.1 + n.toNatClampNeg) ≤ R.slots + h.2.1 := hcapS
      refine va_newaK (atype := .byte) hx hb (hts _ qac_byte) rfl hd rfl hn0 rfl (Nat.le_trans (Nat.mul_le_mul_right _ hnn) (Nat.le_of_ble_eq_true rfl)) (by omega) (by omega) rfl fun H1 cA e1 z1 o1 hAr hNm => ?_
      have hcA : cA = tc 3 := Option.some.inj (hNm.symm.trans (show s.vm.findClass _ = some (tc 3) from (hK.1.2 3 _ rfl).2))
      subst hcA
      have hat : va_at (dC, dI) qCl (H.size, qCe am tc (.inl (3, n.toNatClampNeg, .inl fun _ => 0))) H1 := e1
      obtain ⟨hn9, hea⟩ := hH.new (n := n.toNatClampNeg) ham hat (fun o ho => by cases ho; exact Nat.le_of_ble_eq_true rfl) z1 o1
      have K := kk A H1 locs (nc + 1) (ns + n.toNatClampNeg) hlr hn9 ⟨Nat.le_trans hS.1 (by omega), fun x h1 h2 => (o1 x (Nat.lt_of_lt_of_le h1 hS.1)).trans (hS.2.1 x h1 h2), hS.2.2⟩ (by show nc + 1 + h.1 = nc + (h.1 + 1); omega) (by show _ = ns + (h.2.1 + _); omega)
      change (W p l e R s m args below meth c H1 locs (nc + 1) (ns + n.toNatClampNeg) Q (F0 m (pc + 2) A (Value.ref (am h.1) :: r.map (qV am)))) at K
      rw [hea] at K
      exact K
    · cases hs
  · cases hs
theorem qs_anewarray {z : Nat} (hx : p.tables.exec = Jvm.exec) (hb : c.code = cc) (hlr : qLR am ls A nL) (ham : ∀ i, am (i + 2) = base + i) (hK : qKS dC dI tc s) (hH : qHR am dC dI tc base L xs h H) (hS : va_S (fun q => base ≤ q) s.heap H locs) (hts : ∀ w ∈ qWall, w.before args s = true) (hown : s.vm.findClass (qR (qown k)) = some m.cls) (hcap : nc + g.2.2.2.1 ≤ R.cells + h.1) (hcapS : ns + g.2.2.2.2.1 ≤ R.slots + h.2.1) (hd : decode cc pc = .ok (.anewarray z, 3)) (hs : qStep d k pc ls st h (.anewarray z) = some (.inl g)) : (∀ B H1 locs1 nc1 ns1, qLR am g.2.1 B nL → qHR am dC dI tc base L xs g.2.2.2 H1 → va_S (fun q => base ≤ q) s.heap H1 locs1 → nc1 + h.1 = nc + g.2.2.2.1 → ns1 + h.2.1 = ns + g.2.2.2.2.1 → (W p l e R s m args below meth c H1 locs1 nc1 ns1 Q (F0 m g.1 B (g.2.2.1.map (qV am))))) → (W p l e R s m args below meth c H locs nc ns Q (F0 m pc A (st.map (qV am)))) := by
  simp only [qStep, qnewA, qgo] at hs
  split at hs
  · rename_i hq
    obtain ⟨q1, q2⟩ := hq
    subst q2
    rw [q1] at hown
    split at hs
    · rename_i n r
      split at hs
      · rename_i hn
        cases hs
        intro kk
        have hn0 : ¬ n < 0 := by rw [Int32.lt_iff_toInt_lt, Int32.toInt_zero]; omega
        have hnn : n.toNatClampNeg ≤ 60000000 := by show n.toInt.toNat ≤ 60000000; omega
        have hc1 : nc + (h.1 + 1) ≤ R.cells + h.1 := hcap
        have hc2 : ns + (h.2.1 + n.toNatClampNeg) ≤ R.slots + h.2.1 := hcapS
        refine W.anew hx hb hown (hts _ qcl_state) (va_AO.use hK.2.2.2.1) rfl hd rfl hn0 (by omega) (by omega) (by omega) fun cA kA comp f1 f2 f3 f4 => ?_
        have hra : va_RA s (tc 5) (.object "SaggingNet$State") := (hK.1.2 5 _ rfl).2
        obtain ⟨-, -, -, -, -, k4⟩ := hra
        have hcA : cA = tc 5 := Option.some.inj (f1.symm.trans k4)
        subst hcA
        generalize hH1 : H.push ({ cls := tc 5, slots := Array.replicate n.toNatClampNeg .null, vm := .none } : Cell) = H1
        have z1 : H1.size = H.size + 1 := by rw [← hH1, Array.size_push]
        have e1 : H1[H.size]? = some (arrV (tc 5) n.toNatClampNeg (fun _ => .null)) := by rw [← hH1, Array.getElem?_push_size, ← arrV_new]
        have o1 : ∀ q : Nat, q < H.size → H1[q]? = H[q]? := fun q hq => by rw [← hH1, Array.getElem?_push, if_neg (Nat.ne_of_lt hq)]
        have hat : va_at (dC, dI) qCl (H.size, qCe am tc (.inl (5, n.toNatClampNeg, .inr (.inr (.inr (.inr fun _ => none)))))) H1 := e1
        obtain ⟨hn9, hea⟩ := hH.new (n := n.toNatClampNeg) ham hat (fun o ho => by cases ho; exact Nat.le_of_ble_eq_true rfl) z1 o1
        have K := kk A H1 locs (nc + 1) (ns + n.toNatClampNeg) hlr hn9 ⟨Nat.le_trans hS.1 (by omega), fun x h1 h2 => (o1 x (Nat.lt_of_lt_of_le h1 hS.1)).trans (hS.2.1 x h1 h2), hS.2.2⟩ (by show nc + 1 + h.1 = nc + (h.1 + 1); omega) (by show _ = ns + (h.2.1 + _); omega)
        change (W p l e R s m args below meth c H1 locs (nc + 1) (ns + n.toNatClampNeg) Q (F0 m (pc + 3) A (Value.ref (am h.1) :: r.map (qV am)))) at K
        rw [hea] at K
        exact K
      · cases hs
    · cases hs
  · cases hs
end QW
