/-! Steps that read and write cells. -/
def qArr (am : Nat → Nat) (a : vp_A) : vp_A := match a with
  | (n, .inr (.inr (.inr (.inr f)))) => (n, .inr (.inr (.inr (.inr fun j => (f j).map am))))
  | a => a
def qCe (am : Nat → Nat) (tc : Nat → ClassId) (c : qC) : va_E := match c with
  | .inl a => .inl (tc a.1, qArr am a.2)
  | .inr o => .inr (o.1, o.2.map (qV am))
def qSg (j : Nat) : Int32 := ([109, 105, 107, 114, 100, 110, 102, 108, 119, 103, 120] : List Int32).getD j 0
def qAOA (t : FieldType) (U : State) : Prop := (Cond.arrayOver (.array t)).before #[] U = true
theorem qAOA.moved {t : FieldType} {u U : State} (hvm : u.vm.Alike U.vm) (h : qAOA t u) : qAOA t U := over_moved (a := #[]) (a' := #[]) hvm h
/-- what holds of the tables -/
def qKS (dC : Nat → ClassId) (dI : Nat → Nat → Nat) (tc : Nat → ClassId) (U : State) : Prop :=
  va_K (dC, dI) qCl (qtys tc) U ∧ (∀ c e, e ∈ qF.getD c [] → e.2.2.2.2 = true → va_Nw (qFw c e) U) ∧ (∀ c e, e ∈ qK.getD c [] → e.2.2.2.1 = 3 → va_Nw (.methodLinkNest (qR c) e.1 (qnm e.2.1) "SaggingNet") U) ∧ va_AO "SaggingNet$State" U ∧ qAOA .int U ∧ qAOA .long U
theorem qKS.warm {dC : Nat → ClassId} {dI : Nat → Nat → Nat} {tc : Nat → ClassId} {s U : State} (hW : s.WarmedH U.vm) (h : qKS dC dI tc s) : qKS dC dI tc U := by
  obtain ⟨h1, h2, h3, h4, h5, h6⟩ := h
  refine ⟨va_K.moved hW.alike h1, fun c e he hn => ?_, fun c e he hn => va_Nw.warmM hW (h3 c e he hn), va_AO.moved hW.alike h4, qAOA.moved hW.alike h5, qAOA.moved hW.alike h6⟩
  have := h2 c e he hn
  unfold qFw at this ⊢
  rw [if_pos hn] at this ⊢
  exact va_Nw.warmF hW this
theorem qKS.same {dC : Nat → ClassId} {dI : Nat → Nat → Nat} {tc : Nat → ClassId} {s U : State} (hvm : s.vm = U.vm) (h : qKS dC dI tc s) : qKS dC dI tc U := by
  obtain ⟨h1, h2, h3, h4, h5, h6⟩ := h
  have ha : s.vm.Alike U.vm := by rw [hvm]; exact Vm.Alike.refl _
  refine ⟨va_K.moved ha h1, fun c e he hn => ?_, fun c e he hn => va_Nw.same rfl hvm (h3 c e he hn), va_AO.moved ha h4, qAOA.moved ha h5, qAOA.moved ha h6⟩
  have := h2 c e he hn
  unfold qFw at this ⊢
  rw [if_pos hn] at this ⊢
  exact va_Nw.same rfl hvm this
/-- what holds of the script and of the static row -/
def qHS (am : Nat → Nat) (base L : Nat) (xs : Nat → Int32) (U : State) (H : Heap) : Prop :=
  va_X (am 0) L xs U H ∧ am 0 < H.size ∧ ¬ base ≤ am 0 ∧ va_Z "SaggingNet$Text" "SIGNS" "[C" (.ref (am 1)) (fun q => base ≤ q) U H ∧ va_T .char (am 1) 11 (fun j => .int (qSg j)) (fun q => base ≤ q) U H
/-- the heap holds the pure one -/
def qHR (am : Nat → Nat) (dC : Nat → ClassId) (dI : Nat → Nat → Nat) (tc : Nat → ClassId) (base L : Nat) (xs : Nat → Int32) (h : qH) (H : Heap) : Prop :=
  2 ≤ h.1 ∧ H.size + 2 = base + h.1 ∧ (∀ i c, h.2.2 (i + 2) = some c → i + 2 < h.1 ∧ va_at (dC, dI) qCl (base + i, qCe am tc c) H ∧ ∀ a, c = .inl a → a.1 < 8) ∧ (∀ c, h.2.2 0 = some c → c = .inl (8, L, .inl xs)) ∧ (∀ c, h.2.2 1 = some c → c = .inl (9, 11, .inl qSg))
section QH
variable {p : Program} {l : Launch} {e : Env} {R : Room} {s : State} {m : MethodId} {args : Array Value} {below : List Frame} {meth : Method} {c : Code} {H : Heap} {locs : List Loc} {nc ns : Nat} {Q : State → Prop}
variable {cc : ByteArray} {d k pc nL : Nat} {A : Array Slot} {am : Nat → Nat} {ls : qL} {st : List Value} {h : qH} {g : Nat × qL × List Value × qH}
variable {dC : Nat → ClassId} {dI : Nat → Nat → Nat} {tc : Nat → ClassId} {base L : Nat} {xs : Nat → Int32}
theorem qHR.obj {a : Nat} {o : Nat × List Value} (hH : qHR am dC dI tc base L xs h H) (ham : ∀ i, am (i + 2) = base + i) (hc : h.2.2 a = some (.inr o)) : va_at (dC, dI) qCl (am a, .inr (o.1, o.2.map (qV am))) H ∧ 2 ≤ a ∧ base ≤ am a := by
  obtain ⟨h1, h2, h3, h4, h5⟩ := hH
  match a, hc with
  | 0, hc => cases h4 _ hc
  | 1, hc => cases h5 _ hc
  | i + 2, hc =>
    rw [ham]
    exact ⟨(h3 i _ hc).2.1, by omega, by omega⟩
theorem qHR.arr {a : Nat} {o : Nat × vp_A} (hH : qHR am dC dI tc base L xs h H) (ham : ∀ i, am (i + 2) = base + i) (hc : h.2.2 a = some (.inl o)) (n8 : o.1 ≠ 8) (n9 : o.1 ≠ 9) : va_at (dC, dI) qCl (am a, .inl (tc o.1, qArr am o.2)) H ∧ o.1 < 8 ∧ 2 ≤ a ∧ base ≤ am a := by
  obtain ⟨h1, h2, h3, h4, h5⟩ := hH
  match a, hc with
  | 0, hc => cases h4 _ hc; exact absurd rfl n8
  | 1, hc => cases h5 _ hc; exact absurd rfl n9
  | i + 2, hc =>
    rw [ham]
    exact ⟨(h3 i _ hc).2.1, (h3 i _ hc).2.2 _ rfl, by omega, by omega⟩
theorem qHR.script {a : Nat} {o : Nat × vp_A} (hH : qHR am dC dI tc base L xs h H) (hc : h.2.2 a = some (.inl o)) (n8 : o.1 = 8) : a = 0 ∧ o = (8, L, .inl xs) := by
  obtain ⟨h1, h2, h3, h4, h5⟩ := hH
  match a, hc with
  | 0, hc => cases h4 _ hc; exact ⟨rfl, rfl⟩
  | 1, hc => cases h5 _ hc; cases n8
  | i + 2, hc => have := (h3 i _ hc).2.2 _ rfl; omega
theorem qHR.signs {a : Nat} {o : Nat × vp_A} (hH : qHR am dC dI tc base L xs h H) (hc : h.2.2 a = some (.inl o)) (n9 : o.1 = 9) : a = 1 ∧ o = (9, 11, .inl qSg) := by
  obtain ⟨h1, h2, h3, h4, h5⟩ := hH
  match a, hc with
  | 0, hc => cases h4 _ hc; cases n9
  | 1, hc => cases h5 _ hc; exact ⟨rfl, rfl⟩
  | i + 2, hc => have := (h3 i _ hc).2.2 _ rfl; omega
theorem qP1 {D : va_G} {cl : List vw_C} {a : Nat} {x : va_E} (hh : va_at D cl (a, x) H) : va_P D cl [(a, x)] H := by
  intro i q hq
  match i, hq with
  | 0, hq => cases hq; exact hh
theorem qup_at {f : Nat → Option qC} {a j : Nat} {c1 c2 : qC} (hh : qup f a c1 j = some c2) : (j = a ∧ c2 = c1) ∨ (j ≠ a ∧ f j = some c2) := by
  unfold qup at hh
  split at hh
  · rename_i e
    cases hh
    exact Or.inl ⟨e, rfl⟩
  · rename_i e
    exact Or.inr ⟨e, hh⟩
theorem qHR.set {a : Nat} {c0 c1 : qC} {H1 : Heap} (hH : qHR am dC dI tc base L xs h H) (ham : ∀ i, am (i + 2) = base + i) (h2a : 2 ≤ a) (hc : h.2.2 a = some c0) (h1 : va_at (dC, dI) qCl (am a, qCe am tc c1) H1) (hk : ∀ o, c1 = .inl o → o.1 < 8) (z : H1.size = H.size) (oq : ∀ q, q ≠ am a → H1[q]? = H[q]?) : qHR am dC dI tc base L xs (qset h a c1) H1 := by
  obtain ⟨g1, g2, g3, g4, g5⟩ := hH
  refine ⟨g1, by rw [z]; exact g2, fun i c hi => ?_, fun c hi => ?_, fun c hi => ?_⟩
  · rcases qup_at hi with ⟨e1, e2⟩ | ⟨e1, e2⟩
    · subst e1
      subst e2
      rw [ham] at h1
      exact ⟨(g3 i _ hc).1, h1, hk⟩
    · refine ⟨(g3 i _ e2).1, (g3 i _ e2).2.1.kept (oq _ ?_), (g3 i _ e2).2.2⟩
      show base + i ≠ am a
      obtain ⟨j, rfl⟩ : ∃ j, a = j + 2 := ⟨a - 2, by omega⟩
      rw [ham]
      omega
  · rcases qup_at hi with ⟨e1, e2⟩ | ⟨e1, e2⟩
    · omega
    · exact g4 _ e2
  · rcases qup_at hi with ⟨e1, e2⟩ | ⟨e1, e2⟩
    · omega
    · exact g5 _ e2
theorem qHR.new {c1 : qC} {n : Nat} {H1 : Heap} (hH : qHR am dC dI tc base L xs h H) (ham : ∀ i, am (i + 2) = base + i) (h1 : va_at (dC, dI) qCl (H.size, qCe am tc c1) H1) (hk : ∀ o, c1 = .inl o → o.1 < 8) (z : H1.size = H.size + 1) (oq : ∀ q, q < H.size → H1[q]? = H[q]?) : qHR am dC dI tc base L xs (qnew h n c1) H1 ∧ am h.1 = H.size := by
  obtain ⟨g1, g2, g3, g4, g5⟩ := hH
  have hs : H.size = base + (h.1 - 2) := by omega
  refine ⟨⟨by show 2 ≤ h.1 + 1; omega, by show H1.size + 2 = base + (h.1 + 1); rw [z]; omega, fun i c hi => ?_, fun c hi => ?_, fun c hi => ?_⟩, ?_⟩
  · rcases qup_at hi with ⟨e1, e2⟩ | ⟨e1, e2⟩
    · subst e2
      have : base + i = H.size := by omega
      rw [← this] at h1
      exact ⟨by show i + 2 < h.1 + 1; omega, h1, hk⟩
    · have := (g3 i _ e2).1
      exact ⟨by show i + 2 < h.1 + 1; omega, (g3 i _ e2).2.1.kept (oq _ (by show base + i < H.size; omega)), (g3 i _ e2).2.2⟩
  · rcases qup_at hi with ⟨e1, e2⟩ | ⟨e1, e2⟩
    · omega
    · exact g4 _ e2
  · rcases qup_at hi with ⟨e1, e2⟩ | ⟨e1, e2⟩
    · omega
    · exact g5 _ e2
  · obtain ⟨j, hj⟩ : ∃ j, h.1 = j + 2 := ⟨h.1 - 2, by omega⟩
    rw [hj, ham]
    omega

theorem qs_ldc {z : Nat} (hx : p.tables.exec = Jvm.exec) (hb : c.code = cc) (hlr : qLR am ls A nL) (ham : ∀ i, am (i + 2) = base + i) (hK : qKS dC dI tc s) (hH : qHR am dC dI tc base L xs h H) (hS : va_S (fun q => base ≤ q) s.heap H locs) (hts : ∀ w ∈ qWall, w.before args s = true) (hown : s.vm.findClass (qR (qown k)) = some m.cls) (hd : decode cc pc = .ok (.ldc z, 2)) (hs : qStep d k pc ls st h (.ldc z) = some (.inl g)) : g.2.2.2 = h ∧ ((∀ B, qLR am g.2.1 B nL → (W p l e R s m args below meth c H locs nc ns Q (F0 m g.1 B (g.2.2.1.map (qV am))))) → (W p l e R s m args below meth c H locs nc ns Q (F0 m pc A (st.map (qV am))))) := by
  simp only [qStep, qgo] at hs
  split at hs
  · rename_i v pp hI
    cases hs
    exact ⟨rfl, fun kk => lv_ldc hx hb hown (hts _ (qI_spec hI)) hd (kk A hlr)⟩
  · cases hs
theorem qs_ldc_w {z : Nat} (hx : p.tables.exec = Jvm.exec) (hb : c.code = cc) (hlr : qLR am ls A nL) (ham : ∀ i, am (i + 2) = base + i) (hK : qKS dC dI tc s) (hH : qHR am dC dI tc base L xs h H) (hS : va_S (fun q => base ≤ q) s.heap H locs) (hts : ∀ w ∈ qWall, w.before args s = true) (hown : s.vm.findClass (qR (qown k)) = some m.cls) (hd : decode cc pc = .ok (.ldc_w z, 3)) (hs : qStep d k pc ls st h (.ldc_w z) = some (.inl g)) : g.2.2.2 = h ∧ ((∀ B, qLR am g.2.1 B nL → (W p l e R s m args below meth c H locs nc ns Q (F0 m g.1 B (g.2.2.1.map (qV am))))) → (W p l e R s m args below meth c H locs nc ns Q (F0 m pc A (st.map (qV am))))) := by
  simp only [qStep, qgo] at hs
  split at hs
  · rename_i v pp hI
    cases hs
    exact ⟨rfl, fun kk => lv_ldcw hx hb hown (hts _ (qI_spec hI)) hd (kk A hlr)⟩
  · cases hs
theorem qs_ldc2_w {z : Nat} (hx : p.tables.exec = Jvm.exec) (hb : c.code = cc) (hlr : qLR am ls A nL) (ham : ∀ i, am (i + 2) = base + i) (hK : qKS dC dI tc s) (hH : qHR am dC dI tc base L xs h H) (hS : va_S (fun q => base ≤ q) s.heap H locs) (hts : ∀ w ∈ qWall, w.before args s = true) (hown : s.vm.findClass (qR (qown k)) = some m.cls) (hd : decode cc pc = .ok (.ldc2_w z, 3)) (hs : qStep d k pc ls st h (.ldc2_w z) = some (.inl g)) : g.2.2.2 = h ∧ ((∀ B, qLR am g.2.1 B nL → (W p l e R s m args below meth c H locs nc ns Q (F0 m g.1 B (g.2.2.1.map (qV am))))) → (W p l e R s m args below meth c H locs nc ns Q (F0 m pc A (st.map (qV am))))) := by
  simp only [qStep, qgo] at hs
  split at hs
  · rename_i v pp hI
    cases hs
    exact ⟨rfl, fun kk => lv_ldc2 hx hb hown (hts _ (qJ_spec hI)) hd (kk A hlr)⟩
  · cases hs
theorem qsg_link : Cond.fieldLink (qR 10) 107 "SaggingNet$Text" "SIGNS" "[C" ∈ qWall := qwall_in (p := 782) (qAt_spec (by decide +kernel)) rfl
theorem qs_getstatic {z : Nat} (hx : p.tables.exec = Jvm.exec) (hb : c.code = cc) (hlr : qLR am ls A nL) (ham : ∀ i, am (i + 2) = base + i) (hK : qKS dC dI tc s) (hH : qHR am dC dI tc base L xs h H) (hS : va_S (fun q => base ≤ q) s.heap H locs) (hZ : qHS am base L xs s s.heap) (hts : ∀ w ∈ qWall, w.before args s = true) (hown : s.vm.findClass (qR (qown k)) = some m.cls) (hd : decode cc pc = .ok (.getstatic z, 3)) (hs : qStep d k pc ls st h (.getstatic z) = some (.inl g)) : g.2.2.2 = h ∧ ((∀ B, qLR am g.2.1 B nL → (W p l e R s m args below meth c H locs nc ns Q (F0 m g.1 B (g.2.2.1.map (qV am))))) → (W p l e R s m args below meth c H locs nc ns Q (F0 m pc A (st.map (qV am))))) := by
  simp only [qStep, qgo] at hs
  split at hs
  · rename_i hq
    cases hs
    obtain ⟨q1, q2⟩ := hq
    subst q2
    rw [q1] at hown
    exact ⟨rfl, fun kk => va_gets hx hb hZ.2.2.2.1 hS hown (hts _ qsg_link) (fun _ h9 => h9) hd (kk A hlr)⟩
  · cases hs
theorem qs_iaload (hx : p.tables.exec = Jvm.exec) (hb : c.code = cc) (hlr : qLR am ls A nL) (ham : ∀ i, am (i + 2) = base + i) (hK : qKS dC dI tc s) (hH : qHR am dC dI tc base L xs h H) (hS : va_S (fun q => base ≤ q) s.heap H locs) (hZ : qHS am base L xs s s.heap) (hd : decode cc pc = .ok (.iaload, 1)) (hs : qStep d k pc ls st h (.iaload) = some (.inl g)) : g.2.2.2 = h ∧ ((∀ B, qLR am g.2.1 B nL → (W p l e R s m args below meth c H locs nc ns Q (F0 m g.1 B (g.2.2.1.map (qV am))))) → (W p l e R s m args below meth c H locs nc ns Q (F0 m pc A (st.map (qV am))))) := by
  simp only [qStep, qix, qgo] at hs
  split at hs
  · rename_i i a r
    split at hs
    · rename_i t n gg hc
      split at hs
      · rename_i hr
        split at hs
        · rename_i q n2 f he
          cases he
          split at hs
          · rename_i ht
            cases hs
            refine ⟨rfl, fun kk => ?_⟩
            rcases ht with rfl | rfl
            · exact va_iald hx hb hK.1 (qP1 (hH.arr ham hc (Nat.ne_of_beq_eq_false rfl) (Nat.ne_of_beq_eq_false rfl)).1) 0 0 rfl rfl (vp_in_iff.mpr hr) hd (kk A hlr)
            · obtain ⟨e1, e2⟩ := hH.script hc rfl
              subst e1
              cases e2
              exact va_sld hx hb hZ.1 hZ.2.1 hZ.2.2.1 hS (vp_in_iff.mpr hr) hd (kk A hlr)
          · cases hs
        · cases hs
      · cases hs
    · cases hs
  · cases hs
theorem qs_baload (hx : p.tables.exec = Jvm.exec) (hb : c.code = cc) (hlr : qLR am ls A nL) (ham : ∀ i, am (i + 2) = base + i) (hK : qKS dC dI tc s) (hH : qHR am dC dI tc base L xs h H) (hS : va_S (fun q => base ≤ q) s.heap H locs) (hZ : qHS am base L xs s s.heap) (hd : decode cc pc = .ok (.baload, 1)) (hs : qStep d k pc ls st h (.baload) = some (.inl g)) : g.2.2.2 = h ∧ ((∀ B, qLR am g.2.1 B nL → (W p l e R s m args below meth c H locs nc ns Q (F0 m g.1 B (g.2.2.1.map (qV am))))) → (W p l e R s m args below meth c H locs nc ns Q (F0 m pc A (st.map (qV am))))) := by
  simp only [qStep, qix, qgo] at hs
  split at hs
  · rename_i i a r
    split at hs
    · rename_i t n gg hc
      split at hs
      · rename_i hr
        split at hs
        · rename_i q n2 f he
          cases he
          split at hs
          · rename_i ht
            cases hs
            refine ⟨rfl, fun kk => ?_⟩
            rcases ht with rfl | rfl
            · exact va_zald hx hb hK.1 (qP1 (hH.arr ham hc (Nat.ne_of_beq_eq_false rfl) (Nat.ne_of_beq_eq_false rfl)).1) 0 1 rfl rfl (vp_in_iff.mpr hr) hd (kk A hlr)
            · exact va_bald hx hb hK.1 (qP1 (hH.arr ham hc (Nat.ne_of_beq_eq_false rfl) (Nat.ne_of_beq_eq_false rfl)).1) 0 3 rfl rfl (vp_in_iff.mpr hr) hd (kk A hlr)
          · cases hs
        · cases hs
      · cases hs
    · cases hs
  · cases hs
theorem qs_laload (hx : p.tables.exec = Jvm.exec) (hb : c.code = cc) (hlr : qLR am ls A nL) (ham : ∀ i, am (i + 2) = base + i) (hK : qKS dC dI tc s) (hH : qHR am dC dI tc base L xs h H) (hS : va_S (fun q => base ≤ q) s.heap H locs) (hZ : qHS am base L xs s s.heap) (hd : decode cc pc = .ok (.laload, 1)) (hs : qStep d k pc ls st h (.laload) = some (.inl g)) : g.2.2.2 = h ∧ ((∀ B, qLR am g.2.1 B nL → (W p l e R s m args below meth c H locs nc ns Q (F0 m g.1 B (g.2.2.1.map (qV am))))) → (W p l e R s m args below meth c H locs nc ns Q (F0 m pc A (st.map (qV am))))) := by
  simp only [qStep, qix, qgo] at hs
  split at hs
  · rename_i i a r
    split at hs
    · rename_i t n gg hc
      split at hs
      · rename_i hr
        split at hs
        · rename_i q n2 f he
          cases he
          split at hs
          · rename_i ht
            cases hs
            refine ⟨rfl, fun kk => ?_⟩
            subst ht
            exact va_lald hx hb hK.1 (qP1 (hH.arr ham hc (Nat.ne_of_beq_eq_false rfl) (Nat.ne_of_beq_eq_false rfl)).1) 0 2 rfl rfl (vp_in_iff.mpr hr) hd (kk A hlr)
          · cases hs
        · cases hs
      · cases hs
    · cases hs
  · cases hs
theorem qs_caload (hx : p.tables.exec = Jvm.exec) (hb : c.code = cc) (hlr : qLR am ls A nL) (ham : ∀ i, am (i + 2) = base + i) (hK : qKS dC dI tc s) (hH : qHR am dC dI tc base L xs h H) (hS : va_S (fun q => base ≤ q) s.heap H locs) (hZ : qHS am base L xs s s.heap) (hd : decode cc pc = .ok (.caload, 1)) (hs : qStep d k pc ls st h (.caload) = some (.inl g)) : g.2.2.2 = h ∧ ((∀ B, qLR am g.2.1 B nL → (W p l e R s m args below meth c H locs nc ns Q (F0 m g.1 B (g.2.2.1.map (qV am))))) → (W p l e R s m args below meth c H locs nc ns Q (F0 m pc A (st.map (qV am))))) := by
  simp only [qStep, qix, qgo] at hs
  split at hs
  · rename_i i a r
    split at hs
    · rename_i t n gg hc
      split at hs
      · rename_i hr
        split at hs
        · rename_i q n2 f he
          cases he
          split at hs
          · rename_i ht
            cases hs
            refine ⟨rfl, fun kk => ?_⟩
            subst ht
            obtain ⟨e1, e2⟩ := hH.signs hc rfl
            subst e1
            cases e2
            obtain ⟨-, -, -, -, cell, q1, q2, q3, q4, q5, q6, q7⟩ := hZ
            have hv := vp_in_iff.mpr hr
            have hlt : i.toNatClampNeg < 11 := Nat.not_le.mp fun q => hv (Or.inr q)
            exact W.cald hx hb (v := .int (qSg i.toNatClampNeg)) (by rw [hS.2.1 (am 1) (Array.getElem?_eq_some_iff.mp q1).1 q7]; exact q1) q2 q3 (fun q => hv (q.imp id (fun q => Nat.le_trans q4 q))) (q6 _ hlt) rfl rfl hd (kk A hlr)
          · cases hs
        · cases hs
      · cases hs
    · cases hs
  · cases hs
theorem qs_aaload (hx : p.tables.exec = Jvm.exec) (hb : c.code = cc) (hlr : qLR am ls A nL) (ham : ∀ i, am (i + 2) = base + i) (hK : qKS dC dI tc s) (hH : qHR am dC dI tc base L xs h H) (hS : va_S (fun q => base ≤ q) s.heap H locs) (hd : decode cc pc = .ok (.aaload, 1)) (hs : qStep d k pc ls st h (.aaload) = some (.inl g)) : g.2.2.2 = h ∧ ((∀ B, qLR am g.2.1 B nL → (W p l e R s m args below meth c H locs nc ns Q (F0 m g.1 B (g.2.2.1.map (qV am))))) → (W p l e R s m args below meth c H locs nc ns Q (F0 m pc A (st.map (qV am))))) := by
  simp only [qStep, qix, qgo] at hs
  split at hs
  · rename_i i a r
    split at hs
    · rename_i t n gg hc
      split at hs
      · rename_i hr
        split at hs
        · rename_i q n2 f he
          cases he
          split at hs
          · rename_i ht
            have hv := vp_in_iff.mpr hr
            have hlt : i.toNatClampNeg < n := Nat.not_le.mp fun q => hv (Or.inr q)
            have hcell : H[am a]? = some (vp_cell (tc t) (n, .inr (.inr (.inr (.inr fun j => (f j).map am))))) := (hH.arr ham hc (by show t ≠ 8; omega) (by show t ≠ 9; omega)).1
            have hz : ∃ ty, s.isArrayOf (vp_cell (tc t) (n, .inr (.inr (.inr (.inr fun j => (f j).map am))))) ty ∧ ty.isReference = true := by
              rcases ht with rfl | rfl | rfl
              · exact ⟨_, (hK.1.2 5 _ rfl).1 n (fun j => va_rf ((f j).map am)), rfl⟩
              · exact ⟨_, (hK.1.2 6 _ rfl).1 n (fun j => va_rf ((f j).map am)), rfl⟩
              · exact ⟨_, (hK.1.2 7 _ rfl).1 n (fun j => va_rf ((f j).map am)), rfl⟩
            obtain ⟨ty, hz1, hz2⟩ := hz
            have key := fun kk => W.aald (p := p) (l := l) (e := e) (R := R) (m := m) (args := args) (below := below) (meth := meth) (locs := locs) (cells := nc) (slots := ns) (Q := Q) (v := va_rf ((f i.toNatClampNeg).map am)) (ty := ty) hx hb hcell hz1 hz2 (fun q => by cases q) (by show ¬ (i < 0 ∨ (arrV _ _ _).slots.size ≤ _); rw [arrV_size]; exact hv) (by show (arrV _ _ _).slots[_]? = _; rw [arrV_read _ _ hlt]) (g := F0 m pc A ((Value.int i :: Value.ref a :: r).map (qV am))) rfl rfl hd kk
            split at hs
            · rename_i x hx2
              cases hs
              refine ⟨rfl, fun kk => key ?_⟩
              rw [hx2]
              exact kk A hlr
            · rename_i hx2
              cases hs
              refine ⟨rfl, fun kk => key ?_⟩
              rw [hx2]
              exact kk A hlr
          · cases hs
        · cases hs
      · cases hs
    · cases hs
  · cases hs
theorem qs_arraylength (hx : p.tables.exec = Jvm.exec) (hb : c.code = cc) (hlr : qLR am ls A nL) (ham : ∀ i, am (i + 2) = base + i) (hK : qKS dC dI tc s) (hH : qHR am dC dI tc base L xs h H) (hS : va_S (fun q => base ≤ q) s.heap H locs) (hZ : qHS am base L xs s s.heap) (hd : decode cc pc = .ok (.arraylength, 1)) (hs : qStep d k pc ls st h (.arraylength) = some (.inl g)) : g.2.2.2 = h ∧ ((∀ B, qLR am g.2.1 B nL → (W p l e R s m args below meth c H locs nc ns Q (F0 m g.1 B (g.2.2.1.map (qV am))))) → (W p l e R s m args below meth c H locs nc ns Q (F0 m pc A (st.map (qV am))))) := by
  simp only [qStep, qgo] at hs
  split at hs
  · rename_i a r
    split at hs
    · rename_i t n gg hc
      cases hs
      refine ⟨rfl, fun kk => ?_⟩
      by_cases e8 : t = 8
      · obtain ⟨e1, e2⟩ := hH.script hc e8
        subst e1
        cases e2
        exact va_slen hx hb hZ.1 hZ.2.1 hZ.2.2.1 hS hd (kk A hlr)
      · by_cases e9 : t = 9
        · obtain ⟨e1, e2⟩ := hH.signs hc e9
          subst e1
          cases e2
          obtain ⟨-, -, -, -, cell, q1, q2, q3, q4, q5, q6, q7⟩ := hZ
          exact W.alen hx hb (by rw [hS.2.1 (am 1) (Array.getElem?_eq_some_iff.mp q1).1 q7]; exact q1) q2 q5 rfl rfl hd (kk A hlr)
        · obtain ⟨hat, h8, -⟩ := hH.arr ham hc e8 e9
          have h8 : t < 8 := h8
          have ht : (qtys tc)[t]? = some (tc t, qTy.getD t .int) := by
            unfold qtys
            rw [List.getElem?_map, List.getElem?_range h8]
            rfl
          refine va_alen hx hb hK.1 (qP1 hat) 0 t rfl ht ?_ hd (kk A hlr)
          show Int32.ofNat (qArr am (n, gg)).1 = _
          unfold qArr
          split <;> rename_i hh <;> first | (cases hh; rfl) | rfl
    · cases hs
  · cases hs
theorem qs_getfield {z : Nat} (hx : p.tables.exec = Jvm.exec) (hb : c.code = cc) (hlr : qLR am ls A nL) (ham : ∀ i, am (i + 2) = base + i) (hK : qKS dC dI tc s) (hH : qHR am dC dI tc base L xs h H) (hS : va_S (fun q => base ≤ q) s.heap H locs) (hts : ∀ w ∈ qWall, w.before args s = true) (hown : s.vm.findClass (qR (qown k)) = some m.cls) (hd : decode cc pc = .ok (.getfield z, 3)) (hs : qStep d k pc ls st h (.getfield z) = some (.inl g)) : g.2.2.2 = h ∧ ((∀ B, qLR am g.2.1 B nL → (W p l e R s m args below meth c H locs nc ns Q (F0 m g.1 B (g.2.2.1.map (qV am))))) → (W p l e R s m args below meth c H locs nc ns Q (F0 m pc A (st.map (qV am))))) := by
  simp only [qStep, qget, qgo] at hs
  split at hs
  · rename_i ci j pp nest a r hF
    split at hs
    · rename_i c2 fs hc
      split at hs
      · rename_i hcc
        split at hs
        · rename_i v hv
          cases hs
          subst hcc
          refine ⟨rfl, fun kk => ?_⟩
          obtain ⟨f1, f2, f3⟩ := qF_spec hF
          have hN : j < (qCl.getD c2 qDef).2.2 := by rw [qCl_N f2]; exact f3
          have hT := qCl_T f2 hN
          have hat := (hH.obj ham hc).1
          have hvm : (fs.map (qV am))[j]? = some (qV am v) := by rw [List.getElem?_map, hv]; rfl
          have hsame : ∀ x, s.fieldFound? ((qCl.getD c2 qDef).2.1 j).1 ((qCl.getD c2 qDef).2.1 j).2.1 ((qCl.getD c2 qDef).2.1 j).2.2.1 = some x → s.fieldFound? (qR c2) ((qCl.getD c2 qDef).2.1 j).2.1 ((qCl.getD c2 qDef).2.1 j).2.2.1 = some x := fun x hx9 => by rw [hT.1] at hx9; exact hx9
          cases nest with
          | false => exact va_get (ref := qR c2) hx hb hts (qW_in f2) hown hK.1 (qP1 hat) 0 rfl (qCl_at f2) j hN (hts _ (qwall_in f1 rfl)) hsame hvm hd (kk A hlr)
          | true => exact va_getN (ref := qR c2) (host := "SaggingNet") hx hb hts (qW_in f2) hown hK.1 (qP1 hat) 0 rfl (qCl_at f2) j hN (va_Nw.use rfl (hK.2.1 _ _ (qF_mem hF) rfl)) hsame hvm hd (kk A hlr)
        · cases hs
      · cases hs
    · cases hs
  · cases hs
end QH
