/-! Calls, and the whole: every run of the pure machine is a walk of the machine. -/
theorem qgood_of {ws : List Cond} (h : ∀ w ∈ ws, w ∈ qWall) : GoodIn qWall ws := fun w hw => qwall_good w (h w hw)
theorem qws_in {k : Nat} (h1 : 0 < k) (h2 : k < 251) : ∀ w ∈ qws k, w ∈ qWall := fun w hw => by
  rcases List.mem_cons.mp hw with rfl | hw
  · exact qcw_in k h1 h2
  · exact hw
/-- a call's entry in words -/
theorem qK_spec {c0 i k2 n kind p1 p2 p3 p4 : Nat} (h : qK_ c0 i = some (k2, n, kind, p1, p2, p3, p4)) : 0 < k2 ∧ k2 < 251 ∧ (parseMethodDescriptor (qnm k2).desc).map (fun d => d.parameters.length) = some n ∧
    ((kind = 2 ∨ kind = 3) → (qnm k2).name = "<init>" ∧ qrt k2 = none) ∧ (kind = 0 → qown k2 < 13) ∧ (kind ≠ 3 → Cond.methodLink (qR c0) i (qnm k2) ∈ qWall) ∧ (if kind = 1 then Cond.static (qnm k2) else Cond.instanceMethod (qnm k2)) ∈ qWall ∧ (kind = 0 → Cond.selects (qnm k2).cls (qnm k2) (qnm k2) ∈ qWall) ∧ Cond.initialized (qnm k2).cls ∈ qWall := by
  have hm := qlookup h
  have hc := qK_len hm
  have h1 := List.all_eq_true.mp (qrange qKe_all hc) _ hm
  unfold qKe at h1
  simp only [Bool.and_eq_true, Bool.or_eq_true, decide_eq_true_eq, Bool.not_eq_true', Bool.or_eq_false_iff] at h1
  obtain ⟨⟨⟨⟨a1, a2⟩, a3⟩, a4⟩, a5⟩ := h1
  have h2 := List.all_eq_true.mp (qK_all c0) _ hm
  unfold qKw at h2
  simp only [Bool.and_eq_true, Bool.or_eq_true] at h2
  obtain ⟨⟨⟨b1, b2⟩, b3⟩, b4⟩ := h2
  refine ⟨by simpa using a1, by simpa using a2, a3, fun hk => ?_, fun hk => ?_, fun hk => ?_, ?_, fun hk => ?_, qwall_in (qAt_spec b4) rfl⟩
  · refine a4.resolve_left (fun hz => ?_)
    rcases hk with rfl | rfl
    · cases hz.1
    · cases hz.2
  · subst hk
    exact by simpa using a5.resolve_left (fun hz => by cases hz)
  · rw [if_neg hk] at b1
    exact qwall_in (qAt_spec b1) rfl
  · refine qwall_in (qAt_spec b2) ?_
    split <;> rfl
  · subst hk
    exact qwall_in (qAt_spec (b3.resolve_left (fun hz => by cases hz))) rfl
theorem qsplit {st as : List Value} {n : Nat} (h : (st.take n).reverse = as) : st = as.reverse ++ st.drop n := by rw [← h, List.reverse_reverse, List.take_append_drop]
theorem qcall_spec {k z pc k2 : Nat} {st as r : List Value} {h : qH} (hs : qcall k z pc st h = some (.inr (.inr (k2, as, r)))) : ∃ n kind p1 p2 p3 p4, qK_ (qown k) z = some (k2, n, kind, p1, p2, p3, p4) ∧ qcat r ≤ 8 ∧
    ((kind = 1 ∧ as.length = n ∧ st = as.reverse ++ r) ∨ (kind = 0 ∧ ∃ b as2 fs, as = .ref b :: as2 ∧ as2.length = n ∧ st = as2.reverse ++ .ref b :: r ∧ h.2.2 b = some (.inr (qown k2, fs)))) := by
  unfold qcall at hs
  split at hs
  · rename_i k3 n kind pp hK
    obtain ⟨p1, p2, p3, p4⟩ := pp
    dsimp only at hs
    split at hs
    · rename_i hl
      split at hs
      · split at hs
        · rename_i h8
          cases hs
          exact ⟨n, 1, p1, p2, p3, p4, hK, h8, Or.inl ⟨rfl, hl, qsplit rfl⟩⟩
        · cases hs
      · split at hs
        · rename_i b r9 hd
          split at hs
          · rename_i c9 fs hb
            split at hs
            · rename_i hc
              cases hs
              obtain ⟨hc1, h8⟩ := hc
              refine ⟨n, 0, p1, p2, p3, p4, hK, h8, Or.inr ⟨rfl, b, _, fs, rfl, hl, ?_, by rw [hb, hc1]⟩⟩
              have := qsplit (st := st) (n := n) rfl
              rw [hd] at this
              exact this
            · cases hs
          · cases hs
        · cases hs
      · cases hs
    · cases hs
  · cases hs
theorem qcallI_spec {k z pc k2 d : Nat} {ls : qL} {st as r : List Value} {h : qH} (hs : qcallI k z pc ls st h d = some (.inr (.inr (k2, as, r)))) : ∃ n kind p1 p2 p3 p4, qK_ (qown k) z = some (k2, n, kind, p1, p2, p3, p4) ∧ qcat r ≤ 8 ∧ (kind = 2 ∨ kind = 3) ∧
    ∃ b as2, as = .ref b :: as2 ∧ as2.length = n ∧ st = as2.reverse ++ .ref b :: r := by
  unfold qcallI at hs
  split at hs
  · split at hs
    · simp only [qgo] at hs
      split at hs <;> cases hs
    · cases hs
  · split at hs
    · rename_i k3 n kind pp hK
      obtain ⟨p1, p2, p3, p4⟩ := pp
      dsimp only at hs
      split at hs
      · rename_i hl
        split at hs
        · rename_i b r9 hd
          split at hs
          · rename_i h8
            cases hs
            refine ⟨n, kind, p1, p2, p3, p4, hK, h8, hl.2, b, _, rfl, hl.1, ?_⟩
            have := qsplit (st := st) (n := n) rfl
            rw [hd] at this
            exact this
          · cases hs
        · cases hs
      · cases hs
    · cases hs
section QCA
variable {p : Program} {l : Launch} {e : Env} {R : Room} {s : State} {m : MethodId} {args : Array Value} {below : List Frame} {meth : Method} {c : Code} {H : Heap} {locs : List Loc} {nc ns : Nat} {Q : State → Prop}
variable {d2 k k2 pc n : Nat} {A : Array Slot} {am : Nat → Nat} {ls l2 : qL} {st as r : List Value} {h h2 : qH} {v : Option Value}
variable {dC : Nat → ClassId} {dI : Nat → Nat → Nat} {tc : Nat → ClassId} {base L : Nat} {xs : Nat → Int32}
theorem qvmap (am : Nat → Nat) (v : Option Value) (r : List Value) : (v.map (qV am)).toList ++ r.map (qV am) = (v.toList ++ r).map (qV am) := by
  cases v <;> rfl

theorem qgo_V {z kind p1 p2 p3 p4 n9 b : Nat} {as2 : List Value} {fs : List Value} (IH : qOK n) (hf : qFr am dC dI tc base L xs p R s m args meth c k (d2 + 1)) (hlr : qLR am ls A (qmx k)) (hH : qHR am dC dI tc base L xs h H) (hS : va_S (fun q => base ≤ q) s.heap H locs) (hent : qent k2 as = some l2) (hex : qExec n d2 k2 0 l2 [] h = some (v, h2)) (hRc : nc + (h2.1 - h.1) ≤ R.cells) (hRs : ns + (h2.2.1 - h.2.1) ≤ R.slots) (h15 : qown k2 ≠ 15) (hKe : qK_ (qown k) z = some (k2, n9, 0, p1, p2, p3, p4)) (h8 : qcat r ≤ 8) (has : as = .ref b :: as2) (hlen : as2.length = n9) (hst : st = as2.reverse ++ .ref b :: r) (hob : h.2.2 b = some (.inr (qown k2, fs))) (hd : decode (qby k) pc = .ok (.invokevirtual z, 3)) : (∀ H1 locs1, qHR am dC dI tc base L xs h2 H1 → va_S (fun q => base ≤ q) s.heap H1 locs1 → (W p l e R s m args below meth c H1 locs1 (nc + (h2.1 - h.1)) (ns + (h2.2.1 - h.2.1)) Q (F0 m (pc + 3) A ((v.toList ++ r).map (qV am))))) → (W p l e R s m args below meth c H locs nc ns Q (F0 m pc A (st.map (qV am)))) := by
  intro kk
  obtain ⟨hx, hb, hml, hown, hts, hini, hK, hZ, hfr, hlo, ham⟩ := hf
  obtain ⟨k1, k2l, kd, ki, k13, kl, ks, kse, kin⟩ := qK_spec hKe
  obtain ⟨f1, f2, f3, f4, f5⟩ := qm_facts k2l
  have h22 := (qent_spec hent am).1
  have hsz : A.size = qmx k := by obtain ⟨_, lv, g1, _⟩ := hlr; exact g1.1
  have hM := qMet IH k2l h15 hent hex am dC dI tc base L xs ham l
  subst has
  subst hst
  have k13 := k13 rfl
  refine qrun_go (va_runV (As := as2.map (qV am)) (b := am b) (C := (qnm k2).cls) (rest := r.map (qV am)) ⟨hx, hb, hml, hown, hts⟩ hM (cwV n9 hts (qgood_of (fun w hw => ?_)) rfl rfl rfl ⟨rfl, f4, f5, kd⟩ ⟨hfr, by show 8 + (qmx k2 + 11) + 41 * d2 ≤ R.locals; omega⟩) ⟨qPc_blind, ?_, fun U hU hW => ⟨rfl, by rw [hU]; exact hH, qKS.warm hW hK, by rw [hU]; exact (hZ.kept hS.1 hS.2.1).moved hW.alike⟩⟩ rfl (by rw [List.length_map]; exact hlen) hsz (by show List.map _ _ = _; rw [List.map_append, List.map_reverse]; rfl) (lv_room (by rw [qcat_map]; exact h8)) hd ⟨hRc, hRs⟩) fun v9 st₀ t H1 L9 e0 e1 hq hL => ?_
  · unfold wsV at hw
    rcases List.mem_append.mp hw with hw | hw
    · simp only [List.mem_cons, List.not_mem_nil, or_false] at hw
      rcases hw with rfl | rfl | rfl | rfl
      · exact kl (by decide)
      · exact ks
      · exact kse rfl
      · exact kin
    · exact qws_in k1 k2l w hw
  · have hr := va_recv (q0 := 0) hK.1 (qP1 (hH.obj ham hob).1) (qCl_at k13) rfl
    rw [qCl_R k13, ← f1] at hr
    exact hr
  obtain ⟨q1, q2, q3⟩ := hq
  have hv9 : v9 = v.map (qV am) := Outcome.returned.inj q1
  subst hv9
  rw [e1] at q2
  rw [qvmap]
  refine kk H1 _ q2 ⟨?_, fun x h1 h2 => ?_, fun x hx => ?_⟩
  · have h3 := q3.1
    rw [e0, e1] at h3
    exact Nat.le_trans hS.1 h3
  · have h3 := q3.2 x (by rw [e0]; exact Nat.lt_of_lt_of_le h1 hS.1) h2
    rw [e0, e1] at h3
    rw [h3]
    exact hS.2.1 x h1 h2
  · rcases List.mem_append.mp hx with h4 | h4
    · exact hS.2.2 x h4
    · exact hL x h4
theorem qgo_S {z kind p1 p2 p3 p4 n9 : Nat} (IH : qOK n) (hf : qFr am dC dI tc base L xs p R s m args meth c k (d2 + 1)) (hlr : qLR am ls A (qmx k)) (hH : qHR am dC dI tc base L xs h H) (hS : va_S (fun q => base ≤ q) s.heap H locs) (hent : qent k2 as = some l2) (hex : qExec n d2 k2 0 l2 [] h = some (v, h2)) (hRc : nc + (h2.1 - h.1) ≤ R.cells) (hRs : ns + (h2.2.1 - h.2.1) ≤ R.slots) (h15 : qown k2 ≠ 15) (hKe : qK_ (qown k) z = some (k2, n9, 1, p1, p2, p3, p4)) (h8 : qcat r ≤ 8) (hlen : as.length = n9) (hst : st = as.reverse ++ r) (hd : decode (qby k) pc = .ok (.invokestatic z, 3)) : (∀ H1 locs1, qHR am dC dI tc base L xs h2 H1 → va_S (fun q => base ≤ q) s.heap H1 locs1 → (W p l e R s m args below meth c H1 locs1 (nc + (h2.1 - h.1)) (ns + (h2.2.1 - h.2.1)) Q (F0 m (pc + 3) A ((v.toList ++ r).map (qV am))))) → (W p l e R s m args below meth c H locs nc ns Q (F0 m pc A (st.map (qV am)))) := by
  intro kk
  obtain ⟨hx, hb, hml, hown, hts, hini, hK, hZ, hfr, hlo, ham⟩ := hf
  obtain ⟨k1, k2l, kd, ki, k13, kl, ks, kse, kin⟩ := qK_spec hKe
  obtain ⟨f1, f2, f3, f4, f5⟩ := qm_facts k2l
  have h22 := (qent_spec hent am).1
  have hsz : A.size = qmx k := by obtain ⟨_, lv, g1, _⟩ := hlr; exact g1.1
  have hM := qMet IH k2l h15 hent hex am dC dI tc base L xs ham l
  subst hst
  refine qrun_go (va_runS (As := as.map (qV am)) (rest := r.map (qV am)) ⟨hx, hb, hml, hown, hts⟩ hM (va_cwS n9 hts (qgood_of (fun w hw => ?_)) rfl rfl rfl ⟨f4, f5, kd⟩ ⟨hfr, by show 8 + (qmx k2 + 11) + 41 * d2 ≤ R.locals; omega⟩) ⟨qPc_blind, fun U hU hW => ⟨rfl, by rw [hU]; exact hH, qKS.warm hW hK, by rw [hU]; exact (hZ.kept hS.1 hS.2.1).moved hW.alike⟩⟩ rfl (by rw [List.length_map]; exact hlen) hsz (by show List.map _ _ = _; rw [List.map_append, List.map_reverse]) (lv_room (by rw [qcat_map]; exact h8)) hd ⟨hRc, hRs⟩) fun v9 st₀ t H1 L9 e0 e1 hq hL => ?_
  · unfold va_wsS at hw
    rcases List.mem_append.mp hw with hw | hw
    · simp only [List.mem_cons, List.not_mem_nil, or_false] at hw
      rcases hw with rfl | rfl | rfl
      · exact kl (by decide)
      · exact ks
      · exact kin
    · exact qws_in k1 k2l w hw
  obtain ⟨q1, q2, q3⟩ := hq
  have hv9 : v9 = v.map (qV am) := Outcome.returned.inj q1
  subst hv9
  rw [e1] at q2
  rw [qvmap]
  refine kk H1 _ q2 ⟨?_, fun x h1 h2 => ?_, fun x hx => ?_⟩
  · have h3 := q3.1
    rw [e0, e1] at h3
    exact Nat.le_trans hS.1 h3
  · have h3 := q3.2 x (by rw [e0]; exact Nat.lt_of_lt_of_le h1 hS.1) h2
    rw [e0, e1] at h3
    rw [h3]
    exact hS.2.1 x h1 h2
  · rcases List.mem_append.mp hx with h4 | h4
    · exact hS.2.2 x h4
    · exact hL x h4
theorem qgo_I {z kind p1 p2 p3 p4 n9 b : Nat} {as2 : List Value} (IH : qOK n) (hf : qFr am dC dI tc base L xs p R s m args meth c k (d2 + 1)) (hlr : qLR am ls A (qmx k)) (hH : qHR am dC dI tc base L xs h H) (hS : va_S (fun q => base ≤ q) s.heap H locs) (hent : qent k2 as = some l2) (hex : qExec n d2 k2 0 l2 [] h = some (v, h2)) (hRc : nc + (h2.1 - h.1) ≤ R.cells) (hRs : ns + (h2.2.1 - h.2.1) ≤ R.slots) (h15 : qown k2 ≠ 15) (hKe : qK_ (qown k) z = some (k2, n9, 2, p1, p2, p3, p4)) (h8 : qcat r ≤ 8) (has : as = .ref b :: as2) (hlen : as2.length = n9) (hst : st = as2.reverse ++ .ref b :: r) (hd : decode (qby k) pc = .ok (.invokespecial z, 3)) : (∀ H1 locs1, qHR am dC dI tc base L xs h2 H1 → va_S (fun q => base ≤ q) s.heap H1 locs1 → (W p l e R s m args below meth c H1 locs1 (nc + (h2.1 - h.1)) (ns + (h2.2.1 - h.2.1)) Q (F0 m (pc + 3) A ((v.toList ++ r).map (qV am))))) → (W p l e R s m args below meth c H locs nc ns Q (F0 m pc A (st.map (qV am)))) := by
  intro kk
  obtain ⟨hx, hb, hml, hown, hts, hini, hK, hZ, hfr, hlo, ham⟩ := hf
  obtain ⟨k1, k2l, kd, ki, k13, kl, ks, kse, kin⟩ := qK_spec hKe
  obtain ⟨f1, f2, f3, f4, f5⟩ := qm_facts k2l
  have h22 := (qent_spec hent am).1
  have hsz : A.size = qmx k := by obtain ⟨_, lv, g1, _⟩ := hlr; exact g1.1
  have hM := qMet IH k2l h15 hent hex am dC dI tc base L xs ham l
  subst has
  subst hst
  obtain ⟨hnm, hrt⟩ := ki (by decide)
  refine qrun_go (va_runI (As := as2.map (qV am)) (b := am b) (bytes := qby k2) (maxL := qmx k2) (rest := r.map (qV am)) ⟨hx, hb, hml, hown, hts⟩ hM (cwI n9 hts (qgood_of (qws_in k1 k2l)) (by unfold qws qcw; rw [hrt]) rfl rfl (hts _ kin) (hts _ (kl (by decide))) (hts _ ks) hnm ⟨f4, f5, kd⟩ ⟨hfr, by show 8 + (qmx k2 + 11) + 41 * d2 ≤ R.locals; omega⟩) ⟨qPc_blind, fun U hU hW => ⟨rfl, by rw [hU]; exact hH, qKS.warm hW hK, by rw [hU]; exact (hZ.kept hS.1 hS.2.1).moved hW.alike⟩⟩ rfl (by rw [List.length_map]; exact hlen) hsz (by show List.map _ _ = _; rw [List.map_append, List.map_reverse]; rfl) (lv_room (by rw [qcat_map]; exact h8)) hd ⟨hRc, hRs⟩) fun v9 st₀ t H1 L9 e0 e1 hq hL => ?_
  obtain ⟨q1, q2, q3⟩ := hq
  have hv9 : v9 = v.map (qV am) := Outcome.returned.inj q1
  subst hv9
  rw [e1] at q2
  rw [qvmap]
  refine kk H1 _ q2 ⟨?_, fun x h1 h2 => ?_, fun x hx => ?_⟩
  · have h3 := q3.1
    rw [e0, e1] at h3
    exact Nat.le_trans hS.1 h3
  · have h3 := q3.2 x (by rw [e0]; exact Nat.lt_of_lt_of_le h1 hS.1) h2
    rw [e0, e1] at h3
    rw [h3]
    exact hS.2.1 x h1 h2
  · rcases List.mem_append.mp hx with h4 | h4
    · exact hS.2.2 x h4
    · exact hL x h4
theorem qgo_N {z kind p1 p2 p3 p4 n9 b : Nat} {as2 : List Value} (IH : qOK n) (hf : qFr am dC dI tc base L xs p R s m args meth c k (d2 + 1)) (hlr : qLR am ls A (qmx k)) (hH : qHR am dC dI tc base L xs h H) (hS : va_S (fun q => base ≤ q) s.heap H locs) (hent : qent k2 as = some l2) (hex : qExec n d2 k2 0 l2 [] h = some (v, h2)) (hRc : nc + (h2.1 - h.1) ≤ R.cells) (hRs : ns + (h2.2.1 - h.2.1) ≤ R.slots) (h15 : qown k2 ≠ 15) (hKe : qK_ (qown k) z = some (k2, n9, 3, p1, p2, p3, p4)) (h8 : qcat r ≤ 8) (has : as = .ref b :: as2) (hlen : as2.length = n9) (hst : st = as2.reverse ++ .ref b :: r) (hd : decode (qby k) pc = .ok (.invokespecial z, 3)) : (∀ H1 locs1, qHR am dC dI tc base L xs h2 H1 → va_S (fun q => base ≤ q) s.heap H1 locs1 → (W p l e R s m args below meth c H1 locs1 (nc + (h2.1 - h.1)) (ns + (h2.2.1 - h.2.1)) Q (F0 m (pc + 3) A ((v.toList ++ r).map (qV am))))) → (W p l e R s m args below meth c H locs nc ns Q (F0 m pc A (st.map (qV am)))) := by
  intro kk
  obtain ⟨hx, hb, hml, hown, hts, hini, hK, hZ, hfr, hlo, ham⟩ := hf
  obtain ⟨k1, k2l, kd, ki, k13, kl, ks, kse, kin⟩ := qK_spec hKe
  obtain ⟨f1, f2, f3, f4, f5⟩ := qm_facts k2l
  have h22 := (qent_spec hent am).1
  have hsz : A.size = qmx k := by obtain ⟨_, lv, g1, _⟩ := hlr; exact g1.1
  have hM := qMet IH k2l h15 hent hex am dC dI tc base L xs ham l
  subst has
  subst hst
  obtain ⟨hnm, hrt⟩ := ki (by decide)
  refine qrun_go (va_runIN (host := "SaggingNet") (As := as2.map (qV am)) (b := am b) (bytes := qby k2) (maxL := qmx k2) (rest := r.map (qV am)) ⟨hx, hb, hml, hown, hts⟩ hM ⟨va_cnB n9 hts (qgood_of (qws_in k1 k2l)) (by unfold qws qcw; rw [hrt]) rfl rfl (hK.2.2.1 _ _ (qlookup hKe) rfl) (hts _ kin) ⟨f4, f5, kd⟩ ⟨hfr, by show 8 + (qmx k2 + 11) + 41 * d2 ≤ R.locals; omega⟩, hnm, hts _ ks⟩ ⟨qPc_blind, fun U hU hW => ⟨rfl, by rw [hU]; exact hH, qKS.warm hW hK, by rw [hU]; exact (hZ.kept hS.1 hS.2.1).moved hW.alike⟩⟩ rfl (by rw [List.length_map]; exact hlen) hsz (by show List.map _ _ = _; rw [List.map_append, List.map_reverse]; rfl) (lv_room (by rw [qcat_map]; exact h8)) hd ⟨hRc, hRs⟩) fun v9 st₀ t H1 L9 e0 e1 hq hL => ?_
  obtain ⟨q1, q2, q3⟩ := hq
  have hv9 : v9 = v.map (qV am) := Outcome.returned.inj q1
  subst hv9
  rw [e1] at q2
  rw [qvmap]
  refine kk H1 _ q2 ⟨?_, fun x h1 h2 => ?_, fun x hx => ?_⟩
  · have h3 := q3.1
    rw [e0, e1] at h3
    exact Nat.le_trans hS.1 h3
  · have h3 := q3.2 x (by rw [e0]; exact Nat.lt_of_lt_of_le h1 hS.1) h2
    rw [e0, e1] at h3
    rw [h3]
    exact hS.2.1 x h1 h2
  · rcases List.mem_append.mp hx with h4 | h4
    · exact hS.2.2 x h4
    · exact hL x h4
end QCA
