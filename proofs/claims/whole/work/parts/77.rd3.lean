section RD3
variable {r n : Nat} {B : Nat → Int} {wk : Bool}
theorem rec_2 (f : Nat) (x : Int) : fRec (f + 1) 2 r x = f28 (fRec f) r x := rfl
theorem rec_3 (f : Nat) (x : Int) : fRec (f + 1) 3 r x = f15 (fRec f) r x := rfl
theorem rec_1 (f : Nat) (x : Int) : fRec (f + 1) 1 r x = f24 (fRec f) r x := rfl
theorem rec_0 (f : Nat) (x : Int) : fRec (f + 1) 0 r x = f13 (fRec f) r x := rfl
theorem r_sumD (hn : n ≤ 160) : ∀ (d f x : Nat), x + d = 6 → 2 * d + 2 ≤ f → rdP (fRec f 2 r (x : Int)) r n B wk (sumD B n wk d) (vGn (2 * d + 3))
  | 0, f, x, hx, hf => by
    obtain ⟨f, rfl⟩ : ∃ f2, f = f2 + 1 + 1 := ⟨f - 2, by omega⟩
    rw [rec_2]
    refine r_sum (nd := 1) (fac := facP B n wk none) ?_ (fun p hp => ok_fac hn hp (fun f h => by cases h))
    rw [rec_3]
    exact r_fac (by omega) (by rw [if_neg (by omega)]) (Nat.le_refl _)
  | d + 1, f, x, hx, hf => by
    obtain ⟨f, rfl⟩ : ∃ f2, f = f2 + 1 + 1 := ⟨f - 2, by omega⟩
    rw [rec_2]
    have ih := r_sumD hn d f (x + 1) (by omega) (by omega)
    rw [show ((x + 1 : Nat) : Int) = (x : Int) + 1 by omega] at ih
    refine r_sum (nd := 2 * d + 3) (fac := facP B n wk (some (sumD B n wk d))) ?_ (fun p hp => ok_fac hn hp (fun f h p hp => by
      cases h
      exact ok_sumD hn d p hp))
    rw [rec_3]
    exact r_fac (by omega) (by rw [if_pos (by omega)]; exact ⟨_, rfl, ih, fun p hp => ok_sumD hn d p hp⟩) (by omega)
theorem r_pieceD (hn : n ≤ 160) : ∀ (d f x : Nat), x + d = 6 → 2 * d + 3 ≤ f → rdP (fRec f 1 r (x : Int)) r n B wk (pieceD B n wk d) cG
  | 0, f, x, hx, hf => by
    obtain ⟨f, rfl⟩ : ∃ f2, f = f2 + 1 := ⟨f - 1, by omega⟩
    rw [rec_1]
    exact r_piece (low := none) (by omega) (by omega) (r_sumD hn 0 f x hx (by omega)) (fun p hp => ok_sumD hn 0 p hp) (by rw [if_neg (by omega)])
  | d + 1, f, x, hx, hf => by
    obtain ⟨f, rfl⟩ : ∃ f2, f = f2 + 1 + 1 := ⟨f - 2, by omega⟩
    rw [rec_1]
    have ih := r_pieceD hn d (f + 1) (x + 1) (by omega) (by omega)
    have ih2 := r_pieceD hn d f (x + 1) (by omega) (by omega)
    have hc : rdP (fRec (f + 1) 0 r ((x + 1 : Nat) : Int)) r n B wk (fun p => condL B n (pieceD B n wk d) n p false zS false zS) cG := by
      rw [rec_0]
      exact r_cond ih2 (fun p hp => ok_pieceD hn d p hp)
    rw [show ((x + 1 : Nat) : Int) = (x : Int) + 1 by omega] at ih hc
    exact r_piece (low := some ((fun p => condL B n (pieceD B n wk d) n p false zS false zS), pieceD B n wk d)) (by omega) (by omega) (r_sumD hn (d + 1) (f + 1) x hx (by omega)) (fun p hp => ok_sumD hn (d + 1) p hp) (by rw [if_pos (by omega)]; exact ⟨_, _, rfl, hc, fun p hp => ok_condL hn (fun p hp => ok_pieceD hn d p hp) n p false zS false zS hp ext_z ext_z, ih, fun p hp => ok_pieceD hn d p hp⟩)
theorem r_condD (hn : n ≤ 160) : rdP (fRec 40 0 r 1) r n B wk (condD B n wk 5) cG := by
  rw [rec_0]
  exact r_cond (x := 1) (r_pieceD hn 5 39 1 (by omega) (by omega)) (fun p hp => ok_pieceD hn 5 p hp)
/-- one clause -/
noncomputable def clP (B : Nat → Int) (n p len : Nat) : Int ⊕ (Nat × Bool × Sem) :=
  if pkN B n p = 116 ∨ pkN B n p = 111 then (
    if 12 ≤ len then .inl (-4000 - p)
    else if pkN B n (p + 1) = 40 then (match condD B n (decide (pkN B n p = 111)) 5 (p + 2) with
      | .inl e => .inl e
      | .inr x => if pkN B n x.1 = 41 then .inr (x.1 + 1, decide (pkN B n p = 111), x.2) else .inl (-1000 - (x.1 : Nat)))
    else .inl (-1000 - (p + 1 : Nat)))
  else .inl (-1000 - p)
theorem cls_eq (k p : Nat) (l : List (Bool × Sem)) : clsL B n (k + 1) p l = (match clP B n p l.length with
  | .inl e => .inl e
  | .inr x => if x.1 = n then .inr (l ++ [x.2]) else if pkN B n x.1 = 59 then clsL B n k (x.1 + 1) (l ++ [x.2]) else .inl (-1000 - (x.1 : Nat))) := by
  rw [clsL]
  unfold clP
  by_cases h1 : pkN B n p = 116 ∨ pkN B n p = 111
  · rw [if_pos h1, if_pos h1]
    by_cases h2 : 12 ≤ l.length
    · rw [if_pos h2, if_pos h2]
    · rw [if_neg h2, if_neg h2]
      by_cases h3 : pkN B n (p + 1) = 40
      · rw [if_pos h3, if_pos h3]
        cases condD B n (decide (pkN B n p = 111)) 5 (p + 2) with
        | inl e => rfl
        | inr x =>
          try dsimp only
          by_cases h4 : pkN B n x.1 = 41
          · rw [if_pos h4, if_pos h4]
          · rw [if_neg h4, if_neg h4]
      · rw [if_neg h3, if_neg h3]
  · rw [if_neg h1, if_neg h1]
/-- the clauses read so far, up to step q -/
def txQ (l : List (Bool × Sem)) (T : Mm) (r q : Nat) : Prop := T r 0 = l.length ∧ l.length ≤ 12 ∧ ∃ e : Nat → Nat, e 0 = 0 ∧ e l.length = q ∧ ∀ (j : Nat) (x : Bool × Sem), l[j]? = some x → e j ≤ e (j + 1) ∧ e (j + 1) ≤ q ∧ T (r + 4) j = e (j + 1) ∧ T (r + 5) j = (if x.1 then 1 else 0) ∧ okC (cd r T) (e j) (e (j + 1)) ∧ cG (cd r T) (e j) (e (j + 1)) x.2 ∧ bitS x.2 ∧ extS x.1 x.2
theorem txQ.V {l : List (Bool × Sem)} {T : Mm} {q : Nat} (h : txQ l T r q) (hq : q ≤ 320) : txV l T r := by
  obtain ⟨h1, h2, e, h3, h4, h5⟩ := h
  refine ⟨h1, h2, e, h3, fun j x hx => ?_⟩
  obtain ⟨a1, a2, a3⟩ := h5 j x hx
  exact ⟨a1, by omega, a3⟩
theorem txQ.to {l : List (Bool × Sem)} {T T2 : Mm} {q : Nat} (h : txQ l T r q) (h0 : T2 r 0 = T r 0) (h4 : T2 (r + 4) = T (r + 4)) (h5 : T2 (r + 5) = T (r + 5)) (hc : ∀ i, i < q → cd r T2 i = cd r T i) : txQ l T2 r q := by
  obtain ⟨a1, a2, e, a3, a4, a5⟩ := h
  refine ⟨h0.trans a1, a2, e, a3, a4, fun j x hx => ?_⟩
  obtain ⟨b1, b2, b3, b4, b5, b6, b7, b8⟩ := a5 j x hx
  refine ⟨b1, b2, by rw [h4]; exact b3, by rw [h5]; exact b4, ok_cg b5 (fun i _ q2 => hc i (by omega)), cG.cg b6 b1 (fun i _ q2 => hc i (by omega)), b7, b8⟩
theorem txQ.snoc {l : List (Bool × Sem)} {x : Bool × Sem} {T T2 : Mm} {q q2 : Nat} (h : txQ l T r q) (hl : l.length + 1 ≤ 12) (hq : q ≤ q2) (h0 : T2 r 0 = l.length + 1) (h45 : ∀ j, j < l.length → T2 (r + 4) j = T (r + 4) j ∧ T2 (r + 5) j = T (r + 5) j) (h4 : T2 (r + 4) l.length = q2) (h5 : T2 (r + 5) l.length = if x.1 then 1 else 0) (hc : ∀ i, i < q → cd r T2 i = cd r T i) (hk : okC (cd r T2) q q2) (hg : cG (cd r T2) q q2 x.2) (hb : bitS x.2) (he : extS x.1 x.2) : txQ (l ++ [x]) T2 r q2 := by
  obtain ⟨a1, a2, e, a3, a4, a5⟩ := h
  have hlen : (l ++ [x]).length = l.length + 1 := by rw [List.length_append]; rfl
  refine ⟨by rw [hlen, h0]; omega, by omega, fun j => if j = l.length + 1 then q2 else e j, (by dsimp only; rw [if_neg (by omega)]; exact a3), (by dsimp only; rw [hlen, if_pos rfl]), fun j y hy => ?_⟩
  try dsimp only
  have hj : j < l.length + 1 := by
    have := (List.getElem?_eq_some_iff.mp hy).1
    omega
  rw [if_neg (by omega : ¬ j = l.length + 1)]
  by_cases e1 : j = l.length
  · subst e1
    rw [if_pos rfl]
    have hyx : y = x := by
      rw [List.getElem?_append_right (Nat.le_refl _), Nat.sub_self] at hy
      injection hy with hy
      exact hy.symm
    subst hyx
    rw [a4]
    exact ⟨hq, Nat.le_refl _, h4, h5, hk, hg, hb, he⟩
  · rw [if_neg (by omega)]
    rw [List.getElem?_append_left (by omega)] at hy
    obtain ⟨b1, b2, b3, b4, b5, b6, b7, b8⟩ := a5 j y hy
    have hjj := h45 j (by omega)
    exact ⟨b1, by omega, hjj.1.trans b3, hjj.2.trans b4, ok_cg b5 (fun i _ q2 => hc i (by omega)), cG.cg b6 b1 (fun i _ q2 => hc i (by omega)), b7, b8⟩
def frC (r : Nat) (M M2 : Mm) : Prop := ∀ b, (b < r ∨ b = r + 1 ∨ r + 5 < b) → M2 b = M b
theorem tS.five {M M2 : Mm} {p q : Nat} (h : tS r n B wk M p q) (f : frT r M M2) : M2 r 5 = 0 ∨ M2 r 5 = 1 := by
  rw [f.2 5 (by decide) (by decide) (by decide), h.wkP]
  cases wk
  · exact Or.inl rfl
  · exact Or.inr rfl
theorem frT.c {M M2 : Mm} (h : frT r M M2) : frC r M M2 := fun b hb => h.1 b (by omega) (by omega) (by omega)
theorem frC.trans {M M2 M3 : Mm} (h : frC r M M2) (g : frC r M2 M3) : frC r M M3 := fun b hb => (g b hb).trans (h b hb)
theorem frC.st {M : Mm} {c j : Nat} {v : Int} (hc : c = r ∨ c = r + 4 ∨ c = r + 5) : frC r M (ms M c j v) := fun b hb => ms_a (by omega)
/-- endClause -/
theorem w250 {l : List (Bool × Sem)} {w : Bool} {sm : Sem} {M8 : Mm} {p4 q q3 : Nat} {P : Mm → Prop} (hS4 : tS r n B w M8 p4 q3) (q4 : txQ l M8 r q) (d2 : ¬ 12 ≤ l.length) (g5 : q ≤ q3) (hk4 : okC (cd r M8) q q3) (hg4 : cG (cd r M8) q q3 sm) (hb : bitS sm) (he : extS w sm)
    (k : ∀ M2 : Mm, frC r M8 M2 → tS r n B w M2 p4 q3 → txQ (l ++ [(w, sm)]) M2 r q3 → P M2) : Wp (f250 r M8) P := by
  have hn := hS4.n160
  have hp4 := hS4.pn
  have hqp := hS4.qp
  unfold f250
  rw [q4.1, Int.toNat_natCast]
  have hw01 : M8 r 5 = 0 ∨ M8 r 5 = 1 := by
    rw [hS4.wkP]
    cases w
    · exact Or.inl rfl
    · exact Or.inr rfl
  refine wp_pos (by omega) (wp_gd (by omega) (wp_gd hw01 (wp_mlet ?_)))
  rw [ms_a (by omega : r ≠ r + 5), q4.1, hS4.qP, Int.toNat_natCast]
  refine wp_gd (by omega) (wp_mlet ?_)
  rw [ms_a (by omega : r ≠ r + 4), ms_a (by omega : r ≠ r + 5), q4.1]
  refine wp_gd (by omega) (wp_mlet (wp_some (k _ (((frC.st (Or.inr (Or.inr rfl))).trans (frC.st (Or.inr (Or.inl rfl)))).trans (frC.st (Or.inl rfl))) ?_ ?_)))
  · refine ⟨?_, ?_, ?_, ?_, fun i hi => ?_, hp4, by omega, hn⟩
    · rw [ms_i (by decide), ms_a (by omega), ms_a (by omega)]
      exact hS4.pP
    · rw [ms_i (by decide), ms_a (by omega), ms_a (by omega)]
      exact hS4.nP
    · rw [ms_i (by decide), ms_a (by omega), ms_a (by omega)]
      exact hS4.qP
    · rw [ms_i (by decide), ms_a (by omega), ms_a (by omega)]
      exact hS4.wkP
    · rw [ms_a (by omega), ms_a (by omega), ms_a (by omega)]
      exact hS4.2.2.2.2.1 i hi
  · have hcd : ∀ i, cd r (ms (ms (ms M8 (r + 5) l.length (M8 r 5)) (r + 4) l.length (q3 : Int)) r 0 ((l.length : Int) + 1)) i = cd r M8 i := fun i => by
      unfold cd
      rw [ms_a (by omega), ms_a (by omega), ms_a (by omega), ms_a (by omega), ms_a (by omega), ms_a (by omega)]
    refine q4.snoc (by omega) g5 (by rw [ms_v]) (fun j hj => ⟨?_, ?_⟩) ?_ ?_ (fun i _ => hcd i) (ok_cg hk4 (fun i _ _ => hcd i)) (cG.cg hg4 g5 (fun i _ _ => hcd i)) hb he
    · rw [ms_a (by omega), ms_i (by omega), ms_a (by omega)]
    · rw [ms_a (by omega), ms_a (by omega), ms_i (by omega)]
    · rw [ms_a (by omega), ms_v]
    · rw [ms_a (by omega), ms_a (by omega), ms_v]
      exact hS4.wkP
/-- beginClause -/
theorem w12 {l : List (Bool × Sem)} {M : Mm} {p q : Nat} {P : Int × Mm → Prop} (h : tS r n B wk M p q) (hl : txQ l M r q)
    (kE : ∀ (e : Int) (M2 : Mm), clP B n p l.length = .inl e → frC r M M2 → (M2 r 5 = 0 ∨ M2 r 5 = 1) → M2 r 1 = e → P (0, M2))
    (kO : (pkN B n p = 116 ∨ pkN B n p = 111) → ¬ 12 ≤ l.length → ∀ M2 : Mm, frC r M M2 → tS r n B (decide (pkN B n p = 111)) M2 (p + 1) q → txQ l M2 r q → P (1, M2)) : Wp (f12 r M) P := by
  have hn := h.n160
  have hqp := h.qp
  unfold f12
  refine wp_bind (w23 h ?_)
  unfold clP at kE
  have br : (pkN B n p = 116 ∨ pkN B n p = 111) → Wp (f12_23 r (pkN B n p) M) P := fun d => by
    have hlt : p < n := pk_ne (B := B) (fun z => by omega)
    rw [if_pos d] at kE
    unfold f12_23
    rw [hl.1]
    refine wp_ite (fun d2 => ?_) (fun d2 => ?_)
    · have core : ∀ w : Bool, w = decide (pkN B n p = 111) → Wp (mlet (ms M r 5 (if w then 1 else 0)) fun M4 => gd (R4 ((M4 r 3) + 1)) (mlet (ms M4 r 3 ((M4 r 3) + 1)) fun M8 => some (1, M8))) P := fun w hw => by
        have hS0 : tS r n B w (ms M r 5 (if w then 1 else 0)) p q := ⟨(ms_i (by decide)).trans h.pP, (ms_i (by decide)).trans h.nP, (ms_i (by decide)).trans h.qP, ms_v, fun i hi => by rw [ms_a (by omega)]; exact h.2.2.2.2.1 i hi, h.pn, hqp, hn⟩
        have f0 : frC r M (ms M r 5 (if w then 1 else 0)) := frC.st (Or.inl rfl)
        have q0 : txQ l (ms M r 5 (if w then 1 else 0)) r q := hl.to (ms_i (by decide)) (ms_a (by omega)) (ms_a (by omega)) (fun i _ => cd_st)
        rw [← hw] at kO
        refine wp_mlet ?_
        generalize ms M r 5 (if w then 1 else 0) = M4 at hS0 f0 q0 ⊢
        rw [hS0.pP]
        refine wp_gd (by omega) (wp_mlet ?_)
        have hS1 := hS0.go rfl (by omega)
        have f1 : frC r M (ms M4 r 3 ((p : Int) + 1)) := f0.trans (frC.st (Or.inl rfl))
        have q1 : txQ l (ms M4 r 3 ((p : Int) + 1)) r q := q0.to (ms_i (by decide)) (ms_a (by omega)) (ms_a (by omega)) (fun i _ => cd_st)
        exact wp_some (kO d (by omega) _ f1 hS1 q1)
      refine wp_ite (fun d3 => core true (by rw [d3]; rfl)) (fun d3 => core false (by rw [decide_eq_false d3]))
    · rw [if_pos (by omega)] at kE
      exact w27' (by decide) h (fun M2 q1 _ q3 => kE _ M2 rfl q1.c (h.five q1) (by rw [q3]; omega))
  refine wp_ite (fun d => br (Or.inl d)) (fun d => wp_ite (fun d2 => br (Or.inr d2)) (fun d2 => ?_))
  rw [if_neg (by omega)] at kE
  exact w27' (by decide) h (fun M2 q1 _ q3 => kE _ M2 rfl q1.c (h.five q1) (by rw [q3]; omega))
/-- one clause, from its letter to its last bracket -/
theorem wcl {β : Type} {l : List (Bool × Sem)} {M : Mm} {p q : Nat} {P : β → Prop} {E K : Mm → Option β} (h : tS r n B wk M p q) (hl : txQ l M r q)
    (kE : ∀ (e : Int) (M2 : Mm), clP B n p l.length = .inl e → frC r M M2 → (M2 r 5 = 0 ∨ M2 r 5 = 1) → M2 r 1 = e → Wp (E M2) P)
    (kO : ∀ (p2 : Nat) (x : Bool × Sem) (q2 : Nat) (M2 : Mm), clP B n p l.length = .inr (p2, x) → frC r M M2 → tS r n B x.1 M2 p2 q2 → txQ (l ++ [x]) M2 r q2 → Wp (K M2) P) : Wp (obnd (f12 r M) fun v2 M3 => if v2 = 0 then E M3 else obnd (f29 r 40 M3) fun v6 M7 => if v6 = 0 then E M7 else obnd (fRec 40 0 r 1 M7) fun v10 M11 => if v10 = 0 then E M11 else obnd (f29 r 41 M11) fun v14 M15 => if v14 = 0 then E M15 else (f250 r M15).bind K) P := by
  have hn := h.n160
  have hqp := h.qp
  have kE0 := kE
  unfold clP at kE kO
  refine wp_obnd (w12 h hl (fun e M2 g1 g2 g3 g4 => wp_pos rfl (kE0 e M2 g1 g2 g3 g4)) (fun d d2 M5 f1 hS1 q1 => wp_neg (show ¬ (1 : Int) = 0 by decide) ?_))
  rw [if_pos d, if_neg d2] at kE kO
  generalize decide (pkN B n p = 111) = w at kE kO hS1
  try dsimp only
  refine wp_obnd (w29 (by decide) hS1 (fun e1 hS2 => wp_neg (show ¬ (1 : Int) = 0 by decide) ?_) (fun e1 M6 k1 k2 k3 => wp_pos rfl (kE (-1000 - (p + 1 : Nat)) M6 (by rw [if_neg e1]) (f1.trans k1.c) (hS1.five k1) (by rw [k3]; omega))))
  try dsimp only
  rw [if_pos e1] at kE kO
  have hp2 := hS2.pn
  have f2 : frC r M (ms M5 r 3 (((p + 1 : Nat) : Int) + 1)) := f1.trans (frC.st (Or.inl rfl))
  have q2 : txQ l (ms M5 r 3 (((p + 1 : Nat) : Int) + 1)) r q := q1.to (ms_i (by decide)) (ms_a (by omega)) (ms_a (by omega)) (fun i _ => cd_st)
  generalize ms M5 r 3 (((p + 1 : Nat) : Int) + 1) = M6 at hS2 f2 q2 ⊢
  refine wp_obnd (r_condD hn M6 (p + 1 + 1) q _ hS2 ⟨fun e M7 g1 g2 g3 => ?_, fun p3 s q3 M7 g1 g2 g3 g4 g5 g6 g7 g8 g9 => ?_⟩)
  · refine wp_pos rfl (kE e M7 ?_ (f2.trans g2.c) (hS2.five g2) g3)
    rw [show p + 2 = p + 1 + 1 by omega, g1]
  · have hok := ok_condD (B := B) (wk := w) (d := 5) hn hp2
    have hp3 := hok.1.2 p3 s g1
    have hS3 : tS r n B w M7 p3 q3 := hS2.fr g2 g3 g4 hp3.2.1 (by omega)
    rw [show p + 2 = p + 1 + 1 by omega, g1] at kE kO
    dsimp only at kE kO
    try dsimp only
    refine wp_neg (by decide) ?_
    refine wp_obnd (w29 (by decide) hS3 (fun e2 hS4 => wp_neg (show ¬ (1 : Int) = 0 by decide) ?_) (fun e2 M8 k1 k2 k3 => wp_pos rfl (kE (-1000 - (p3 : Nat)) M8 (by rw [if_neg e2]) ((f2.trans g2.c).trans k1.c) (hS3.five k1) (by rw [k3]; omega))))
    try dsimp only
    rw [if_pos e2] at kO
    have f4 : frC r M (ms M7 r 3 ((p3 : Int) + 1)) := (f2.trans g2.c).trans (frC.st (Or.inl rfl))
    have q4 : txQ l (ms M7 r 3 ((p3 : Int) + 1)) r q := q2.to ((ms_i (by decide)).trans (g2.2 0 (by decide) (by decide) (by decide))) ((ms_a (by omega)).trans (g2.1 _ (by omega) (by omega) (by omega))) ((ms_a (by omega)).trans (g2.1 _ (by omega) (by omega) (by omega))) (fun i hi => cd_st.trans (g7 i hi))
    have hk4 : okC (cd r (ms M7 r 3 ((p3 : Int) + 1))) q q3 := ok_cg g8 (fun i _ _ => cd_st)
    have hg4 : cG (cd r (ms M7 r 3 ((p3 : Int) + 1))) q q3 s := cG.cg g9 g5 (fun i _ _ => cd_st)
    generalize ms M7 r 3 ((p3 : Int) + 1) = M8 at hS4 f4 q4 hk4 hg4 ⊢
    exact wp_bind (w250 hS4 q4 d2 g5 hk4 hg4 (hok.2 p3 s g1) hp3.2.2 (fun M2 z1 z2 z3 => kO (p3 + 1) (w, s) q3 M2 rfl (f4.trans z1) z2 z3))
theorem clP_b {p len p2 : Nat} {x : Bool × Sem} (h : clP B n p len = .inr (p2, x)) (hn : n ≤ 160) : p2 ≤ n ∧ len < 12 := by
  unfold clP at h
  split at h
  · split at h
    · cases h
    · split at h
      · split at h
        · cases h
        · split at h
          · rename_i c2
            have := pkI_ c2 (by decide)
            injection h with h
            injection h with h1 h2
            omega
          · cases h
      · cases h
  · cases h
theorem w25 {M : Mm} {P : Int × Mm → Prop} (hr : isTx r) (hn1 : 1 ≤ n) (hn : n ≤ 160) (h5 : M r 5 = 0 ∨ M r 5 = 1)
    (kE : ∀ (e : Int) (M2 : Mm), clsL (M 133) n 13 0 [] = .inl e → (∀ b, (b < r ∨ r + 5 < b) → M2 b = M b) → (M2 r 5 = 0 ∨ M2 r 5 = 1) → P (e, M2))
    (kO : ∀ (l : List (Bool × Sem)) (M2 : Mm), clsL (M 133) n 13 0 [] = .inr l → (∀ b, (b < r ∨ r + 5 < b) → M2 b = M b) → (M2 r 5 = 0 ∨ M2 r 5 = 1) → txV l M2 r → P ((l.length : Int), M2)) : Wp (f25 r (n : Int) M) P := by
  have hlt : ¬ 133 = r + 1 ∧ r ≤ 135 := by rcases hr with rfl | rfl <;> decide
  unfold f25
  refine wp_bind (w6 (wp_bind (w6 ?_)))
  rw [show min (n : Int) (min 200 160) = n by omega]
  refine wp_mlet ?_
  rw [ms_v]
  refine wp_gd ⟨hlt.1, by decide, by decide, by omega, by omega, by omega⟩ (wp_mlet (wp_mlet (wp_mlet (wp_mlet (wp_mlet ?_)))))
  rw [Int.toNat_natCast]
  have c1 : ∀ b, (b < r ∨ r + 5 < b) → ms (ms (ms (ms (cpym (ms M r 4 (n : Int)) 133 0 (r + 1) 0 n) r 0 0) r 1 0) r 2 0) r 3 0 b = M b := fun b hb => by
    rw [ms_a (by omega), ms_a (by omega), ms_a (by omega), ms_a (by omega), cpy_a (by omega), ms_a (by omega)]
  have c2 : ∀ j, j ≠ 0 → j ≠ 1 → j ≠ 2 → j ≠ 3 → j ≠ 4 → ms (ms (ms (ms (cpym (ms M r 4 (n : Int)) 133 0 (r + 1) 0 n) r 0 0) r 1 0) r 2 0) r 3 0 r j = M r j := fun j h0 h1 h2 h3 h4 => by
    rw [ms_i h3, ms_i h2, ms_i h1, ms_i h0, cpy_a (by omega), ms_i h4]
  have c3 : ∀ i, i < n → ms (ms (ms (ms (cpym (ms M r 4 (n : Int)) 133 0 (r + 1) 0 n) r 0 0) r 1 0) r 2 0) r 3 0 (r + 1) i = M 133 i := fun i hi => by
    rw [ms_a (by omega), ms_a (by omega), ms_a (by omega), ms_a (by omega), cpy_v hi, ms_a (by omega)]
  have c4 : ms (ms (ms (ms (cpym (ms M r 4 (n : Int)) 133 0 (r + 1) 0 n) r 0 0) r 1 0) r 2 0) r 3 0 r 3 = 0 := ms_v
  have c5 : ms (ms (ms (ms (cpym (ms M r 4 (n : Int)) 133 0 (r + 1) 0 n) r 0 0) r 1 0) r 2 0) r 3 0 r 2 = 0 := by rw [ms_i (by decide), ms_v]
  have c6 : ms (ms (ms (ms (cpym (ms M r 4 (n : Int)) 133 0 (r + 1) 0 n) r 0 0) r 1 0) r 2 0) r 3 0 r 0 = 0 := by rw [ms_i (by decide), ms_i (by decide), ms_i (by decide), ms_v]
  have c7 : ms (ms (ms (ms (cpym (ms M r 4 (n : Int)) 133 0 (r + 1) 0 n) r 0 0) r 1 0) r 2 0) r 3 0 r 4 = n := by rw [ms_i (by decide), ms_i (by decide), ms_i (by decide), ms_i (by decide), cpy_a (by omega), ms_v]
  generalize ms (ms (ms (ms (cpym (ms M r 4 (n : Int)) 133 0 (r + 1) 0 n) r 0 0) r 1 0) r 2 0) r 3 0 = M5 at c1 c2 c3 c4 c5 c6 c7 ⊢
  unfold f25_52
  let I : Nat → Int → Mm → Prop := fun k c M2 => ∃ (p q : Nat) (l : List (Bool × Sem)) (w : Bool), c = l.length ∧ l.length + k = 13 ∧ l.length ≤ 12 ∧ tS r n (M 133) w M2 p q ∧ txQ l M2 r q ∧ (∀ b, (b < r ∨ r + 5 < b) → M2 b = M b) ∧ clsL (M 133) n k p l = clsL (M 133) n 13 0 []
  refine wp_lp2 I 13 (by omega) ⟨0, 0, [], decide (M r 5 = 1), rfl, rfl, by decide, ⟨c4, c7, c5, ?_, c3, by omega, by omega, hn⟩, ⟨c6, by decide, fun _ => 0, rfl, rfl, fun j x hx => by cases hx⟩, c1, rfl⟩ ?_
  · rw [c2 5 (by decide) (by decide) (by decide) (by decide) (by decide)]
    rcases h5 with h5 | h5 <;> rw [h5] <;> rfl
  rintro k c M2 ⟨p, q, l, w, rfl, b1, b2, b3, b4, b5, b6⟩
  try dsimp only
  unfold lb25_52
  obtain ⟨k, rfl⟩ : ∃ k2, k = k2 + 1 := ⟨k - 1, by omega⟩
  rw [cls_eq] at b6
  refine wp_neg (by omega) (wcl (E := fun M => oinr (some ((M r 1), M))) b3 b4 (fun e M3 g1 g2 g3 g4 => ?_) (fun p2 x q2 M3 g1 g2 g3 g4 => ?_))
  · rw [g1] at b6
    refine wp_o (wp_some ?_)
    try dsimp only
    rw [g4]
    exact kE e M3 b6.symm (fun b hb => (g2 b (by omega)).trans (b5 b hb)) g3
  · rw [g1] at b6
    have hb6 : (if p2 = n then .inr (l ++ [x]) else if pkN (M 133) n p2 = 59 then clsL (M 133) n k (p2 + 1) (l ++ [x]) else .inl (-1000 - (p2 : Nat))) = clsL (M 133) n 13 0 [] := b6
    have hp2 := clP_b g1 hn
    have hlen : (l ++ [x]).length = l.length + 1 := by rw [List.length_append]; rfl
    have f3 : ∀ b, (b < r ∨ r + 5 < b) → M3 b = M b := fun b hb => (g2 b (by omega)).trans (b5 b hb)
    try dsimp only
    refine wp_ite (fun d => wp_o (wp_some ?_)) (fun d => wp_obnd (w29 (by decide) g3 (fun e1 hS2 => wp_neg (show ¬ (1 : Int) = 0 by decide) ?_) (fun e1 M4 k1 k2 k3 => wp_pos rfl (wp_o (wp_some ?_)))))
    · rw [g3.pP, g3.nP] at d
      rw [if_pos (by omega)] at hb6
      rw [g4.1]
      exact kO _ M3 hb6.symm f3 (g3.five frT.refl) (g4.V (by have := g3.qp; omega))
    · rw [g3.pP, g3.nP] at d
      rw [if_neg (by omega), if_pos e1] at hb6
      refine wp_gd (by omega) (wp_i2 k (by omega) ⟨p2 + 1, q2, l ++ [x], x.1, by omega, by omega, by omega, hS2, g4.to (ms_i (by decide)) (ms_a (by omega)) (ms_a (by omega)) (fun i _ => cd_st), fun b hb => (ms_a (by omega)).trans (f3 b hb), hb6⟩)
    · rw [g3.pP, g3.nP] at d
      rw [if_neg (by omega), if_neg e1] at hb6
      dsimp only
      rw [k3]
      exact kE (-1000 * 1 - p2) M4 (by rw [← hb6]; rfl) (fun b hb => (k1.c b (by omega)).trans (f3 b hb)) (g3.five k1)
end RD3
