/-! Shapes stay: an array keeps its kind and its length, an object its class and its number of fields. -/
def qshp (c : qC) : Nat × Nat × Nat := match c with
  | .inl (k, n, .inl _) => (0, k, n)
  | .inl (k, n, .inr (.inl _)) => (1, k, n)
  | .inl (k, n, .inr (.inr (.inl _))) => (2, k, n)
  | .inl (k, n, .inr (.inr (.inr (.inl _)))) => (3, k, n)
  | .inl (k, n, .inr (.inr (.inr (.inr _)))) => (4, k, n)
  | .inr (c, fs) => (5, c, fs.length)
/-- the heap's cells lie below its next number -/
def qWF (h : qH) : Prop := ∀ a c, h.2.2 a = some c → a < h.1
/-- what was there is there, in its shape -/
def qKeep (h g : qH) : Prop := qWF g ∧ ∀ a c, h.2.2 a = some c → ∃ c2, g.2.2 a = some c2 ∧ qshp c2 = qshp c
theorem qKeep.refl {h : qH} (hw : qWF h) : qKeep h h := ⟨hw, fun a c hc => ⟨c, hc, rfl⟩⟩
theorem qKeep.trans {h g f : qH} (a : qKeep h g) (b : qKeep g f) : qKeep h f := ⟨b.1, fun x c hc => by
  obtain ⟨c2, e1, e2⟩ := a.2 x c hc
  obtain ⟨c3, e3, e4⟩ := b.2 x c2 e1
  exact ⟨c3, e3, e4.trans e2⟩⟩
theorem qKeep_set {h : qH} {a : Nat} {c0 c1 : qC} (hw : qWF h) (h0 : h.2.2 a = some c0) (hs : qshp c1 = qshp c0) : qKeep h (qset h a c1) := by
  refine ⟨fun x c hc => ?_, fun x c hc => ?_⟩
  · rcases qup_at hc with ⟨e1, e2⟩ | ⟨e1, e2⟩
    · subst e1
      exact hw _ _ h0
    · exact hw _ _ e2
  · by_cases e : x = a
    · subst e
      rw [h0] at hc
      cases hc
      exact ⟨c1, if_pos rfl, hs⟩
    · exact ⟨c, (if_neg e).trans hc, rfl⟩
theorem qKeep_new {h : qH} {n : Nat} {c1 : qC} (hw : qWF h) : qKeep h (qnew h n c1) := by
  refine ⟨fun x c hc => ?_, fun x c hc => ?_⟩
  · show x < h.1 + 1
    rcases qup_at hc with ⟨e1, e2⟩ | ⟨e1, e2⟩
    · omega
    · have := hw _ _ e2
      omega
  · have := hw _ _ hc
    exact ⟨c, (if_neg (by omega)).trans hc, rfl⟩
theorem qKeep_mul {h : qH} {k N n : Nat} (hw : qWF h) : qKeep h (qmul h k N n) := by
  refine ⟨fun x c hc => ?_, fun x c hc => ?_⟩
  · show x < h.1 + 1 + N
    rcases qup_at hc with ⟨e1, e2⟩ | ⟨e1, e2⟩
    · omega
    · unfold qrow at e2
      split at e2
      · omega
      · have := hw _ _ e2
        omega
  · have := hw _ _ hc
    refine ⟨c, (if_neg (by omega)).trans ?_, rfl⟩
    unfold qrow
    rw [if_neg (by omega)]
    exact hc
set_option maxHeartbeats 4000000 in
theorem qkeepS {d k pc : Nat} {ls : qL} {st : List Value} {h : qH} {g : Nat × qL × List Value × qH} {i : Instr} (hw : qWF h) (hs : qStep d k pc ls st h i = some (.inl g)) : qKeep h g.2.2.2 := by
  unfold qStep at hs
  split at hs
  all_goals try simp only [qgo, qldI, qldL, qldA, qld, qstI, qstL, qstA, qii, qll, qi_1, ql_1, qix, qcallV, qcallS, qcallI, qcpy, qcall, qend, qendL, qendA, qendV, qget, qputf, qnewA, qnewM, qto, qbr] at hs
  all_goals (repeat' split at hs)
  all_goals first
    | (cases hs; done)
    | (cases hs; exact qKeep.refl hw)
    | (cases hs; exact qKeep_new hw)
    | (cases hs; exact qKeep_mul hw)
    | (cases hs; refine qKeep_set hw (by assumption) ?_; simp_all [qshp]; done)
    | skip
theorem qkeepX : ∀ (n d k pc : Nat) (ls : qL) (st : List Value) (h : qH) (r : Option Value) (hF : qH), qWF h → qExec n d k pc ls st h = some (r, hF) → qKeep h hF
  | 0, d, k, pc, ls, st, h, r, hF, hw, hq => by cases hq
  | n + 1, d, k, pc, ls, st, h, r, hF, hw, hq => by
    obtain ⟨i, z, hcd, ⟨g, hs, hq2⟩ | ⟨v, hs, hq2⟩ | ⟨k2, as, r9, d2, l2, v, h2, hs, rfl, hent, hex, hq2⟩⟩ := qexec_inv hq
    · have h1 := qkeepS hw hs
      exact h1.trans (qkeepX n _ _ _ _ _ _ _ _ h1.1 hq2)
    · cases hq2
      exact qKeep.refl hw
    · have h1 := qkeepX n _ _ _ _ _ _ _ _ hw hex
      exact h1.trans (qkeepX n _ _ _ _ _ _ _ _ h1.1 hq2)
theorem qkeepC {d k : Nat} {as : List Value} {h h2 : qH} {v : Option Value} (hw : qWF h) (hc : qCall d k as h (v, h2)) : qKeep h h2 := by
  obtain ⟨d2, l2, rfl, he, n, e⟩ := hc
  exact qkeepX _ _ _ _ _ _ _ _ _ hw e
