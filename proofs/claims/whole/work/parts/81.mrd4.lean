/-- behind a piece, at place q -/
def PB (n q : Nat) (M : Mm) (P : Mm → Prop) : Prop := Wp (f94_69 1 M) (Sum.elim (fun s => Wp (iter (fun s : Int × Mm => lb94_47 s.1 s.2) (n - q + 3) s) P) P)
/-- ahead of a piece, at place p -/
def PC (n p : Nat) (M : Mm) (P : Mm → Prop) : Prop := Wp (iter (fun s : Mm => lb152_0 s) (n - p + 2) M) (fun M9 => PB n p M9 P)
def opC (ha ho : Bool) : List Int := (if ha then [38] else []) ++ (if ho then [124] else [])
def cbA (ha : Bool) (sA s : Sem) : Sem := if ha then andS sA s else s
def cbO (ho : Bool) (sO s : Sem) : Sem := if ho then orS sO s else s
def pCn (C : Nat → Int × Int) (wk : Bool) (c c2 : Nat) (ha : Bool) (sA : Sem) (ho : Bool) (sO : Sem) : Prop := ∃ m, c ≤ m ∧ m ≤ c2 ∧ (if ho then mG C wk c m sO true else c = m) ∧ (if ha then mG C wk m c2 sA true else m = c2)
def pF (C : Nat → Int × Int) (wk : Bool) (c c2 : Nat) (ha : Bool) (sA : Sem) (ho : Bool) (sO s : Sem) : Prop := ∃ m, pCn C wk c m ha sA ho sO ∧ m ≤ c2 ∧ mG C wk m c2 s true
def notN : Nat → Sem → Sem
  | 0, s => s
  | j + 1, s => notN j (notS s)
def topN (S : List Int) : Prop := ∃ x r, S = x :: r ∧ (x = 40 ∨ x = 38 ∨ x = 124)
section MR4
variable {M0 M : Mm} {c0 n p q o c c2 : Nat} {ks S0 : List Int} {B : Nat → Int} {wk : Bool} {ha ho : Bool} {sA sO s : Sem} {P : Mm → Prop} {C C2 : Nat → Int × Int}
theorem pCn.cg (h : pCn C wk c c2 ha sA ho sO) (e : ∀ i, i < c2 → C2 i = C i) : pCn C2 wk c c2 ha sA ho sO := by
  obtain ⟨m, h1, h2, h3, h4⟩ := h
  refine ⟨m, h1, h2, ?_, ?_⟩
  · cases ho with
    | false => exact h3
    | true => exact mG.cg h3 h1 (fun i _ q2 => e i (by omega))
  · cases ha with
    | false => exact h4
    | true => exact mG.cg h4 h2 (fun i _ q2 => e i (by omega))
theorem PB.mono {p q : Nat} (h : PB n q M P) (hpq : p ≤ q) : PB n p M P := by
  refine Wp.mono h (fun r hr => ?_)
  match r, hr with
  | .inl s, hr => exact it_mono (by omega) hr
  | .inr u, hr => exact hr
theorem er_94 {e x : Int} {k : Nat} (h : mB M0 e M) (he : e < 0) (kk : P M) : Wp (iter (fun s : Int × Mm => lb94_47 s.1 s.2) (k + 1) (x, M)) P := by
  refine it_step ?_
  try dsimp only
  unfold lb94_47
  exact wp_bind (w124b (by rw [h.2.1]; exact he) (wp_pos rfl (wp_o (wp_some kk))))
theorem er_PB {e : Int} (h : mB M0 e M) (he : e < 0) (kk : P M) : PB n q M P := by
  unfold PB f94_69
  exact wp_bind (w124b (by rw [h.2.1]; exact he) (wp_pos rfl (wp_some (er_94 (k := n - q + 2) h he kk))))
theorem h_PC (h : mW M0 c0 n p o ks c M) (hn : n ≤ 160) (k : PC n p M P) : Wp (iter (fun s : Int × Mm => lb94_47 s.1 s.2) (n - p + 4) (1, M)) P := by
  refine it_step (k := n - p + 3) ?_
  try dsimp only
  unfold lb94_47
  refine wp_bind (w124g h.g (wp_neg (by decide) (wp_pos h.ov (wp_neg (by decide) (wp_bind ?_)))))
  unfold f152 f152_0
  exact it_lp (by omega) k
theorem h_PB (h : mW M0 c0 n q o ks c M) (k : PB n q M P) : Wp (iter (fun s : Int × Mm => lb94_47 s.1 s.2) (n - q + 4) (0, M)) P := by
  refine it_step (k := n - q + 3) ?_
  try dsimp only
  unfold lb94_47
  refine wp_bind (w124g h.g (wp_neg (by decide) (wp_pos h.ov (wp_pos rfl ?_))))
  have e : f94_69 0 M = f94_69 1 M := by
    unfold f94_69 f124
    rw [if_pos h.g]
    rfl
  rw [e]
  exact k
/-- no such byte behind a piece -/
theorem er_PB2 (h0 : mH n B wk M0) (h : mW M0 c0 n q o ks c M) (hq : ¬ (pkN B n q = 38 ∨ pkN B n q = 124 ∨ pkN B n q = 41)) (kk : ∀ M2 : Mm, mB M0 (-1000 * 1 - q) M2 → P M2) : PB n q M P := by
  have hn := h0.n160
  have hpn := h.pn
  unfold PB f94_69
  refine wp_bind (w124g h.g (wp_neg (by decide) (wp_obnd ?_)))
  unfold f114
  refine wp_bind (w120 h0 h.f h.pP ?_)
  refine wp_neg (fun z => hq (Or.inl ((hr_eq h0 (by decide)).mp z))) (wp_neg (fun z => hq (Or.inr (Or.inl ((hr_eq h0 (by decide)).mp z)))) (wp_neg (fun z => hq (Or.inr (Or.inr ((hr_eq h0 (by decide)).mp z)))) ?_))
  rw [h.pP]
  exact wp_bind (w190 h.f h.g h.ib (by decide) (by omega) (fun M2 q1 q2 q3 => wp_some (wp_some (er_94 (k := n - q + 2) q1 (by omega) (kk M2 q1)))))
theorem w138s {x x1 : Int} {P : Mm ⊕ Mm → Prop} (hn : n ≤ 160) (h : mW M0 c0 n p o (x :: ks) c M) (k : ∀ M2 : Mm, mW M0 c0 n p o ks (c + 1) M2 → (∀ i, i < c → cm3 M2 i = cm3 M i) → cm3 M2 c = (x, 0) → P (.inl M2)) : Wp (f138_22 x1 M) P := by
  have hcp := h.cp
  have hpn := h.pn
  rw [List.length_cons] at hcp
  unfold f138_22
  refine wp_bind (w179 hn h (wp_bind (w103 h.g h.cP (by omega) ?_)))
  rw [emm_j (by decide : (50 : Nat) ≠ 48), h.l, List.length_cons]
  obtain ⟨q1, q2, q3⟩ := h.ep (y := x) (v := ((ks.length + 1 : Nat) : Int) - 1) (by omega)
  exact wp_gd (by omega) (wp_mlet (wp_some (k _ q1 q2 q3)))
theorem w138F (hn : n ≤ 160) (h : mW M0 c0 n q o (opC ha ho ++ 40 :: S0) c2 M) (hp : pF (cm3 M) wk c c2 ha sA ho sO s) (hok : okM (cm3 M) wk c c2) (k : ∀ (M2 : Mm) (c3 : Nat), mW M0 c0 n q o (opC false ho ++ 40 :: S0) c3 M2 → c2 ≤ c3 → (∀ i, i < c2 → cm3 M2 i = cm3 M i) → pCn (cm3 M2) wk c c3 true (cbA ha sA s) ho sO → okM (cm3 M2) wk c c3 → P M2) : Wp (f138 0 M) P := by
  obtain ⟨m, ⟨m1, e1, e2, e3, e4⟩, e5, e6⟩ := hp
  unfold f138 f138_0
  refine it_lp (k := 2) (by decide) ?_
  have stop : ∀ (j : Nat) (M2 : Mm) (c3 : Nat), mW M0 c0 n q o (opC false ho ++ 40 :: S0) c3 M2 → P M2 → Wp (iter (fun s : Mm => lb138_0 0 s) (j + 1) M2) P := fun j M2 c3 q1 q2 => by
    refine it_step ?_
    try dsimp only
    unfold lb138_0
    cases ho with
    | false => exact wp_bind (w179 hn (x := 40) (ks := S0) q1 (wp_neg (by decide) (wp_pos rfl (wp_o (wp_some q2)))))
    | true => exact wp_bind (w179 hn (x := 124) (ks := 40 :: S0) q1 (wp_neg (by decide) (wp_pos rfl (wp_o (wp_some q2)))))
  cases ha with
  | false =>
    have e4' : m1 = m := e4
    subst e4'
    exact stop 1 M c2 h (k M c2 h (Nat.le_refl _) (fun _ _ => rfl) ⟨m1, e1, e5, e3, e6⟩ hok)
  | true =>
    refine it_step ?_
    try dsimp only
    unfold lb138_0
    refine wp_bind (w179 hn (x := 38) (ks := opC false ho ++ 40 :: S0) h (wp_pos rfl (w138s hn (x := 38) (ks := opC false ho ++ 40 :: S0) h (fun M3 q1 q2 q3 => ?_))))
    refine stop 0 M3 (c2 + 1) q1 (k M3 (c2 + 1) q1 (by omega) q2 ⟨m1, e1, by omega, ?_, m_and (mG.cg e4 e2 (fun i _ h2 => q2 i (by omega))) (mG.cg e6 e5 (fun i _ h2 => q2 i h2)) e2 e5 q3⟩ (okM_snoc hok q2 q3 (by omega)))
    cases ho with
    | false => exact e3
    | true => exact mG.cg e3 e1 (fun i _ h2 => q2 i (by omega))
theorem w138T (hn : n ≤ 160) (h : mW M0 c0 n q o (opC ha ho ++ 40 :: S0) c2 M) (hp : pF (cm3 M) wk c c2 ha sA ho sO s) (hok : okM (cm3 M) wk c c2) (k : ∀ (M2 : Mm) (c3 : Nat), mW M0 c0 n q o (40 :: S0) c3 M2 → c2 ≤ c3 → (∀ i, i < c2 → cm3 M2 i = cm3 M i) → mG (cm3 M2) wk c c3 (cbO ho sO (cbA ha sA s)) true → okM (cm3 M2) wk c c3 → P M2) : Wp (f138 1 M) P := by
  obtain ⟨m, ⟨m1, e1, e2, e3, e4⟩, e5, e6⟩ := hp
  unfold f138 f138_0
  refine it_lp (k := 3) (by decide) ?_
  have stop : ∀ (j : Nat) (M2 : Mm) (c3 : Nat), mW M0 c0 n q o (40 :: S0) c3 M2 → P M2 → Wp (iter (fun s : Mm => lb138_0 1 s) (j + 1) M2) P := fun j M2 c3 q1 q2 => by
    refine it_step ?_
    try dsimp only
    unfold lb138_0
    exact wp_bind (w179 hn q1 (wp_neg (by decide) (wp_neg (by decide) (wp_bind (w179 hn q1 (wp_neg (by decide) (wp_o (wp_some q2))))))))
  have orr : ∀ (j : Nat) (M2 : Mm) (c3 : Nat) (s1 : Sem), s1 = cbA ha sA s → mW M0 c0 n q o (opC false ho ++ 40 :: S0) c3 M2 → c2 ≤ c3 → (∀ i, i < c2 → cm3 M2 i = cm3 M i) → mG (cm3 M2) wk m1 c3 s1 true → okM (cm3 M2) wk c c3 → Wp (iter (fun s : Mm => lb138_0 1 s) (j + 2) M2) P := fun j M2 c3 s1 g0 g1 g2 g3 g5 g6 => by
    cases ho with
    | false =>
      have e3' : c = m1 := e3
      subst e3'
      refine stop (j + 1) M2 c3 g1 (k M2 c3 g1 g2 g3 ?_ g6)
      rw [← g0]
      exact g5
    | true =>
      refine it_step ?_
      try dsimp only
      unfold lb138_0
      refine wp_bind (w179 hn (x := 124) (ks := 40 :: S0) g1 (wp_neg (by decide) (wp_neg (by decide) (wp_bind (w179 hn (x := 124) (ks := 40 :: S0) g1 (wp_pos rfl (w138s hn (x := 124) (ks := 40 :: S0) g1 (fun M3 q1 q2 q3 => ?_))))))))
      refine stop j M3 (c3 + 1) q1 (k M3 (c3 + 1) q1 (by omega) (fun i hi => (q2 i (by omega)).trans (g3 i hi)) ?_ (okM_snoc g6 q2 q3 (by omega)))
      rw [← g0]
      exact m_or (mG.cg e3 e1 (fun i _ h2 => (q2 i (by omega)).trans (g3 i (by omega)))) (g5.cg (by omega) (fun i _ h2 => q2 i h2)) e1 (by omega) q3
  cases ha with
  | false =>
    have e4' : m1 = m := e4
    subst e4'
    exact orr 1 M c2 s rfl h (Nat.le_refl _) (fun _ _ => rfl) e6 hok
  | true =>
    refine it_step ?_
    try dsimp only
    unfold lb138_0
    refine wp_bind (w179 hn (x := 38) (ks := opC false ho ++ 40 :: S0) h (wp_pos rfl (w138s hn (x := 38) (ks := opC false ho ++ 40 :: S0) h (fun M3 q1 q2 q3 => ?_))))
    exact orr 0 M3 (c2 + 1) (andS sA s) rfl q1 (by omega) q2 (m_and (mG.cg e4 e2 (fun i _ h2 => q2 i (by omega))) (mG.cg e6 e5 (fun i _ h2 => q2 i h2)) e2 e5 q3) (okM_snoc hok q2 q3 (by omega))
theorem mW.op {o2 : Nat} {v : Int} (h : mW M0 c0 n p o ks c M) (hv : v = o2) : mW M0 c0 n p o2 ks c (ms M 142 49 v) := ⟨h.f.trans (frN.st (by omega)), fun i hi => c3_st.trans (h.c0P i hi), h.lc, (ms_i (by decide)).trans h.pP, (ms_i (by decide)).trans h.g, (ms_i (by decide)).trans h.cP, by rw [ms_v, hv], (ms_i (by decide)).trans h.l, by rw [ms_a (by decide)]; exact h.s, h.pn, h.cp, (ms_i (by decide)).trans h.ov, (ms_i (by decide)).trans h.ib⟩
/-- the nots that wait -/
theorem w104i (hn : n ≤ 160) {x : Int} {r : List Int} (hx : x ≠ 33) : ∀ (j : Nat) (o c2 : Nat) (s : Sem) (M : Mm), j ≤ o → o ≤ 6 → mW M0 c0 n q o (List.replicate j 33 ++ x :: r) c2 M → c ≤ c2 → mG (cm3 M) wk c c2 s true → okM (cm3 M) wk c c2 → (∀ (M2 : Mm) (c3 : Nat), mW M0 c0 n q (o - j) (x :: r) c3 M2 → c2 ≤ c3 → (∀ i, i < c2 → cm3 M2 i = cm3 M i) → mG (cm3 M2) wk c c3 (notN j s) true → okM (cm3 M2) wk c c3 → P M2) → Wp (iter (fun s : Mm => lb104_0 s) (j + 1) M) P
  | 0, o, c2, s, M, hj, ho, h, hc, hg, hok, k => by
    refine it_step ?_
    try dsimp only
    unfold lb104_0
    exact wp_bind (w179 hn (x := x) (ks := r) h (wp_neg hx (wp_o (wp_some (k M c2 h (Nat.le_refl _) (fun _ _ => rfl) hg hok)))))
  | j + 1, o, c2, s, M, hj, ho, h, hc, hg, hok, k => by
    have h' : mW M0 c0 n q o (33 :: (List.replicate j 33 ++ x :: r)) c2 M := h
    have hcp := h'.cp
    have hpn := h'.pn
    rw [List.length_cons] at hcp
    refine it_step ?_
    try dsimp only
    unfold lb104_0
    refine wp_bind (w179 hn h' (wp_pos rfl (wp_bind (w103 h'.g h'.cP (by omega) ?_))))
    rw [emm_j (by decide : (50 : Nat) ≠ 48), h'.l, List.length_cons]
    obtain ⟨q1, q2, q3⟩ := h'.ep (y := 2) (v := (((List.replicate j 33 ++ x :: r).length + 1 : Nat) : Int) - 1) (by omega)
    refine wp_gd (by omega) (wp_mlet ?_)
    rw [q1.oP]
    refine wp_gd (by omega) (wp_mlet (wp_some ?_))
    refine w104i hn hx j (o - 1) (c2 + 1) (notS s) _ (by omega) (by omega) (q1.op (by omega)) (by omega) (mG.cg (m_not (mG.cg hg hc (fun i _ h2 => q2 i h2)) hc q3) (by omega) (fun i _ _ => c3_st)) (okM_cg (okM_snoc hok q2 q3 (by omega)) (fun i _ _ => c3_st)) (fun M2 c3 k1 k2 k3 k4 k5 => k M2 c3 ?_ (by omega) (fun i hi => (k3 i (by omega)).trans (c3_st.trans (q2 i hi))) k4 k5)
    rw [show o - (j + 1) = o - 1 - j by omega]
    exact k1
theorem w104 (hn : n ≤ 160) {j : Nat} {S : List Int} (hS : topN S) (hj : j ≤ o) (ho : o ≤ 6) (h : mW M0 c0 n q o (List.replicate j 33 ++ S) c2 M) (hc : c ≤ c2) (hg : mG (cm3 M) wk c c2 s true) (hok : okM (cm3 M) wk c c2) (k : ∀ (M2 : Mm) (c3 : Nat), mW M0 c0 n q (o - j) S c3 M2 → c2 ≤ c3 → (∀ i, i < c2 → cm3 M2 i = cm3 M i) → mG (cm3 M2) wk c c3 (notN j s) true → okM (cm3 M2) wk c c3 → P M2) : Wp (f104 M) P := by
  obtain ⟨x, r, rfl, hx⟩ := hS
  unfold f104 f104_0
  exact it_lp (k := j + 1) (by omega) (w104i hn (by omega) j o c2 s M hj ho h hc hg hok k)
def pcP (M0 : Mm) (c0 n : Nat) (B : Nat → Int) (wk : Bool) (o : Nat) (f : Nat → Rs) : Prop := ∀ (j p : Nat) (S : List Int) (c : Nat) (M : Mm) (P : Mm → Prop), mW M0 c0 n p o (List.replicate j 33 ++ S) c M → j ≤ o → topN S →
  (∀ (e : Int) (M2 : Mm), f p = .inl e → mB M0 e M2 → P M2) →
  (∀ (q : Nat) (s : Sem) (M2 : Mm), f p = .inr (q, s) → ¬ (pkN B n q = 38 ∨ pkN B n q = 124 ∨ pkN B n q = 41) → mB M0 (-1000 * 1 - q) M2 → P M2) →
  (∀ (q : Nat) (s : Sem) (c2 : Nat) (M2 : Mm), f p = .inr (q, s) → (pkN B n q = 38 ∨ pkN B n q = 124 ∨ pkN B n q = 41) → mW M0 c0 n q (o - j) S c2 M2 → c ≤ c2 → (∀ i, i < c → cm3 M2 i = cm3 M i) → mG (cm3 M2) wk c c2 (notN j s) true → okM (cm3 M2) wk c c2 → PB n q M2 P) → PC n p M P
def cdP (M0 : Mm) (c0 n : Nat) (B : Nat → Int) (wk : Bool) (o : Nat) (f : Nat → Rs) : Prop := ∀ (p : Nat) (S0 : List Int) (c : Nat) (M : Mm) (P : Mm → Prop), mW M0 c0 n p o (40 :: S0) c M →
  (∀ (e : Int) (M2 : Mm), f p = .inl e → mB M0 e M2 → P M2) →
  (∀ (q : Nat) (s : Sem) (M2 : Mm), f p = .inr (q, s) → pkN B n q ≠ 41 → mB M0 (-1000 * 1 - q) M2 → P M2) →
  (∀ (q : Nat) (s : Sem) (ha ho : Bool) (sA sO sF : Sem) (c2 : Nat) (M2 : Mm), f p = .inr (q, s) → pkN B n q = 41 → s = cbO ho sO (cbA ha sA sF) → mW M0 c0 n q o (opC ha ho ++ 40 :: S0) c2 M2 → c ≤ c2 → (∀ i, i < c → cm3 M2 i = cm3 M i) → pF (cm3 M2) wk c c2 ha sA ho sO sF → okM (cm3 M2) wk c c2 → PB n q M2 P) → PC n p M P
theorem m_condL {pc : Nat → Rs} (h0 : mH n B wk M0) (ho6 : o ≤ 6) (hF : pcP M0 c0 n B wk o pc) (hok : ∀ p, p ≤ n → okB n wk p (pc p)) (Mb : Mm) :
    ∀ (k p : Nat) (ha : Bool) (sA : Sem) (ho : Bool) (sO : Sem) (c1 : Nat) (M : Mm) (P : Mm → Prop), n < k + p → mW M0 c0 n p o (opC ha ho ++ 40 :: S0) c1 M → c ≤ c1 → (∀ i, i < c → cm3 M i = cm3 Mb i) → pCn (cm3 M) wk c c1 ha sA ho sO → okM (cm3 M) wk c c1 →
      (∀ (e : Int) (M2 : Mm), condL B n pc k p ha sA ho sO = .inl e → mB M0 e M2 → P M2) →
      (∀ (q : Nat) (s : Sem) (M2 : Mm), condL B n pc k p ha sA ho sO = .inr (q, s) → pkN B n q ≠ 41 → mB M0 (-1000 * 1 - q) M2 → P M2) →
      (∀ (q : Nat) (s : Sem) (ha2 ho2 : Bool) (sA2 sO2 sF : Sem) (c2 : Nat) (M2 : Mm), condL B n pc k p ha sA ho sO = .inr (q, s) → pkN B n q = 41 → s = cbO ho2 sO2 (cbA ha2 sA2 sF) → mW M0 c0 n q o (opC ha2 ho2 ++ 40 :: S0) c2 M2 → c ≤ c2 → (∀ i, i < c → cm3 M2 i = cm3 Mb i) → pF (cm3 M2) wk c c2 ha2 sA2 ho2 sO2 sF → okM (cm3 M2) wk c c2 → PB n q M2 P) → PC n p M P
  | 0, p, ha, sA, ho, sO, c1, M, P, hk, h, _, _, _, _, _, _, _ => by
    have := h.pn
    omega
  | k + 1, p, ha, sA, ho, sO, c1, M, P, hk, h, hc, hb, hp, hok1, kE, kB, kO => by
    have hn := h0.n160
    rw [condL] at kE kB kO
    have hT : topN (opC ha ho ++ 40 :: S0) := by
      cases ha with
      | true => exact ⟨38, opC false ho ++ 40 :: S0, rfl, Or.inr (Or.inl rfl)⟩
      | false =>
        cases ho with
        | true => exact ⟨124, 40 :: S0, rfl, Or.inr (Or.inr rfl)⟩
        | false => exact ⟨40, S0, rfl, Or.inl rfl⟩
    have eqn : ∀ (q : Nat) (s : Sem), sb (.inr (q, s) : Rs) (fun q s => if pkN B n q = 38 then condL B n pc k (q + 1) true (if ha then andS sA s else s) ho sO
    else if pkN B n q = 124 then condL B n pc k (q + 1) false zS true (if ho then orS sO (if ha then andS sA s else s) else if ha then andS sA s else s)
    else .inr (q, if ho then orS sO (if ha then andS sA s else s) else if ha then andS sA s else s)) = (if pkN B n q = 38 then condL B n pc k (q + 1) true (cbA ha sA s) ho sO
    else if pkN B n q = 124 then condL B n pc k (q + 1) false zS true (cbO ho sO (cbA ha sA s))
    else .inr (q, cbO ho sO (cbA ha sA s))) := fun q s => rfl
    refine hF 0 p _ c1 M P h (Nat.zero_le _) hT (fun e M2 q1 q2 => kE e M2 (by rw [q1]; rfl) q2) (fun q s M2 q1 q2 q3 => kB q (cbO ho sO (cbA ha sA s)) M2 ?_ (fun z => q2 (Or.inr (Or.inr z))) q3) (fun q s c2 M2 q1 q2 q3 q4 q5 q6 q7 => ?_)
    · rw [q1, eqn, if_neg (fun z => q2 (Or.inl z)), if_neg (fun z => q2 (Or.inr (Or.inl z)))]
    · have hpq := (hok p h.pn).1.2 q s q1
      rw [q1, eqn] at kE kB kO
      have q3' : mW M0 c0 n q o (opC ha ho ++ 40 :: S0) c2 M2 := q3
      have q6' : mG (cm3 M2) wk c1 c2 s true := q6
      have hpf : pF (cm3 M2) wk c c2 ha sA ho sO s := ⟨c1, hp.cg q5, q4, q6'⟩
      have hok2 : okM (cm3 M2) wk c c2 := okM_app (okM_cg hok1 (fun i _ h2 => q5 i h2)) q7
      have hb2 : ∀ i, i < c → cm3 M2 i = cm3 Mb i := fun i hi => (q5 i (by omega)).trans (hb i hi)
      by_cases d : pkN B n q = 38
      · rw [if_pos d] at kE kB kO
        have hqn := pkI_ d (by decide)
        unfold PB f94_69
        refine wp_bind (w124g q3.g (wp_neg (by decide) (wp_obnd ?_)))
        unfold f114
        refine wp_bind (w120 h0 q3.f q3.pP ?_)
        rw [hr_pk hqn]
        refine wp_pos d ?_
        unfold f114_17
        refine wp_neg (by omega) (wp_bind (w138F hn q3' hpf hok2 (fun M3 c3 g1 g2 g3 g4 g5 => wp_bind (g1.puts hn hqn (fun M4 j1 j2 => wp_some (wp_some ?_))))))
        rw [d] at j1
        have j1' : mW M0 c0 n (q + 1) o (opC true ho ++ 40 :: S0) c3 M4 := j1
        show Wp (iter _ (n - q + 3) _) P
        rw [show n - q + 3 = n - (q + 1) + 4 by omega]
        exact h_PC j1' hn (m_condL h0 ho6 hF hok Mb k (q + 1) true (cbA ha sA s) ho sO c3 M4 P (by omega) j1' (by omega) (fun i hi => (j2 i).trans ((g3 i (by omega)).trans (hb2 i hi))) (g4.cg (fun i _ => j2 i)) (okM_cg g5 (fun i _ _ => j2 i)) kE kB kO)
      · rw [if_neg d] at kE kB kO
        by_cases d2 : pkN B n q = 124
        · rw [if_pos d2] at kE kB kO
          have hqn := pkI_ d2 (by decide)
          unfold PB f94_69
          refine wp_bind (w124g q3.g (wp_neg (by decide) (wp_obnd ?_)))
          unfold f114
          refine wp_bind (w120 h0 q3.f q3.pP ?_)
          rw [hr_pk hqn]
          refine wp_neg d (wp_pos d2 ?_)
          unfold f114_17
          refine wp_pos d2 (wp_bind (w138T hn q3' hpf hok2 (fun M3 c3 g1 g2 g3 g4 g5 => wp_bind (g1.puts hn hqn (fun M4 j1 j2 => wp_some (wp_some ?_))))))
          rw [d2] at j1
          have j1' : mW M0 c0 n (q + 1) o (opC false true ++ 40 :: S0) c3 M4 := j1
          show Wp (iter _ (n - q + 3) _) P
          rw [show n - q + 3 = n - (q + 1) + 4 by omega]
          exact h_PC j1' hn (m_condL h0 ho6 hF hok Mb k (q + 1) false zS true (cbO ho sO (cbA ha sA s)) c3 M4 P (by omega) j1' (by omega) (fun i hi => (j2 i).trans ((g3 i (by omega)).trans (hb2 i hi))) ⟨c3, by omega, Nat.le_refl _, mG.cg g4 (by omega) (fun i _ _ => j2 i), rfl⟩ (okM_cg g5 (fun i _ _ => j2 i)) kE kB kO)
        · rw [if_neg d2] at kO
          exact kO q _ ha ho sA sO s c2 M2 rfl (by omega) rfl q3' (by omega) hb2 hpf hok2
theorem m_cond {pc : Nat → Rs} (h0 : mH n B wk M0) (ho6 : o ≤ 6) (hF : pcP M0 c0 n B wk o pc) (hok : ∀ p, p ≤ n → okB n wk p (pc p)) : cdP M0 c0 n B wk o (fun p => condL B n pc n p false zS false zS) := by
  intro p S0 c M P h kE kB kO
  have hcp := h.cp
  rw [List.length_cons] at hcp
  exact m_condL h0 ho6 hF hok M n p false zS false zS c M P (by omega) h (Nat.le_refl _) (fun _ _ => rfl) ⟨c, Nat.le_refl _, Nat.le_refl _, rfl, rfl⟩ (fun i q1 q2 => by omega) kE kB kO
end MR4
