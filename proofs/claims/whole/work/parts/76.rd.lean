/-! Reading a text, first object. -/
def frT (r : Nat) (M M2 : Mm) : Prop := (∀ b, b ≠ r → b ≠ r + 2 → b ≠ r + 3 → M2 b = M b) ∧ ∀ j, j ≠ 1 → j ≠ 2 → j ≠ 3 → M2 r j = M r j
def tS (r n : Nat) (B : Nat → Int) (wk : Bool) (M : Mm) (p q : Nat) : Prop := M r 3 = p ∧ M r 4 = n ∧ M r 2 = q ∧ M r 5 = (if wk then 1 else 0) ∧ (∀ i, i < n → M (r + 1) i = B i) ∧ p ≤ n ∧ q ≤ p ∧ n ≤ 160
abbrev Gd : Type := (Nat → Int × Int) → Nat → Nat → Sem → Prop
def tP (r : Nat) (M : Mm) (p q : Nat) (rs : Rs) (G : Gd) (P : Int × Mm → Prop) : Prop :=
  (∀ (e : Int) (M2 : Mm), rs = .inl e → frT r M M2 → M2 r 1 = e → P (0, M2)) ∧
  ∀ (p2 : Nat) (s : Sem) (q2 : Nat) (M2 : Mm), rs = .inr (p2, s) → frT r M M2 → M2 r 3 = p2 → M2 r 2 = q2 → q ≤ q2 → q2 + p ≤ q + p2 → (∀ i, i < q → cd r M2 i = cd r M i) → okC (cd r M2) q q2 → G (cd r M2) q q2 s → P (1, M2)
def rdP (f : Mm → Option (Int × Mm)) (r n : Nat) (B : Nat → Int) (wk : Bool) (sp : Nat → Rs) (G : Gd) : Prop := ∀ (M : Mm) (p q : Nat) (P : Int × Mm → Prop), tS r n B wk M p q → tP r M p q (sp p) G P → Wp (f M) P
def vGn (nd : Nat) : Gd := fun C a b s => vG C a b s nd
def emT (r : Nat) (M : Mm) (q : Nat) (x y : Int) : Mm := ms (ms (ms M (r + 2) q x) (r + 3) q y) r 2 (q + 1)
section RD1
variable {r n p q : Nat} {B : Nat → Int} {wk : Bool} {M M2 M3 : Mm}
theorem frT.refl : frT r M M := ⟨fun _ _ _ _ => rfl, fun _ _ _ _ => rfl⟩
theorem frT.trans (h : frT r M M2) (g : frT r M2 M3) : frT r M M3 := ⟨fun b h1 h2 h3 => (g.1 b h1 h2 h3).trans (h.1 b h1 h2 h3), fun j h1 h2 h3 => (g.2 j h1 h2 h3).trans (h.2 j h1 h2 h3)⟩
theorem frT.st {j : Nat} {v : Int} (hj : j = 1 ∨ j = 2 ∨ j = 3) : frT r M (ms M r j v) := ⟨fun b h1 _ _ => ms_a h1, fun i h1 h2 h3 => ms_i (by omega)⟩
theorem frT.em {x y : Int} : frT r M (emT r M q x y) := ⟨fun b h1 h2 h3 => (ms_a h1).trans ((ms_a h3).trans (ms_a h2)), fun j _ h2 _ => (ms_i h2).trans (by rw [ms_a (by omega), ms_a (by omega)])⟩
theorem tS.fr {p2 q2 : Nat} (h : tS r n B wk M p q) (f : frT r M M2) (h3 : M2 r 3 = p2) (h2 : M2 r 2 = q2) (hp : p2 ≤ n) (hq : q2 ≤ p2) : tS r n B wk M2 p2 q2 :=
  ⟨h3, (f.2 4 (by decide) (by decide) (by decide)).trans h.2.1, h2, (f.2 5 (by decide) (by decide) (by decide)).trans h.2.2.2.1, fun i hi => by rw [f.1 (r + 1) (by omega) (by omega) (by omega)]; exact h.2.2.2.2.1 i hi, hp, hq, h.2.2.2.2.2.2.2⟩
theorem tS.pP (h : tS r n B wk M p q) : M r 3 = p := h.1
theorem tS.nP (h : tS r n B wk M p q) : M r 4 = n := h.2.1
theorem tS.qP (h : tS r n B wk M p q) : M r 2 = q := h.2.2.1
theorem tS.wkP (h : tS r n B wk M p q) : M r 5 = (if wk then 1 else 0) := h.2.2.2.1
theorem tS.pn (h : tS r n B wk M p q) : p ≤ n := h.2.2.2.2.2.1
theorem tS.qp (h : tS r n B wk M p q) : q ≤ p := h.2.2.2.2.2.2.1
theorem tS.n160 (h : tS r n B wk M p q) : n ≤ 160 := h.2.2.2.2.2.2.2
/-- one byte further -/
theorem tS.go {v : Int} (h : tS r n B wk M p q) (hv : v = (p : Int) + 1) (hp : p + 1 ≤ n) : tS r n B wk (ms M r 3 v) (p + 1) q := h.fr (frT.st (by omega)) (by rw [ms_v]; omega) ((ms_i (by decide)).trans h.qP) hp (by have := h.qp; omega)
theorem cd_st {j i : Nat} {v : Int} : cd r (ms M r j v) i = cd r M i := by unfold cd; rw [ms_a (by omega), ms_a (by omega)]
theorem cd_em {x y : Int} {i : Nat} (hi : i < q) : cd r (emT r M q x y) i = cd r M i := by
  unfold cd emT
  rw [ms_a (by omega), ms_a (by omega), ms_i (by omega), ms_a (by omega), ms_i (by omega), ms_a (by omega)]
theorem cd_emq {x y : Int} : cd r (emT r M q x y) q = (x, y) := by
  unfold cd emT
  rw [ms_a (by omega), ms_a (by omega), ms_v, ms_a (by omega), ms_v]
theorem em_2 {x y : Int} : emT r M q x y r 2 = (q + 1 : Nat) := by
  unfold emT
  rw [ms_v]
  omega
theorem em_j {x y : Int} {j : Nat} (hj : j ≠ 2) : emT r M q x y r j = M r j := by
  unfold emT
  rw [ms_i hj, ms_a (by omega), ms_a (by omega)]
theorem tS.em {x y : Int} (h : tS r n B wk M p q) (hq : q + 1 ≤ p) : tS r n B wk (emT r M q x y) p (q + 1) := h.fr frT.em ((em_j (by decide)).trans h.pP) em_2 h.pn hq
theorem w23 {P : Int → Prop} (h : tS r n B wk M p q) (k : P (pkN B n p)) : Wp (f23 r M) P := by
  have hn := h.n160
  unfold f23
  rw [h.pP, h.nP]
  refine wp_neg (by omega) (wp_ite (fun d => wp_gd (by omega) (wp_some ?_)) (fun d => wp_some ?_))
  · rw [Int.toNat_natCast, h.2.2.2.2.1 p (by omega)]
    unfold pkN at k
    rw [if_pos (by omega)] at k
    exact k
  · unfold pkN at k
    rw [if_neg (by omega)] at k
    exact k
theorem w27 {e : Int} {P : Int × Mm → Prop} (he : 0 ≤ e ∧ e ≤ 5) (h : tS r n B wk M p q) (k : ∀ M2 : Mm, frT r M M2 → (∀ i, cd r M2 i = cd r M i) → M2 r 1 = -1000 * e - p → P (0, M2)) : Wp (f27 r e M) P := by
  have hn := h.n160
  have hp := h.pn
  unfold f27
  rw [h.pP]
  exact wp_gd (by omega) (wp_gd (by omega) (wp_mlet (wp_some (k _ (frT.st (Or.inl rfl)) (fun i => cd_st) ms_v))))
/-- the same, as it is called -/
theorem w27' {e : Int} {P : Int × Mm → Prop} (he : 0 ≤ e ∧ e ≤ 5) (h : tS r n B wk M p q) (k : ∀ M2 : Mm, frT r M M2 → (∀ i, cd r M2 i = cd r M i) → M2 r 1 = -1000 * e - p → P (0, M2)) : Wp (obnd (f27 r e M) fun v M2 => gd (v = 0 ∨ v = 1) (some (v, M2))) P :=
  wp_obnd (w27 he h (fun M2 q1 q2 q3 => wp_gd (Or.inl rfl) (wp_some (k M2 q1 q2 q3))))
theorem w29 {c : Int} {P : Int × Mm → Prop} (hc : c ≠ -1) (h : tS r n B wk M p q) (k1 : pkN B n p = c → tS r n B wk (ms M r 3 ((p : Int) + 1)) (p + 1) q → P (1, ms M r 3 ((p : Int) + 1))) (k2 : pkN B n p ≠ c → ∀ M2 : Mm, frT r M M2 → (∀ i, cd r M2 i = cd r M i) → M2 r 1 = -1000 * 1 - p → P (0, M2)) : Wp (f29 r c M) P := by
  have hn := h.n160
  have hp := h.pn
  unfold f29
  refine wp_bind (w23 h ?_)
  refine wp_ite (fun d => ?_) (fun d => w27' (by decide) h (k2 d))
  have := pkI_ d hc
  rw [h.pP]
  exact wp_gd (by omega) (wp_mlet (wp_some (k1 d (h.go rfl (by omega)))))
theorem w14 {x y : Int} {P : Mm → Prop} (h : tS r n B wk M p q) (k : P (emT r M q x y)) : Wp (f14 r x y M) P := by
  have hn := h.n160
  have hp := h.pn
  have hq := h.qp
  unfold f14
  rw [h.qP, Int.toNat_natCast]
  refine wp_pos (by omega) (wp_gd (by omega) (wp_mlet ?_))
  rw [ms_a (by omega : r ≠ r + 2), h.qP, Int.toNat_natCast]
  refine wp_gd (by omega) (wp_mlet ?_)
  rw [ms_a (by omega : r ≠ r + 3), ms_a (by omega : r ≠ r + 2), h.qP]
  exact wp_gd (by omega) (wp_mlet (wp_some k))
theorem w20 {c : Int} {P : Int → Prop} (k : P (if dgt c then 1 else 0)) : Wp (f20 c M) P := by
  unfold f20
  unfold dgt at k
  refine wp_ite (fun d => wp_some ?_) (fun d => wp_ite (fun d2 => wp_some ?_) (fun d2 => wp_some ?_))
  · rw [decide_eq_false (by omega : ¬ (48 ≤ c)), Bool.false_and] at k
    exact k
  · rw [decide_eq_false (by omega : ¬ (c ≤ 57)), Bool.and_false] at k
    exact k
  · rw [decide_eq_true (by omega : 48 ≤ c), decide_eq_true (by omega : c ≤ 57)] at k
    exact k
theorem w21 {a : Nat} {j : Int} {P : Mm → Prop} (h : tS r n B wk M p q) (ha : a ≤ q) (k : ∀ M2 : Mm, (∀ b, b ≠ r + 3 → M2 b = M b) → (∀ i, a ≤ i → i < q → cd r M2 i = if (cd r M i).1 = j ∧ (cd r M i).2 = -1 then (j, (q : Int)) else cd r M i) → (∀ i, i < a → cd r M2 i = cd r M i) → P M2) : Wp (f21 r (a : Int) j M) P := by
  have hn := h.n160
  have hp := h.pn
  have hq := h.qp
  unfold f21 f21_2
  let I : Nat → Int → Mm → Prop := fun m y M2 => ∃ i : Nat, y = i ∧ a ≤ i ∧ i ≤ q ∧ m = q - i ∧ (∀ b, b ≠ r + 3 → M2 b = M b) ∧ (∀ x, M2 (r + 3) x = if a ≤ x ∧ x < i ∧ M (r + 2) x = j ∧ M (r + 3) x = -1 then (q : Int) else M (r + 3) x)
  refine wp_lp2 I (q - a) (by omega) ⟨a, rfl, Nat.le_refl _, ha, rfl, fun _ _ => rfl, fun x => by rw [if_neg (by omega)]⟩ ?_
  rintro m y M2 ⟨i, rfl, h1, h2, h3, h4, h5⟩
  try dsimp only
  unfold lb21_2
  have e0 : M2 r = M r := h4 r (by omega)
  have e2 : M2 (r + 2) = M (r + 2) := h4 (r + 2) (by omega)
  rw [e0, h.qP]
  have next : ∀ M3 : Mm, (∀ b, b ≠ r + 3 → M3 b = M b) → i < q → (∀ x, M3 (r + 3) x = if a ≤ x ∧ x < i + 1 ∧ M (r + 2) x = j ∧ M (r + 3) x = -1 then (q : Int) else M (r + 3) x) → Wp (f21_40 r j (i : Int) M3) (Sum.elim (up2 I m) P) := fun M3 q1 q2 q3 => by
    unfold f21_40
    exact wp_gd (by omega) (wp_i2 (m - 1) (by omega) ⟨i + 1, by omega, by omega, by omega, by omega, q1, q3⟩)
  have keep : i < q → ¬ (M (r + 2) i = j ∧ M (r + 3) i = -1) → ∀ x, M2 (r + 3) x = if a ≤ x ∧ x < i + 1 ∧ M (r + 2) x = j ∧ M (r + 3) x = -1 then (q : Int) else M (r + 3) x := fun q1 q2 x => by
    rw [h5 x]
    by_cases e : x = i
    · rw [if_neg (by omega), if_neg (fun z => q2 (e ▸ z.2.2))]
    · by_cases z : a ≤ x ∧ x < i ∧ M (r + 2) x = j ∧ M (r + 3) x = -1
      · rw [if_pos z, if_pos ⟨z.1, by omega, z.2.2⟩]
      · rw [if_neg z, if_neg (fun z2 => z ⟨z2.1, by omega, z2.2.2⟩)]
  have e3 : M2 (r + 3) i = M (r + 3) i := by rw [h5 i, if_neg (by omega)]
  refine wp_ite (fun d => wp_gd (by omega) ?_) (fun d => wp_o (wp_some (k M2 h4 (fun x q1 q2 => ?_) (fun x q1 => ?_))))
  · rw [Int.toNat_natCast, e2, e3]
    refine wp_ite (fun d2 => wp_ite (fun d3 => wp_mlet (next _ (fun b hb => (ms_a hb).trans (h4 b hb)) (by omega) (fun x => ?_))) (fun d3 => next M2 h4 (by omega) (keep (by omega) (fun z => d3 z.2)))) (fun d2 => next M2 h4 (by omega) (keep (by omega) (fun z => d2 z.1)))
    by_cases e : x = i
    · rw [e, ms_v, if_pos ⟨h1, by omega, d2, d3⟩]
    · rw [ms_i e, h5 x]
      by_cases z : a ≤ x ∧ x < i ∧ M (r + 2) x = j ∧ M (r + 3) x = -1
      · rw [if_pos z, if_pos ⟨z.1, by omega, z.2.2⟩]
      · rw [if_neg z, if_neg (fun z2 => z ⟨z2.1, by omega, z2.2.2⟩)]
  · unfold cd
    try dsimp only
    rw [e2, h5 x]
    by_cases z : M (r + 2) x = j ∧ M (r + 3) x = -1
    · rw [if_pos ⟨q1, by omega, z⟩, if_pos z, z.1]
    · rw [if_neg (fun z2 => z z2.2.2), if_neg z]
  · unfold cd
    rw [e2, h5 x, if_neg (by omega)]
theorem pow10 {k : Nat} (h : k ≤ 6) : (10 : Nat) ^ k ≤ 1000000 := by
  have := Nat.pow_le_pow_right (n := 10) (by decide) h
  exact this
theorem w22 {P : Int × Mm → Prop} (h : tS r n B wk M p q) (hd : dgt (pkN B n p) = true) (hP : tP r M p q (numP B n p) (vGn 1) P) : Wp (f22 r M) P := by
  have hn := h.n160
  have hqp := h.qp
  unfold f22 f22_4
  let I : Nat → Int → Int → Mm → Prop := fun m v y M2 => ∃ p1 : Nat, m ≤ 6 ∧ y = 6 - (m : Int) ∧ tS r n B wk M2 p1 q ∧ frT r M M2 ∧ (∀ i, cd r M2 i = cd r M i) ∧ (0 ≤ v ∧ v < (10 ^ (6 - m) : Nat)) ∧ dgs B n m p1 v = dgs B n 6 p 0 ∧ (m = 6 ∧ p1 = p ∨ p < p1)
  refine wp_lp3 I 6 (by omega) ⟨p, by omega, by omega, h, frT.refl, fun _ => rfl, by decide, rfl, Or.inl ⟨rfl, rfl⟩⟩ ?_
  rintro m v y M2 ⟨p1, h1, rfl, h2, h3, h4, h5, h6, h7⟩
  try dsimp only
  unfold lb22_4
  have hpw : (10 : Nat) ^ (6 - m) ≤ 1000000 := pow10 (by omega)
  have fin : (m = 0 ∨ dgt (pkN B n p1) = false) → p < p1 → Wp (oinr (f22_49 r v M2)) (Sum.elim (up3 I m) P) := fun hm hlt => by
    have e6 : dgs B n 6 p 0 = (p1, v) := by
      rw [← h6]
      rcases hm with rfl | hm
      · rfl
      · cases m with
        | zero => rfl
        | succ m => rw [dgs, if_neg (by rw [hm]; decide)]
    unfold f22_49
    refine wp_o (wp_bind (w23 h2 (wp_bind (w20 ?_))))
    unfold numP at hP
    rw [e6] at hP
    cases hdd : dgt (pkN B n p1) with
    | true =>
      rw [hdd] at hP
      try dsimp only
      refine wp_neg (by decide) (w27' (by decide) h2 (fun M3 q1 _ q3 => hP.1 _ M3 rfl (h3.trans q1) q3))
    | false =>
      rw [hdd] at hP
      have hq1 : q + 1 ≤ p1 := by omega
      refine wp_pos rfl (wp_bind (w14 h2 (wp_some (hP.2 p1 _ (q + 1) _ rfl (h3.trans frT.em) ((em_j (by decide)).trans h2.pP) em_2 (by omega) (by omega) (fun i hi => (cd_em hi).trans (h4 i)) (ok_one cd_emq (Or.inl rfl) (fun z => absurd z (by decide))) (v_num cd_emq)))))
  have hmz : m = 0 → p < p1 := fun z => by omega
  refine wp_ite (fun d => wp_bind (w23 h2 (wp_bind (w20 ?_)))) (fun d => fin (Or.inl (by omega)) (by omega))
  cases hdd : dgt (pkN B n p1) with
  | false =>
    refine wp_pos rfl (fin (Or.inr hdd) ?_)
    rcases h7 with ⟨_, h7⟩ | h7
    · rw [h7, hd] at hdd
      cases hdd
    · exact h7
  | true =>
    have hlt := pk_dgt hdd
    have hdr : 48 ≤ pkN B n p1 ∧ pkN B n p1 ≤ 57 := by
      unfold dgt at hdd
      rw [Bool.and_eq_true, decide_eq_true_iff, decide_eq_true_iff] at hdd
      exact hdd
    obtain ⟨m, rfl⟩ : ∃ m2, m = m2 + 1 := ⟨m - 1, by omega⟩
    have hpw2 : (10 : Nat) ^ (6 - m) = 10 ^ (6 - (m + 1)) * 10 := by
      rw [show 6 - m = (6 - (m + 1)) + 1 by omega, Nat.pow_succ]
    have hpw3 : (10 : Nat) ^ (6 - m) ≤ 1000000 := pow10 (by omega)
    try dsimp only
    refine wp_neg (by decide) (wp_gd (by omega) (wp_bind (w23 h2 (wp_gd (by omega) (wp_gd (by omega) ?_)))))
    rw [h2.pP]
    refine wp_gd (by omega) (wp_mlet (wp_gd (by omega) (wp_i3 m (by omega) ⟨p1 + 1, by omega, by omega, h2.go rfl (by omega), h3.trans (frT.st (by omega)), fun i => cd_st.trans (h4 i), by omega, ?_, by omega⟩)))
    rw [← h6, dgs, if_pos hdd]
theorem vSg_c : ∀ j : Nat, j < 11 → vSg (j : Int) = chrL j := by decide
theorem w19 {j : Nat} {P : Int → Prop} (h : tS r n B wk M p q) (hj : j < 11) (k : P (if asks wk j then 1 else 0)) : Wp (f19 r (j : Int) M) P := by
  unfold f19
  rw [h.wkP]
  unfold asks at k
  cases wk
  · refine wp_ite (fun d => wp_some ?_) (fun d => wp_ite (fun d2 => wp_pos rfl (wp_some ?_)) (fun d2 => wp_neg (by decide) (wp_some ?_)))
    · rw [decide_eq_true (by omega : j < 6)] at k
      exact k
    · rw [decide_eq_true (by omega : j < 9), Bool.not_false, Bool.and_true, Bool.or_true] at k
      exact k
    · rw [decide_eq_false (by omega : ¬ j < 6), decide_eq_false (by omega : ¬ j < 9), Bool.and_false] at k
      exact k
  · refine wp_ite (fun d => wp_some ?_) (fun d => wp_ite (fun d2 => wp_neg (by decide) (wp_some ?_)) (fun d2 => wp_pos rfl (wp_some ?_)))
    · rw [decide_eq_true (by omega : j < 6)] at k
      exact k
    · rw [decide_eq_false (by omega : ¬ j < 6), decide_eq_false (by omega : ¬ 9 ≤ j), Bool.not_true, Bool.and_false] at k
      exact k
    · rw [decide_eq_true (by omega : 9 ≤ j), decide_eq_true hj, Bool.and_true, Bool.and_true, Bool.or_true] at k
      exact k
/-- one factor -/
theorem r_fac {rec : Nat → Nat → Int → Mm → Option (Int × Mm)} {x nd : Nat} {low : Option (Nat → Rs)} (hx : x ≤ 6) (hl : if x < 6 then ∃ f, low = some f ∧ rdP (rec 2 r ((x : Int) + 1)) r n B wk f (vGn nd) ∧ ∀ p, p ≤ n → okR n wk p (f p) else low = none) (hnd : 1 ≤ nd) : rdP (f15 rec r (x : Int)) r n B wk (facP B n wk low) (vGn nd) := by
  intro M p q P h hP
  have hn := h.n160
  have hqp := h.qp
  unfold f15
  refine wp_bind (w23 h ?_)
  unfold facP at hP
  refine wp_ite (fun d => ?_) (fun d => ?_)
  · rw [if_pos d] at hP
    have hlt := pkI_ d (by decide)
    refine wp_ite (fun d2 => ?_) (fun d2 => ?_)
    · rw [if_pos (by omega)] at hl
      obtain ⟨f, rfl, hf, hok⟩ := hl
      rw [h.pP]
      refine wp_gd (by omega) (wp_mlet (wp_gd (by omega) (wp_obnd (hf _ (p + 1) q _ (h.go rfl (by omega)) ⟨fun e M2 g1 g2 g3 => ?_, fun p2 s q2 M2 g1 g2 g3 g4 g5 g6 g7 g8 g9 => ?_⟩))))
      · refine wp_pos rfl (wp_some (hP.1 e M2 ?_ ((frT.st (by omega)).trans g2) g3))
        try dsimp only
        rw [g1]
        rfl
      · have hp2 := (hok (p + 1) (by omega)).2 p2 s g1
        have hS2 : tS r n B wk M2 p2 q2 := (h.go rfl (by omega)).fr g2 g3 g4 hp2.2.1 (by omega)
        try dsimp only
        refine wp_neg (by decide) (wp_obnd (w29 (by decide) hS2 (fun e1 hS3 => ?_) (fun e1 M3 k1 k2 k3 => ?_)))
        · have hp3 := hS3.pn
          try dsimp only
          refine wp_neg (by decide) (wp_some (hP.2 (p2 + 1) s q2 _ ?_ ((frT.st (by omega)).trans (g2.trans (frT.st (by omega)))) (by rw [ms_v]; omega) ((ms_i (by decide)).trans g4) g5 (by omega) (fun i hi => cd_st.trans ((g7 i hi).trans cd_st)) (ok_cg g8 (fun i _ _ => cd_st)) (vG.cg g9 g5 (fun i _ _ => cd_st))))
          try dsimp only
          rw [g1]
          exact if_pos e1
        · refine wp_pos rfl (wp_some (hP.1 (-1000 * 1 - p2) M3 ?_ ((frT.st (by omega)).trans (g2.trans k1)) k3))
          try dsimp only
          rw [g1]
          exact if_neg e1
    · rw [if_neg (by omega)] at hl
      subst hl
      exact w27' (by decide) h (fun M2 q1 _ q3 => hP.1 _ M2 rfl q1 q3)
  · rw [if_neg d] at hP
    refine wp_bind (w20 ?_)
    cases hdd : dgt (pkN B n p) with
    | true =>
      rw [hdd, if_pos rfl] at hP
      try dsimp only
      refine wp_neg (by decide) (wp_obnd (w22 h hdd ⟨fun e M2 g1 g2 g3 => wp_gd (Or.inl rfl) (wp_some (hP.1 e M2 g1 g2 g3)), fun p2 s q2 M2 g1 g2 g3 g4 g5 g6 g7 g8 g9 => wp_gd (Or.inr rfl) (wp_some (hP.2 p2 s q2 M2 g1 g2 g3 g4 g5 g6 g7 g8 (vG.le g9 hnd)))⟩))
    | false =>
      rw [hdd, if_neg (by decide)] at hP
      refine wp_pos rfl ?_
      unfold f15_72
      let I : Nat → Int → Prop := fun m y => ∃ j : Nat, y = j ∧ j ≤ 11 ∧ m = 11 - j ∧ ∀ i, i < j → (chrL i == pkN B n p && asks wk i) = false
      refine wp_lp1 I 11 (by omega) ⟨0, rfl, by omega, rfl, fun i hi => absurd hi (Nat.not_lt_zero _)⟩ ?_
      rintro m y ⟨j, rfl, h1, h2, h3⟩
      try dsimp only
      unfold lb15_72
      have next : j < 11 → (chrL j == pkN B n p && asks wk j) = false → Wp (f15_114 rec r (pkN B n p) (j : Int) M) (Sum.elim (up1 I m) P) := fun q1 q2 => by
        unfold f15_114
        refine wp_gd (by omega) (wp_i1 (m - 1) (by omega) ⟨j + 1, by omega, by omega, by omega, fun i hi => ?_⟩)
        by_cases e : i = j
        · rw [e]
          exact q2
        · exact h3 i (by omega)
      refine wp_ite (fun d2 => wp_gd (by omega) ?_) (fun d2 => wp_o (w27' (by decide) h (fun M2 q1 _ q3 => hP.1 _ M2 ?_ q1 q3)))
      · rw [vSg_c j (by omega)]
        refine wp_ite (fun d3 => wp_bind (w19 h (by omega) ?_)) (fun d3 => next (by omega) ?_)
        · cases ha : asks wk j with
          | false => exact wp_pos rfl (next (by omega) (by rw [ha, Bool.and_false]))
          | true =>
            have hlt : ltr wk (pkN B n p) = some j := by
              unfold ltr
              rw [List.find?_range_eq_some]
              refine ⟨by rw [ha, Bool.and_true, beq_iff_eq]; exact d3, List.mem_range.mpr (by omega), fun i hi => ?_⟩
              rw [h3 i hi]
              rfl
            rw [hlt] at hP
            have hpn : p < n := pk_ne (fun z => (by decide : ∀ j : Nat, j < 11 → chrL j ≠ -1) j (by omega) (d3.trans z))
            have hem := h.em (x := 97) (y := (j : Int)) 
            try dsimp only
            refine wp_neg (by decide) (wp_o (wp_bind (w14 h ?_)))
            rw [em_j (by decide : (3 : Nat) ≠ 2), h.pP]
            refine wp_gd (by omega) (wp_mlet (wp_some (hP.2 (p + 1) _ (q + 1) _ rfl (frT.em.trans (frT.st (by omega))) (by rw [ms_v]; omega) ((ms_i (by decide)).trans em_2) (by omega) (by omega) (fun i hi => cd_st.trans (cd_em hi)) (ok_one (cd_st.trans cd_emq) (by unfold okS; omega) (fun _ => by omega)) (vG.le (v_let (cd_st.trans cd_emq)) hnd))))
        · rw [show (chrL j == pkN B n p) = false by rw [beq_eq_false_iff_ne]; exact d3]
          rfl
      · have hlt : ltr wk (pkN B n p) = none := by
          unfold ltr
          rw [List.find?_range_eq_none]
          intro i hi
          rw [h3 i (by omega)]
          rfl
        rw [hlt]
        rfl
end RD1

section RD2
variable {r n : Nat} {B : Nat → Int} {wk : Bool}
theorem tms_v {c : Int} (h : tms c = true) : c = 42 ∨ c = 47 ∨ c = 37 := by
  unfold tms at h
  rw [Bool.or_eq_true, Bool.or_eq_true, beq_iff_eq, beq_iff_eq, beq_iff_eq] at h
  omega
theorem pls_v {c : Int} (h : pls c = true) : c = 43 ∨ c = 45 := by
  unfold pls at h
  rw [Bool.or_eq_true, beq_iff_eq, beq_iff_eq] at h
  exact h
theorem tms_n {c : Int} (h : ¬ tms c = true) : ¬ c = 42 ∧ ¬ c = 47 ∧ ¬ c = 37 := by
  unfold tms at h
  rw [Bool.or_eq_true, Bool.or_eq_true, beq_iff_eq, beq_iff_eq, beq_iff_eq] at h
  omega
theorem pls_n {c : Int} (h : ¬ pls c = true) : ¬ c = 43 ∧ ¬ c = 45 := by
  unfold pls at h
  rw [Bool.or_eq_true, beq_iff_eq, beq_iff_eq] at h
  omega
theorem r_sum {rec : Nat → Nat → Int → Mm → Option (Int × Mm)} {x nd : Nat} {fac : Nat → Rs} (hf : rdP (rec 3 r (x : Int)) r n B wk fac (vGn nd)) (hok : ∀ p, p ≤ n → okR n wk p (fac p)) : rdP (f28 rec r (x : Int)) r n B wk (fun p => sumL B n fac n p 0 zS 0 zS) (vGn (nd + 2)) := by
  intro M p q P h hP
  have hn := h.n160
  have hqp := h.qp
  unfold f28 f28_10
  rw [h.nP]
  let I : Nat → Int → Int → Int → Mm → Prop := fun k t a y M2 => ∃ (p1 q1 m : Nat) (sT sA : Sem), y = k ∧ k ≤ n ∧ frT r M M2 ∧ tS r n B wk M2 p1 q1 ∧ (∀ i, i < q → cd r M2 i = cd r M i) ∧ okC (cd r M2) q q1 ∧ (q ≤ m ∧ m ≤ q1 ∧ q1 + p + (if t = 0 then 0 else 1) + (if a = 0 then 0 else 1) ≤ q + p1) ∧ (if a = 0 then m = q else vG (cd r M2) q m sA (nd + 2)) ∧ (if t = 0 then q1 = m else vG (cd r M2) m q1 sT (nd + 1)) ∧ (t = 0 ∨ tms t = true) ∧ (a = 0 ∨ pls a = true) ∧ sumL B n fac k p1 t sT a sA = sumL B n fac n p 0 zS 0 zS
  refine wp_lp4 I n (by omega) ⟨p, q, q, zS, zS, rfl, Nat.le_refl _, frT.refl, h, fun _ _ => rfl, ok_nil, ⟨Nat.le_refl _, Nat.le_refl _, by rw [if_pos rfl]; omega⟩, by rw [if_pos rfl], by rw [if_pos rfl], Or.inl rfl, Or.inl rfl, rfl⟩ ?_
  rintro k t a y M2 ⟨p1, q1, m, sT, sA, rfl, b0, b1, b2, b3, b4, ⟨b5, b6, b7⟩, b8, b9, b10, b11, b12⟩
  try dsimp only
  unfold lb28_10
  refine wp_ite (fun d => ?_) (fun d => ?_)
  · obtain ⟨k, rfl⟩ : ∃ k2, k = k2 + 1 := ⟨k - 1, by omega⟩
    rw [sumL] at b12
    have hp1 := b2.pn
    refine wp_obnd (hf M2 p1 q1 _ b2 ⟨fun e M3 g1 g2 g3 => ?_, fun p2 s q2 M3 g1 g2 g3 g4 g5 g6 g7 g8 g9 => ?_⟩)
    · refine wp_pos rfl (wp_o (wp_some (hP.1 e M3 ?_ (b1.trans g2) g3)))
      try dsimp only
      rw [← b12, g1]
      rfl
    · have hp2 := (hok p1 hp1).2 p2 s g1
      rw [g1] at b12
      have hS2 : tS r n B wk M3 p2 q2 := b2.fr g2 g3 g4 hp2.2.1 (by have := b2.qp; omega)
      try dsimp only
      refine wp_neg (by decide) ?_
      have b12' : (if tms (pkN B n p2) then sumL B n fac k (p2 + 1) (pkN B n p2) (if t = 0 then s else bopS t sT s) a sA
    else if pls (pkN B n p2) then sumL B n fac k (p2 + 1) 0 zS (pkN B n p2) (if a = 0 then (if t = 0 then s else bopS t sT s) else bopS a sA (if t = 0 then s else bopS t sT s))
    else .inr (p2, if a = 0 then (if t = 0 then s else bopS t sT s) else bopS a sA (if t = 0 then s else bopS t sT s))) = sumL B n fac n p 0 zS 0 zS := b12
      -- what comes behind the sign of a product was put
      have go : ∀ (M4 : Mm) (q3 : Nat) (s1 : Sem), s1 = (if t = 0 then s else bopS t sT s) → frT r M M4 → tS r n B wk M4 p2 q3 → (∀ i, i < q → cd r M4 i = cd r M i) → okC (cd r M4) q q3 → m ≤ q3 → q3 + p + (if a = 0 then 0 else 1) ≤ q + p2 → (if a = 0 then m = q else vG (cd r M4) q m sA (nd + 2)) → vG (cd r M4) m q3 s1 (nd + 1) → Wp (f28_35 rec r (x : Int) a ((k + 1 : Nat) : Int) M4) (Sum.elim (up4 I (k + 1)) P) := fun M4 q3 s1 e0 e1 e2 e3 e4 e5 e6 e7 e8 => by
        rw [← e0] at b12'
        have qp3 := e2.qp
        -- the next round
        have next : ∀ (M5 : Mm) (q4 m2 : Nat) (t2 a2 : Int) (sT2 sA2 : Sem), frT r M M5 → tS r n B wk M5 p2 q4 → p2 < n → (∀ i, i < q → cd r M5 i = cd r M i) → okC (cd r M5) q q4 → (q ≤ m2 ∧ m2 ≤ q4 ∧ q4 + p + (if t2 = 0 then 0 else 1) + (if a2 = 0 then 0 else 1) ≤ q + p2 + 1) → (if a2 = 0 then m2 = q else vG (cd r M5) q m2 sA2 (nd + 2)) → (if t2 = 0 then q4 = m2 else vG (cd r M5) m2 q4 sT2 (nd + 1)) → (t2 = 0 ∨ tms t2 = true) → (a2 = 0 ∨ pls a2 = true) → sumL B n fac k (p2 + 1) t2 sT2 a2 sA2 = sumL B n fac n p 0 zS 0 zS → Wp (f28_102 rec r (x : Int) t2 a2 ((k + 1 : Nat) : Int) M5) (Sum.elim (up4 I (k + 1)) P) := fun M5 q4 m2 t2 a2 sT2 sA2 c1 c2 c3 c4 c5 c6 c7 c8 c9 c10 c11 => by
          unfold f28_102
          rw [c2.pP]
          refine wp_gd (by omega) (wp_mlet (wp_gd (by omega) (wp_i4 k (by omega) ⟨p2 + 1, q4, m2, sT2, sA2, by omega, by omega, c1.trans (frT.st (by omega)), c2.go rfl (by omega), fun i hi => cd_st.trans (c4 i hi), ok_cg c5 (fun i _ _ => cd_st), ⟨c6.1, c6.2.1, by omega⟩, ?_, ?_, c9, c10, c11⟩)))
          · by_cases z : a2 = 0
            · rw [if_pos z] at c7 ⊢
              exact c7
            · rw [if_neg z] at c7 ⊢
              exact c7.cg c6.1 (fun i _ _ => cd_st)
          · by_cases z : t2 = 0
            · rw [if_pos z] at c8 ⊢
              exact c8
            · rw [if_neg z] at c8 ⊢
              exact c8.cg c6.2.1 (fun i _ _ => cd_st)
        unfold f28_35
        refine wp_bind (w23 e2 ?_)
        have tim : tms (pkN B n p2) = true → Wp (f28_62 rec r (x : Int) a ((k + 1 : Nat) : Int) (pkN B n p2) M4) (Sum.elim (up4 I (k + 1)) P) := fun z => by
          rw [if_pos z] at b12'
          have z2 := tms_v z
          unfold f28_62
          refine wp_neg (by omega) (next M4 q3 m (pkN B n p2) a s1 sA e1 e2 (tms_in z) e3 e4 ⟨b5, e5, by rw [if_neg (by omega : ¬ pkN B n p2 = 0)]; omega⟩ e7 (by rw [if_neg (by omega)]; exact e8) (Or.inr z) b11 b12')
        by_cases z : tms (pkN B n p2) = true
        · have z2 := tms_v z
          refine wp_ite (fun _ => tim z) (fun n1 => wp_ite (fun _ => tim z) (fun n2 => wp_ite (fun _ => tim z) (fun n3 => by omega)))
        · obtain ⟨z1, z2, z3⟩ := tms_n z
          refine wp_neg z1 (wp_neg z2 (wp_neg z3 ?_))
          rw [if_neg z] at b12'
          -- what comes behind the sign of a sum was put
          have go2 : ∀ (M5 : Mm) (q4 : Nat) (s2 : Sem), s2 = (if a = 0 then s1 else bopS a sA s1) → frT r M M5 → tS r n B wk M5 p2 q4 → (∀ i, i < q → cd r M5 i = cd r M i) → okC (cd r M5) q q4 → q ≤ q4 → q4 + p ≤ q + p2 → vG (cd r M5) q q4 s2 (nd + 2) → Wp (f28_83 rec r (x : Int) 0 ((k + 1 : Nat) : Int) (pkN B n p2) M5) (Sum.elim (up4 I (k + 1)) P) := fun M5 q4 s2 c0 c1 c2 c3 c4 c5 c6 c7 => by
            rw [← c0] at b12'
            unfold f28_83 f28_99
            have plu : pls (pkN B n p2) = true → Wp (f28_102 rec r (x : Int) 0 (pkN B n p2) ((k + 1 : Nat) : Int) M5) (Sum.elim (up4 I (k + 1)) P) := fun y => by
              rw [if_pos y] at b12'
              have y2 := pls_v y
              exact next M5 q4 q4 0 (pkN B n p2) zS s2 c1 c2 (pls_in y) c3 c4 ⟨c5, Nat.le_refl _, by rw [if_pos rfl, if_neg (by omega)]; omega⟩ (by rw [if_neg (by omega)]; exact c7) (by rw [if_pos rfl]) (Or.inl rfl) (Or.inr y) b12'
            by_cases y : pls (pkN B n p2) = true
            · have y2 := pls_v y
              exact wp_ite (fun _ => plu y) (fun n1 => wp_ite (fun _ => plu y) (fun n2 => by omega))
            · obtain ⟨y1, y2⟩ := pls_n y
              rw [if_neg y] at b12'
              exact wp_neg y1 (wp_neg y2 (wp_o (wp_some (hP.2 p2 s2 q4 M5 b12'.symm c1 c2.pP c2.qP c5 c6 c3 c4 c7))))
          unfold f28_73
          refine wp_ite (fun y => ?_) (fun y => ?_)
          · rw [if_pos y] at e7
            rw [e7] at e5 e8
            exact go2 M4 q3 s1 (by rw [if_pos y]) e1 e2 e3 e4 e5 (by omega) (vG.le e8 (by omega))
          · rw [if_neg y] at e7 e6
            have hay : pls a = true := by
              rcases b11 with b11 | b11
              · exact (y b11).elim
              · exact b11
            have ha2 := pls_v hay
            have hc3 : ∀ i, i < q3 → cd r (emT r M4 q3 a 0) i = cd r M4 i := fun i hi => cd_em hi
            unfold f28_77
            refine wp_bind (w14 e2 (go2 _ (q3 + 1) (bopS a sA s1) (by rw [if_neg y]) (e1.trans frT.em) (e2.em (by omega)) (fun i hi => (hc3 i (by omega)).trans (e3 i hi)) (ok_app (b := q3) (ok_cg e4 (fun i _ h2 => hc3 i h2)) (ok_one cd_emq (by unfold okS; omega) (fun z => by omega))) (by omega) (by omega) ?_))
            exact v_bop (vG.cg e7 b5 (fun i _ h2 => hc3 i (by omega))) (vG.cg e8 e5 (fun i _ h2 => hc3 i h2)) b5 e5 cd_emq (by omega) (Nat.le_refl _) (by omega)
      refine wp_ite (fun d2 => ?_) (fun d2 => ?_)
      · rw [if_pos d2] at b9 b7
        subst b9
        refine go M3 q2 s (by rw [if_pos d2]) (b1.trans g2) hS2 (fun i hi => (g7 i (by omega)).trans (b3 i hi)) (ok_app (ok_cg b4 (fun i _ h2 => g7 i h2)) g8) g5 (by omega) ?_ (vG.le g9 (by omega))
        by_cases z : a = 0
        · rw [if_pos z] at b8 ⊢
          exact b8
        · rw [if_neg z] at b8 ⊢
          exact b8.cg b5 (fun i _ h2 => g7 i h2)
      · rw [if_neg d2] at b9 b7
        have htt : tms t = true := by
          rcases b10 with b10 | b10
          · exact (d2 b10).elim
          · exact b10
        have ht2 := tms_v htt
        have hc3 : ∀ i, i < q2 → cd r (emT r M3 q2 t 0) i = cd r M3 i := fun i hi => cd_em hi
        have hc4 : ∀ i, i < q1 → cd r (emT r M3 q2 t 0) i = cd r M2 i := fun i hi => (hc3 i (by omega)).trans (g7 i hi)
        refine wp_bind (w14 hS2 (go _ (q2 + 1) (bopS t sT s) (by rw [if_neg d2]) ((b1.trans g2).trans frT.em) (hS2.em (by omega)) (fun i hi => (hc4 i (by omega)).trans (b3 i hi)) (ok_app (b := q2) (ok_app (b := q1) (ok_cg b4 (fun i _ h2 => hc4 i h2)) (ok_cg g8 (fun i _ h2 => hc3 i h2))) (ok_one cd_emq (by unfold okS; omega) (fun z => by omega))) (by omega) (by omega) ?_ ?_))
        · by_cases z : a = 0
          · rw [if_pos z] at b8 ⊢
            exact b8
          · rw [if_neg z] at b8 ⊢
            exact b8.cg b5 (fun i _ h2 => hc4 i (by omega))
        · exact v_bop (vG.cg b9 b6 (fun i _ h2 => hc4 i h2)) (vG.cg g9 g5 (fun i _ h2 => hc3 i h2)) b6 g5 cd_emq (by omega) (Nat.le_refl _) (by omega)
  · have hk : k = 0 := by omega
    subst hk
    refine wp_o (w27' (by decide) b2 (fun M3 q1 _ q3 => hP.1 _ M3 ?_ (b1.trans q1) q3))
    try dsimp only
    rw [← b12]
    rfl
/-- a piece, by what may stand in it -/
def pcS (B : Nat → Int) (n : Nat) (sum : Nat → Rs) (low : Option ((Nat → Rs) × (Nat → Rs))) (p : Nat) : Rs := match low with
  | none => if pkN B n p = 40 ∨ pkN B n p = 33 then flt 5 p else cmpP B n sum p
  | some (fc, fp) => if pkN B n p = 40 then sb (fc (p + 1)) (fun q s => if pkN B n q = 41 then .inr (q + 1, s) else flt 1 q) else if pkN B n p = 33 then sb (fp (p + 1)) (fun q s => .inr (q, notS s)) else cmpP B n sum p
/-- a piece -/
theorem r_piece {rec : Nat → Nat → Int → Mm → Option (Int × Mm)} {x nd : Nat} {sum : Nat → Rs} {low : Option ((Nat → Rs) × (Nat → Rs))} (hx : x ≤ 6) (hnd : nd + 1 ≤ 32) (hs : rdP (rec 2 r (x : Int)) r n B wk sum (vGn nd)) (hsok : ∀ p, p ≤ n → okR n wk p (sum p))
    (hl : if x < 6 then ∃ fc fp, low = some (fc, fp) ∧ rdP (rec 0 r ((x : Int) + 1)) r n B wk fc cG ∧ (∀ p, p ≤ n → okB n wk p (fc p)) ∧ rdP (rec 1 r ((x : Int) + 1)) r n B wk fp cG ∧ (∀ p, p ≤ n → okB n wk p (fp p)) else low = none) :
    rdP (f24 rec r (x : Int)) r n B wk (pcS B n sum low) cG := by
  intro M p q P h hP
  have hn := h.n160
  have hqp := h.qp
  unfold f24
  refine wp_bind (w23 h ?_)
  have br : (pkN B n p = 40 ∨ pkN B n p = 33) → Wp (f24_17 rec r (x : Int) (pkN B n p) M) P := fun d => by
    have hlt : p < n := pk_ne (B := B) (fun z => by omega)
    unfold f24_17
    refine wp_ite (fun d2 => ?_) (fun d2 => ?_)
    · rw [if_pos (by omega)] at hl
      obtain ⟨fc, fp, rfl, hc1, hc2, hp1, hp2⟩ := hl
      dsimp only [pcS] at hP
      rw [h.pP]
      refine wp_gd (by omega) (wp_mlet (wp_ite (fun d3 => wp_gd (by omega) (wp_obnd (hc1 _ (p + 1) q _ (h.go rfl (by omega)) ⟨fun e M2 g1 g2 g3 => ?_, fun p2 s q2 M2 g1 g2 g3 g4 g5 g6 g7 g8 g9 => ?_⟩))) (fun d3 => wp_gd (by omega) (wp_obnd (hp1 _ (p + 1) q _ (h.go rfl (by omega)) ⟨fun e M2 g1 g2 g3 => ?_, fun p2 s q2 M2 g1 g2 g3 g4 g5 g6 g7 g8 g9 => ?_⟩)))))
      · refine wp_pos rfl (wp_some (hP.1 e M2 ?_ ((frT.st (by omega)).trans g2) g3))
        rw [if_pos d3, g1]
        rfl
      · have hp2' := (hc2 (p + 1) (by omega)).1.2 p2 s g1
        have hS2 : tS r n B wk M2 p2 q2 := (h.go rfl (by omega)).fr g2 g3 g4 hp2'.2.1 (by omega)
        try dsimp only
        refine wp_neg (by decide) (wp_obnd (w29 (by decide) hS2 (fun e1 hS3 => ?_) (fun e1 M3 k1 k2 k3 => ?_)))
        · try dsimp only
          refine wp_neg (by decide) (wp_some (hP.2 (p2 + 1) s q2 _ ?_ ((frT.st (by omega)).trans (g2.trans (frT.st (by omega)))) (by rw [ms_v]; omega) ((ms_i (by decide)).trans g4) g5 (by omega) (fun i hi => cd_st.trans ((g7 i hi).trans cd_st)) (ok_cg g8 (fun i _ _ => cd_st)) (cG.cg g9 g5 (fun i _ _ => cd_st))))
          rw [if_pos d3, g1]
          exact if_pos e1
        · refine wp_pos rfl (wp_some (hP.1 (-1000 * 1 - p2) M3 ?_ ((frT.st (by omega)).trans (g2.trans k1)) k3))
          rw [if_pos d3, g1]
          exact if_neg e1
      · refine wp_pos rfl (wp_some (hP.1 e M2 ?_ ((frT.st (by omega)).trans g2) g3))
        rw [if_neg d3, if_pos (by omega), g1]
        rfl
      · have hp2' := hp2 (p + 1) (by omega)
        have hp3 := hp2'.1.2 p2 s g1
        have hS2 : tS r n B wk M2 p2 q2 := (h.go rfl (by omega)).fr g2 g3 g4 hp3.2.1 (by omega)
        have hc3 : ∀ i, i < q2 → cd r (emT r M2 q2 33 0) i = cd r M2 i := fun i hi => cd_em hi
        try dsimp only
        refine wp_neg (by decide) (wp_bind (w14 hS2 (wp_some (hP.2 p2 (notS s) (q2 + 1) _ ?_ ((frT.st (by omega)).trans (g2.trans frT.em)) ((em_j (by decide)).trans g3) em_2 (by omega) (by omega) (fun i hi => (hc3 i (by omega)).trans ((g7 i hi).trans cd_st)) (ok_app (b := q2) (ok_cg g8 (fun i _ h2 => hc3 i h2)) (ok_one cd_emq (by unfold okS; omega) (fun z => by omega))) (c_not (cG.cg g9 g5 (fun i _ h2 => hc3 i h2)) (hp2'.2 p2 s g1) g5 cd_emq)))))
        rw [if_neg d3, if_pos (by omega), g1]
        rfl
    · rw [if_neg (by omega)] at hl
      subst hl
      dsimp only [pcS] at hP
      rw [if_pos d] at hP
      exact w27' (by decide) h (fun M2 q1 _ q3 => hP.1 _ M2 rfl q1 q3)
  refine wp_ite (fun d => br (Or.inr d)) (fun d => wp_ite (fun d2 => br (Or.inl d2)) (fun d2 => ?_))
  have hP' : tP r M p q (cmpP B n sum p) cG P := by
    cases low with
    | none =>
      dsimp only [pcS] at hP
      rw [if_neg (by omega)] at hP
      exact hP
    | some y =>
      dsimp only [pcS] at hP
      rw [if_neg d2, if_neg d] at hP
      exact hP
  unfold cmpP at hP'
  refine wp_obnd (hs M p q _ h ⟨fun e M2 g1 g2 g3 => ?_, fun p2 s q2 M2 g1 g2 g3 g4 g5 g6 g7 g8 g9 => ?_⟩)
  · refine wp_pos rfl (wp_some (hP'.1 e M2 ?_ g2 g3))
    rw [g1]
    rfl
  · rw [g1] at hP'
    have hp2 := (hsok p h.pn).2 p2 s g1
    have hS2 : tS r n B wk M2 p2 q2 := h.fr g2 g3 g4 hp2.2.1 (by omega)
    have hP2 : tP r M p q (if cps (pkN B n p2) then sb (sum (p2 + 1)) (fun q2 s2 => .inr (q2, cmpS (pkN B n p2) s s2)) else flt 1 p2) cG P := hP'
    try dsimp only
    refine wp_neg (by decide) (wp_bind (w23 hS2 ?_))
    have cm2 : cps (pkN B n p2) = true → Wp (f24_130 rec r (x : Int) (pkN B n p2) M2) P := fun z => by
      rw [if_pos z] at hP2
      have hlt := cps_in z
      have z2 : pkN B n p2 = 60 ∨ pkN B n p2 = 62 ∨ pkN B n p2 = 61 := by
        unfold cps at z
        rw [Bool.or_eq_true, Bool.or_eq_true, beq_iff_eq, beq_iff_eq, beq_iff_eq] at z
        omega
      unfold f24_130
      rw [g3]
      refine wp_gd (by omega) (wp_mlet (wp_obnd (hs _ (p2 + 1) q2 _ (hS2.go rfl (by omega)) ⟨fun e M3 k1 k2 k3 => ?_, fun p3 s3 q3 M3 k1 k2 k3 k4 k5 k6 k7 k8 k9 => ?_⟩)))
      · refine wp_pos rfl (wp_some (hP2.1 e M3 ?_ (g2.trans ((frT.st (by omega)).trans k2)) k3))
        rw [k1]
        rfl
      · have hp3 := (hsok (p2 + 1) (by omega)).2 p3 s3 k1
        have hS3 : tS r n B wk M3 p3 q3 := (hS2.go rfl (by omega)).fr k2 k3 k4 hp3.2.1 (by omega)
        have hc3 : ∀ i, i < q3 → cd r (emT r M3 q3 (pkN B n p2) 0) i = cd r M3 i := fun i hi => cd_em hi
        have hc4 : ∀ i, i < q2 → cd r (emT r M3 q3 (pkN B n p2) 0) i = cd r M2 i := fun i hi => (hc3 i (by omega)).trans ((k7 i hi).trans cd_st)
        try dsimp only
        refine wp_neg (by decide) (wp_bind (w14 hS3 (wp_some (hP2.2 p3 _ (q3 + 1) _ ?_ ((g2.trans ((frT.st (by omega)).trans k2)).trans frT.em) ((em_j (by decide)).trans k3) em_2 (by omega) (by omega) (fun i hi => (hc4 i (by omega)).trans (g7 i hi)) (ok_app (b := q3) (ok_app (b := q2) (ok_cg g8 (fun i _ h2 => hc4 i h2)) (ok_cg k8 (fun i _ h2 => hc3 i h2))) (ok_one cd_emq (by unfold okS; omega) (fun z => by omega))) (c_cmp (vG.cg g9 g5 (fun i _ h2 => hc4 i h2)) (vG.cg k9 k5 (fun i _ h2 => hc3 i h2)) g5 k5 cd_emq z (by omega) (by omega))))))
        rw [k1]
        rfl
    refine wp_ite (fun z => cm2 (by rw [z]; rfl)) (fun z1 => wp_ite (fun z => cm2 (by rw [z]; rfl)) (fun z2 => wp_ite (fun z => cm2 (by rw [z]; rfl)) (fun z3 => ?_)))
    have hnc : ¬ cps (pkN B n p2) = true := fun q => by
      unfold cps at q
      rw [Bool.or_eq_true, Bool.or_eq_true, beq_iff_eq, beq_iff_eq, beq_iff_eq] at q
      omega
    rw [if_neg hnc] at hP2
    exact w27' (by decide) hS2 (fun M3 q1 _ q3 => hP2.1 _ M3 rfl (g2.trans q1) q3)
/-- parts -/
theorem r_cond {rec : Nat → Nat → Int → Mm → Option (Int × Mm)} {x : Nat} {pc : Nat → Rs} (hf : rdP (rec 1 r (x : Int)) r n B wk pc cG) (hok : ∀ p, p ≤ n → okB n wk p (pc p)) : rdP (f13 rec r (x : Int)) r n B wk (fun p => condL B n pc n p false zS false zS) cG := by
  intro M p q P h hP
  have hn := h.n160
  have hqp := h.qp
  unfold f13 f13_16
  rw [h.qP, h.nP]
  let I : Nat → Int → Int → Mm → Prop := fun k z y M2 => ∃ (p1 q1 m : Nat) (ha : Bool) (sA : Sem) (ho : Bool) (sO : Sem), y = k ∧ k ≤ n ∧ z = m ∧ frT r M M2 ∧ tS r n B wk M2 p1 q1 ∧ (∀ i, i < q → cd r M2 i = cd r M i) ∧ okC (cd r M2) q q1 ∧ (q ≤ m ∧ m ≤ q1 ∧ q1 + p ≤ q + p1) ∧ (if ho then oG (cd r M2) q m sO else q = m) ∧ (if ha then aG (cd r M2) m q1 sA else m = q1) ∧ bitS sA ∧ bitS sO ∧ condL B n pc k p1 ha sA ho sO = condL B n pc n p false zS false zS
  refine wp_lp3 I n (by omega) ⟨p, q, q, false, zS, false, zS, rfl, Nat.le_refl _, rfl, frT.refl, h, fun _ _ => rfl, ok_nil, ⟨Nat.le_refl _, Nat.le_refl _, by omega⟩, rfl, rfl, bit_z, bit_z, rfl⟩ ?_
  rintro k z y M2 ⟨p1, q1, m, ha, sA, ho, sO, rfl, b0, rfl, b1, b2, b3, b4, ⟨b5, b6, b7⟩, b8, b9, b10, b11, b12⟩
  try dsimp only
  unfold lb13_16
  refine wp_ite (fun d => ?_) (fun d => ?_)
  · obtain ⟨k, rfl⟩ : ∃ k2, k = k2 + 1 := ⟨k - 1, by omega⟩
    rw [condL] at b12
    have hp1 := b2.pn
    refine wp_obnd (hf M2 p1 q1 _ b2 ⟨fun e M3 g1 g2 g3 => ?_, fun p2 s q2 M3 g1 g2 g3 g4 g5 g6 g7 g8 g9 => ?_⟩)
    · refine wp_pos rfl (wp_o (wp_some (hP.1 e M3 ?_ (b1.trans g2) g3)))
      try dsimp only
      rw [← b12, g1]
      rfl
    · have hp2 := (hok p1 hp1).1.2 p2 s g1
      have hbs := (hok p1 hp1).2 p2 s g1
      rw [g1] at b12
      have b12' : (if pkN B n p2 = 38 then condL B n pc k (p2 + 1) true (if ha then andS sA s else s) ho sO
    else if pkN B n p2 = 124 then condL B n pc k (p2 + 1) false zS true (if ho then orS sO (if ha then andS sA s else s) else if ha then andS sA s else s)
    else .inr (p2, if ho then orS sO (if ha then andS sA s else s) else if ha then andS sA s else s)) = condL B n pc n p false zS false zS := b12
      have hS2 : tS r n B wk M3 p2 q2 := b2.fr g2 g3 g4 hp2.2.1 (by have := b2.qp; omega)
      have hq2 := hS2.qp
      have hb1 : bitS (if ha then andS sA s else s) := bit_if (bit_and hbs) hbs
      -- the chain, before its piece
      have hA : if ha then aG (cd r M3) m q1 sA else m = q1 := by
        cases ha with
        | false => exact b9
        | true => exact aG.cg b9 b6 (fun i _ h2 => g7 i h2)
      have hO : if ho then oG (cd r M3) q m sO else q = m := by
        cases ho with
        | false => exact b8
        | true => exact oG.cg b8 b5 (fun i _ h2 => g7 i (by omega))
      have hK : okC (cd r M3) q q2 := ok_app (b := q1) (ok_cg b4 (fun i _ h2 => g7 i h2)) g8
      have hq0 : ∀ i, i < q → cd r M3 i = cd r M i := fun i hi => (g7 i (by omega)).trans (b3 i hi)
      try dsimp only
      refine wp_neg (by decide) (wp_bind (w23 hS2 ?_))
      refine wp_ite (fun d2 => ?_) (fun d2 => ?_)
      · rw [if_pos d2] at b12'
        have hlt := pkI_ d2 (by decide)
        have hc3 : ∀ i, i < q2 → cd r (emT r M3 q2 38 (-1)) i = cd r M3 i := fun i hi => cd_em hi
        refine wp_bind (w14 hS2 ?_)
        unfold f13_89
        rw [em_j (by decide : (3 : Nat) ≠ 2), g3]
        refine wp_gd (by omega) (wp_mlet (wp_gd (by omega) (wp_i3 k (by omega) ⟨p2 + 1, q2 + 1, m, true, if ha then andS sA s else s, ho, sO, by omega, by omega, rfl, (b1.trans g2).trans (frT.em.trans (frT.st (by omega))), ?_, fun i hi => cd_st.trans ((hc3 i (by omega)).trans (hq0 i hi)), ok_cg (C := cd r (emT r M3 q2 38 (-1))) (ok_app (b := q2) (ok_cg hK (fun i _ h2 => hc3 i h2)) (ok_one cd_emq (by unfold okS; omega) (fun z => by omega))) (fun i _ _ => cd_st), ⟨b5, by omega, by omega⟩, ?_, ?_, hb1, b11, b12'⟩)))
        · refine hS2.fr (frT.em.trans (frT.st (by omega))) (by rw [ms_v]; omega) ((ms_i (by decide)).trans em_2) (by omega) (by omega)
        · cases ho with
          | false => exact hO
          | true => exact oG.cg hO b5 (fun i _ h2 => cd_st.trans (hc3 i (by omega)))
        · refine c_andJ ha (s1 := sA) (b := q1) ?_ b10 hbs (cG.cg g9 g5 (fun i _ h2 => cd_st.trans (hc3 i h2))) b6 g5 (cd_st.trans cd_emq)
          cases ha with
          | false => exact hA
          | true => exact aG.cg hA b6 (fun i _ h2 => cd_st.trans (hc3 i (by omega)))
      · rw [if_neg d2] at b12'
        refine wp_bind (w21 hS2 (by omega : m ≤ q2) (fun M4 k1 k2 k3 => ?_))
        have f4 : frT r M3 M4 := ⟨fun b _ _ h3 => k1 b h3, fun j _ _ _ => by rw [k1 r (by omega)]⟩
        have hS4 : tS r n B wk M4 p2 q2 := hS2.fr f4 (by rw [k1 r (by omega)]; exact g3) (by rw [k1 r (by omega)]; exact g4) hp2.2.1 hq2
        have hC4 : cG (cd r M4) m q2 (if ha then andS sA s else s) := c_andE ha hA b10 g9 b6 g5 k2
        have hK4 : okC (cd r M4) q q2 := ok_app (b := m) (ok_cg (fun i h1 h2 => hK i h1 (by omega)) (fun i _ h2 => k3 i h2)) (ok_pt (fun i h1 h2 => hK i (by omega) h2) k2 (by unfold okS; omega) (by decide))
        have hO4 : if ho then oG (cd r M4) q m sO else q = m := by
          cases ho with
          | false => exact hO
          | true => exact oG.cg hO b5 (fun i _ h2 => k3 i h2)
        refine wp_ite (fun d3 => ?_) (fun d3 => ?_)
        · rw [if_pos d3] at b12'
          have hlt := pkI_ d3 (by decide)
          have hc3 : ∀ i, i < q2 → cd r (emT r M4 q2 124 (-1)) i = cd r M4 i := fun i hi => cd_em hi
          refine wp_bind (w14 hS4 ?_)
          unfold f13_89
          rw [em_j (by decide : (3 : Nat) ≠ 2), hS4.pP, em_2]
          refine wp_gd (by omega) (wp_mlet (wp_gd (by omega) (wp_i3 k (by omega) ⟨p2 + 1, q2 + 1, q2 + 1, false, zS, true, if ho then orS sO (if ha then andS sA s else s) else if ha then andS sA s else s, by omega, by omega, rfl, ((b1.trans g2).trans f4).trans (frT.em.trans (frT.st (by omega))), ?_, fun i hi => cd_st.trans ((hc3 i (by omega)).trans ((k3 i (by omega)).trans (hq0 i hi))), ok_cg (C := cd r (emT r M4 q2 124 (-1))) (ok_app (b := q2) (ok_cg hK4 (fun i _ h2 => hc3 i h2)) (ok_one cd_emq (by unfold okS; omega) (fun z => by omega))) (fun i _ _ => cd_st), ⟨by omega, by omega, by omega⟩, ?_, rfl, bit_z, bit_if (bit_or hb1) hb1, b12'⟩)))
          · refine hS4.fr (frT.em.trans (frT.st (by omega))) (by rw [ms_v]; omega) ((ms_i (by decide)).trans em_2) (by omega) (by omega)
          · refine c_orJ ho (s1 := sO) (a := m) ?_ b11 hb1 (cG.cg hC4 (by omega) (fun i _ h2 => cd_st.trans (hc3 i h2))) b5 (by omega) (cd_st.trans cd_emq)
            cases ho with
            | false => exact hO4
            | true => exact oG.cg hO4 b5 (fun i _ h2 => cd_st.trans (hc3 i (by omega)))
        · rw [if_neg d3] at b12'
          refine wp_o (wp_bind (w21 hS4 (by omega : q ≤ q2) (fun M5 j1 j2 j3 => wp_some ?_)))
          have f5 : frT r M4 M5 := ⟨fun b _ _ h3 => j1 b h3, fun j _ _ _ => by rw [j1 r (by omega)]⟩
          exact hP.2 p2 _ q2 M5 b12'.symm (((b1.trans g2).trans f4).trans f5) (by rw [j1 r (by omega)]; exact hS4.pP) (by rw [j1 r (by omega)]; exact hS4.qP) (by omega) (by omega) (fun i hi => (j3 i hi).trans ((k3 i (by omega)).trans (hq0 i hi))) (ok_pt hK4 j2 (by unfold okS; omega) (by decide)) (c_orE ho hO4 b11 hC4 b5 (by omega) j2)
  · have hk : k = 0 := by omega
    subst hk
    refine wp_o (w27' (by decide) b2 (fun M3 q1 _ q3 => hP.1 _ M3 ?_ (b1.trans q1) q3))
    try dsimp only
    rw [← b12]
    rfl
end RD2
