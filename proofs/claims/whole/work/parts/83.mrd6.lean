/-- the rest of a clause, behind its letter -/
noncomputable def cdS (B : Nat → Int) (n : Nat) (wk : Bool) (p : Nat) : Rs := if pkN B n p = 40 then sb (condD B n wk 5 (p + 1)) (fun q s => if pkN B n q = 41 then .inr (q + 1, s) else flt 1 q) else flt 1 p
section MR6
variable {n : Nat} {B : Nat → Int} {wk : Bool}
theorem clP_cd {p len : Nat} (h : pkN B n p = 116 ∨ pkN B n p = 111) (hl : ¬ 12 ≤ len) : clP B n p len = (match cdS B n (decide (pkN B n p = 111)) (p + 1) with | .inl e => .inl e | .inr x => .inr (x.1, decide (pkN B n p = 111), x.2)) := by
  unfold clP cdS
  rw [if_pos h, if_neg hl]
  by_cases h3 : pkN B n (p + 1) = 40
  · rw [if_pos h3, if_pos h3]
    cases condD B n (decide (pkN B n p = 111)) 5 (p + 1 + 1) with
    | inl e => rfl
    | inr x =>
      show (if pkN B n x.1 = 41 then (Sum.inr (x.1 + 1, decide (pkN B n p = 111), x.2) : Int ⊕ (Nat × Bool × Sem)) else .inl (-1000 - (x.1 : Nat))) = (match (if pkN B n x.1 = 41 then (.inr (x.1 + 1, x.2) : Rs) else flt 1 x.1) with | .inl e => .inl e | .inr x => .inr (x.1, decide (pkN B n p = 111), x.2))
      by_cases h4 : pkN B n x.1 = 41
      · rw [if_pos h4, if_pos h4]
      · rw [if_neg h4, if_neg h4]
        rfl
  · rw [if_neg h3, if_neg h3]
    rfl
theorem cdS_b {p p2 : Nat} {s : Sem} (hn : n ≤ 160) (hp : p ≤ n) (h : cdS B n wk p = .inr (p2, s)) : p < p2 ∧ p2 ≤ n ∧ extS wk s := by
  unfold cdS at h
  by_cases h3 : pkN B n p = 40
  · rw [if_pos h3] at h
    have hlt := pkI_ h3 (by decide)
    have hok := (ok_condD (B := B) (wk := wk) (d := 5) hn (show p + 1 ≤ n by omega)).1
    cases hc : condD B n wk 5 (p + 1) with
    | inl e =>
      rw [hc] at h
      cases h
    | inr x =>
      rw [hc] at h
      have h' : (if pkN B n x.1 = 41 then (.inr (x.1 + 1, x.2) : Rs) else flt 1 x.1) = .inr (p2, s) := h
      by_cases h4 : pkN B n x.1 = 41
      · rw [if_pos h4] at h'
        have h41 := pkI_ h4 (by decide)
        obtain ⟨g1, g2, g3⟩ := hok.2 x.1 x.2 hc
        injection h' with h'
        injection h' with h1 h2
        rw [← h2]
        exact ⟨by omega, by omega, g3⟩
      · rw [if_neg h4] at h'
        cases h'
  · rw [if_neg h3] at h
    cases h
theorem cdS_e {p : Nat} {e : Int} (hn : n ≤ 160) (hp : p ≤ n) (h : cdS B n wk p = .inl e) : e < 0 := by
  unfold cdS at h
  by_cases h3 : pkN B n p = 40
  · rw [if_pos h3] at h
    have hlt := pkI_ h3 (by decide)
    have hok := (ok_condD (B := B) (wk := wk) (d := 5) hn (show p + 1 ≤ n by omega)).1
    cases hc : condD B n wk 5 (p + 1) with
    | inl e2 =>
      rw [hc] at h
      have h2 : e2 = e := by injection h
      have := hok.1 e2 hc
      omega
    | inr x =>
      rw [hc] at h
      have h' : (if pkN B n x.1 = 41 then (.inr (x.1 + 1, x.2) : Rs) else flt 1 x.1) = .inl e := h
      by_cases h4 : pkN B n x.1 = 41
      · rw [if_pos h4] at h'
        cases h'
      · rw [if_neg h4] at h'
        have h2 : -1000 * 1 - (x.1 : Int) = e := by injection h'
        omega
  · rw [if_neg h3] at h
    have h2 : -1000 * 1 - (p : Int) = e := by injection h
    omega
/-- what stands between brackets, of a clause -/
theorem w94 {M : Mm} {p c : Nat} {P : Mm → Prop} (h0 : mH n B wk M) (hp : M 142 44 = p) (hpn : p ≤ n) (hg : M 142 46 = 0) (hc : M 142 48 = c) (hcp : c ≤ p) (hib : M 142 52 = 0)
    (kE : ∀ (e : Int) (M2 : Mm), cdS B n wk p = .inl e → mB M e M2 → P M2)
    (kO : ∀ (p2 : Nat) (s : Sem) (c2 : Nat) (M2 : Mm), cdS B n wk p = .inr (p2, s) → frN M M2 → M2 142 44 = p2 → M2 142 46 = 0 → M2 142 48 = c2 → c ≤ c2 → c2 ≤ p2 → (∀ i, i < c → cm3 M2 i = cm3 M i) → mG (cm3 M2) wk c c2 s true → okM (cm3 M2) wk c c2 → M2 142 52 = 0 → P M2) : Wp (f94 M) P := by
  have hn := h0.n160
  unfold f94
  refine wp_mlet (wp_mlet (wp_mlet ?_))
  have hW : mW M c n p 0 [] c (ms (ms (ms M 142 50 0) 142 49 0) 142 51 0) := by
    refine ⟨((frN.st (by omega)).trans (frN.st (by omega))).trans (frN.st (by omega)), fun i hi => by rw [c3_st, c3_st, c3_st], Nat.le_refl _, ?_, ?_, ?_, ?_, ?_, trivial, hpn, hcp, ms_v, ?_⟩
    · rw [ms_i (by decide), ms_i (by decide), ms_i (by decide)]; exact hp
    · rw [ms_i (by decide), ms_i (by decide), ms_i (by decide)]; exact hg
    · rw [ms_i (by decide), ms_i (by decide), ms_i (by decide)]; exact hc
    · rw [ms_i (by decide), ms_v]; rfl
    · rw [ms_i (by decide), ms_i (by decide), ms_v]; rfl
    · rw [ms_i (by decide), ms_i (by decide), ms_i (by decide)]; exact hib
  have hc0 : ∀ i, cm3 (ms (ms (ms M 142 50 0) 142 49 0) 142 51 0) i = cm3 M i := fun i => by rw [c3_st, c3_st, c3_st]
  generalize ms (ms (ms M 142 50 0) 142 49 0) 142 51 0 = M5 at hW hc0 ⊢
  unfold cdS at kE kO
  refine wp_bind (w120 h0 hW.f hW.pP (wp_ite (fun d => ?_) (fun d => ?_)))
  · have d' := (hr_eq h0 (by decide)).mp d
    have hlt := pkI_ d' (by decide)
    rw [if_pos d'] at kE kO
    unfold f94_33
    refine wp_bind (w124g hW.g (wp_neg (by decide) (wp_bind (w150 h0 hW hlt (by decide) (fun z => absurd z (by decide)) (fun _ M6 q1 q2 => ?_)))))
    rw [d'] at q1
    unfold f94_47
    refine it_lp (k := n - (p + 1) + 4) (by omega) (h_PC q1 hn ?_)
    refine m_condD h0 (p + 1) [] c M6 P q1 (fun e M2 g1 g2 => kE e M2 (by rw [g1]; rfl) g2) (fun q s M2 g1 g2 g3 => kE _ M2 (by rw [g1]; exact if_neg g2) g3) (fun q s ha ho sA sO sF c3 M3 g1 g2 g3 g4 g5 g6 g7 g8 => ?_)
    have hqn := pkI_ g2 (by decide)
    rw [g1] at kO
    have kO' : ∀ (p2 : Nat) (s2 : Sem) (c2 : Nat) (M2 : Mm), (if pkN B n q = 41 then (.inr (q + 1, s) : Rs) else flt 1 q) = .inr (p2, s2) → frN M M2 → M2 142 44 = p2 → M2 142 46 = 0 → M2 142 48 = c2 → c ≤ c2 → c2 ≤ p2 → (∀ i, i < c → cm3 M2 i = cm3 M i) → mG (cm3 M2) wk c c2 s2 true → okM (cm3 M2) wk c c2 → M2 142 52 = 0 → P M2 := kO
    rw [if_pos g2] at kO'
    unfold PB f94_69
    refine wp_bind (w124g g4.g (wp_neg (by decide) (wp_obnd ?_)))
    unfold f114
    refine wp_bind (w120 h0 g4.f g4.pP ?_)
    rw [hr_pk hqn, g2]
    refine wp_neg (by decide) (wp_neg (by decide) (wp_pos rfl (wp_bind (w138T hn g4 g7 g8 (fun M4 c4 k1 k2 k3 k4 k5 => ?_)))))
    rw [← g3] at k4
    have kl : M4 142 50 = 1 := k1.l
    have kcp := k1.cp
    rw [List.length_cons] at kcp
    rw [kl]
    refine wp_gd (by omega) (wp_mlet ?_)
    rw [ms_i (by decide : (49 : Nat) ≠ 50), k1.oP]
    refine wp_gd (by omega) (wp_mlet ?_)
    rw [ms_i (by decide : (44 : Nat) ≠ 49), ms_i (by decide : (44 : Nat) ≠ 50), k1.pP]
    refine wp_gd (by omega) (wp_mlet ?_)
    refine wp_pos (by rw [ms_i (by decide), ms_i (by decide), ms_v]; decide) (wp_mlet (wp_neg (by rw [ms_v]; decide) (wp_some (wp_some ?_))))
    show Wp (iter _ (n - q + 3) _) P
    refine it_step (k := n - q + 2) ?_
    try dsimp only
    unfold lb94_47
    have gz : ms (ms (ms (ms M4 142 50 (1 - 1)) 142 49 (((1 : Nat) : Int) - 1)) 142 44 ((q : Int) + 1)) 142 51 1 142 46 = 0 := by
      rw [ms_i (by decide), ms_i (by decide), ms_i (by decide), ms_i (by decide)]
      exact k1.g
    have hc3 : ∀ i, cm3 (ms (ms (ms (ms M4 142 50 (1 - 1)) 142 49 (((1 : Nat) : Int) - 1)) 142 44 ((q : Int) + 1)) 142 51 1) i = cm3 M4 i := fun i => by rw [c3_st, c3_st, c3_st, c3_st]
    refine wp_bind (w124g gz (wp_neg (by decide) (wp_neg (by rw [ms_v]; decide) (wp_o (wp_some ?_)))))
    refine kO' (q + 1) s c4 _ rfl ((((k1.f.trans (frN.st (by omega))).trans (frN.st (by omega))).trans (frN.st (by omega))).trans (frN.st (by omega))) ?_ gz ?_ (by omega) (by omega) (fun i hi => (hc3 i).trans ((k3 i (by omega)).trans ((g6 i hi).trans ((q2 i).trans (hc0 i))))) (k4.cg (by omega) (fun i _ _ => hc3 i)) (okM_cg k5 (fun i _ _ => hc3 i)) ?_
    · rw [ms_i (by decide), ms_v]; omega
    · rw [ms_i (by decide), ms_i (by decide), ms_i (by decide), ms_i (by decide)]; exact k1.cP
    · rw [ms_i (by decide), ms_i (by decide), ms_i (by decide), ms_i (by decide)]; exact k1.ib
  · have d' : pkN B n p ≠ 40 := fun y => d ((hr_eq h0 (by decide)).mpr y)
    rw [if_neg d'] at kE
    rw [hW.pP]
    refine wp_bind (w190 hW.f hW.g hW.ib (by decide) (by omega) (fun M6 q1 q2 q3 => ?_))
    unfold f94_33
    exact wp_bind (w124b (by rw [q1.2.1]; omega) (wp_pos rfl (wp_some (kE _ M6 rfl q1))))
/-- the new clauses so far -/
def txN (l : List (Bool × Sem)) (M : Mm) (c : Nat) : Prop := M 142 47 = l.length ∧ l.length ≤ 12 ∧ ∃ e : Nat → Nat, e l.length = c ∧ ∀ (j : Nat) (x : Bool × Sem), l[j]? = some x → e j ≤ e (j + 1) ∧ e (j + 1) ≤ c ∧ M 172 j = (if x.1 then 111 else 116) ∧ M 173 j = e j ∧ M 174 j = e (j + 1) ∧ okM (cm3 M) x.1 (e j) (e (j + 1)) ∧ mG (cm3 M) x.1 (e j) (e (j + 1)) x.2 true
/-- where a clause begins -/
def mV (n p c : Nat) (B : Nat → Int) (M : Mm) : Prop := M 142 44 = p ∧ p ≤ n ∧ M 142 45 = n ∧ n ≤ 160 ∧ M 142 46 = 0 ∧ M 142 48 = c ∧ c ≤ p ∧ M 142 52 = 0 ∧ (∀ i, i < n → bAnd (M 143 i) 255 = B i) ∧ ∀ i, i < n → 0 ≤ B i ∧ B i ≤ 255
def frV (M M2 : Mm) : Prop := (∀ b, b ≠ 142 → (b < 172 ∨ 177 < b) → M2 b = M b) ∧ ∀ j, (j < 44 ∨ 52 < j) → M2 142 j = M 142 j
theorem frV.trans {M M2 M3 : Mm} (h : frV M M2) (g : frV M2 M3) : frV M M3 := ⟨fun b h1 h2 => (g.1 b h1 h2).trans (h.1 b h1 h2), fun j hj => (g.2 j hj).trans (h.2 j hj)⟩
theorem frN.V {M M2 : Mm} (h : frN M M2) : frV M M2 := ⟨fun b h1 h2 => h.1 b h1 (by omega) (by omega) (by omega), fun j hj => h.2 j (by omega) (by omega) (by omega) (by omega) (by omega) (by omega) (by omega)⟩
theorem frV.st {M : Mm} {j : Nat} {v : Int} (hj : 44 ≤ j ∧ j ≤ 52) : frV M (ms M 142 j v) := ⟨fun b h1 _ => ms_a h1, fun i hi => ms_i (by omega)⟩
theorem frV.sa {M : Mm} {b i : Nat} {v : Int} (hb : 172 ≤ b ∧ b ≤ 177) : frV M (ms M b i v) := ⟨fun d h1 h2 => ms_a (by omega), fun j hj => by rw [ms_a (by omega)]⟩
theorem w120v {M : Mm} {p c : Nat} {P : Int → Prop} (h : mV n p c B M) (k : P (hrN B n p)) : Wp (f120 M) P := by
  obtain ⟨h1, h2, h3, h4, h5, h6, h7, h8, h9, h10⟩ := h
  unfold f120
  unfold hrN at k
  rw [h1, h3]
  refine wp_ite (fun d => wp_gd (by omega) (wp_some ?_)) (fun d => wp_some ?_)
  · rw [if_pos (by omega)] at k
    rw [Int.toNat_natCast, h9 p (by omega)]
    exact k
  · rw [if_neg (by omega)] at k
    exact k
theorem hrv_eq {M : Mm} {p c : Nat} (h : mV n p c B M) {x : Int} (hx : 0 < x) : hrN B n p = x ↔ pkN B n p = x := by
  unfold hrN pkN
  by_cases q : p < n
  · rw [if_pos q, if_pos q]
  · rw [if_neg q, if_neg q]
    omega
/-- a first fault, at the top -/
theorem w190v {M : Mm} {e : Int} {p : Nat} {P : Mm → Prop} (hg : M 142 46 = 0) (he : 0 ≤ e ∧ e ≤ 5) (hp : p ≤ 1000) (k : P (ms M 142 46 (-1000 * e - p))) : Wp (f190 e (p : Int) M) P := by
  unfold f190
  rw [hg]
  exact wp_neg (by decide) (wp_gd (by omega) (wp_gd (by omega) (wp_mlet (wp_some k))))
theorem clP_e {p len : Nat} {e : Int} (hn : n ≤ 160) (hp : p ≤ n) (h : clP B n p len = .inl e) : e < 0 := by
  by_cases h1 : pkN B n p = 116 ∨ pkN B n p = 111
  · by_cases h2 : 12 ≤ len
    · unfold clP at h
      rw [if_pos h1, if_pos h2] at h
      have h3 : -4000 - (p : Int) = e := by injection h
      omega
    · rw [clP_cd h1 h2] at h
      have hlt : p < n := pk_ne (B := B) (fun z => by omega)
      cases hc : cdS B n (decide (pkN B n p = 111)) (p + 1) with
      | inl e2 =>
        rw [hc] at h
        have h3 : e2 = e := by injection h
        have := cdS_e hn (by omega) hc
        omega
      | inr x =>
        rw [hc] at h
        cases h
  · unfold clP at h
    rw [if_neg h1] at h
    have h3 : -1000 - (p : Int) = e := by injection h
    omega
theorem w91 {l : List (Bool × Sem)} {M : Mm} {p c : Nat} {P : Mm → Prop} (h : mV n p c B M) (hl : txN l M c)
    (kE : ∀ (e : Int) (M2 : Mm), clP B n p l.length = .inl e → e < 0 → frV M M2 → M2 142 46 = e → M2 142 52 = 0 → P M2)
    (kO : ∀ (p2 : Nat) (x : Bool × Sem) (c2 : Nat) (M2 : Mm), clP B n p l.length = .inr (p2, x) → frV M M2 → mV n p2 c2 B M2 → txN (l ++ [x]) M2 c2 → P M2) : Wp (f91 M) P := by
  obtain ⟨v1, v2, v3, v4, v5, v6, v7, v8, v9, v10⟩ := id h
  obtain ⟨t1, t2, e, t3, t4⟩ := hl
  unfold f91
  refine wp_bind (w120v h ?_)
  -- a fault ahead of all
  have bad : ∀ (e : Int) (y : Int), e < 0 → clP B n p l.length = .inl e → Wp (f91_47 y (ms M 142 46 e)) P := fun e y q1 q2 => by
    unfold f91_47
    exact wp_bind (w124b (by rw [ms_v]; exact q1) (wp_pos rfl (wp_some (kE e _ q2 q1 (frV.st (by omega)) ms_v ((ms_i (by decide)).trans v8)))))
  have go : (pkN B n p = 116 ∨ pkN B n p = 111) → Wp (f91_29 (hrN B n p) M) P := fun d => by
    have hlt : p < n := pk_ne (B := B) (fun z => by omega)
    unfold f91_29
    rw [t1, v1]
    refine wp_ite (fun d2 => wp_bind (w190v v5 (by decide) (by omega) (bad _ _ (by omega) ?_))) (fun d2 => ?_)
    · unfold clP
      rw [if_pos d, if_pos (by omega)]
      rfl
    · have hcl := clP_cd (len := l.length) d (by omega)
      rw [hcl] at kE kO
      unfold f91_47
      refine wp_bind (w124g v5 (wp_neg (by decide) ?_))
      rw [t1, Int.toNat_natCast]
      refine wp_gd (by omega) (wp_mlet ?_)
      rw [ms_a (by decide : (142 : Nat) ≠ 172), t1, v6, Int.toNat_natCast]
      refine wp_gd (by omega) (wp_mlet ?_)
      rw [ms_a (by decide : (142 : Nat) ≠ 173), ms_a (by decide : (142 : Nat) ≠ 172), v1]
      refine wp_gd (by omega) (wp_mlet ?_)
      have m172 : ms (ms (ms M 172 l.length (hrN B n p)) 173 l.length (c : Int)) 142 44 ((p : Int) + 1) 172 = ms M 172 l.length (hrN B n p) 172 := by rw [ms_a (by decide), ms_a (by decide)]
      have m173 : ms (ms (ms M 172 l.length (hrN B n p)) 173 l.length (c : Int)) 142 44 ((p : Int) + 1) 173 = ms (ms M 172 l.length (hrN B n p)) 173 l.length (c : Int) 173 := by rw [ms_a (by decide)]
      have ma : ∀ b, b ≠ 142 → b ≠ 172 → b ≠ 173 → ms (ms (ms M 172 l.length (hrN B n p)) 173 l.length (c : Int)) 142 44 ((p : Int) + 1) b = M b := fun b h1 h2 h3 => by rw [ms_a h1, ms_a h3, ms_a h2]
      have mj : ∀ j, j ≠ 44 → ms (ms (ms M 172 l.length (hrN B n p)) 173 l.length (c : Int)) 142 44 ((p : Int) + 1) 142 j = M 142 j := fun j hj => by rw [ms_i hj, ms_a (by decide), ms_a (by decide)]
      have m44 : ms (ms (ms M 172 l.length (hrN B n p)) 173 l.length (c : Int)) 142 44 ((p : Int) + 1) 142 44 = (p + 1 : Nat) := by rw [ms_v]; omega
      have fv : frV M (ms (ms (ms M 172 l.length (hrN B n p)) 173 l.length (c : Int)) 142 44 ((p : Int) + 1)) := ((frV.sa (by omega)).trans (frV.sa (by omega))).trans (frV.st (by omega))
      generalize ms (ms (ms M 172 l.length (hrN B n p)) 173 l.length (c : Int)) 142 44 ((p : Int) + 1) = M1 at m172 m173 ma mj m44 fv ⊢
      have c1 : ∀ i, cm3 M1 i = cm3 M i := fun i => by unfold cm3; rw [ma 175 (by decide) (by decide) (by decide), ma 176 (by decide) (by decide) (by decide)]
      have e47 : M1 142 47 = l.length := (mj 47 (by decide)).trans t1
      have hwk : hrN B n p = (if decide (pkN B n p = 111) = true then 111 else 116) := by
        rw [hr_pk hlt]
        rcases d with d | d
        · rw [d]; rfl
        · rw [d]; rfl
      have hH : mH n B (decide (pkN B n p = 111)) M1 := ⟨(mj 45 (by decide)).trans v3, v4, fun i hi => by rw [ma 143 (by decide) (by decide) (by decide)]; exact v9 i hi, v10, by rw [e47]; omega, by rw [e47, Int.toNat_natCast, m172, ms_v]; exact hwk⟩
      refine wp_bind (w94 hH m44 (by omega) ((mj 46 (by decide)).trans v5) ((mj 48 (by decide)).trans v6) (by omega) ((mj 52 (by decide)).trans v8) (fun e2 M2 g1 g2 => ?_) (fun p2 s c2 M2 g1 g2 g3 g4 g5 g6 g7 g8 g9 g10 g11 => ?_))
      · have f47 : M2 142 47 = l.length := (g2.1.2 47 (by decide) (by decide) (by decide) (by decide) (by decide) (by decide) (by decide)).trans e47
        rw [g1] at kE
        rw [f47, Int.toNat_natCast]
        refine wp_gd (by omega) (wp_mlet ?_)
        rw [ms_a (by decide : (142 : Nat) ≠ 174), f47]
        refine wp_gd (by omega) (wp_mlet (wp_some (kE e2 _ rfl (cdS_e v4 (by omega) g1) (((fv.trans g2.1.V).trans (frV.sa (by omega))).trans (frV.st (by omega))) ?_ ?_)))
        · rw [ms_i (by decide), ms_a (by decide)]; exact g2.2.1
        · rw [ms_i (by decide), ms_a (by decide)]; exact g2.2.2
      · have f47 : M2 142 47 = l.length := (g2.2 47 (by decide) (by decide) (by decide) (by decide) (by decide) (by decide) (by decide)).trans e47
        have hp2 := cdS_b v4 (by omega) g1
        rw [g1] at kO
        rw [f47, g5, Int.toNat_natCast]
        refine wp_gd (by omega) (wp_mlet ?_)
        rw [ms_a (by decide : (142 : Nat) ≠ 174), f47]
        refine wp_gd (by omega) (wp_mlet (wp_some ?_))
        have n174 : ms (ms M2 174 l.length (c2 : Int)) 142 47 ((l.length : Int) + 1) 174 = ms M2 174 l.length (c2 : Int) 174 := by rw [ms_a (by decide)]
        have na : ∀ b, b ≠ 142 → b ≠ 174 → ms (ms M2 174 l.length (c2 : Int)) 142 47 ((l.length : Int) + 1) b = M2 b := fun b h1 h2 => by rw [ms_a h1, ms_a h2]
        have nj : ∀ j, j ≠ 47 → ms (ms M2 174 l.length (c2 : Int)) 142 47 ((l.length : Int) + 1) 142 j = M2 142 j := fun j hj => by rw [ms_i hj, ms_a (by decide)]
        have n47 : ms (ms M2 174 l.length (c2 : Int)) 142 47 ((l.length : Int) + 1) 142 47 = l.length + 1 := ms_v
        have fv2 : frV M (ms (ms M2 174 l.length (c2 : Int)) 142 47 ((l.length : Int) + 1)) := ((fv.trans g2.V).trans (frV.sa (by omega))).trans (frV.st (by omega))
        generalize ms (ms M2 174 l.length (c2 : Int)) 142 47 ((l.length : Int) + 1) = M3 at n174 na nj n47 fv2 ⊢
        have k2 : ∀ b, b ≠ 142 → b ≠ 175 → b ≠ 176 → b ≠ 177 → M2 b = M1 b := g2.1
        have c3 : ∀ i, cm3 M3 i = cm3 M2 i := fun i => by unfold cm3; rw [na 175 (by decide) (by decide), na 176 (by decide) (by decide)]
        have c4 : ∀ i, i < c → cm3 M3 i = cm3 M i := fun i hi => (c3 i).trans ((g8 i hi).trans (c1 i))
        have e172 : M3 172 = ms M 172 l.length (hrN B n p) 172 := by rw [na 172 (by decide) (by decide), k2 172 (by decide) (by decide) (by decide) (by decide)]; exact m172
        have e173 : M3 173 = ms (ms M 172 l.length (hrN B n p)) 173 l.length (c : Int) 173 := by rw [na 173 (by decide) (by decide), k2 173 (by decide) (by decide) (by decide) (by decide)]; exact m173
        have e174 : ∀ j, j ≠ l.length → M3 174 j = M 174 j := fun j hj => by rw [n174, ms_i hj, k2 174 (by decide) (by decide) (by decide) (by decide), ma 174 (by decide) (by decide) (by decide)]
        have hlen : (l ++ [(decide (pkN B n p = 111), s)]).length = l.length + 1 := by rw [List.length_append]; rfl
        refine kO p2 (decide (pkN B n p = 111), s) c2 M3 rfl fv2 ⟨by rw [nj 44 (by decide)]; exact g3, hp2.2.1, ?_, v4, (nj 46 (by decide)).trans g4, (nj 48 (by decide)).trans g5, g7, (nj 52 (by decide)).trans g11, ?_, v10⟩ ⟨by rw [n47, hlen]; omega, by omega, fun j => if j = l.length + 1 then c2 else e j, by dsimp only; rw [hlen, if_pos rfl], fun j x hx => ?_⟩
        · rw [nj 45 (by decide), g2.2 45 (by decide) (by decide) (by decide) (by decide) (by decide) (by decide) (by decide), mj 45 (by decide)]; exact v3
        · intro i hi
          rw [na 143 (by decide) (by decide), k2 143 (by decide) (by decide) (by decide) (by decide), ma 143 (by decide) (by decide) (by decide)]
          exact v9 i hi
        · dsimp only
          have hj : j < l.length + 1 := by
            have := (List.getElem?_eq_some_iff.mp hx).1
            omega
          rw [if_neg (by omega : ¬ j = l.length + 1)]
          by_cases e1 : j = l.length
          · subst e1
            have hxx : x = (decide (pkN B n p = 111), s) := by
              rw [List.getElem?_append_right (Nat.le_refl _), Nat.sub_self] at hx
              injection hx with hx
              exact hx.symm
            subst hxx
            rw [if_pos rfl, t3]
            exact ⟨g6, Nat.le_refl _, by rw [e172, ms_v]; exact hwk, by rw [e173, ms_v], by rw [n174, ms_v], okM_cg g10 (fun i _ _ => c3 i), g9.cg g6 (fun i _ _ => c3 i)⟩
          · rw [if_neg (by omega)]
            rw [List.getElem?_append_left (by omega)] at hx
            obtain ⟨b1, b2, b3, b4, b5, b6, b7⟩ := t4 j x hx
            exact ⟨b1, by omega, by rw [e172, ms_i e1]; exact b3, by rw [e173, ms_i e1, ms_a (by decide)]; exact b4, by rw [e174 j e1]; exact b5, okM_cg b6 (fun i _ h2 => c4 i (by omega)), b7.cg b1 (fun i _ h2 => c4 i (by omega))⟩
  refine wp_ite (fun d => go (Or.inl ((hrv_eq h (by decide)).mp d))) (fun d => wp_ite (fun d2 => go (Or.inr ((hrv_eq h (by decide)).mp d2))) (fun d2 => ?_))
  rw [v1]
  refine wp_bind (w190v v5 (by decide) (by omega) (bad _ _ (by omega) ?_))
  unfold clP
  rw [if_neg (fun z => by rcases z with z | z; exact d ((hrv_eq h (by decide)).mpr z); exact d2 ((hrv_eq h (by decide)).mpr z))]
  rfl
end MR6
