/-! Reading a text, second object: its stack, its codes. -/
section IT
variable {σ τ : Type} {f : σ → Option (σ ⊕ τ)} {P : τ → Prop} {s : σ}
theorem it_step {k : Nat} (h : Wp (f s) (Sum.elim (fun t => Wp (iter f k t) P) P)) : Wp (iter f (k + 1) s) P := by
  obtain ⟨r, e, h2⟩ := h
  rw [iter, e]
  match r, h2 with
  | .inl t, h2 => exact h2
  | .inr u, h2 => exact wp_some h2
theorem it_mono : ∀ {k k2 : Nat} {s : σ}, k ≤ k2 → Wp (iter f k s) P → Wp (iter f k2 s) P
  | 0, _, _, _, h => h.onone.elim
  | k + 1, k2, s, hk, h => by
    obtain ⟨k2, rfl⟩ : ∃ k3, k2 = k3 + 1 := ⟨k2 - 1, by omega⟩
    obtain ⟨r, e, h2⟩ := h
    rw [iter] at e
    rw [iter]
    match hf : f s, e with
    | .some (.inl t), e => exact it_mono (k := k) (by omega) ⟨r, e, h2⟩
    | .some (.inr u), e => exact ⟨r, e, h2⟩
theorem it_lp {k : Nat} (hk : k ≤ 100000) (h : Wp (iter f k s) P) : Wp (lp f s) P := by
  unfold lp
  rw [fuelE]
  exact it_mono hk h
end IT
def frN (M M2 : Mm) : Prop := (∀ b, b ≠ 142 → b ≠ 175 → b ≠ 176 → b ≠ 177 → M2 b = M b) ∧ ∀ j, j ≠ 44 → j ≠ 46 → j ≠ 48 → j ≠ 49 → j ≠ 50 → j ≠ 51 → j ≠ 52 → M2 142 j = M 142 j
def cm3 (M : Mm) (i : Nat) : Int × Int := (M 175 i, M 176 i)
def hrN (B : Nat → Int) (n p : Nat) : Int := if p < n then B p else 0
/-- what the clause begins on -/
def mH (n : Nat) (B : Nat → Int) (wk : Bool) (M : Mm) : Prop := M 142 45 = n ∧ n ≤ 160 ∧ (∀ i, i < n → bAnd (M 143 i) 255 = B i) ∧ (∀ i, i < n → 0 ≤ B i ∧ B i ≤ 255) ∧ (0 ≤ M 142 47 ∧ M 142 47 < 12) ∧ M 172 (M 142 47).toNat = (if wk then 111 else 116)
/-- all is well: place p, open o, stack ks, codes c -/
def mW (M0 : Mm) (c0 n p o : Nat) (ks : List Int) (c : Nat) (M : Mm) : Prop := frN M0 M ∧ (∀ i, i < c0 → cm3 M i = cm3 M0 i) ∧ c0 ≤ c ∧ M 142 44 = p ∧ M 142 46 = 0 ∧ M 142 48 = c ∧ M 142 49 = o ∧ M 142 50 = ks.length ∧ stR (M 177) ks ∧ p ≤ n ∧ c + ks.length ≤ p ∧ M 142 51 = 0 ∧ M 142 52 = 0
/-- a fault was found -/
def mB (M0 : Mm) (e : Int) (M : Mm) : Prop := frN M0 M ∧ M 142 46 = e ∧ M 142 52 = 0
def puM (M : Mm) (l p : Nat) (x : Int) : Mm := ms (ms (ms M 177 l x) 142 50 ((l : Int) + 1)) 142 44 ((p : Int) + 1)
def emM (M : Mm) (c : Nat) (x y : Int) : Mm := ms (ms (ms M 175 c x) 176 c y) 142 48 ((c : Int) + 1)
section MR1
variable {M0 M : Mm} {c0 n p o c : Nat} {ks : List Int} {B : Nat → Int} {wk : Bool}
theorem frN.refl : frN M M := ⟨fun _ _ _ _ _ => rfl, fun _ _ _ _ _ _ _ _ => rfl⟩
theorem frN.trans {M2 M3 : Mm} (h : frN M M2) (g : frN M2 M3) : frN M M3 := ⟨fun b h1 h2 h3 h4 => (g.1 b h1 h2 h3 h4).trans (h.1 b h1 h2 h3 h4), fun j h1 h2 h3 h4 h5 h6 h7 => (g.2 j h1 h2 h3 h4 h5 h6 h7).trans (h.2 j h1 h2 h3 h4 h5 h6 h7)⟩
theorem frN.st {j : Nat} {v : Int} (hj : j = 44 ∨ j = 46 ∨ j = 48 ∨ j = 49 ∨ j = 50 ∨ j = 51 ∨ j = 52) : frN M (ms M 142 j v) := ⟨fun b h1 _ _ _ => ms_a h1, fun i h1 h2 h3 h4 h5 h6 h7 => ms_i (by omega)⟩
theorem frN.sa {b i : Nat} {v : Int} (hb : b = 175 ∨ b = 176 ∨ b = 177) : frN M (ms M b i v) := ⟨fun d h1 h2 h3 h4 => ms_a (by omega), fun i h1 h2 h3 h4 h5 h6 h7 => by rw [ms_a (by omega)]⟩
theorem mW.f (h : mW M0 c0 n p o ks c M) : frN M0 M := h.1
theorem mW.c0P (h : mW M0 c0 n p o ks c M) : ∀ i, i < c0 → cm3 M i = cm3 M0 i := h.2.1
theorem mW.lc (h : mW M0 c0 n p o ks c M) : c0 ≤ c := h.2.2.1
theorem mW.pP (h : mW M0 c0 n p o ks c M) : M 142 44 = p := h.2.2.2.1
theorem mW.g (h : mW M0 c0 n p o ks c M) : M 142 46 = 0 := h.2.2.2.2.1
theorem mW.cP (h : mW M0 c0 n p o ks c M) : M 142 48 = c := h.2.2.2.2.2.1
theorem mW.oP (h : mW M0 c0 n p o ks c M) : M 142 49 = o := h.2.2.2.2.2.2.1
theorem mW.l (h : mW M0 c0 n p o ks c M) : M 142 50 = ks.length := h.2.2.2.2.2.2.2.1
theorem mW.s (h : mW M0 c0 n p o ks c M) : stR (M 177) ks := h.2.2.2.2.2.2.2.2.1
theorem mW.pn (h : mW M0 c0 n p o ks c M) : p ≤ n := h.2.2.2.2.2.2.2.2.2.1
theorem mW.cp (h : mW M0 c0 n p o ks c M) : c + ks.length ≤ p := h.2.2.2.2.2.2.2.2.2.2.1
theorem mW.ov (h : mW M0 c0 n p o ks c M) : M 142 51 = 0 := h.2.2.2.2.2.2.2.2.2.2.2.1
theorem mW.ib (h : mW M0 c0 n p o ks c M) : M 142 52 = 0 := h.2.2.2.2.2.2.2.2.2.2.2.2
theorem mH.n160 (h : mH n B wk M0) : n ≤ 160 := h.2.1
theorem hr_eq (h : mH n B wk M0) {p : Nat} {x : Int} (hx : 0 < x) : hrN B n p = x ↔ pkN B n p = x := by
  unfold hrN pkN
  by_cases q : p < n
  · rw [if_pos q, if_pos q]
  · rw [if_neg q, if_neg q]
    omega
theorem hr_b (h : mH n B wk M0) (p : Nat) : 0 ≤ hrN B n p ∧ hrN B n p ≤ 255 := by
  unfold hrN
  split
  · exact h.2.2.2.1 p (by assumption)
  · decide
theorem w120 {P : Int → Prop} (h : mH n B wk M0) (hf : frN M0 M) (hp : M 142 44 = (p : Nat)) (k : P (hrN B n p)) : Wp (f120 M) P := by
  have hn := h.n160
  have e45 : M 142 45 = n := (hf.2 45 (by decide) (by decide) (by decide) (by decide) (by decide) (by decide) (by decide)).trans h.1
  have e143 : M 143 = M0 143 := hf.1 143 (by decide) (by decide) (by decide) (by decide)
  unfold f120
  unfold hrN at k
  rw [hp, e45, e143]
  refine wp_ite (fun d => wp_gd (by omega) (wp_some ?_)) (fun d => wp_some ?_)
  · rw [if_pos (by omega)] at k
    rw [Int.toNat_natCast, h.2.2.1 p (by omega)]
    exact k
  · rw [if_neg (by omega)] at k
    exact k
theorem w124g {P : Int → Prop} (hg : M 142 46 = 0) (k : P 1) : Wp (f124 M) P := wp_pos hg (wp_some k)
theorem w124b {P : Int → Prop} (hg : M 142 46 < 0) (k : P 0) : Wp (f124 M) P := wp_neg (by omega) (wp_some k)
/-- a first fault -/
theorem w190 {e : Int} {P : Mm → Prop} (hf : frN M0 M) (hg : M 142 46 = 0) (hib : M 142 52 = 0) (he : 0 ≤ e ∧ e ≤ 5) (hp : p ≤ 1000) (k : ∀ M2 : Mm, mB M0 (-1000 * e - p) M2 → (∀ j, j ≠ 46 → M2 142 j = M 142 j) → (∀ b, b ≠ 142 → M2 b = M b) → P M2) : Wp (f190 e (p : Int) M) P := by
  unfold f190
  rw [hg]
  exact wp_neg (by decide) (wp_gd (by omega) (wp_gd (by omega) (wp_mlet (wp_some (k _ ⟨hf.trans (frN.st (by omega)), ms_v, (ms_i (by decide)).trans hib⟩ (fun j hj => ms_i hj) (fun b hb => ms_a hb))))))
theorem w155 {x : Int} {l : Nat} {P : Mm → Prop} (hl : M 142 50 = (l : Nat)) (hl2 : l < 200) (hp : M 142 44 = (p : Nat)) (hp2 : p ≤ 1000) (k : P (puM M l p x)) : Wp (f155 x M) P := by
  unfold f155
  rw [hl, Int.toNat_natCast]
  refine wp_gd (by omega) (wp_mlet ?_)
  rw [ms_a (by decide : (142 : Nat) ≠ 177), hl]
  refine wp_gd (by omega) (wp_mlet ?_)
  rw [ms_i (by decide : (44 : Nat) ≠ 50), ms_a (by decide : (142 : Nat) ≠ 177), hp]
  exact wp_gd (by omega) (wp_mlet (wp_some k))
theorem frN.pu {x : Int} {l : Nat} : frN M (puM M l p x) := ((frN.sa (by omega)).trans (frN.st (by omega))).trans (frN.st (by omega))
theorem pu_j {x : Int} {l j : Nat} (h1 : j ≠ 50) (h2 : j ≠ 44) : puM M l p x 142 j = M 142 j := by
  unfold puM
  rw [ms_i h2, ms_i h1, ms_a (by decide)]
theorem pu_50 {x : Int} {l : Nat} : puM M l p x 142 50 = (l : Int) + 1 := by
  unfold puM
  rw [ms_i (by decide), ms_v]
theorem pu_44 {x : Int} {l : Nat} : puM M l p x 142 44 = (p : Int) + 1 := ms_v
theorem pu_c {x : Int} {l i : Nat} : cm3 (puM M l p x) i = cm3 M i := by
  unfold cm3 puM
  rw [ms_a (by decide), ms_a (by decide), ms_a (by decide), ms_a (by decide), ms_a (by decide), ms_a (by decide)]
theorem mW.pu {x : Int} (h : mW M0 c0 n p o ks c M) (hp : p < n) : mW M0 c0 n (p + 1) o (x :: ks) c (puM M ks.length p x) := by
  have hcp := h.cp
  refine ⟨h.f.trans frN.pu, fun i hi => pu_c.trans (h.c0P i hi), h.lc, by rw [pu_44]; omega, (pu_j (by decide) (by decide)).trans h.g, (pu_j (by decide) (by decide)).trans h.cP, (pu_j (by decide) (by decide)).trans h.oP, by rw [pu_50, List.length_cons]; omega, ?_, hp, by rw [List.length_cons]; omega, (pu_j (by decide) (by decide)).trans h.ov, (pu_j (by decide) (by decide)).trans h.ib⟩
  have e : puM M ks.length p x 177 = ms M 177 ks.length x 177 := by
    unfold puM
    rw [ms_a (by decide), ms_a (by decide)]
  rw [e]
  exact ⟨ms_v, stR_to h.s (fun i hi => ms_i (by omega))⟩
theorem mW.puts {x : Int} {P : Mm → Prop} (h : mW M0 c0 n p o ks c M) (hn : n ≤ 160) (hp : p < n) (k : ∀ M2 : Mm, mW M0 c0 n (p + 1) o (x :: ks) c M2 → (∀ i, cm3 M2 i = cm3 M i) → P M2) : Wp (f155 x M) P :=
  w155 h.l (by have := h.cp; omega) h.pP (by omega) (k _ (h.pu hp) (fun i => pu_c))
/-- one field that does not count here -/
theorem mW.z (h : mW M0 c0 n p o ks c M) : mW M0 c0 n p o ks c (ms M 142 52 0) := by
  refine ⟨h.f.trans (frN.st (by omega)), fun i hi => ?_, h.lc, (ms_i (by decide)).trans h.pP, (ms_i (by decide)).trans h.g, (ms_i (by decide)).trans h.cP, (ms_i (by decide)).trans h.oP, (ms_i (by decide)).trans h.l, by rw [ms_a (by decide)]; exact h.s, h.pn, h.cp, (ms_i (by decide)).trans h.ov, ms_v⟩
  have := h.c0P i hi
  unfold cm3 at this ⊢
  rw [ms_a (by decide), ms_a (by decide)]
  exact this
theorem c3_st {j i : Nat} {v : Int} : cm3 (ms M 142 j v) i = cm3 M i := by
  unfold cm3
  rw [ms_a (by decide), ms_a (by decide)]
theorem mB.z {e : Int} (h : mB M0 e M) : mB M0 e (ms M 142 52 0) := ⟨h.1.trans (frN.st (by omega)), (ms_i (by decide)).trans h.2.1, ms_v⟩
theorem em_a {x y : Int} {i : Nat} (hi : i < c) : cm3 (emM M c x y) i = cm3 M i := by
  unfold cm3 emM
  rw [ms_a (by decide), ms_a (by decide), ms_i (by omega), ms_a (by decide), ms_i (by omega), ms_a (by decide)]
theorem em_c {x y : Int} : cm3 (emM M c x y) c = (x, y) := by
  unfold cm3 emM
  rw [ms_a (by decide), ms_a (by decide), ms_v, ms_a (by decide), ms_v]
theorem emm_j {x y : Int} {j : Nat} (hj : j ≠ 48) : emM M c x y 142 j = M 142 j := by
  unfold emM
  rw [ms_i hj, ms_a (by decide), ms_a (by decide)]
theorem frN.em {x y : Int} : frN M (emM M c x y) := ((frN.sa (by omega)).trans (frN.sa (by omega))).trans (frN.st (by omega))
theorem w103 {x y : Int} {P : Mm → Prop} (hg : M 142 46 = 0) (hc : M 142 48 = (c : Nat)) (hc2 : c < 160) (k : P (emM M c x y)) : Wp (f103 x y M) P := by
  unfold f103
  refine wp_bind (w124g hg (wp_neg (by decide) ?_))
  rw [hc, Int.toNat_natCast]
  refine wp_gd (by omega) (wp_mlet ?_)
  rw [ms_a (by decide : (142 : Nat) ≠ 175), hc, Int.toNat_natCast]
  refine wp_gd (by omega) (wp_mlet ?_)
  rw [ms_a (by decide : (142 : Nat) ≠ 176), ms_a (by decide : (142 : Nat) ≠ 175), hc]
  exact wp_gd (by omega) (wp_mlet (wp_some k))
/-- a code comes, out of a place that was read -/
theorem mW.em {x y : Int} (h : mW M0 c0 n p o ks c M) (hc : c + 1 + ks.length ≤ p) : mW M0 c0 n p o ks (c + 1) (emM M c x y) := by
  have hlc := h.lc
  refine ⟨h.f.trans frN.em, fun i hi => (em_a (by omega)).trans (h.c0P i hi), by omega, (emm_j (by decide)).trans h.pP, (emm_j (by decide)).trans h.g, ?_, (emm_j (by decide)).trans h.oP, (emm_j (by decide)).trans h.l, ?_, h.pn, hc, (emm_j (by decide)).trans h.ov, (emm_j (by decide)).trans h.ib⟩
  · show ms _ 142 48 _ 142 48 = _
    rw [ms_v]
    omega
  · have e : emM M c x y 177 = M 177 := by
      unfold emM
      rw [ms_a (by decide), ms_a (by decide), ms_a (by decide)]
    rw [e]
    exact h.s
/-- the top goes out as a code -/
theorem mW.ep {x y : Int} {v : Int} (h : mW M0 c0 n p o (x :: ks) c M) (hv : v = ks.length) : mW M0 c0 n p o ks (c + 1) (ms (emM M c y 0) 142 50 v) ∧ (∀ i, i < c → cm3 (ms (emM M c y 0) 142 50 v) i = cm3 M i) ∧ cm3 (ms (emM M c y 0) 142 50 v) c = (y, 0) := by
  have hlc := h.lc
  have hcp := h.cp
  rw [List.length_cons] at hcp
  refine ⟨⟨(h.f.trans frN.em).trans (frN.st (by omega)), fun i hi => c3_st.trans ((em_a (by omega)).trans (h.c0P i hi)), by omega, (ms_i (by decide)).trans ((emm_j (by decide)).trans h.pP), (ms_i (by decide)).trans ((emm_j (by decide)).trans h.g), ?_, (ms_i (by decide)).trans ((emm_j (by decide)).trans h.oP), by rw [ms_v, hv], ?_, h.pn, by omega, (ms_i (by decide)).trans ((emm_j (by decide)).trans h.ov), (ms_i (by decide)).trans ((emm_j (by decide)).trans h.ib)⟩, fun i hi => c3_st.trans (em_a hi), c3_st.trans em_c⟩
  · rw [ms_i (by decide)]
    show ms _ 142 48 _ 142 48 = _
    rw [ms_v]
    omega
  · have e : ms (emM M c y 0) 142 50 v 177 = M 177 := by
      unfold emM
      rw [ms_a (by decide), ms_a (by decide), ms_a (by decide), ms_a (by decide)]
    rw [e]
    exact h.s.2
theorem w179 {x : Int} {P : Int → Prop} (hn : n ≤ 160) (h : mW M0 c0 n p o (x :: ks) c M) (k : P x) : Wp (f179 M) P := by
  have hcp := h.cp
  have hpn := h.pn
  have hl := h.l
  have hs := h.s.1
  rw [List.length_cons] at hl hcp
  unfold f179
  rw [hl]
  refine wp_pos (by omega) (wp_gd (by omega) (wp_gd (by omega) (wp_some ?_)))
  rw [show (((ks.length + 1 : Nat) : Int) - 1).toNat = ks.length by omega, hs]
  exact k
theorem w133 {x : Int} {P : Int → Prop} (k : P (if tms x then 1 else 0)) : Wp (f133 x M) P := by
  unfold f133
  refine wp_ite (fun d => wp_some ?_) (fun d => wp_ite (fun d2 => wp_some ?_) (fun d2 => wp_ite (fun d3 => wp_some ?_) (fun d3 => wp_some ?_)))
  · rw [d] at k; exact k
  · rw [d2] at k; exact k
  · rw [d3] at k; exact k
  · have : ¬ tms x = true := fun q => by
      have := tms_v q
      omega
    rw [if_neg this] at k
    exact k
theorem w128 {x : Int} {P : Int → Prop} (k : P (if pls x then 1 else 0)) : Wp (f128 x M) P := by
  unfold f128
  refine wp_ite (fun d => wp_some ?_) (fun d => wp_ite (fun d2 => wp_some ?_) (fun d2 => wp_some ?_))
  · rw [d] at k; exact k
  · rw [d2] at k; exact k
  · have : ¬ pls x = true := fun q => by
      have := pls_v q
      omega
    rw [if_neg this] at k
    exact k
theorem cps_v {x : Int} (h : cps x = true) : x = 60 ∨ x = 62 ∨ x = 61 := by
  unfold cps at h
  rw [Bool.or_eq_true, Bool.or_eq_true, beq_iff_eq, beq_iff_eq, beq_iff_eq] at h
  omega
theorem w131 {x : Int} {P : Int → Prop} (k : P (if cps x then 1 else 0)) : Wp (f131 x M) P := by
  unfold f131
  refine wp_ite (fun d => wp_some ?_) (fun d => wp_ite (fun d2 => wp_some ?_) (fun d2 => wp_ite (fun d3 => wp_some ?_) (fun d3 => wp_some ?_)))
  · rw [d] at k; exact k
  · rw [d2] at k; exact k
  · rw [d3] at k; exact k
  · have : ¬ cps x = true := fun q => by
      have := cps_v q
      omega
    rw [if_neg this] at k
    exact k
theorem tms_hr (h : mH n B wk M0) : tms (hrN B n p) = tms (pkN B n p) := by
  unfold tms
  rw [Bool.eq_iff_iff, Bool.or_eq_true, Bool.or_eq_true, Bool.or_eq_true, Bool.or_eq_true, beq_iff_eq, beq_iff_eq, beq_iff_eq, beq_iff_eq, beq_iff_eq, beq_iff_eq, hr_eq h (by decide), hr_eq h (by decide), hr_eq h (by decide)]
theorem pls_hr (h : mH n B wk M0) : pls (hrN B n p) = pls (pkN B n p) := by
  unfold pls
  rw [Bool.eq_iff_iff, Bool.or_eq_true, Bool.or_eq_true, beq_iff_eq, beq_iff_eq, beq_iff_eq, beq_iff_eq, hr_eq h (by decide), hr_eq h (by decide)]
theorem cps_hr (h : mH n B wk M0) : cps (hrN B n p) = cps (pkN B n p) := by
  unfold cps
  rw [Bool.eq_iff_iff, Bool.or_eq_true, Bool.or_eq_true, Bool.or_eq_true, Bool.or_eq_true, beq_iff_eq, beq_iff_eq, beq_iff_eq, beq_iff_eq, beq_iff_eq, beq_iff_eq, hr_eq h (by decide), hr_eq h (by decide), hr_eq h (by decide)]
theorem dgt_hr (h : mH n B wk M0) : dgt (hrN B n p) = dgt (pkN B n p) := by
  unfold dgt hrN pkN
  by_cases q : p < n
  · rw [if_pos q, if_pos q]
  · rw [if_neg q, if_neg q]
    rfl
theorem hr_pk (h : p < n) : hrN B n p = pkN B n p := by
  unfold hrN pkN
  rw [if_pos h, if_pos h]
theorem w143 {x a b : Int} {P : Int → Prop} (k : P (if a ≤ x ∧ x ≤ b then 1 else 0)) : Wp (f143 x a b M) P := by
  unfold f143
  refine wp_ite (fun d => wp_some ?_) (fun d => wp_ite (fun d2 => wp_some ?_) (fun d2 => wp_some ?_))
  · rw [if_neg (by omega)] at k; exact k
  · rw [if_neg (by omega)] at k; exact k
  · rw [if_pos (by omega)] at k; exact k
theorem w160 {P : Int → Prop} (h : mH n B wk M0) (hf : frN M0 M) (hp : M 142 44 = (p : Nat)) (k : P (if dgt (pkN B n p) then 1 else 0)) : Wp (f160 M) P := by
  unfold f160
  refine wp_bind (w120 h hf hp ?_)
  rw [← dgt_hr h] at k
  have e : (if dgt (hrN B n p) = true then (1 : Int) else 0) = if 48 ≤ hrN B n p ∧ hrN B n p ≤ 57 then 1 else 0 := by
    unfold dgt
    by_cases h1 : 48 ≤ hrN B n p ∧ hrN B n p ≤ 57
    · rw [if_pos h1, decide_eq_true h1.1, decide_eq_true h1.2]
      rfl
    · rw [if_neg h1, if_neg]
      rw [Bool.and_eq_true, decide_eq_true_iff, decide_eq_true_iff]
      exact h1
  rw [e] at k
  refine wp_bind (w143 (wp_gd ?_ (wp_some k)))
  split
  · exact Or.inr rfl
  · exact Or.inl rfl
/-- a bracket, or not, is opened -/
theorem w150 {P : Mm → Prop} (h0 : mH n B wk M0) (h : mW M0 c0 n p o ks c M) (hp : p < n) (ho : o ≤ 6) (kE : o = 6 → ∀ M2 : Mm, mB M0 (-1000 * 5 - p) M2 → P M2) (kO : o < 6 → ∀ M2 : Mm, mW M0 c0 n (p + 1) (o + 1) (pkN B n p :: ks) c M2 → (∀ i, cm3 M2 i = cm3 M i) → P M2) : Wp (f150 M) P := by
  have hn := h0.n160
  have hcp := h.cp
  unfold f150
  rw [h.oP, h.pP]
  refine wp_ite (fun d => wp_bind (w190 h.f h.g h.ib (by decide) (by omega) (fun M2 q1 q2 q3 => ?_))) (fun d => ?_)
  · unfold f150_18
    rw [q2 49 (by decide), h.oP]
    refine wp_gd (by omega) (wp_mlet ?_)
    have e44 : ms M2 142 49 ((o : Int) + 1) 142 44 = p := by rw [ms_i (by decide), q2 44 (by decide)]; exact h.pP
    have e50 : ms M2 142 49 ((o : Int) + 1) 142 50 = ks.length := by rw [ms_i (by decide), q2 50 (by decide)]; exact h.l
    have e46 : ms M2 142 49 ((o : Int) + 1) 142 46 = -1000 * 5 - p := by rw [ms_i (by decide)]; exact q1.2.1
    have e52 : ms M2 142 49 ((o : Int) + 1) 142 52 = 0 := by rw [ms_i (by decide)]; exact q1.2.2
    have ef : frN M0 (ms M2 142 49 ((o : Int) + 1)) := q1.1.trans (frN.st (by omega))
    generalize ms M2 142 49 ((o : Int) + 1) = M3 at e44 e50 e46 e52 ef ⊢
    exact wp_bind (w120 h0 ef e44 (wp_bind (w155 e50 (by omega) e44 (by omega) (wp_some (kE (by omega) _ ⟨ef.trans frN.pu, (pu_j (by decide) (by decide)).trans e46, (pu_j (by decide) (by decide)).trans e52⟩)))))
  · unfold f150_18
    rw [h.oP]
    have h1 : mW M0 c0 n p (o + 1) ks c (ms M 142 49 ((o : Int) + 1)) := ⟨h.f.trans (frN.st (by omega)), fun i hi => c3_st.trans (h.c0P i hi), h.lc, (ms_i (by decide)).trans h.pP, (ms_i (by decide)).trans h.g, (ms_i (by decide)).trans h.cP, by rw [ms_v]; omega, (ms_i (by decide)).trans h.l, by rw [ms_a (by decide)]; exact h.s, h.pn, hcp, (ms_i (by decide)).trans h.ov, (ms_i (by decide)).trans h.ib⟩
    refine wp_gd (by omega) (wp_mlet (wp_bind (w120 h0 h1.f h1.pP (wp_bind (h1.puts hn hp (fun M2 q1 q2 => wp_some ?_))))))
    rw [hr_pk hp] at q1
    exact kO (by omega) M2 q1 (fun i => (q2 i).trans c3_st)
end MR1

noncomputable def b61 (M1 : Mm) : Option ((Int × Mm) ⊕ (Mm)) := (f124 M1).bind fun v3 => if v3 = 0 then (f152_84 M1) else (obnd (f116 M1) fun v7 M8 => if v7 = 0 then (f152_84 M8) else (some (.inl (1, M8))))
/-- behind a factor, at place q -/
def EA (n q : Nat) (M : Mm) (Q : Mm → Prop) : Prop := Wp (b61 M) (Sum.elim (fun s => Wp (iter (fun s : Int × Mm => lb152_39 s.1 s.2) (n + 2 - q) s) Q) Q)
/-- ahead of a factor, at place p -/
def EF (n p : Nat) (M : Mm) (Q : Mm → Prop) : Prop := Wp (iter (fun s : Mm => lb106_0 s) (n - p + 2) M) (fun M1 => EA n p (ms M1 142 52 0) Q)
def opE (t a : Int) : List Int := (if t = 0 then [] else [t]) ++ (if a = 0 then [] else [a])
def topS (S : List Int) : Prop := ∃ x r, S = x :: r ∧ tms x = false ∧ pls x = false
noncomputable def cbE (t : Int) (sT : Sem) (a : Int) (sA s : Sem) : Sem := if a = 0 then (if t = 0 then s else bopS t sT s) else bopS a sA (if t = 0 then s else bopS t sT s)
def pE (C : Nat → Int × Int) (wk : Bool) (c c2 : Nat) (t : Int) (sT : Sem) (a : Int) (sA : Sem) : Prop := ∃ m, c ≤ m ∧ m ≤ c2 ∧ (if a = 0 then c = m else mG C wk c m sA false) ∧ (if t = 0 then m = c2 else mG C wk m c2 sT false)
def pD (C : Nat → Int × Int) (wk : Bool) (c c2 : Nat) (t : Int) (sT : Sem) (a : Int) (sA s : Sem) : Prop := ∃ m, pE C wk c m t sT a sA ∧ m ≤ c2 ∧ mG C wk m c2 s false
section MR2
variable {M0 M : Mm} {c0 n p q o c c2 : Nat} {ks S0 : List Int} {B : Nat → Int} {wk : Bool} {t a : Int} {sT sA s : Sem} {Q : Mm → Prop} {C C2 : Nat → Int × Int}
theorem EA.mono {p q : Nat} (h : EA n q M Q) (hpq : p ≤ q) : EA n p M Q := by
  refine Wp.mono h (fun r hr => ?_)
  match r, hr with
  | .inl s, hr => exact it_mono (by omega) hr
  | .inr u, hr => exact hr
theorem er_EA {e : Int} (h : mB M0 e M) (he : e < 0) (hq : q ≤ n) (k : ∀ M2 : Mm, mB M0 e M2 → Q M2) : EA n q M Q := by
  unfold EA b61
  refine wp_bind (w124b (by rw [h.2.1]; exact he) (wp_pos rfl ?_))
  unfold f152_84
  refine wp_some ?_
  show Wp _ Q
  rw [show n + 2 - q = (n + 1 - q) + 1 by omega]
  refine it_step ?_
  try dsimp only
  unfold lb152_39
  refine wp_pos rfl (wp_o ?_)
  unfold f152_89
  exact wp_bind (w124b (by rw [h.2.1]; exact he) (wp_pos rfl (wp_some (k M h))))
theorem h_EF (h : mW M0 c0 n p o ks c M) (hn : n ≤ 160) (k : EF n p M Q) : Wp (iter (fun s : Int × Mm => lb152_39 s.1 s.2) (n + 3 - p) (1, M)) Q := by
  have hp := h.pn
  rw [show n + 3 - p = (n + 2 - p) + 1 by omega]
  refine it_step ?_
  try dsimp only
  unfold lb152_39
  refine wp_neg (by decide) (wp_bind (w124g h.g (wp_neg (by decide) (wp_pos h.ib (wp_bind ?_)))))
  unfold f106 f106_0
  refine it_lp (by omega) (Wp.mono k (fun M1 h1 => ?_))
  unfold f152_61
  exact wp_mlet h1
theorem pE.cg (h : pE C wk c c2 t sT a sA) (e : ∀ i, i < c2 → C2 i = C i) : pE C2 wk c c2 t sT a sA := by
  obtain ⟨m, h1, h2, h3, h4⟩ := h
  refine ⟨m, h1, h2, ?_, ?_⟩
  · by_cases z : a = 0
    · rw [if_pos z] at h3 ⊢
      exact h3
    · rw [if_neg z] at h3 ⊢
      exact h3.cg h1 (fun i _ q2 => e i (by omega))
  · by_cases z : t = 0
    · rw [if_pos z] at h4 ⊢
      exact h4
    · rw [if_neg z] at h4 ⊢
      exact h4.cg h2 (fun i _ q2 => e i (by omega))
theorem okM_cg (h : okM C wk c c2) (e : ∀ i, c ≤ i → i < c2 → C2 i = C i) : okM C2 wk c c2 := fun i h1 h2 => by
  rw [e i h1 h2]
  exact h i h1 h2
theorem okM_snoc {x y : Int} (h : okM C wk c c2) (e : ∀ i, i < c2 → C2 i = C i) (hx : C2 c2 = (x, y)) (h2 : x = 0 ∨ 2 ≤ x ∨ (x = 1 ∧ ∃ j, j < 11 ∧ y = chrL j ∧ asks wk j = true)) : okM C2 wk c (c2 + 1) := fun i h1 h3 => by
  by_cases z : i = c2
  · rw [z, hx]
    exact h2
  · rw [e i (by omega)]
    exact h i h1 (by omega)
/-- one more out of the stack -/
theorem w177s {x x1 : Int} {P : Mm ⊕ Mm → Prop} (hn : n ≤ 160) (h : mW M0 c0 n p o (x :: ks) c M) (k : ∀ M2 : Mm, mW M0 c0 n p o ks (c + 1) M2 → (∀ i, i < c → cm3 M2 i = cm3 M i) → cm3 M2 c = (x, 0) → P (.inl M2)) : Wp (f177_24 x1 M) P := by
  have hcp := h.cp
  have hpn := h.pn
  rw [List.length_cons] at hcp
  unfold f177_24
  refine wp_bind (w179 hn h (wp_bind (w103 h.g h.cP (by omega) ?_)))
  rw [emm_j (by decide : (50 : Nat) ≠ 48), h.l, List.length_cons]
  obtain ⟨q1, q2, q3⟩ := h.ep (y := x) (v := ((ks.length + 1 : Nat) : Int) - 1) (by omega)
  exact wp_gd (by omega) (wp_mlet (wp_some (k _ q1 q2 q3)))
/-- the signs of products and sums that wait go out -/
theorem w177T {P : Mm → Prop} (hn : n ≤ 160) (h : mW M0 c0 n q o (opE t a ++ S0) c2 M) (ht : t = 0 ∨ tms t = true) (ha : a = 0 ∨ pls a = true) (hS : topS S0) (hp : pD (cm3 M) wk c c2 t sT a sA s) (hok : okM (cm3 M) wk c c2) (k : ∀ (M2 : Mm) (c3 : Nat), mW M0 c0 n q o S0 c3 M2 → c2 ≤ c3 → (∀ i, i < c2 → cm3 M2 i = cm3 M i) → mG (cm3 M2) wk c c3 (cbE t sT a sA s) false → okM (cm3 M2) wk c c3 → P M2) : Wp (f177 1 M) P := by
  obtain ⟨m, ⟨m1, e1, e2, e3, e4⟩, e5, e6⟩ := hp
  obtain ⟨y, r, rfl, hy1, hy2⟩ := hS
  unfold f177 f177_0
  refine it_lp (k := 3) (by decide) ?_
  -- where nothing waits
  have stop : ∀ (j : Nat) (M2 : Mm) (c3 : Nat), mW M0 c0 n q o (y :: r) c3 M2 → P M2 → Wp (iter (fun s : Mm => lb177_0 1 s) (j + 1) M2) P := fun j M2 c3 q1 q2 => by
    refine it_step ?_
    try dsimp only
    unfold lb177_0
    refine wp_bind (w179 hn q1 (wp_bind (w133 ?_)))
    rw [hy1]
    refine wp_pos rfl (wp_neg (by decide) (wp_bind (w179 hn q1 (wp_bind (w128 ?_)))))
    rw [hy2]
    exact wp_pos rfl (wp_o (wp_some q2))
  -- the sign of a sum
  have sm : ∀ (j : Nat) (M2 : Mm) (c3 : Nat) (s1 : Sem), s1 = (if t = 0 then s else bopS t sT s) → mW M0 c0 n q o ((if a = 0 then [] else [a]) ++ y :: r) c3 M2 → c2 ≤ c3 → (∀ i, i < c2 → cm3 M2 i = cm3 M i) → (if a = 0 then c = m1 else mG (cm3 M2) wk c m1 sA false) → m1 ≤ c3 → mG (cm3 M2) wk m1 c3 s1 false → okM (cm3 M2) wk c c3 → Wp (iter (fun s : Mm => lb177_0 1 s) (j + 2) M2) P := fun j M2 c3 s1 g0 g1 g2 g3 g4 g5 g6 g7 => by
    by_cases z : a = 0
    · rw [if_pos z] at g1 g4
      refine stop (j + 1) M2 c3 g1 (k M2 c3 g1 g2 g3 ?_ g7)
      unfold cbE
      rw [if_pos z, ← g0, g4]
      exact g6
    · rw [if_neg z] at g1 g4
      have hpl : pls a = true := by
        rcases ha with ha | ha
        · exact (z ha).elim
        · exact ha
      have hpv := pls_v hpl
      have g1' : mW M0 c0 n q o (a :: (y :: r)) c3 M2 := g1
      have htm : tms a = false := by rcases hpv with rfl | rfl <;> rfl
      refine it_step ?_
      try dsimp only
      unfold lb177_0
      refine wp_bind (w179 hn g1' (wp_bind (w133 ?_)))
      rw [htm]
      refine wp_pos rfl (wp_neg (by decide) (wp_bind (w179 hn g1' (wp_bind (w128 ?_)))))
      rw [hpl]
      refine wp_neg (by decide) (w177s hn g1' (fun M3 q1 q2 q3 => ?_))
      refine stop j M3 (c3 + 1) q1 (k M3 (c3 + 1) q1 (by omega) (fun i hi => (q2 i (by omega)).trans (g3 i hi)) ?_ (okM_snoc g7 q2 q3 (by omega)))
      unfold cbE
      rw [if_neg z, ← g0]
      exact m_bop (g4.cg e1 (fun i _ h2 => q2 i (by omega))) (g6.cg g5 (fun i _ h2 => q2 i h2)) e1 g5 q3 (by omega)
  by_cases z : t = 0
  · rw [if_pos z] at e4
    subst e4
    unfold opE at h
    rw [if_pos z] at h
    exact sm 1 M c2 s (by rw [if_pos z]) h (Nat.le_refl _) (fun _ _ => rfl) e3 e5 e6 hok
  · rw [if_neg z] at e4
    have htm : tms t = true := by
      rcases ht with ht | ht
      · exact (z ht).elim
      · exact ht
    have htv := tms_v htm
    unfold opE at h
    rw [if_neg z] at h
    have h' : mW M0 c0 n q o (t :: ((if a = 0 then [] else [a]) ++ y :: r)) c2 M := h
    refine it_step ?_
    try dsimp only
    unfold lb177_0
    refine wp_bind (w179 hn h' (wp_bind (w133 ?_)))
    rw [htm]
    refine wp_neg (by decide) (w177s hn h' (fun M3 q1 q2 q3 => ?_))
    refine sm 0 M3 (c2 + 1) (bopS t sT s) (by rw [if_neg z]) q1 (by omega) q2 ?_ (by omega) (m_bop (e4.cg e2 (fun i _ h2 => q2 i (by omega))) (e6.cg e5 (fun i _ h2 => q2 i h2)) e2 e5 q3 (by omega)) (okM_snoc hok q2 q3 (by omega))
    by_cases z2 : a = 0
    · rw [if_pos z2] at e3 ⊢
      exact e3
    · rw [if_neg z2] at e3 ⊢
      exact e3.cg e1 (fun i _ h2 => q2 i (by omega))
theorem w177F {P : Mm → Prop} (hn : n ≤ 160) (h : mW M0 c0 n q o (opE t a ++ S0) c2 M) (ht : t = 0 ∨ tms t = true) (ha : a = 0 ∨ pls a = true) (hS : topS S0) (hp : pD (cm3 M) wk c c2 t sT a sA s) (hok : okM (cm3 M) wk c c2) (k : ∀ (M2 : Mm) (c3 : Nat), mW M0 c0 n q o (opE 0 a ++ S0) c3 M2 → c2 ≤ c3 → (∀ i, i < c2 → cm3 M2 i = cm3 M i) → (∀ x : Int, ¬ x = 0 → pE (cm3 M2) wk c c3 x (if t = 0 then s else bopS t sT s) a sA) → okM (cm3 M2) wk c c3 → P M2) : Wp (f177 0 M) P := by
  obtain ⟨m, ⟨m1, e1, e2, e3, e4⟩, e5, e6⟩ := hp
  obtain ⟨y, r, rfl, hy1, hy2⟩ := hS
  unfold f177 f177_0
  refine it_lp (k := 2) (by decide) ?_
  have hopz : opE 0 a = (if a = 0 then [] else [a]) := rfl
  have stop : ∀ (j : Nat) (M2 : Mm) (c3 : Nat), mW M0 c0 n q o (opE 0 a ++ (y :: r)) c3 M2 → P M2 → Wp (iter (fun s : Mm => lb177_0 0 s) (j + 1) M2) P := fun j M2 c3 q1 q2 => by
    refine it_step ?_
    try dsimp only
    unfold lb177_0
    have ht : ∃ y2 r2, opE 0 a ++ (y :: r) = y2 :: r2 ∧ tms y2 = false := by
      rw [hopz]
      by_cases z : a = 0
      · rw [if_pos z]
        exact ⟨y, r, rfl, hy1⟩
      · rw [if_neg z]
        have hpv : a = 43 ∨ a = 45 := by
          rcases ha with ha | ha
          · exact (z ha).elim
          · exact pls_v ha
        exact ⟨a, y :: r, rfl, by rcases hpv with rfl | rfl <;> rfl⟩
    obtain ⟨y2, r2, e, hy⟩ := ht
    rw [e] at q1
    refine wp_bind (w179 hn q1 (wp_bind (w133 ?_)))
    rw [hy]
    exact wp_pos rfl (wp_pos rfl (wp_o (wp_some q2)))
  by_cases z : t = 0
  · rw [if_pos z] at e4
    subst e4
    subst z
    refine stop 1 M c2 h (k M c2 h (Nat.le_refl _) (fun _ _ => rfl) (fun x hx => ⟨m1, e1, by omega, e3, by rw [if_neg hx, if_pos rfl]; exact e6⟩) hok)
  · rw [if_neg z] at e4
    have htm : tms t = true := by
      rcases ht with ht | ht
      · exact (z ht).elim
      · exact ht
    have htv := tms_v htm
    unfold opE at h
    rw [if_neg z] at h
    have h' : mW M0 c0 n q o (t :: ((if a = 0 then [] else [a]) ++ y :: r)) c2 M := h
    refine it_step ?_
    try dsimp only
    unfold lb177_0
    refine wp_bind (w179 hn h' (wp_bind (w133 ?_)))
    rw [htm]
    refine wp_neg (by decide) (w177s hn h' (fun M3 q1 q2 q3 => ?_))
    have q1' : mW M0 c0 n q o (opE 0 a ++ (y :: r)) (c2 + 1) M3 := by rw [hopz]; exact q1
    refine stop 0 M3 (c2 + 1) q1' (k M3 (c2 + 1) q1' (by omega) q2 (fun x hx => ⟨m1, e1, by omega, ?_, ?_⟩) (okM_snoc hok q2 q3 (by omega)))
    · by_cases z2 : a = 0
      · rw [if_pos z2] at e3 ⊢
        exact e3
      · rw [if_neg z2] at e3 ⊢
        exact e3.cg e1 (fun i _ h2 => q2 i (by omega))
    · rw [if_neg hx, if_neg z]
      exact m_bop (e4.cg e2 (fun i _ h2 => q2 i (by omega))) (e6.cg e5 (fun i _ h2 => q2 i h2)) e2 e5 q3 (by omega)
/-- one byte further -/
theorem mW.go {v : Int} (h : mW M0 c0 n p o ks c M) (hv : v = (p : Int) + 1) (hp : p < n) : mW M0 c0 n (p + 1) o ks c (ms M 142 44 v) := ⟨h.f.trans (frN.st (by omega)), fun i hi => c3_st.trans (h.c0P i hi), h.lc, by rw [ms_v]; omega, (ms_i (by decide)).trans h.g, (ms_i (by decide)).trans h.cP, (ms_i (by decide)).trans h.oP, (ms_i (by decide)).trans h.l, by rw [ms_a (by decide)]; exact h.s, hp, by have := h.cp; omega, (ms_i (by decide)).trans h.ov, (ms_i (by decide)).trans h.ib⟩
theorem w156 {P : Int × Mm → Prop} (h0 : mH n B wk M0) (h : mW M0 c0 n p o ks c M) (hd : dgt (pkN B n p) = true)
    (kE : ∀ (e v : Int) (M2 : Mm), numP B n p = .inl e → mB M0 e M2 → P (v, M2))
    (kO : ∀ (p2 : Nat) (v : Int) (M2 : Mm), numP B n p = .inr (p2, fun _ => some v) → p < p2 → mW M0 c0 n p2 o ks c M2 → (∀ i, cm3 M2 i = cm3 M i) → P (v, M2)) : Wp (f156 M) P := by
  have hn := h0.n160
  have hpn := h.pn
  unfold f156 f156_7
  rw [h.pP]
  let I : Nat → Int → Mm → Prop := fun m v M2 => (m = 0 ∧ ∃ e, numP B n p = .inl e ∧ mB M0 e M2 ∧ e < 0) ∨ ∃ p1 j : Nat, j ≤ 6 ∧ m = j + 1 ∧ p1 + j = p + 6 ∧ mW M0 c0 n p1 o ks c M2 ∧ (∀ i, cm3 M2 i = cm3 M i) ∧ (0 ≤ v ∧ v < (10 ^ (6 - j) : Nat)) ∧ dgs B n j p1 v = dgs B n 6 p 0
  refine wp_lp2 I 7 (by omega) (Or.inr ⟨p, 6, by omega, by omega, by omega, h, fun _ => rfl, by decide, rfl⟩) ?_
  rintro m v M2 hI
  try dsimp only
  unfold lb156_7
  rcases hI with ⟨b1, e, b2, b3, b4⟩ | ⟨p1, j, b1, b2, b3, b4, b5, b6, b7⟩
  · exact wp_bind (w124b (by rw [b3.2.1]; exact b4) (wp_pos rfl (wp_o (wp_some (kE e v M2 b2 b3)))))
  · have hp1 := b4.pn
    have hpw : (10 : Nat) ^ (6 - j) ≤ 1000000 := pow10 (by omega)
    refine wp_bind (w124g b4.g (wp_neg (by decide) (wp_bind (w160 h0 b4.f b4.pP ?_))))
    cases hdd : dgt (pkN B n p1) with
    | false =>
      have e6 : dgs B n 6 p 0 = (p1, v) := by
        rw [← b7]
        cases j with
        | zero => rfl
        | succ j => rw [dgs, if_neg (by rw [hdd]; decide)]
      have hlt : p < p1 := by
        by_cases q : p1 = p
        · rw [q, hd] at hdd
          cases hdd
        · omega
      refine wp_pos rfl (wp_o (wp_some (kO p1 v M2 ?_ hlt b4 b5)))
      unfold numP
      rw [e6, if_neg (by rw [hdd]; decide)]
    | true =>
      have hlt := pk_dgt hdd
      have hdr : 48 ≤ pkN B n p1 ∧ pkN B n p1 ≤ 57 := by
        unfold dgt at hdd
        rw [Bool.and_eq_true, decide_eq_true_iff, decide_eq_true_iff] at hdd
        exact hdd
      refine wp_neg (by decide) (wp_gd (by omega) ?_)
      rw [b4.pP]
      refine wp_ite (fun d => wp_bind (w190 b4.f b4.g b4.ib (by decide) (by omega) (fun M3 q1 q2 q3 => ?_))) (fun d => ?_)
      · have hj : j = 0 := by omega
        subst hj
        have e6 : dgs B n 6 p 0 = (p1, v) := b7.symm
        unfold f156_41
        refine wp_gd (by omega) (wp_bind (w120 h0 q1.1 ((q2 44 (by decide)).trans b4.pP) ?_))
        rw [hr_pk hlt]
        refine wp_gd (by omega) (wp_gd (by omega) ?_)
        rw [q2 44 (by decide), b4.pP]
        refine wp_gd (by omega) (wp_mlet (wp_i2 0 (by omega) (Or.inl ⟨rfl, -1000 * 2 - p1, ?_, ⟨q1.1.trans (frN.st (by omega)), (ms_i (by decide)).trans q1.2.1, (ms_i (by decide)).trans q1.2.2⟩, by omega⟩)))
        unfold numP
        rw [e6, if_pos hdd]
        rfl
      · obtain ⟨j, rfl⟩ : ∃ j2, j = j2 + 1 := ⟨j - 1, by omega⟩
        have hpw2 : (10 : Nat) ^ (6 - j) = 10 ^ (6 - (j + 1)) * 10 := by
          rw [show 6 - j = (6 - (j + 1)) + 1 by omega, Nat.pow_succ]
        have hpw3 : (10 : Nat) ^ (6 - j) ≤ 1000000 := pow10 (by omega)
        unfold f156_41
        refine wp_gd (by omega) (wp_bind (w120 h0 b4.f b4.pP ?_))
        rw [hr_pk hlt]
        refine wp_gd (by omega) (wp_gd (by omega) ?_)
        rw [b4.pP]
        refine wp_gd (by omega) (wp_mlet (wp_i2 (j + 1) (by omega) (Or.inr ⟨p1 + 1, j, by omega, rfl, by omega, b4.go rfl hlt, fun i => c3_st.trans (b5 i), by omega, ?_⟩)))
        rw [← b7, dgs, if_pos hdd, show 10 * v + pkN B n p1 - 48 = v * 10 + pkN B n p1 - 48 by omega]
theorem ltr_no {x : Int} (h : ∀ j, j < 11 → asks wk j = true → chrL j ≠ x) : ltr wk x = none := by
  unfold ltr
  rw [List.find?_range_eq_none]
  intro i hi
  cases ha : asks wk i with
  | false => rw [Bool.and_false]; rfl
  | true =>
    rw [show (chrL i == x) = false by rw [beq_eq_false_iff_ne]; exact h i hi ha]
    rfl
theorem w135 {x : Int} {P : Int → Prop} (h0 : mH n B wk M0) (hf : frN M0 M) (k : P (if (ltr wk x).isSome then 1 else 0)) : Wp (f135 x M) P := by
  have e47 : M 142 47 = M0 142 47 := hf.2 47 (by decide) (by decide) (by decide) (by decide) (by decide) (by decide) (by decide)
  have e172 : M 172 = M0 172 := hf.1 172 (by decide) (by decide) (by decide) (by decide)
  unfold f135
  rw [e47, e172, h0.2.2.2.2.2]
  have yes : (ltr wk x).isSome = true → Wp (some (1 : Int)) P := fun q => by
    rw [q] at k
    exact wp_some k
  have no : ltr wk x = none → Wp (some (0 : Int)) P := fun q => by
    rw [q] at k
    exact wp_some k
  refine wp_ite (fun d => yes (by rw [d]; cases wk <;> decide)) (fun d1 => wp_ite (fun d => yes (by rw [d]; cases wk <;> decide)) (fun d2 => wp_ite (fun d => yes (by rw [d]; cases wk <;> decide)) (fun d3 => wp_ite (fun d => yes (by rw [d]; cases wk <;> decide)) (fun d4 => wp_ite (fun d => yes (by rw [d]; cases wk <;> decide)) (fun d5 => wp_ite (fun d => yes (by rw [d]; cases wk <;> decide)) (fun d6 => wp_gd h0.2.2.2.2.1 ?_))))))
  cases wk with
  | false =>
    refine wp_pos rfl (wp_ite (fun d => yes (by rw [d]; decide)) (fun d7 => wp_ite (fun d => yes (by rw [d]; decide)) (fun d8 => wp_ite (fun d => yes (by rw [d]; decide)) (fun d9 => no (ltr_no (fun j hj ha => ?_))))))
    have hj9 : j = 0 ∨ j = 1 ∨ j = 2 ∨ j = 3 ∨ j = 4 ∨ j = 5 ∨ j = 6 ∨ j = 7 ∨ j = 8 ∨ j = 9 ∨ j = 10 := by omega
    rcases hj9 with rfl | rfl | rfl | rfl | rfl | rfl | rfl | rfl | rfl | rfl | rfl
    · exact fun q => d1 q.symm
    · exact fun q => d2 q.symm
    · exact fun q => d3 q.symm
    · exact fun q => d4 q.symm
    · exact fun q => d5 q.symm
    · exact fun q => d6 q.symm
    · exact fun q => d7 q.symm
    · exact fun q => d8 q.symm
    · exact fun q => d9 q.symm
    · exact absurd ha (by decide)
    · exact absurd ha (by decide)
  | true =>
    refine wp_neg (by decide) (wp_ite (fun d => yes (by rw [d]; decide)) (fun d7 => wp_ite (fun d => yes (by rw [d]; decide)) (fun d8 => no (ltr_no (fun j hj ha => ?_)))))
    have hj9 : j = 0 ∨ j = 1 ∨ j = 2 ∨ j = 3 ∨ j = 4 ∨ j = 5 ∨ j = 6 ∨ j = 7 ∨ j = 8 ∨ j = 9 ∨ j = 10 := by omega
    rcases hj9 with rfl | rfl | rfl | rfl | rfl | rfl | rfl | rfl | rfl | rfl | rfl
    · exact fun q => d1 q.symm
    · exact fun q => d2 q.symm
    · exact fun q => d3 q.symm
    · exact fun q => d4 q.symm
    · exact fun q => d5 q.symm
    · exact fun q => d6 q.symm
    · exact absurd ha (by decide)
    · exact absurd ha (by decide)
    · exact absurd ha (by decide)
    · exact fun q => d7 q.symm
    · exact fun q => d8 q.symm
theorem ltr_hr : ltr wk (hrN B n p) = ltr wk (pkN B n p) := by
  unfold hrN pkN
  by_cases q : p < n
  · rw [if_pos q, if_pos q]
  · rw [if_neg q, if_neg q, ltr_no (fun j hj _ => (by decide : ∀ j : Nat, j < 11 → chrL j ≠ 0) j hj), ltr_no (fun j hj _ => (by decide : ∀ j : Nat, j < 11 → chrL j ≠ -1) j hj)]
/-- a sum, read at open o -/
def smP (M0 : Mm) (c0 n : Nat) (B : Nat → Int) (wk : Bool) (o : Nat) (f : Nat → Rs) : Prop := ∀ (p : Nat) (S0 : List Int) (c : Nat) (M : Mm) (Q : Mm → Prop), mW M0 c0 n p o S0 c M → topS S0 →
  (∀ (e : Int) (M2 : Mm), f p = .inl e → mB M0 e M2 → Q M2) →
  (∀ (q : Nat) (s : Sem) (t a : Int) (sT sA sF : Sem) (c2 : Nat) (M2 : Mm), f p = .inr (q, s) → s = cbE t sT a sA sF → (t = 0 ∨ tms t = true) → (a = 0 ∨ pls a = true) → tms (pkN B n q) = false → pls (pkN B n q) = false → mW M0 c0 n q o (opE t a ++ S0) c2 M2 → c ≤ c2 → (∀ i, i < c → cm3 M2 i = cm3 M i) → pD (cm3 M2) wk c c2 t sT a sA sF → okM (cm3 M2) wk c c2 → EA n q M2 Q) → EF n p M Q
def fcP (M0 : Mm) (c0 n : Nat) (wk : Bool) (o : Nat) (f : Nat → Rs) : Prop := ∀ (p : Nat) (ks : List Int) (c : Nat) (M : Mm) (Q : Mm → Prop), mW M0 c0 n p o ks c M →
  (∀ (e : Int) (M2 : Mm), f p = .inl e → mB M0 e M2 → Q M2) →
  (∀ (q : Nat) (s : Sem) (c2 : Nat) (M2 : Mm), f p = .inr (q, s) → mW M0 c0 n q o ks c2 M2 → c ≤ c2 → (∀ i, i < c → cm3 M2 i = cm3 M i) → mG (cm3 M2) wk c c2 s false → okM (cm3 M2) wk c c2 → EA n q M2 Q) → EF n p M Q
theorem err_neg {f : Rs} {p : Nat} (h : okR n wk p f) {e : Int} (he : f = .inl e) : e < 0 := by
  have := h.1 e he
  omega
end MR2
