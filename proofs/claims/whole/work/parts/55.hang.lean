/-- joined by a usable way -/
def jn (nw : Nat) (A B : Nat → Nat) (U : Nat → Prop) : Nat → Nat → Prop := fun a b => ∃ w, w < nw ∧ U w ∧ ((A w = a ∧ B w = b) ∨ (A w = b ∧ B w = a))
theorem jn_sym {nw : Nat} {A B : Nat → Nat} {U : Nat → Prop} : ∀ a b, jn nw A B U a b → jn nw A B U b a := fun _ _ ⟨w, h1, h2, h3⟩ => ⟨w, h1, h2, h3.symm⟩
/-- a round over the ways, as far as way v -/
def rndP (n v : Nat) (A B : Nat → Nat) (U : Nat → Prop) (nw : Nat) (L K : Nat → Nat) : Prop := gLow n (jn nw A B U) K ∧ (∀ i, i < n → K i ≤ L i) ∧ ∀ w, w < v → U w → K (A w) ≤ L (B w) ∧ K (B w) ≤ L (A w)
theorem rnd_pass {n nw : Nat} {A B : Nat → Nat} {U : Nat → Prop} {L K : Nat → Nat} (h : rndP n nw A B U nw L K) : gPass n (jn nw A B U) L K := ⟨h.1, h.2.1, fun a b _ _ ⟨w, h1, h2, h3⟩ => by
  have h4 := h.2.2 w h1 h2
  rcases h3 with ⟨e1, e2⟩ | ⟨e1, e2⟩
  · rw [e1, e2] at h4; exact h4.1
  · rw [e1, e2] at h4; exact h4.2⟩
theorem rnd_skip {n nw v : Nat} {A B : Nat → Nat} {U : Nat → Prop} {L K : Nat → Nat} (h : rndP n v A B U nw L K) (hu : ¬ U v) : rndP n (v + 1) A B U nw L K := ⟨h.1, h.2.1, fun w hw hU => by
  by_cases e : w = v
  · exact (hu (e ▸ hU)).elim
  · exact h.2.2 w (by omega) hU⟩
theorem rnd_step {n nw v : Nat} {A B : Nat → Nat} {U : Nat → Prop} {L K K2 : Nat → Nat} (h : rndP n v A B U nw L K) (hv : v < nw) (hu : U v) (he : ∀ w, w < nw → A w < n ∧ B w < n) (hK : ∀ i, i < n → K2 i = if i = A v ∨ i = B v then min (K (A v)) (K (B v)) else K i) : rndP n (v + 1) A B U nw L K2 := by
  have ha := (he v hv).1
  have hb := (he v hv).2
  have hle : ∀ i, i < n → K2 i ≤ K i := fun i hi => by
    rw [hK i hi]
    split
    · rename_i q
      rcases q with q | q
      · rw [q]; omega
      · rw [q]; omega
    · exact Nat.le_refl _
  refine ⟨gLow_rel jn_sym h.1 ha hb ⟨v, hv, hu, Or.inl ⟨rfl, rfl⟩⟩ hK, fun i hi => Nat.le_trans (hle i hi) (h.2.1 i hi), fun w hw hU => ?_⟩
  by_cases e : w = v
  · subst e
    have h1 := h.2.1 _ ha
    have h2 := h.2.1 _ hb
    rw [hK _ ha, hK _ hb, if_pos (Or.inl rfl), if_pos (Or.inr rfl)]
    omega
  · have h1 := h.2.2 w (by omega) hU
    have h2 := hle _ (he w (by omega)).1
    have h3 := hle _ (he w (by omega)).2
    omega
theorem w6 {x y : Int} {M : Mm} {P : Int → Prop} (k : P (min x y)) : Wp (f6 x y M) P := by
  unfold f6
  refine wp_ite (fun c => wp_some ?_) (fun c => wp_some ?_)
  · rw [Int.min_eq_right (by omega)] at k
    exact k
  · rw [Int.min_eq_left (by omega)] at k
    exact k
/-- after two stores of the lower label at both ends -/
theorem lab_two {M : Mm} {r a b : Nat} {x : Int} {L : Nat → Nat} {n : Nat} (hL : ∀ i : Nat, i < n → M r i = L i) (hx : x = (min (L a) (L b) : Nat)) : ∀ i : Nat, i < n → ms (ms M r a x) r b x r i = ((if i = a ∨ i = b then min (L a) (L b) else L i : Nat) : Int) := fun i hi => by
  by_cases i2 : i = b
  · rw [if_pos (Or.inr i2), i2, ms_v]
    exact hx
  · rw [ms_i i2]
    by_cases i1 : i = a
    · rw [if_pos (Or.inl i1), i1, ms_v]
      exact hx
    · rw [ms_i i1, if_neg (by omega)]
      exact hL i hi
theorem w213 {r1 r3 : Nat} {x2 : Int} {M : Mm} {P : Mm → Prop} {n nw : Nat} {G A B : Nat → Nat} {U : Nat → Prop} (hn : M 3 0 = n) (hn8 : n ≤ 8) (hw : M 3 1 = nw) (hw14 : nw ≤ 14)
    (hA : ∀ w : Nat, w < nw → M 14 w = A w) (hB : ∀ w : Nat, w < nw → M 15 w = B w) (he : ∀ w, w < nw → A w < n ∧ B w < n) (hU : ∀ w : Nat, w < nw → (U w ↔ (M (r1 + 2) w = 0 ∨ (x2 ≠ 0 ∧ M (r1 + 2) w ≠ 3))))
    (h3 : r3 ≠ 3) (h14 : r3 ≠ 14) (h15 : r3 ≠ 15) (hr : r1 + 2 ≠ r3) (hG : gLab n (jn nw A B U) G)
    (k : ∀ M2 : Mm, (∀ b, b ≠ r3 → M2 b = M b) → (∀ i : Nat, i < n → M2 r3 i = G i) → P M2) : Wp (f213 r1 x2 r3 M) P := by
  unfold f213 f213_3
  refine wp_lp2 (fun m x N => 0 ≤ x ∧ x ≤ n ∧ (m : Int) = n - x ∧ (∀ b, b ≠ r3 → N b = M b) ∧ ∀ i : Nat, (i : Int) < x → N r3 i = i) n (by omega) ⟨by omega, by omega, by omega, fun _ _ => rfl, fun i hi => by omega⟩ ?_
  rintro m x M1 ⟨h1, h2, h4, h5, h6⟩
  dsimp only
  unfold lb213_3
  rw [h5 3 (by omega), hn]
  refine wp_ite (fun c => ?_) (fun c => wp_o ?_)
  · refine wp_gd (by omega) (wp_mlet (wp_gd (by omega) (wp_i2 (m - 1) (by omega) ⟨by omega, by omega, by omega, fun b hb => ?_, fun i hi => ?_⟩)))
    · rw [ms_a hb]
      exact h5 b hb
    · by_cases e : i = x.toNat
      · rw [e, ms_v]
        omega
      · rw [ms_i e]
        exact h6 i (by omega)
  unfold f213_30
  let I1 : Nat → Int → Int → Mm → Prop := fun m moved pass N => 0 ≤ pass ∧ pass ≤ n ∧ (m : Int) = n - pass ∧ (∀ b, b ≠ r3 → N b = M b) ∧ ∃ L : Nat → Nat, (∀ i : Nat, i < n → N r3 i = L i) ∧ gLow n (jn nw A B U) L ∧ (moved = 0 → ∀ i : Nat, i < n → L i = G i) ∧ gCnt L G n ≤ m
  refine wp_lp3 I1 n (by omega) ⟨by omega, by omega, by omega, h5, fun i => i, fun i hi => h6 i (by omega), gLow_id, fun q => absurd q (by decide), gCnt_le _ _ _⟩ ?_
  clear h1 h2 h4 h5 h6 c
  rintro m moved pass M1 ⟨h1, h2, h4, h5, L, h6, h7, h8, h9⟩
  dsimp only
  unfold lb213_30
  rw [h5 3 (by omega), hn]
  refine wp_ite (fun c => ?_) (fun c => wp_o (wp_some (k M1 h5 (fun i hi => by rw [h6 i hi, gCnt_zero (by omega : gCnt L G n = 0) i hi]))))
  refine wp_ite (fun c2 => wp_o (wp_some (k M1 h5 (fun i hi => by rw [h6 i hi, h8 c2 i hi])))) (fun c2 => ?_)
  unfold f213_50
  let I2 : Nat → Int → Int → Mm → Prop := fun q mv v N => 0 ≤ v ∧ v ≤ nw ∧ (q : Int) = nw - v ∧ (∀ b, b ≠ r3 → N b = M b) ∧ ∃ K : Nat → Nat, (∀ i : Nat, i < n → N r3 i = K i) ∧ rndP n v.toNat A B U nw L K ∧ (mv = 0 → (∀ i : Nat, i < n → K i = L i) ∧ ∀ w : Nat, (w : Int) < v → U w → L (A w) = L (B w))
  refine wp_lp3 I2 nw (by omega) ⟨by omega, by omega, by omega, h5, L, h6, ⟨h7, fun i _ => Nat.le_refl _, fun w hw => by omega⟩, fun _ => ⟨fun i _ => rfl, fun w hw => by omega⟩⟩ ?_
  rintro q mv v M2 ⟨g1, g2, g4, g5, K, g6, g7, g8⟩
  dsimp only
  unfold lb213_50
  have e3 : M2 3 = M 3 := g5 3 (by omega)
  have e14 : M2 14 = M 14 := g5 14 (by omega)
  have e15 : M2 15 = M 15 := g5 15 (by omega)
  have er : M2 (r1 + 2) = M (r1 + 2) := g5 (r1 + 2) hr
  rw [e3, er, hw]
  refine wp_ite (fun d => ?_) (fun d => ?_)
  · obtain ⟨u, rfl⟩ := Int.eq_ofNat_of_zero_le g1
    have hv : u < nw := by omega
    have hev := he u hv
    have ha := hA u hv
    have hb := hB u hv
    have hk1 := g6 _ hev.1
    have hk2 := g6 _ hev.2
    rw [Int.toNat_natCast] at g7
    -- a way that isn't usable
    have hskip : ¬ U u → Wp (f213_165 r1 x2 r3 mv pass u M2) (Sum.elim (up3 I2 q) (Sum.elim (up3 I1 m) P)) := fun hu => by
      unfold f213_165
      refine wp_gd (by omega) (wp_i3 (q - 1) (by omega) ⟨by omega, by omega, by omega, g5, K, g6, rnd_skip g7 hu, fun z => ⟨(g8 z).1, fun w hw hU => ?_⟩⟩)
      by_cases e : w = u
      · exact (hu (e ▸ hU)).elim
      · exact (g8 z).2 w (by omega) hU
    have hdo : U u → Wp (f213_96 r1 x2 r3 mv pass u M2) (Sum.elim (up3 I2 q) (Sum.elim (up3 I1 m) P)) := fun hu => by
      unfold f213_96
      rw [e14, e15, Int.toNat_natCast, ha, hb, Int.toNat_natCast, Int.toNat_natCast, hk1, hk2]
      refine wp_gd (by omega) (wp_gd (by omega) (wp_gd (by omega) (wp_ite (fun z => ?_) (fun z => ?_))))
      · unfold f213_165
        refine wp_gd (by omega) (wp_i3 (q - 1) (by omega) ⟨by omega, by omega, by omega, g5, K, g6, rnd_step g7 hv hu he (fun i hi => ?_), fun z2 => ⟨(g8 z2).1, fun w hw hU => ?_⟩⟩)
        · split
          · rename_i z3
            rcases z3 with z3 | z3
            · rw [z3]; omega
            · rw [z3]; omega
          · rfl
        · by_cases e : w = u
          · rw [e, ← (g8 z2).1 _ hev.1, ← (g8 z2).1 _ hev.2]
            omega
          · exact (g8 z2).2 w (by omega) hU
      · unfold f213_117
        rw [e14, e15, Int.toNat_natCast, ha, hb, Int.toNat_natCast, Int.toNat_natCast, hk1, hk2]
        refine wp_gd (by omega) (wp_gd (by omega) (wp_gd (by omega) (wp_bind (w6 (wp_mlet ?_)))))
        rw [ms_a (by omega : (15 : Nat) ≠ r3), e15, hb, Int.toNat_natCast]
        refine wp_gd (by omega) (wp_mlet ?_)
        unfold f213_165
        refine wp_gd (by omega) (wp_i3 (q - 1) (by omega) ⟨by omega, by omega, by omega, fun b hb => ?_, _, lab_two g6 (by omega), rnd_step g7 hv hu he (fun i hi => rfl), fun z2 => absurd z2 (by decide)⟩)
        rw [ms_a hb, ms_a hb]
        exact g5 b hb
    have hUu := hU u hv
    rw [Int.toNat_natCast]
    refine wp_gd (by omega) (wp_ite (fun z => hdo (hUu.mpr (Or.inl z))) (fun z => wp_ite (fun z2 => hskip ?_) (fun z2 => wp_ite (fun z3 => hskip ?_) (fun z3 => hdo (hUu.mpr (Or.inr ⟨z2, z3⟩))))))
    · intro hu
      rcases hUu.mp hu with hu | hu
      · exact z hu
      · exact hu.1 z2
    · intro hu
      rcases hUu.mp hu with hu | hu
      · exact z hu
      · exact hu.2 z3
  · have hv : v.toNat = nw := by omega
    rw [hv] at g7
    have hp := rnd_pass g7
    refine wp_o (wp_gd (by omega) (wp_i3 (m - 1) (by omega) ⟨by omega, by omega, by omega, g5, K, g6, g7.1, fun z i hi => ?_, ?_⟩))
    · have hL : gLab n (jn nw A B U) K := ⟨g7.1, fun a b ha hb ⟨w, w1, w2, w3⟩ => by
        have g9 := (g8 z).2 w (by omega) w2
        rcases w3 with ⟨q1, q2⟩ | ⟨q1, q2⟩
        · rw [q1, q2] at g9
          rw [(g8 z).1 a ha, (g8 z).1 b hb, g9]
        · rw [q1, q2] at g9
          rw [(g8 z).1 a ha, (g8 z).1 b hb, g9]⟩
      exact gLab_uniq jn_sym hG hL hi
    · rcases Nat.eq_zero_or_pos (gCnt L G n) with z | z
      · have q1 : gCnt K G n ≤ gCnt L G n := sN_le (fun i hi => by
          have b1 := gCnt_zero z i hi
          have b2 := g7.2.1 i hi
          have b3 := gLab_le jn_sym hG g7.1 hi
          rw [if_pos (by omega)]
          exact Nat.zero_le _)
        omega
      · have := gPass_cnt jn_sym hG h7 hp z
        omega
