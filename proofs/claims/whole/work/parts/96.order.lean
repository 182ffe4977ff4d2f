/-! What comes before what: five clocks, each seen from each. -/
def up5x (A : Nat → Nat → Int) (i j : Nat) (v : Int) : Nat → Nat → Int := fun a b => if a = i ∧ b = j then v else A a b
def stG (A : Nat → Nat → Int) (k : Nat) : Nat → Nat → Int := fun a b => min (A a b) (A a k + A k b)
def itG (A : Nat → Nat → Int) : Nat → Nat → Nat → Int
  | 0 => A
  | k + 1 => stG (itG A k) k
theorem itG_T (A : Nat → Nat → Int) : ∀ k a b : Nat, itG (fun a b => A b a) k a b = itG A k b a
  | 0, _, _ => rfl
  | k + 1, a, b => by
    show min (itG (fun a b => A b a) k a b) (itG (fun a b => A b a) k a k + itG (fun a b => A b a) k k b) = min (itG A k b a) (itG A k b k + itG A k k a)
    rw [itG_T A k, itG_T A k, itG_T A k, Int.add_comm]
theorem itG_le (A : Nat → Nat → Int) (k a b : Nat) : ∀ m : Nat, itG A (k + m) a b ≤ itG A k a b
  | 0 => Int.le_refl _
  | m + 1 => Int.le_trans (Int.min_le_left _ _) (itG_le A k a b m)
theorem itG_cg {A A2 : Nat → Nat → Int} (h : ∀ a b, a < 5 → b < 5 → A a b = A2 a b) : ∀ k : Nat, k ≤ 5 → ∀ a b, a < 5 → b < 5 → itG A k a b = itG A2 k a b
  | 0, _, a, b, ha, hb => h a b ha hb
  | k + 1, hk, a, b, ha, hb => by
    have ih := itG_cg h k (by omega)
    show min (itG A k a b) (itG A k a k + itG A k k b) = min (itG A2 k a b) (itG A2 k a k + itG A2 k k b)
    rw [ih a b ha hb, ih a k ha (by omega), ih k b (by omega) hb]
def okG (A : Nat → Nat → Int) : Prop := ∀ a, a < 5 → 0 ≤ itG A 5 a a
/-- within a round k, those of p done -/
def phG (A0 : Nat → Nat → Int) (k : Nat) (B : Int) (p : Nat → Nat → Prop) (A : Nat → Nat → Int) : Prop :=
  (∀ a b, a < 5 → b < 5 → A a b ≤ A0 a b ∧ A a b ≤ 1000000 ∧ -(6 * B) ≤ A a b ∧ (¬ p a b → A a b = A0 a b ∧ -B ≤ A a b) ∧ (a = k → -(3 * B) ≤ A a b) ∧ (b = k → -(3 * B) ≤ A a b)) ∧ -(2 * B) ≤ A k k ∧
  (0 ≤ A0 k k → ∀ a b, a < 5 → b < 5 → (p a b → A a b = stG A0 k a b) ∧ (¬ p a b → A a b = A0 a b))
theorem phG_0 {A : Nat → Nat → Int} {k : Nat} {B : Int} (hB : 0 ≤ B) (hk : k < 5) (h : ∀ a b, a < 5 → b < 5 → -B ≤ A a b ∧ A a b ≤ 1000000) : phG A k B (fun _ _ => False) A :=
  ⟨fun a b ha hb => by
    have := h a b ha hb
    exact ⟨Int.le_refl _, this.2, by omega, fun _ => ⟨rfl, this.1⟩, fun _ => by omega, fun _ => by omega⟩, by have := h k k hk hk; omega, fun _ a b _ _ => ⟨fun z => z.elim, fun _ => rfl⟩⟩
theorem phG_s {A0 A : Nat → Nat → Int} {k i j : Nat} {B : Int} {p p2 : Nat → Nat → Prop} (hB : 0 ≤ B) (hk : k < 5) (hi : i < 5) (hj : j < 5) (h : phG A0 k B p A) (hp : ¬ p i j) (hp2 : ∀ a b, p2 a b ↔ (p a b ∨ (a = i ∧ b = j))) :
    phG A0 k B p2 (up5x A i j (min (A i j) (A i k + A k j))) := by
  obtain ⟨h1, h2, h3⟩ := h
  obtain ⟨a1, a2, a3, a4, a5, a6⟩ := h1 i j hi hj
  obtain ⟨b1, b2, b3, b4, b5, b6⟩ := h1 i k hi hk
  obtain ⟨c1, c2, c3, c4, c5, c6⟩ := h1 k j hk hj
  have b6' := b6 rfl
  have c5' := c5 rfl
  have a4' := a4 hp
  refine ⟨fun a b ha hb => ?_, ?_, fun h0 a b ha hb => ?_⟩
  · unfold up5x
    by_cases e : a = i ∧ b = j
    · rw [if_pos e]
      obtain ⟨rfl, rfl⟩ := e
      refine ⟨by omega, by omega, by omega, fun z => absurd ((hp2 a b).mpr (Or.inr ⟨rfl, rfl⟩)) z, fun e2 => ?_, fun e2 => ?_⟩
      · subst e2
        omega
      · subst e2
        omega
    · rw [if_neg e]
      obtain ⟨d1, d2, d3, d4, d5, d6⟩ := h1 a b ha hb
      exact ⟨d1, d2, d3, fun z => d4 (fun z2 => z ((hp2 a b).mpr (Or.inl z2))), d5, d6⟩
  · unfold up5x
    by_cases e : k = i ∧ k = j
    · rw [if_pos e]
      obtain ⟨rfl, rfl⟩ := e
      omega
    · rw [if_neg e]
      exact h2
  · unfold up5x
    by_cases e : a = i ∧ b = j
    · rw [if_pos e]
      obtain ⟨rfl, rfl⟩ := e
      refine ⟨fun _ => ?_, fun z => absurd ((hp2 a b).mpr (Or.inr ⟨rfl, rfl⟩)) z⟩
      have g1 : A a k = A0 a k := by
        by_cases q : p a k
        · rw [(h3 h0 a k ha hk).1 q]
          unfold stG
          omega
        · exact (h3 h0 a k ha hk).2 q
      have g2 : A k b = A0 k b := by
        by_cases q : p k b
        · rw [(h3 h0 k b hk hb).1 q]
          unfold stG
          omega
        · exact (h3 h0 k b hk hb).2 q
      rw [a4'.1, g1, g2]
      rfl
    · rw [if_neg e]
      refine ⟨fun z => ?_, fun z => (h3 h0 a b ha hb).2 (fun z2 => z ((hp2 a b).mpr (Or.inl z2)))⟩
      rcases (hp2 a b).mp z with z2 | z2
      · exact (h3 h0 a b ha hb).1 z2
      · exact absurd z2 e
/-- before round k -/
def rdG (G : Nat → Nat → Int) (k : Nat) (A : Nat → Nat → Int) : Prop := (∀ a b, a < 5 → b < 5 → -((10000 * 6 ^ k : Nat) : Int) ≤ A a b ∧ A a b ≤ 1000000) ∧ ((∀ a b, a < 5 → b < 5 → A a b = itG G k a b) ∨ ((∃ a, a < 5 ∧ A a a < 0) ∧ ¬ okG G))
theorem rdG_s {G A A2 : Nat → Nat → Int} {k : Nat} {p : Nat → Nat → Prop} (hk : k < 5) (h : rdG G k A) (g : phG A k ((10000 * 6 ^ k : Nat) : Int) p A2) (hp : ∀ a b, a < 5 → b < 5 → p a b) : rdG G (k + 1) A2 := by
  obtain ⟨h1, h2⟩ := h
  obtain ⟨g1, g2, g3⟩ := g
  have e6 : (10000 * 6 ^ (k + 1) : Nat) = 6 * (10000 * 6 ^ k) := by rw [Nat.pow_succ]; omega
  refine ⟨fun a b ha hb => ?_, ?_⟩
  · obtain ⟨a1, a2, a3, _⟩ := g1 a b ha hb
    rw [e6]
    refine ⟨by omega, a2⟩
  · rcases h2 with h2 | ⟨⟨a, ha, hn⟩, hok⟩
    · by_cases c : 0 ≤ A k k
      · refine Or.inl (fun a b ha hb => ?_)
        rw [(g3 c a b ha hb).1 (hp a b ha hb)]
        show min (A a b) (A a k + A k b) = min (itG G k a b) (itG G k a k + itG G k k b)
        rw [h2 a b ha hb, h2 a k ha hk, h2 k b hk hb]
      · refine Or.inr ⟨⟨k, hk, ?_⟩, fun z => ?_⟩
        · have := (g1 k k hk hk).1
          omega
        · have z1 := z k hk
          have z2 := itG_le G k k k (5 - k)
          rw [show k + (5 - k) = 5 by omega, ← h2 k k hk hk] at z2
          omega
    · refine Or.inr ⟨⟨a, ha, ?_⟩, hok⟩
      have := (g1 a a ha ha).1
      omega
def bsG (lo hi : Nat → Int) : Nat → Nat → Int := fun a b => if a = b then 0 else if a = 4 then (if b < 4 then hi b else 1000000) else if b = 4 then -lo a else 1000000
/-- one more told -/
def edG (A : Nat → Nat → Int) (ld rw p q : Nat → Int) : Nat → Nat → Nat → Int
  | 0 => A
  | x + 1 => up5x (edG A ld rw p q x) (ld (p x).toNat).toNat (ld (q x).toNat).toNat (min (edG A ld rw p q x (ld (p x).toNat).toNat (ld (q x).toNat).toNat) (rw (q x).toNat - rw (p x).toNat))
def gM (r b : Nat) (M : Mm) : Nat → Nat → Int := edG (bsG (M 191) (M 192)) (M 193) (M 194) (M 195) (M 196) b
section ORD
variable {M M2 : Mm} {r b : Nat} {G : Nat → Nat → Int} {P : Mm → Prop}
theorem edG_b {A : Nat → Nat → Int} {ld rw p q : Nat → Int} (hA : ∀ a b, a < 5 → b < 5 → -10000 ≤ A a b ∧ A a b ≤ 1000000) (hp : ∀ i, i < b → (0 ≤ p i ∧ p i < r) ∧ 0 ≤ q i ∧ q i < r) (hw : ∀ i, i < r → 0 ≤ rw i ∧ rw i ≤ 9999) : ∀ x, x ≤ b → ∀ c d, c < 5 → d < 5 → -10000 ≤ edG A ld rw p q x c d ∧ edG A ld rw p q x c d ≤ 1000000
  | 0, _, c, d, hc, hd => hA c d hc hd
  | x + 1, hx, c, d, hc, hd => by
    have ih := edG_b (ld := ld) hA hp hw x (by omega)
    have z := hp x (by omega)
    have w1 := hw (p x).toNat (by omega)
    have w2 := hw (q x).toNat (by omega)
    rw [edG]
    unfold up5x
    by_cases e : c = (ld (p x).toNat).toNat ∧ d = (ld (q x).toNat).toNat
    · rw [if_pos e]
      have := ih c d hc hd
      rw [← e.1, ← e.2]
      omega
    · rw [if_neg e]
      exact ih c d hc hd
theorem w2f {r0 n : Nat} {v : Int} (hn : n < 1000) (k : ∀ M2 : Mm, (∀ b, b ≠ r0 → M2 b = M b) → (∀ j, j < n → M2 r0 j = v) → P M2) : Wp (f2 r0 n v M) P := by
  unfold f2 f2_5
  refine wp_gd (by omega) (wp_lp2 (fun m y M2 => ∃ j : Nat, y = j ∧ j ≤ n ∧ m = n - j ∧ (∀ b, b ≠ r0 → M2 b = M b) ∧ ∀ i, i < j → M2 r0 i = v) n (by omega) ⟨0, rfl, Nat.zero_le _, rfl, fun _ _ => rfl, fun i hi => absurd hi (Nat.not_lt_zero _)⟩ ?_)
  rintro m y M2 ⟨j, rfl, a1, a2, a3, a4⟩
  dsimp only
  unfold lb2_5
  refine wp_ite (fun c => ?_) (fun c => wp_o (wp_some (k M2 a3 (fun i hi => a4 i (by omega)))))
  rw [Int.toNat_natCast]
  refine wp_gd (by omega) (wp_mlet (wp_gd (by omega) (wp_i2 (m - 1) (by omega) ⟨j + 1, by omega, by omega, by omega, fun b hb => (ms_a hb).trans (a3 b hb), fun i hi => ?_⟩)))
  by_cases e : i = j
  · rw [e, ms_v]
  · rw [ms_i e]
    exact a4 i (by omega)
/-- the first object's table -/
theorem w200 (h : iClk r b M) (k : ∀ M2 : Mm, (∀ c, (c < 120 ∨ 124 < c) → M2 c = M c) → (∀ a c, a < 5 → c < 5 → M2 (120 + a) c = gM r b M a c) → P M2) : Wp (f200 M) P := by
  obtain ⟨h1, h2, h3, h4, h5, h6, h7, h8, h9⟩ := h
  unfold f200 f200_2
  refine wp_lp2 (fun m y M2 => ∃ j : Nat, y = j ∧ j ≤ 5 ∧ m = 5 - j ∧ (∀ c, (c < 120 ∨ 124 < c) → M2 c = M c) ∧ ∀ a c, a < j → c < 5 → M2 (120 + a) c = if a = c then 0 else 1000000) 5 (by decide) ⟨0, rfl, by omega, rfl, fun _ _ => rfl, fun a c ha => absurd ha (Nat.not_lt_zero _)⟩ ?_
  rintro m y M1 ⟨j, rfl, a1, a2, a3, a4⟩
  dsimp only
  unfold lb200_2
  refine wp_ite (fun hc5 => ?_) (fun hc5 => wp_o ?_)
  · rw [Int.toNat_natCast]
    refine wp_gd (by omega) (wp_bind (w2f (by decide) (fun M2 b1 b2 => wp_mlet (wp_gd (by omega) (wp_i2 (m - 1) (by omega) ⟨j + 1, by omega, by omega, by omega, fun c hc => ?_, fun a c ha hc => ?_⟩)))))
    · rw [ms_a (by omega), b1 c (by omega)]
      exact a3 c hc
    · by_cases e : a = j
      · subst e
        by_cases e2 : a = c
        · rw [if_pos e2, ← e2, ms_v]
        · rw [if_neg e2, ms_i (fun z => e2 z.symm)]
          exact b2 c hc
      · rw [ms_a (by omega), b1 _ (by omega)]
        exact a4 a c (by omega) hc
  have a4' : ∀ a c, a < 5 → c < 5 → M1 (120 + a) c = if a = c then 0 else 1000000 := fun a c ha hc => a4 a c (by omega) hc
  clear a1 a2 a4 hc5
  unfold f200_35
  refine wp_lp2 (fun m y M2 => ∃ j : Nat, y = j ∧ j ≤ 4 ∧ m = 4 - j ∧ (∀ c, (c < 120 ∨ 124 < c) → M2 c = M c) ∧ ∀ a c, a < 5 → c < 5 → M2 (120 + a) c = if a = 4 ∧ c < j then M 192 c else if c = 4 ∧ a < j then - M 191 a else if a = c then 0 else 1000000) 4 (by decide) ⟨0, rfl, by omega, rfl, a3, fun a c ha hc => by rw [a4' a c ha hc, if_neg (show ¬ (a = 4 ∧ c < 0) by omega), if_neg (show ¬ (c = 4 ∧ a < 0) by omega)]⟩ ?_
  clear a3 a4' M1
  rintro m y M1 ⟨j, rfl, a1, a2, a3, a4⟩
  dsimp only
  unfold lb200_35
  refine wp_ite (fun hc5 => ?_) (fun hc5 => wp_o ?_)
  · have hj := h7 j (by omega)
    rw [Int.toNat_natCast]
    refine wp_gd (by omega) (wp_gd (by omega) (wp_mlet ?_))
    rw [ms_a (by decide : (113 : Nat) ≠ 120 + 4), a3 113 (by omega), a3 114 (by omega), hj.1, hj.2.1]
    refine wp_gd (by omega) (wp_mlet (wp_gd (by omega) (wp_i2 (m - 1) (by omega) ⟨j + 1, by omega, by omega, by omega, fun c hc => ?_, fun a c ha hc => ?_⟩)))
    · rw [ms_a (by omega), ms_a (by omega)]
      exact a3 c hc
    · by_cases e1 : a = j ∧ c = 4
      · obtain ⟨rfl, rfl⟩ := e1
        rw [ms_v, if_neg (by omega), if_pos (by omega)]
      · have s1 : ∀ v : Int, ms (ms M1 (120 + 4) j (M 192 j)) (120 + j) 4 v (120 + a) c = ms M1 (120 + 4) j (M 192 j) (120 + a) c := fun v => by
          by_cases e2 : a = j
          · subst e2
            rw [ms_i (fun z => e1 ⟨rfl, z⟩)]
          · rw [ms_a (by omega)]
        rw [s1]
        by_cases e3 : a = 4 ∧ c = j
        · obtain ⟨rfl, rfl⟩ := e3
          rw [ms_v, if_pos (by omega)]
        · have s2 : ms M1 (120 + 4) j (M 192 j) (120 + a) c = M1 (120 + a) c := by
            by_cases e2 : a = 4
            · subst e2
              rw [ms_i (fun z => e3 ⟨rfl, z⟩)]
            · rw [ms_a (by omega)]
          rw [s2, a4 a c ha hc]
          by_cases e4 : a = 4 ∧ c < j
          · rw [if_pos e4, if_pos (by omega)]
          · rw [if_neg e4, if_neg (show ¬ (a = 4 ∧ c < j + 1) by omega)]
            by_cases e5 : c = 4 ∧ a < j
            · rw [if_pos e5, if_pos (by omega)]
            · rw [if_neg e5, if_neg (show ¬ (c = 4 ∧ a < j + 1) by omega)]
  have a4' : ∀ a c, a < 5 → c < 5 → M1 (120 + a) c = bsG (M 191) (M 192) a c := fun a c ha hc => by
    rw [a4 a c ha hc]
    unfold bsG
    by_cases e : a = c
    · rw [if_neg (by omega), if_neg (by omega), if_pos e, if_pos e]
    · rw [if_neg e, if_neg e]
      by_cases e4 : a = 4
      · rw [if_pos (show a = 4 ∧ c < j by omega), if_pos e4, if_pos (by omega)]
      · rw [if_neg (by omega), if_neg e4]
        by_cases e5 : c = 4
        · rw [if_pos (show c = 4 ∧ a < j by omega), if_pos e5]
        · rw [if_neg (by omega), if_neg e5]
  clear a1 a2 a4 hc5
  have hbs : ∀ a c, a < 5 → c < 5 → -10000 ≤ bsG (M 191) (M 192) a c ∧ bsG (M 191) (M 192) a c ≤ 1000000 := fun a c ha hc => by
    unfold bsG
    split
    · omega
    · split
      · split
        · have := h7 c (by omega); omega
        · omega
      · split
        · have := h7 a (by omega); omega
        · omega
  have hb9 := edG_b (b := b) (r := r) (ld := M 193) (rw := M 194) (p := M 195) (q := M 196) hbs (fun i hi => by have := h9 i hi; omega) (fun i hi => by have := h8 i hi; omega)
  unfold f200_77
  refine wp_lp2 (fun m y M2 => ∃ j : Nat, y = j ∧ j ≤ b ∧ m = b - j ∧ (∀ c, (c < 120 ∨ 124 < c) → M2 c = M c) ∧ ∀ a c, a < 5 → c < 5 → M2 (120 + a) c = edG (bsG (M 191) (M 192)) (M 193) (M 194) (M 195) (M 196) j a c) b (by omega) ⟨0, rfl, by omega, rfl, a3, a4'⟩ ?_
  clear a3 a4' M1
  rintro m y M1 ⟨j, rfl, a1, a2, a3, a4⟩
  dsimp only
  unfold lb200_77
  rw [a3 112 (by omega), a3 115 (by omega), a3 116 (by omega), a3 117 (by omega), a3 118 (by omega), h4]
  refine wp_ite (fun hc5 => ?_) (fun hc5 => wp_o (wp_some (k M1 a3 (fun a c ha hc => ?_))))
  · have hj := h9 j (by omega)
    rw [Int.toNat_natCast, hj.1, hj.2.1]
    have hp := h8 (M 195 j).toNat (by omega)
    have hq := h8 (M 196 j).toNat (by omega)
    rw [hp.1, hp.2.1, hq.1, hq.2.1]
    refine wp_gd (by omega) (wp_gd (by omega) (wp_gd (by omega) (wp_gd (by omega) (wp_gd (by omega) (wp_gd (by omega) (wp_bind (w6 (wp_mlet (wp_gd (by omega) (wp_i2 (m - 1) (by omega) ⟨j + 1, by omega, by omega, by omega, fun c hc => ?_, fun a c ha hc => ?_⟩))))))))))
    · rw [ms_a (by omega)]
      exact a3 c hc
    · rw [edG]
      unfold up5x
      rw [a4 _ _ (by omega) (by omega)]
      by_cases e : a = (M 193 (M 195 j).toNat).toNat ∧ c = (M 193 (M 196 j).toNat).toNat
      · rw [if_pos e, ← e.1, ← e.2, ms_v]
      · rw [if_neg e, ← a4 a c ha hc]
        by_cases e2 : a = (M 193 (M 195 j).toNat).toNat
        · rw [e2, ms_i (fun z => e ⟨e2, z⟩)]
        · rw [ms_a (by omega)]
  · rw [a4 a c ha hc, show j = b by omega]
    rfl
theorem gM_b (h : iClk r b M) : ∀ a c, a < 5 → c < 5 → -10000 ≤ gM r b M a c ∧ gM r b M a c ≤ 1000000 := by
  obtain ⟨h1, h2, h3, h4, h5, h6, h7, h8, h9⟩ := h
  refine edG_b (b := b) (r := r) (fun a c ha hc => ?_) (fun i hi => by have := h9 i hi; omega) (fun i hi => by have := h8 i hi; omega) b (Nat.le_refl _)
  unfold bsG
  split
  · omega
  · split
    · split
      · have := h7 c (by omega); omega
      · omega
    · split
      · have := h7 a (by omega); omega
      · omega
theorem p6b {k : Nat} (hk : k ≤ 5) : (10000 * 6 ^ k : Nat) ≤ 77760000 ∧ (k < 5 → (10000 * 6 ^ k : Nat) ≤ 12960000) := by
  have : k = 0 ∨ k = 1 ∨ k = 2 ∨ k = 3 ∨ k = 4 ∨ k = 5 := by omega
  rcases this with rfl | rfl | rfl | rfl | rfl | rfl <;> decide
/-- the rounds of the first object -/
theorem w201 (hG : rdG G 0 (fun a c => M (120 + a) c)) (k : ∀ M2 : Mm, (∀ c, (c < 120 ∨ 124 < c) → M2 c = M c) → rdG G 5 (fun a c => M2 (120 + a) c) → P M2) : Wp (f201 M) P := by
  unfold f201 f201_2
  let I1 : Nat → Int → Mm → Prop := fun m y M2 => ∃ x : Nat, y = x ∧ x ≤ 5 ∧ m = 5 - x ∧ (∀ c, (c < 120 ∨ 124 < c) → M2 c = M c) ∧ rdG G x (fun a c => M2 (120 + a) c)
  refine wp_lp2 I1 5 (by decide) ⟨0, rfl, by omega, rfl, fun _ _ => rfl, hG⟩ ?_
  rintro m y M1 ⟨x, rfl, a1, a2, a3, a4⟩
  dsimp only
  unfold lb201_2
  refine wp_ite (fun c => ?_) (fun c => wp_o (wp_some (k M1 a3 (by rw [show (5 : Nat) = x by omega]; exact a4))))
  have hx : x < 5 := by omega
  have pb := (p6b (k := x) (by omega)).2 hx
  have hB : (0 : Int) ≤ ((10000 * 6 ^ x : Nat) : Int) := by omega
  generalize hBB : ((10000 * 6 ^ x : Nat) : Int) = B at hB
  have hB2 : B ≤ 12960000 := by omega
  unfold f201_9
  let I2 : Nat → Int → Mm → Prop := fun m y M2 => ∃ i : Nat, y = i ∧ i ≤ 5 ∧ m = 5 - i ∧ (∀ c, (c < 120 ∨ 124 < c) → M2 c = M c) ∧ phG (fun a c => M1 (120 + a) c) x B (fun a _ => a < i) (fun a c => M2 (120 + a) c)
  have st0 : phG (fun a c => M1 (120 + a) c) x B (fun a _ => a < 0) (fun a c => M1 (120 + a) c) := by
    have := phG_0 (k := x) (B := B) hB hx (A := fun a c => M1 (120 + a) c) (fun a c ha hc => by have := a4.1 a c ha hc; rw [hBB] at this; exact this)
    have e : (fun (a _ : Nat) => a < 0) = (fun (_ _ : Nat) => False) := by funext a c; exact propext ⟨fun z => absurd z (Nat.not_lt_zero _), fun z => z.elim⟩
    rw [e]
    exact this
  refine wp_lp2 I2 5 (by decide) ⟨0, rfl, by omega, rfl, a3, st0⟩ ?_
  rintro m2 y2 M2 ⟨i, rfl, b1, b2, b3, b4⟩
  dsimp only
  unfold lb201_9
  refine wp_ite (fun c2 => ?_) (fun c2 => wp_o (wp_gd (by omega) (wp_i2 (m - 1) (by omega) ⟨x + 1, by omega, by omega, by omega, b3, ?_⟩)))
  · have hi : i < 5 := by omega
    unfold f201_16
    let I3 : Nat → Int → Mm → Prop := fun m y M3 => ∃ j : Nat, y = j ∧ j ≤ 5 ∧ m = 5 - j ∧ (∀ c, (c < 120 ∨ 124 < c) → M3 c = M c) ∧ phG (fun a c => M1 (120 + a) c) x B (fun a c => a < i ∨ (a = i ∧ c < j)) (fun a c => M3 (120 + a) c)
    have e : (fun (a c : Nat) => a < i ∨ (a = i ∧ c < 0)) = (fun (a _ : Nat) => a < i) := by funext a c; exact propext (by omega)
    refine wp_lp2 I3 5 (by decide) ⟨0, rfl, by omega, rfl, b3, by rw [e]; exact b4⟩ ?_
    rintro m3 y3 M3 ⟨j, rfl, d1, d2, d3, d4⟩
    dsimp only
    unfold lb201_16
    rw [Int.toNat_natCast, Int.toNat_natCast, Int.toNat_natCast]
    refine wp_ite (fun c3 => ?_) (fun c3 => wp_o (wp_gd (by omega) (wp_i2 (m2 - 1) (by omega) ⟨i + 1, by omega, by omega, by omega, d3, ?_⟩)))
    · have hj : j < 5 := by omega
      obtain ⟨l1, u1, v1, _⟩ := d4.1 i x hi hx
      obtain ⟨l2, u2, v2, _⟩ := d4.1 x j hx hj
      have q1 : M3 (120 + i) x ≤ 1000000 := u1
      have q2 : -(6 * B) ≤ M3 (120 + i) x := v1
      have q3 : M3 (120 + x) j ≤ 1000000 := u2
      have q4 : -(6 * B) ≤ M3 (120 + x) j := v2
      refine wp_gd (by omega) (wp_gd (by omega) (wp_gd (by omega) (wp_gd ⟨by omega, by omega⟩ (wp_bind (w6 (wp_mlet (wp_gd (by omega) (wp_i2 (m3 - 1) (by omega) ⟨j + 1, by omega, by omega, by omega, fun c hc => (ms_a (by omega)).trans (d3 c hc), ?_⟩))))))))
      have key := phG_s (p2 := fun a c => a < i ∨ (a = i ∧ c < j + 1)) hB hx hi hj d4 (by omega) (fun a c => by omega)
      have e3 : (fun a c => ms M3 (120 + i) j (min (M3 (120 + i) j) (M3 (120 + i) x + M3 (120 + x) j)) (120 + a) c) = up5x (fun a c => M3 (120 + a) c) i j (min (M3 (120 + i) j) (M3 (120 + i) x + M3 (120 + x) j)) := by
        funext a c
        unfold up5x ms
        by_cases e4 : a = i ∧ c = j
        · rw [if_pos e4, if_pos ⟨by omega, e4.2⟩]
        · rw [if_neg e4, if_neg (fun z => e4 ⟨by omega, z.2⟩)]
      rw [e3]
      exact key
    · obtain ⟨g1, g2, g3⟩ := d4
      refine ⟨fun a c ha hc => ?_, g2, fun z a c ha hc => ?_⟩
      · obtain ⟨o1, o2, o3, o4, o5⟩ := g1 a c ha hc
        exact ⟨o1, o2, o3, fun z => o4 (by omega), o5⟩
      · obtain ⟨o1, o2⟩ := g3 z a c ha hc
        exact ⟨fun z => o1 (by omega), fun z => o2 (by omega)⟩
  · rw [← hBB] at b4
    exact rdG_s hx a4 b4 (fun a c ha hc => by omega)
/-! The second object's table: seen from the other side. -/
def fA (M : Mm) : Nat → Nat → Int := fun a c => M 197 (5 * a + c)
theorem up5_m {M : Mm} {i j : Nat} {v : Int} (hj : j < 5) : ∀ a c, c < 5 → fA (ms M 197 (5 * i + j) v) a c = up5x (fA M) i j v a c := fun a c hc => by
  unfold fA up5x
  by_cases e : a = i ∧ c = j
  · rw [if_pos e, e.1, e.2, ms_v]
  · rw [if_neg e, ms_i (by omega)]
theorem w87 {i j : Nat} {v : Int} {M : Mm} {P : Mm → Prop} (hi : i < 5) (hj : j < 5) (k : ∀ M2 : Mm, (∀ b, b ≠ 197 → M2 b = M b) → (∀ a c, c < 5 → fA M2 a c = up5x (fA M) i j (min (fA M i j) v) a c) → P M2) : Wp (f87 i j v M) P := by
  unfold f87
  rw [show (5 * (i : Int) + (j : Int)).toNat = 5 * i + j by omega]
  have e : fA M i j = M 197 (5 * i + j) := rfl
  refine wp_gd (by omega) (wp_gd (by omega) (wp_gd (by omega) (wp_ite (fun c => wp_mlet (wp_some (k _ (fun b hb => ms_a hb) ?_))) (fun c => wp_mlet (wp_some (k _ (fun b hb => ms_a hb) ?_))))))
  · rw [e, show min (M 197 (5 * i + j)) v = v by omega]
    exact up5_m hj
  · rw [e, show min (M 197 (5 * i + j)) v = M 197 (5 * i + j) by omega]
    exact up5_m hj
theorem up5_cg {A A2 : Nat → Nat → Int} {i j : Nat} {v : Int} (h : ∀ a c, a < 5 → c < 5 → A a c = A2 a c) : ∀ a c, a < 5 → c < 5 → up5x A i j v a c = up5x A2 i j v a c := fun a c ha hc => by
  unfold up5x
  by_cases e : a = i ∧ c = j
  · rw [if_pos e, if_pos e]
  · rw [if_neg e, if_neg e]
    exact h a c ha hc
theorem rdG_cg {G A A2 : Nat → Nat → Int} {k : Nat} (h : ∀ a c, a < 5 → c < 5 → A2 a c = A a c) (g : rdG G k A) : rdG G k A2 := by
  obtain ⟨g1, g2⟩ := g
  refine ⟨fun a c ha hc => by rw [h a c ha hc]; exact g1 a c ha hc, ?_⟩
  rcases g2 with g2 | ⟨⟨a, ha, g2⟩, g3⟩
  · exact Or.inl (fun a c ha hc => by rw [h a c ha hc]; exact g2 a c ha hc)
  · exact Or.inr ⟨⟨a, ha, by rw [h a a ha ha]; exact g2⟩, g3⟩
theorem phG_cg {A0 A A2 : Nat → Nat → Int} {k : Nat} {B : Int} {p : Nat → Nat → Prop} (hk : k < 5) (h : ∀ a c, a < 5 → c < 5 → A2 a c = A a c) (g : phG A0 k B p A) : phG A0 k B p A2 := by
  obtain ⟨g1, g2, g3⟩ := g
  refine ⟨fun a c ha hc => by rw [h a c ha hc]; exact g1 a c ha hc, by rw [h k k hk hk]; exact g2, fun z a c ha hc => by rw [h a c ha hc]; exact g3 z a c ha hc⟩
/-- the rounds of the second object, and what they find -/
theorem w109b {G : Nat → Nat → Int} {M : Mm} (hG : rdG G 0 (fA M)) : Wp (f109_139 0 M) (fun v => (∀ b, b ≠ 197 → v.2 b = M b) ∧ rdG G 5 (fA v.2) ∧ ((v.1 = 1 ∧ ∀ a, a < 5 → 0 ≤ fA v.2 a a) ∨ (v.1 = 0 ∧ ∃ a, a < 5 ∧ fA v.2 a a < 0))) := by
  unfold f109_139
  let I1 : Nat → Int → Mm → Prop := fun m y M2 => ∃ x : Nat, y = x ∧ x ≤ 5 ∧ m = 5 - x ∧ (∀ c, c ≠ 197 → M2 c = M c) ∧ rdG G x (fA M2)
  refine wp_lp2 I1 5 (by decide) ⟨0, rfl, by omega, rfl, fun _ _ => rfl, hG⟩ ?_
  rintro m y M1 ⟨x, rfl, a1, a2, a3, a4⟩
  dsimp only
  unfold lb109_139
  refine wp_ite (fun hc5 => ?_) (fun hc5 => wp_o ?_)
  · have hx : x < 5 := by omega
    have pb := (p6b (k := x) (by omega)).2 hx
    have hB : (0 : Int) ≤ ((10000 * 6 ^ x : Nat) : Int) := by omega
    generalize hBB : ((10000 * 6 ^ x : Nat) : Int) = B at hB
    have hB2 : B ≤ 12960000 := by omega
    unfold f109_146
    let I2 : Nat → Int → Mm → Prop := fun m y M2 => ∃ i : Nat, y = i ∧ i ≤ 5 ∧ m = 5 - i ∧ (∀ c, c ≠ 197 → M2 c = M c) ∧ phG (fA M1) x B (fun a _ => a < i) (fA M2)
    have st0 : phG (fA M1) x B (fun a _ => a < 0) (fA M1) := by
      have := phG_0 (k := x) (B := B) hB hx (A := fA M1) (fun a c ha hc => by have := a4.1 a c ha hc; rw [hBB] at this; exact this)
      have e : (fun (a _ : Nat) => a < 0) = (fun (_ _ : Nat) => False) := by funext a c; exact propext ⟨fun z => absurd z (Nat.not_lt_zero _), fun z => z.elim⟩
      rw [e]
      exact this
    refine wp_lp2 I2 5 (by decide) ⟨0, rfl, by omega, rfl, a3, st0⟩ ?_
    rintro m2 y2 M2 ⟨i, rfl, b1, b2, b3, b4⟩
    dsimp only
    unfold lb109_146
    refine wp_ite (fun c2 => ?_) (fun c2 => wp_o (wp_gd (by omega) (wp_i2 (m - 1) (by omega) ⟨x + 1, by omega, by omega, by omega, b3, ?_⟩)))
    · have hi : i < 5 := by omega
      unfold f109_153
      let I3 : Nat → Int → Mm → Prop := fun m y M3 => ∃ j : Nat, y = j ∧ j ≤ 5 ∧ m = 5 - j ∧ (∀ c, c ≠ 197 → M3 c = M c) ∧ phG (fA M1) x B (fun a c => a < i ∨ (a = i ∧ c < j)) (fA M3)
      have e : (fun (a c : Nat) => a < i ∨ (a = i ∧ c < 0)) = (fun (a _ : Nat) => a < i) := by funext a c; exact propext (by omega)
      refine wp_lp2 I3 5 (by decide) ⟨0, rfl, by omega, rfl, b3, by rw [e]; exact b4⟩ ?_
      rintro m3 y3 M3 ⟨j, rfl, d1, d2, d3, d4⟩
      dsimp only
      unfold lb109_153
      refine wp_ite (fun c3 => ?_) (fun c3 => wp_o (wp_gd (by omega) (wp_i2 (m2 - 1) (by omega) ⟨i + 1, by omega, by omega, by omega, d3, ?_⟩)))
      · have hj : j < 5 := by omega
        obtain ⟨l1, u1, v1, _⟩ := d4.1 i x hi hx
        obtain ⟨l2, u2, v2, _⟩ := d4.1 x j hx hj
        rw [show (5 * (i : Int) + (x : Int)).toNat = 5 * i + x by omega, show (5 * (x : Int) + (j : Int)).toNat = 5 * x + j by omega]
        have e1 : M3 197 (5 * i + x) = fA M3 i x := rfl
        have e2 : M3 197 (5 * x + j) = fA M3 x j := rfl
        rw [e1, e2]
        refine wp_gd (by omega) (wp_gd (by omega) (wp_gd (by omega) (wp_gd (by omega) (wp_gd (by omega) (wp_gd (by omega) (wp_gd ⟨by omega, by omega⟩ (wp_bind (w87 hi hj (fun M4 q1 q2 => wp_gd (by omega) (wp_i2 (m3 - 1) (by omega) ⟨j + 1, by omega, by omega, by omega, fun c hc => (q1 c hc).trans (d3 c hc), ?_⟩))))))))))
        exact phG_cg hx (fun a c _ hc => q2 a c hc) (phG_s (p2 := fun a c => a < i ∨ (a = i ∧ c < j + 1)) hB hx hi hj d4 (by omega) (fun a c => by omega))
      · obtain ⟨g1, g2, g3⟩ := d4
        refine ⟨fun a c ha hc => ?_, g2, fun z a c ha hc => ?_⟩
        · obtain ⟨o1, o2, o3, o4, o5⟩ := g1 a c ha hc
          exact ⟨o1, o2, o3, fun z => o4 (by omega), o5⟩
        · obtain ⟨o1, o2⟩ := g3 z a c ha hc
          exact ⟨fun z => o1 (by omega), fun z => o2 (by omega)⟩
    · rw [← hBB] at b4
      exact rdG_s hx a4 b4 (fun a c ha hc => by omega)
  · rw [show x = 5 by omega] at a4
    unfold f109_205
    refine wp_lp1 (fun m y => ∃ x : Nat, y = x ∧ x ≤ 5 ∧ m = 5 - x ∧ ∀ a, a < x → 0 ≤ fA M1 a a) 5 (by decide) ⟨0, rfl, by omega, rfl, fun a ha => absurd ha (Nat.not_lt_zero _)⟩ ?_
    rintro m2 y2 ⟨i, rfl, b1, b2, b3⟩
    try dsimp only
    unfold lb109_205
    refine wp_ite (fun c2 => ?_) (fun c2 => wp_o (wp_some ⟨a3, a4, Or.inl ⟨rfl, fun a ha => b3 a (by omega)⟩⟩))
    rw [show (6 * (i : Int)).toNat = 5 * i + i by omega]
    have e1 : M1 197 (5 * i + i) = fA M1 i i := rfl
    rw [e1]
    refine wp_gd (by omega) (wp_gd (by omega) (wp_ite (fun c3 => wp_o (wp_some ⟨a3, a4, Or.inr ⟨rfl, i, by omega, c3⟩⟩)) (fun c3 => wp_gd (by omega) (wp_i1 (m2 - 1) (by omega) ⟨i + 1, by omega, by omega, by omega, fun a ha => ?_⟩))))
    by_cases e : a = i
    · rw [e]; omega
    · exact b3 a (by omega)
theorem edG_T {A : Nat → Nat → Int} {ld rw p q : Nat → Int} (x a c : Nat) : edG A ld rw p q (x + 1) c a = up5x (fun a c => edG A ld rw p q x c a) (ld (q x).toNat).toNat (ld (p x).toNat).toNat (min (edG A ld rw p q x (ld (p x).toNat).toNat (ld (q x).toNat).toNat) (rw (q x).toNat - rw (p x).toNat)) a c := by
  rw [edG]
  unfold up5x
  by_cases e : c = (ld (p x).toNat).toNat ∧ a = (ld (q x).toNat).toNat
  · rw [if_pos e, if_pos ⟨e.2, e.1⟩]
  · rw [if_neg e, if_neg (fun z => e ⟨z.2, z.1⟩)]
/-- the second object's table at the start -/
theorem w109a {M : Mm} {r b : Nat} {P : Int × Mm → Prop} (h : iClk r b M) (k : ∀ M2 : Mm, (∀ c, c ≠ 197 → M2 c = M c) → (∀ a c, a < 5 → c < 5 → fA M2 a c = gM r b M c a) → Wp (f109_139 0 M2) P) : Wp (f109 M) P := by
  obtain ⟨h1, h2, h3, h4, h5, h6, h7, h8, h9⟩ := h
  unfold f109 f109_2
  refine wp_lp2 (fun m y M2 => ∃ x : Nat, y = x ∧ x ≤ 25 ∧ m = 25 - x ∧ (∀ c, c ≠ 197 → M2 c = M c) ∧ ∀ i, i < x → M2 197 i = if i % 6 = 0 then 0 else 1000000) 25 (by decide) ⟨0, rfl, by omega, rfl, fun _ _ => rfl, fun i hi => absurd hi (Nat.not_lt_zero _)⟩ ?_
  rintro m y M1 ⟨x, rfl, a1, a2, a3, a4⟩
  dsimp only
  unfold lb109_2
  refine wp_ite (fun hc5 => ?_) (fun hc5 => wp_o ?_)
  · have e6 : Int.tmod (x : Int) 6 = ((x % 6 : Nat) : Int) := rfl
    rw [e6, Int.toNat_natCast]
    refine wp_gd (by omega) (wp_ite (fun c => wp_gd (by omega) (wp_mlet (wp_gd (by omega) (wp_i2 (m - 1) (by omega) ⟨x + 1, by omega, by omega, by omega, fun c hc => (ms_a hc).trans (a3 c hc), fun i hi => ?_⟩)))) (fun c => wp_gd (by omega) (wp_mlet (wp_gd (by omega) (wp_i2 (m - 1) (by omega) ⟨x + 1, by omega, by omega, by omega, fun c hc => (ms_a hc).trans (a3 c hc), fun i hi => ?_⟩)))))
    · by_cases e : i = x
      · rw [e, ms_v, if_pos (by omega)]
      · rw [ms_i e]; exact a4 i (by omega)
    · by_cases e : i = x
      · rw [e, ms_v, if_neg (by omega)]
      · rw [ms_i e]; exact a4 i (by omega)
  have a4' : ∀ a c, a < 5 → c < 5 → fA M1 a c = if a = c then 0 else 1000000 := fun a c ha hc => by
    unfold fA
    rw [a4 _ (by omega)]
    by_cases e : a = c
    · rw [if_pos e, if_pos (by omega)]
    · rw [if_neg e, if_neg (by omega)]
  clear a1 a2 a4 hc5
  unfold f109_36
  refine wp_lp2 (fun m y M2 => ∃ j : Nat, y = j ∧ j ≤ 4 ∧ m = 4 - j ∧ (∀ c, c ≠ 197 → M2 c = M c) ∧ ∀ a c, a < 5 → c < 5 → fA M2 a c = if c = 4 ∧ a < j then M 192 a else if a = 4 ∧ c < j then - M 191 c else if a = c then 0 else 1000000) 4 (by decide) ⟨0, rfl, by omega, rfl, a3, fun a c ha hc => by rw [a4' a c ha hc, if_neg (show ¬ (c = 4 ∧ a < 0) by omega), if_neg (show ¬ (a = 4 ∧ c < 0) by omega)]⟩ ?_
  clear a3 a4' M1
  rintro m y M1 ⟨j, rfl, a1, a2, a3, a4⟩
  dsimp only
  unfold lb109_36
  refine wp_ite (fun hc5 => ?_) (fun hc5 => wp_o ?_)
  · have hj := h7 j (by omega)
    rw [Int.toNat_natCast, a3 192 (by decide)]
    refine wp_gd (by omega) (wp_bind (w87 (j := 4) (by omega) (by decide) (fun M2 b1 b2 => ?_)))
    rw [b1 191 (by decide), a3 191 (by decide)]
    refine wp_gd (by omega) (wp_bind (w87 (i := 4) (by decide) (by omega) (fun M3 c1 c2 => wp_gd (by omega) (wp_i2 (m - 1) (by omega) ⟨j + 1, by omega, by omega, by omega, fun c hc => (c1 c hc).trans ((b1 c hc).trans (a3 c hc)), fun a c ha hc => ?_⟩))))
    have f1 : fA M1 j 4 = 1000000 := by rw [a4 j 4 (by omega) (by decide), if_neg (by omega), if_neg (by omega), if_neg (by omega)]
    have f2 : fA M2 4 j = 1000000 := by
      rw [b2 4 j (by omega)]
      unfold up5x
      rw [if_neg (by omega), a4 4 j (by decide) (by omega), if_neg (by omega), if_neg (by omega), if_neg (by omega)]
    rw [c2 a c hc, f2, show min (1000000 : Int) (-M 191 j) = - M 191 j by omega]
    unfold up5x
    by_cases e1 : a = 4 ∧ c = j
    · rw [if_pos e1, if_neg (by omega), if_pos (by omega), e1.2]
    · rw [if_neg e1, b2 a c hc, f1, show min (1000000 : Int) (M 192 j) = M 192 j by omega]
      unfold up5x
      by_cases e2 : a = j ∧ c = 4
      · rw [if_pos e2, if_pos (by omega), e2.1]
      · rw [if_neg e2, a4 a c ha hc]
        by_cases e3 : c = 4 ∧ a < j
        · rw [if_pos e3, if_pos (by omega)]
        · rw [if_neg e3, if_neg (show ¬ (c = 4 ∧ a < j + 1) by omega)]
          by_cases e4 : a = 4 ∧ c < j
          · rw [if_pos e4, if_pos (by omega)]
          · rw [if_neg e4, if_neg (show ¬ (a = 4 ∧ c < j + 1) by omega)]
  have a4' : ∀ a c, a < 5 → c < 5 → fA M1 a c = bsG (M 191) (M 192) c a := fun a c ha hc => by
    rw [a4 a c ha hc]
    unfold bsG
    by_cases e : a = c
    · rw [if_neg (by omega), if_neg (by omega), if_pos e, if_pos e.symm]
    · rw [if_neg e, if_neg (show ¬ c = a by omega)]
      by_cases e4 : c = 4
      · rw [if_pos (show c = 4 ∧ a < j by omega), if_pos e4, if_pos (by omega)]
      · rw [if_neg (by omega), if_neg e4]
        by_cases e5 : a = 4
        · rw [if_pos (show a = 4 ∧ c < j by omega), if_pos e5]
        · rw [if_neg (by omega), if_neg e5]
  clear a1 a2 a4 hc5
  unfold f109_74
  refine wp_lp2 (fun m y M2 => ∃ j : Nat, y = j ∧ j ≤ b ∧ m = b - j ∧ (∀ c, c ≠ 197 → M2 c = M c) ∧ ∀ a c, a < 5 → c < 5 → fA M2 a c = edG (bsG (M 191) (M 192)) (M 193) (M 194) (M 195) (M 196) j c a) b (by omega) ⟨0, rfl, by omega, rfl, a3, a4'⟩ ?_
  clear a3 a4' M1
  rintro m y M1 ⟨j, rfl, a1, a2, a3, a4⟩
  dsimp only
  unfold lb109_74
  rw [a3 142 (by decide), a3 193 (by decide), a3 194 (by decide), a3 195 (by decide), a3 196 (by decide), h5, Int.toNat_natCast]
  refine wp_ite (fun hc5 => ?_) (fun hc5 => wp_o (k M1 a3 (fun a c ha hc => ?_)))
  · have hj := h9 j (by omega)
    have hp := h8 (M 195 j).toNat (by omega)
    have hq := h8 (M 196 j).toNat (by omega)
    obtain ⟨u, hu⟩ := Int.eq_ofNat_of_zero_le hp.2.2.1.1
    obtain ⟨v, hv⟩ := Int.eq_ofNat_of_zero_le hq.2.2.1.1
    rw [hu, hv]
    refine wp_gd (by omega) (wp_gd (by omega) (wp_gd (by omega) (wp_gd (by omega) (wp_bind (w87 (i := v) (j := u) (by omega) (by omega) (fun M2 b1 b2 => wp_gd (by omega) (wp_i2 (m - 1) (by omega) ⟨j + 1, by omega, by omega, by omega, fun c hc => (b1 c hc).trans (a3 c hc), fun a c ha hc => ?_⟩)))))))
    rw [b2 a c hc, edG_T, hu, hv, Int.toNat_natCast, Int.toNat_natCast, a4 v u (by omega) (by omega)]
    exact up5_cg (fun a c ha hc => a4 a c ha hc) a c ha hc
  · rw [a4 a c ha hc, show j = b by omega]
    rfl
theorem gM_fp {M M2 : Mm} {r b : Nat} (f : fpP M M2) : gM r b M2 = gM r b M := by
  unfold gM
  rw [f.1 191 (by unfold perB; omega), f.1 192 (by unfold perB; omega), f.1 193 (by unfold perB; omega), f.1 194 (by unfold perB; omega), f.1 195 (by unfold perB; omega), f.1 196 (by unfold perB; omega)]
theorem okG_T {G : Nat → Nat → Int} : okG (fun a c => G c a) ↔ okG G := by
  unfold okG
  exact Iff.intro (fun h a ha => by rw [← itG_T]; exact h a ha) (fun h a ha => by rw [itG_T]; exact h a ha)
end ORD
section ORD2
variable {N S M M2 : Mm} {Ps : Nat → Mm} {l : List (Bool × Sem)} {r b : Nat}
theorem c64 {x1 x2 : Int} (h : IV N S Ps l M) : Wp (f64 x1 x2 M) (fun r => JJ r.1 (f151 x1 x2 r.2)) := by
  obtain ⟨r, b, hr⟩ := h.2.2.2.2.2.1
  have hr3 := hr.2.2.1
  unfold f64
  refine wp_bind (w203 hr.1 ?_)
  by_cases h1 : 0 ≤ x1 ∧ x1 < r
  · rw [if_pos h1]
    refine wp_neg (by decide) (wp_bind (w203 hr.1 ?_))
    by_cases h2 : 0 ≤ x2 ∧ x2 < r
    · rw [if_pos h2]
      refine wp_neg (by decide) ?_
      obtain ⟨i, rfl⟩ := Int.eq_ofNat_of_zero_le h1.1
      obtain ⟨j, rfl⟩ := Int.eq_ofNat_of_zero_le h2.1
      have hi := hr.2.2.2.2.2.2.2.1 i (by omega)
      have hj := hr.2.2.2.2.2.2.2.1 j (by omega)
      obtain ⟨u, hu⟩ := Int.eq_ofNat_of_zero_le hi.2.2.1.1
      obtain ⟨v, hv⟩ := Int.eq_ofNat_of_zero_le hj.2.2.1.1
      generalize hG : gM r b M = G
      have Gb : ∀ a c, a < 5 → c < 5 → -10000 ≤ G a c ∧ G a c ≤ 1000000 := by rw [← hG]; exact gM_b hr
      -- what the answer is
      let ans : Int := if itG G 5 u v < M 194 j - M 194 i then 0 else if M 194 j - M 194 i < - itG G 5 v u then 1 else if itG G 5 u v = M 194 j - M 194 i then (if - itG G 5 v u = M 194 j - M 194 i then 2 else 3) else 3
      have model : ∀ (w : Int) (M1 : Mm), fpP M M1 → (okG G → w = ans) → (¬ okG G → w = 4) → JJ w (f151 i j M1) := fun w M1 f1 k1 k2 => by
        have g := h.fp f1
        have hr1 : iClk r b M1 := hr.to (fun b hb => f1.1 b (by unfold perB; omega)) (f1.2.1 8 (by omega)) (f1.2.1 9 (by omega))
        unfold f151
        refine wp_bind (w129 hr1.2.1 (by omega) ?_)
        rw [if_pos h1]
        refine wp_neg (by decide) (wp_bind (w129 hr1.2.1 (by omega) ?_))
        rw [if_pos h2]
        refine wp_neg (by decide) (wp_obnd (w109a hr1 (fun M2 b1 b2 => wpW (w109b (G := fun a c => G c a) (M := M2) ⟨fun a c ha hc => ?_, Or.inl (fun a c ha hc => ?_)⟩) (fun r2 hr2 => ?_))))
        · rw [b2 a c ha hc, gM_fp f1, hG]
          have := Gb c a hc ha
          exact ⟨by show (-10000 : Int) ≤ _; exact this.1, this.2⟩
        · rw [b2 a c ha hc, gM_fp f1, hG]
          rfl
        · obtain ⟨w2, M3⟩ := r2
          obtain ⟨o1, o2, o3⟩ := hr2
          dsimp only at o1 o2 o3 ⊢
          have f3 : fpP M M3 := f1.trans (fpP.of (fun c hc => by
            have : c ≠ 197 := by unfold perB at hc; omega
            rw [o1 c this, b1 c this]))
          have g3 := (h.fp f3).G
          obtain ⟨p1, p2⟩ := o2
          rcases o3 with ⟨v1, v2⟩ | ⟨v1, a, ha, v2⟩
          · have hE : ∀ a c, a < 5 → c < 5 → fA M3 a c = itG G 5 c a := by
              rcases p2 with p2 | ⟨⟨a, ha, p2⟩, _⟩
              · intro a c ha hc
                rw [p2 a c ha hc, itG_T]
              · have := v2 a ha
                omega
            have hok : okG G := fun a ha => by rw [← hE a a ha ha]; exact v2 a ha
            have kk := k1 hok
            have c1 := p1 u v (by omega) (by omega)
            have c2 := p1 v u (by omega) (by omega)
            have e5 : ((10000 * 6 ^ 5 : Nat) : Int) = 77760000 := by decide
            rw [e5] at c1 c2
            rw [hE u v (by omega) (by omega)] at c1
            rw [hE v u (by omega) (by omega)] at c2
            refine wp_neg (by omega) ?_
            rw [Int.toNat_natCast, Int.toNat_natCast]
            have x1 : M3 193 i = u := by rw [f3.1 193 (by unfold perB; omega)]; exact hu
            have x2 : M3 193 j = v := by rw [f3.1 193 (by unfold perB; omega)]; exact hv
            have y1 : M3 194 i = M 194 i := by rw [f3.1 194 (by unfold perB; omega)]
            have y2 : M3 194 j = M 194 j := by rw [f3.1 194 (by unfold perB; omega)]
            have e1 : M3 197 (5 * M3 193 i + M3 193 j).toNat = itG G 5 v u := by
              rw [x1, x2, show (5 * (u : Int) + (v : Int)).toNat = 5 * u + v by omega]
              exact hE u v (by omega) (by omega)
            have e2 : M3 197 (5 * M3 193 j + M3 193 i).toNat = itG G 5 u v := by
              rw [x1, x2, show (5 * (v : Int) + (u : Int)).toNat = 5 * v + u by omega]
              exact hE v u (by omega) (by omega)
            refine wp_gd (by omega) (wp_gd (by omega) (wp_gd (by omega) (wp_gd (by omega) (wp_gd (by omega) (wp_gd (by omega) (wp_gd (by omega) (wp_gd (by omega) (wp_gd (by omega) (wp_gd (by omega) (wp_gd (by omega) ?_))))))))))
            have ea : ans = if itG G 5 u v < M 194 j - M 194 i then 0 else if M 194 j - M 194 i < - itG G 5 v u then 1 else if itG G 5 u v = M 194 j - M 194 i then (if - itG G 5 v u = M 194 j - M 194 i then 2 else 3) else 3 := rfl
            rw [kk]
            refine wp_ite (fun d1 => wp_some ⟨?_, g3⟩) (fun d1 => wp_ite (fun d2 => wp_some ⟨?_, g3⟩) (fun d2 => wp_ite (fun d3 => wp_ite (fun d4 => wp_some ⟨?_, g3⟩) (fun d4 => wp_some ⟨?_, g3⟩)) (fun d3 => wp_some ⟨?_, g3⟩)))
            · rw [ea, if_pos (show itG G 5 u v < M 194 j - M 194 i by omega)]
            · rw [ea, if_neg (show ¬ itG G 5 u v < M 194 j - M 194 i by omega), if_pos (show M 194 j - M 194 i < - itG G 5 v u by omega)]
            · rw [ea, if_neg (show ¬ itG G 5 u v < M 194 j - M 194 i by omega), if_neg (show ¬ M 194 j - M 194 i < - itG G 5 v u by omega), if_pos (show itG G 5 u v = M 194 j - M 194 i by omega), if_pos (show - itG G 5 v u = M 194 j - M 194 i by omega)]
            · rw [ea, if_neg (show ¬ itG G 5 u v < M 194 j - M 194 i by omega), if_neg (show ¬ M 194 j - M 194 i < - itG G 5 v u by omega), if_neg (show ¬ itG G 5 u v = M 194 j - M 194 i by omega)]
            · rw [ea, if_neg (show ¬ itG G 5 u v < M 194 j - M 194 i by omega), if_neg (show ¬ M 194 j - M 194 i < - itG G 5 v u by omega), if_neg (show ¬ - itG G 5 v u = M 194 j - M 194 i by omega), ite_self]
          · have hnok : ¬ okG G := by
              rcases p2 with p2 | ⟨_, p3⟩
              · intro z
                have := z a ha
                have := p2 a a ha ha
                rw [itG_T] at this
                omega
              · exact fun z => p3 (okG_T.mpr z)
            refine wp_pos v1 (wp_some ⟨(k2 hnok).symm, g3⟩)
      refine wp_obnd ?_
      unfold f202
      refine wp_bind (w200 hr (fun M1 a1 a2 => wp_bind (w201 (G := G) ⟨fun a c ha hc => ?_, Or.inl (fun a c ha hc => ?_)⟩ (fun M2 b1 b2 => ?_))))
      · dsimp only
        rw [a2 a c ha hc, hG]
        have := Gb a c ha hc
        exact ⟨by show (-10000 : Int) ≤ _; exact this.1, this.2⟩
      · dsimp only
        rw [a2 a c ha hc, hG]
        rfl
      · have f2 : fpP M M2 := fpP.of (fun c hc => by
          have : c < 120 ∨ 124 < c := by unfold perB at hc; omega
          rw [b1 c this, a1 c this])
        obtain ⟨p1, p2⟩ := b2
        have r1 : ∀ c, (c < 120 ∨ 124 < c) → M2 c = M c := fun c hc => (b1 c hc).trans (a1 c hc)
        unfold f202_10
        refine wp_lp1 (fun m y => ∃ x : Nat, y = x ∧ x ≤ 5 ∧ m = 5 - x ∧ ∀ a, a < x → 0 ≤ M2 (120 + a) a) 5 (by decide) ⟨0, rfl, by omega, rfl, fun a ha => absurd ha (Nat.not_lt_zero _)⟩ ?_
        rintro m y ⟨x, rfl, q1, q2, q3⟩
        try dsimp only
        unfold lb202_10
        rw [Int.toNat_natCast]
        refine wp_ite (fun c => wp_gd (by omega) (wp_ite (fun d => wp_o (wp_some (wp_some (model 4 M2 f2 (fun z => ?_) (fun _ => rfl))))) (fun d => wp_gd (by omega) (wp_i1 (m - 1) (by omega) ⟨x + 1, by omega, by omega, by omega, fun a ha => ?_⟩)))) (fun c => wp_o ?_)
        · exfalso
          rcases p2 with p2 | ⟨_, p3⟩
          · have z1 := z x (by omega)
            have z2 := p2 x x (by omega) (by omega)
            dsimp only at z2
            omega
          · exact p3 z
        · by_cases e : a = x
          · rw [e]; omega
          · exact q3 a (by omega)
        · have hE : ∀ a c, a < 5 → c < 5 → M2 (120 + a) c = itG G 5 a c := by
            rcases p2 with p2 | ⟨⟨a, ha, p2⟩, _⟩
            · exact p2
            · have := q3 a (by omega)
              dsimp only at p2
              omega
          have hok : okG G := fun a ha => by rw [← hE a a ha ha]; exact q3 a (by omega)
          have c1 := p1 u v (by omega) (by omega)
          have c2 := p1 v u (by omega) (by omega)
          have e5 : ((10000 * 6 ^ 5 : Nat) : Int) = 77760000 := by decide
          dsimp only at c1 c2
          rw [e5, hE u v (by omega) (by omega)] at c1
          rw [e5, hE v u (by omega) (by omega)] at c2
          rw [Int.toNat_natCast, Int.toNat_natCast, r1 115 (by omega), r1 116 (by omega), hi.1, hi.2.1, hj.1, hj.2.1, hu, hv, Int.toNat_natCast, Int.toNat_natCast, hE u v (by omega) (by omega), hE v u (by omega) (by omega)]
          have fin : ∀ w : Int, w = ans → Wp (some (w, M2)) (fun r => Wp (some (r.1, r.2)) (fun r => JJ r.1 (f151 i j r.2))) := fun w hw => wp_some (wp_some (model w M2 f2 (fun _ => hw) (fun z => absurd hok z)))
          have ea : ans = if itG G 5 u v < M 194 j - M 194 i then 0 else if M 194 j - M 194 i < - itG G 5 v u then 1 else if itG G 5 u v = M 194 j - M 194 i then (if - itG G 5 v u = M 194 j - M 194 i then 2 else 3) else 3 := rfl
          refine wp_gd (by omega) (wp_gd (by omega) (wp_gd (by omega) (wp_gd (by omega) (wp_gd (by omega) (wp_gd (by omega) (wp_ite (fun d1 => fin 0 ?_) (fun d1 => wp_ite (fun d2 => fin 1 ?_) (fun d2 => wp_ite (fun d3 => wp_ite (fun d4 => fin 2 ?_) (fun d4 => fin 3 ?_)) (fun d3 => fin 3 ?_)))))))))
          · rw [ea, if_pos d1]
          · rw [ea, if_neg d1, if_pos d2]
          · rw [ea, if_neg d1, if_neg d2, if_pos d3, if_pos d4]
          · rw [ea, if_neg d1, if_neg d2, if_pos d3, if_neg d4]
          · rw [ea, if_neg d1, if_neg d2, if_neg d3]
    · rw [if_neg h2]
      refine wp_pos rfl (wp_some ?_)
      show JJ (-1) (f151 x1 x2 M)
      unfold f151
      refine wp_bind (w129 hr.2.1 (by omega) ?_)
      rw [if_pos h1]
      refine wp_neg (by decide) (wp_bind (w129 hr.2.1 (by omega) ?_))
      rw [if_neg h2]
      exact wp_pos rfl (wp_some ⟨rfl, h.G⟩)
  · rw [if_neg h1]
    refine wp_pos rfl (wp_some ?_)
    show JJ (-1) (f151 x1 x2 M)
    unfold f151
    refine wp_bind (w129 hr.2.1 (by omega) ?_)
    rw [if_neg h1]
    exact wp_pos rfl (wp_some ⟨rfl, h.G⟩)
end ORD2

/-! Cutting trees. -/
def cutW (S : Mm) : Nat → List Nat
  | 0 => []
  | w + 1 => if (cutW S w).length < 8 ∧ S 0 w = 0 ∧ 0 < S 2 w then cutW S w ++ [w] else cutW S w
theorem cutW_in {S : Mm} : ∀ n w : Nat, w ∈ cutW S n → w < n
  | 0, w, h => by cases h
  | n + 1, w, h => by
    rw [cutW] at h
    split at h
    · rw [List.mem_append, List.mem_singleton] at h
      rcases h with h | h
      · have := cutW_in n w h; omega
      · omega
    · have := cutW_in n w h; omega
theorem cutW_8 {S : Mm} : ∀ n : Nat, (cutW S n).length ≤ 8
  | 0 => Nat.zero_le _
  | n + 1 => by
    rw [cutW]
    split
    · rename_i e
      rw [List.length_append]
      have : ([n] : List Nat).length = 1 := rfl
      omega
    · exact cutW_8 n
theorem cutW_full {S : Mm} {n : Nat} (h : (cutW S n).length = 8) : ∀ m : Nat, cutW S (n + m) = cutW S n
  | 0 => rfl
  | m + 1 => by
    have ih := cutW_full h m
    rw [show n + (m + 1) = (n + m) + 1 from rfl, cutW, ih, if_neg (by omega)]
/-- the wires of combination j -/
def setN (L : List Nat) (j : Int) : Nat → Int
  | 0 => 0
  | k + 1 => if tb j k then bOr (setN L j k) (bShl 1 ((L.getD k 0 : Nat) : Int)) else setN L j k
def cstN (N : Mm) (L : List Nat) (j : Int) : Nat → Int
  | 0 => 0
  | k + 1 => cstN N L j k + if tb j k then N 19 (L.getD k 0) else 0
def cutS (S : Mm) (x : Int) : Mm := fun a w => if a = 2 ∧ tb x w = true then 0 else S a w
def drL (N S : Mm) : Int := sm (fun s => if S 4 s = 1 then S 3 s else 0) (nN N)
noncomputable def cvN (N S : Mm) (K : Bool → (Nat → Int) → Bool) (c : Int) (k : Nat) (j : Int) : Int := drL N (plN N (cutS S (setN (cutW S (nW N)) j (cutW S (nW N)).length)) K c k)
noncomputable def bstN (N S : Mm) (K : Bool → (Nat → Int) → Bool) (c : Int) (k : Nat) (x : Int) : Nat → Int
  | 0 => -1
  | u + 1 => @ite Int (cstN N (cutW S (nW N)) u (cutW S (nW N)).length ≤ x ∧ (bstN N S K c k x u = -1 ∨ cvN N S K c k u < cvN N S K c k (bstN N S K c k x u) ∨ (cvN N S K c k u = cvN N S K c k (bstN N S K c k x u) ∧ cstN N (cutW S (nW N)) u (cutW S (nW N)).length < cstN N (cutW S (nW N)) (bstN N S K c k x u) (cutW S (nW N)).length))) (Classical.propDecidable _) (u : Int) (bstN N S K c k x u)
theorem setN_b {N S : Mm} {j : Int} (hN : NC N) : ∀ k : Nat, k ≤ (cutW S (nW N)).length → 0 ≤ setN (cutW S (nW N)) j k ∧ setN (cutW S (nW N)) j k < (2 ^ nW N : Nat) ∧ ∀ w : Nat, tb (setN (cutW S (nW N)) j k) w = true → w < nW N
  | 0, _ => ⟨Int.le_refl _, by show (0 : Int) < _; have := Nat.two_pow_pos (nW N); omega, fun w h => by rw [setN, tb_zero] at h; cases h⟩
  | k + 1, hk => by
    have h14 := hN.w14
    have ih := setN_b (S := S) (j := j) hN k (by omega)
    rw [setN]
    have hlt : (cutW S (nW N)).getD k 0 < nW N := by
      rw [List.getD_eq_getElem?_getD, List.getElem?_eq_getElem (by omega)]
      exact cutW_in _ _ (List.getElem_mem _)
    have hp : (2 ^ nW N : Nat) ≤ 2 ^ 14 := Nat.pow_le_pow_right (by decide) h14
    have hp' : (2 ^ 14 : Nat) = 16384 := by decide
    have hbl : bShl 1 (((cutW S (nW N)).getD k 0 : Nat) : Int) = (2 ^ ((cutW S (nW N)).getD k 0) : Nat) := by rw [bL (by omega) (by omega), Int.toNat_natCast]
    have hl2 : (2 ^ ((cutW S (nW N)).getD k 0) : Nat) < 2 ^ nW N := Nat.pow_lt_pow_right (by decide) hlt
    have hz : 0 < (2 ^ ((cutW S (nW N)).getD k 0) : Nat) := Nat.two_pow_pos _
    by_cases e : tb j k = true
    · rw [if_pos e]
      have := bO_lt (n := nW N) (x := setN (cutW S (nW N)) j k) (y := bShl 1 (((cutW S (nW N)).getD k 0 : Nat) : Int)) (by omega) ih.1 ih.2.1 (by omega) (by omega)
      refine ⟨this.1, this.2, fun w hw => ?_⟩
      rw [tb_or ih.1 (by omega) (by omega) (by omega), Bool.or_eq_true, tb_pow (by omega) (by omega), Int.toNat_natCast, decide_eq_true_iff] at hw
      rcases hw with hw | hw
      · exact ih.2.2 w hw
      · omega
    · rw [if_neg e]
      exact ih
theorem setN_s {N S : Mm} {j : Int} {k : Nat} (hN : NC N) (hk : k < (cutW S (nW N)).length) (w : Nat) : tb (setN (cutW S (nW N)) j (k + 1)) w = true ↔ (tb (setN (cutW S (nW N)) j k) w = true ∨ (tb j k = true ∧ w = (cutW S (nW N)).getD k 0)) := by
  have h14 := hN.w14
  have ih := setN_b (S := S) (j := j) hN k (by omega)
  have hlt : (cutW S (nW N)).getD k 0 < nW N := by
    rw [List.getD_eq_getElem?_getD, List.getElem?_eq_getElem hk]
    exact cutW_in _ _ (List.getElem_mem _)
  have hp : (2 ^ nW N : Nat) ≤ 2 ^ 14 := Nat.pow_le_pow_right (by decide) h14
  have hp' : (2 ^ 14 : Nat) = 16384 := by decide
  have hbl : bShl 1 (((cutW S (nW N)).getD k 0 : Nat) : Int) = (2 ^ ((cutW S (nW N)).getD k 0) : Nat) := by rw [bL (by omega) (by omega), Int.toNat_natCast]
  have hl2 : (2 ^ ((cutW S (nW N)).getD k 0) : Nat) < 2 ^ nW N := Nat.pow_lt_pow_right (by decide) hlt
  have hz : 0 < (2 ^ ((cutW S (nW N)).getD k 0) : Nat) := Nat.two_pow_pos _
  rw [setN]
  by_cases e : tb j k = true
  · rw [if_pos e, tb_or ih.1 (by omega) (by omega) (by omega), Bool.or_eq_true, tb_pow (by omega) (by omega), Int.toNat_natCast, decide_eq_true_iff]
    exact ⟨fun h => h.elim Or.inl (fun h => Or.inr ⟨e, h.symm⟩), fun h => h.elim Or.inl (fun h => Or.inr h.2.symm)⟩
  · rw [if_neg e]
    exact ⟨Or.inl, fun h => h.elim id (fun h => absurd h.1 e)⟩
theorem cstN_b {N S : Mm} {j : Int} (hN : NC N) : ∀ k : Nat, k ≤ (cutW S (nW N)).length → 0 ≤ cstN N (cutW S (nW N)) j k ∧ cstN N (cutW S (nW N)) j k ≤ 1000 * k
  | 0, _ => ⟨Int.le_refl _, Int.le_refl _⟩
  | k + 1, hk => by
    have ih := cstN_b (S := S) (j := j) hN k (by omega)
    have hlt : (cutW S (nW N)).getD k 0 < nW N := by
      rw [List.getD_eq_getElem?_getD, List.getElem?_eq_getElem (by omega)]
      exact cutW_in _ _ (List.getElem_mem _)
    have := (hN.cw _ hlt).2.2.2.2.2.2
    rw [cstN]
    split <;> omega
theorem cutS_V {N S : Mm} {x : Int} (h : sV N S) : sV N (cutS S x) ∧ (cutS S x) 6 1 = S 6 1 := by
  obtain ⟨h1, h2⟩ := h
  refine ⟨⟨fun w hw => ⟨(h1 w hw).1, (h1 w hw).2.1, ?_⟩, h2⟩, rfl⟩
  unfold cutS
  split
  · omega
  · exact (h1 w hw).2.2
theorem drL_b {N S : Mm} (hN : NC N) (hS : sV N S) : 0 ≤ drL N S ∧ drL N S ≤ 16000 := by
  have h8 := hN.n8
  unfold drL
  have q1 := sm_nn (a := fun s => if S 4 s = 1 then S 3 s else 0) (n := nN N) (fun s hs => by have := hS.2.1 s (by omega); split <;> omega)
  have q2 := sm_const (f := fun s => if S 4 s = 1 then S 3 s else 0) (c := 2000) (n := nN N) (fun s hs => by have := hS.2.1 s (by omega); split <;> omega)
  omega
theorem drL_nx {N S : Mm} {K : Bool → (Nat → Int) → Bool} {c : Int} (hN : NC N) (hS : sV N S) : drL N S ≤ drL N (nx N S K c) := by
  have h8 := hN.n8
  unfold drL
  refine sm_mono (fun s hs => ?_)
  have e3 : (nx N S K c) 3 s = S 3 s := rfl
  have e4 : (nx N S K c) 4 s = dkF N S s := rfl
  have := hS.2.1 s (by omega)
  rw [e3, e4]
  unfold dkF
  by_cases e : S 4 s = 1
  · rw [if_pos e, if_pos (by rw [if_pos (Or.inl e)])]
    omega
  · rw [if_neg e]
    split <;> omega
theorem drL_pl {N S : Mm} {K : Bool → (Nat → Int) → Bool} {c : Int} (hN : NC N) (hS : sV N S) : ∀ k : Nat, S 6 1 + k ≤ 600 → drL N S ≤ drL N (plN N S K c k)
  | 0, _ => Int.le_refl _
  | k + 1, hk => by
    have ih := drL_pl (K := K) (c := c) hN hS k (by omega)
    have := drL_nx (K := K) (c := c) hN (pl_V (K := K) (c := c) hN hS k (by omega)).1
    show _ ≤ drL N (nx N (plN N S K c k) K c)
    omega
theorem drL_cut {N S : Mm} {x : Int} : drL N (cutS S x) = drL N S := rfl
theorem orN_0 {S : Mm} : orN S 0 = S := by
  funext a j
  unfold orN
  by_cases e : a = 4
  · rw [if_pos e, tb_zero, if_neg (by decide), e]
  · rw [if_neg e]
section CUT
variable {N S S1 M M0 M2 : Mm} {Ps : Nat → Mm} {l : List (Bool × Sem)} {t d m : Nat} {x c : Int}
/-- what is dark, told of a standing state -/
theorem w244d {r : Nat} {P : Int → Prop} (hN : NC N) (hS : sV N S1) (h : sC N S1 M r) (k : P (drL N S1)) : Wp (f244 r (M r 1) M) P := by
  obtain ⟨g1, g2, ⟨a1, a2, a3⟩, g4, g5⟩ := h
  refine w244 hN hS g2 a1 a2 ?_
  have : sm (fun s => if tb (M r 1) s then S1 3 s else 0) (nN N) = drL N S1 := sm_congr (fun s hs => by
    rw [a3 s]
    cases tb (M r 1) s <;> rfl)
  rw [this]
  exact k
/-- those that may be cut -/
theorem w47 (h : IV N S Ps l M) : Wp (f47 M) (fun r => r.1 = (cutW S (nW N)).length ∧ (∀ b, b ≠ 134 → r.2 b = M b) ∧ ∀ k, k < (cutW S (nW N)).length → r.2 134 k = (cutW S (nW N)).getD k 0) := by
  have h14 := h.1.1.w14
  unfold f47 f47_4
  refine wp_lp3 (fun m x y M2 => ∃ w : Nat, y = w ∧ w ≤ nW N ∧ m = nW N - w ∧ x = (cutW S w).length ∧ (∀ b, b ≠ 134 → M2 b = M b) ∧ ∀ k, k < (cutW S w).length → M2 134 k = (cutW S w).getD k 0) (nW N) (by omega) ⟨0, rfl, Nat.zero_le _, rfl, rfl, fun _ _ => rfl, fun k hk => absurd hk (Nat.not_lt_zero _)⟩ ?_
  rintro m x y M2 ⟨w, rfl, a1, a2, rfl, a4, a5⟩
  dsimp only
  unfold lb47_4
  rw [a4 3 (by decide), h.e31, a4 26 (by decide), a4 28 (by decide), Int.toNat_natCast, Int.toNat_natCast]
  have h8 := cutW_8 (S := S) w
  refine wp_ite (fun c => wp_ite (fun c2 => ?_) (fun c2 => wp_o (wp_some ?_))) (fun c => wp_o (wp_some ?_))
  · have hs := h.1.2.2.2.2.1.1 w (by omega)
    rw [hs.1, hs.2.2]
    unfold f47_55
    have next : ¬ (S 0 w = 0 ∧ 0 < S 2 w) → cutW S (w + 1) = cutW S w := fun z => by
      rw [cutW, if_neg (fun q => z q.2)]
    have skip : ¬ (S 0 w = 0 ∧ 0 < S 2 w) → Wp (gd (R4 ((w : Int) + 1)) (some (.inl (((cutW S w).length : Int), (w : Int) + 1, M2)))) (Sum.elim (up3 (fun (m : Nat) (x y : Int) (M2 : Mm) => ∃ w : Nat, y = w ∧ w ≤ nW N ∧ m = nW N - w ∧ x = (cutW S w).length ∧ (∀ b, b ≠ 134 → M2 b = M b) ∧ ∀ k, k < (cutW S w).length → M2 134 k = (cutW S w).getD k 0) m) (fun r : Int × Mm => r.1 = (cutW S (nW N)).length ∧ (∀ b, b ≠ 134 → r.2 b = M b) ∧ ∀ k, k < (cutW S (nW N)).length → r.2 134 k = (cutW S (nW N)).getD k 0)) := fun z => wp_gd (by omega) (wp_i3 (m - 1) (by omega) ⟨w + 1, by omega, by omega, by omega, by rw [next z], a4, by rw [next z]; exact a5⟩)
    refine wp_gd (by omega) (wp_ite (fun c3 => wp_ite (fun c4 => wp_gd (by omega) (wp_mlet (wp_gd (by omega) (wp_gd (by omega) (wp_i3 (m - 1) (by omega) ⟨w + 1, by omega, by omega, by omega, ?_, fun b hb => (ms_a hb).trans (a4 b hb), fun k hk => ?_⟩))))) (fun c4 => skip (fun q => c4 q.2))) (fun c3 => skip (fun q => c3 q.1)))
    · rw [cutW, if_pos ⟨by omega, c3, c4⟩, List.length_append]
      rfl
    · rw [cutW, if_pos ⟨by omega, c3, c4⟩, List.length_append] at hk
      rw [cutW, if_pos ⟨by omega, c3, c4⟩, List.getD_eq_getElem?_getD]
      have : ([w] : List Nat).length = 1 := rfl
      by_cases e : k = (cutW S w).length
      · rw [e, ms_v, List.getElem?_append_right (Nat.le_refl _), Nat.sub_self]
        rfl
      · rw [ms_i e, a5 k (by omega), List.getElem?_append_left (by omega), List.getD_eq_getElem?_getD]
  · have e := cutW_full (S := S) (n := w) (by omega) (nW N - w)
    rw [show w + (nW N - w) = nW N by omega] at e
    rw [e]
    exact ⟨rfl, a4, a5⟩
  · rw [show w = nW N by omega] at a5 ⊢
    exact ⟨rfl, a4, a5⟩
/-- a combination tried, the first object -/
theorem w44 {j k : Int} (h : IV N S Ps l M0) (ht : iTxt l t d M0) (f0 : ∀ b, b ≠ 134 → (b < 73 ∨ 97 < b) → b ≠ t + 6 → M b = M0 b) (hW : ∀ k, k < (cutW S (nW N)).length → M 134 k = (cutW S (nW N)).getD k 0) (hj : 0 ≤ j ∧ j < 256) (hk : 1 ≤ k ∧ k ≤ 30) :
    Wp (f44 j (cutW S (nW N)).length k M) (fun r => r.1 = cvN N S (kOf l) (M0 3 3) k.toNat j ∧ (∀ b, b ≠ 134 → (b < 73 ∨ 97 < b) → b ≠ t + 6 → r.2 b = M0 b) ∧ r.2 134 = M 134) := by
  have hnw := h.nw
  have h14 := h.1.1.w14
  have ht4 : t = 4 ∨ t = 135 := by have := ht.1; omega
  have h8 := cutW_8 (S := S) (nW N)
  have hS61 : S 6 1 ≤ 499 ∧ 0 ≤ S 6 1 := ⟨h.1.2.2.2.2.2.2.2.1.2, h.1.2.1.2.2.2.2.2.2.2.1⟩
  unfold f44
  have sc : sC N S M 24 := h.1.2.2.2.2.1.to (fun b q1 q2 => f0 b (by omega) (by omega) (by omega))
  refine wp_bind (w219 (by decide) sc (fun M1 a1 a2 a3 => ?_))
  unfold f44_14
  refine wp_lp2 (fun n y M2 => ∃ i : Nat, y = i ∧ i ≤ (cutW S (nW N)).length ∧ n = (cutW S (nW N)).length - i ∧ (∀ b, b ≠ 78 → M2 b = M1 b) ∧ ∀ w, w < 14 → M2 78 w = if tb (setN (cutW S (nW N)) j i) w = true then 0 else S 2 w) (cutW S (nW N)).length (by omega) ⟨0, rfl, by omega, rfl, fun _ _ => rfl, fun w hw => by rw [setN, tb_zero, if_neg (by decide)]; exact (a2.1 w hw).2.2⟩ ?_
  rintro n y M2 ⟨i, rfl, b1, b2, b3, b4⟩
  dsimp only
  unfold lb44_14
  rw [bT hj.1 (by omega) (by omega) (by omega), Int.toNat_natCast]
  refine wp_ite (fun c => ?_) (fun c => wp_o ?_)
  · have hi : i < (cutW S (nW N)).length := by omega
    have hw : M2 134 i = (cutW S (nW N)).getD i 0 := by rw [b3 134 (by decide), a1 134 (by omega)]; exact hW i hi
    have hlt : (cutW S (nW N)).getD i 0 < nW N := by
      rw [List.getD_eq_getElem?_getD, List.getElem?_eq_getElem hi]
      exact cutW_in _ _ (List.getElem_mem _)
    rw [hw, Int.toNat_natCast]
    unfold f44_49
    have es := setN_s (S := S) (j := j) (k := i) h.1.1 hi
    by_cases e : tb j i = true
    · rw [if_pos e]
      refine wp_pos rfl (wp_gd (by omega) (wp_gd (by omega) (wp_mlet (wp_gd (by omega) (wp_i2 (n - 1) (by omega) ⟨i + 1, by omega, by omega, by omega, fun b hb => (ms_a hb).trans (b3 b hb), fun w hw => ?_⟩)))))
      rw [ms_at, b4 w hw]
      by_cases e2 : w = (cutW S (nW N)).getD i 0
      · rw [if_pos e2, if_pos ((es w).mpr (Or.inr ⟨e, e2⟩))]
      · rw [if_neg e2]
        by_cases e3 : tb (setN (cutW S (nW N)) j i) w = true
        · rw [if_pos e3, if_pos ((es w).mpr (Or.inl e3))]
        · rw [if_neg e3, if_neg (fun z => ((es w).mp z).elim e3 (fun q => e2 q.2))]
    · rw [if_neg e]
      refine wp_neg (by decide) (wp_gd (by omega) (wp_i2 (n - 1) (by omega) ⟨i + 1, by omega, by omega, by omega, b3, fun w hw => ?_⟩))
      rw [b4 w hw]
      by_cases e3 : tb (setN (cutW S (nW N)) j i) w = true
      · rw [if_pos e3, if_pos ((es w).mpr (Or.inl e3))]
      · rw [if_neg e3, if_neg (fun z => ((es w).mp z).elim e3 (fun q => e q.1))]
  · rw [show i = (cutW S (nW N)).length by omega] at b4
    have hcv : cvN N S (kOf l) (M0 3 3) k.toNat j = drL N (plN N (cutS S (setN (cutW S (nW N)) j (cutW S (nW N)).length)) (kOf l) (M0 3 3) k.toNat) := rfl
    rw [hcv]
    generalize setN (cutW S (nW N)) j (cutW S (nW N)).length = X at b4
    have p0 : plC N (cutS S X) M2 := by
      obtain ⟨g1, g2, g3, g4, g5⟩ := a2
      refine ⟨⟨fun w hw => ⟨?_, ?_, ?_⟩, fun i hi => ?_, ?_, ?_, ?_⟩, fun z => ?_⟩
      · rw [b3 76 (by decide)]; exact (g1 w hw).1
      · rw [b3 77 (by decide)]; exact (g1 w hw).2.1
      · rw [b4 w hw]
        show _ = if 2 = 2 ∧ tb X w = true then 0 else S 2 w
        by_cases e3 : tb X w = true
        · rw [if_pos e3, if_pos ⟨rfl, e3⟩]
        · rw [if_neg e3, if_neg (fun z => e3 z.2)]
      · rw [b3 75 (by decide)]; exact g2 i hi
      · rw [b3 74 (by decide)]; exact g3
      · rw [b3 74 (by decide)]; exact g4
      · rw [b3 74 (by decide)]; exact g5
      · rw [b3 73 (by decide), a3] at z
        exact absurd z (by decide)
    have hV := cutS_V (x := X) h.1.2.1
    have m134 : M2 134 = M 134 := by rw [b3 134 (by decide), a1 134 (by omega)]
    have fm : ∀ b, b ≠ 134 → (b < 73 ∨ 97 < b) → b ≠ t + 6 → M2 b = M0 b := fun b q1 q2 q3 => by rw [b3 b (by omega), a1 b (by omega)]; exact f0 b q1 q2 q3
    -- the stand-in start, with this scratch
    have h1 : IV N S Ps l M2 := h.fp (fpP.of (fun b hb => fm b (by unfold perB at hb; omega) (by unfold perB at hb; omega) (by unfold perB at hb; omega)))
    have ht1 : iTxt l t d M2 := ht.to (by rw [fm 3 (by omega) (by omega) (by omega)]) (by rw [fm 2 (by omega) (by omega) (by omega)]) (fun b q => fm b (by omega) (by omega) (by omega)) (by rw [fm 142 (by omega) (by omega) (by omega)]) (by rw [fm 142 (by omega) (by omega) (by omega)])
    have e33 : M0 3 3 = M2 3 3 := by rw [fm 3 (by omega) (by omega) (by omega)]
    rw [e33]
    unfold f44_58
    refine wp_lp2 (fun n y M3 => ∃ u : Nat, y = u ∧ u ≤ k.toNat ∧ n = k.toNat - u ∧ frP t M2 M3 ∧ plC N (plN N (cutS S X) (kOf l) (M2 3 3) u) M3) k.toNat (by omega) ⟨0, rfl, Nat.zero_le _, rfl, fun _ _ _ => rfl, p0⟩ ?_
    clear b1 b2 c
    rintro n y M3 ⟨u, rfl, c1, c2, c3, c4⟩
    dsimp only
    unfold lb44_58
    obtain ⟨v1, v2⟩ := pl_V (K := kOf l) (c := M2 3 3) h.1.1 hV.1 u (by rw [hV.2]; omega)
    refine wp_ite (fun e => ?_) (fun e => wp_o (wp_bind (w244d h.1.1 v1 c4.1 (wp_some ⟨by rw [show k.toNat = u by omega], fun b q1 q2 q3 => (c3 b q2 q3).trans (fm b q1 q2 q3), (c3 134 (by omega) (by omega)).trans m134⟩))))
    refine wp_bind (h1.stp ht1 v1 c3 c4 (fun M4 d1 d2 _ _ _ _ _ _ => wp_gd (by omega) (wp_i2 (n - 1) (by omega) ⟨u + 1, by omega, by omega, by omega, d1, d2⟩)))
/-- a combination tried, the second object -/
theorem w162 {X k : Int} (h : IV N S Ps l M) (hX : 0 ≤ X ∧ X < (2 ^ nW N : Nat)) (hX2 : ∀ w : Nat, tb X w = true → w < nW N) (hk : 1 ≤ k ∧ k ≤ 30) :
    Wp (f162 X k M) (fun r => r.1 = drL N (plN N (cutS S X) (kOf l) (M 3 3) k.toNat) ∧ fpP M r.2 ∧ r.2 199 = M 199) := by
  have hnw := h.nw
  have h14 := h.1.1.w14
  have hp : (2 ^ nW N : Nat) ≤ 2 ^ 14 := Nat.pow_le_pow_right (by decide) h14
  have hp' : (2 ^ 14 : Nat) = 16384 := by decide
  have hS61 : S 6 1 ≤ 499 ∧ 0 ≤ S 6 1 := ⟨h.1.2.2.2.2.2.2.2.1.2, h.1.2.1.2.2.2.2.2.2.2.1⟩
  unfold f162
  rw [h.now.2.1]
  refine wp_bind (w153 h (Nat.le_refl _) (Int.le_refl 0) (by have := Nat.two_pow_pos (nN N); omega) (fun M1 a1 a2 a3 a4 => ?_))
  rw [orN_0] at a4
  have e0 : stAt S Ps (nwS S) = S := if_pos rfl
  rw [e0] at a4
  unfold f162_11
  refine wp_lp2 (fun n y M2 => ∃ i : Nat, y = i ∧ i ≤ nW N ∧ n = nW N - i ∧ (∀ b, b ≠ 144 → M2 b = M1 b) ∧ (∀ a, (a < 36316 ∨ 36330 ≤ a) → M2 144 a = M1 144 a) ∧ ∀ w, w < 14 → M2 144 (36316 + w) = if w < i ∧ tb X w = true then 0 else S 2 w) (nW N) (by omega) ⟨0, rfl, by omega, rfl, fun _ _ => rfl, fun _ _ => rfl, fun w hw => by rw [if_neg (fun z => absurd z.1 (Nat.not_lt_zero _))]; exact (a4.1 w hw).2.2⟩ ?_
  rintro n y M2 ⟨i, rfl, b1, b2, b3, b5, b4⟩
  dsimp only
  unfold lb162_11
  rw [b3 142 (by decide), a2 142 (by decide), h.m4]
  refine wp_ite (fun c => wp_bind (w118 hX.1 (by omega) (by omega) (by omega) ?_)) (fun c => wp_o ?_)
  · rw [Int.toNat_natCast, show (36316 + (i : Int)).toNat = 36316 + i by omega]
    unfold f162_38
    by_cases e : tb X i = true
    · rw [if_pos e]
      refine wp_neg (by decide) (wp_gd (by omega) (wp_gd (by omega) (wp_mlet (wp_gd (by omega) (wp_i2 (n - 1) (by omega) ⟨i + 1, by omega, by omega, by omega, fun b hb => (ms_a hb).trans (b3 b hb), fun a ha => (ms_i (by omega)).trans (b5 a ha), fun w hw => ?_⟩)))))
      rw [ms_at, b4 w hw]
      by_cases e2 : w = i
      · rw [if_pos (by omega), if_pos ⟨by omega, by rw [e2]; exact e⟩]
      · rw [if_neg (by omega)]
        by_cases e3 : w < i ∧ tb X w = true
        · rw [if_pos e3, if_pos ⟨by omega, e3.2⟩]
        · rw [if_neg e3, if_neg (fun z => e3 ⟨by omega, z.2⟩)]
    · rw [if_neg e]
      refine wp_pos rfl (wp_gd (by omega) (wp_i2 (n - 1) (by omega) ⟨i + 1, by omega, by omega, by omega, b3, b5, fun w hw => ?_⟩))
      rw [b4 w hw]
      by_cases e3 : w < i ∧ tb X w = true
      · rw [if_pos e3, if_pos ⟨by omega, e3.2⟩]
      · rw [if_neg e3, if_neg]
        rintro ⟨z1, z2⟩
        by_cases e2 : w = i
        · exact e (by rw [← e2]; exact z2)
        · exact e3 ⟨by omega, z2⟩
  · have f2 : fpP M M2 := a1.trans ⟨fun b hb => b3 b hb.2.1, fun j _ => by rw [b3 142 (by decide)], fun a ha => b5 a (by omega)⟩
    have m199 : M2 199 = M 199 := (b3 199 (by decide)).trans (a2 199 (by decide))
    have p0 : sM (cutS S X) M2 36288 := by
      obtain ⟨k1, k2, k3, k4, k5⟩ := a4
      refine ⟨fun w hw => ⟨?_, ?_, ?_⟩, fun i hi => ?_, fun i hi => ?_, ?_, ?_⟩
      · rw [b5 _ (by omega)]; exact (k1 w hw).1
      · rw [b5 _ (by omega)]; exact (k1 w hw).2.1
      · rw [show 36288 + 28 + w = 36316 + w by omega, b4 w hw]
        show _ = if 2 = 2 ∧ tb X w = true then 0 else S 2 w
        by_cases e3 : tb X w = true
        · rw [if_pos ⟨by have := hX2 w e3; omega, e3⟩, if_pos ⟨rfl, e3⟩]
        · rw [if_neg (fun z => e3 z.2), if_neg (fun z => e3 z.2)]
      · rw [b5 _ (by omega), b5 _ (by omega)]; exact k2 i hi
      · rw [b5 _ (by omega)]; exact k3 i hi
      · rw [b5 _ (by omega)]; exact k4
      · rw [b5 _ (by omega)]; exact k5
    have hc : M2 144 36357 = M 3 3 := (b5 _ (by omega)).trans a3
    have hV := cutS_V (x := X) h.1.2.1
    unfold f162_46
    refine wp_lp2 (fun n y M3 => ∃ u : Nat, y = u ∧ u ≤ k.toNat ∧ n = k.toNat - u ∧ fpP M M3 ∧ M3 199 = M 199 ∧ M3 144 36357 = M 3 3 ∧ sM (plN N (cutS S X) (kOf l) (M 3 3) u) M3 36288) k.toNat (by omega) ⟨0, rfl, Nat.zero_le _, rfl, f2, m199, hc, p0⟩ ?_
    clear b1 b2 c
    rintro n y M3 ⟨u, rfl, c1, c2, c3, c9, c4, c5⟩
    dsimp only
    unfold lb162_46
    obtain ⟨v1, v2⟩ := pl_V (K := kOf l) (c := M 3 3) h.1.1 hV.1 u (by rw [hV.2]; omega)
    refine wp_ite (fun e => ?_) (fun e => wp_o ?_)
    · refine wp_bind (h.stm v1 c3 c5 c4 (fun M4 d1 d5 d2 d3 _ _ => wp_gd (by omega) (wp_i2 (n - 1) (by omega) ⟨u + 1, by omega, by omega, by omega, d1, (d5 199 (by decide) (by decide) (by decide)).trans c9, d2, d3⟩)))
    · have g3 := h.fp c3
      refine wp_bind (w163 (z := 36288) h.1.1 v1 g3.1.2.2.2.1 (by decide) (fun s hs => (c5.2.1 s hs).1) (fun s hs => (c5.2.1 s hs).2) (wp_some ⟨?_, c3, c9⟩))
      rw [show k.toNat = u by omega]
      rfl
end CUT

theorem bstN_b {N S : Mm} {K : Bool → (Nat → Int) → Bool} {c x : Int} {k : Nat} : ∀ u : Nat, bstN N S K c k x u = -1 ∨ (0 ≤ bstN N S K c k x u ∧ bstN N S K c k x u < u)
  | 0 => Or.inl rfl
  | u + 1 => by
    have ih := bstN_b (N := N) (S := S) (K := K) (c := c) (k := k) (x := x) u
    rw [bstN]
    by_cases e : cstN N (cutW S (nW N)) u (cutW S (nW N)).length ≤ x ∧ (bstN N S K c k x u = -1 ∨ cvN N S K c k u < cvN N S K c k (bstN N S K c k x u) ∨ (cvN N S K c k u = cvN N S K c k (bstN N S K c k x u) ∧ cstN N (cutW S (nW N)) u (cutW S (nW N)).length < cstN N (cutW S (nW N)) (bstN N S K c k x u) (cutW S (nW N)).length))
    · rw [if_pos e]; omega
    · rw [if_neg e]; omega
theorem cstN_0 {N : Mm} {L : List Nat} : ∀ k : Nat, cstN N L 0 k = 0
  | 0 => rfl
  | k + 1 => by rw [cstN, cstN_0 k, tb_zero]; rfl
theorem bstN_p {N S : Mm} {K : Bool → (Nat → Int) → Bool} {c x : Int} {k : Nat} (hx : 0 ≤ x) : ∀ u : Nat, 0 < u → 0 ≤ bstN N S K c k x u
  | 0, h => absurd h (Nat.lt_irrefl _)
  | 1, _ => by
    have e : bstN N S K c k x 1 = 0 := if_pos ⟨by show cstN N (cutW S (nW N)) 0 _ ≤ x; rw [cstN_0]; exact hx, Or.inl rfl⟩
    omega
  | u + 2, _ => by
    have ih := bstN_p (N := N) (S := S) (K := K) (c := c) (k := k) hx (u + 1) (by omega)
    rw [bstN]
    by_cases e : cstN N (cutW S (nW N)) ((u + 1 : Nat) : Int) (cutW S (nW N)).length ≤ x ∧ (bstN N S K c k x (u + 1) = -1 ∨ cvN N S K c k ((u + 1 : Nat) : Int) < cvN N S K c k (bstN N S K c k x (u + 1)) ∨ (cvN N S K c k ((u + 1 : Nat) : Int) = cvN N S K c k (bstN N S K c k x (u + 1)) ∧ cstN N (cutW S (nW N)) ((u + 1 : Nat) : Int) (cutW S (nW N)).length < cstN N (cutW S (nW N)) (bstN N S K c k x (u + 1)) (cutW S (nW N)).length))
    · rw [if_pos e]; omega
    · rw [if_neg e]; exact ih
section CUT2
variable {N S S1 M M0 M2 : Mm} {Ps : Nat → Mm} {l : List (Bool × Sem)} {t d m : Nat} {x c : Int}
theorem w41 {j : Int} {P : Int → Prop} (hN : NC N) (h19 : M 19 = N 19) (hW : ∀ k, k < (cutW S (nW N)).length → M 134 k = (cutW S (nW N)).getD k 0) (hj : 0 ≤ j ∧ j < 256) (k : P (cstN N (cutW S (nW N)) j (cutW S (nW N)).length)) : Wp (f41 j (cutW S (nW N)).length M) P := by
  have h14 := hN.w14
  have h8 := cutW_8 (S := S) (nW N)
  unfold f41 f41_5
  refine wp_lp2 (fun n a y => ∃ i : Nat, y = i ∧ i ≤ (cutW S (nW N)).length ∧ n = (cutW S (nW N)).length - i ∧ a = cstN N (cutW S (nW N)) j i) (cutW S (nW N)).length (by omega) ⟨0, rfl, by omega, rfl, rfl⟩ ?_
  rintro n a y ⟨i, rfl, a1, a2, a3⟩
  dsimp only
  unfold lb41_5
  rw [bT hj.1 (by omega) (by omega) (by omega), Int.toNat_natCast]
  refine wp_ite (fun c => ?_) (fun c => wp_o (wp_some (by rw [a3, show i = (cutW S (nW N)).length by omega]; exact k)))
  have hi : i < (cutW S (nW N)).length := by omega
  have hlt : (cutW S (nW N)).getD i 0 < nW N := by
    rw [List.getD_eq_getElem?_getD, List.getElem?_eq_getElem hi]
    exact cutW_in _ _ (List.getElem_mem _)
  have hc := (hN.cw _ hlt).2.2.2.2.2.2
  have b1 := cstN_b (S := S) (j := j) hN i (by omega)
  rw [hW i hi, Int.toNat_natCast, h19]
  unfold f41_39
  have es : cstN N (cutW S (nW N)) j (i + 1) = cstN N (cutW S (nW N)) j i + if tb j i then N 19 ((cutW S (nW N)).getD i 0) else 0 := rfl
  by_cases e : tb j i = true
  · rw [if_pos e] at es ⊢
    exact wp_pos rfl (wp_gd (by omega) (wp_gd (by omega) (wp_gd (by omega) (wp_gd (by omega) (wp_i2 (n - 1) (by omega) ⟨i + 1, by omega, by omega, by omega, by rw [es, a3]⟩)))))
  · rw [if_neg e] at es ⊢
    exact wp_neg (by decide) (wp_gd (by omega) (wp_i2 (n - 1) (by omega) ⟨i + 1, by omega, by omega, by omega, by rw [es, a3, Int.add_zero]⟩))
theorem w79 {j : Int} {P : Int → Prop} (hW : ∀ k, k < (cutW S (nW N)).length → M 134 k = (cutW S (nW N)).getD k 0) (hj : 0 ≤ j ∧ j < 256) (k : P (setN (cutW S (nW N)) j (cutW S (nW N)).length)) : Wp (f79 j (cutW S (nW N)).length M) P := by
  have h8 := cutW_8 (S := S) (nW N)
  unfold f79 f79_5
  refine wp_lp2 (fun n a y => ∃ i : Nat, y = i ∧ i ≤ (cutW S (nW N)).length ∧ n = (cutW S (nW N)).length - i ∧ a = setN (cutW S (nW N)) j i) (cutW S (nW N)).length (by omega) ⟨0, rfl, by omega, rfl, rfl⟩ ?_
  rintro n a y ⟨i, rfl, a1, a2, a3⟩
  dsimp only
  unfold lb79_5
  rw [bT hj.1 (by omega) (by omega) (by omega), Int.toNat_natCast]
  refine wp_ite (fun c => ?_) (fun c => wp_o (wp_some (by rw [a3, show i = (cutW S (nW N)).length by omega]; exact k)))
  have hi : i < (cutW S (nW N)).length := by omega
  rw [hW i hi]
  unfold f79_33
  by_cases e : tb j i = true
  · rw [if_pos e]
    exact wp_pos rfl (wp_gd (by omega) (wp_gd (by omega) (wp_i2 (n - 1) (by omega) ⟨i + 1, by omega, by omega, by omega, by rw [setN, if_pos e, a3]⟩)))
  · rw [if_neg e]
    exact wp_neg (by decide) (wp_gd (by omega) (wp_i2 (n - 1) (by omega) ⟨i + 1, by omega, by omega, by omega, by rw [setN, if_neg e, a3]⟩))
theorem cvN_b {k : Nat} {j : Int} {K : Bool → (Nat → Int) → Bool} (hN : NC N) (hS : sV N S) (hk : S 6 1 + k ≤ 600) : drL N S ≤ cvN N S K c k j ∧ cvN N S K c k j ≤ 16000 := by
  have hV := cutS_V (x := setN (cutW S (nW N)) j (cutW S (nW N)).length) hS
  have h1 := drL_pl (K := K) (c := c) hN hV.1 k (by rw [hV.2]; exact hk)
  rw [drL_cut] at h1
  have h2 := drL_b hN (pl_V (K := K) (c := c) hN hV.1 k (by rw [hV.2]; exact hk)).1
  exact ⟨h1, h2.2⟩
/-- the second object's cut -/
theorem c43m {x1 x2 x3 : Int} (h : IV N S Ps l M) (h1 : 0 ≤ x1 ∧ x1 ≤ 10000) (h2 : 1 ≤ x2 ∧ x2 ≤ 30) (h3 : 0 ≤ x3 ∧ x3 ≤ 1) {v : Int}
    (hv : v = if x3 = 0 then setN (cutW S (nW N)) (bstN N S (kOf l) (M 3 3) x2.toNat x1 (2 ^ (cutW S (nW N)).length)) (cutW S (nW N)).length else cvN N S (kOf l) (M 3 3) x2.toNat (bstN N S (kOf l) (M 3 3) x2.toNat x1 (2 ^ (cutW S (nW N)).length))) : JJ v (f99 x1 x2 x3 M) := by
  have hnw := h.nw
  have h14 := h.1.1.w14
  have hS61 : S 6 1 ≤ 499 ∧ 0 ≤ S 6 1 := ⟨h.1.2.2.2.2.2.2.2.1.2, h.1.2.1.2.2.2.2.2.2.2.1⟩
  have cvb : ∀ j, drL N S ≤ cvN N S (kOf l) (M 3 3) x2.toNat j ∧ cvN N S (kOf l) (M 3 3) x2.toNat j ≤ 16000 := fun j => cvN_b h.1.1 h.1.2.1 (by omega)
  have drb := drL_b h.1.1 h.1.2.1
  generalize hbF : bstN N S (kOf l) (M 3 3) x2.toNat x1 = bF at hv
  have Bp : ∀ u : Nat, 0 < u → 0 ≤ bF u := fun u hu => by rw [← hbF]; exact bstN_p h1.1 u hu
  have Bb : ∀ u : Nat, bF u = -1 ∨ (0 ≤ bF u ∧ bF u < u) := fun u => by rw [← hbF]; exact bstN_b u
  have Bs : ∀ u : Nat, (cstN N (cutW S (nW N)) u (cutW S (nW N)).length ≤ x1 ∧ (bF u = -1 ∨ cvN N S (kOf l) (M 3 3) x2.toNat u < cvN N S (kOf l) (M 3 3) x2.toNat (bF u) ∨ (cvN N S (kOf l) (M 3 3) x2.toNat u = cvN N S (kOf l) (M 3 3) x2.toNat (bF u) ∧ cstN N (cutW S (nW N)) u (cutW S (nW N)).length < cstN N (cutW S (nW N)) (bF u) (cutW S (nW N)).length)) → bF (u + 1) = u) ∧
      (¬ (cstN N (cutW S (nW N)) u (cutW S (nW N)).length ≤ x1 ∧ (bF u = -1 ∨ cvN N S (kOf l) (M 3 3) x2.toNat u < cvN N S (kOf l) (M 3 3) x2.toNat (bF u) ∨ (cvN N S (kOf l) (M 3 3) x2.toNat u = cvN N S (kOf l) (M 3 3) x2.toNat (bF u) ∧ cstN N (cutW S (nW N)) u (cutW S (nW N)).length < cstN N (cutW S (nW N)) (bF u) (cutW S (nW N)).length))) → bF (u + 1) = bF u) := fun u => by
    rw [← hbF]
    exact ⟨fun e => by rw [bstN, if_pos e], fun e => by rw [bstN, if_neg e]⟩
  have B0 : bF 0 = -1 := by rw [← hbF]; rfl
  clear hbF
  have hcv : ∀ j, cvN N S (kOf l) (M 3 3) x2.toNat j = drL N (plN N (cutS S (setN (cutW S (nW N)) j (cutW S (nW N)).length)) (kOf l) (M 3 3) x2.toNat) := fun j => rfl
  generalize hcF : cvN N S (kOf l) (M 3 3) x2.toNat = cF at hv cvb Bs hcv
  clear hcF
  unfold f99
  refine wp_bind (w143 ?_)
  rw [if_pos h1]
  refine wp_neg (by decide) (wp_bind (w127 ?_))
  rw [if_pos h2]
  refine wp_neg (by decide) (wp_bind (w143 ?_))
  rw [if_pos h3]
  refine wp_neg (by decide) ?_
  have h8 := cutW_8 (S := S) (nW N)
  -- the choosing
  have main : ∀ M1 : Mm, (∀ b, b ≠ 199 → M1 b = M b) → (∀ k, k < (cutW S (nW N)).length → M1 199 k = (cutW S (nW N)).getD k 0) → Wp (f99_100 x1 x2 x3 (cutW S (nW N)).length M1) (fun r => r.1 = v ∧ GI r.2) := fun M1 a1 a2 => by
    have f1 : fpP M M1 := fpP.of (fun b hb => a1 b (by unfold perB at hb; omega))
    have pp := Nat.two_pow_pos (cutW S (nW N)).length
    have pl8 : (2 ^ (cutW S (nW N)).length : Nat) ≤ 2 ^ 8 := Nat.pow_le_pow_right (by decide) h8
    have p8' : (2 ^ 8 : Nat) = 256 := by decide
    unfold f99_100 f99_112
    let I : Nat → Int → Int → Int → Int → Mm → Prop := fun n z cs ld u M2 => ∃ j : Nat, u = j ∧ j ≤ 2 ^ (cutW S (nW N)).length ∧ n = 2 ^ (cutW S (nW N)).length - j ∧ fpP M M2 ∧ (∀ k, k < (cutW S (nW N)).length → M2 199 k = (cutW S (nW N)).getD k 0) ∧ ((bF j = -1 ∧ z = -1) ∨ (0 ≤ bF j ∧ z = setN (cutW S (nW N)) (bF j) (cutW S (nW N)).length ∧ cs = cstN N (cutW S (nW N)) (bF j) (cutW S (nW N)).length ∧ ld = cF (bF j)))
    refine wp_lp5 I (2 ^ (cutW S (nW N)).length) (by omega) ⟨0, rfl, by omega, rfl, f1, a2, Or.inl ⟨B0, rfl⟩⟩ ?_
    rintro n z cs ld u M2 ⟨j, rfl, b1, b2, b3, b4, b5⟩
    dsimp only
    unfold lb99_112
    rw [bL (by omega) (by omega), Int.toNat_natCast]
    refine wp_ite (fun c => ?_) (fun c => wp_o ?_)
    · have g2 := h.fp b3
      unfold f99_130
      refine wp_lp3 (fun n2 st co y => ∃ i : Nat, y = i ∧ i ≤ (cutW S (nW N)).length ∧ n2 = (cutW S (nW N)).length - i ∧ st = setN (cutW S (nW N)) j i ∧ co = cstN N (cutW S (nW N)) j i) (cutW S (nW N)).length (by omega) ⟨0, rfl, by omega, rfl, rfl, rfl⟩ ?_
      rintro n2 st co y ⟨i, rfl, d1, d2, d3, d4⟩
      dsimp only
      unfold lb99_130
      refine wp_ite (fun c2 => wp_bind (w118 (by omega) (by omega) (by omega) (by omega) ?_)) (fun c2 => wp_o ?_)
      · have hi : i < (cutW S (nW N)).length := by omega
        have hlt : (cutW S (nW N)).getD i 0 < nW N := by
          rw [List.getD_eq_getElem?_getD, List.getElem?_eq_getElem hi]
          exact cutW_in _ _ (List.getElem_mem _)
        have hc := (h.1.1.cw _ hlt).2.2.2.2.2.2
        have cb := cstN_b (S := S) (j := (j : Int)) h.1.1 i (by omega)
        have m152 : M2 152 ((cutW S (nW N)).getD i 0) = N 19 ((cutW S (nW N)).getD i 0) := (g2.1.2.2.2.1.2.2.2.2.1 _ hlt).2.2.2.2.2
        have es : cstN N (cutW S (nW N)) j (i + 1) = cstN N (cutW S (nW N)) j i + if tb j i then N 19 ((cutW S (nW N)).getD i 0) else 0 := rfl
        rw [Int.toNat_natCast, b4 i hi, Int.toNat_natCast, m152]
        unfold f99_181
        by_cases e : tb (j : Int) i = true
        · rw [if_pos e] at es ⊢
          exact wp_neg (by decide) (wp_gd (by omega) (wp_gd (by omega) (wp_gd (by omega) (wp_gd (by omega) (wp_i3 (n2 - 1) (by omega) ⟨i + 1, by omega, by omega, by omega, by rw [setN, if_pos e, d3], by rw [es, d4]⟩)))))
        · rw [if_neg e] at es ⊢
          exact wp_pos rfl (wp_gd (by omega) (wp_i3 (n2 - 1) (by omega) ⟨i + 1, by omega, by omega, by omega, by rw [setN, if_neg e, d3], by rw [es, d4, Int.add_zero]⟩))
      · rw [show i = (cutW S (nW N)).length by omega] at d3 d4
        have bsj := Bs j
        have skip : ∀ M3 : Mm, fpP M M3 → M3 199 = M2 199 → bF (j + 1) = bF j → Wp (f99_249 x1 x2 x3 (cutW S (nW N)).length z cs ld j M3) (Sum.elim (up5 I n) (fun r => r.1 = v ∧ GI r.2)) := fun M3 f3 e3 eb => by
          unfold f99_249
          refine wp_gd (by omega) (wp_i5 (n - 1) (by omega) ⟨j + 1, by omega, by omega, by omega, f3, by rw [e3]; exact b4, by rw [eb]; exact b5⟩)
        have take : ∀ (M3 : Mm) (w : Int), fpP M M3 → M3 199 = M2 199 → bF (j + 1) = j → w = cF j → Wp (f99_237 x1 x2 x3 (cutW S (nW N)).length j st co w M3) (Sum.elim (up5 I n) (fun r => r.1 = v ∧ GI r.2)) := fun M3 w f3 e3 eb ew => by
          unfold f99_237 f99_249
          refine wp_gd (by omega) (wp_i5 (n - 1) (by omega) ⟨j + 1, by omega, by omega, by omega, f3, by rw [e3]; exact b4, Or.inr ?_⟩)
          rw [eb]
          exact ⟨by omega, d3, d4, ew⟩
        refine wp_ite (fun c3 => skip M2 b3 rfl (bsj.2 (fun q => by omega))) (fun c3 => ?_)
        have sb := setN_b (S := S) (j := (j : Int)) h.1.1 (cutW S (nW N)).length (Nat.le_refl _)
        refine wp_obnd (wpW (w162 (X := st) (k := x2) g2 (by rw [d3]; exact ⟨sb.1, sb.2.1⟩) (by rw [d3]; exact sb.2.2) h2) (fun r2 hr2 => ?_))
        obtain ⟨w, M3⟩ := r2
        obtain ⟨o1, o2, o3⟩ := hr2
        dsimp only at o1 o2 o3 ⊢
        have f3 := b3.trans o2
        have ew : w = cF j := by rw [o1, hcv j, d3, b3.1 3 (by unfold perB; omega)]
        have zb : 0 ≤ bF j → 0 ≤ z := fun q => by
          rcases b5 with b5 | b5
          · omega
          · have sb2 := setN_b (S := S) (j := bF j) h.1.1 (cutW S (nW N)).length (Nat.le_refl _)
            omega
        refine wp_ite (fun c4 => take M3 w f3 o3 (bsj.1 ⟨by omega, Or.inl (by rcases b5 with b5 | b5; exact b5.1; have := zb b5.1; omega)⟩) ew) (fun c4 => ?_)
        rcases b5 with b5 | b5
        · exact absurd b5.2 c4
        · obtain ⟨y1, y2, y3, y4⟩ := b5
          refine wp_ite (fun c5 => skip M3 f3 o3 (bsj.2 (fun q => ?_))) (fun c5 => wp_ite (fun c6 => wp_ite (fun c7 => take M3 w f3 o3 (bsj.1 ⟨by omega, Or.inr (Or.inr ⟨by omega, by omega⟩)⟩) ew) (fun c7 => skip M3 f3 o3 (bsj.2 (fun q => ?_)))) (fun c6 => take M3 w f3 o3 (bsj.1 ⟨by omega, Or.inr (Or.inl (by omega))⟩) ew))
          · omega
          · omega
    · have ej : j = 2 ^ (cutW S (nW N)).length := by omega
      have y0 := Bp j (by omega)
      rcases b5 with b5 | ⟨y1, y2, y3, y4⟩
      · omega
      · rw [ej] at y2 y4
        have := cvb (bF (2 ^ (cutW S (nW N)).length))
        refine wp_ite (fun c3 => wp_some ⟨?_, (h.fp b3).G⟩) (fun c3 => wp_gd (by omega) (wp_some ⟨?_, (h.fp b3).G⟩))
        · rw [hv, if_pos c3]
          exact y2
        · rw [hv, if_neg c3]
          exact y4
  unfold f99_37
  refine wp_lp3 (fun m x y M2 => ∃ w : Nat, y = w ∧ w ≤ nW N ∧ m = nW N - w ∧ x = ((cutW S w).length : Int) ∧ (∀ b, b ≠ 199 → M2 b = M b) ∧ ∀ k, k < (cutW S w).length → M2 199 k = (cutW S w).getD k 0) (nW N) (by omega) ⟨0, rfl, Nat.zero_le _, rfl, rfl, fun _ _ => rfl, fun k hk => absurd hk (Nat.not_lt_zero _)⟩ ?_
  rintro m x y M2 ⟨w, rfl, a1, a2, rfl, a4, a5⟩
  dsimp only
  unfold lb99_37
  rw [a4 142 (by decide), h.m4, a4 144 (by decide), show (36000 + (w : Int)).toNat = 36000 + w by omega, show (36028 + (w : Int)).toNat = 36028 + w by omega, Int.toNat_natCast]
  have h8' := cutW_8 (S := S) w
  refine wp_ite (fun c => wp_ite (fun c2 => ?_) (fun c2 => wp_o ?_)) (fun c => wp_o ?_)
  · have hs := h.1.2.2.2.2.2.1.1 w (by omega)
    have hs2 : M 144 (36028 + w) = S 2 w := hs.2.2
    have hv2 := (h.1.2.1.1 w (by omega)).2.2
    rw [hs.1, hs2]
    unfold f99_94
    have next : ¬ (S 0 w = 0 ∧ 0 < S 2 w) → cutW S (w + 1) = cutW S w := fun z => by
      rw [cutW, if_neg (fun q => z q.2)]
    refine wp_gd (by omega) (wp_gd (by omega) (wp_ite (fun c3 => wp_gd (by omega) (wp_gd (by omega) (wp_ite (fun c4 => ?_) (fun c4 => wp_gd (by omega) (wp_mlet (wp_gd (by omega) (wp_gd (by omega) (wp_i3 (m - 1) (by omega) ⟨w + 1, by omega, by omega, by omega, ?_, fun b hb => (ms_a hb).trans (a4 b hb), fun k hk => ?_⟩)))))))) (fun c3 => ?_)))
    · exact wp_gd (by omega) (wp_i3 (m - 1) (by omega) ⟨w + 1, by omega, by omega, by omega, by rw [next (by omega)], a4, by rw [next (by omega)]; exact a5⟩)
    · rw [cutW, if_pos ⟨by omega, c3, by omega⟩, List.length_append]
      rfl
    · rw [cutW, if_pos ⟨by omega, c3, by omega⟩, List.length_append] at hk
      rw [cutW, if_pos ⟨by omega, c3, by omega⟩, List.getD_eq_getElem?_getD]
      have : ([w] : List Nat).length = 1 := rfl
      by_cases e : k = (cutW S w).length
      · rw [e, ms_v, List.getElem?_append_right (Nat.le_refl _), Nat.sub_self]
        rfl
      · rw [ms_i e, a5 k (by omega), List.getElem?_append_left (by omega), List.getD_eq_getElem?_getD]
    · exact wp_gd (by omega) (wp_i3 (m - 1) (by omega) ⟨w + 1, by omega, by omega, by omega, by rw [next (by omega)], a4, by rw [next (by omega)]; exact a5⟩)
  · have e := cutW_full (S := S) (n := w) (by omega) (nW N - w)
    rw [show w + (nW N - w) = nW N by omega] at e
    rw [← e] at a5 ⊢
    exact main M2 a4 a5
  · rw [show w = nW N by omega] at a5 ⊢
    exact main M2 a4 a5
theorem c43 {x1 x2 x3 : Int} (h : IV N S Ps l M) : Wp (f43 x1 x2 x3 M) (fun r => JJ r.1 (f99 x1 x2 x3 r.2)) := by
  have bad : ¬ ((0 ≤ x1 ∧ x1 ≤ 10000) ∧ (1 ≤ x2 ∧ x2 ≤ 30) ∧ (0 ≤ x3 ∧ x3 ≤ 1)) → Wp (some ((-1 : Int), M)) (fun r => JJ r.1 (f99 x1 x2 x3 r.2)) := fun z => by
    refine wp_some ?_
    show JJ (-1) (f99 x1 x2 x3 M)
    unfold f99
    refine wp_bind (w143 ?_)
    by_cases h1 : 0 ≤ x1 ∧ x1 ≤ 10000
    · rw [if_pos h1]
      refine wp_neg (by decide) (wp_bind (w127 ?_))
      by_cases h2 : 1 ≤ x2 ∧ x2 ≤ 30
      · rw [if_pos h2]
        refine wp_neg (by decide) (wp_bind (w143 ?_))
        rw [if_neg (fun h3 => z ⟨h1, h2, h3⟩)]
        exact wp_pos rfl (wp_some ⟨rfl, h.G⟩)
      · rw [if_neg h2]
        exact wp_pos rfl (wp_some ⟨rfl, h.G⟩)
    · rw [if_neg h1]
      exact wp_pos rfl (wp_some ⟨rfl, h.G⟩)
  unfold f43
  refine wp_bind (w80 ?_)
  by_cases h1 : 0 ≤ x1 ∧ x1 ≤ 10000
  · rw [if_pos h1]
    refine wp_neg (by decide) (wp_bind (w80 ?_))
    by_cases h2 : 1 ≤ x2 ∧ x2 ≤ 30
    · rw [if_pos h2]
      refine wp_neg (by decide) (wp_bind (w80 ?_))
      by_cases h3 : 0 ≤ x3 ∧ x3 ≤ 1
      · rw [if_pos h3]
        refine wp_neg (by decide) (wp_obnd ?_)
        have hnw := h.nw
        have h14 := h.1.1.w14
        have hS61 : S 6 1 ≤ 499 ∧ 0 ≤ S 6 1 := ⟨h.1.2.2.2.2.2.2.2.1.2, h.1.2.1.2.2.2.2.2.2.2.1⟩
        have cvb : ∀ j, drL N S ≤ cvN N S (kOf l) (M 3 3) x2.toNat j ∧ cvN N S (kOf l) (M 3 3) x2.toNat j ≤ 16000 := fun j => cvN_b h.1.1 h.1.2.1 (by omega)
        have drb := drL_b h.1.1 h.1.2.1
        have h8 := cutW_8 (S := S) (nW N)
        obtain ⟨t, d, ht⟩ := h.2.2.1
        have ht4 : t = 4 ∨ t = 135 := by have := ht.1; omega
        have fin : ∀ (v : Int) (M1 : Mm), fpP M M1 → (v = if x3 = 0 then setN (cutW S (nW N)) (bstN N S (kOf l) (M 3 3) x2.toNat x1 (2 ^ (cutW S (nW N)).length)) (cutW S (nW N)).length else cvN N S (kOf l) (M 3 3) x2.toNat (bstN N S (kOf l) (M 3 3) x2.toNat x1 (2 ^ (cutW S (nW N)).length))) → JJ v (f99 x1 x2 x3 M1) := fun v M1 f1 hv => by
          refine c43m (h.fp f1) h1 h2 h3 ?_
          rw [f1.1 3 (by unfold perB; omega)]
          exact hv
        generalize hbF : bstN N S (kOf l) (M 3 3) x2.toNat x1 = bF at fin
        have Bp : ∀ u : Nat, 0 < u → 0 ≤ bF u := fun u hu => by rw [← hbF]; exact bstN_p h1.1 u hu
        have Bb : ∀ u : Nat, bF u = -1 ∨ (0 ≤ bF u ∧ bF u < u) := fun u => by rw [← hbF]; exact bstN_b u
        have Bs : ∀ u : Nat, (cstN N (cutW S (nW N)) u (cutW S (nW N)).length ≤ x1 ∧ (bF u = -1 ∨ cvN N S (kOf l) (M 3 3) x2.toNat u < cvN N S (kOf l) (M 3 3) x2.toNat (bF u) ∨ (cvN N S (kOf l) (M 3 3) x2.toNat u = cvN N S (kOf l) (M 3 3) x2.toNat (bF u) ∧ cstN N (cutW S (nW N)) u (cutW S (nW N)).length < cstN N (cutW S (nW N)) (bF u) (cutW S (nW N)).length)) → bF (u + 1) = u) ∧
            (¬ (cstN N (cutW S (nW N)) u (cutW S (nW N)).length ≤ x1 ∧ (bF u = -1 ∨ cvN N S (kOf l) (M 3 3) x2.toNat u < cvN N S (kOf l) (M 3 3) x2.toNat (bF u) ∨ (cvN N S (kOf l) (M 3 3) x2.toNat u = cvN N S (kOf l) (M 3 3) x2.toNat (bF u) ∧ cstN N (cutW S (nW N)) u (cutW S (nW N)).length < cstN N (cutW S (nW N)) (bF u) (cutW S (nW N)).length))) → bF (u + 1) = bF u) := fun u => by
          rw [← hbF]
          exact ⟨fun e => by rw [bstN, if_pos e], fun e => by rw [bstN, if_neg e]⟩
        have B0 : bF 0 = -1 := by rw [← hbF]; rfl
        clear hbF
        have pp := Nat.two_pow_pos (cutW S (nW N)).length
        have pl8 : (2 ^ (cutW S (nW N)).length : Nat) ≤ 2 ^ 8 := Nat.pow_le_pow_right (by decide) h8
        have p8' : (2 ^ 8 : Nat) = 256 := by decide
        unfold f34
        refine wp_obnd (wpW (w47 h) (fun r2 hr2 => ?_))
        obtain ⟨v1, M1⟩ := r2
        obtain ⟨o1, o2, o3⟩ := hr2
        dsimp only at o1 o2 o3 ⊢
        rw [o1]
        refine wp_bind (w244d h.1.1 h.1.2.1 (h.1.2.2.2.2.1.to (fun b q1 q2 => o2 b (by omega))) ?_)
        unfold f34_34
        let I : Nat → Int → Int → Int → Int → Mm → Prop := fun n z ld cs u M2 => ∃ j : Nat, u = j ∧ j ≤ 2 ^ (cutW S (nW N)).length ∧ n = 2 ^ (cutW S (nW N)).length - j ∧ (∀ b, b ≠ 134 → (b < 73 ∨ 97 < b) → b ≠ t + 6 → M2 b = M b) ∧ (∀ k, k < (cutW S (nW N)).length → M2 134 k = (cutW S (nW N)).getD k 0) ∧ ((bF j = -1 ∧ ld = -1) ∨ (0 ≤ bF j ∧ z = bF j ∧ cs = cstN N (cutW S (nW N)) (bF j) (cutW S (nW N)).length ∧ ld = cvN N S (kOf l) (M 3 3) x2.toNat (bF j)))
        refine wp_lp5 I (2 ^ (cutW S (nW N)).length) (by omega) ⟨0, rfl, by omega, rfl, fun b q1 q2 q3 => o2 b q1, o3, Or.inl ⟨B0, rfl⟩⟩ ?_
        rintro n z ld cs u M2 ⟨j, rfl, b1, b2, b3, b4, b5⟩
        dsimp only
        unfold lb34_34
        rw [bL (by omega) (by omega), Int.toNat_natCast]
        have f2 : fpP M M2 := fpP.of (fun b hb => b3 b (by unfold perB at hb; omega) (by unfold perB at hb; omega) (by unfold perB at hb; omega))
        refine wp_ite (fun c => ?_) (fun c => wp_o ?_)
        · have g2 := h.fp f2
          have bsj := Bs j
          have cvj := cvb j
          refine wp_bind (w41 (j := (j : Int)) h.1.1 (g2.1.2.2.1.2 19 (by decide) (by decide)) b4 (by omega) ?_)
          have skip : ∀ M3 : Mm, (∀ b, b ≠ 134 → (b < 73 ∨ 97 < b) → b ≠ t + 6 → M3 b = M b) → M3 134 = M2 134 → bF (j + 1) = bF j → Wp (f34_138 x1 x2 x3 (cutW S (nW N)).length (drL N S) z ld cs j M3) (Sum.elim (up5 I n) (fun r => Wp (some (r.1, r.2)) (fun r => JJ r.1 (f99 x1 x2 x3 r.2)))) := fun M3 f3 e3 eb => by
            unfold f34_138
            refine wp_gd (by omega) (wp_i5 (n - 1) (by omega) ⟨j + 1, by omega, by omega, by omega, f3, by rw [e3]; exact b4, by rw [eb]; exact b5⟩)
          have take : ∀ (M3 : Mm) (w : Int), (∀ b, b ≠ 134 → (b < 73 ∨ 97 < b) → b ≠ t + 6 → M3 b = M b) → M3 134 = M2 134 → bF (j + 1) = j → w = cvN N S (kOf l) (M 3 3) x2.toNat j → Wp (f34_126 x1 x2 x3 (cutW S (nW N)).length (drL N S) j (cstN N (cutW S (nW N)) j (cutW S (nW N)).length) w M3) (Sum.elim (up5 I n) (fun r => Wp (some (r.1, r.2)) (fun r => JJ r.1 (f99 x1 x2 x3 r.2)))) := fun M3 w f3 e3 eb ew => by
            unfold f34_126 f34_138
            refine wp_gd (by omega) (wp_i5 (n - 1) (by omega) ⟨j + 1, by omega, by omega, by omega, f3, by rw [e3]; exact b4, Or.inr ?_⟩)
            rw [eb]
            exact ⟨by omega, rfl, rfl, ew⟩
          have tryit : cstN N (cutW S (nW N)) j (cutW S (nW N)).length ≤ x1 → Wp (f34_80 x1 x2 x3 (cutW S (nW N)).length (drL N S) z ld cs j (cstN N (cutW S (nW N)) j (cutW S (nW N)).length) 0 M2) (Sum.elim (up5 I n) (fun r => Wp (some (r.1, r.2)) (fun r => JJ r.1 (f99 x1 x2 x3 r.2)))) := fun hc => by
            unfold f34_80
            refine wp_pos rfl (wp_obnd (wpW (w44 (j := (j : Int)) (k := x2) h ht b3 b4 (by omega) h2) (fun r2 hr2 => ?_)))
            obtain ⟨w, M3⟩ := r2
            obtain ⟨p1, p2, p3⟩ := hr2
            dsimp only at p1 p2 p3 ⊢
            refine wp_ite (fun c4 => take M3 w p2 p3 (bsj.1 ⟨hc, Or.inl (by rcases b5 with b5 | b5; exact b5.1; have := cvb (bF j); omega)⟩) p1) (fun c4 => ?_)
            rcases b5 with b5 | b5
            · exact absurd b5.2 c4
            · obtain ⟨y1, y2, y3, y4⟩ := b5
              refine wp_ite (fun c5 => take M3 w p2 p3 (bsj.1 ⟨hc, Or.inr (Or.inl (by omega))⟩) p1) (fun c5 => wp_ite (fun c6 => wp_ite (fun c7 => take M3 w p2 p3 (bsj.1 ⟨hc, Or.inr (Or.inr ⟨by omega, by omega⟩)⟩) p1) (fun c7 => skip M3 p2 p3 (bsj.2 (fun q => ?_)))) (fun c6 => skip M3 p2 p3 (bsj.2 (fun q => ?_))))
              · omega
              · omega
          have first : Wp (f34_71 x1 x2 x3 (cutW S (nW N)).length (drL N S) z ld cs j (cstN N (cutW S (nW N)) j (cutW S (nW N)).length) M2) (Sum.elim (up5 I n) (fun r => Wp (some (r.1, r.2)) (fun r => JJ r.1 (f99 x1 x2 x3 r.2)))) := by
            unfold f34_71
            exact wp_ite (fun c3 => skip M2 b3 rfl (bsj.2 (fun q => by omega))) (fun c3 => tryit (by omega))
          refine wp_ite (fun c2 => wp_ite (fun c3 => first) (fun c3 => wp_ite (fun c4 => skip M2 b3 rfl (bsj.2 (fun q => by omega))) (fun c4 => ?_))) (fun c2 => first)
          unfold f34_80
          refine wp_neg (by decide) (skip M2 b3 rfl (bsj.2 (fun q => ?_)))
          rcases b5 with b5 | b5
          · omega
          · omega
        · have ej : j = 2 ^ (cutW S (nW N)).length := by omega
          have y0 := Bp j (by omega)
          have yb := Bb j
          rcases b5 with b5 | ⟨y1, y2, y3, y4⟩
          · omega
          · rw [ej] at y2 y4 yb y0
            rw [y2]
            refine wp_ite (fun c3 => wp_bind (w79 (N := N) (S := S) b4 (by omega) (wp_some (wp_some (fin _ M2 f2 ?_))))) (fun c3 => wp_some (wp_some (fin _ M2 f2 ?_)))
            · rw [if_pos c3]
            · rw [if_neg c3]
              exact y4
      · rw [if_neg h3]
        exact wp_pos rfl (bad (fun z => h3 z.2.2))
    · rw [if_neg h2]
      exact wp_pos rfl (bad (fun z => h2 z.2.1))
  · rw [if_neg h1]
    exact wp_pos rfl (bad (fun z => h1 z.1))
end CUT2
