/-! What comes before what: five clocks, each seen from each. -/
def up5x (A : Nat → Nat → Int) (i j : Nat) (v : Int) : Nat → Nat → Int := fun a b => if a = i ∧ b = j then v else A a b
def stG (A : Nat → Nat → Int) (k : Nat) : Nat → Nat → Int := fun a b => min (A a b) (A a k + A k b)
def itG (A : Nat → Nat → Int) : Nat → Nat → Nat → Int
  | 0 => A
  | k + 1 => stG (itG A k) k
theorem itG_T (A : Nat → Nat → Int) : ∀ k a b : Nat, itG (fun a b => A b a) k a b = itG A k b a
  | 0, _, _ => rfl
  | k + 1, a, b => by
    show min (itG (fun a b => A b a) k a b) (itG (fun a b => A b a) k a k + itG (fun a b => A b a) k k b) = min (itG A k b a) (itG A k b k + itG A k k a)
    rw [itG_T A k, itG_T A k, itG_T A k, Int.add_comm]
theorem itG_le (A : Nat → Nat → Int) (k a b : Nat) : ∀ m : Nat, itG A (k + m) a b ≤ itG A k a b
  | 0 => Int.le_refl _
  | m + 1 => Int.le_trans (Int.min_le_left _ _) (itG_le A k a b m)
theorem itG_cg {A A2 : Nat → Nat → Int} (h : ∀ a b, a < 5 → b < 5 → A a b = A2 a b) : ∀ k : Nat, k ≤ 5 → ∀ a b, a < 5 → b < 5 → itG A k a b = itG A2 k a b
  | 0, _, a, b, ha, hb => h a b ha hb
  | k + 1, hk, a, b, ha, hb => by
    have ih := itG_cg h k (by omega)
    show min (itG A k a b) (itG A k a k + itG A k k b) = min (itG A2 k a b) (itG A2 k a k + itG A2 k k b)
    rw [ih a b ha hb, ih a k ha (by omega), ih k b (by omega) hb]
def okG (A : Nat → Nat → Int) : Prop := ∀ a, a < 5 → 0 ≤ itG A 5 a a
/-- within a round k, those of p done -/
def phG (A0 : Nat → Nat → Int) (k : Nat) (B : Int) (p : Nat → Nat → Prop) (A : Nat → Nat → Int) : Prop :=
  (∀ a b, a < 5 → b < 5 → A a b ≤ A0 a b ∧ A a b ≤ 1000000 ∧ -(6 * B) ≤ A a b ∧ (¬ p a b → A a b = A0 a b ∧ -B ≤ A a b) ∧ (a = k → -(3 * B) ≤ A a b) ∧ (b = k → -(3 * B) ≤ A a b)) ∧ -(2 * B) ≤ A k k ∧
  (0 ≤ A0 k k → ∀ a b, a < 5 → b < 5 → (p a b → A a b = stG A0 k a b) ∧ (¬ p a b → A a b = A0 a b))
theorem phG_0 {A : Nat → Nat → Int} {k : Nat} {B : Int} (hB : 0 ≤ B) (hk : k < 5) (h : ∀ a b, a < 5 → b < 5 → -B ≤ A a b ∧ A a b ≤ 1000000) : phG A k B (fun _ _ => False) A :=
  ⟨fun a b ha hb => by
    have := h a b ha hb
    exact ⟨Int.le_refl _, this.2, by omega, fun _ => ⟨rfl, this.1⟩, fun _ => by omega, fun _ => by omega⟩, by have := h k k hk hk; omega, fun _ a b _ _ => ⟨fun z => z.elim, fun _ => rfl⟩⟩
theorem phG_s {A0 A : Nat → Nat → Int} {k i j : Nat} {B : Int} {p p2 : Nat → Nat → Prop} (hB : 0 ≤ B) (hk : k < 5) (hi : i < 5) (hj : j < 5) (h : phG A0 k B p A) (hp : ¬ p i j) (hp2 : ∀ a b, p2 a b ↔ (p a b ∨ (a = i ∧ b = j))) :
    phG A0 k B p2 (up5x A i j (min (A i j) (A i k + A k j))) := by
  obtain ⟨h1, h2, h3⟩ := h
  obtain ⟨a1, a2, a3, a4, a5, a6⟩ := h1 i j hi hj
  obtain ⟨b1, b2, b3, b4, b5, b6⟩ := h1 i k hi hk
  obtain ⟨c1, c2, c3, c4, c5, c6⟩ := h1 k j hk hj
  have b6' := b6 rfl
  have c5' := c5 rfl
  have a4' := a4 hp
  refine ⟨fun a b ha hb => ?_, ?_, fun h0 a b ha hb => ?_⟩
  · unfold up5x
    by_cases e : a = i ∧ b = j
    · rw [if_pos e]
      obtain ⟨rfl, rfl⟩ := e
      refine ⟨by omega, by omega, by omega, fun z => absurd ((hp2 a b).mpr (Or.inr ⟨rfl, rfl⟩)) z, fun e2 => ?_, fun e2 => ?_⟩
      · subst e2
        omega
      · subst e2
        omega
    · rw [if_neg e]
      obtain ⟨d1, d2, d3, d4, d5, d6⟩ := h1 a b ha hb
      exact ⟨d1, d2, d3, fun z => d4 (fun z2 => z ((hp2 a b).mpr (Or.inl z2))), d5, d6⟩
  · unfold up5x
    by_cases e : k = i ∧ k = j
    · rw [if_pos e]
      obtain ⟨rfl, rfl⟩ := e
      omega
    · rw [if_neg e]
      exact h2
  · unfold up5x
    by_cases e : a = i ∧ b = j
    · rw [if_pos e]
      obtain ⟨rfl, rfl⟩ := e
      refine ⟨fun _ => ?_, fun z => absurd ((hp2 a b).mpr (Or.inr ⟨rfl, rfl⟩)) z⟩
      have g1 : A a k = A0 a k := by
        by_cases q : p a k
        · rw [(h3 h0 a k ha hk).1 q]
          unfold stG
          omega
        · exact (h3 h0 a k ha hk).2 q
      have g2 : A k b = A0 k b := by
        by_cases q : p k b
        · rw [(h3 h0 k b hk hb).1 q]
          unfold stG
          omega
        · exact (h3 h0 k b hk hb).2 q
      rw [a4'.1, g1, g2]
      rfl
    · rw [if_neg e]
      refine ⟨fun z => ?_, fun z => (h3 h0 a b ha hb).2 (fun z2 => z ((hp2 a b).mpr (Or.inl z2)))⟩
      rcases (hp2 a b).mp z with z2 | z2
      · exact (h3 h0 a b ha hb).1 z2
      · exact absurd z2 e
/-- before round k -/
def rdG (G : Nat → Nat → Int) (k : Nat) (A : Nat → Nat → Int) : Prop := (∀ a b, a < 5 → b < 5 → -((10000 * 6 ^ k : Nat) : Int) ≤ A a b ∧ A a b ≤ 1000000) ∧ ((∀ a b, a < 5 → b < 5 → A a b = itG G k a b) ∨ ((∃ a, a < 5 ∧ A a a < 0) ∧ ¬ okG G))
theorem rdG_s {G A A2 : Nat → Nat → Int} {k : Nat} {p : Nat → Nat → Prop} (hk : k < 5) (h : rdG G k A) (g : phG A k ((10000 * 6 ^ k : Nat) : Int) p A2) (hp : ∀ a b, a < 5 → b < 5 → p a b) : rdG G (k + 1) A2 := by
  obtain ⟨h1, h2⟩ := h
  obtain ⟨g1, g2, g3⟩ := g
  have e6 : (10000 * 6 ^ (k + 1) : Nat) = 6 * (10000 * 6 ^ k) := by rw [Nat.pow_succ]; omega
  refine ⟨fun a b ha hb => ?_, ?_⟩
  · obtain ⟨a1, a2, a3, _⟩ := g1 a b ha hb
    rw [e6]
    refine ⟨by omega, a2⟩
  · rcases h2 with h2 | ⟨⟨a, ha, hn⟩, hok⟩
    · by_cases c : 0 ≤ A k k
      · refine Or.inl (fun a b ha hb => ?_)
        rw [(g3 c a b ha hb).1 (hp a b ha hb)]
        show min (A a b) (A a k + A k b) = min (itG G k a b) (itG G k a k + itG G k k b)
        rw [h2 a b ha hb, h2 a k ha hk, h2 k b hk hb]
      · refine Or.inr ⟨⟨k, hk, ?_⟩, fun z => ?_⟩
        · have := (g1 k k hk hk).1
          omega
        · have z1 := z k hk
          have z2 := itG_le G k k k (5 - k)
          rw [show k + (5 - k) = 5 by omega, ← h2 k k hk hk] at z2
          omega
    · refine Or.inr ⟨⟨a, ha, ?_⟩, hok⟩
      have := (g1 a a ha ha).1
      omega
def bsG (lo hi : Nat → Int) : Nat → Nat → Int := fun a b => if a = b then 0 else if a = 4 then (if b < 4 then hi b else 1000000) else if b = 4 then -lo a else 1000000
/-- one more told -/
def edG (A : Nat → Nat → Int) (ld rw p q : Nat → Int) : Nat → Nat → Nat → Int
  | 0 => A
  | x + 1 => up5x (edG A ld rw p q x) (ld (p x).toNat).toNat (ld (q x).toNat).toNat (min (edG A ld rw p q x (ld (p x).toNat).toNat (ld (q x).toNat).toNat) (rw (q x).toNat - rw (p x).toNat))
def gM (r b : Nat) (M : Mm) : Nat → Nat → Int := edG (bsG (M 191) (M 192)) (M 193) (M 194) (M 195) (M 196) b
section ORD
variable {M M2 : Mm} {r b : Nat} {G : Nat → Nat → Int} {P : Mm → Prop}
theorem edG_b {A : Nat → Nat → Int} {ld rw p q : Nat → Int} (hA : ∀ a b, a < 5 → b < 5 → -10000 ≤ A a b ∧ A a b ≤ 1000000) (hp : ∀ i, i < b → (0 ≤ p i ∧ p i < r) ∧ 0 ≤ q i ∧ q i < r) (hw : ∀ i, i < r → 0 ≤ rw i ∧ rw i ≤ 9999) : ∀ x, x ≤ b → ∀ c d, c < 5 → d < 5 → -10000 ≤ edG A ld rw p q x c d ∧ edG A ld rw p q x c d ≤ 1000000
  | 0, _, c, d, hc, hd => hA c d hc hd
  | x + 1, hx, c, d, hc, hd => by
    have ih := edG_b (ld := ld) hA hp hw x (by omega)
    have z := hp x (by omega)
    have w1 := hw (p x).toNat (by omega)
    have w2 := hw (q x).toNat (by omega)
    rw [edG]
    unfold up5x
    by_cases e : c = (ld (p x).toNat).toNat ∧ d = (ld (q x).toNat).toNat
    · rw [if_pos e]
      have := ih c d hc hd
      rw [← e.1, ← e.2]
      omega
    · rw [if_neg e]
      exact ih c d hc hd
theorem w2f {r0 n : Nat} {v : Int} (hn : n < 1000) (k : ∀ M2 : Mm, (∀ b, b ≠ r0 → M2 b = M b) → (∀ j, j < n → M2 r0 j = v) → P M2) : Wp (f2 r0 n v M) P := by
  unfold f2 f2_5
  refine wp_gd (by omega) (wp_lp2 (fun m y M2 => ∃ j : Nat, y = j ∧ j ≤ n ∧ m = n - j ∧ (∀ b, b ≠ r0 → M2 b = M b) ∧ ∀ i, i < j → M2 r0 i = v) n (by omega) ⟨0, rfl, Nat.zero_le _, rfl, fun _ _ => rfl, fun i hi => absurd hi (Nat.not_lt_zero _)⟩ ?_)
  rintro m y M2 ⟨j, rfl, a1, a2, a3, a4⟩
  dsimp only
  unfold lb2_5
  refine wp_ite (fun c => ?_) (fun c => wp_o (wp_some (k M2 a3 (fun i hi => a4 i (by omega)))))
  rw [Int.toNat_natCast]
  refine wp_gd (by omega) (wp_mlet (wp_gd (by omega) (wp_i2 (m - 1) (by omega) ⟨j + 1, by omega, by omega, by omega, fun b hb => (ms_a hb).trans (a3 b hb), fun i hi => ?_⟩)))
  by_cases e : i = j
  · rw [e, ms_v]
  · rw [ms_i e]
    exact a4 i (by omega)
/-- the first object's table -/
theorem w200 (h : iClk r b M) (k : ∀ M2 : Mm, (∀ c, (c < 120 ∨ 124 < c) → M2 c = M c) → (∀ a c, a < 5 → c < 5 → M2 (120 + a) c = gM r b M a c) → P M2) : Wp (f200 M) P := by
  obtain ⟨h1, h2, h3, h4, h5, h6, h7, h8, h9⟩ := h
  unfold f200 f200_2
  refine wp_lp2 (fun m y M2 => ∃ j : Nat, y = j ∧ j ≤ 5 ∧ m = 5 - j ∧ (∀ c, (c < 120 ∨ 124 < c) → M2 c = M c) ∧ ∀ a c, a < j → c < 5 → M2 (120 + a) c = if a = c then 0 else 1000000) 5 (by decide) ⟨0, rfl, by omega, rfl, fun _ _ => rfl, fun a c ha => absurd ha (Nat.not_lt_zero _)⟩ ?_
  rintro m y M1 ⟨j, rfl, a1, a2, a3, a4⟩
  dsimp only
  unfold lb200_2
  refine wp_ite (fun hc5 => ?_) (fun hc5 => wp_o ?_)
  · rw [Int.toNat_natCast]
    refine wp_gd (by omega) (wp_bind (w2f (by decide) (fun M2 b1 b2 => wp_mlet (wp_gd (by omega) (wp_i2 (m - 1) (by omega) ⟨j + 1, by omega, by omega, by omega, fun c hc => ?_, fun a c ha hc => ?_⟩)))))
    · rw [ms_a (by omega), b1 c (by omega)]
      exact a3 c hc
    · by_cases e : a = j
      · subst e
        by_cases e2 : a = c
        · rw [if_pos e2, ← e2, ms_v]
        · rw [if_neg e2, ms_i (fun z => e2 z.symm)]
          exact b2 c hc
      · rw [ms_a (by omega), b1 _ (by omega)]
        exact a4 a c (by omega) hc
  have a4' : ∀ a c, a < 5 → c < 5 → M1 (120 + a) c = if a = c then 0 else 1000000 := fun a c ha hc => a4 a c (by omega) hc
  clear a1 a2 a4 hc5
  unfold f200_35
  refine wp_lp2 (fun m y M2 => ∃ j : Nat, y = j ∧ j ≤ 4 ∧ m = 4 - j ∧ (∀ c, (c < 120 ∨ 124 < c) → M2 c = M c) ∧ ∀ a c, a < 5 → c < 5 → M2 (120 + a) c = if a = 4 ∧ c < j then M 192 c else if c = 4 ∧ a < j then - M 191 a else if a = c then 0 else 1000000) 4 (by decide) ⟨0, rfl, by omega, rfl, a3, fun a c ha hc => by rw [a4' a c ha hc, if_neg (show ¬ (a = 4 ∧ c < 0) by omega), if_neg (show ¬ (c = 4 ∧ a < 0) by omega)]⟩ ?_
  clear a3 a4' M1
  rintro m y M1 ⟨j, rfl, a1, a2, a3, a4⟩
  dsimp only
  unfold lb200_35
  refine wp_ite (fun hc5 => ?_) (fun hc5 => wp_o ?_)
  · have hj := h7 j (by omega)
    rw [Int.toNat_natCast]
    refine wp_gd (by omega) (wp_gd (by omega) (wp_mlet ?_))
    rw [ms_a (by decide : (113 : Nat) ≠ 120 + 4), a3 113 (by omega), a3 114 (by omega), hj.1, hj.2.1]
    refine wp_gd (by omega) (wp_mlet (wp_gd (by omega) (wp_i2 (m - 1) (by omega) ⟨j + 1, by omega, by omega, by omega, fun c hc => ?_, fun a c ha hc => ?_⟩)))
    · rw [ms_a (by omega), ms_a (by omega)]
      exact a3 c hc
    · by_cases e1 : a = j ∧ c = 4
      · obtain ⟨rfl, rfl⟩ := e1
        rw [ms_v, if_neg (by omega), if_pos (by omega)]
      · have s1 : ∀ v : Int, ms (ms M1 (120 + 4) j (M 192 j)) (120 + j) 4 v (120 + a) c = ms M1 (120 + 4) j (M 192 j) (120 + a) c := fun v => by
          by_cases e2 : a = j
          · subst e2
            rw [ms_i (fun z => e1 ⟨rfl, z⟩)]
          · rw [ms_a (by omega)]
        rw [s1]
        by_cases e3 : a = 4 ∧ c = j
        · obtain ⟨rfl, rfl⟩ := e3
          rw [ms_v, if_pos (by omega)]
        · have s2 : ms M1 (120 + 4) j (M 192 j) (120 + a) c = M1 (120 + a) c := by
            by_cases e2 : a = 4
            · subst e2
              rw [ms_i (fun z => e3 ⟨rfl, z⟩)]
            · rw [ms_a (by omega)]
          rw [s2, a4 a c ha hc]
          by_cases e4 : a = 4 ∧ c < j
          · rw [if_pos e4, if_pos (by omega)]
          · rw [if_neg e4, if_neg (show ¬ (a = 4 ∧ c < j + 1) by omega)]
            by_cases e5 : c = 4 ∧ a < j
            · rw [if_pos e5, if_pos (by omega)]
            · rw [if_neg e5, if_neg (show ¬ (c = 4 ∧ a < j + 1) by omega)]
  have a4' : ∀ a c, a < 5 → c < 5 → M1 (120 + a) c = bsG (M 191) (M 192) a c := fun a c ha hc => by
    rw [a4 a c ha hc]
    unfold bsG
    by_cases e : a = c
    · rw [if_neg (by omega), if_neg (by omega), if_pos e, if_pos e]
    · rw [if_neg e, if_neg e]
      by_cases e4 : a = 4
      · rw [if_pos (show a = 4 ∧ c < j by omega), if_pos e4, if_pos (by omega)]
      · rw [if_neg (by omega), if_neg e4]
        by_cases e5 : c = 4
        · rw [if_pos (show c = 4 ∧ a < j by omega), if_pos e5]
        · rw [if_neg (by omega), if_neg e5]
  clear a1 a2 a4 hc5
  have hbs : ∀ a c, a < 5 → c < 5 → -10000 ≤ bsG (M 191) (M 192) a c ∧ bsG (M 191) (M 192) a c ≤ 1000000 := fun a c ha hc => by
    unfold bsG
    split
    · omega
    · split
      · split
        · have := h7 c (by omega); omega
        · omega
      · split
        · have := h7 a (by omega); omega
        · omega
  have hb9 := edG_b (b := b) (r := r) (ld := M 193) (rw := M 194) (p := M 195) (q := M 196) hbs (fun i hi => by have := h9 i hi; omega) (fun i hi => by have := h8 i hi; omega)
  unfold f200_77
  refine wp_lp2 (fun m y M2 => ∃ j : Nat, y = j ∧ j ≤ b ∧ m = b - j ∧ (∀ c, (c < 120 ∨ 124 < c) → M2 c = M c) ∧ ∀ a c, a < 5 → c < 5 → M2 (120 + a) c = edG (bsG (M 191) (M 192)) (M 193) (M 194) (M 195) (M 196) j a c) b (by omega) ⟨0, rfl, by omega, rfl, a3, a4'⟩ ?_
  clear a3 a4' M1
  rintro m y M1 ⟨j, rfl, a1, a2, a3, a4⟩
  dsimp only
  unfold lb200_77
  rw [a3 112 (by omega), a3 115 (by omega), a3 116 (by omega), a3 117 (by omega), a3 118 (by omega), h4]
  refine wp_ite (fun hc5 => ?_) (fun hc5 => wp_o (wp_some (k M1 a3 (fun a c ha hc => ?_))))
  · have hj := h9 j (by omega)
    rw [Int.toNat_natCast, hj.1, hj.2.1]
    have hp := h8 (M 195 j).toNat (by omega)
    have hq := h8 (M 196 j).toNat (by omega)
    rw [hp.1, hp.2.1, hq.1, hq.2.1]
    refine wp_gd (by omega) (wp_gd (by omega) (wp_gd (by omega) (wp_gd (by omega) (wp_gd (by omega) (wp_gd (by omega) (wp_bind (w6 (wp_mlet (wp_gd (by omega) (wp_i2 (m - 1) (by omega) ⟨j + 1, by omega, by omega, by omega, fun c hc => ?_, fun a c ha hc => ?_⟩))))))))))
    · rw [ms_a (by omega)]
      exact a3 c hc
    · rw [edG]
      unfold up5x
      rw [a4 _ _ (by omega) (by omega)]
      by_cases e : a = (M 193 (M 195 j).toNat).toNat ∧ c = (M 193 (M 196 j).toNat).toNat
      · rw [if_pos e, ← e.1, ← e.2, ms_v]
      · rw [if_neg e, ← a4 a c ha hc]
        by_cases e2 : a = (M 193 (M 195 j).toNat).toNat
        · rw [e2, ms_i (fun z => e ⟨e2, z⟩)]
        · rw [ms_a (by omega)]
  · rw [a4 a c ha hc, show j = b by omega]
    rfl
theorem gM_b (h : iClk r b M) : ∀ a c, a < 5 → c < 5 → -10000 ≤ gM r b M a c ∧ gM r b M a c ≤ 1000000 := by
  obtain ⟨h1, h2, h3, h4, h5, h6, h7, h8, h9⟩ := h
  refine edG_b (b := b) (r := r) (fun a c ha hc => ?_) (fun i hi => by have := h9 i hi; omega) (fun i hi => by have := h8 i hi; omega) b (Nat.le_refl _)
  unfold bsG
  split
  · omega
  · split
    · split
      · have := h7 c (by omega); omega
      · omega
    · split
      · have := h7 a (by omega); omega
      · omega
theorem p6b {k : Nat} (hk : k ≤ 5) : (10000 * 6 ^ k : Nat) ≤ 77760000 ∧ (k < 5 → (10000 * 6 ^ k : Nat) ≤ 12960000) := by
  have : k = 0 ∨ k = 1 ∨ k = 2 ∨ k = 3 ∨ k = 4 ∨ k = 5 := by omega
  rcases this with rfl | rfl | rfl | rfl | rfl | rfl <;> decide
/-- the rounds of the first object -/
theorem w201 (hG : rdG G 0 (fun a c => M (120 + a) c)) (k : ∀ M2 : Mm, (∀ c, (c < 120 ∨ 124 < c) → M2 c = M c) → rdG G 5 (fun a c => M2 (120 + a) c) → P M2) : Wp (f201 M) P := by
  unfold f201 f201_2
  let I1 : Nat → Int → Mm → Prop := fun m y M2 => ∃ x : Nat, y = x ∧ x ≤ 5 ∧ m = 5 - x ∧ (∀ c, (c < 120 ∨ 124 < c) → M2 c = M c) ∧ rdG G x (fun a c => M2 (120 + a) c)
  refine wp_lp2 I1 5 (by decide) ⟨0, rfl, by omega, rfl, fun _ _ => rfl, hG⟩ ?_
  rintro m y M1 ⟨x, rfl, a1, a2, a3, a4⟩
  dsimp only
  unfold lb201_2
  refine wp_ite (fun c => ?_) (fun c => wp_o (wp_some (k M1 a3 (by rw [show (5 : Nat) = x by omega]; exact a4))))
  have hx : x < 5 := by omega
  have pb := (p6b (k := x) (by omega)).2 hx
  have hB : (0 : Int) ≤ ((10000 * 6 ^ x : Nat) : Int) := by omega
  generalize hBB : ((10000 * 6 ^ x : Nat) : Int) = B at hB
  have hB2 : B ≤ 12960000 := by omega
  unfold f201_9
  let I2 : Nat → Int → Mm → Prop := fun m y M2 => ∃ i : Nat, y = i ∧ i ≤ 5 ∧ m = 5 - i ∧ (∀ c, (c < 120 ∨ 124 < c) → M2 c = M c) ∧ phG (fun a c => M1 (120 + a) c) x B (fun a _ => a < i) (fun a c => M2 (120 + a) c)
  have st0 : phG (fun a c => M1 (120 + a) c) x B (fun a _ => a < 0) (fun a c => M1 (120 + a) c) := by
    have := phG_0 (k := x) (B := B) hB hx (A := fun a c => M1 (120 + a) c) (fun a c ha hc => by have := a4.1 a c ha hc; rw [hBB] at this; exact this)
    have e : (fun (a _ : Nat) => a < 0) = (fun (_ _ : Nat) => False) := by funext a c; exact propext ⟨fun z => absurd z (Nat.not_lt_zero _), fun z => z.elim⟩
    rw [e]
    exact this
  refine wp_lp2 I2 5 (by decide) ⟨0, rfl, by omega, rfl, a3, st0⟩ ?_
  rintro m2 y2 M2 ⟨i, rfl, b1, b2, b3, b4⟩
  dsimp only
  unfold lb201_9
  refine wp_ite (fun c2 => ?_) (fun c2 => wp_o (wp_gd (by omega) (wp_i2 (m - 1) (by omega) ⟨x + 1, by omega, by omega, by omega, b3, ?_⟩)))
  · have hi : i < 5 := by omega
    unfold f201_16
    let I3 : Nat → Int → Mm → Prop := fun m y M3 => ∃ j : Nat, y = j ∧ j ≤ 5 ∧ m = 5 - j ∧ (∀ c, (c < 120 ∨ 124 < c) → M3 c = M c) ∧ phG (fun a c => M1 (120 + a) c) x B (fun a c => a < i ∨ (a = i ∧ c < j)) (fun a c => M3 (120 + a) c)
    have e : (fun (a c : Nat) => a < i ∨ (a = i ∧ c < 0)) = (fun (a _ : Nat) => a < i) := by funext a c; exact propext (by omega)
    refine wp_lp2 I3 5 (by decide) ⟨0, rfl, by omega, rfl, b3, by rw [e]; exact b4⟩ ?_
    rintro m3 y3 M3 ⟨j, rfl, d1, d2, d3, d4⟩
    dsimp only
    unfold lb201_16
    rw [Int.toNat_natCast, Int.toNat_natCast, Int.toNat_natCast]
    refine wp_ite (fun c3 => ?_) (fun c3 => wp_o (wp_gd (by omega) (wp_i2 (m2 - 1) (by omega) ⟨i + 1, by omega, by omega, by omega, d3, ?_⟩)))
    · have hj : j < 5 := by omega
      obtain ⟨l1, u1, v1, _⟩ := d4.1 i x hi hx
      obtain ⟨l2, u2, v2, _⟩ := d4.1 x j hx hj
      have q1 : M3 (120 + i) x ≤ 1000000 := u1
      have q2 : -(6 * B) ≤ M3 (120 + i) x := v1
      have q3 : M3 (120 + x) j ≤ 1000000 := u2
      have q4 : -(6 * B) ≤ M3 (120 + x) j := v2
      refine wp_gd (by omega) (wp_gd (by omega) (wp_gd (by omega) (wp_gd ⟨by omega, by omega⟩ (wp_bind (w6 (wp_mlet (wp_gd (by omega) (wp_i2 (m3 - 1) (by omega) ⟨j + 1, by omega, by omega, by omega, fun c hc => (ms_a (by omega)).trans (d3 c hc), ?_⟩))))))))
      have key := phG_s (p2 := fun a c => a < i ∨ (a = i ∧ c < j + 1)) hB hx hi hj d4 (by omega) (fun a c => by omega)
      have e3 : (fun a c => ms M3 (120 + i) j (min (M3 (120 + i) j) (M3 (120 + i) x + M3 (120 + x) j)) (120 + a) c) = up5x (fun a c => M3 (120 + a) c) i j (min (M3 (120 + i) j) (M3 (120 + i) x + M3 (120 + x) j)) := by
        funext a c
        unfold up5x ms
        by_cases e4 : a = i ∧ c = j
        · rw [if_pos e4, if_pos ⟨by omega, e4.2⟩]
        · rw [if_neg e4, if_neg (fun z => e4 ⟨by omega, z.2⟩)]
      rw [e3]
      exact key
    · obtain ⟨g1, g2, g3⟩ := d4
      refine ⟨fun a c ha hc => ?_, g2, fun z a c ha hc => ?_⟩
      · obtain ⟨o1, o2, o3, o4, o5⟩ := g1 a c ha hc
        exact ⟨o1, o2, o3, fun z => o4 (by omega), o5⟩
      · obtain ⟨o1, o2⟩ := g3 z a c ha hc
        exact ⟨fun z => o1 (by omega), fun z => o2 (by omega)⟩
  · rw [← hBB] at b4
    exact rdG_s hx a4 b4 (fun a c ha hc => by omega)
/-! The second object's table: seen from the other side. -/
def fA (M : Mm) : Nat → Nat → Int := fun a c => M 197 (5 * a + c)
theorem up5_m {M : Mm} {i j : Nat} {v : Int} (hj : j < 5) : ∀ a c, c < 5 → fA (ms M 197 (5 * i + j) v) a c = up5x (fA M) i j v a c := fun a c hc => by
  unfold fA up5x
  by_cases e : a = i ∧ c = j
  · rw [if_pos e, e.1, e.2, ms_v]
  · rw [if_neg e, ms_i (by omega)]
theorem w87 {i j : Nat} {v : Int} {M : Mm} {P : Mm → Prop} (hi : i < 5) (hj : j < 5) (k : ∀ M2 : Mm, (∀ b, b ≠ 197 → M2 b = M b) → (∀ a c, c < 5 → fA M2 a c = up5x (fA M) i j (min (fA M i j) v) a c) → P M2) : Wp (f87 i j v M) P := by
  unfold f87
  rw [show (5 * (i : Int) + (j : Int)).toNat = 5 * i + j by omega]
  have e : fA M i j = M 197 (5 * i + j) := rfl
  refine wp_gd (by omega) (wp_gd (by omega) (wp_gd (by omega) (wp_ite (fun c => wp_mlet (wp_some (k _ (fun b hb => ms_a hb) ?_))) (fun c => wp_mlet (wp_some (k _ (fun b hb => ms_a hb) ?_))))))
  · rw [e, show min (M 197 (5 * i + j)) v = v by omega]
    exact up5_m hj
  · rw [e, show min (M 197 (5 * i + j)) v = M 197 (5 * i + j) by omega]
    exact up5_m hj
theorem up5_cg {A A2 : Nat → Nat → Int} {i j : Nat} {v : Int} (h : ∀ a c, a < 5 → c < 5 → A a c = A2 a c) : ∀ a c, a < 5 → c < 5 → up5x A i j v a c = up5x A2 i j v a c := fun a c ha hc => by
  unfold up5x
  by_cases e : a = i ∧ c = j
  · rw [if_pos e, if_pos e]
  · rw [if_neg e, if_neg e]
    exact h a c ha hc
theorem rdG_cg {G A A2 : Nat → Nat → Int} {k : Nat} (h : ∀ a c, a < 5 → c < 5 → A2 a c = A a c) (g : rdG G k A) : rdG G k A2 := by
  obtain ⟨g1, g2⟩ := g
  refine ⟨fun a c ha hc => by rw [h a c ha hc]; exact g1 a c ha hc, ?_⟩
  rcases g2 with g2 | ⟨⟨a, ha, g2⟩, g3⟩
  · exact Or.inl (fun a c ha hc => by rw [h a c ha hc]; exact g2 a c ha hc)
  · exact Or.inr ⟨⟨a, ha, by rw [h a a ha ha]; exact g2⟩, g3⟩
theorem phG_cg {A0 A A2 : Nat → Nat → Int} {k : Nat} {B : Int} {p : Nat → Nat → Prop} (hk : k < 5) (h : ∀ a c, a < 5 → c < 5 → A2 a c = A a c) (g : phG A0 k B p A) : phG A0 k B p A2 := by
  obtain ⟨g1, g2, g3⟩ := g
  refine ⟨fun a c ha hc => by rw [h a c ha hc]; exact g1 a c ha hc, by rw [h k k hk hk]; exact g2, fun z a c ha hc => by rw [h a c ha hc]; exact g3 z a c ha hc⟩
/-- the rounds of the second object, and what they find -/
theorem w109b {G : Nat → Nat → Int} {M : Mm} (hG : rdG G 0 (fA M)) : Wp (f109_139 0 M) (fun v => (∀ b, b ≠ 197 → v.2 b = M b) ∧ rdG G 5 (fA v.2) ∧ ((v.1 = 1 ∧ ∀ a, a < 5 → 0 ≤ fA v.2 a a) ∨ (v.1 = 0 ∧ ∃ a, a < 5 ∧ fA v.2 a a < 0))) := by
  unfold f109_139
  let I1 : Nat → Int → Mm → Prop := fun m y M2 => ∃ x : Nat, y = x ∧ x ≤ 5 ∧ m = 5 - x ∧ (∀ c, c ≠ 197 → M2 c = M c) ∧ rdG G x (fA M2)
  refine wp_lp2 I1 5 (by decide) ⟨0, rfl, by omega, rfl, fun _ _ => rfl, hG⟩ ?_
  rintro m y M1 ⟨x, rfl, a1, a2, a3, a4⟩
  dsimp only
  unfold lb109_139
  refine wp_ite (fun hc5 => ?_) (fun hc5 => wp_o ?_)
  · have hx : x < 5 := by omega
    have pb := (p6b (k := x) (by omega)).2 hx
    have hB : (0 : Int) ≤ ((10000 * 6 ^ x : Nat) : Int) := by omega
    generalize hBB : ((10000 * 6 ^ x : Nat) : Int) = B at hB
    have hB2 : B ≤ 12960000 := by omega
    unfold f109_146
    let I2 : Nat → Int → Mm → Prop := fun m y M2 => ∃ i : Nat, y = i ∧ i ≤ 5 ∧ m = 5 - i ∧ (∀ c, c ≠ 197 → M2 c = M c) ∧ phG (fA M1) x B (fun a _ => a < i) (fA M2)
    have st0 : phG (fA M1) x B (fun a _ => a < 0) (fA M1) := by
      have := phG_0 (k := x) (B := B) hB hx (A := fA M1) (fun a c ha hc => by have := a4.1 a c ha hc; rw [hBB] at this; exact this)
      have e : (fun (a _ : Nat) => a < 0) = (fun (_ _ : Nat) => False) := by funext a c; exact propext ⟨fun z => absurd z (Nat.not_lt_zero _), fun z => z.elim⟩
      rw [e]
      exact this
    refine wp_lp2 I2 5 (by decide) ⟨0, rfl, by omega, rfl, a3, st0⟩ ?_
    rintro m2 y2 M2 ⟨i, rfl, b1, b2, b3, b4⟩
    dsimp only
    unfold lb109_146
    refine wp_ite (fun c2 => ?_) (fun c2 => wp_o (wp_gd (by omega) (wp_i2 (m - 1) (by omega) ⟨x + 1, by omega, by omega, by omega, b3, ?_⟩)))
    · have hi : i < 5 := by omega
      unfold f109_153
      let I3 : Nat → Int → Mm → Prop := fun m y M3 => ∃ j : Nat, y = j ∧ j ≤ 5 ∧ m = 5 - j ∧ (∀ c, c ≠ 197 → M3 c = M c) ∧ phG (fA M1) x B (fun a c => a < i ∨ (a = i ∧ c < j)) (fA M3)
      have e : (fun (a c : Nat) => a < i ∨ (a = i ∧ c < 0)) = (fun (a _ : Nat) => a < i) := by funext a c; exact propext (by omega)
      refine wp_lp2 I3 5 (by decide) ⟨0, rfl, by omega, rfl, b3, by rw [e]; exact b4⟩ ?_
      rintro m3 y3 M3 ⟨j, rfl, d1, d2, d3, d4⟩
      dsimp only
      unfold lb109_153
      refine wp_ite (fun c3 => ?_) (fun c3 => wp_o (wp_gd (by omega) (wp_i2 (m2 - 1) (by omega) ⟨i + 1, by omega, by omega, by omega, d3, ?_⟩)))
      · have hj : j < 5 := by omega
        obtain ⟨l1, u1, v1, _⟩ := d4.1 i x hi hx
        obtain ⟨l2, u2, v2, _⟩ := d4.1 x j hx hj
        rw [show (5 * (i : Int) + (x : Int)).toNat = 5 * i + x by omega, show (5 * (x : Int) + (j : Int)).toNat = 5 * x + j by omega]
        have e1 : M3 197 (5 * i + x) = fA M3 i x := rfl
        have e2 : M3 197 (5 * x + j) = fA M3 x j := rfl
        rw [e1, e2]
        refine wp_gd (by omega) (wp_gd (by omega) (wp_gd (by omega) (wp_gd (by omega) (wp_gd (by omega) (wp_gd (by omega) (wp_gd ⟨by omega, by omega⟩ (wp_bind (w87 hi hj (fun M4 q1 q2 => wp_gd (by omega) (wp_i2 (m3 - 1) (by omega) ⟨j + 1, by omega, by omega, by omega, fun c hc => (q1 c hc).trans (d3 c hc), ?_⟩))))))))))
        exact phG_cg hx (fun a c _ hc => q2 a c hc) (phG_s (p2 := fun a c => a < i ∨ (a = i ∧ c < j + 1)) hB hx hi hj d4 (by omega) (fun a c => by omega))
      · obtain ⟨g1, g2, g3⟩ := d4
        refine ⟨fun a c ha hc => ?_, g2, fun z a c ha hc => ?_⟩
        · obtain ⟨o1, o2, o3, o4, o5⟩ := g1 a c ha hc
          exact ⟨o1, o2, o3, fun z => o4 (by omega), o5⟩
        · obtain ⟨o1, o2⟩ := g3 z a c ha hc
          exact ⟨fun z => o1 (by omega), fun z => o2 (by omega)⟩
    · rw [← hBB] at b4
      exact rdG_s hx a4 b4 (fun a c ha hc => by omega)
  · rw [show x = 5 by omega] at a4
    unfold f109_205
    refine wp_lp1 (fun m y => ∃ x : Nat, y = x ∧ x ≤ 5 ∧ m = 5 - x ∧ ∀ a, a < x → 0 ≤ fA M1 a a) 5 (by decide) ⟨0, rfl, by omega, rfl, fun a ha => absurd ha (Nat.not_lt_zero _)⟩ ?_
    rintro m2 y2 ⟨i, rfl, b1, b2, b3⟩
    try dsimp only
    unfold lb109_205
    refine wp_ite (fun c2 => ?_) (fun c2 => wp_o (wp_some ⟨a3, a4, Or.inl ⟨rfl, fun a ha => b3 a (by omega)⟩⟩))
    rw [show (6 * (i : Int)).toNat = 5 * i + i by omega]
    have e1 : M1 197 (5 * i + i) = fA M1 i i := rfl
    rw [e1]
    refine wp_gd (by omega) (wp_gd (by omega) (wp_ite (fun c3 => wp_o (wp_some ⟨a3, a4, Or.inr ⟨rfl, i, by omega, c3⟩⟩)) (fun c3 => wp_gd (by omega) (wp_i1 (m2 - 1) (by omega) ⟨i + 1, by omega, by omega, by omega, fun a ha => ?_⟩))))
    by_cases e : a = i
    · rw [e]; omega
    · exact b3 a (by omega)
theorem edG_T {A : Nat → Nat → Int} {ld rw p q : Nat → Int} (x a c : Nat) : edG A ld rw p q (x + 1) c a = up5x (fun a c => edG A ld rw p q x c a) (ld (q x).toNat).toNat (ld (p x).toNat).toNat (min (edG A ld rw p q x (ld (p x).toNat).toNat (ld (q x).toNat).toNat) (rw (q x).toNat - rw (p x).toNat)) a c := by
  rw [edG]
  unfold up5x
  by_cases e : c = (ld (p x).toNat).toNat ∧ a = (ld (q x).toNat).toNat
  · rw [if_pos e, if_pos ⟨e.2, e.1⟩]
  · rw [if_neg e, if_neg (fun z => e ⟨z.2, z.1⟩)]
/-- the second object's table at the start -/
theorem w109a {M : Mm} {r b : Nat} {P : Int × Mm → Prop} (h : iClk r b M) (k : ∀ M2 : Mm, (∀ c, c ≠ 197 → M2 c = M c) → (∀ a c, a < 5 → c < 5 → fA M2 a c = gM r b M c a) → Wp (f109_139 0 M2) P) : Wp (f109 M) P := by
  obtain ⟨h1, h2, h3, h4, h5, h6, h7, h8, h9⟩ := h
  unfold f109 f109_2
  refine wp_lp2 (fun m y M2 => ∃ x : Nat, y = x ∧ x ≤ 25 ∧ m = 25 - x ∧ (∀ c, c ≠ 197 → M2 c = M c) ∧ ∀ i, i < x → M2 197 i = if i % 6 = 0 then 0 else 1000000) 25 (by decide) ⟨0, rfl, by omega, rfl, fun _ _ => rfl, fun i hi => absurd hi (Nat.not_lt_zero _)⟩ ?_
  rintro m y M1 ⟨x, rfl, a1, a2, a3, a4⟩
  dsimp only
  unfold lb109_2
  refine wp_ite (fun hc5 => ?_) (fun hc5 => wp_o ?_)
  · have e6 : Int.tmod (x : Int) 6 = ((x % 6 : Nat) : Int) := rfl
    rw [e6, Int.toNat_natCast]
    refine wp_gd (by omega) (wp_ite (fun c => wp_gd (by omega) (wp_mlet (wp_gd (by omega) (wp_i2 (m - 1) (by omega) ⟨x + 1, by omega, by omega, by omega, fun c hc => (ms_a hc).trans (a3 c hc), fun i hi => ?_⟩)))) (fun c => wp_gd (by omega) (wp_mlet (wp_gd (by omega) (wp_i2 (m - 1) (by omega) ⟨x + 1, by omega, by omega, by omega, fun c hc => (ms_a hc).trans (a3 c hc), fun i hi => ?_⟩)))))
    · by_cases e : i = x
      · rw [e, ms_v, if_pos (by omega)]
      · rw [ms_i e]; exact a4 i (by omega)
    · by_cases e : i = x
      · rw [e, ms_v, if_neg (by omega)]
      · rw [ms_i e]; exact a4 i (by omega)
  have a4' : ∀ a c, a < 5 → c < 5 → fA M1 a c = if a = c then 0 else 1000000 := fun a c ha hc => by
    unfold fA
    rw [a4 _ (by omega)]
    by_cases e : a = c
    · rw [if_pos e, if_pos (by omega)]
    · rw [if_neg e, if_neg (by omega)]
  clear a1 a2 a4 hc5
  unfold f109_36
  refine wp_lp2 (fun m y M2 => ∃ j : Nat, y = j ∧ j ≤ 4 ∧ m = 4 - j ∧ (∀ c, c ≠ 197 → M2 c = M c) ∧ ∀ a c, a < 5 → c < 5 → fA M2 a c = if c = 4 ∧ a < j then M 192 a else if a = 4 ∧ c < j then - M 191 c else if a = c then 0 else 1000000) 4 (by decide) ⟨0, rfl, by omega, rfl, a3, fun a c ha hc => by rw [a4' a c ha hc, if_neg (show ¬ (c = 4 ∧ a < 0) by omega), if_neg (show ¬ (a = 4 ∧ c < 0) by omega)]⟩ ?_
  clear a3 a4' M1
  rintro m y M1 ⟨j, rfl, a1, a2, a3, a4⟩
  dsimp only
  unfold lb109_36
  refine wp_ite (fun hc5 => ?_) (fun hc5 => wp_o ?_)
  · have hj := h7 j (by omega)
    rw [Int.toNat_natCast, a3 192 (by decide)]
    refine wp_gd (by omega) (wp_bind (w87 (j := 4) (by omega) (by decide) (fun M2 b1 b2 => ?_)))
    rw [b1 191 (by decide), a3 191 (by decide)]
    refine wp_gd (by omega) (wp_bind (w87 (i := 4) (by decide) (by omega) (fun M3 c1 c2 => wp_gd (by omega) (wp_i2 (m - 1) (by omega) ⟨j + 1, by omega, by omega, by omega, fun c hc => (c1 c hc).trans ((b1 c hc).trans (a3 c hc)), fun a c ha hc => ?_⟩))))
    have f1 : fA M1 j 4 = 1000000 := by rw [a4 j 4 (by omega) (by decide), if_neg (by omega), if_neg (by omega), if_neg (by omega)]
    have f2 : fA M2 4 j = 1000000 := by
      rw [b2 4 j (by omega)]
      unfold up5x
      rw [if_neg (by omega), a4 4 j (by decide) (by omega), if_neg (by omega), if_neg (by omega), if_neg (by omega)]
    rw [c2 a c hc, f2, show min (1000000 : Int) (-M 191 j) = - M 191 j by omega]
    unfold up5x
    by_cases e1 : a = 4 ∧ c = j
    · rw [if_pos e1, if_neg (by omega), if_pos (by omega), e1.2]
    · rw [if_neg e1, b2 a c hc, f1, show min (1000000 : Int) (M 192 j) = M 192 j by omega]
      unfold up5x
      by_cases e2 : a = j ∧ c = 4
      · rw [if_pos e2, if_pos (by omega), e2.1]
      · rw [if_neg e2, a4 a c ha hc]
        by_cases e3 : c = 4 ∧ a < j
        · rw [if_pos e3, if_pos (by omega)]
        · rw [if_neg e3, if_neg (show ¬ (c = 4 ∧ a < j + 1) by omega)]
          by_cases e4 : a = 4 ∧ c < j
          · rw [if_pos e4, if_pos (by omega)]
          · rw [if_neg e4, if_neg (show ¬ (a = 4 ∧ c < j + 1) by omega)]
  have a4' : ∀ a c, a < 5 → c < 5 → fA M1 a c = bsG (M 191) (M 192) c a := fun a c ha hc => by
    rw [a4 a c ha hc]
    unfold bsG
    by_cases e : a = c
    · rw [if_neg (by omega), if_neg (by omega), if_pos e, if_pos e.symm]
    · rw [if_neg e, if_neg (show ¬ c = a by omega)]
      by_cases e4 : c = 4
      · rw [if_pos (show c = 4 ∧ a < j by omega), if_pos e4, if_pos (by omega)]
      · rw [if_neg (by omega), if_neg e4]
        by_cases e5 : a = 4
        · rw [if_pos (show a = 4 ∧ c < j by omega), if_pos e5]
        · rw [if_neg (by omega), if_neg e5]
  clear a1 a2 a4 hc5
  unfold f109_74
  refine wp_lp2 (fun m y M2 => ∃ j : Nat, y = j ∧ j ≤ b ∧ m = b - j ∧ (∀ c, c ≠ 197 → M2 c = M c) ∧ ∀ a c, a < 5 → c < 5 → fA M2 a c = edG (bsG (M 191) (M 192)) (M 193) (M 194) (M 195) (M 196) j c a) b (by omega) ⟨0, rfl, by omega, rfl, a3, a4'⟩ ?_
  clear a3 a4' M1
  rintro m y M1 ⟨j, rfl, a1, a2, a3, a4⟩
  dsimp only
  unfold lb109_74
  rw [a3 142 (by decide), a3 193 (by decide), a3 194 (by decide), a3 195 (by decide), a3 196 (by decide), h5, Int.toNat_natCast]
  refine wp_ite (fun hc5 => ?_) (fun hc5 => wp_o (k M1 a3 (fun a c ha hc => ?_)))
  · have hj := h9 j (by omega)
    have hp := h8 (M 195 j).toNat (by omega)
    have hq := h8 (M 196 j).toNat (by omega)
    obtain ⟨u, hu⟩ := Int.eq_ofNat_of_zero_le hp.2.2.1.1
    obtain ⟨v, hv⟩ := Int.eq_ofNat_of_zero_le hq.2.2.1.1
    rw [hu, hv]
    refine wp_gd (by omega) (wp_gd (by omega) (wp_gd (by omega) (wp_gd (by omega) (wp_bind (w87 (i := v) (j := u) (by omega) (by omega) (fun M2 b1 b2 => wp_gd (by omega) (wp_i2 (m - 1) (by omega) ⟨j + 1, by omega, by omega, by omega, fun c hc => (b1 c hc).trans (a3 c hc), fun a c ha hc => ?_⟩)))))))
    rw [b2 a c hc, edG_T, hu, hv, Int.toNat_natCast, Int.toNat_natCast, a4 v u (by omega) (by omega)]
    exact up5_cg (fun a c ha hc => a4 a c ha hc) a c ha hc
  · rw [a4 a c ha hc, show j = b by omega]
    rfl
theorem gM_fp {M M2 : Mm} {r b : Nat} (f : fpP M M2) : gM r b M2 = gM r b M := by
  unfold gM
  rw [f.1 191 (by unfold perB; omega), f.1 192 (by unfold perB; omega), f.1 193 (by unfold perB; omega), f.1 194 (by unfold perB; omega), f.1 195 (by unfold perB; omega), f.1 196 (by unfold perB; omega)]
theorem okG_T {G : Nat → Nat → Int} : okG (fun a c => G c a) ↔ okG G := by
  unfold okG
  exact Iff.intro (fun h a ha => by rw [← itG_T]; exact h a ha) (fun h a ha => by rw [itG_T]; exact h a ha)
end ORD
section ORD2
variable {N S M M2 : Mm} {Ps : Nat → Mm} {l : List (Bool × Sem)} {r b : Nat}
theorem c64 {x1 x2 : Int} (h : IV N S Ps l M) : Wp (f64 x1 x2 M) (fun r => JJ r.1 (f151 x1 x2 r.2)) := by
  obtain ⟨r, b, hr⟩ := h.2.2.2.2.2.1
  have hr3 := hr.2.2.1
  unfold f64
  refine wp_bind (w203 hr.1 ?_)
  by_cases h1 : 0 ≤ x1 ∧ x1 < r
  · rw [if_pos h1]
    refine wp_neg (by decide) (wp_bind (w203 hr.1 ?_))
    by_cases h2 : 0 ≤ x2 ∧ x2 < r
    · rw [if_pos h2]
      refine wp_neg (by decide) ?_
      obtain ⟨i, rfl⟩ := Int.eq_ofNat_of_zero_le h1.1
      obtain ⟨j, rfl⟩ := Int.eq_ofNat_of_zero_le h2.1
      have hi := hr.2.2.2.2.2.2.2.1 i (by omega)
      have hj := hr.2.2.2.2.2.2.2.1 j (by omega)
      obtain ⟨u, hu⟩ := Int.eq_ofNat_of_zero_le hi.2.2.1.1
      obtain ⟨v, hv⟩ := Int.eq_ofNat_of_zero_le hj.2.2.1.1
      generalize hG : gM r b M = G
      have Gb : ∀ a c, a < 5 → c < 5 → -10000 ≤ G a c ∧ G a c ≤ 1000000 := by rw [← hG]; exact gM_b hr
      -- what the answer is
      let ans : Int := if itG G 5 u v < M 194 j - M 194 i then 0 else if M 194 j - M 194 i < - itG G 5 v u then 1 else if itG G 5 u v = M 194 j - M 194 i then (if - itG G 5 v u = M 194 j - M 194 i then 2 else 3) else 3
      have model : ∀ (w : Int) (M1 : Mm), fpP M M1 → (okG G → w = ans) → (¬ okG G → w = 4) → JJ w (f151 i j M1) := fun w M1 f1 k1 k2 => by
        have g := h.fp f1
        have hr1 : iClk r b M1 := hr.to (fun b hb => f1.1 b (by unfold perB; omega)) (f1.2.1 8 (by omega)) (f1.2.1 9 (by omega))
        unfold f151
        refine wp_bind (w129 hr1.2.1 (by omega) ?_)
        rw [if_pos h1]
        refine wp_neg (by decide) (wp_bind (w129 hr1.2.1 (by omega) ?_))
        rw [if_pos h2]
        refine wp_neg (by decide) (wp_obnd (w109a hr1 (fun M2 b1 b2 => wpW (w109b (G := fun a c => G c a) (M := M2) ⟨fun a c ha hc => ?_, Or.inl (fun a c ha hc => ?_)⟩) (fun r2 hr2 => ?_))))
        · rw [b2 a c ha hc, gM_fp f1, hG]
          have := Gb c a hc ha
          exact ⟨by show (-10000 : Int) ≤ _; exact this.1, this.2⟩
        · rw [b2 a c ha hc, gM_fp f1, hG]
          rfl
        · obtain ⟨w2, M3⟩ := r2
          obtain ⟨o1, o2, o3⟩ := hr2
          dsimp only at o1 o2 o3 ⊢
          have f3 : fpP M M3 := f1.trans (fpP.of (fun c hc => by
            have : c ≠ 197 := by unfold perB at hc; omega
            rw [o1 c this, b1 c this]))
          have g3 := (h.fp f3).G
          obtain ⟨p1, p2⟩ := o2
          rcases o3 with ⟨v1, v2⟩ | ⟨v1, a, ha, v2⟩
          · have hE : ∀ a c, a < 5 → c < 5 → fA M3 a c = itG G 5 c a := by
              rcases p2 with p2 | ⟨⟨a, ha, p2⟩, _⟩
              · intro a c ha hc
                rw [p2 a c ha hc, itG_T]
              · have := v2 a ha
                omega
            have hok : okG G := fun a ha => by rw [← hE a a ha ha]; exact v2 a ha
            have kk := k1 hok
            have c1 := p1 u v (by omega) (by omega)
            have c2 := p1 v u (by omega) (by omega)
            have e5 : ((10000 * 6 ^ 5 : Nat) : Int) = 77760000 := by decide
            rw [e5] at c1 c2
            rw [hE u v (by omega) (by omega)] at c1
            rw [hE v u (by omega) (by omega)] at c2
            refine wp_neg (by omega) ?_
            rw [Int.toNat_natCast, Int.toNat_natCast]
            have x1 : M3 193 i = u := by rw [f3.1 193 (by unfold perB; omega)]; exact hu
            have x2 : M3 193 j = v := by rw [f3.1 193 (by unfold perB; omega)]; exact hv
            have y1 : M3 194 i = M 194 i := by rw [f3.1 194 (by unfold perB; omega)]
            have y2 : M3 194 j = M 194 j := by rw [f3.1 194 (by unfold perB; omega)]
            have e1 : M3 197 (5 * M3 193 i + M3 193 j).toNat = itG G 5 v u := by
              rw [x1, x2, show (5 * (u : Int) + (v : Int)).toNat = 5 * u + v by omega]
              exact hE u v (by omega) (by omega)
            have e2 : M3 197 (5 * M3 193 j + M3 193 i).toNat = itG G 5 u v := by
              rw [x1, x2, show (5 * (v : Int) + (u : Int)).toNat = 5 * v + u by omega]
              exact hE v u (by omega) (by omega)
            refine wp_gd (by omega) (wp_gd (by omega) (wp_gd (by omega) (wp_gd (by omega) (wp_gd (by omega) (wp_gd (by omega) (wp_gd (by omega) (wp_gd (by omega) (wp_gd (by omega) (wp_gd (by omega) (wp_gd (by omega) ?_))))))))))
            have ea : ans = if itG G 5 u v < M 194 j - M 194 i then 0 else if M 194 j - M 194 i < - itG G 5 v u then 1 else if itG G 5 u v = M 194 j - M 194 i then (if - itG G 5 v u = M 194 j - M 194 i then 2 else 3) else 3 := rfl
            rw [kk]
            refine wp_ite (fun d1 => wp_some ⟨?_, g3⟩) (fun d1 => wp_ite (fun d2 => wp_some ⟨?_, g3⟩) (fun d2 => wp_ite (fun d3 => wp_ite (fun d4 => wp_some ⟨?_, g3⟩) (fun d4 => wp_some ⟨?_, g3⟩)) (fun d3 => wp_some ⟨?_, g3⟩)))
            · rw [ea, if_pos (show itG G 5 u v < M 194 j - M 194 i by omega)]
            · rw [ea, if_neg (show ¬ itG G 5 u v < M 194 j - M 194 i by omega), if_pos (show M 194 j - M 194 i < - itG G 5 v u by omega)]
            · rw [ea, if_neg (show ¬ itG G 5 u v < M 194 j - M 194 i by omega), if_neg (show ¬ M 194 j - M 194 i < - itG G 5 v u by omega), if_pos (show itG G 5 u v = M 194 j - M 194 i by omega), if_pos (show - itG G 5 v u = M 194 j - M 194 i by omega)]
            · rw [ea, if_neg (show ¬ itG G 5 u v < M 194 j - M 194 i by omega), if_neg (show ¬ M 194 j - M 194 i < - itG G 5 v u by omega), if_neg (show ¬ itG G 5 u v = M 194 j - M 194 i by omega)]
            · rw [ea, if_neg (show ¬ itG G 5 u v < M 194 j - M 194 i by omega), if_neg (show ¬ M 194 j - M 194 i < - itG G 5 v u by omega), if_neg (show ¬ - itG G 5 v u = M 194 j - M 194 i by omega), ite_self]
          · have hnok : ¬ okG G := by
              rcases p2 with p2 | ⟨_, p3⟩
              · intro z
                have := z a ha
                have := p2 a a ha ha
                rw [itG_T] at this
                omega
              · exact fun z => p3 (okG_T.mpr z)
            refine wp_pos v1 (wp_some ⟨(k2 hnok).symm, g3⟩)
      refine wp_obnd ?_
      unfold f202
      refine wp_bind (w200 hr (fun M1 a1 a2 => wp_bind (w201 (G := G) ⟨fun a c ha hc => ?_, Or.inl (fun a c ha hc => ?_)⟩ (fun M2 b1 b2 => ?_))))
      · dsimp only
        rw [a2 a c ha hc, hG]
        have := Gb a c ha hc
        exact ⟨by show (-10000 : Int) ≤ _; exact this.1, this.2⟩
      · dsimp only
        rw [a2 a c ha hc, hG]
        rfl
      · have f2 : fpP M M2 := fpP.of (fun c hc => by
          have : c < 120 ∨ 124 < c := by unfold perB at hc; omega
          rw [b1 c this, a1 c this])
        obtain ⟨p1, p2⟩ := b2
        have r1 : ∀ c, (c < 120 ∨ 124 < c) → M2 c = M c := fun c hc => (b1 c hc).trans (a1 c hc)
        unfold f202_10
        refine wp_lp1 (fun m y => ∃ x : Nat, y = x ∧ x ≤ 5 ∧ m = 5 - x ∧ ∀ a, a < x → 0 ≤ M2 (120 + a) a) 5 (by decide) ⟨0, rfl, by omega, rfl, fun a ha => absurd ha (Nat.not_lt_zero _)⟩ ?_
        rintro m y ⟨x, rfl, q1, q2, q3⟩
        try dsimp only
        unfold lb202_10
        rw [Int.toNat_natCast]
        refine wp_ite (fun c => wp_gd (by omega) (wp_ite (fun d => wp_o (wp_some (wp_some (model 4 M2 f2 (fun z => ?_) (fun _ => rfl))))) (fun d => wp_gd (by omega) (wp_i1 (m - 1) (by omega) ⟨x + 1, by omega, by omega, by omega, fun a ha => ?_⟩)))) (fun c => wp_o ?_)
        · exfalso
          rcases p2 with p2 | ⟨_, p3⟩
          · have z1 := z x (by omega)
            have z2 := p2 x x (by omega) (by omega)
            dsimp only at z2
            omega
          · exact p3 z
        · by_cases e : a = x
          · rw [e]; omega
          · exact q3 a (by omega)
        · have hE : ∀ a c, a < 5 → c < 5 → M2 (120 + a) c = itG G 5 a c := by
            rcases p2 with p2 | ⟨⟨a, ha, p2⟩, _⟩
            · exact p2
            · have := q3 a (by omega)
              dsimp only at p2
              omega
          have hok : okG G := fun a ha => by rw [← hE a a ha ha]; exact q3 a (by omega)
          have c1 := p1 u v (by omega) (by omega)
          have c2 := p1 v u (by omega) (by omega)
          have e5 : ((10000 * 6 ^ 5 : Nat) : Int) = 77760000 := by decide
          dsimp only at c1 c2
          rw [e5, hE u v (by omega) (by omega)] at c1
          rw [e5, hE v u (by omega) (by omega)] at c2
          rw [Int.toNat_natCast, Int.toNat_natCast, r1 115 (by omega), r1 116 (by omega), hi.1, hi.2.1, hj.1, hj.2.1, hu, hv, Int.toNat_natCast, Int.toNat_natCast, hE u v (by omega) (by omega), hE v u (by omega) (by omega)]
          have fin : ∀ w : Int, w = ans → Wp (some (w, M2)) (fun r => Wp (some (r.1, r.2)) (fun r => JJ r.1 (f151 i j r.2))) := fun w hw => wp_some (wp_some (model w M2 f2 (fun _ => hw) (fun z => absurd hok z)))
          have ea : ans = if itG G 5 u v < M 194 j - M 194 i then 0 else if M 194 j - M 194 i < - itG G 5 v u then 1 else if itG G 5 u v = M 194 j - M 194 i then (if - itG G 5 v u = M 194 j - M 194 i then 2 else 3) else 3 := rfl
          refine wp_gd (by omega) (wp_gd (by omega) (wp_gd (by omega) (wp_gd (by omega) (wp_gd (by omega) (wp_gd (by omega) (wp_ite (fun d1 => fin 0 ?_) (fun d1 => wp_ite (fun d2 => fin 1 ?_) (fun d2 => wp_ite (fun d3 => wp_ite (fun d4 => fin 2 ?_) (fun d4 => fin 3 ?_)) (fun d3 => fin 3 ?_)))))))))
          · rw [ea, if_pos d1]
          · rw [ea, if_neg d1, if_pos d2]
          · rw [ea, if_neg d1, if_neg d2, if_pos d3, if_pos d4]
          · rw [ea, if_neg d1, if_neg d2, if_pos d3, if_neg d4]
          · rw [ea, if_neg d1, if_neg d2, if_neg d3]
    · rw [if_neg h2]
      refine wp_pos rfl (wp_some ?_)
      show JJ (-1) (f151 x1 x2 M)
      unfold f151
      refine wp_bind (w129 hr.2.1 (by omega) ?_)
      rw [if_pos h1]
      refine wp_neg (by decide) (wp_bind (w129 hr.2.1 (by omega) ?_))
      rw [if_neg h2]
      exact wp_pos rfl (wp_some ⟨rfl, h.G⟩)
  · rw [if_neg h1]
    refine wp_pos rfl (wp_some ?_)
    show JJ (-1) (f151 x1 x2 M)
    unfold f151
    refine wp_bind (w129 hr.2.1 (by omega) ?_)
    rw [if_neg h1]
    exact wp_pos rfl (wp_some ⟨rfl, h.G⟩)
end ORD2
