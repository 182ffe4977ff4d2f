def kp (n c : Nat) : Nat := if c < n then c else 14
theorem sml_div {A : Nat → Nat → Int} {n p : Nat} (h : smlN A n) (hp : p < n) {i : Nat} (hi : i < n) (hip : i ≠ p) (r : Nat) : Int.tdiv (gjI A p p p * gjI A p i r - gjI A p i p * gjI A p p r) (det p A) = gjI A (p + 1) i r := by
  have hm := mm_all (by have := h.1; omega) h.2.1 (p := p) (by omega)
  have hD : ∀ q, q ≤ p → det q A ≠ 0 := fun q hq => by have := hm.1 q hq; omega
  rw [← gjI_step (by have := h.1; omega) hD (by have := h.1; omega) hip]
  exact Int.mul_tdiv_cancel_left _ (hD p (Nat.le_refl p))
theorem sml_row {A : Nat → Nat → Int} {n p : Nat} (h : smlN A n) (hp : p < n) (r : Nat) : gjI A (p + 1) p r = gjI A p p r := by
  have hm := mm_all (by have := h.1; omega) h.2.1 (p := p) (by omega)
  exact gjI_row (by have := h.1; omega) (fun q hq => by have := hm.1 q hq; omega) r
/-- elimination without fractions, of the first object -/
theorem w234 {r n : Nat} {A : Nat → Nat → Int} {M : Mm} {P : Int × Mm → Prop} (h : smlN A n) (hb : bdB (fun i => A i 14) n 16000) (hM : ∀ a c, a < n → c ≤ n → M (r + 10 + a) c = A a (kp n c))
    (k : ∀ M2 : Mm, (∀ b, (b < r + 10 ∨ r + 10 + n ≤ b) → M2 b = M b) → (∀ a, a < n → M2 (r + 10 + a) n = gjI A n a 14) → P (det n A, M2)) : Wp (f234 r n M) P := by
  have h7 := h.1
  unfold f234 f234_5
  let I : Nat → Int → Int → Mm → Prop := fun m before p M2 => 0 ≤ p ∧ p ≤ n ∧ (m : Int) = n - p ∧ before = det p.toNat A ∧ (∀ b, (b < r + 10 ∨ r + 10 + n ≤ b) → M2 b = M b) ∧ ∀ a c : Nat, a < n → p ≤ c → c ≤ n → M2 (r + 10 + a) c = gjI A p.toNat a (kp n c)
  refine wp_lp3 I n (by omega) ⟨by omega, by omega, by omega, rfl, fun _ _ => rfl, fun a c ha _ hc => by rw [hM a c ha hc]; exact (gjI_zero (by omega)).symm⟩ ?_
  rintro m before p M2 ⟨a1, a2, a3, a4, a5, a6⟩
  dsimp only
  unfold lb234_5
  refine wp_ite (fun c => ?_) (fun c => wp_o (wp_some ?_))
  · obtain ⟨q, rfl⟩ := Int.eq_ofNat_of_zero_le a1
    rw [Int.toNat_natCast] at a4 a6
    have hq : q < n := by omega
    have t := (sml_tab h (p := q) (by omega)).1
    have t2 := (sml_tab h (p := q + 1) (by omega)).1
    have hpiv : gjI A q q q = det (q + 1) A := gjI_piv (by omega)
    have ep : M2 (r + 10 + q) q = gjI A q q q := by
      rw [a6 q q hq (by omega) (by omega)]
      unfold kp
      rw [if_pos hq]
    rw [Int.toNat_natCast, ep]
    refine wp_gd (by omega) (wp_neg (by omega) (wp_neg (by omega) ?_))
    subst a4
    unfold f234_41
    let I2 : Nat → Int → Mm → Prop := fun m y M3 => 0 ≤ y ∧ y ≤ n ∧ (m : Int) = n - y ∧ (∀ b, (b < r + 10 ∨ r + 10 + n ≤ b) → M3 b = M b) ∧ (∀ a c : Nat, a < n → q + 1 ≤ c → c ≤ n → M3 (r + 10 + a) c = if (a : Int) < y then gjI A (q + 1) a (kp n c) else gjI A q a (kp n c)) ∧ ∀ a : Nat, a < n → y ≤ a → M3 (r + 10 + a) q = gjI A q a q
    refine wp_lp2 I2 n (by omega) ⟨by omega, by omega, by omega, a5, fun a c ha hc1 hc => by rw [if_neg (by omega)]; exact a6 a c ha (by omega) hc, fun a ha _ => ?_⟩ ?_
    · rw [a6 a q ha (by omega) (by omega)]
      unfold kp
      rw [if_pos hq]
    rintro m1 y M3 ⟨b1, b2, b3, b4, b5, b6⟩
    dsimp only
    unfold lb234_41
    refine wp_ite (fun d => ?_) (fun d => wp_o ?_)
    · obtain ⟨u, rfl⟩ := Int.eq_ofNat_of_zero_le b1
      have hu : u < n := by omega
      refine wp_gd (by omega) (wp_gd (by omega) (wp_gd (by omega) ?_))
      rw [Int.toNat_natCast, Int.toNat_natCast, b6 u hu (by omega)]
      unfold f234_65
      let I3 : Nat → Int → Mm → Prop := fun m j M4 => (q : Int) + 1 ≤ j ∧ j ≤ n + 1 ∧ (m : Int) = n + 1 - j ∧ (u = q → j = q + 1) ∧ (∀ b, (b < r + 10 ∨ r + 10 + n ≤ b) → M4 b = M b) ∧ (∀ a c : Nat, a < n → q + 1 ≤ c → c ≤ n → M4 (r + 10 + a) c = if (a : Int) < u ∨ (a = u ∧ (c : Int) < j) then gjI A (q + 1) a (kp n c) else gjI A q a (kp n c)) ∧ ∀ a : Nat, a < n → (u : Int) + 1 ≤ a → M4 (r + 10 + a) q = gjI A q a q
      refine wp_lp2 I3 (n - q) (by omega) ⟨by omega, by omega, by omega, fun _ => rfl, b4, fun a c ha hc1 hc => ?_, fun a ha hu2 => b6 a ha (by omega)⟩ ?_
      · rw [b5 a c ha hc1 hc]
        by_cases e : (a : Int) < u
        · rw [if_pos e, if_pos (Or.inl e)]
        · rw [if_neg e, if_neg (by omega)]
      rintro m2 j M4 ⟨d1, d2, d3, d4, d5, d6, d7⟩
      dsimp only
      unfold lb234_65
      have fin : (j = n + 1 ∨ u = q) → Wp (f234_123 r n (det q A) q (gjI A q q q) u M4) (Sum.elim (up2 I2 m1) (Sum.elim (up3 I m) P)) := fun hj => by
        unfold f234_123
        refine wp_gd (by omega) (wp_i2 (m1 - 1) (by omega) ⟨by omega, by omega, by omega, d5, fun a c ha hc1 hc => ?_, fun a ha hu2 => d7 a ha (by omega)⟩)
        rw [d6 a c ha hc1 hc]
        by_cases e : a = u
        · subst e
          rw [if_pos (c := (a : Int) < a + 1) (by omega)]
          rcases hj with hj | hj
          · rw [if_pos (Or.inr ⟨rfl, by omega⟩)]
          · rw [hj, sml_row h hq]
            split <;> rfl
        · by_cases e2 : (a : Int) < u
          · rw [if_pos (Or.inl e2), if_pos (by omega)]
          · rw [if_neg (by omega), if_neg (by omega)]
      refine wp_ite (fun e => wp_o (fin (Or.inl (by omega)))) (fun e => wp_ite (fun e2 => wp_o (fin (Or.inr (by omega)))) (fun e2 => ?_))
      obtain ⟨v, rfl⟩ := Int.eq_ofNat_of_zero_le (by omega : 0 ≤ j)
      have huq : u ≠ q := by omega
      have hru : M4 (r + 10 + u) v = gjI A q u (kp n v) := by rw [d6 u v hu (by omega) (by omega), if_neg (by omega)]
      have hrq : M4 (r + 10 + q) v = gjI A q q (kp n v) := by
        rw [d6 q v hq (by omega) (by omega)]
        split
        · exact sml_row h hq _
        · rfl
      have hkp : (q ≤ kp n v ∧ kp n v < n) ∨ bdB (fun i => A i (kp n v)) n 16000 := by
        unfold kp
        by_cases e3 : v < n
        · rw [if_pos e3]
          exact Or.inl ⟨by omega, e3⟩
        · rw [if_neg e3]
          exact Or.inr hb
      have hst := sml_step h hq hu huq hkp
      have hdv := sml_div h hq hu huq (kp n v)
      rw [Int.toNat_natCast, Int.toNat_natCast, Int.toNat_natCast, hru, hrq, hdv]
      refine wp_gd (by omega) (wp_gd (by omega) (wp_gd hst.1 (wp_gd (by omega) (wp_gd hst.2.1 (wp_gd hst.2.2.1 (wp_gd (by omega) (wp_gd hst.2.2.2 (wp_mlet (wp_gd (by omega) (wp_i2 (m2 - 1) (by omega) ⟨by omega, by omega, by omega, fun z => (huq z).elim, fun b hb2 => ?_, fun a c ha hc1 hc => ?_, fun a ha hu2 => ?_⟩))))))))))
      · rw [ms_a (by omega)]
        exact d5 b hb2
      · by_cases e3 : a = u
        · subst e3
          by_cases e4 : c = v
          · subst e4
            rw [ms_v, if_pos (Or.inr ⟨rfl, by omega⟩)]
          · rw [ms_i e4, d6 a c ha hc1 hc]
            by_cases e5 : (c : Int) < v
            · rw [if_pos (Or.inr ⟨rfl, e5⟩), if_pos (Or.inr ⟨rfl, by omega⟩)]
            · rw [if_neg (by omega), if_neg (by omega)]
        · rw [ms_a (by omega), d6 a c ha hc1 hc]
          by_cases e5 : (a : Int) < u
          · rw [if_pos (Or.inl e5), if_pos (Or.inl e5)]
          · rw [if_neg (by omega), if_neg (by omega)]
      · rw [ms_a (by omega)]
        exact d7 a ha hu2
    · rw [hpiv]
      refine wp_gd (by omega) (wp_i3 (m - 1) (by omega) ⟨by omega, by omega, by omega, by rw [show ((q : Int) + 1).toNat = q + 1 by omega], b4, fun a c ha hc1 hc => ?_⟩)
      rw [show ((q : Int) + 1).toNat = q + 1 by omega, b5 a c ha (by omega) hc, if_pos (by omega)]
  · have ep : p.toNat = n := by omega
    rw [a4, ep]
    rw [ep] at a6
    refine k M2 a5 (fun a ha => ?_)
    rw [a6 a n ha (by omega) (Nat.le_refl n)]
    unfold kp
    rw [if_neg (by omega)]

theorem sml_step2 {A : Nat → Nat → Int} {n p : Nat} (h : smlN A n) (hp : p < n) {i r : Nat} (hi : i < n) (hip : i ≠ p) (hr : r < n ∨ bdB (fun i => A i r) n 16000) :
    R8 (gjI A p p p * gjI A p i r) ∧ R8 (gjI A p i p * gjI A p p r) ∧ R8 (gjI A p p p * gjI A p i r - gjI A p i p * gjI A p p r) ∧ R8 (gjI A (p + 1) i r) := by
  rcases hr with hr | hr
  · by_cases e : p ≤ r
    · exact sml_step h hp hi hip (Or.inl ⟨e, hr⟩)
    · have h1 := h.1
      have t := (sml_tab h (p := p) (by omega)).1
      have t2 := (sml_tab h (p := p + 1) (by omega)).1
      have hpiv : gjI A p p p = det (p + 1) A := gjI_piv (by omega)
      have e1 : gjI A p p r = 0 := gjI_lo (by omega) (by omega)
      have e2 : 0 ≤ gjI A p i r ∧ gjI A p i r ≤ 35831808 := by
        unfold gjI
        rw [if_pos (by omega)]
        split <;> omega
      have e3 : 0 ≤ gjI A (p + 1) i r ∧ gjI A (p + 1) i r ≤ 35831808 := by
        unfold gjI
        rw [if_pos (by omega)]
        split <;> omega
      have m1 := mul_bd (x := gjI A p p p) (y := gjI A p i r) (X := 35831808) (Y := 35831808) (by rw [hpiv]; omega) (by omega)
      rw [e1, Int.mul_zero]
      exact ⟨⟨by omega, by omega⟩, by decide, ⟨by omega, by omega⟩, ⟨by omega, by omega⟩⟩
  · exact sml_step h hp hi hip (Or.inr hr)
def kq (n c : Nat) : Nat := if c < 7 then (if c < n then c else 15) else c + 13
theorem kq_lt {n c : Nat} (h : n ≤ 7) (hc : c < n) : kq n c = c := by
  unfold kq
  rw [if_pos (by omega), if_pos hc]
/-- elimination without fractions, of the second object -/
theorem w182 {n : Nat} {A : Nat → Nat → Int} {M : Mm} {P : Int × Mm → Prop} (h : smlN A n) (hb : ∀ c, n ≤ c → c < 14 → bdB (fun i => A i (kq n c)) n 16000) (hM : ∀ a c, a < n → c < 14 → M 164 (14 * a + c) = A a (kq n c))
    (k : ∀ M2 : Mm, (∀ b, b ≠ 164 → M2 b = M b) → (∀ a c, a < n → c < 14 → M2 164 (14 * a + c) = gjI A n a (kq n c)) → P (det n A, M2)) : Wp (f182 n M) P := by
  have h7 := h.1
  unfold f182 f182_5
  let I : Nat → Int → Int → Mm → Prop := fun m before p M2 => 0 ≤ p ∧ p ≤ n ∧ (m : Int) = n - p ∧ before = det p.toNat A ∧ (∀ b, b ≠ 164 → M2 b = M b) ∧ ∀ a c : Nat, a < n → c < 14 → M2 164 (14 * a + c) = gjI A p.toNat a (kq n c)
  refine wp_lp3 I n (by omega) ⟨by omega, by omega, by omega, rfl, fun _ _ => rfl, fun a c ha hc => by rw [hM a c ha hc]; exact (gjI_zero (by omega)).symm⟩ ?_
  rintro m before p M2 ⟨a1, a2, a3, a4, a5, a6⟩
  dsimp only
  unfold lb182_5
  refine wp_ite (fun c => ?_) (fun c => wp_o (wp_some ?_))
  · obtain ⟨q, rfl⟩ := Int.eq_ofNat_of_zero_le a1
    rw [Int.toNat_natCast] at a4 a6
    have hq : q < n := by omega
    have t := (sml_tab h (p := q) (by omega)).1
    have t2 := (sml_tab h (p := q + 1) (by omega)).1
    have hpiv : gjI A q q q = det (q + 1) A := gjI_piv (by omega)
    have ep : M2 164 (15 * (q : Int)).toNat = gjI A q q q := by
      rw [show (15 * (q : Int)).toNat = 14 * q + q by omega, a6 q q hq (by omega), kq_lt h7 hq]
    rw [ep]
    refine wp_gd (by omega) (wp_gd (by omega) ?_)
    subst a4
    unfold f182_26
    let I2 : Nat → Int → Mm → Prop := fun m y M3 => 0 ≤ y ∧ y ≤ n ∧ (m : Int) = n - y ∧ (∀ b, b ≠ 164 → M3 b = M b) ∧ (∀ a c : Nat, a < n → c < 14 → M3 164 (14 * a + c) = if (a : Int) < y then gjI A (q + 1) a (kq n c) else gjI A q a (kq n c))
    refine wp_lp2 I2 n (by omega) ⟨by omega, by omega, by omega, a5, fun a c ha hc => by rw [if_neg (by omega)]; exact a6 a c ha hc⟩ ?_
    rintro m1 y M3 ⟨b1, b2, b3, b4, b5⟩
    dsimp only
    unfold lb182_26
    refine wp_ite (fun d => ?_) (fun d => wp_o ?_)
    · obtain ⟨u, rfl⟩ := Int.eq_ofNat_of_zero_le b1
      have hu : u < n := by omega
      have fin : ∀ M4 : Mm, (∀ b, b ≠ 164 → M4 b = M b) → (∀ a c : Nat, a < n → c < 14 → M4 164 (14 * a + c) = if (a : Int) < (u : Int) + 1 then gjI A (q + 1) a (kq n c) else gjI A q a (kq n c)) → Wp (f182_121 n (det q A) q (gjI A q q q) u M4) (Sum.elim (up2 I2 m1) (Sum.elim (up3 I m) P)) := fun M4 g1 g2 => by
        unfold f182_121
        exact wp_gd (by omega) (wp_i2 (m1 - 1) (by omega) ⟨by omega, by omega, by omega, g1, g2⟩)
      refine wp_ite (fun e => fin M3 b4 (fun a c ha hc => ?_)) (fun e => ?_)
      · rw [b5 a c ha hc]
        by_cases e2 : a = u
        · rw [if_neg (by omega), if_pos (by omega), e2, show u = q by omega, sml_row h hq]
        · by_cases e3 : (a : Int) < u
          · rw [if_pos e3, if_pos (by omega)]
          · rw [if_neg e3, if_neg (by omega)]
      have huq : u ≠ q := by omega
      have hfac : M3 164 (14 * (u : Int) + q).toNat = gjI A q u q := by
        rw [show (14 * (u : Int) + q).toNat = 14 * u + q by omega, b5 u q hu (by omega), if_neg (by omega), kq_lt h7 hq]
      rw [hfac]
      refine wp_gd (by omega) (wp_gd (by omega) (wp_gd (by omega) ?_))
      unfold f182_60
      let I3 : Nat → Int → Mm → Prop := fun m j M4 => 0 ≤ j ∧ j ≤ 14 ∧ (m : Int) = 14 - j ∧ (∀ b, b ≠ 164 → M4 b = M b) ∧ (∀ a c : Nat, a < n → c < 14 → M4 164 (14 * a + c) = if (a : Int) < u ∨ (a = u ∧ (c : Int) < j) then gjI A (q + 1) a (kq n c) else gjI A q a (kq n c))
      refine wp_lp2 I3 14 (by omega) ⟨by omega, by omega, by omega, b4, fun a c ha hc => ?_⟩ ?_
      · rw [b5 a c ha hc]
        by_cases e : (a : Int) < u
        · rw [if_pos e, if_pos (Or.inl e)]
        · rw [if_neg e, if_neg (by omega)]
      rintro m2 j M4 ⟨d1, d2, d3, d4, d5⟩
      dsimp only
      unfold lb182_60
      refine wp_ite (fun e2 => ?_) (fun e2 => wp_o (fin M4 d4 (fun a c ha hc => ?_)))
      · obtain ⟨v, rfl⟩ := Int.eq_ofNat_of_zero_le d1
        have hru : M4 164 (14 * (u : Int) + v).toNat = gjI A q u (kq n v) := by
          rw [show (14 * (u : Int) + v).toNat = 14 * u + v by omega, d5 u v hu (by omega), if_neg (by omega)]
        have hrq : M4 164 (14 * (q : Int) + v).toNat = gjI A q q (kq n v) := by
          rw [show (14 * (q : Int) + v).toNat = 14 * q + v by omega, d5 q v hq (by omega)]
          split
          · exact sml_row h hq _
          · rfl
        have hkp : kq n v < n ∨ bdB (fun i => A i (kq n v)) n 16000 := by
          by_cases e3 : v < n
          · rw [kq_lt h7 e3]
            exact Or.inl e3
          · exact Or.inr (hb v (by omega) (by omega))
        have hst := sml_step2 h hq hu huq hkp
        have hdv := sml_div h hq hu huq (kq n v)
        rw [hru, hrq, hdv, show (14 * (u : Int) + v).toNat = 14 * u + v by omega]
        refine wp_gd (by omega) (wp_gd (by omega) (wp_gd (by omega) (wp_gd hst.1 (wp_gd (by omega) (wp_gd (by omega) (wp_gd (by omega) (wp_gd hst.2.1 (wp_gd hst.2.2.1 (wp_gd (by omega) (wp_gd hst.2.2.2 (wp_mlet (wp_gd (by omega) (wp_i2 (m2 - 1) (by omega) ⟨by omega, by omega, by omega, fun b hb2 => ?_, fun a c ha hc => ?_⟩)))))))))))))
        · rw [ms_a hb2]
          exact d4 b hb2
        · by_cases e3 : a = u ∧ c = v
          · rw [e3.1, e3.2, ms_v, if_pos (Or.inr ⟨rfl, by omega⟩)]
          · rw [ms_i (by omega), d5 a c ha hc]
            by_cases e5 : (a : Int) < u ∨ (a = u ∧ (c : Int) < v)
            · rw [if_pos e5, if_pos (by omega)]
            · rw [if_neg e5, if_neg (by omega)]
      · rw [d5 a c ha hc]
        by_cases e5 : (a : Int) < (u : Int) + 1
        · rw [if_pos (by omega), if_pos e5]
        · rw [if_neg (by omega), if_neg e5]
    · rw [hpiv]
      refine wp_gd (by omega) (wp_i3 (m - 1) (by omega) ⟨by omega, by omega, by omega, by rw [show ((q : Int) + 1).toNat = q + 1 by omega], b4, fun a c ha hc => ?_⟩)
      rw [show ((q : Int) + 1).toNat = q + 1 by omega, b5 a c ha hc, if_pos (by omega)]
  · have ep : p.toNat = n := by omega
    rw [a4, ep]
    rw [ep] at a6
    exact k M2 a5 a6
