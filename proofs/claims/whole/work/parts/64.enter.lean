theorem w3 {a n : Nat} {v : Int} {M : Mm} {P : Mm → Prop} (hn : n < 1000) (k : ∀ M2 : Mm, (∀ b, b ≠ a → M2 b = M b) → (∀ j, M2 a j = if j < n then v else M a j) → P M2) : Wp (f3 a n v M) P := by
  unfold f3
  refine wp_gd ⟨by omega, by omega⟩ ?_
  unfold f3_6
  refine wp_lp2 (fun m x M2 => 0 ≤ x ∧ x ≤ n ∧ (m : Int) = n - x ∧ (∀ b, b ≠ a → M2 b = M b) ∧ ∀ j : Nat, M2 a j = if (j : Int) < x then v else M a j) n (by omega) ⟨by omega, by omega, by omega, fun _ _ => rfl, fun j => by rw [if_neg (by omega)]⟩ ?_
  rintro m x M2 ⟨a1, a2, a3, a4, a5⟩
  dsimp only
  unfold lb3_6
  refine wp_ite (fun c => ?_) (fun c => wp_o (wp_some (k M2 a4 (fun j => ?_))))
  · refine wp_gd (by omega) (wp_mlet (wp_gd ⟨by omega, by omega⟩ (wp_i2 (m - 1) (by omega) ⟨by omega, by omega, by omega, fun b hb => ?_, fun j => ?_⟩)))
    · rw [ms_a hb]
      exact a4 b hb
    · by_cases e : j = x.toNat
      · rw [e, ms_v, if_pos (by omega)]
      · rw [ms_i e, a5 j]
        by_cases e2 : (j : Int) < x
        · rw [if_pos e2, if_pos (by omega)]
        · rw [if_neg e2, if_neg (by omega)]
  · rw [a5 j]
    by_cases e2 : j < n
    · rw [if_pos e2, if_pos (by omega)]
    · rw [if_neg e2, if_neg (by omega)]
theorem ad_v {M : Mm} {b j b2 j2 : Nat} {e : Int} : ms M b j (M b j + e) b2 j2 = M b2 j2 + if b2 = b ∧ j2 = j then e else 0 := by
  unfold ms
  by_cases h : b2 = b ∧ j2 = j
  · rw [if_pos h, if_pos h, h.1, h.2]
  · rw [if_neg h, if_neg h, Int.add_zero]
theorem sb_v {M : Mm} {b j b2 j2 : Nat} {e : Int} : ms M b j (M b j - e) b2 j2 = M b2 j2 - if b2 = b ∧ j2 = j then e else 0 := by
  unfold ms
  by_cases h : b2 = b ∧ j2 = j
  · rw [if_pos h, if_pos h, h.1, h.2]
  · rw [if_neg h, if_neg h, Int.sub_zero]
theorem dl_mul {r p q a c : Nat} {e : Int} : (if r + 10 + a = r + 10 + p ∧ c = q then e else 0) = e * (dl p a * dl q c) := by
  unfold dl
  by_cases h1 : a = p
  · by_cases h2 : c = q
    · rw [if_pos ⟨by omega, h2⟩, if_pos h1.symm, if_pos h2.symm]
      omega
    · rw [if_neg (fun z => h2 z.2), if_neg (c := q = c) (fun z => h2 z.symm), Int.mul_zero, Int.mul_zero]
  · rw [if_neg (fun z => h1 (by omega)), if_neg (c := p = a) (fun z => h1 z.symm), Int.zero_mul, Int.mul_zero]
section JO
variable {r : Nat} {M : Mm}
/-- one way into the rows -/
theorem w237 {n i A B pA pB : Nat} {e : Int} {P : Mm → Prop} (h7 : n ≤ 7) (he : 1 ≤ e ∧ e ≤ 3) (hA : A < 8) (hB : B < 8) (hne : A ≠ B) (hpA : A ≠ i → M (r + 7) A = pA ∧ pA < n) (hpB : B ≠ i → M (r + 7) B = pB ∧ pB < n) (hA0 : A = i → pA = 50) (hB0 : B = i → pB = 50)
    (hX : ∀ a c, a < n → c < n → -84 ≤ M (r + 10 + a) c ∧ M (r + 10 + a) c ≤ 84)
    (k : ∀ M2 : Mm, (∀ b, (b < r + 10 ∨ r + 10 + n ≤ b) → M2 b = M b) → (∀ a c, a < n → c ≤ n → M2 (r + 10 + a) c = M (r + 10 + a) c + if c < n then e * ((dl pA a - dl pB a) * (dl pA c - dl pB c)) else 0) → P M2) : Wp (f237 r A B e i M) P := by
  have z50 : ∀ a, a < n → dl 50 a = 0 := fun a ha => if_neg (by omega)
  have zn : ∀ p, p < n → dl p n = 0 := fun p hp => if_neg (by omega)
  by_cases eA : A = i
  · have hB1 := hpB (by omega)
    have h50 := hA0 eA
    unfold f237
    refine wp_pos (by omega) ?_
    unfold f237_29
    rw [Int.toNat_natCast, hB1.1, Int.toNat_natCast]
    have hx := hX pB pB hB1.2 hB1.2
    refine wp_neg (by omega) (wp_gd (by omega) (wp_gd (by omega) (wp_gd ⟨by omega, by omega⟩ (wp_mlet ?_))))
    unfold f237_58
    refine wp_pos (by omega) (wp_some (k _ (fun b hb => ms_a (by omega)) (fun a c ha hc => ?_)))
    rw [ad_v, dl_mul, h50, z50 a ha]
    by_cases ec : c < n
    · rw [if_pos ec, z50 c ec]
      simp only [Int.zero_sub, Int.neg_mul_neg]
    · have : c = n := by omega
      rw [if_neg ec, this, zn pB hB1.2, Int.mul_zero, Int.mul_zero]
  · have hA1 := hpA eA
    have hx := hX pA pA hA1.2 hA1.2
    unfold f237
    refine wp_neg (by omega) ?_
    rw [Int.toNat_natCast, hA1.1, Int.toNat_natCast]
    refine wp_gd (by omega) (wp_gd (by omega) (wp_gd ⟨by omega, by omega⟩ (wp_mlet ?_)))
    unfold f237_29
    by_cases eB : B = i
    · have h50 := hB0 eB
      refine wp_pos (by omega) ?_
      unfold f237_58
      refine wp_neg (by omega) (wp_pos (by omega) (wp_some (k _ (fun b hb => ms_a (by omega)) (fun a c ha hc => ?_))))
      rw [ad_v, dl_mul, h50, z50 a ha]
      by_cases ec : c < n
      · rw [if_pos ec, z50 c ec]
        simp only [Int.sub_zero]
      · have : c = n := by omega
        rw [if_neg ec, this, zn pA hA1.2, Int.mul_zero, Int.mul_zero]
    · have hB1 := hpB eB
      refine wp_neg (by omega) ?_
      rw [Int.toNat_natCast, ms_a (by omega : r + 7 ≠ r + 10 + pA), hB1.1, Int.toNat_natCast]
      have hx2 := hX pB pB hB1.2 hB1.2
      have hx3 := hX pA pB hA1.2 hB1.2
      have hx4 := hX pB pA hB1.2 hA1.2
      have v1 : ∀ b j, ms M (r + 10 + pA) pA (M (r + 10 + pA) pA + e) b j = M b j + if b = r + 10 + pA ∧ j = pA then e else 0 := fun b j => ad_v
      have u1 := v1 (r + 10 + pB) pB
      have w1 : -3 ≤ (if r + 10 + pB = r + 10 + pA ∧ pB = pA then e else 0) ∧ (if r + 10 + pB = r + 10 + pA ∧ pB = pA then e else 0) ≤ 3 := by split <;> omega
      refine wp_gd (by omega) (wp_gd (by omega) (wp_gd ⟨by omega, by omega⟩ (wp_mlet ?_)))
      unfold f237_58
      refine wp_neg (by omega) (wp_neg (by omega) ?_)
      rw [Int.toNat_natCast, Int.toNat_natCast, ms_a (by omega : r + 7 ≠ r + 10 + pB), ms_a (by omega : r + 7 ≠ r + 10 + pA), hA1.1, hB1.1, Int.toNat_natCast, Int.toNat_natCast]
      generalize hM1 : ms M (r + 10 + pA) pA (M (r + 10 + pA) pA + e) = M1 at *
      have v2 : ∀ b j, ms M1 (r + 10 + pB) pB (M1 (r + 10 + pB) pB + e) b j = M1 b j + if b = r + 10 + pB ∧ j = pB then e else 0 := fun b j => ad_v
      generalize hM2 : ms M1 (r + 10 + pB) pB (M1 (r + 10 + pB) pB + e) = M2 at *
      have hb2 : ∀ a c, a < n → c < n → -90 ≤ M2 (r + 10 + a) c ∧ M2 (r + 10 + a) c ≤ 90 := fun a c ha hc => by
        rw [v2, v1]
        have := hX a c ha hc
        split <;> split <;> omega
      have y1 := hb2 pA pB hA1.2 hB1.2
      refine wp_gd (by omega) (wp_gd (by omega) (wp_gd (by omega) (wp_gd (by omega) (wp_gd ⟨by omega, by omega⟩ (wp_mlet ?_)))))
      have e7 : ∀ v, ms M2 (r + 10 + pA) pB v (r + 7) = M (r + 7) := fun v => by
        rw [ms_a (by omega), ← hM2, ms_a (by omega), ← hM1, ms_a (by omega)]
      rw [e7, hA1.1, hB1.1, Int.toNat_natCast, Int.toNat_natCast]
      have v3 : ∀ b j, ms M2 (r + 10 + pA) pB (M2 (r + 10 + pA) pB - e) b j = M2 b j - if b = r + 10 + pA ∧ j = pB then e else 0 := fun b j => sb_v
      generalize hM3 : ms M2 (r + 10 + pA) pB (M2 (r + 10 + pA) pB - e) = M3 at *
      have y2 : -93 ≤ M3 (r + 10 + pB) pA ∧ M3 (r + 10 + pB) pA ≤ 93 := by
        rw [v3]
        have := hb2 pB pA hB1.2 hA1.2
        split <;> omega
      refine wp_gd (by omega) (wp_gd (by omega) (wp_gd ⟨by omega, by omega⟩ (wp_mlet (wp_some (k _ (fun b hb => ?_) (fun a c ha hc => ?_))))))
      · rw [ms_a (by omega), ← hM3, ms_a (by omega), ← hM2, ms_a (by omega), ← hM1, ms_a (by omega)]
      · rw [sb_v, v3, v2, v1, dl_mul, dl_mul, dl_mul, dl_mul]
        by_cases ec : c < n
        · rw [if_pos ec]
          simp only [Int.mul_sub, Int.sub_mul]
          omega
        · have : c = n := by omega
          rw [if_neg ec, this, zn pA hA1.2, zn pB hB1.2]
          simp only [Int.mul_zero]
          omega
end JO

theorem bV_at {N S : Mm} {i s : Nat} (hs : s < nN N) (h : isl N S s = i ∧ s ≠ i) : bV N S i (pl N S i s) = psh N S s := by
  unfold bV
  rw [sm_congr (g := fun t => if t = s then psh N S s else 0) (fun t ht => by
    by_cases e : t = s
    · rw [e, if_pos ⟨h, rfl⟩, if_pos rfl]
    · rw [if_neg e, if_neg (fun z => e (pl_inj z.1 h z.2))]), sm_one, if_pos hs]
theorem mA_b {N S : Mm} {i r c v : Nat} (hN : NC N) (hv : v ≤ nW N) : -84 ≤ sm (fun w => wt N S i w r c) v ∧ sm (fun w => wt N S i w r c) v ≤ 84 := by
  have h14 := hN.w14
  have hw : ∀ w, w < v → -3 ≤ wt N S i w r c ∧ wt N S i w r c ≤ 3 := fun w hw => by
    have h16 := (hN.cw w (by omega)).2.2.2.1
    unfold wt
    split
    · have a1 : -1 ≤ dl (ep N S i (eA N w)) r - dl (ep N S i (eB N w)) r ∧ dl (ep N S i (eA N w)) r - dl (ep N S i (eB N w)) r ≤ 1 := by
        have := dl_01 (ep N S i (eA N w)) r
        have := dl_01 (ep N S i (eB N w)) r
        omega
      have a2 : -1 ≤ dl (ep N S i (eA N w)) c - dl (ep N S i (eB N w)) c ∧ dl (ep N S i (eA N w)) c - dl (ep N S i (eB N w)) c ≤ 1 := by
        have := dl_01 (ep N S i (eA N w)) c
        have := dl_01 (ep N S i (eB N w)) c
        omega
      have a3 := mul_bd (X := 1) (Y := 1) ⟨a1.1, a1.2⟩ ⟨a2.1, a2.2⟩
      have a4 := mul_bd (x := N 16 w) (X := 3) (Y := 1) ⟨by omega, by omega⟩ ⟨a3.1, a3.2⟩
      omega
    · omega
  have h1 := sm_const (f := fun w => wt N S i w r c) (c := 3) (n := v) (fun w h => (hw w h).2)
  have h2 := sm_const (f := fun w => - wt N S i w r c) (c := 3) (n := v) (fun w h => by have := (hw w h).1; omega)
  rw [sm_neg] at h2
  omega
section EN
variable {N S M : Mm} {r r2 i : Nat}
/-- the rows of an island -/
theorem w235 {P : Int × Mm → Prop} (hN : NC N) (hM : nCl N M) (hs : sC N S M r2) (hq : sepS r r2) (hi : i < nN N) (hroot : isl N S i = i)
    (hl : ∀ s : Nat, s < nN N → M (r + 2) s = isl N S s) (hp : ∀ s : Nat, s < nN N → isl N S s = i → M (r + 6) s = psh N S s)
    (k : ∀ M2 : Mm, frS r M M2 → (∀ b, b ≠ r + 7 → b < r + 10 → M2 b = M b) → (∀ s : Nat, s < nN N → isl N S s = i → s ≠ i → M2 (r + 7) s = pl N S i s) →
      (∀ a c, a < sz N S i → c ≤ sz N S i → M2 (r + 10 + a) c = mX N S i a (kp (sz N S i) c)) → P (sz N S i, M2)) : Wp (f235 r r2 i M) P := by
  have h8 := hN.n8
  have h14 := hN.w14
  have h7 := sz_7 (S := S) hN hi
  have hq1 := hq.1
  have hq2 := hq.2
  unfold f235 f235_6
  let I1 : Nat → Int → Int → Mm → Prop := fun m x y M2 => 0 ≤ y ∧ y ≤ nN N ∧ (m : Int) = nN N - y ∧ x = pl N S i y.toNat ∧ frS r M M2 ∧ (∀ b, b ≠ r + 7 → M2 b = M b) ∧ ∀ s : Nat, (s : Int) < y → isl N S s = i → s ≠ i → M2 (r + 7) s = pl N S i s
  refine wp_lp3 I1 (nN N) (by omega) ⟨by omega, by omega, by omega, rfl, frS.rfl', fun _ _ => rfl, fun s hs => by omega⟩ ?_
  rintro m x y M1 ⟨a1, a2, a3, a4, a5, a6, a7⟩
  dsimp only
  unfold lb235_6
  have e3 : M1 3 = N 3 := (a6 3 (by omega)).trans hM.1
  rw [e3, hN.n, a6 (r + 2) (by omega)]
  refine wp_ite (fun c => ?_) (fun c => wp_o ?_)
  · obtain ⟨u, rfl⟩ := Int.eq_ofNat_of_zero_le a1
    rw [Int.toNat_natCast] at a4
    have hpu := pl_le (N := N) (S := S) (i := i) u
    rw [Int.toNat_natCast, hl u (by omega)]
    have skip : ¬ (isl N S u = i ∧ u ≠ i) → Wp (f235_44 r r2 i x u M1) (Sum.elim (up3 I1 m) P) := fun hne => by
      unfold f235_44
      refine wp_gd (by omega) (wp_i3 (m - 1) (by omega) ⟨by omega, by omega, by omega, ?_, a5, a6, fun s hs h1 h2 => ?_⟩)
      · rw [show ((u : Int) + 1).toNat = u + 1 by omega, pl, if_neg hne]
        exact a4
      · by_cases e : s = u
        · exact (hne ⟨e ▸ h1, e ▸ h2⟩).elim
        · exact a7 s (by omega) h1 h2
    refine wp_gd (by omega) (wp_ite (fun c2 => wp_ite (fun c3 => skip (fun z => z.2 (by omega))) (fun c3 => wp_mlet (wp_gd (by omega) ?_))) (fun c2 => skip (fun z => c2 (by rw [z.1]))))
    unfold f235_44
    refine wp_gd (by omega) (wp_i3 (m - 1) (by omega) ⟨by omega, by omega, by omega, ?_, a5.st (by omega) (by omega), fun b hb => (ms_a hb).trans (a6 b hb), fun s hs h1 h2 => ?_⟩)
    · rw [show ((u : Int) + 1).toNat = u + 1 by omega, pl, if_pos ⟨by omega, by omega⟩]
      omega
    · by_cases e : s = u
      · rw [e, ms_v]
        exact a4
      · rw [ms_i e]
        exact a7 s (by omega) h1 h2
  have ey : y.toNat = nN N := by omega
  rw [ey] at a4
  have a4' : x = sz N S i := a4
  subst a4'
  clear a4
  have b7 : ∀ s : Nat, s < nN N → isl N S s = i → s ≠ i → M1 (r + 7) s = pl N S i s := fun s hs => a7 s (by omega)
  clear a1 a2 a3 a7 c ey
  unfold f235_53
  let I2 : Nat → Int → Mm → Prop := fun m y M2 => 0 ≤ y ∧ y ≤ nN N ∧ (m : Int) = nN N - y ∧ frS r M M2 ∧ (∀ b, b < r + 10 → M2 b = M1 b) ∧ ∀ a c, a < pl N S i y.toNat → c ≤ sz N S i → M2 (r + 10 + a) c = if c < sz N S i then 0 else bV N S i a
  refine wp_lp2 I2 (nN N) (by omega) ⟨by omega, by omega, by omega, a5, fun _ _ => rfl, fun a c ha => (Nat.not_lt_zero a ha).elim⟩ ?_
  clear m y
  rintro m y M2 ⟨c1, c2, c3, c4, c5, c6⟩
  dsimp only
  unfold lb235_53
  rw [c5 3 (by omega), e3, hN.n, c5 (r + 2) (by omega), a6 (r + 2) (by omega), c5 (r + 7) (by omega)]
  refine wp_ite (fun c => ?_) (fun c => wp_o ?_)
  · obtain ⟨u, rfl⟩ := Int.eq_ofNat_of_zero_le c1
    rw [Int.toNat_natCast] at c6
    have hu : u < nN N := by omega
    rw [Int.toNat_natCast, hl u hu]
    have skip : ¬ (isl N S u = i ∧ u ≠ i) → Wp (f235_118 r r2 i (sz N S i) u M2) (Sum.elim (up2 I2 m) P) := fun hne => by
      unfold f235_118
      refine wp_gd (by omega) (wp_i2 (m - 1) (by omega) ⟨by omega, by omega, by omega, c4, c5, ?_⟩)
      rw [show ((u : Int) + 1).toNat = u + 1 by omega, pl, if_neg hne]
      exact c6
    refine wp_gd (by omega) (wp_ite (fun d2 => wp_ite (fun d3 => skip (fun z => z.2 (by omega))) (fun d3 => ?_)) (fun d2 => skip (fun z => d2 (by rw [z.1]))))
    have hin : isl N S u = i ∧ u ≠ i := ⟨by omega, by omega⟩
    have hpu := pl_sz hu hin
    rw [b7 u hu hin.1 hin.2, Int.toNat_natCast]
    refine wp_gd (by omega) (wp_bind (w3 (by omega) (fun M3 g1 g2 => ?_)))
    rw [g1 (r + 7) (by omega), c5 (r + 7) (by omega), b7 u hu hin.1 hin.2, Int.toNat_natCast, Int.toNat_natCast, g1 (r + 6) (by omega), c5 (r + 6) (by omega), a6 (r + 6) (by omega), hp u hu hin.1]
    refine wp_gd (by omega) (wp_gd (by omega) (wp_mlet ?_))
    unfold f235_118
    refine wp_gd (by omega) (wp_i2 (m - 1) (by omega) ⟨by omega, by omega, by omega, fun b hb => ?_, fun b hb => ?_, ?_⟩)
    · rw [ms_a (by omega), g1 b (by omega)]
      exact c4 b hb
    · rw [ms_a (by omega), g1 b (by omega)]
      exact c5 b hb
    · rw [show ((u : Int) + 1).toNat = u + 1 by omega, pl, if_pos hin]
      intro a c ha hc
      by_cases e : a = pl N S i u
      · subst e
        by_cases e2 : c = sz N S i
        · rw [e2, ms_v, if_neg (Nat.lt_irrefl _), bV_at hu hin]
        · rw [ms_i e2, g2, if_pos (by omega), if_pos (by omega)]
      · rw [ms_a (by omega), g1 _ (by omega)]
        exact c6 a c (by omega) hc
  have ey : y.toNat = nN N := by omega
  rw [ey] at c6
  have d6 : ∀ a c, a < sz N S i → c ≤ sz N S i → M2 (r + 10 + a) c = if c < sz N S i then 0 else bV N S i a := c6
  clear c1 c2 c3 c6 c ey
  unfold f235_127
  let I3 : Nat → Int → Mm → Prop := fun m y M3 => 0 ≤ y ∧ y ≤ nW N ∧ (m : Int) = nW N - y ∧ frS r M M3 ∧ (∀ b, b < r + 10 → M3 b = M1 b) ∧ ∀ a c, a < sz N S i → c ≤ sz N S i → M3 (r + 10 + a) c = if c < sz N S i then sm (fun w => wt N S i w a c) y.toNat else bV N S i a
  refine wp_lp2 I3 (nW N) (by omega) ⟨by omega, by omega, by omega, c4, c5, d6⟩ ?_
  clear m y
  rintro m y M3 ⟨f1, f2, f3', f4, f5, f6⟩
  dsimp only
  unfold lb235_127
  have n3 := f4.nc hq hM
  have hs3 := f4.sc hq hs
  rw [n3.1, hN.w, n3.r (b := 14) (by decide) (by decide), n3.r (b := 15) (by decide) (by decide), n3.r (b := 16) (by decide) (by decide), f5 (r + 2) (by omega), a6 (r + 2) (by omega)]
  refine wp_ite (fun c => ?_) (fun c => wp_o (wp_some ?_))
  · obtain ⟨w, rfl⟩ := Int.eq_ofNat_of_zero_le f1
    rw [Int.toNat_natCast] at f6
    have hw : w < nW N := by omega
    have hcw := hN.cw w hw
    have skip : ¬ (S 0 w = 0 ∧ isl N S (eA N w) = i) → Wp (f235_188 r r2 i (sz N S i) w M3) (Sum.elim (up2 I3 m) P) := fun hne => by
      unfold f235_188
      refine wp_gd (by omega) (wp_i2 (m - 1) (by omega) ⟨by omega, by omega, by omega, f4, f5, fun a c ha hc => ?_⟩)
      rw [f6 a c ha hc, show ((w : Int) + 1).toNat = w + 1 by omega]
      have : wt N S i w a c = 0 := if_neg hne
      show _ = if c < sz N S i then sm _ w + wt N S i w a c else _
      rw [this, Int.add_zero]
    rw [Int.toNat_natCast, (hs3.1 w (by omega)).1, hcw.1.1, Int.toNat_natCast, hl _ hcw.1.2, hcw.2.1.1]
    refine wp_gd (by omega) (wp_ite (fun d2 => wp_gd (by omega) (wp_ite (fun d3 => ?_) (fun d3 => skip (fun z => d3 (by rw [z.2]))))) (fun d2 => skip (fun z => d2 z.1)))
    have hon : S 0 w = 0 ∧ isl N S (eA N w) = i := ⟨d2, by omega⟩
    have hB := way_in hN hw hon
    refine wp_bind (w237 (n := sz N S i) (pA := ep N S i (eA N w)) (pB := ep N S i (eB N w)) h7 hcw.2.2.2.1 (by omega) (by omega) hcw.2.2.1 (fun z => ?_) (fun z => ?_) (fun z => if_pos z) (fun z => if_pos z) (fun a c ha hc => ?_) (fun M4 g1 g2 => ?_))
    · have := ep_lt hcw.1.2 hon.2 z
      rw [f5 (r + 7) (by omega), b7 _ hcw.1.2 hon.2 z, this.1]
      exact ⟨rfl, this.2⟩
    · have := ep_lt hcw.2.1.2 hB z
      rw [f5 (r + 7) (by omega), b7 _ hcw.2.1.2 hB z, this.1]
      exact ⟨rfl, this.2⟩
    · rw [f6 a c ha (by omega), if_pos hc]
      exact mA_b hN (by omega)
    · unfold f235_188
      refine wp_gd (by omega) (wp_i2 (m - 1) (by omega) ⟨by omega, by omega, by omega, fun b hb => ?_, fun b hb => ?_, fun a c ha hc => ?_⟩)
      · rw [g1 b (by omega)]
        exact f4 b hb
      · rw [g1 b (by omega)]
        exact f5 b hb
      · rw [g2 a c ha hc, f6 a c ha hc, show ((w : Int) + 1).toNat = w + 1 by omega]
        by_cases e : c < sz N S i
        · rw [if_pos e, if_pos e, if_pos e]
          show _ = sm _ w + wt N S i w a c
          unfold wt
          rw [if_pos hon]
        · rw [if_neg e, if_neg e, if_neg e, Int.add_zero]
  · refine k M3 f4 (fun b hb hb2 => (f5 b hb2).trans (a6 b hb)) (fun s h1 h2 h3 => ?_) (fun a c ha hc => ?_)
    · rw [f5 (r + 7) (by omega)]
      exact b7 s h1 h2 h3
    · rw [f6 a c ha hc, show y.toNat = nW N by omega]
      unfold mX kp
      by_cases e : c < sz N S i
      · rw [if_pos e, if_pos e, if_pos e]
        rfl
      · rw [if_neg e, if_neg e, if_neg (by omega), if_pos rfl]
end EN
/-! Heights and flows. -/
noncomputable def ht (N S : Mm) (i s : Nat) : Int := if s = i then 0 else gjI (mX N S i) (sz N S i) (pl N S i s) 14
noncomputable def fl (N S : Mm) (w : Nat) : Int := N 16 w * (ht N S (isl N S (eA N w)) (eA N w) - ht N S (isl N S (eA N w)) (eB N w))
noncomputable def fD (N S : Mm) (w : Nat) : Int := det (sz N S (isl N S (eA N w))) (mX N S (isl N S (eA N w)))
noncomputable def told (N S : Mm) (w : Nat) : Int := if S 0 w = 0 then Int.tdiv (fl N S w * 100) (fD N S w) else 0
/-- too much for a way -/
def ovr (N S : Mm) (w : Nat) : Prop := S 0 w = 0 ∧ (N 17 w * fD N S w < fl N S w ∨ N 17 w * fD N S w < - fl N S w)
theorem mX_14 {N S : Mm} {i : Nat} (hN : NC N) (hi : i < nN N) : (fun r => mX N S i r 14) = bV N S i := funext fun r => by
  have h7 := sz_7 (S := S) hN hi
  unfold mX
  rw [if_neg (by omega), if_pos rfl]
theorem bd_14 {N S : Mm} {i : Nat} (hN : NC N) (hS : sV N S) (hi : i < nN N) : bdB (fun r => mX N S i r 14) (sz N S i) 16000 := by
  rw [mX_14 hN hi]
  exact bV_bd hN hS
theorem ht_b {N S : Mm} {i s : Nat} (hN : NC N) (hS : sV N S) (hi : i < nN N) (hr : isl N S i = i) (hs : s < nN N) (h : isl N S s = i) : -843308032000 ≤ ht N S i s ∧ ht N S i s ≤ 843308032000 := by
  have h7 := sz_7 (S := S) hN hi
  unfold ht
  split
  · decide
  · rename_i e
    have hp := pl_sz hs ⟨h, e⟩
    have hsm := mX_sml hN hi hr
    have q := (sml_R hsm (p := sz N S i) (Nat.le_refl _) (bd_14 hN hS hi) (by decide) hp).1
    have t := sml_tab hsm (p := sz N S i) (Nat.le_refl _)
    omega
theorem tdiv_b {x d X : Int} (hd : 0 < d) (hx : - X ≤ x ∧ x ≤ X) : - X ≤ Int.tdiv x d ∧ Int.tdiv x d ≤ X := by
  have h := Int.natAbs_tdiv x d
  have h2 := Nat.div_le_self x.natAbs d.natAbs
  have h3 : (Int.tdiv x d).natAbs ≤ x.natAbs := by rw [h]; exact h2
  clear h h2
  omega
theorem fl_b {N S : Mm} {w : Nat} (hN : NC N) (hS : sV N S) (hw : w < nW N) (hu : S 0 w = 0) : (-5059848192000 ≤ fl N S w ∧ fl N S w ≤ 5059848192000) ∧ 0 < fD N S w ∧ fD N S w ≤ 35831808 := by
  have hcw := hN.cw w hw
  have hi := isl_lt (S := S) hcw.1.2
  have hr := isl_idem (S := S) hcw.1.2
  have h1 := ht_b hN hS hi hr hcw.1.2 rfl
  have h2 := ht_b hN hS hi hr hcw.2.1.2 (isl_on hN hw hu).symm
  have h3 := mul_bd (x := N 16 w) (y := ht N S (isl N S (eA N w)) (eA N w) - ht N S (isl N S (eA N w)) (eB N w)) (X := 3) (Y := 1686616064000) ⟨by omega, by omega⟩ ⟨by omega, by omega⟩
  have t := (sml_tab (mX_sml hN hi hr) (p := sz N S (isl N S (eA N w))) (Nat.le_refl _)).1
  unfold fl fD
  omega
section SPR
variable {N S M : Mm} {r r2 i : Nat}
theorem w240 {P : Mm → Prop} (hN : NC N) (hS : sV N S) (hM : nCl N M) (hs : sC N S M r2) (hq : sepS r r2) (hi : i < nN N) (hroot : isl N S i = i)
    (hl : ∀ s : Nat, s < nN N → M (r + 2) s = isl N S s) (hp : ∀ s : Nat, s < nN N → isl N S s = i → M (r + 6) s = psh N S s) (ho : M r 2 = 0 ∨ M r 2 = 1)
    (k : ∀ M2 : Mm, frS r M M2 → (∀ b, b ≠ r → b ≠ r + 5 → b ≠ r + 7 → b ≠ r + 8 → b < r + 10 → M2 b = M b) → (∀ j, j ≠ 2 → M2 r j = M r j) → (M2 r 2 = 0 ∨ M2 r 2 = 1) →
      (M2 r 2 = 1 ↔ (M r 2 = 1 ∨ ∃ w, w < nW N ∧ isl N S (eA N w) = i ∧ ovr N S w)) → (∀ w : Nat, w < nW N → M2 (r + 5) w = if S 0 w = 0 ∧ isl N S (eA N w) = i then told N S w else M (r + 5) w) → P M2) : Wp (f240 r r2 i M) P := by
  have h8 := hN.n8
  have h14 := hN.w14
  have h7 := sz_7 (S := S) hN hi
  have hq1 := hq.1
  have hq2 := hq.2
  have hsm := mX_sml hN hi hroot
  have t := (sml_tab hsm (p := sz N S i) (Nat.le_refl _)).1
  unfold f240
  refine wp_obnd (w235 hN hM hs hq hi hroot hl hp (fun M1 g1 g2 g3 g4 => ?_))
  refine wp_obnd (w234 (n := sz N S i) hsm (bd_14 hN hS hi) g4 (fun M2 e1 e2 => ?_))
  dsimp only
  refine wp_neg (by omega) ?_
  have f1 : frS r M M2 := fun b hb => by rw [e1 b (by omega)]; exact g1 b hb
  have f2 : ∀ b, b ≠ r + 7 → b < r + 10 → M2 b = M b := fun b hb hb2 => (e1 b (Or.inl hb2)).trans (g2 b hb hb2)
  have f7 : ∀ s : Nat, s < nN N → isl N S s = i → s ≠ i → M2 (r + 7) s = pl N S i s := fun s h1 h2 h3 => by rw [e1 (r + 7) (by omega)]; exact g3 s h1 h2 h3
  clear g1 g2 g3 g4 e1
  unfold f240_28
  let I : Nat → Int → Mm → Prop := fun m y M3 => 0 ≤ y ∧ y ≤ nN N ∧ (m : Int) = nN N - y ∧ frS r M M3 ∧ (∀ b, b ≠ r + 8 → M3 b = M2 b) ∧ ∀ s : Nat, (s : Int) < y → isl N S s = i → M3 (r + 8) s = ht N S i s
  refine wp_lp2 I (nN N) (by omega) ⟨by omega, by omega, by omega, f1, fun _ _ => rfl, fun s hs => by omega⟩ ?_
  rintro m y M3 ⟨a1, a2, a3, a4, a5, a6⟩
  dsimp only
  unfold lb240_28
  have n3 := a4.nc hq hM
  rw [n3.1, hN.n, a5 (r + 2) (by omega), f2 (r + 2) (by omega) (by omega), a5 (r + 7) (by omega)]
  refine wp_ite (fun c => ?_) (fun c => wp_o ?_)
  · obtain ⟨u, rfl⟩ := Int.eq_ofNat_of_zero_le a1
    have hu : u < nN N := by omega
    rw [Int.toNat_natCast, hl u hu]
    have nxt : ∀ v : Int, (isl N S u = i → v = ht N S i u) → 0 ≤ (u : Int) + 1 ∧ (u : Int) + 1 ≤ nN N ∧ ((m - 1 : Nat) : Int) = nN N - (u + 1) ∧ frS r M (ms M3 (r + 8) u v) ∧ (∀ b, b ≠ r + 8 → ms M3 (r + 8) u v b = M2 b) ∧ ∀ s : Nat, (s : Int) < (u : Int) + 1 → isl N S s = i → ms M3 (r + 8) u v (r + 8) s = ht N S i s := fun v hv => by
      refine ⟨by omega, by omega, by omega, a4.st (by omega) (by omega), fun b hb => (ms_a hb).trans (a5 b hb), fun s hs h2 => ?_⟩
      by_cases e : s = u
      · subst e
        rw [ms_v]
        exact hv h2
      · rw [ms_i e]
        exact a6 s (by omega) h2
    refine wp_ite (fun c2 => ?_) (fun c2 => ?_)
    · refine wp_gd (by omega) (wp_mlet (wp_gd (by omega) (wp_i2 (m - 1) (by omega) (nxt 0 (fun _ => ?_)))))
      unfold ht
      rw [if_pos (by omega)]
    · refine wp_gd (by omega) (wp_ite (fun c3 => ?_) (fun c3 => wp_mlet (wp_gd (by omega) (wp_i2 (m - 1) (by omega) (nxt 0 (fun z => (c3 (by rw [z])).elim))))))
      have hin : isl N S u = i ∧ u ≠ i := ⟨by omega, by omega⟩
      have hpu := pl_sz hu hin
      rw [f7 u hu hin.1 hin.2, Int.toNat_natCast, Int.toNat_natCast, a5 _ (by omega), e2 _ hpu]
      refine wp_gd (by omega) (wp_gd (by omega) (wp_mlet (wp_gd (by omega) (wp_i2 (m - 1) (by omega) (nxt _ (fun _ => ?_))))))
      unfold ht
      rw [if_neg hin.2]
  have b6 : ∀ s : Nat, s < nN N → isl N S s = i → M3 (r + 8) s = ht N S i s := fun s hs => a6 s (by omega)
  have f3 : ∀ b, b ≠ r + 7 → b ≠ r + 8 → b < r + 10 → M3 b = M b := fun b h1 h2 h3 => (a5 b h2).trans (f2 b h1 h3)
  clear a1 a2 a3 a5 a6 c f2 f7 e2 n3
  unfold f240_89
  let I2 : Nat → Int → Mm → Prop := fun m y M4 => 0 ≤ y ∧ y ≤ nW N ∧ (m : Int) = nW N - y ∧ frS r M M4 ∧ (∀ b, b ≠ r → b ≠ r + 5 → M4 b = M3 b) ∧ (∀ j, j ≠ 2 → M4 r j = M r j) ∧ (M4 r 2 = 0 ∨ M4 r 2 = 1) ∧
    (M4 r 2 = 1 ↔ (M r 2 = 1 ∨ ∃ w : Nat, (w : Int) < y ∧ isl N S (eA N w) = i ∧ ovr N S w)) ∧ ∀ w : Nat, w < nW N → M4 (r + 5) w = if (w : Int) < y ∧ S 0 w = 0 ∧ isl N S (eA N w) = i then told N S w else M (r + 5) w
  have er := f3 r (by omega) (by omega) (by omega)
  refine wp_lp2 I2 (nW N) (by omega) ⟨by omega, by omega, by omega, a4, fun _ _ _ => rfl, fun j _ => by rw [er], by rw [er]; exact ho, ?_, fun w hw => ?_⟩ ?_
  · rw [er]
    exact Iff.intro Or.inl (fun z => by
      rcases z with z | ⟨w, z, _⟩
      · exact z
      · omega)
  · rw [if_neg (by omega), f3 (r + 5) (by omega) (by omega) (by omega)]
  clear m y
  rintro m y M4 ⟨c1, c2, c3, c4, c5, c6, c7, c8, c9⟩
  dsimp only
  unfold lb240_89
  have n4 := c4.nc hq hM
  have hs4 := c4.sc hq hs
  rw [n4.1, hN.w, n4.r (b := 14) (by decide) (by decide), n4.r (b := 15) (by decide) (by decide), n4.r (b := 16) (by decide) (by decide), c5 (r + 2) (by omega) (by omega), f3 (r + 2) (by omega) (by omega) (by omega), c5 (r + 8) (by omega) (by omega)]
  refine wp_ite (fun c => ?_) (fun c => wp_o (wp_some ?_))
  · obtain ⟨w, rfl⟩ := Int.eq_ofNat_of_zero_le c1
    have hw : w < nW N := by omega
    have hcw := hN.cw w hw
    rw [Int.toNat_natCast, (hs4.1 w (by omega)).1, hcw.1.1, Int.toNat_natCast, hl _ hcw.1.2, hcw.2.1.1, Int.toNat_natCast]
    have skip : ¬ (S 0 w = 0 ∧ isl N S (eA N w) = i) → Wp (f240_210 r r2 i (det (sz N S i) (mX N S i)) w M4) (Sum.elim (up2 I2 m) P) := fun hne => by
      unfold f240_210
      refine wp_gd (by omega) (wp_i2 (m - 1) (by omega) ⟨by omega, by omega, by omega, c4, c5, c6, c7, ?_, fun x hx => ?_⟩)
      · rw [c8]
        constructor
        · rintro (z | ⟨x, z1, z2⟩)
          · exact Or.inl z
          · exact Or.inr ⟨x, by omega, z2⟩
        · rintro (z | ⟨x, z1, z2, z3⟩)
          · exact Or.inl z
          · refine Or.inr ⟨x, ?_, z2, z3⟩
            have : x ≠ w := fun e => hne ⟨by rw [← e]; exact z3.1, by rw [← e]; exact z2⟩
            omega
      · rw [c9 x hx]
        by_cases e : x = w
        · rw [if_neg (fun z => hne (e ▸ z.2)), if_neg (fun z => hne (e ▸ z.2))]
        · by_cases e2 : (x : Int) < w ∧ S 0 x = 0 ∧ isl N S (eA N x) = i
          · rw [if_pos e2, if_pos ⟨by omega, e2.2⟩]
          · rw [if_neg e2, if_neg (fun z => e2 ⟨by omega, z.2⟩)]
    refine wp_gd (by omega) (wp_ite (fun d2 => wp_gd (by omega) (wp_ite (fun d3 => ?_) (fun d3 => skip (fun z => d3 (by rw [z.2]))))) (fun d2 => skip (fun z => d2 z.1)))
    have hon : S 0 w = 0 ∧ isl N S (eA N w) = i := ⟨d2, by omega⟩
    have hB := way_in hN hw hon
    have hfl : N 16 w * (ht N S i (eA N w) - ht N S i (eB N w)) = fl N S w := by
      unfold fl
      rw [hon.2]
    have hfD : det (sz N S i) (mX N S i) = fD N S w := by
      unfold fD
      rw [hon.2]
    have hb1 := ht_b hN hS hi hroot hcw.1.2 hon.2
    have hb2 := ht_b hN hS hi hroot hcw.2.1.2 hB
    have hfb := fl_b hN hS hw d2
    have htd : Int.tdiv (fl N S w * 100) (fD N S w) = told N S w := by
      unfold told
      rw [if_pos d2]
    have htb := tdiv_b (x := fl N S w * 100) (X := 505984819200000) hfb.2.1 ⟨by omega, by omega⟩
    have hlim := hcw.2.2.2.2.1
    have hld := mul_bd (x := N 17 w) (y := fD N S w) (X := 5000) (Y := 35831808) ⟨by omega, by omega⟩ ⟨by omega, by omega⟩
    rw [b6 _ hcw.1.2 hon.2, b6 _ hcw.2.1.2 hB, hfl, hfD, htd]
    rw [htd] at htb
    refine wp_gd (by omega) (wp_gd ⟨by omega, by omega⟩ (wp_gd ⟨by omega, by omega⟩ (wp_gd ⟨by omega, by omega⟩ (wp_gd (by omega) (wp_gd ⟨by omega, by omega⟩ (wp_mlet (wp_bind ?_)))))))
    rw [ms_a (by omega : (17 : Nat) ≠ r + 5), n4.r (b := 17) (by decide) (by decide), ms_a (by omega : r ≠ r + 5)]
    have habs : ∀ {Q : Int → Prop} {M9 : Mm}, Q (if fl N S w < 0 then - fl N S w else fl N S w) → Wp (f4 (fl N S w) M9) Q := fun {Q M9} hQ => by
      unfold f4
      refine wp_ite (fun z => ?_) (fun z => ?_)
      · rw [if_pos z] at hQ
        exact wp_gd ⟨by omega, by omega⟩ (wp_some hQ)
      · rw [if_neg z] at hQ
        exact wp_some hQ
    have step : ∀ v : Int, (v = 0 ∨ v = 1) → (v = 1 ↔ (M4 r 2 = 1 ∨ ovr N S w)) → Wp (f240_210 r r2 i (fD N S w) w (ms (ms M4 (r + 5) w (told N S w)) r 2 v)) (Sum.elim (up2 I2 m) P) := fun v hv hv2 => by
      unfold f240_210
      refine wp_gd (by omega) (wp_i2 (m - 1) (by omega) ⟨by omega, by omega, by omega, (c4.st (by omega) (by omega)).st (by omega) (by omega), fun b z1 z2 => ?_, fun j hj => ?_, ?_, ?_, fun x hx => ?_⟩)
      · rw [ms_a z1, ms_a z2]
        exact c5 b z1 z2
      · rw [ms_i hj, ms_a (by omega)]
        exact c6 j hj
      · rw [ms_v]
        exact hv
      · rw [ms_v, hv2, c8]
        constructor
        · rintro ((z | ⟨x, z1, z2⟩) | z)
          · exact Or.inl z
          · exact Or.inr ⟨x, by omega, z2⟩
          · exact Or.inr ⟨w, by omega, hon.2, z⟩
        · rintro (z | ⟨x, z1, z2, z3⟩)
          · exact Or.inl (Or.inl z)
          · by_cases e : x = w
            · exact Or.inr (e ▸ z3)
            · exact Or.inl (Or.inr ⟨x, by omega, z2, z3⟩)
      · rw [ms_a (by omega)]
        by_cases e : x = w
        · rw [e, ms_v, if_pos ⟨by omega, hon⟩]
        · rw [ms_i e, c9 x hx]
          by_cases e2 : (x : Int) < w ∧ S 0 x = 0 ∧ isl N S (eA N x) = i
          · rw [if_pos e2, if_pos ⟨by omega, e2.2⟩]
          · rw [if_neg e2, if_neg (fun z => e2 ⟨by omega, z.2⟩)]
    have hov : ovr N S w ↔ N 17 w * fD N S w < (if fl N S w < 0 then - fl N S w else fl N S w) := by
      unfold ovr
      constructor
      · rintro ⟨_, z⟩
        have h0 := Int.mul_nonneg (a := N 17 w) (b := fD N S w) (by omega) (by omega)
        split <;> omega
      · intro z
        split at z
        · exact ⟨d2, Or.inr z⟩
        · exact ⟨d2, Or.inl z⟩
    have bo1 : bOr 0 1 = 1 := by decide
    have bo2 : bOr 1 1 = 1 := by decide
    have bo3 : bOr 0 0 = 0 := by decide
    have bo4 : bOr 1 0 = 1 := by decide
    refine habs (wp_gd ⟨by omega, by omega⟩ (wp_ite (fun z => ?_) (fun z => ?_)))
    · have hz := hov.mpr z
      have hb : bOr (M4 r 2) 1 = 1 := by
        rcases c7 with q | q
        · rw [q]; exact bo1
        · rw [q]; exact bo2
      rw [hb]
      exact wp_gd (Or.inr rfl) (wp_mlet (step 1 (Or.inr rfl) (Iff.intro (fun _ => Or.inr hz) (fun _ => rfl))))
    · have hz : ¬ ovr N S w := fun q => z (hov.mp q)
      have hb : bOr (M4 r 2) 0 = M4 r 2 := by
        rcases c7 with q | q
        · rw [q]; exact bo3
        · rw [q]; exact bo4
      rw [hb]
      exact wp_gd c7 (wp_mlet (step _ c7 (Iff.intro Or.inl (fun q => q.resolve_right hz))))
  · have ey : y = nW N := by omega
    subst ey
    refine k M4 c4 (fun b z0 z5 z7 z8 z10 => (c5 b z0 z5).trans (f3 b z7 z8 z10)) c6 c7 ?_ (fun w hw => ?_)
    · rw [c8]
      constructor
      · rintro (z | ⟨x, z1, z2⟩)
        · exact Or.inl z
        · exact Or.inr ⟨x, by omega, z2⟩
      · rintro (z | ⟨x, z1, z2⟩)
        · exact Or.inl z
        · exact Or.inr ⟨x, by omega, z2⟩
    · rw [c9 w hw]
      by_cases e : S 0 w = 0 ∧ isl N S (eA N w) = i
      · rw [if_pos ⟨by omega, e⟩, if_pos e]
      · rw [if_neg (fun z => e z.2), if_neg e]
end SPR
