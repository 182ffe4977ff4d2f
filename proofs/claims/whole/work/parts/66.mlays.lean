section MH
variable {N M : Mm} {z : Nat} {x2 : Int}
theorem w117 {P : Mm → Prop} {n nw : Nat} {G A B : Nat → Nat} {U : Nat → Prop} (hn : M 142 3 = n) (hn8 : n ≤ 8) (hw : M 142 4 = nw) (hw14 : nw ≤ 14) (hz : z + 72 ≤ 36400)
    (hA : ∀ w : Nat, w < nw → M 147 w = A w) (hB : ∀ w : Nat, w < nw → M 148 w = B w) (he : ∀ w, w < nw → A w < n ∧ B w < n) (hU : ∀ w : Nat, w < nw → (U w ↔ if x2 = 0 then M 144 (z + w) = 0 else M 144 (z + w) ≠ 3))
    (hG : gLab n (jn nw A B U) G) (k : ∀ M2 : Mm, (∀ b, b ≠ 158 → M2 b = M b) → (∀ i : Nat, i < n → M2 158 i = G i) → P M2) : Wp (f117 z x2 M) P := by
  unfold f117 f117_2
  refine wp_lp2 (fun m x N => 0 ≤ x ∧ x ≤ 8 ∧ (m : Int) = 8 - x ∧ (∀ b, b ≠ 158 → N b = M b) ∧ ∀ i : Nat, (i : Int) < x → N 158 i = i) 8 (by omega) ⟨by omega, by omega, by omega, fun _ _ => rfl, fun i hi => by omega⟩ ?_
  rintro m x M1 ⟨h1, h2, h4, h5, h6⟩
  dsimp only
  unfold lb117_2
  refine wp_ite (fun c => ?_) (fun c => wp_o ?_)
  · refine wp_gd (by omega) (wp_mlet (wp_gd (by omega) (wp_i2 (m - 1) (by omega) ⟨by omega, by omega, by omega, fun b hb => ?_, fun i hi => ?_⟩)))
    · rw [ms_a hb]
      exact h5 b hb
    · by_cases e : i = x.toNat
      · rw [e, ms_v]
        omega
      · rw [ms_i e]
        exact h6 i (by omega)
  unfold f117_23
  let I1 : Nat → Int → Mm → Prop := fun m pass N => 0 ≤ pass ∧ pass ≤ 8 ∧ (m : Int) = 8 - pass ∧ (∀ b, b ≠ 158 → N b = M b) ∧ ∃ L : Nat → Nat, (∀ i : Nat, i < n → N 158 i = L i) ∧ gLow n (jn nw A B U) L ∧ gCnt L G n ≤ m
  refine wp_lp2 I1 8 (by omega) ⟨by omega, by omega, by omega, h5, fun i => i, fun i hi => h6 i (by omega), gLow_id, Nat.le_trans (gCnt_le _ _ _) hn8⟩ ?_
  clear h1 h2 h4 h5 h6 c m x
  rintro m pass M1 ⟨h1, h2, h4, h5, L, h6, h7, h9⟩
  dsimp only
  unfold lb117_23
  refine wp_ite (fun c => ?_) (fun c => wp_o (wp_some (k M1 h5 (fun i hi => by rw [h6 i hi, gCnt_zero (by omega : gCnt L G n = 0) i hi]))))
  unfold f117_32
  let I2 : Nat → Int → Mm → Prop := fun q v N => 0 ≤ v ∧ v ≤ nw ∧ (q : Int) = nw - v ∧ (∀ b, b ≠ 158 → N b = M b) ∧ ∃ K : Nat → Nat, (∀ i : Nat, i < n → N 158 i = K i) ∧ rndP n v.toNat A B U nw L K
  refine wp_lp2 I2 nw (by omega) ⟨by omega, by omega, by omega, h5, L, h6, ⟨h7, fun i _ => Nat.le_refl _, fun w hw => by omega⟩⟩ ?_
  rintro q v M2 ⟨g1, g2, g4, g5, K, g6, g7⟩
  dsimp only
  unfold lb117_32
  have e142 : M2 142 = M 142 := g5 142 (by decide)
  have e144 : M2 144 = M 144 := g5 144 (by decide)
  have e147 : M2 147 = M 147 := g5 147 (by decide)
  have e148 : M2 148 = M 148 := g5 148 (by decide)
  rw [e142, e144, hw]
  refine wp_ite (fun d => ?_) (fun d => ?_)
  · obtain ⟨u, rfl⟩ := Int.eq_ofNat_of_zero_le g1
    have hv : u < nw := by omega
    have hev := he u hv
    have ha := hA u hv
    have hb := hB u hv
    have hk1 := g6 _ hev.1
    have hk2 := g6 _ hev.2
    have hUu := hU u hv
    rw [Int.toNat_natCast] at g7
    rw [show ((z : Int) + u).toNat = z + u by omega]
    have hskip : ¬ U u → Wp (f117_148 z x2 pass u M2) (Sum.elim (up2 I2 q) (Sum.elim (up2 I1 m) P)) := fun hu => by
      unfold f117_148
      exact wp_gd (by omega) (wp_i2 (q - 1) (by omega) ⟨by omega, by omega, by omega, g5, K, g6, rnd_skip g7 hu⟩)
    have hdo : U u → Wp (f117_76 z x2 pass u M2) (Sum.elim (up2 I2 q) (Sum.elim (up2 I1 m) P)) := fun hu => by
      unfold f117_76
      rw [e147, e148, Int.toNat_natCast, ha, hb, Int.toNat_natCast, Int.toNat_natCast, hk1, hk2]
      have step : ∀ x : Int, x = (min (K (A u)) (K (B u)) : Nat) → Wp (f117_148 z x2 pass u (ms (ms M2 158 (A u) x) 158 (B u) x)) (Sum.elim (up2 I2 q) (Sum.elim (up2 I1 m) P)) := fun x hx => by
        unfold f117_148
        refine wp_gd (by omega) (wp_i2 (q - 1) (by omega) ⟨by omega, by omega, by omega, fun b hb => ?_, _, lab_two g6 hx, rnd_step g7 hv hu he (fun i hi => rfl)⟩)
        rw [ms_a hb, ms_a hb]
        exact g5 b hb
      refine wp_gd (by omega) (wp_gd (by omega) (wp_gd (by omega) (wp_ite (fun t => wp_mlet ?_) (fun t => wp_mlet ?_))))
      · rw [ms_a (by decide : (148 : Nat) ≠ 158), e148, hb, Int.toNat_natCast]
        exact wp_gd (by omega) (wp_mlet (step _ (by omega)))
      · rw [ms_a (by decide : (148 : Nat) ≠ 158), e148, hb, Int.toNat_natCast]
        exact wp_gd (by omega) (wp_mlet (step _ (by omega)))
    refine wp_ite (fun t => wp_gd (by omega) (wp_gd (by omega) (wp_ite (fun t2 => hdo (hUu.mpr (by rw [if_pos t]; exact t2))) (fun t2 => hskip (fun hu => ?_))))) (fun t => wp_gd (by omega) (wp_gd (by omega) (wp_ite (fun t2 => hskip (fun hu => ?_)) (fun t2 => hdo (hUu.mpr (by rw [if_neg t]; exact t2))))))
    · have := hUu.mp hu
      rw [if_pos t] at this
      exact t2 this
    · have := hUu.mp hu
      rw [if_neg t] at this
      exact this t2
  · have hv : v.toNat = nw := by omega
    rw [hv] at g7
    have hp := rnd_pass g7
    refine wp_o (wp_gd (by omega) (wp_i2 (m - 1) (by omega) ⟨by omega, by omega, by omega, g5, K, g6, g7.1, ?_⟩))
    rcases Nat.eq_zero_or_pos (gCnt L G n) with t | t
    · have q1 : gCnt K G n ≤ gCnt L G n := sN_le (fun i hi => by
        have b1 := gCnt_zero t i hi
        have b2 := g7.2.1 i hi
        have b3 := gLab_le jn_sym hG g7.1 hi
        rw [if_pos (by omega)]
        exact Nat.zero_le _)
      omega
    · have := gPass_cnt jn_sym hG h7 hp t
      omega
end MH

theorem dl_mulN {p q a c : Nat} {e : Int} (hq : q < 14) (hc : c < 14) : (if (164 : Nat) = 164 ∧ 14 * a + c = 14 * p + q then e else 0) = e * (dl p a * dl q c) := by
  unfold dl
  by_cases h1 : a = p
  · by_cases h2 : c = q
    · rw [if_pos ⟨rfl, by omega⟩, if_pos h1.symm, if_pos h2.symm]
      omega
    · rw [if_neg (fun z => h2 (by omega)), if_neg (c := q = c) (fun z => h2 z.symm), Int.mul_zero, Int.mul_zero]
  · rw [if_neg (fun z => h1 (by omega)), if_neg (c := p = a) (fun z => h1 z.symm), Int.zero_mul, Int.mul_zero]
noncomputable def mP (N S : Mm) (i s : Nat) : Int := if isl N S s = i ∧ s ≠ i then (pl N S i s : Int) else -1
theorem mX_kq {N S : Mm} {i a c : Nat} (h7 : sz N S i ≤ 7) (ha : a < sz N S i) (hc : c < 14) : mX N S i a (kq (sz N S i) c) = (if c = 7 + a then 1 else 0) + if c < sz N S i then mA N S i a c else 0 := by
  by_cases e : c < sz N S i
  · rw [kq_lt h7 e, if_neg (by omega), if_pos e]
    unfold mX
    rw [if_pos e]
    omega
  · rw [if_neg e]
    by_cases e2 : c < 7
    · have e3 : kq (sz N S i) c = 15 := by
        unfold kq
        rw [if_pos e2, if_neg e]
      rw [e3, if_neg (by omega)]
      unfold mX
      rw [if_neg (by omega), if_neg (by decide), if_neg (by omega)]
      rfl
    · have e3 : kq (sz N S i) c = c + 13 := if_neg e2
      rw [e3]
      unfold mX
      rw [if_neg (by omega), if_neg (by omega)]
      by_cases e4 : c = 7 + a
      · rw [if_pos e4, if_pos (by omega)]
        rfl
      · rw [if_neg e4, if_neg (by omega)]
        rfl
section ML
variable {N S M : Mm} {z i : Nat}
theorem w140 {P : Int × Mm → Prop} (hN : NC N) (hM : nMd N M) (hz : z + 72 ≤ 36400) (hon : ∀ w, w < 14 → M 144 (z + w) = S 0 w) (hl : ∀ s : Nat, s < nN N → M 158 s = isl N S s) (hi : i < nN N) (hroot : isl N S i = i)
    (k : ∀ M2 : Mm, (∀ b, b ≠ 164 → b ≠ 165 → M2 b = M b) → (∀ s : Nat, s < nN N → M2 165 s = mP N S i s) → (∀ a c, a < sz N S i → c < 14 → M2 164 (14 * a + c) = mX N S i a (kq (sz N S i) c)) → P (sz N S i, M2)) : Wp (f140 z i M) P := by
  have h8 := hN.n8
  have h14 := hN.w14
  have h7 := sz_7 (S := S) hN hi
  unfold f140 f140_5
  let I1 : Nat → Int → Int → Mm → Prop := fun m x y M2 => 0 ≤ y ∧ y ≤ nN N ∧ (m : Int) = nN N - y ∧ x = pl N S i y.toNat ∧ (∀ b, b ≠ 165 → M2 b = M b) ∧ ∀ s : Nat, (s : Int) < y → M2 165 s = mP N S i s
  refine wp_lp3 I1 (nN N) (by omega) ⟨by omega, by omega, by omega, rfl, fun _ _ => rfl, fun s hs => by omega⟩ ?_
  rintro m x y M1 ⟨a1, a2, a3, a4, a6, a7⟩
  dsimp only
  unfold lb140_5
  rw [a6 142 (by decide), hM.1, hN.n]
  refine wp_ite (fun c => ?_) (fun c => wp_o ?_)
  · obtain ⟨u, rfl⟩ := Int.eq_ofNat_of_zero_le a1
    rw [Int.toNat_natCast] at a4
    have hpu := pl_le (N := N) (S := S) (i := i) u
    refine wp_gd (by omega) (wp_mlet ?_)
    rw [Int.toNat_natCast, ms_a (by decide : (158 : Nat) ≠ 165), a6 158 (by decide), hl u (by omega)]
    have skip : ¬ (isl N S u = i ∧ u ≠ i) → Wp (f140_53 z i x u (ms M1 165 u (-1))) (Sum.elim (up3 I1 m) P) := fun hne => by
      unfold f140_53
      refine wp_gd (by omega) (wp_i3 (m - 1) (by omega) ⟨by omega, by omega, by omega, ?_, fun b hb => (ms_a hb).trans (a6 b hb), fun s hs => ?_⟩)
      · rw [show ((u : Int) + 1).toNat = u + 1 by omega, pl, if_neg hne]
        exact a4
      · by_cases e : s = u
        · rw [e, ms_v]
          exact (if_neg hne).symm
        · rw [ms_i e]
          exact a7 s (by omega)
    refine wp_ite (fun c2 => wp_ite (fun c3 => skip (fun z => z.2 (by omega))) (fun c3 => wp_mlet (wp_gd (by omega) ?_))) (fun c2 => skip (fun z => c2 (by rw [z.1])))
    unfold f140_53
    refine wp_gd (by omega) (wp_i3 (m - 1) (by omega) ⟨by omega, by omega, by omega, ?_, fun b hb => (ms_a hb).trans ((ms_a hb).trans (a6 b hb)), fun s hs => ?_⟩)
    · rw [show ((u : Int) + 1).toNat = u + 1 by omega, pl, if_pos ⟨by omega, by omega⟩]
      omega
    · by_cases e : s = u
      · rw [e, ms_v, a4]
        exact (if_pos ⟨by omega, by omega⟩).symm
      · rw [ms_i e, ms_i e]
        exact a7 s (by omega)
  have ey : y.toNat = nN N := by omega
  rw [ey] at a4
  have a4' : x = sz N S i := a4
  subst a4'
  clear a4
  have b7 : ∀ s : Nat, s < nN N → M1 165 s = mP N S i s := fun s hs => a7 s (by omega)
  clear a1 a2 a3 a7 c ey
  unfold f140_62
  refine wp_lp2 (fun m y M2 => 0 ≤ y ∧ y ≤ 98 ∧ (m : Int) = 98 - y ∧ (∀ b, b ≠ 164 → M2 b = M1 b) ∧ ∀ j : Nat, (j : Int) < y → M2 164 j = 0) 98 (by omega) ⟨by omega, by omega, by omega, fun _ _ => rfl, fun j hj => by omega⟩ ?_
  clear m y
  rintro m y M2 ⟨a1, a2, a3, a4, a5⟩
  dsimp only
  unfold lb140_62
  refine wp_ite (fun c => ?_) (fun c => wp_o ?_)
  · refine wp_gd (by omega) (wp_mlet (wp_gd (by omega) (wp_i2 (m - 1) (by omega) ⟨by omega, by omega, by omega, fun b hb => (ms_a hb).trans (a4 b hb), fun j hj => ?_⟩)))
    by_cases e : j = y.toNat
    · rw [e, ms_v]
    · rw [ms_i e]
      exact a5 j (by omega)
  have d5 : ∀ j : Nat, j < 98 → M2 164 j = 0 := fun j hj => a5 j (by omega)
  have d4 := a4
  clear a1 a2 a3 a4 a5 c
  unfold f140_86
  refine wp_lp2 (fun m y M3 => 0 ≤ y ∧ y ≤ sz N S i ∧ (m : Int) = sz N S i - y ∧ (∀ b, b ≠ 164 → M3 b = M1 b) ∧ ∀ a c : Nat, a < 7 → c < 14 → M3 164 (14 * a + c) = if (a : Int) < y ∧ c = 7 + a then 1 else 0) (sz N S i) (by omega) ⟨by omega, by omega, by omega, d4, fun a c ha hc => by rw [if_neg (by omega)]; exact d5 _ (by omega)⟩ ?_
  clear m y
  rintro m y M3 ⟨a1, a2, a3, a4, a5⟩
  dsimp only
  unfold lb140_86
  refine wp_ite (fun c => ?_) (fun c => wp_o ?_)
  · obtain ⟨u, rfl⟩ := Int.eq_ofNat_of_zero_le a1
    rw [show (14 * (u : Int) + 7 + u).toNat = 14 * u + (7 + u) by omega]
    refine wp_gd (by omega) (wp_gd (by omega) (wp_gd (by omega) (wp_gd (by omega) (wp_mlet (wp_gd (by omega) (wp_i2 (m - 1) (by omega) ⟨by omega, by omega, by omega, fun b hb => (ms_a hb).trans (a4 b hb), fun a c ha hc => ?_⟩))))))
    by_cases e : a = u ∧ c = 7 + u
    · rw [e.1, e.2, ms_v, if_pos ⟨by omega, rfl⟩]
    · rw [ms_i (by omega), a5 a c ha hc]
      by_cases e2 : (a : Int) < u ∧ c = 7 + a
      · rw [if_pos e2, if_pos ⟨by omega, e2.2⟩]
      · rw [if_neg e2, if_neg (by omega)]
  have ey : y = sz N S i := by omega
  have g5 : ∀ a c : Nat, a < sz N S i → c < 14 → M3 164 (14 * a + c) = if c = 7 + a then 1 else 0 := fun a c ha hc => by
    rw [a5 a c (by omega) hc]
    by_cases e : c = 7 + a
    · rw [if_pos ⟨by omega, e⟩, if_pos e]
    · rw [if_neg (fun q => e q.2), if_neg e]
  have g4 : ∀ b, b ≠ 164 → M3 b = M1 b := a4
  clear a1 a2 a3 a4 a5 c ey d4 d5
  unfold f140_118
  let I3 : Nat → Int → Mm → Prop := fun m y M4 => 0 ≤ y ∧ y ≤ nW N ∧ (m : Int) = nW N - y ∧ (∀ b, b ≠ 164 → M4 b = M1 b) ∧ ∀ a c : Nat, a < sz N S i → c < 14 → M4 164 (14 * a + c) = (if c = 7 + a then 1 else 0) + if c < sz N S i then sm (fun w => wt N S i w a c) y.toNat else 0
  refine wp_lp2 I3 (nW N) (by omega) ⟨by omega, by omega, by omega, g4, fun a c ha hc => ?_⟩ ?_
  · rw [g5 a c ha hc]
    have : (if c < sz N S i then sm (fun w => wt N S i w a c) (0 : Int).toNat else 0) = 0 := by split <;> rfl
    rw [this, Int.add_zero]
  clear m y
  rintro m y M4 ⟨f1, f2, f3', f5, f6⟩
  dsimp only
  unfold lb140_118
  have fb : ∀ b, b ≠ 164 → b ≠ 165 → M4 b = M b := fun b h1 h2 => (f5 b h1).trans (a6 b h2)
  rw [fb 142 (by decide) (by decide), hM.2.1, hN.w, fb 144 (by decide) (by decide), fb 147 (by decide) (by decide), fb 148 (by decide) (by decide), fb 158 (by decide) (by decide), fb 149 (by decide) (by decide), f5 165 (by decide)]
  refine wp_ite (fun c => ?_) (fun c => wp_o (wp_some ?_))
  · obtain ⟨w, rfl⟩ := Int.eq_ofNat_of_zero_le f1
    rw [Int.toNat_natCast] at f6
    have hw : w < nW N := by omega
    have hcw := hN.cw w hw
    have hmw := hM.2.2.2.2.1 w hw
    have fin : ∀ M5 : Mm, (∀ b, b ≠ 164 → M5 b = M1 b) → (∀ a c : Nat, a < sz N S i → c < 14 → M5 164 (14 * a + c) = M4 164 (14 * a + c) + if c < sz N S i then wt N S i w a c else 0) → Wp (f140_303 z i (sz N S i) w M5) (Sum.elim (up2 I3 m) P) := fun M5 q1 q2 => by
      unfold f140_303
      refine wp_gd (by omega) (wp_i2 (m - 1) (by omega) ⟨by omega, by omega, by omega, q1, fun a c ha hc => ?_⟩)
      rw [q2 a c ha hc, f6 a c ha hc, show ((w : Int) + 1).toNat = w + 1 by omega]
      by_cases e : c < sz N S i
      · rw [if_pos e, if_pos e, if_pos e]
        show _ = _ + (sm _ w + wt N S i w a c)
        omega
      · rw [if_neg e, if_neg e, if_neg e]
        omega
    have skip : ¬ (S 0 w = 0 ∧ isl N S (eA N w) = i) → Wp (f140_303 z i (sz N S i) w M4) (Sum.elim (up2 I3 m) P) := fun hne => by
      refine fin M4 f5 (fun a c ha hc => ?_)
      have : wt N S i w a c = 0 := if_neg hne
      rw [this]
      split <;> omega
    rw [show ((z : Int) + w).toNat = z + w by omega, hon w (by omega), Int.toNat_natCast, hmw.1, hcw.1.1, Int.toNat_natCast, hl _ hcw.1.2, hmw.2.1, hcw.2.1.1, Int.toNat_natCast, b7 _ hcw.1.2, b7 _ hcw.2.1.2, hmw.2.2.1]
    refine wp_gd (by omega) (wp_gd (by omega) (wp_ite (fun d2 => wp_gd (by omega) (wp_gd (by omega) (wp_ite (fun d3 => ?_) (fun d3 => skip (fun q => d3 (by rw [q.2])))))) (fun d2 => skip (fun q => d2 q.1))))
    have hin : S 0 w = 0 ∧ isl N S (eA N w) = i := ⟨d2, by omega⟩
    have hB := way_in hN hw hin
    have he := hcw.2.2.2.1
    have hwt : ∀ a c, wt N S i w a c = N 16 w * ((dl (ep N S i (eA N w)) a - dl (ep N S i (eB N w)) a) * (dl (ep N S i (eA N w)) c - dl (ep N S i (eB N w)) c)) := fun a c => if_pos hin
    have z50 : ∀ a, a < 14 → dl 50 a = 0 := fun a ha => if_neg (by omega)
    have zhi : ∀ p c, p < sz N S i → ¬ c < sz N S i → dl p c = 0 := fun p c hp hc => if_neg (by omega)
    have hX : ∀ a c : Nat, a < sz N S i → c < sz N S i → -84 ≤ M4 164 (14 * a + c) ∧ M4 164 (14 * a + c) ≤ 84 := fun a c ha hc => by
      rw [f6 a c ha (by omega), if_neg (by omega), if_pos hc]
      have := mA_b (S := S) (i := i) (r := a) (c := c) hN (v := w) (by omega)
      omega
    refine wp_gd (by omega) ?_
    by_cases eA' : eA N w = i
    · have eB' : eB N w ≠ i := fun q => hcw.2.2.1 (by omega)
      have hb := ep_lt hcw.2.1.2 hB eB'
      have hpa : mP N S i (eA N w) = -1 := if_neg (fun q => q.2 eA')
      have hpb : mP N S i (eB N w) = (pl N S i (eB N w) : Int) := if_pos ⟨hB, eB'⟩
      have ea50 : ep N S i (eA N w) = 50 := by rw [eA']; exact ep_root
      rw [hpa, hpb]
      refine wp_pos rfl ?_
      unfold f140_213
      rw [show (15 * (pl N S i (eB N w) : Int)).toNat = 14 * pl N S i (eB N w) + pl N S i (eB N w) by omega, fb 149 (by decide) (by decide), Int.toNat_natCast, hmw.2.2.1]
      have hx := hX _ _ hb.2 hb.2
      refine wp_neg (by omega) (wp_gd (by omega) (wp_gd (by omega) (wp_gd (by omega) (wp_gd ⟨by omega, by omega⟩ (wp_mlet ?_)))))
      unfold f140_240
      refine wp_pos rfl (fin _ (fun b hb2 => (ms_a hb2).trans (f5 b hb2)) (fun a c ha hc => ?_))
      rw [ad_v, dl_mulN (by omega) hc, hwt, ea50, hb.1, z50 a (by omega), z50 c hc]
      by_cases ec : c < sz N S i
      · rw [if_pos ec]
        simp only [Int.zero_sub, Int.neg_mul_neg]
      · rw [if_neg ec, zhi _ c hb.2 ec, Int.mul_zero, Int.mul_zero]
    · have ha := ep_lt hcw.1.2 hin.2 eA'
      have hpa : mP N S i (eA N w) = (pl N S i (eA N w) : Int) := if_pos ⟨hin.2, eA'⟩
      have hx := hX _ _ ha.2 ha.2
      rw [hpa, show (15 * (pl N S i (eA N w) : Int)).toNat = 14 * pl N S i (eA N w) + pl N S i (eA N w) by omega]
      refine wp_neg (by omega) (wp_gd (by omega) (wp_gd (by omega) (wp_gd ⟨by omega, by omega⟩ (wp_mlet ?_))))
      have v1 : ∀ a c, c < 14 → ms M4 164 (14 * pl N S i (eA N w) + pl N S i (eA N w)) (M4 164 (14 * pl N S i (eA N w) + pl N S i (eA N w)) + N 16 w) 164 (14 * a + c) = M4 164 (14 * a + c) + N 16 w * (dl (pl N S i (eA N w)) a * dl (pl N S i (eA N w)) c) := fun a c hc => by rw [ad_v, dl_mulN (by omega) hc]
      generalize hM5 : ms M4 164 (14 * pl N S i (eA N w) + pl N S i (eA N w)) (M4 164 (14 * pl N S i (eA N w) + pl N S i (eA N w)) + N 16 w) = M5 at *
      have e5 : ∀ b, b ≠ 164 → M5 b = M1 b := fun b hb => by rw [← hM5, ms_a hb]; exact f5 b hb
      have e149 : M5 149 = M 149 := (e5 149 (by decide)).trans (a6 149 (by decide))
      have bd1 : ∀ {p q : Nat}, -3 ≤ N 16 w * (dl p q * dl p q) ∧ N 16 w * (dl p q * dl p q) ≤ 3 := fun {p q} => by
        rcases dl_01 p q with h | h <;> rw [h] <;> omega
      have bd2 : ∀ (p q a c : Nat), 0 ≤ N 16 w * (dl p a * dl q c) ∧ N 16 w * (dl p a * dl q c) ≤ 3 := fun p q a c => by
        rcases dl_01 p a with h | h <;> rcases dl_01 q c with h2 | h2 <;> rw [h, h2] <;> omega
      unfold f140_213
      by_cases eB' : eB N w = i
      · have hpb : mP N S i (eB N w) = -1 := if_neg (fun q => q.2 eB')
        have eb50 : ep N S i (eB N w) = 50 := by rw [eB']; exact ep_root
        rw [hpb]
        refine wp_pos rfl ?_
        unfold f140_240
        refine wp_neg (by omega) (wp_pos rfl (fin _ e5 (fun a c ha2 hc => ?_)))
        rw [v1 a c hc, hwt, eb50, ha.1, z50 a (by omega), z50 c hc]
        by_cases ec : c < sz N S i
        · rw [if_pos ec]
          simp only [Int.sub_zero]
        · rw [if_neg ec, zhi _ c ha.2 ec, Int.mul_zero, Int.mul_zero]
      · have hb := ep_lt hcw.2.1.2 hB eB'
        have hpb : mP N S i (eB N w) = (pl N S i (eB N w) : Int) := if_pos ⟨hB, eB'⟩
        rw [hpb, show (15 * (pl N S i (eB N w) : Int)).toNat = 14 * pl N S i (eB N w) + pl N S i (eB N w) by omega, e149, Int.toNat_natCast, hmw.2.2.1]
        have hx2 : -90 ≤ M5 164 (14 * pl N S i (eB N w) + pl N S i (eB N w)) ∧ M5 164 (14 * pl N S i (eB N w) + pl N S i (eB N w)) ≤ 90 := by
          rw [v1 _ _ (by omega)]
          have q1 := hX _ _ hb.2 hb.2
          have q2 := bd2 (pl N S i (eA N w)) (pl N S i (eA N w)) (pl N S i (eB N w)) (pl N S i (eB N w))
          omega
        refine wp_neg (by omega) (wp_gd (by omega) (wp_gd (by omega) (wp_gd (by omega) (wp_gd ⟨by omega, by omega⟩ (wp_mlet ?_)))))
        have v2 : ∀ a c, c < 14 → ms M5 164 (14 * pl N S i (eB N w) + pl N S i (eB N w)) (M5 164 (14 * pl N S i (eB N w) + pl N S i (eB N w)) + N 16 w) 164 (14 * a + c) = M5 164 (14 * a + c) + N 16 w * (dl (pl N S i (eB N w)) a * dl (pl N S i (eB N w)) c) := fun a c hc => by rw [ad_v, dl_mulN (by omega) hc]
        generalize hM6 : ms M5 164 (14 * pl N S i (eB N w) + pl N S i (eB N w)) (M5 164 (14 * pl N S i (eB N w) + pl N S i (eB N w)) + N 16 w) = M6 at *
        have e6 : ∀ b, b ≠ 164 → M6 b = M1 b := fun b hb => by rw [← hM6, ms_a hb]; exact e5 b hb
        have e149' : M6 149 = M 149 := (e6 149 (by decide)).trans (a6 149 (by decide))
        unfold f140_240
        rw [show (14 * (pl N S i (eA N w) : Int) + pl N S i (eB N w)).toNat = 14 * pl N S i (eA N w) + pl N S i (eB N w) by omega, show (14 * (pl N S i (eB N w) : Int) + pl N S i (eA N w)).toNat = 14 * pl N S i (eB N w) + pl N S i (eA N w) by omega, e149', Int.toNat_natCast, hmw.2.2.1]
        have hx3 : ∀ a c, a < sz N S i → c < sz N S i → -100 ≤ M6 164 (14 * a + c) ∧ M6 164 (14 * a + c) ≤ 100 := fun a c ha2 hc2 => by
          rw [v2 _ _ (by omega), v1 _ _ (by omega)]
          have q1 := hX a c ha2 hc2
          have q2 := bd2 (pl N S i (eA N w)) (pl N S i (eA N w)) a c
          have q3 := bd2 (pl N S i (eB N w)) (pl N S i (eB N w)) a c
          omega
        have hx4 := hx3 _ _ ha.2 hb.2
        refine wp_neg (by omega) (wp_neg (by omega) (wp_gd (by omega) (wp_gd (by omega) (wp_gd (by omega) (wp_gd (by omega) (wp_gd ⟨by omega, by omega⟩ (wp_mlet ?_)))))))
        have v3 : ∀ a c, c < 14 → ms M6 164 (14 * pl N S i (eA N w) + pl N S i (eB N w)) (M6 164 (14 * pl N S i (eA N w) + pl N S i (eB N w)) - N 16 w) 164 (14 * a + c) = M6 164 (14 * a + c) - N 16 w * (dl (pl N S i (eA N w)) a * dl (pl N S i (eB N w)) c) := fun a c hc => by rw [sb_v, dl_mulN (by omega) hc]
        generalize hM7 : ms M6 164 (14 * pl N S i (eA N w) + pl N S i (eB N w)) (M6 164 (14 * pl N S i (eA N w) + pl N S i (eB N w)) - N 16 w) = M7 at *
        have e7 : ∀ b, b ≠ 164 → M7 b = M1 b := fun b hb => by rw [← hM7, ms_a hb]; exact e6 b hb
        have e149'' : M7 149 = M 149 := (e7 149 (by decide)).trans (a6 149 (by decide))
        have hx5 : -103 ≤ M7 164 (14 * pl N S i (eB N w) + pl N S i (eA N w)) ∧ M7 164 (14 * pl N S i (eB N w) + pl N S i (eA N w)) ≤ 103 := by
          rw [v3 _ _ (by omega)]
          have q1 := hx3 _ _ hb.2 ha.2
          have q2 := bd2 (pl N S i (eA N w)) (pl N S i (eB N w)) (pl N S i (eB N w)) (pl N S i (eA N w))
          omega
        rw [e149'', hmw.2.2.1]
        refine wp_gd (by omega) (wp_gd (by omega) (wp_gd (by omega) (wp_gd ⟨by omega, by omega⟩ (wp_mlet (fin _ (fun b hb2 => (ms_a hb2).trans (e7 b hb2)) (fun a c ha2 hc => ?_))))))
        rw [sb_v, dl_mulN (by omega) hc, v3 a c hc, v2 a c hc, v1 a c hc, hwt, ha.1, hb.1]
        by_cases ec : c < sz N S i
        · rw [if_pos ec]
          simp only [Int.mul_sub, Int.sub_mul]
          omega
        · rw [if_neg ec, zhi _ c ha.2 ec, zhi _ c hb.2 ec]
          simp only [Int.mul_zero]
          omega
  · have hy : y.toNat = nW N := by omega
    rw [hy] at f6
    refine k M4 (fun b h1 h2 => fb b h1 h2) (fun s hs => by rw [f5 165 (by decide)]; exact b7 s hs) (fun a c ha hc => ?_)
    rw [f6 a c ha hc, mX_kq h7 ha hc]
    rfl
end ML
