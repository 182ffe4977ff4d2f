theorem w118 {x y : Int} {M : Mm} {P : Int → Prop} (h0 : 0 ≤ x) (h1 : x < 2147483648) (hy : 0 ≤ y) (hy2 : y < 32) (k : P (if tb x y.toNat then 1 else 0)) : Wp (f118 x y M) P := by
  unfold f118
  rw [bT h0 h1 hy hy2]
  cases h : tb x y.toNat
  · rw [h] at k
    exact wp_neg (by decide) (wp_some k)
  · rw [h] at k
    exact wp_pos (by decide) (wp_some k)
section MG
variable {N S M : Mm} {D : Nat → Int} {z i : Nat}
/-- what the second object's giving of one island does -/
theorem w112 {P : Mm → Prop} (hN : NC N) (hS : sV N S) (hM : nMd N M) (h : mS N S M D z) (hi : i < nN N) (hD : ∀ s, D s = 0 ∨ D s = 1) (h0 : ∀ x : Nat, x < nK N → isl N S (aK N x) = i → M 159 x = 0)
    (k : ∀ M2 : Mm, (∀ b, b ≠ 159 → b ≠ 160 → M2 b = M b) → (∀ j : Nat, M2 160 j = if j = i then mostI N S i - litI N S D i else M 160 j) →
      (∀ x : Nat, x < nK N → M2 159 x = if isl N S (aK N x) = i then gvF N (wkL N S i (nK N)) (litI N S D i) x else M 159 x) → P M2) : Wp (f112 z i M) P := by
  have h8 := hN.n8
  have h9 := hN.k9
  have hz := h.1
  have hmo := mostI_b (S := S) (i := i) hN
  have hli := litI_b (i := i) (D := D) hN hS
  unfold f112
  refine wp_bind (w146 hN hS hM h hD (wp_bind (w148 hN hM h (wp_gd ⟨by omega, by omega⟩ (wp_gd (by omega) (wp_mlet ?_))))))
  rw [Int.toNat_natCast]
  unfold f112_24
  let M1 := ms M 160 i (mostI N S i - litI N S D i)
  let I : Nat → Int → Int → Mm → Prop := fun m left bits M2 => m ≤ nK N ∧ (∀ b, b ≠ 159 → M2 b = M1 b) ∧ 0 ≤ bits ∧ bits < (2 ^ nK N : Nat) ∧ left = rsF N (wkL N S i (nK N - m)) (litI N S D i) ∧ (∀ x : Nat, x < nK N → (tb bits x = true ↔ x ∈ wkL N S i (nK N - m))) ∧
    (∀ x : Nat, x < nK N → M2 159 x = if isl N S (aK N x) = i then gvF N (wkL N S i (nK N - m)) (litI N S D i) x else M 159 x)
  have hp1 : (1 : Int) ≤ (2 ^ nK N : Nat) := by
    have := Nat.one_le_two_pow (n := nK N)
    omega
  refine wp_lp3 I (nK N) (by omega) ⟨Nat.le_refl _, fun _ _ => rfl, Int.le_refl 0, by omega, ?_, fun x hx => ?_, fun x hx => ?_⟩ ?_
  · rw [Nat.sub_self]
    rfl
  · rw [Nat.sub_self, tb_zero]
    exact Iff.intro (fun q => absurd q (by decide)) (fun q => by cases q)
  · rw [Nat.sub_self, ms_a (by decide)]
    split
    · rename_i e
      exact h0 x hx e
    · rfl
  rintro m left bits M2 ⟨a1, a2, a3, a4, a5, a6, a7⟩
  dsimp only
  have hpk := pw2_k hN
  have hne : ∀ b, b ≠ 159 → b ≠ 160 → M2 b = M b := fun b hb hb2 => (a2 b hb).trans (ms_a hb2)
  have hM2 : nMd N M2 := hM.to (by rw [hne 142 (by decide) (by decide)]) (by rw [hne 142 (by decide) (by decide)]) (by rw [hne 142 (by decide) (by decide)]) (fun b h1 h2 => hne b (by omega) (by omega))
  have e144 : M2 144 = M 144 := hne 144 (by decide) (by decide)
  have e158 : M2 158 = M 158 := hne 158 (by decide) (by decide)
  have hrs := rsF_nn' (l := wkL N S i (nK N - m)) (L := litI N S D i) (wkL_pos hN (by omega)) hli.1
  unfold lb112_24 f112_30
  -- who is next
  let C : Nat → Prop := fun x => S 5 x = 1 ∧ isl N S (aK N x) = i ∧ x ∉ wkL N S i (nK N - m)
  let J : Nat → Int → Int → Prop := fun q best y => 0 ≤ y ∧ y ≤ nK N ∧ (q : Int) = nK N - y ∧ ((best = -1 ∧ ∀ s : Nat, (s : Int) < y → ¬ C s) ∨ ∃ b : Nat, best = b ∧ (b < nK N ∧ (b : Int) < y) ∧ C b ∧ ∀ s : Nat, (s : Int) < y → C s → s = b ∨ befP N b s)
  refine wp_lp2 J (nK N) (by omega) ⟨by omega, by omega, by omega, Or.inl ⟨rfl, fun s hs => by omega⟩⟩ ?_
  rintro q best y ⟨g1, g2, g3, g4⟩
  dsimp only
  unfold lb112_30
  rw [hM2.2.2.1, hN.k]
  refine wp_ite (fun d => ?_) (fun d => wp_o ?_)
  · obtain ⟨u, rfl⟩ := Int.eq_ofNat_of_zero_le g1
    have hu : u < nK N := by omega
    have hk := hN.ck u hu
    have hmk := hM2.2.2.2.2.2 u hu
    have skip : ¬ C u → Wp (f112_108 z i left bits best u M2) (Sum.elim (up2 J q) (Sum.elim (up3 I m) P)) := fun hne => by
      unfold f112_108
      refine wp_gd (by omega) (wp_i2 (q - 1) (by omega) ⟨by omega, by omega, by omega, ?_⟩)
      rcases g4 with ⟨e1, e2⟩ | ⟨b, e1, e2, e3, e4⟩
      · refine Or.inl ⟨e1, fun s hs => ?_⟩
        by_cases e : s = u
        · exact e ▸ hne
        · exact e2 s (by omega)
      · refine Or.inr ⟨b, e1, ⟨e2.1, by omega⟩, e3, fun s hs hin => ?_⟩
        by_cases e : s = u
        · exact (hne (e ▸ hin)).elim
        · exact e4 s (by omega) hin
    have take : C u → (∀ b : Nat, best = b → b < nK N → N 22 u < N 22 b) → Wp (f112_104 z i left bits u M2) (Sum.elim (up2 J q) (Sum.elim (up3 I m) P)) := fun hin hle => by
      unfold f112_104 f112_108
      refine wp_gd (by omega) (wp_i2 (q - 1) (by omega) ⟨by omega, by omega, by omega, Or.inr ⟨u, rfl, ⟨hu, by omega⟩, hin, fun s hs hs2 => ?_⟩⟩)
      by_cases e : s = u
      · exact Or.inl e
      · refine Or.inr ?_
        rcases g4 with ⟨e1, e2⟩ | ⟨b, e1, e2, e3, e4⟩
        · exact (e2 s (by omega) hs2).elim
        · have h1 := hle b e1 e2.1
          rcases e4 s (by omega) hs2 with q1 | q1
          · subst q1
            exact Or.inl h1
          · unfold befP at q1 ⊢
            omega
    refine wp_bind (w118 a3 (by omega) (by omega) (by omega) ?_)
    rw [Int.toNat_natCast]
    have htb := a6 u hu
    cases ht : tb bits u
    · rw [ht] at htb
      have hnin : u ∉ wkL N S i (nK N - m) := fun z => absurd (htb.mpr z) (by decide)
      refine wp_pos rfl (wp_gd (by omega) (wp_gd (by omega) (wp_gd (by omega) ?_)))
      rw [show ((z : Int) + 42 + u).toNat = z + 42 + u by omega, e144, h.2.1 u (by omega), hmk.1, hk.1.1, Int.toNat_natCast, e158, h.2.2.2.2 _ hk.1.2]
      refine wp_ite (fun c2 => wp_gd (by omega) (wp_gd (by omega) (wp_ite (fun c3 => ?_) (fun c3 => skip (fun z => c3 (by rw [z.2.1])))))) (fun c2 => skip (fun z => c2 z.1))
      have hC : C u := ⟨c2, by omega, hnin⟩
      refine wp_ite (fun c4 => take hC (fun b hb => by omega)) (fun c4 => ?_)
      rcases g4 with ⟨e1, e2⟩ | ⟨b, e1, e2, e3, e4⟩
      · exact (c4 e1).elim
      · subst e1
        rw [Int.toNat_natCast, hmk.2.2, (hM2.2.2.2.2.2 b e2.1).2.2]
        refine wp_gd (by omega) (wp_ite (fun c5 => take hC (fun b2 hb2 _ => ?_)) (fun c5 => ?_))
        · have : b = b2 := by omega
          rw [← this]
          exact c5
        · unfold f112_108
          refine wp_gd (by omega) (wp_i2 (q - 1) (by omega) ⟨by omega, by omega, by omega, Or.inr ⟨b, rfl, ⟨e2.1, by omega⟩, e3, fun s hs hs2 => ?_⟩⟩)
          by_cases e : s = u
          · rw [e]
            refine Or.inr ?_
            unfold befP
            omega
          · exact e4 s (by omega) hs2
    · rw [ht] at htb
      refine wp_neg (by decide) (skip (fun z => z.2.2 (htb.mp rfl)))
  · have hpos : ∀ p, p < nK N → (oP N p ∈ wkL N S i (nK N - m) ↔ p < nK N - m ∧ S 5 (oP N p) = 1 ∧ isl N S (aK N (oP N p)) = i) := fun p hp => by
      rw [wkL_mem]
      constructor
      · rintro ⟨p2, h1, h2, h3⟩
        have := oP_inj hN hp (by omega) h2
        subst this
        exact ⟨h1, h3⟩
      · rintro ⟨h1, h2⟩
        exact ⟨p, h1, rfl, h2⟩
    have hnext := wkL_next (N := N) (S := S) (i := i) (nK N) m (nK N - m) (by omega)
    refine wp_ite (fun c => wp_o (wp_some ?_)) (fun c => ?_)
    · rcases g4 with ⟨e1, e2⟩ | ⟨b, e1, _⟩
      · rcases hnext with ⟨f1, f2⟩ | ⟨p, f1, f2, f3, f4, f5⟩
        · refine k M2 hne (fun j => ?_) (fun x hx => ?_)
          · rw [a2 160 (by decide)]
            by_cases e : j = i
            · rw [if_pos e, e]
              exact ms_v
            · rw [if_neg e]
              exact ms_i e
          · rw [a7 x hx, f1]
        · have hp := (hN.cp.1 p f2).2
          exact (e2 (oP N p) (by omega) ⟨f4, f5, fun z => by have := ((hpos p f2).mp z).1; omega⟩).elim
      · omega
    · rcases g4 with ⟨e1, e2⟩ | ⟨b, e1, ⟨e2, _⟩, ⟨e3, e4, e5⟩, e6⟩
      · exact (c e1).elim
      · obtain ⟨pb, hpb, rfl⟩ := hN.cp.2.2 b e2
        have hpbj : nK N - m ≤ pb := by
          rcases Nat.lt_or_ge pb (nK N - m) with z1 | z1
          · exact (e5 ((hpos pb hpb).mpr ⟨z1, e3, e4⟩)).elim
          · exact z1
        rcases hnext with ⟨f1, f2⟩ | ⟨p, f1, f2, f3, f4, f5⟩
        · exact (f2 pb hpbj hpb ⟨e3, e4⟩).elim
        · have hp := (hN.cp.1 p f2).2
          have hnew : oP N p ∉ wkL N S i (nK N - m) := fun z => by have := ((hpos p f2).mp z).1; omega
          have hpp : pb = p := by
            rcases Nat.lt_trichotomy pb p with z1 | z1 | z1
            · have : oP N pb ∈ wkL N S i (p + 1) := wkL_mem.mpr ⟨pb, by omega, rfl, e3, e4⟩
              rw [f3] at this
              rcases List.mem_append.mp this with z2 | z2
              · exact (e5 z2).elim
              · exact oP_inj hN hpb f2 (List.mem_singleton.mp z2)
            · exact z1
            · rcases e6 (oP N p) (by omega) ⟨f4, f5, hnew⟩ with z2 | z2
              · exact (oP_inj hN f2 hpb z2).symm
              · exact (befP_asym z2 (hN.cp.2.1 p pb z1 hpb)).elim
          subst hpp
          subst e1
          have hm1 : nK N - (nK N - (pb + 1)) = pb + 1 := by omega
          have hpow : (2 ^ oP N pb : Nat) < (2 ^ nK N : Nat) := Nat.pow_lt_pow_right (by decide) e2
          have hp0 : (0 : Int) ≤ ((2 ^ oP N pb : Nat) : Int) := Int.natCast_nonneg _
          have hbl : bShl 1 (oP N pb : Int) = (2 ^ oP N pb : Nat) := by
            have := bL (y := (oP N pb : Int)) (by omega) (by omega)
            rw [Int.toNat_natCast] at this
            exact this
          have hbO := bO_lt (n := nK N) (x := bits) (y := bShl 1 (oP N pb : Int)) (by omega) a3 a4 (by omega) (by omega)
          have hmk := (hM2.2.2.2.2.2 _ e2).2.1
          have hmost := (hN.ck _ e2).2.1
          rw [Int.toNat_natCast, hmk]
          have step : ∀ v : Int, v = min (N 21 (oP N pb)) left → Wp (some (.inl (left - v, bOr bits (bShl 1 (oP N pb : Int)), ms M2 159 (oP N pb) v))) (Sum.elim (up3 I m) P) := fun v hv => by
            refine wp_i3 (nK N - (pb + 1)) (by omega) ⟨by omega, fun b hb => ?_, hbO.1, hbO.2, ?_, fun x hx => ?_, fun x hx => ?_⟩
            · rw [ms_a hb]
              exact a2 b hb
            · rw [hm1, f3, rsF_snoc, ← a5, hv]
            · rw [hm1, f3, tb_or a3 (by omega) (by omega) (by omega), tb_pow (by omega) (by omega), Int.toNat_natCast, List.mem_append, List.mem_singleton, ← a6 x hx, Bool.or_eq_true, decide_eq_true_iff]
              exact Iff.intro (fun z => z.imp id Eq.symm) (fun z => z.imp id Eq.symm)
            · rw [hm1, f3, gvF_snoc hnew, ← a5]
              by_cases e : x = oP N pb
              · rw [e, ms_v, if_pos e4, if_pos rfl, hv]
              · rw [ms_i e, a7 x hx, if_neg e]
          refine wp_gd (by omega) (wp_ite (fun c5 => wp_mlet ?_) (fun c5 => wp_mlet ?_))
          · rw [ms_v]
            exact wp_gd ⟨by omega, by omega⟩ (step _ (by omega))
          · rw [ms_v]
            exact wp_gd ⟨by omega, by omega⟩ (step _ (by omega))
end MG
