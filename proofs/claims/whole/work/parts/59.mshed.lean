section LS
variable {N S : Mm} {i : Nat}
theorem shL_in : ∀ {j s : Nat}, s ∈ shL N S i j ↔ ∃ p, p < j ∧ s = oR N p ∧ isl N S s = i ∧ S 4 s = 0 ∧ 0 < S 3 s
  | 0, s => Iff.intro (fun h => by cases h) (fun h => by obtain ⟨p, h, _⟩ := h; omega)
  | j + 1, s => by
    rw [shL]
    split
    · rename_i c
      rw [List.mem_cons, shL_in]
      constructor
      · rintro (h | ⟨p, h1, h2⟩)
        · subst h
          exact ⟨j, by omega, rfl, c⟩
        · exact ⟨p, by omega, h2⟩
      · rintro ⟨p, h1, h2, h3⟩
        by_cases e : p = j
        · subst e
          exact Or.inl h2
        · exact Or.inr ⟨p, by omega, h2, h3⟩
    · rename_i c
      rw [shL_in]
      constructor
      · rintro ⟨p, h1, h2⟩
        exact ⟨p, by omega, h2⟩
      · rintro ⟨p, h1, h2, h3⟩
        by_cases e : p = j
        · subst e
          subst h2
          exact (c h3).elim
        · exact ⟨p, by omega, h2, h3⟩
theorem shL_cons : ∀ {j : Nat}, shL N S i j ≠ [] → ∃ p, p < j ∧ shL N S i j = oR N p :: shL N S i p ∧ isl N S (oR N p) = i ∧ S 4 (oR N p) = 0 ∧ 0 < S 3 (oR N p)
  | 0, h => (h rfl).elim
  | j + 1, h => by
    by_cases c : isl N S (oR N j) = i ∧ S 4 (oR N j) = 0 ∧ 0 < S 3 (oR N j)
    · exact ⟨j, by omega, by rw [shL, if_pos c], c⟩
    · have e : shL N S i (j + 1) = shL N S i j := by rw [shL, if_neg c]
      rw [e] at h ⊢
      obtain ⟨p, h1, h2⟩ := shL_cons h
      exact ⟨p, by omega, h2⟩
theorem wkL_next (n : Nat) : ∀ m j : Nat, j + m = n → wkL N S i j = wkL N S i n ∧ (∀ p, j ≤ p → p < n → ¬ (S 5 (oP N p) = 1 ∧ isl N S (aK N (oP N p)) = i)) ∨ ∃ p, j ≤ p ∧ p < n ∧ wkL N S i (p + 1) = wkL N S i j ++ [oP N p] ∧ S 5 (oP N p) = 1 ∧ isl N S (aK N (oP N p)) = i
  | 0, j, h => Or.inl ⟨by rw [← h]; rfl, fun p h1 h2 => by omega⟩
  | m + 1, j, h => by
    by_cases c : S 5 (oP N j) = 1 ∧ isl N S (aK N (oP N j)) = i
    · exact Or.inr ⟨j, by omega, by omega, by rw [wkL, if_pos c], c⟩
    · have e : wkL N S i (j + 1) = wkL N S i j := by rw [wkL, if_neg c]
      rcases wkL_next n m (j + 1) (by omega) with ⟨h1, h2⟩ | ⟨p, h1, h2, h3, h4⟩
      · refine Or.inl ⟨by rw [← e]; exact h1, fun p g1 g2 => ?_⟩
        by_cases q : p = j
        · exact q ▸ c
        · exact h2 p (by omega) g2
      · exact Or.inr ⟨p, by omega, h2, by rw [← e]; exact h3, h4⟩
theorem befR_tot (a b : Nat) (h : a ≠ b) : befR N a b ∨ befR N b a := by
  unfold befR
  omega
theorem befR_asym {a b : Nat} (h : befR N a b) (g : befR N b a) : False := by
  unfold befR at h g
  omega
theorem befR_trans {a b c : Nat} (h : befR N a b) (g : befR N b c) : befR N a c := by
  unfold befR at h g ⊢
  omega
theorem befP_tot (a b : Nat) (h : a ≠ b) : befP N a b ∨ befP N b a := by
  unfold befP
  omega
theorem befP_asym {a b : Nat} (h : befP N a b) (g : befP N b a) : False := by
  unfold befP at h g
  omega
theorem befP_trans {a b c : Nat} (h : befP N a b) (g : befP N b c) : befP N a c := by
  unfold befP at h g ⊢
  omega
theorem sm_pos_ex {f : Nat → Int} : ∀ {n : Nat}, 0 < sm f n → ∃ s, s < n ∧ 0 < f s
  | 0, h => by
    have : (0 : Int) < 0 := h
    omega
  | n + 1, h => by
    by_cases e : 0 < f n
    · exact ⟨n, by omega, e⟩
    · have h2 : 0 < sm f n + f n := h
      obtain ⟨s, h3, h4⟩ := sm_pos_ex (f := f) (n := n) (by omega)
      exact ⟨s, by omega, h4⟩
end LS
/-- what the second object's state at z has of loads, runs and darkness -/
def mS (N S M : Mm) (D : Nat → Int) (z : Nat) : Prop := (z + 72 ≤ 36400) ∧ (∀ k, k < 9 → M 144 (z + 42 + k) = S 5 k) ∧ (∀ s, s < 8 → M 144 (z + 59 + s) = S 3 s) ∧ (∀ s, s < 8 → M 144 (z + 51 + s) = D s) ∧ ∀ s, s < nN N → M 158 s = isl N S s
section MD
variable {N S M : Mm} {D : Nat → Int} {z i : Nat}
theorem w145 {s : Nat} {P : Int → Prop} (h : mS N S M D z) (hs : s < 8) (k : P (if D s = 1 then 0 else S 3 s)) : Wp (f145 z s M) P := by
  have h1 := h.1
  unfold f145
  refine wp_gd (by omega) (wp_gd (by omega) (wp_gd (by omega) ?_))
  rw [show ((z : Int) + 51 + s).toNat = z + 51 + s by omega, show ((z : Int) + 59 + s).toNat = z + 59 + s by omega, h.2.2.2.1 s hs, h.2.2.1 s hs]
  refine wp_ite (fun c => ?_) (fun c => ?_)
  · rw [if_pos c] at k
    exact wp_some k
  · rw [if_neg c] at k
    exact wp_gd (by omega) (wp_gd (by omega) (wp_gd (by omega) (wp_some k)))
theorem w146 {P : Int → Prop} (hN : NC N) (hS : sV N S) (hM : nMd N M) (h : mS N S M D z) (hD : ∀ s, D s = 0 ∨ D s = 1) (k : P (litI N S D i)) : Wp (f146 z i M) P := by
  have h8 := hN.n8
  unfold f146 f146_5
  refine wp_lp2 (fun m x y => 0 ≤ y ∧ y ≤ nN N ∧ (m : Int) = nN N - y ∧ x = sm (fun s => if isl N S s = i ∧ D s = 0 then S 3 s else 0) y.toNat) (nN N) (by omega) ⟨by omega, by omega, by omega, rfl⟩ ?_
  rintro m x y ⟨a1, a2, a3, a4⟩
  dsimp only
  unfold lb146_5
  rw [hM.1, hN.n]
  refine wp_ite (fun c => ?_) (fun c => wp_o (wp_some ?_))
  · obtain ⟨u, rfl⟩ := Int.eq_ofNat_of_zero_le a1
    rw [Int.toNat_natCast] at a4
    have hu : u < nN N := by omega
    have hx : 0 ≤ x ∧ x ≤ 16000 := by
      have h1 := sm_nn (a := fun s => if isl N S s = i ∧ D s = 0 then S 3 s else 0) (n := u) (fun s _ => by
        have := hS.2.1 s (by omega)
        split <;> omega)
      have h2 := sm_const (f := fun s => if isl N S s = i ∧ D s = 0 then S 3 s else 0) (c := 2000) (n := u) (fun s _ => by
        have := hS.2.1 s (by omega)
        split <;> omega)
      omega
    have hlv := hS.2.1 u (by omega)
    have step : ∀ v : Int, v = (if isl N S u = i ∧ D u = 0 then S 3 u else 0) → (0 ≤ (u : Int) + 1 ∧ (u : Int) + 1 ≤ nN N ∧ ((m - 1 : Nat) : Int) = nN N - (u + 1) ∧ x + v = sm (fun s => if isl N S s = i ∧ D s = 0 then S 3 s else 0) ((u : Int) + 1).toNat) := fun v hv => by
      refine ⟨by omega, by omega, by omega, ?_⟩
      rw [show ((u : Int) + 1).toNat = u + 1 by omega, a4, hv]
      rfl
    rw [Int.toNat_natCast, h.2.2.2.2 u hu]
    refine wp_gd (by omega) (wp_ite (fun c2 => wp_bind (w145 h (by omega) ?_)) (fun c2 => ?_))
    · have hv : (if D u = 1 then (0 : Int) else S 3 u) = if isl N S u = i ∧ D u = 0 then S 3 u else 0 := by
        rcases hD u with q | q
        · rw [q, if_neg (by decide), if_pos ⟨by omega, rfl⟩]
        · rw [q, if_pos rfl, if_neg (fun z => absurd z.2 (by decide))]
      have hr : 0 ≤ (if D u = 1 then (0 : Int) else S 3 u) ∧ (if D u = 1 then (0 : Int) else S 3 u) ≤ 2000 := by split <;> omega
      exact wp_gd ⟨by omega, by omega⟩ (wp_gd (by omega) (wp_i2 (m - 1) (by omega) (step _ hv)))
    · exact wp_gd ⟨by omega, by omega⟩ (wp_gd (by omega) (wp_i2 (m - 1) (by omega) (step 0 (by rw [if_neg (fun z => c2 (by rw [z.1]))]))))
  · rw [a4, show y.toNat = nN N by omega]
    exact k
theorem w148 {P : Int → Prop} (hN : NC N) (hM : nMd N M) (h : mS N S M D z) (k : P (mostI N S i)) : Wp (f148 z i M) P := by
  have h8 := hN.n8
  have h9 := hN.k9
  have hz := h.1
  unfold f148 f148_5
  refine wp_lp2 (fun m x y => 0 ≤ y ∧ y ≤ nK N ∧ (m : Int) = nK N - y ∧ x = sm (fun k => if S 5 k = 1 ∧ isl N S (aK N k) = i then N 21 k else 0) y.toNat) (nK N) (by omega) ⟨by omega, by omega, by omega, rfl⟩ ?_
  rintro m x y ⟨a1, a2, a3, a4⟩
  dsimp only
  unfold lb148_5
  rw [hM.2.2.1, hN.k]
  refine wp_ite (fun c => ?_) (fun c => wp_o (wp_some ?_))
  · obtain ⟨u, rfl⟩ := Int.eq_ofNat_of_zero_le a1
    rw [Int.toNat_natCast] at a4
    have hu : u < nK N := by omega
    have hk := hN.ck u hu
    have hmk := hM.2.2.2.2.2 u hu
    have hx : 0 ≤ x ∧ x ≤ 45000 := by
      have h1 := sm_nn (a := fun k => if S 5 k = 1 ∧ isl N S (aK N k) = i then N 21 k else 0) (n := u) (fun k hk2 => by
        have := (hN.ck k (by omega)).2.1
        split <;> omega)
      have h2 := sm_const (f := fun k => if S 5 k = 1 ∧ isl N S (aK N k) = i then N 21 k else 0) (c := 5000) (n := u) (fun k hk2 => by
        have := (hN.ck k (by omega)).2.1
        split <;> omega)
      omega
    have step : ∀ v : Int, v = (if S 5 u = 1 ∧ isl N S (aK N u) = i then N 21 u else 0) → (0 ≤ (u : Int) + 1 ∧ (u : Int) + 1 ≤ nK N ∧ ((m - 1 : Nat) : Int) = nK N - (u + 1) ∧ x + v = sm (fun k => if S 5 k = 1 ∧ isl N S (aK N k) = i then N 21 k else 0) ((u : Int) + 1).toNat) := fun v hv => by
      refine ⟨by omega, by omega, by omega, ?_⟩
      rw [show ((u : Int) + 1).toNat = u + 1 by omega, a4, hv]
      rfl
    have skip : ¬ (S 5 u = 1 ∧ isl N S (aK N u) = i) → Wp (gd (R4 (x + 0)) (gd (R4 ((u : Int) + 1)) (some (.inl (x + 0, (u : Int) + 1))))) (Sum.elim (up2 (fun m (x y : Int) => 0 ≤ y ∧ y ≤ nK N ∧ (m : Int) = nK N - y ∧ x = sm (fun k => if S 5 k = 1 ∧ isl N S (aK N k) = i then N 21 k else 0) y.toNat) m) P) := fun hne =>
      wp_gd ⟨by omega, by omega⟩ (wp_gd (by omega) (wp_i2 (m - 1) (by omega) (step 0 (by rw [if_neg hne]))))
    refine wp_gd (by omega) (wp_gd (by omega) (wp_gd (by omega) ?_))
    rw [show ((z : Int) + 42 + u).toNat = z + 42 + u by omega, h.2.1 u (by omega), Int.toNat_natCast, hmk.1, hmk.2.1, hk.1.1, Int.toNat_natCast, h.2.2.2.2 _ hk.1.2]
    refine wp_ite (fun c2 => wp_gd (by omega) (wp_gd (by omega) (wp_ite (fun c3 => ?_) (fun c3 => skip ?_)))) (fun c2 => skip ?_)
    · exact wp_gd ⟨by omega, by omega⟩ (wp_gd (by omega) (wp_i2 (m - 1) (by omega) (step _ (by rw [if_pos ⟨c2, by omega⟩]))))
    · exact fun q => c3 (by rw [q.2])
    · exact fun q => c2 q.1
  · rw [a4, show y.toNat = nK N by omega]
    exact k
/-- what the second object's shedding of one island does -/
theorem w165 {l : List Nat} {P : Mm → Prop} (hN : NC N) (hS : sV N S) (hM : nMd N M) (h : mS N S M D z) (hi : i < nN N) (hD : ∀ s, D s = 0 ∨ D s = 1) (hDi : ∀ s, s < nN N → isl N S s = i → D s = S 4 s) (hDS : ∀ s, S 4 s ≤ D s)
    (hn : M 142 29 = l.length) (hls : ∀ j x : Nat, l[j]? = some x → M 163 j = x) (hct : (l.length : Int) = sm (fun s => D s - S 4 s) (nN N))
    (k : ∀ (M2 : Mm) (D2 : Nat → Int), (∀ b, b ≠ 142 → b ≠ 144 → b ≠ 163 → M2 b = M b) → (∀ j, j ≠ 29 → M2 142 j = M 142 j) → (∀ a, (a < z + 51 ∨ z + 59 ≤ a) → M2 144 a = M 144 a) → mS N S M2 D2 z → (∀ s, D2 s = 0 ∨ D2 s = 1) →
      (∀ s, D2 s = if s ∈ fall N S i then 1 else D s) → M2 142 29 = (l ++ fall N S i).length → (∀ j x : Nat, (l ++ fall N S i)[j]? = some x → M2 163 j = x) → (((l ++ fall N S i).length : Int) = sm (fun s => D2 s - S 4 s) (nN N)) → P M2) : Wp (f165 z i M) P := by
  have h8 := hN.n8
  have hL0 : litI N S D i = litI N S (S 4) i := litI_congr hDi
  unfold f165 f165_0
  let I : Nat → Mm → Prop := fun m M2 => m ≤ nN N ∧ (∀ b, b ≠ 142 → b ≠ 144 → b ≠ 163 → M2 b = M b) ∧ (∀ j, j ≠ 29 → M2 142 j = M 142 j) ∧ (∀ a, (a < z + 51 ∨ z + 59 ≤ a) → M2 144 a = M 144 a) ∧
    ∃ (done : List Nat) (D2 : Nat → Int), mS N S M2 D2 z ∧ (∀ s, D2 s = 0 ∨ D2 s = 1) ∧ fall N S i = done ++ shF S (mostI N S i) (shL N S i m) (litI N S D2 i) ∧ (∀ s, s ∈ done ↔ ∃ p : Nat, m ≤ p ∧ p < nN N ∧ s = oR N p ∧ isl N S s = i ∧ S 4 s = 0 ∧ 0 < S 3 s) ∧
      (∀ s, D2 s = if s ∈ done then 1 else D s) ∧ M2 142 29 = (l ++ done).length ∧ (∀ j x : Nat, (l ++ done)[j]? = some x → M2 163 j = x) ∧ (((l ++ done).length : Int) = sm (fun s => D2 s - S 4 s) (nN N))
  refine wp_lp1 I (nN N) (by omega) ⟨Nat.le_refl _, fun _ _ _ _ => rfl, fun _ _ => rfl, fun _ _ => rfl, [], D, h, hD, ?_, fun s => Iff.intro (fun q => (by cases q)) (fun ⟨p, q, q2, _⟩ => by omega), fun s => (by rw [if_neg (by intro q; cases q)]), ?_, ?_, ?_⟩ ?_
  · rw [hL0]
    rfl
  · rw [List.append_nil]
    exact hn
  · rw [List.append_nil]
    exact hls
  · rw [List.append_nil]
    exact hct
  rintro m M2 ⟨a1, a2, a3, a4, done, D2, b1, b2, b3, b4, b5, b6, b7, b8⟩
  unfold lb165_0
  have hM2 : nMd N M2 := hM.to (a3 3 (by decide)) (a3 4 (by decide)) (a3 5 (by decide)) (fun b h1 h2 => a2 b (by omega) (by omega) (by omega))
  have hz := h.1
  refine wp_bind (w148 hN hM2 b1 (wp_bind (w146 hN hS hM2 b1 b2 ?_)))
  refine wp_ite (fun c => ?_) (fun c => wp_o (wp_some ?_))
  · -- some may be shed
    have hcand : ∀ s, s < nN N → (isl N S s = i ∧ D2 s = 0 ∧ 0 < S 3 s ↔ s ∈ shL N S i m) := fun s hs => by
      rw [shL_in, b5 s]
      constructor
      · rintro ⟨q1, q2, q3⟩
        by_cases e : s ∈ done
        · rw [if_pos e] at q2
          exact absurd q2 (by decide)
        · rw [if_neg e, hDi s hs q1] at q2
          obtain ⟨p, hp, hps⟩ := hN.cr.2.2 s hs
          refine ⟨p, ?_, hps.symm, q1, q2, q3⟩
          rcases Nat.lt_or_ge p m with q | q
          · exact q
          · exact (e ((b4 s).mpr ⟨p, q, hp, hps.symm, q1, q2, q3⟩)).elim
      · rintro ⟨p, hp, hps, q1, q2, q3⟩
        refine ⟨q1, ?_, q3⟩
        rw [if_neg (fun e => by
          obtain ⟨p2, g1, g2, g3, _⟩ := (b4 s).mp e
          have := oR_inj hN (by omega) g2 (hps.symm.trans g3)
          omega), hDi s hs q1]
        exact q2
    have hne : shL N S i m ≠ [] := fun q => by
      have hmo := mostI_b (S := S) (i := i) hN
      obtain ⟨s, hs, hp⟩ := sm_pos_ex (f := fun s => if isl N S s = i ∧ D2 s = 0 then S 3 s else 0) (n := nN N) (by unfold litI at c; omega)
      split at hp
      · rename_i q2
        have := (hcand s hs).mp ⟨q2.1, q2.2, hp⟩
        rw [q] at this
        cases this
      · omega
    obtain ⟨p, p1, p2, p3⟩ := shL_cons hne
    have hp := hN.cr.1 p (by omega)
    unfold f165_20
    let J : Nat → Int → Int → Prop := fun q best y => 0 ≤ y ∧ y ≤ nN N ∧ (q : Int) = nN N - y ∧ ((best = -1 ∧ ∀ s : Nat, (s : Int) < y → s ∉ shL N S i m) ∨ ∃ b : Nat, best = b ∧ b < nN N ∧ b ∈ shL N S i m ∧ ∀ s : Nat, (s : Int) < y → s ∈ shL N S i m → s = b ∨ befR N s b)
    refine wp_lp2 J (nN N) (by omega) ⟨by omega, by omega, by omega, Or.inl ⟨rfl, fun s hs => by omega⟩⟩ ?_
    rintro q best y ⟨g1, g2, g3, g4⟩
    dsimp only
    unfold lb165_20
    rw [hM2.1, hN.n]
    refine wp_ite (fun d => ?_) (fun d => wp_o ?_)
    · obtain ⟨u, rfl⟩ := Int.eq_ofNat_of_zero_le g1
      have hu : u < nN N := by omega
      have skip : u ∉ shL N S i m → Wp (f165_74 z i best u M2) (Sum.elim (up2 J q) (Sum.elim (up1 I m) P)) := fun hne => by
        unfold f165_74
        refine wp_gd (by omega) (wp_i2 (q - 1) (by omega) ⟨by omega, by omega, by omega, ?_⟩)
        rcases g4 with ⟨e1, e2⟩ | ⟨b, e1, e2, e3, e4⟩
        · refine Or.inl ⟨e1, fun s hs => ?_⟩
          by_cases e : s = u
          · exact e ▸ hne
          · exact e2 s (by omega)
        · refine Or.inr ⟨b, e1, e2, e3, fun s hs hin => ?_⟩
          by_cases e : s = u
          · exact (hne (e ▸ hin)).elim
          · exact e4 s (by omega) hin
      have take : u ∈ shL N S i m → (∀ b : Nat, best = b → b < nN N → N 12 u ≤ N 12 b) → Wp (f165_71 z i u M2) (Sum.elim (up2 J q) (Sum.elim (up1 I m) P)) := fun hin hle => by
        unfold f165_71 f165_74
        refine wp_gd (by omega) (wp_i2 (q - 1) (by omega) ⟨by omega, by omega, by omega, Or.inr ⟨u, rfl, hu, hin, fun s hs hs2 => ?_⟩⟩)
        by_cases e : s = u
        · exact Or.inl e
        · refine Or.inr ?_
          rcases g4 with ⟨e1, e2⟩ | ⟨b, e1, e2, e3, e4⟩
          · exact (e2 s (by omega) hs2).elim
          · have h1 := hle b e1 e2
            rcases e4 s (by omega) hs2 with q1 | q1
            · subst q1
              unfold befR
              omega
            · unfold befR at q1 ⊢
              omega
      have hcu := hcand u hu
      rw [Int.toNat_natCast, b1.2.2.2.2 u hu]
      refine wp_gd (by omega) (wp_ite (fun c2 => wp_bind (w145 b1 (by omega) ?_)) (fun c2 => skip (fun q2 => c2 (by rw [(hcu.mpr q2).1]))))
      refine wp_ite (fun c3 => ?_) (fun c3 => skip (fun q2 => c3 ?_))
      · have hin : u ∈ shL N S i m := by
          refine hcu.mp ?_
          rcases b2 u with e | e
          · rw [e, if_neg (by decide)] at c3
            exact ⟨by omega, e, c3⟩
          · rw [e, if_pos rfl] at c3
            omega
        refine wp_ite (fun c4 => take hin (fun b hb => by omega)) (fun c4 => ?_)
        rcases g4 with ⟨e1, e2⟩ | ⟨b, e1, e2, e3, e4⟩
        · exact (c4 e1).elim
        · subst e1
          rw [Int.toNat_natCast, (hM2.2.2.2.1 b e2).2, (hM2.2.2.2.1 u hu).2]
          refine wp_gd (by omega) (wp_ite (fun c5 => ?_) (fun c5 => take hin (fun b2 hb2 _ => ?_)))
          · unfold f165_74
            refine wp_gd (by omega) (wp_i2 (q - 1) (by omega) ⟨by omega, by omega, by omega, Or.inr ⟨b, rfl, e2, e3, fun s hs hs2 => ?_⟩⟩)
            by_cases e : s = u
            · rw [e]
              exact Or.inr (Or.inl c5)
            · exact e4 s (by omega) hs2
          · have : b = b2 := by omega
            rw [← this]
            omega
      · have := hcu.mpr q2
        rw [this.2.1, if_neg (by decide)]
        exact this.2.2
    · have hc : best = oR N p := by
        have hpin : oR N p ∈ shL N S i m := by rw [p2]; exact List.mem_cons_self
        rcases g4 with ⟨e1, e2⟩ | ⟨b, e1, e2, e3, e4⟩
        · exact (e2 (oR N p) (by omega) hpin).elim
        · rw [e1]
          rcases e4 (oR N p) (by omega) hpin with q1 | q1
          · rw [q1]
          · rw [p2] at e3
            rcases List.mem_cons.mp e3 with q2 | q2
            · rw [q2]
            · obtain ⟨p4, h4, h5, _⟩ := shL_in.mp q2
              have := hN.cr.2.1 p4 p h4 (by omega)
              rw [← h5] at this
              exact (befR_asym q1 this).elim
      subst hc
      have hpl : oR N p < nN N := hp.2
      have hD20 : ∀ s, D2 s - S 4 s ≤ 1 := fun s => by
        have := b2 s
        have := hS.2.2.1 s
        omega
      have hin : oR N p ∈ shL N S i m := by rw [p2]; exact List.mem_cons_self
      have hDp := ((hcand _ hpl).mpr hin).2.1
      have hcap := sm_top (f := fun s => D2 s - S 4 s) hpl (fun s _ => hD20 s) (by omega)
      refine wp_gd (by omega) (wp_gd (by omega) (wp_gd (by omega) (wp_mlet ?_)))
      rw [show ((z : Int) + 51 + oR N p).toNat = z + 51 + oR N p by omega, ms_a (by decide : (142 : Nat) ≠ 144), b6]
      refine wp_gd (by omega) (wp_mlet ?_)
      rw [ms_a (by decide : (142 : Nat) ≠ 163), ms_a (by decide : (142 : Nat) ≠ 144), b6]
      refine wp_gd ⟨by omega, by omega⟩ (wp_mlet ?_)
      have hlen : (l ++ (done ++ [oR N p])).length = (l ++ done).length + 1 := by rw [← List.append_assoc, List.length_append]; rfl
      have hD4 : ∀ s, (if s ∈ done ++ [oR N p] then (1 : Int) else D s) = if s = oR N p then 1 else D2 s := fun s => by
        by_cases e : s = oR N p
        · rw [if_pos e, if_pos (List.mem_append.mpr (Or.inr (List.mem_singleton.mpr e)))]
        · rw [if_neg e, b5 s]
          by_cases e2 : s ∈ done
          · rw [if_pos e2, if_pos (List.mem_append.mpr (Or.inl e2))]
          · rw [if_neg e2, if_neg (fun z => by
              rcases List.mem_append.mp z with z | z
              · exact e2 z
              · exact e (List.mem_singleton.mp z))]
      refine wp_i1 p p1 ⟨by omega, fun b hb1 hb2 hb3 => ?_, fun j hj => ?_, fun a ha => ?_, done ++ [oR N p], fun s => if s ∈ done ++ [oR N p] then 1 else D s, ?_, fun s => ?_, ?_, fun s => ?_, fun s => rfl, ?_, fun j x hj => ?_, ?_⟩
      · rw [ms_a hb1, ms_a hb3, ms_a hb2]
        exact a2 b hb1 hb2 hb3
      · rw [ms_i hj, ms_a (by decide), ms_a (by decide)]
        exact a3 j hj
      · rw [ms_a (by decide), ms_a (by decide), ms_i (by omega)]
        exact a4 a ha
      · refine ⟨hz, fun k hk => ?_, fun s hs => ?_, fun s hs => ?_, fun s hs => ?_⟩
        · rw [ms_a (by decide), ms_a (by decide), ms_i (by omega)]
          exact b1.2.1 k hk
        · rw [ms_a (by decide), ms_a (by decide), ms_i (by omega)]
          exact b1.2.2.1 s hs
        · dsimp only
          rw [ms_a (by decide), ms_a (by decide), hD4 s]
          by_cases e : s = oR N p
          · rw [if_pos e, e, ms_v]
          · rw [if_neg e, ms_i (by omega)]
            exact b1.2.2.2.1 s hs
        · rw [ms_a (by decide), ms_a (by decide), ms_a (by decide)]
          exact b1.2.2.2.2 s hs
      · dsimp only
        rw [hD4 s]
        split
        · exact Or.inr rfl
        · exact b2 s
      · rw [b3, p2, shF, if_pos c, List.append_assoc, litI_less hpl p3.1 (D := D2) hDp hD4]
        rfl
      · rw [List.mem_append, List.mem_singleton, b4 s]
        constructor
        · rintro (⟨p4, h1, h2⟩ | h1)
          · exact ⟨p4, by omega, h2⟩
          · exact ⟨p, Nat.le_refl _, by omega, h1, h1 ▸ p3⟩
        · rintro ⟨p4, h1, h2, h3, h4⟩
          by_cases e : p4 < m
          · have hs : s ∈ shL N S i m := shL_in.mpr ⟨p4, e, h3, h4⟩
            rw [p2] at hs
            rcases List.mem_cons.mp hs with q1 | q1
            · exact Or.inr q1
            · obtain ⟨p5, h5, h6, _⟩ := shL_in.mp q1
              have := oR_inj hN h2 (by omega) (h3.symm.trans h6)
              omega
          · exact Or.inl ⟨p4, by omega, h2, h3, h4⟩
      · rw [ms_v, hlen]
        omega
      · rw [ms_a (by decide)]
        by_cases e : j = (l ++ done).length
        · subst e
          rw [← List.append_assoc, List.getElem?_append_right (Nat.le_refl _), Nat.sub_self] at hj
          have hx : oR N p = x := by
            injection hj
          rw [Int.toNat_natCast, ms_v, hx]
        · rw [Int.toNat_natCast, ms_i e, ms_a (by decide)]
          have hlt : j < (l ++ done).length := by
            have : j < (l ++ (done ++ [oR N p])).length := by
              rcases Nat.lt_or_ge j (l ++ (done ++ [oR N p])).length with q | q
              · exact q
              · rw [List.getElem?_eq_none q] at hj
                cases hj
            omega
          rw [← List.append_assoc, List.getElem?_append_left hlt] at hj
          exact b7 j x hj
      · rw [hlen]
        have := sm_upd (f := fun s => D2 s - S 4 s) (g := fun s => (if s ∈ done ++ [oR N p] then (1 : Int) else D s) - S 4 s) (n := nN N) (p := oR N p) (x := 1) hpl (fun s hs => by
          rw [hD4 s]
          by_cases e : s = oR N p
          · rw [if_pos e, if_pos e, e]
            omega
          · rw [if_neg e, if_neg e]
            omega)
        rw [this]
        omega
  · have he : fall N S i = done := by rw [b3, shF_no c]; exact List.append_nil _
    exact k M2 D2 a2 a3 a4 b1 b2 (fun s => by rw [he]; exact b5 s) (by rw [he]; exact b6) (by rw [he]; exact b7) (by rw [he]; exact b8)
end MD
