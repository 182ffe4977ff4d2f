/-! A minute goes: the first object's log and screens. -/
/-- a log with L behind its first e -/
def lgC (M0 M : Mm) (e n : Nat) (L : List (Int × Nat)) : Prop := (∀ b, (b < 98 ∨ 101 < b) → M b = M0 b) ∧ M 98 0 = min 400 (e + L.length : Nat) ∧ (∀ j, j < e → M 99 j = M0 99 j ∧ M 100 j = M0 100 j ∧ M 101 j = M0 101 j) ∧ ∀ (i : Nat) (p : Int × Nat), L[i]? = some p → e + i < 400 → M 99 (e + i) = p.1 ∧ M 100 (e + i) = p.2 ∧ M 101 (e + i) = n
theorem w205 {M0 M : Mm} {e n w : Nat} {k : Int} {L : List (Int × Nat)} {P : Mm → Prop} (he : e ≤ 400) (h : lgC M0 M e n L) (kk : ∀ M2 : Mm, lgC M0 M2 e n (L ++ [(k, w)]) → P M2) : Wp (f205 k w n M) P := by
  obtain ⟨h1, h2, h3, h4⟩ := h
  unfold f205
  rw [h2]
  refine wp_ite (fun c => ?_) (fun c => wp_some (kk M ⟨h1, ?_, h3, fun i p hi hl => ?_⟩))
  · have hmin : (min 400 (e + L.length) : Nat) = e + L.length := by omega
    rw [hmin] at c h2 ⊢
    rw [Int.toNat_natCast]
    refine wp_gd (by omega) (wp_mlet ?_)
    rw [ms_a (by decide : (98 : Nat) ≠ 99), h2, Int.toNat_natCast]
    refine wp_gd (by omega) (wp_mlet ?_)
    rw [ms_a (by decide : (98 : Nat) ≠ 100), ms_a (by decide : (98 : Nat) ≠ 99), h2, Int.toNat_natCast]
    refine wp_gd (by omega) (wp_mlet ?_)
    rw [ms_a (by decide : (98 : Nat) ≠ 101), ms_a (by decide : (98 : Nat) ≠ 100), ms_a (by decide : (98 : Nat) ≠ 99), h2]
    refine wp_gd (by omega) (wp_mlet (wp_some (kk _ ⟨fun b hb => ?_, ?_, fun j hj => ?_, fun i p hi hl => ?_⟩)))
    · rw [ms_a (by omega), ms_a (by omega), ms_a (by omega), ms_a (by omega)]
      exact h1 b hb
    · rw [ms_v, List.length_append]
      have : ([(k, w)] : List (Int × Nat)).length = 1 := rfl
      omega
    · rw [ms_a (by decide), ms_a (by decide), ms_a (by decide), ms_i (by omega), ms_a (by decide), ms_a (by decide), ms_i (by omega), ms_a (by decide), ms_a (by decide), ms_i (by omega), ms_a (by decide), ms_a (by decide)]
      exact h3 j hj
    · rw [ms_a (by decide), ms_a (by decide), ms_a (by decide), ms_a (by decide : (100 : Nat) ≠ 98), ms_a (by decide : (100 : Nat) ≠ 101), ms_a (by decide : (101 : Nat) ≠ 98)]
      by_cases e2 : i = L.length
      · subst e2
        rw [List.getElem?_append_right (Nat.le_refl _), Nat.sub_self] at hi
        have hp : (k, w) = p := by injection hi
        rw [ms_v, ms_v, ms_v, ← hp]
        exact ⟨rfl, rfl, rfl⟩
      · have hlt : i < L.length := by
          rcases Nat.lt_or_ge i (L ++ [(k, w)]).length with q | q
          · rw [List.length_append] at q
            have : ([(k, w)] : List (Int × Nat)).length = 1 := rfl
            omega
          · rw [List.getElem?_eq_none q] at hi
            cases hi
        rw [List.getElem?_append_left hlt] at hi
        rw [ms_i (by omega), ms_i (by omega), ms_i (by omega), ms_a (by decide), ms_a (by decide), ms_a (by decide)]
        exact h4 i p hi hl
  · rw [h2, List.length_append]
    omega
  · have hlt : i < L.length := by omega
    rw [List.getElem?_append_left hlt] at hi
    exact h4 i p hi hl
theorem flL_eq {f g : Nat → Bool} {kd : Int} {n : Nat} (h : ∀ w, g w = true ↔ (w < n ∧ f w = true)) : ∀ m, flL g kd m = flL f kd (min m n)
  | 0 => by rw [Nat.zero_min]; rfl
  | m + 1 => by
    have ih := flL_eq (kd := kd) h m
    rw [flL, ih]
    by_cases c : m < n
    · rw [show min (m + 1) n = m + 1 by omega, show min m n = m by omega, flL]
      by_cases e : f m = true
      · rw [if_pos e, if_pos ((h m).mpr ⟨c, e⟩)]
      · rw [if_neg e, if_neg (fun z => e ((h m).mp z).2)]
    · rw [if_neg (fun z => c ((h m).mp z).1), show min (m + 1) n = min m n by omega]
theorem w209 {M0 M : Mm} {e n : Nat} {k x : Int} {L : List (Int × Nat)} {P : Mm → Prop} (he : e ≤ 400) (hx : 0 ≤ x ∧ x < 2147483648) (h : lgC M0 M e n L) (kk : ∀ M2 : Mm, lgC M0 M2 e n (L ++ flL (fun w => tb x w) k 14) → P M2) : Wp (f209 k x n M) P := by
  unfold f209 f209_3
  refine wp_lp2 (fun m y M2 => ∃ w : Nat, y = w ∧ w ≤ 14 ∧ m = 14 - w ∧ lgC M0 M2 e n (L ++ flL (fun w => tb x w) k w)) 14 (by decide) ⟨0, rfl, by omega, rfl, by show lgC M0 M e n (L ++ []); rw [List.append_nil]; exact h⟩ ?_
  rintro m y M2 ⟨w, rfl, a1, a2, a3⟩
  dsimp only
  unfold lb209_3
  rw [bT hx.1 (by omega) (by omega) (by omega), Int.toNat_natCast]
  refine wp_ite (fun c => ?_) (fun c => wp_o (wp_some (kk M2 (by rw [show (14 : Nat) = w by omega]; exact a3))))
  unfold f209_28
  by_cases e2 : tb x w = true
  · rw [if_pos e2]
    refine wp_pos rfl (wp_bind (w205 he a3 (fun M3 b1 => wp_gd (by omega) (wp_i2 (m - 1) (by omega) ⟨w + 1, by omega, by omega, by omega, ?_⟩))))
    rw [flL, if_pos e2, ← List.append_assoc]
    exact b1
  · rw [if_neg e2]
    refine wp_neg (by decide) (wp_gd (by omega) (wp_i2 (m - 1) (by omega) ⟨w + 1, by omega, by omega, by omega, ?_⟩))
    rw [flL, if_neg e2]
    exact a3
section GO
variable {N S M M0 M2 : Mm} {c : Int} {K : Bool → (Nat → Int) → Bool}
/-- the first object's log of a minute -/
theorem w208 {e n : Nat} {P : Mm → Prop} (hN : NC N) (he : e ≤ 400) (h98 : M 98 0 = e) (hsg : sgR N S M 79) (h3 : ∀ w : Nat, (tb (M 73 3) w = true ↔ (w < nW N ∧ dnF N S c w = true))) (h4 : ∀ w : Nat, (tb (M 73 4) w = true ↔ (w < nW N ∧ trF N S K c w = true)))
    (h5 : ∀ w : Nat, (tb (M 73 5) w = true ↔ (w < nK N ∧ stF N S K w = true))) (hb : ∀ j, 3 ≤ j → j ≤ 5 → 0 ≤ M 73 j ∧ M 73 j < 16384) (kk : ∀ M2 : Mm, lgC M M2 e n (evL N S K c) → P M2) : Wp (f208 n M) P := by
  have h14 := hN.w14
  have h9 := hN.k9
  have hn8 := hN.n8
  have hf8 := falls_8 (S := S) hN
  obtain ⟨s1, s2⟩ := hsg.2.1
  have s2' : ∀ j x : Nat, (falls N S (nN N))[j]? = some x → M 80 j = x := s2
  unfold f208 f208_2
  refine wp_lp2 (fun m y M2 => ∃ j : Nat, y = j ∧ j ≤ (falls N S (nN N)).length ∧ m = (falls N S (nN N)).length - j ∧ lgC M M2 e n (((falls N S (nN N)).take j).map (fun x => ((0 : Int), x)))) (falls N S (nN N)).length (by omega) ⟨0, rfl, Nat.zero_le _, rfl, fun _ _ => rfl, by rw [h98]; show (e : Int) = ((min 400 (e + 0) : Nat) : Int); omega, fun _ _ => ⟨rfl, rfl, rfl⟩, fun i p hi _ => by cases hi⟩ ?_
  rintro m y M2 ⟨j, rfl, a1, a2, a3⟩
  dsimp only
  unfold lb208_2
  rw [a3.1 79 (by omega), a3.1 80 (by omega), a3.1 73 (by omega), s1]
  refine wp_ite (fun d => ?_) (fun d => wp_o ?_)
  · have hj : j < (falls N S (nN N)).length := by omega
    have hx := List.getElem?_eq_getElem hj
    rw [Int.toNat_natCast, s2' j _ hx]
    refine wp_gd (by omega) (wp_bind (w205 (w := (falls N S (nN N))[j]) he a3 (fun M3 b1 => wp_gd (by omega) (wp_i2 (m - 1) (by omega) ⟨j + 1, by omega, by omega, by omega, ?_⟩))))
    have htk : (falls N S (nN N)).take (j + 1) = (falls N S (nN N)).take j ++ [(falls N S (nN N))[j]] := by rw [List.take_add_one, hx]; rfl
    rw [htk, List.map_append]
    exact b1
  · rw [show j = (falls N S (nN N)).length by omega, List.take_length] at a3
    have b3 := hb 3 (by decide) (by decide)
    have b4 := hb 4 (by decide) (by decide)
    have b5 := hb 5 (by decide) (by decide)
    refine wp_bind (w209 (x := M 73 3) he (by omega) a3 (fun M3 c3 => ?_))
    rw [c3.1 73 (by omega)]
    refine wp_bind (w209 (x := M 73 4) he (by omega) c3 (fun M4 c4 => ?_))
    rw [c4.1 73 (by omega)]
    refine wp_bind (w209 (x := M 73 5) he (by omega) c4 (fun M5 c5 => wp_some (kk M5 ?_)))
    rw [flL_eq h3, flL_eq h4, flL_eq h5, show min 14 (nW N) = nW N by omega, show min 14 (nK N) = nK N by omega] at c5
    exact c5
theorem w218c {w k : Nat} {P : Int → Prop} (hN : NC N) (h : nCl N M) (hw : w < nW N) (k1 : shw N k w → P 1) (k0 : ¬ shw N k w → P 0) : Wp (f218 (w : Int) (k : Int) M) P := by
  have h14 := hN.w14
  have h8 := hN.n8
  have hc := hN.cw w hw
  unfold f218
  rw [Int.toNat_natCast, h.r (b := 14) (by decide) (by decide), h.r (b := 15) (by decide) (by decide), h.r (b := 11) (by decide) (by decide), hc.1.1, hc.2.1.1, Int.toNat_natCast, Int.toNat_natCast]
  exact wp_gd (by omega) (wp_gd (by omega) (wp_ite (fun d => wp_some (k1 (Or.inl d))) (fun d => wp_gd (by omega) (wp_ite (fun d2 => wp_some (k1 (Or.inr d2))) (fun d2 => wp_some (k0 (fun z => z.elim d d2)))))))
/-- a screen shows otherwise now -/
def othS (N S M : Mm) (k : Nat) : Prop := M 104 k ≠ -1 ∧ ∃ w, w < nW N ∧ shw N k w ∧ ((if tb (M 106 k) w then (1 : Int) else 0) ≠ (if S 0 w = 0 then 1 else 0) ∨ M (108 + k) w ≠ told N S w)
theorem w228 {k r3 r4 : Nat} (hN : NC N) (h : nCl N M) (hk : k < 4) (hs : ∀ w, w < 14 → M (r3 + 2) w = S 0 w) (ht : ∀ w : Nat, w < nW N → M (r4 + 5) w = told N S w) (h106 : M 104 k ≠ -1 → 0 ≤ M 106 k ∧ M 106 k < 16384) :
    Wp (f228 k r3 r4 M) (fun v => (v = 0 ∧ ¬ othS N S M k) ∨ (v = 1 ∧ othS N S M k)) := by
  have h14 := hN.w14
  unfold f228 f228_3
  refine wp_lp1 (fun n y => ∃ w : Nat, y = w ∧ w ≤ nW N ∧ n = nW N - w ∧ ∀ v, v < w → ¬ (M 104 k ≠ -1 ∧ shw N k v ∧ ((if tb (M 106 k) v then (1 : Int) else 0) ≠ (if S 0 v = 0 then 1 else 0) ∨ M (108 + k) v ≠ told N S v))) (nW N) (by omega) ⟨0, rfl, Nat.zero_le _, rfl, fun v hv => absurd hv (Nat.not_lt_zero _)⟩ ?_
  rintro n y ⟨w, rfl, a1, a2, a3⟩
  try dsimp only
  unfold lb228_3
  rw [h.1, hN.w]
  refine wp_ite (fun c => ?_) (fun c => wp_o (wp_some (Or.inl ⟨rfl, fun z => ?_⟩)))
  · have hw : w < nW N := by omega
    have next : ¬ (M 104 k ≠ -1 ∧ shw N k w ∧ ((if tb (M 106 k) w then (1 : Int) else 0) ≠ (if S 0 w = 0 then 1 else 0) ∨ M (108 + k) w ≠ told N S w)) → Wp (f228_100 k r3 r4 w M) (Sum.elim (up1 (fun n y => ∃ w : Nat, y = w ∧ w ≤ nW N ∧ n = nW N - w ∧ ∀ v, v < w → ¬ (M 104 k ≠ -1 ∧ shw N k v ∧ ((if tb (M 106 k) v then (1 : Int) else 0) ≠ (if S 0 v = 0 then 1 else 0) ∨ M (108 + k) v ≠ told N S v))) n) (fun v => (v = 0 ∧ ¬ othS N S M k) ∨ (v = 1 ∧ othS N S M k))) := fun z => by
      unfold f228_100
      refine wp_gd (by omega) (wp_i1 (n - 1) (by omega) ⟨w + 1, by omega, by omega, by omega, fun v hv => ?_⟩)
      by_cases e : v = w
      · rw [e]; exact z
      · exact a3 v (by omega)
    have w230 : ∀ P : Int → Prop, (M 104 k ≠ -1 ∧ shw N k w → P 1) → (¬ (M 104 k ≠ -1 ∧ shw N k w) → P 0) → Wp (f230 k w M) P := fun P k1 k0 => by
      unfold f230
      rw [Int.toNat_natCast]
      refine wp_gd (by omega) (wp_ite (fun d => wp_some (k0 (fun z => z.1 d))) (fun d => wp_bind (w218c hN h hw (fun q => wp_neg (by decide) (wp_some (k1 ⟨d, q⟩))) (fun q => wp_pos rfl (wp_some (k0 (fun z => q z.2)))))))
    have same : (M 104 k ≠ -1 → shw N k w → ¬ ((if tb (M 106 k) w then (1 : Int) else 0) ≠ (if S 0 w = 0 then 1 else 0) ∨ M (108 + k) w ≠ told N S w)) → Wp (f228_75 k r3 r4 w M) (Sum.elim (up1 (fun n y => ∃ w : Nat, y = w ∧ w ≤ nW N ∧ n = nW N - w ∧ ∀ v, v < w → ¬ (M 104 k ≠ -1 ∧ shw N k v ∧ ((if tb (M 106 k) v then (1 : Int) else 0) ≠ (if S 0 v = 0 then 1 else 0) ∨ M (108 + k) v ≠ told N S v))) n) (fun v => (v = 0 ∧ ¬ othS N S M k) ∨ (v = 1 ∧ othS N S M k))) := fun z => by
      unfold f228_75
      refine wp_bind (w230 _ (fun q => wp_neg (by decide) ?_) (fun q => wp_pos rfl (next (fun q2 => q ⟨q2.1, q2.2.1⟩))))
      unfold f228_93
      exact wp_neg (by decide) (next (fun q2 => z q.1 q.2 q2.2.2))
    have diff : (M 104 k ≠ -1 → ((if tb (M 106 k) w then (1 : Int) else 0) ≠ (if S 0 w = 0 then 1 else 0) ∨ M (108 + k) w ≠ told N S w)) → Wp (f228_79 k r3 r4 w M) (Sum.elim (up1 (fun n y => ∃ w : Nat, y = w ∧ w ≤ nW N ∧ n = nW N - w ∧ ∀ v, v < w → ¬ (M 104 k ≠ -1 ∧ shw N k v ∧ ((if tb (M 106 k) v then (1 : Int) else 0) ≠ (if S 0 v = 0 then 1 else 0) ∨ M (108 + k) v ≠ told N S v))) n) (fun v => (v = 0 ∧ ¬ othS N S M k) ∨ (v = 1 ∧ othS N S M k))) := fun z => by
      unfold f228_79
      refine wp_bind (w230 _ (fun q => wp_neg (by decide) ?_) (fun q => wp_pos rfl (next (fun q2 => q ⟨q2.1, q2.2.1⟩))))
      unfold f228_93
      exact wp_pos rfl (wp_o (wp_some (Or.inr ⟨rfl, q.1, w, hw, q.2, z q.1⟩)))
    rw [Int.toNat_natCast, Int.toNat_natCast, hs w (by omega)]
    have hbit : M 104 k ≠ -1 → bAnd (bShr (M 106 k) (w : Int)) 1 = if tb (M 106 k) w then 1 else 0 := fun z => by
      have := h106 z
      rw [bT this.1 (by omega) (by omega) (by omega), Int.toNat_natCast]
    unfold f228_54
    rw [Int.toNat_natCast, Int.toNat_natCast, ht w hw]
    refine wp_gd (by omega) (wp_ite (fun c2 => wp_gd (by omega) (wp_ite (fun c3 => wp_gd (by omega) (wp_gd (by omega) (wp_ite (fun c4 => same (fun q1 q2 q3 => ?_)) (fun c4 => diff (fun q => Or.inr c4))))) (fun c3 => diff (fun q => Or.inl ?_)))) (fun c2 => wp_gd (by omega) (wp_ite (fun c3 => diff (fun q => Or.inl ?_)) (fun c3 => wp_gd (by omega) (wp_gd (by omega) (wp_ite (fun c4 => same (fun q1 q2 q3 => ?_)) (fun c4 => diff (fun q => Or.inr c4))))))))
    · rw [hbit q1] at c2
      rw [c2, if_pos c3] at q3
      exact q3.elim (fun z => z rfl) (fun z => z c4)
    · rw [hbit q] at c2
      rw [c2, if_neg c3]
      decide
    · rw [hbit q] at c2
      rw [if_pos c3]
      exact c2
    · rw [hbit q1] at c2
      have c2' : (if tb (M 106 k) w then (1 : Int) else 0) = 0 := by
        cases hq : tb (M 106 k) w
        · rfl
        · rw [hq] at c2; exact absurd rfl c2
      rw [c2', if_neg c3] at q3
      exact q3.elim (fun z => z rfl) (fun z => z c4)
  · obtain ⟨q, v, q1, q2, q3⟩ := z
    exact a3 v (by omega) ⟨q, q2, q3⟩
theorem w231 {k r3 r4 n : Nat} {P : Mm → Prop} (hN : NC N) (h : nCl N M) (hk : k < 4) (hr3 : r3 < 104 ∨ 200 ≤ r3) (hr32 : r3 + 2 < 104 ∨ 200 ≤ r3) (hr4 : r4 + 5 < 104) (h0 : M r3 0 = n) (hs : ∀ w, w < 14 → M (r3 + 2) w = S 0 w) (ht : ∀ w : Nat, w < nW N → M (r4 + 5) w = told N S w)
    (kk : ∀ M2 : Mm, (∀ b, b ≠ 104 → b ≠ 106 → b ≠ 108 + k → M2 b = M b) → (∀ j, j ≠ k → M2 104 j = M 104 j ∧ M2 106 j = M 106 j) → M2 104 k = n → (0 ≤ M2 106 k ∧ M2 106 k < 16384) → (∀ w : Nat, w < nW N → (tb (M2 106 k) w = true ↔ S 0 w = 0) ∧ M2 (108 + k) w = told N S w) → P M2) : Wp (f231 k r3 r4 M) P := by
  have h14 := hN.w14
  unfold f231
  rw [Int.toNat_natCast, h0]
  refine wp_gd (by omega) (wp_mlet (wp_mlet ?_))
  unfold f231_20
  refine wp_lp2 (fun m y M2 => ∃ w : Nat, y = w ∧ w ≤ nW N ∧ m = nW N - w ∧ (∀ b, b ≠ 104 → b ≠ 106 → b ≠ 108 + k → M2 b = M b) ∧ (∀ j, j ≠ k → M2 104 j = M 104 j ∧ M2 106 j = M 106 j) ∧ M2 104 k = n ∧ (0 ≤ M2 106 k ∧ M2 106 k < (2 ^ 14 : Nat)) ∧ (∀ v, tb (M2 106 k) v = true ↔ (v < w ∧ S 0 v = 0)) ∧ ∀ v, v < w → M2 (108 + k) v = told N S v) (nW N) (by omega) ⟨0, rfl, Nat.zero_le _, rfl, fun b q1 q2 q3 => by rw [ms_a q2, ms_a q1], fun j hj => ⟨by rw [ms_a (by decide), ms_i hj], by rw [ms_i hj, ms_a (by decide)]⟩, by rw [ms_a (by decide), ms_v], by rw [ms_v]; omega, fun v => by rw [ms_v, tb_zero]; exact ⟨fun z => (by cases z), fun z => absurd z.1 (Nat.not_lt_zero _)⟩, fun v hv => absurd hv (Nat.not_lt_zero _)⟩ ?_
  rintro m y M2 ⟨w, rfl, a1, a2, a3, a4, a5, a6, a7, a8⟩
  dsimp only
  have e14 : (2 ^ 14 : Nat) = 16384 := by decide
  unfold lb231_20
  rw [a3 3 (by decide) (by decide) (by omega), h.1, hN.w]
  refine wp_ite (fun c => ?_) (fun c => wp_o (wp_some (kk M2 a3 a4 a5 (by omega) (fun v hv => ⟨by rw [a7]; exact ⟨fun z => z.2, fun z => ⟨by omega, z⟩⟩, a8 v (by omega)⟩))))
  have hw : w < nW N := by omega
  rw [Int.toNat_natCast, Int.toNat_natCast, a3 (r3 + 2) (by omega) (by omega) (by omega), hs w (by omega)]
  have b := fun hh => bit1 (x := M2 106 k) (n := 14) (k := w) hh a6 (by omega)
  have hbl : bShl 1 (w : Int) = (2 ^ w : Nat) := by rw [bL (by omega) (by omega), Int.toNat_natCast]
  have hl2 : (2 ^ w : Nat) < 2 ^ 14 := Nat.pow_lt_pow_right (by decide) (by omega)
  have hz : 0 < (2 ^ w : Nat) := Nat.two_pow_pos _
  have ho := bO_lt (n := 14) (x := M2 106 k) (y := bShl 1 (w : Int)) (by omega) a6.1 a6.2 (by omega) (by omega)
  have hotb : ∀ j, tb (bOr (M2 106 k) (bShl 1 (w : Int))) j = (tb (M2 106 k) j || decide (w = j)) := fun j => by
    rw [tb_or a6.1 (by omega) (by omega) (by omega), tb_pow (by omega) (by omega), Int.toNat_natCast]
  have o0 : bOr (M2 106 k) 0 = M2 106 k := by
    have h0 := bO_lt (n := 14) (x := M2 106 k) (y := 0) (by omega) a6.1 a6.2 (by decide) (by decide)
    refine tb_ext h0.1 a6.1 (fun j => ?_)
    rw [tb_or a6.1 (by omega) (by decide) (by decide), tb_zero, Bool.or_false]
  have tell : ∀ v : Int, ms M2 106 k v (r4 + 5) w = told N S w := fun v => by
    rw [ms_a (by omega), a3 (r4 + 5) (by omega) (by omega) (by omega)]
    exact ht w hw
  refine wp_gd (by omega) (wp_gd (by omega) (wp_ite (fun c2 => wp_mlet (wp_mlet (wp_gd (by omega) (wp_i2 (m - 1) (by omega) ⟨w + 1, by omega, by omega, by omega, fun b q1 q2 q3 => ?_, fun j hj => ⟨?_, ?_⟩, ?_, ?_, fun v => ?_, fun v hv => ?_⟩)))) (fun c2 => wp_mlet (wp_mlet (wp_gd (by omega) (wp_i2 (m - 1) (by omega) ⟨w + 1, by omega, by omega, by omega, fun b q1 q2 q3 => ?_, fun j hj => ⟨?_, ?_⟩, ?_, ?_, fun v => ?_, fun v hv => ?_⟩))))))
  · rw [ms_a q3, ms_a q2]; exact a3 b q1 q2 q3
  · rw [ms_a (by omega), ms_a (by decide)]; exact (a4 j hj).1
  · rw [ms_a (by omega), ms_i hj]; exact (a4 j hj).2
  · rw [ms_a (by omega), ms_a (by decide)]; exact a5
  · rw [ms_a (by omega), ms_v]; exact ho
  · rw [ms_a (by omega), ms_v, hotb, Bool.or_eq_true, a7, decide_eq_true_iff]
    constructor
    · rintro (z | z)
      · exact ⟨by omega, z.2⟩
      · exact ⟨by omega, by rw [← z]; exact c2⟩
    · rintro ⟨z1, z2⟩
      by_cases e : v = w
      · exact Or.inr e.symm
      · exact Or.inl ⟨by omega, z2⟩
  · by_cases e : v = w
    · rw [e, ms_v]; exact tell _
    · rw [ms_i e, ms_a (by omega)]; exact a8 v (by omega)
  · rw [ms_a q3, ms_a q2]; exact a3 b q1 q2 q3
  · rw [ms_a (by omega), ms_a (by decide)]; exact (a4 j hj).1
  · rw [ms_a (by omega), ms_i hj]; exact (a4 j hj).2
  · rw [ms_a (by omega), ms_a (by decide)]; exact a5
  · rw [ms_a (by omega), ms_v, o0]; exact a6
  · rw [ms_a (by omega), ms_v, o0, a7]
    constructor
    · exact fun z => ⟨by omega, z.2⟩
    · rintro ⟨z1, z2⟩
      by_cases e : v = w
      · rw [e] at z2; exact absurd z2 c2
      · exact ⟨by omega, z2⟩
  · by_cases e : v = w
    · rw [e, ms_v]; exact tell _
    · rw [ms_i e, ms_a (by omega)]; exact a8 v (by omega)
/-- a screen after the minute n -/
def scN (N S M M2 : Mm) (n k : Nat) : Prop := (M 103 k = 0 → M2 105 k = M 105 k ∧ M2 104 k = n ∧ (0 ≤ M2 106 k ∧ M2 106 k < 16384) ∧ ∀ w : Nat, w < nW N → (tb (M2 106 k) w = true ↔ S 0 w = 0) ∧ M2 (108 + k) w = told N S w) ∧
  (M 103 k ≠ 0 → M2 104 k = M 104 k ∧ M2 106 k = M 106 k ∧ M2 (108 + k) = M (108 + k) ∧ ((M 105 k = -1 ∧ othS N S M k ∧ M2 105 k = n) ∨ (¬ (M 105 k = -1 ∧ othS N S M k) ∧ M2 105 k = M 105 k)))
theorem w232 {r3 r4 n : Nat} {P : Mm → Prop} (hN : NC N) (h : nCl N M) (hr3 : r3 < 104 ∨ 200 ≤ r3) (hr32 : r3 + 2 < 104 ∨ 200 ≤ r3) (hr4 : r4 + 5 < 104) (h0 : M r3 0 = n) (hs : ∀ w, w < 14 → M (r3 + 2) w = S 0 w) (ht : ∀ w : Nat, w < nW N → M (r4 + 5) w = told N S w)
    (h106 : ∀ k, k < 4 → M 104 k ≠ -1 → 0 ≤ M 106 k ∧ M 106 k < 16384) (kk : ∀ M2 : Mm, (∀ b, (b < 104 ∨ 111 < b) → M2 b = M b) → (∀ k, k < 4 → scN N S M M2 n k) → P M2) : Wp (f232 r3 r4 M) P := by
  unfold f232 f232_3
  refine wp_lp2 (fun m y M2 => ∃ k : Nat, y = k ∧ k ≤ 4 ∧ m = 4 - k ∧ (∀ b, (b < 104 ∨ 111 < b) → M2 b = M b) ∧ (∀ j, j < k → scN N S M M2 n j) ∧ ∀ j, k ≤ j → j < 4 → M2 104 j = M 104 j ∧ M2 105 j = M 105 j ∧ M2 106 j = M 106 j ∧ M2 (108 + j) = M (108 + j)) 4 (by decide) ⟨0, rfl, Nat.zero_le _, rfl, fun _ _ => rfl, fun j hj => absurd hj (Nat.not_lt_zero _), fun _ _ _ => ⟨rfl, rfl, rfl, rfl⟩⟩ ?_
  rintro m y M2 ⟨k, rfl, a1, a2, a3, a4, a5⟩
  dsimp only
  unfold lb232_3
  rw [Int.toNat_natCast, a3 103 (by omega)]
  refine wp_ite (fun c => ?_) (fun c => wp_o (wp_some (kk M2 a3 (fun j hj => a4 j (by omega)))))
  have hk : k < 4 := by omega
  have n2 : nCl N M2 := h.to (a3 3 (by omega)) (fun b q1 q2 => a3 b (by omega))
  obtain ⟨o1, o2, o3, o4⟩ := a5 k (Nat.le_refl _) hk
  have keep : ∀ M3 : Mm, (∀ b, (b < 104 ∨ 111 < b) → M3 b = M b) → (∀ j, j < 4 → j ≠ k → M3 104 j = M2 104 j ∧ M3 105 j = M2 105 j ∧ M3 106 j = M2 106 j ∧ M3 (108 + j) = M2 (108 + j)) → scN N S M M3 n k → Wp (f232_65 r3 r4 k M3) (Sum.elim (up2 (fun m y M2 => ∃ k : Nat, y = k ∧ k ≤ 4 ∧ m = 4 - k ∧ (∀ b, (b < 104 ∨ 111 < b) → M2 b = M b) ∧ (∀ j, j < k → scN N S M M2 n j) ∧ ∀ j, k ≤ j → j < 4 → M2 104 j = M 104 j ∧ M2 105 j = M 105 j ∧ M2 106 j = M 106 j ∧ M2 (108 + j) = M (108 + j)) m) P) := fun M3 f3 g3 s3 => by
    unfold f232_65
    refine wp_gd (by omega) (wp_i2 (m - 1) (by omega) ⟨k + 1, by omega, by omega, by omega, f3, fun j hj => ?_, fun j q1 q2 => ?_⟩)
    · by_cases e : j = k
      · rw [e]; exact s3
      · obtain ⟨p1, p2, p3, p4⟩ := g3 j (by omega) e
        have := a4 j (by omega)
        unfold scN at this ⊢
        rw [p1, p2, p3, p4]
        exact this
    · obtain ⟨p1, p2, p3, p4⟩ := g3 j q2 (by omega)
      obtain ⟨z1, z2, z3, z4⟩ := a5 j (by omega) q2
      exact ⟨p1.trans z1, p2.trans z2, p3.trans z3, p4.trans z4⟩
  have oe : othS N S M2 k ↔ othS N S M k := by
    unfold othS
    rw [o1, o3, o4]
  refine wp_gd (by omega) (wp_ite (fun c2 => ?_) (fun c2 => ?_))
  · refine wp_bind (w231 hN n2 hk hr3 hr32 hr4 (by rw [a3 r3 (by omega)]; exact h0) (fun w hw => by rw [a3 (r3 + 2) (by omega)]; exact hs w hw) (fun w hw => by rw [a3 (r4 + 5) (by omega)]; exact ht w hw) (fun M3 b1 b2 b3 b4 b5 => keep M3 (fun b hb => (b1 b (by omega) (by omega) (by omega)).trans (a3 b hb)) (fun j q1 q2 => ⟨(b2 j q2).1, by rw [b1 105 (by decide) (by decide) (by omega)], (b2 j q2).2, b1 (108 + j) (by omega) (by omega) (by omega)⟩) ⟨fun _ => ⟨by rw [b1 105 (by decide) (by decide) (by omega)]; exact o2, b3, b4, b5⟩, fun z => absurd c2 z⟩))
  · rw [o2]
    have same : ¬ (M 105 k = -1 ∧ othS N S M k) → Wp (f232_65 r3 r4 k M2) (Sum.elim (up2 (fun m y M2 => ∃ k : Nat, y = k ∧ k ≤ 4 ∧ m = 4 - k ∧ (∀ b, (b < 104 ∨ 111 < b) → M2 b = M b) ∧ (∀ j, j < k → scN N S M M2 n j) ∧ ∀ j, k ≤ j → j < 4 → M2 104 j = M 104 j ∧ M2 105 j = M 105 j ∧ M2 106 j = M 106 j ∧ M2 (108 + j) = M (108 + j)) m) P) := fun z => keep M2 a3 (fun _ _ _ => ⟨rfl, rfl, rfl, rfl⟩) ⟨fun q => absurd q c2, fun _ => ⟨o1, o3, o4, Or.inr ⟨z, o2⟩⟩⟩
    refine wp_ite (fun c3 => wp_bind (wpW (w228 (r3 := r3) (r4 := r4) hN n2 hk (fun w hw => by rw [a3 (r3 + 2) (by omega)]; exact hs w hw) (fun w hw => by rw [a3 (r4 + 5) (by omega)]; exact ht w hw) (fun z => by rw [o3]; exact h106 k hk (by rw [← o1]; exact z))) (fun v hv => ?_))) (fun c3 => same (fun z => c3 z.1))
    rw [oe] at hv
    rcases hv with ⟨v1, v2⟩ | ⟨v1, v2⟩
    · exact wp_pos v1 (same (fun z => v2 z.2))
    · refine wp_neg (by omega) (wp_mlet (keep _ (fun b hb => (ms_a (by omega)).trans (a3 b hb)) (fun j q1 q2 => ⟨by rw [ms_a (by decide)], by rw [ms_i q2], by rw [ms_a (by decide)], ms_a (by omega)⟩) ⟨fun q => absurd q c2, fun _ => ⟨by rw [ms_a (by decide)]; exact o1, by rw [ms_a (by decide)]; exact o3, by rw [ms_a (by omega)]; exact o4, Or.inl ⟨c3, v2, by rw [ms_v, a3 r3 (by omega)]; exact h0⟩⟩⟩))
end GO

/-! A minute goes: the second object. -/
def lgM (M0 M : Mm) (e n : Nat) (L : List (Int × Nat)) : Prop := (∀ b, b ≠ 142 → (b < 185 ∨ 187 < b) → M b = M0 b) ∧ (∀ j, j ≠ 7 → M 142 j = M0 142 j) ∧ M 142 7 = min 400 (e + L.length : Nat) ∧ (∀ j, j < e → M 185 j = M0 185 j ∧ M 186 j = M0 186 j ∧ M 187 j = M0 187 j) ∧ ∀ (i : Nat) (p : Int × Nat), L[i]? = some p → e + i < 400 → M 185 (e + i) = p.1 ∧ M 186 (e + i) = p.2 ∧ M 187 (e + i) = n
def frG (n : Nat) (M M2 : Mm) : Prop := (∀ b, b ≠ 142 → b ≠ 144 → (b < 158 ∨ (166 < b ∧ b < 178) ∨ 190 < b ∨ b = 188 ∨ b = 189) → M2 b = M b) ∧ (∀ j, (j ≤ 9 ∨ j = 52) → j ≠ 2 → j ≠ 7 → M2 142 j = M 142 j) ∧ ∀ a, (a < 72 * n ∨ 72 * n + 72 ≤ a) → (a < 36000 ∨ 36069 ≤ a) → a < 36072 → M2 144 a = M 144 a
theorem frG.trans {n : Nat} {M M2 M3 : Mm} (h : frG n M M2) (g : frG n M2 M3) : frG n M M3 := ⟨fun b q1 q2 q3 => (g.1 b q1 q2 q3).trans (h.1 b q1 q2 q3), fun j q1 q2 q3 => (g.2.1 j q1 q2 q3).trans (h.2.1 j q1 q2 q3), fun a q1 q2 q3 => (g.2.2 a q1 q2 q3).trans (h.2.2 a q1 q2 q3)⟩
section GO2
variable {N S M T : Mm} {c : Int} {K : Bool → (Nat → Int) → Bool}
/-- the end: screens and the clock -/
theorem w113d {n : Nat} (hn : n ≤ 498) (h2 : M 142 2 = n) : Wp (f113_206 M) (fun r => r.1 = M 142 59 ∧ (∀ b, b ≠ 142 → b ≠ 190 → r.2 b = M b) ∧ (∀ j, j ≠ 2 → r.2 142 j = M 142 j) ∧ r.2 142 2 = (n : Int) + 1 ∧ ∀ k, k < 4 → r.2 190 k = if M 188 k = 0 then (n : Int) else M 190 k) := by
  unfold f113_206 f113_208
  refine wp_lp2 (fun m y M2 => ∃ k : Nat, y = k ∧ k ≤ 4 ∧ m = 4 - k ∧ (∀ b, b ≠ 190 → M2 b = M b) ∧ (∀ j, k ≤ j → M2 190 j = M 190 j) ∧ ∀ j, j < k → M2 190 j = if M 188 j = 0 then (n : Int) else M 190 j) 4 (by decide) ⟨0, rfl, by omega, rfl, fun _ _ => rfl, fun _ _ => rfl, fun j hj => absurd hj (Nat.not_lt_zero _)⟩ ?_
  rintro m y M2 ⟨k, rfl, a1, a2, a3, a4, a5⟩
  dsimp only
  unfold lb113_208
  rw [Int.toNat_natCast, a3 142 (by decide), a3 188 (by decide), h2, a4 k (Nat.le_refl _)]
  refine wp_ite (fun q => wp_gd (by omega) ?_) (fun q => wp_o (wp_gd (by omega) (wp_mlet (wp_some ⟨?_, fun b q1 q2 => ?_, fun j hj => ?_, ?_, fun k hk => ?_⟩))))
  · have go : ∀ v : Int, (v = if M 188 k = 0 then (n : Int) else M 190 k) → Wp (mlet (ms M2 190 k v) fun M6 => gd (R4 ((k : Int) + 1)) (some (.inl ((k : Int) + 1, M6)))) (Sum.elim (up2 (fun (m : Nat) (y : Int) (M2 : Mm) => ∃ k : Nat, y = k ∧ k ≤ 4 ∧ m = 4 - k ∧ (∀ b, b ≠ 190 → M2 b = M b) ∧ (∀ j, k ≤ j → M2 190 j = M 190 j) ∧ ∀ j, j < k → M2 190 j = if M 188 j = 0 then (n : Int) else M 190 j) m) (fun r : Int × Mm => r.1 = M 142 59 ∧ (∀ b, b ≠ 142 → b ≠ 190 → r.2 b = M b) ∧ (∀ j, j ≠ 2 → r.2 142 j = M 142 j) ∧ r.2 142 2 = (n : Int) + 1 ∧ ∀ k, k < 4 → r.2 190 k = if M 188 k = 0 then (n : Int) else M 190 k)) := fun v hv => by
      refine wp_mlet (wp_gd (by omega) (wp_i2 (m - 1) (by omega) ⟨k + 1, by omega, by omega, by omega, fun b hb => (ms_a hb).trans (a3 b hb), fun j hj => (ms_i (by omega)).trans (a4 j (by omega)), fun j hj => ?_⟩))
      by_cases e : j = k
      · rw [e, ms_v]; exact hv
      · rw [ms_i e]; exact a5 j (by omega)
    exact wp_ite (fun z => go _ (by rw [if_pos z])) (fun z => go _ (by rw [if_neg z]))
  · show ms M2 142 2 ((n : Int) + 1) 142 59 = _
    rw [ms_i (by decide), a3 142 (by decide)]
  · show ms M2 142 2 ((n : Int) + 1) b = _
    rw [ms_a q1]; exact a3 b q2
  · show ms M2 142 2 ((n : Int) + 1) 142 j = _
    rw [ms_i hj, a3 142 (by decide)]
  · show ms M2 142 2 ((n : Int) + 1) 142 2 = _
    rw [ms_v]
  · show ms M2 142 2 ((n : Int) + 1) 190 k = _
    rw [ms_a (by decide)]; exact a5 k (by omega)
/-- the log -/
theorem w113c {e n : Nat} {L : List (Int × Nat)} {Q : Int × Mm → Prop} (he : e ≤ 400) (h7 : M 142 7 = e) (h2 : M 142 2 = n) (hL : evM M L) (hl : L.length ≤ 64) (kk : ∀ M2 : Mm, lgM M M2 e n L → Wp (f113_206 M2) Q) : Wp (f113_129 0 M) Q := by
  unfold f113_129
  refine wp_lp2 (fun m y M2 => ∃ j : Nat, y = j ∧ j ≤ L.length ∧ m = L.length - j ∧ lgM M M2 e n (L.take j)) L.length (by omega) ⟨0, rfl, Nat.zero_le _, rfl, fun _ _ _ => rfl, fun _ _ => rfl, by rw [h7]; show (e : Int) = ((min 400 (e + 0) : Nat) : Int); omega, fun _ _ => ⟨rfl, rfl, rfl⟩, fun i p hi _ => by cases hi⟩ ?_
  rintro m y M2 ⟨j, rfl, a1, a2, a3⟩
  dsimp only
  unfold lb113_129
  obtain ⟨g1, g2, g3, g4, g5⟩ := a3
  have tl : (L.take j).length = j := by rw [List.length_take]; omega
  rw [tl] at g3
  rw [g2 59 (by decide), hL.1, g3]
  refine wp_ite (fun d => wp_ite (fun d2 => ?_) (fun d2 => wp_o (kk M2 ⟨g1, g2, ?_, g4, fun i p hi hl => ?_⟩))) (fun d => wp_o (kk M2 ⟨g1, g2, ?_, g4, fun i p hi hl => ?_⟩))
  · have hj : j < L.length := by omega
    have hx := List.getElem?_eq_getElem hj
    obtain ⟨l1, l2⟩ := hL.2 j _ hx
    have hmin : (min 400 (e + j) : Nat) = e + j := by omega
    rw [hmin] at d2 g3 ⊢
    rw [Int.toNat_natCast, Int.toNat_natCast, g1 180 (by decide) (by omega), l1]
    refine wp_gd (by omega) (wp_gd (by omega) (wp_mlet ?_))
    rw [ms_a (by decide : (142 : Nat) ≠ 185), g3, Int.toNat_natCast, ms_a (by decide : (181 : Nat) ≠ 185), g1 181 (by decide) (by omega), l2]
    refine wp_gd (by omega) (wp_mlet ?_)
    rw [ms_a (by decide : (142 : Nat) ≠ 186), ms_a (by decide : (142 : Nat) ≠ 185), g3, g2 2 (by decide), h2, Int.toNat_natCast]
    refine wp_gd (by omega) (wp_mlet ?_)
    rw [ms_a (by decide : (142 : Nat) ≠ 187), ms_a (by decide : (142 : Nat) ≠ 186), ms_a (by decide : (142 : Nat) ≠ 185), g3]
    refine wp_gd (by omega) (wp_mlet (wp_gd (by omega) (wp_i2 (m - 1) (by omega) ⟨j + 1, by omega, by omega, by omega, fun b q1 q2 => ?_, fun i hi => ?_, ?_, fun i hi => ?_, fun i p hi hl => ?_⟩)))
    · rw [ms_a q1, ms_a (by omega), ms_a (by omega), ms_a (by omega)]
      exact g1 b q1 q2
    · rw [ms_i hi, ms_a (by decide), ms_a (by decide), ms_a (by decide)]
      exact g2 i hi
    · rw [ms_v, List.length_take]
      omega
    · rw [ms_a (by decide : (185 : Nat) ≠ 142), ms_a (by decide : (185 : Nat) ≠ 187), ms_a (by decide : (185 : Nat) ≠ 186), ms_i (by omega), ms_a (by decide : (186 : Nat) ≠ 142), ms_a (by decide : (186 : Nat) ≠ 187), ms_i (by omega), ms_a (by decide : (186 : Nat) ≠ 185), ms_a (by decide : (187 : Nat) ≠ 142), ms_i (by omega), ms_a (by decide : (187 : Nat) ≠ 186), ms_a (by decide : (187 : Nat) ≠ 185)]
      exact g4 i hi
    · rw [ms_a (by decide : (185 : Nat) ≠ 142), ms_a (by decide : (185 : Nat) ≠ 187), ms_a (by decide : (185 : Nat) ≠ 186), ms_a (by decide : (186 : Nat) ≠ 142), ms_a (by decide : (186 : Nat) ≠ 187), ms_a (by decide : (187 : Nat) ≠ 142)]
      have htk : L.take (j + 1) = L.take j ++ [L[j]] := by rw [List.take_add_one, hx]; rfl
      rw [htk] at hi
      by_cases e2 : i = j
      · subst e2
        rw [List.getElem?_append_right (by omega), tl, Nat.sub_self] at hi
        have hp : L[i] = p := by injection hi
        rw [ms_v, ms_v, ms_v, ← hp]
        exact ⟨rfl, rfl, rfl⟩
      · have hlt : i < (L.take j).length := by
          rcases Nat.lt_or_ge i (L.take j ++ [L[j]]).length with q | q
          · rw [List.length_append] at q
            have : ([L[j]] : List (Int × Nat)).length = 1 := rfl
            omega
          · rw [List.getElem?_eq_none q] at hi
            cases hi
        rw [List.getElem?_append_left hlt] at hi
        rw [ms_i (by omega), ms_i (by omega), ms_i (by omega), ms_a (by decide : (186 : Nat) ≠ 185), ms_a (by decide : (187 : Nat) ≠ 186), ms_a (by decide : (187 : Nat) ≠ 185)]
        exact g5 i p hi hl
  · rw [g3]
    omega
  · refine g5 i p ?_ hl
    rw [List.getElem?_take, if_pos (by omega)]
    exact hi
  · rw [g3]
    omega
  · have hlt : i < L.length := by
      rcases Nat.lt_or_ge i L.length with q | q
      · exact q
      · rw [List.getElem?_eq_none q] at hi
        cases hi
    refine g5 i p ?_ hl
    rw [List.getElem?_take, if_pos (by omega)]
    exact hi
/-- what the second object's minute leaves -/
def goM (N S : Mm) (K : Bool → (Nat → Int) → Bool) (c : Int) (n e : Nat) (M M2 : Mm) : Prop := frG n M M2 ∧ M2 142 2 = (n : Int) + 1 ∧ sM S M2 (72 * n) ∧ sM (nx N S K c) M2 36000 ∧ ((∀ j, j ≠ n → M2 182 j = M 182 j) ∧ (0 ≤ M2 182 n ∧ M2 182 n < 16384) ∧ ∀ w, tb (M2 182 n) w = true ↔ (w < nW N ∧ S 0 w = 0 ∧ cbb N S w)) ∧
  ((∀ j, (j < 14 * n ∨ 14 * n + 14 ≤ j) → M2 184 j = M 184 j ∧ M2 183 j = M 183 j) ∧ ∀ w, w < nW N → M2 184 (14 * n + w) = (if S 0 w = 0 then 1 else 0) ∧ M2 183 (14 * n + w) = told N S w) ∧
  (M2 142 7 = min 400 (e + (evL N S K c).length : Nat) ∧ (∀ j, j < e → M2 185 j = M 185 j ∧ M2 186 j = M 186 j ∧ M2 187 j = M 187 j) ∧ ∀ (i : Nat) (p : Int × Nat), (evL N S K c)[i]? = some p → e + i < 400 → M2 185 (e + i) = p.1 ∧ M2 186 (e + i) = p.2 ∧ M2 187 (e + i) = n) ∧ ∀ k, k < 4 → M2 190 k = if M 188 k = 0 then (n : Int) else M 190 k
theorem w113 {n e : Nat} (hN : NC N) (hS : sV N S) (hn : n ≤ 498) (hM : nMd N M) (hs : sM S M 36000) (hK : txM K T) (hT : txB T M) (hc : M 144 36069 = c) (hc2 : 0 ≤ c ∧ c ≤ 1000) (h7 : M 142 7 = e) (he : e ≤ 400) (h2 : M 142 2 = n) :
    Wp (f113 M) (fun r => r.1 = cm N S K c ∧ goM N S K c n e M r.2) := by
  have h14 := hN.w14
  have h9 := hN.k9
  have hn8 := hN.n8
  unfold f113
  rw [h2]
  refine wp_neg (by omega) (wp_obnd (w89 hN hS hM hs (fun v M1 a1 a2 a3 a4 => wp_gd (by omega) (wp_mlet ?_))))
  rw [Int.toNat_natCast]
  dsimp only
  have p2 : ms M1 182 n v 142 2 = n := by rw [ms_a (by decide), a1.2.1 2 (by decide)]; exact h2
  rw [p2]
  refine wp_gd (by omega) ?_
  rw [show 72 * (n : Int) = ((72 * n : Nat) : Int) by omega]
  refine wp_bind (w96 (z := 36000) (z2 := 72 * n) (by decide) (by omega) (by omega) (fun M2 b1 b2 b3 => ?_))
  have s36 : sM S M2 36000 := by
    refine hs.to (fun a q1 q2 => ?_)
    rw [b2 a (by omega), ms_a (by decide)]
    exact a1.2.2 a (by omega)
  have s72 : sM S M2 (72 * n) := by
    have : sM S (ms M1 182 n v) 36000 := hs.to (fun a q1 q2 => by rw [ms_a (by decide)]; exact a1.2.2 a (by omega))
    exact this.cp (fun j hj => b3 j hj)
  have f2 : frG n M M2 := ⟨fun b q1 q2 q3 => by rw [b1 b q2, ms_a (by omega)]; exact a1.1 b q1 q2 (by omega), fun j q1 q2 q3 => by rw [b1 142 (by decide), ms_a (by decide)]; exact a1.2.1 j (by omega), fun a q1 q2 q3 => by rw [b2 a (by omega), ms_a (by decide)]; exact a1.2.2 a q3⟩
  have g182 : M2 182 = ms M1 182 n v 182 := b1 182 (by decide)
  have g2 : M2 142 2 = n := by rw [b1 142 (by decide)]; exact p2
  have g7 : M2 142 7 = e := by rw [b1 142 (by decide), ms_a (by decide), a1.2.1 7 (by decide)]; exact h7
  have r2 : ∀ b, 183 ≤ b → M2 b = M b := fun b hb => by rw [b1 b (by omega), ms_a (by omega)]; exact a1.1 b (by omega) (by omega) (by omega)
  have q182 : (∀ j, j ≠ n → M2 182 j = M 182 j) ∧ M2 182 n = v := by
    rw [g182]
    refine ⟨fun j hj => ?_, ms_v⟩
    rw [ms_i hj, a1.1 182 (by decide) (by decide) (by omega)]
  clear b1 b2 b3 a1 p2 g182
  unfold f113_40
  refine wp_lp2 (fun m y M3 => ∃ w : Nat, y = w ∧ w ≤ nW N ∧ m = nW N - w ∧ (∀ b, b ≠ 184 → M3 b = M2 b) ∧ (∀ j, (j < 14 * n ∨ 14 * n + 14 ≤ j) → M3 184 j = M2 184 j) ∧ ∀ u, u < w → M3 184 (14 * n + u) = if S 0 u = 0 then 1 else 0) (nW N) (by omega) ⟨0, rfl, Nat.zero_le _, rfl, fun _ _ => rfl, fun _ _ => rfl, fun u hu => absurd hu (Nat.not_lt_zero _)⟩ ?_
  rintro m y M3 ⟨w, rfl, d1, d2, d3, d4, d5⟩
  dsimp only
  unfold lb113_40
  have m4 : M2 142 4 = nW N := by rw [f2.2.1 4 (by omega) (by decide) (by decide), hM.2.1]; exact hN.w
  rw [d3 142 (by decide), m4, g2, d3 144 (by decide), show (36000 + (w : Int)).toNat = 36000 + w by omega, show (14 * (n : Int) + (w : Int)).toNat = 14 * n + w by omega]
  refine wp_ite (fun q => ?_) (fun q => wp_o ?_)
  · rw [(s36.1 w (by omega)).1]
    refine wp_gd (by omega) (wp_gd (by omega) (wp_gd (by omega) (wp_gd (by omega) (wp_ite (fun z => wp_gd (by omega) (wp_mlet (wp_gd (by omega) (wp_i2 (m - 1) (by omega) ⟨w + 1, by omega, by omega, by omega, fun b hb => (ms_a hb).trans (d3 b hb), fun j hj => (ms_i (by omega)).trans (d4 j hj), fun u hu => ?_⟩)))) (fun z => wp_gd (by omega) (wp_mlet (wp_gd (by omega) (wp_i2 (m - 1) (by omega) ⟨w + 1, by omega, by omega, by omega, fun b hb => (ms_a hb).trans (d3 b hb), fun j hj => (ms_i (by omega)).trans (d4 j hj), fun u hu => ?_⟩))))))))
    · by_cases e2 : u = w
      · rw [e2, ms_v, if_pos z]
      · rw [ms_i (by omega)]; exact d5 u (by omega)
    · by_cases e2 : u = w
      · rw [e2, ms_v, if_neg z]
      · rw [ms_i (by omega)]; exact d5 u (by omega)
  rw [show w = nW N by omega] at d5
  have f3 : frG n M M3 := f2.trans ⟨fun b q1 q2 q3 => d3 b (by omega), fun j _ _ _ => by rw [d3 142 (by decide)], fun a _ _ _ => by rw [d3 144 (by decide)]⟩
  refine wp_bind (w175 (z := 36000) (T := T) (K := K) (c := c) hN hS (hM.to (f3.2.1 3 (by omega) (by decide) (by decide)) (f3.2.1 4 (by omega) (by decide) (by decide)) (f3.2.1 5 (by omega) (by decide) (by decide)) (fun b q1 q2 => f3.1 b (by omega) (by omega) (by omega))) hK ⟨(f3.2.1 6 (by omega) (by decide) (by decide)).trans hT.1, fun b q1 q2 => (f3.1 b (by omega) (by omega) (by omega)).trans (hT.2 b q1 q2)⟩ (by decide) (s36.to (fun a _ _ => by rw [d3 144 (by decide)])) (by rw [f3.2.2 _ (by omega) (by omega) (by decide)]; exact hc) hc2 (fun M4 c1 c2 c3 c4 => ?_))
  have e4 : ∀ b, b ≠ 142 → b ≠ 144 → 181 < b → M4 b = M3 b := fun b q1 q2 q3 => c1.1 b q1 q2 (by omega)
  have g2' : M4 142 2 = n := by rw [c1.2.1 2 (by decide) (by decide) (by decide) (by decide) (by decide), d3 142 (by decide)]; exact g2
  have g7' : M4 142 7 = e := by rw [c1.2.1 7 (by decide) (by decide) (by decide) (by decide) (by decide), d3 142 (by decide)]; exact g7
  have m4' : M4 142 4 = nW N := by rw [c1.2.1 4 (by decide) (by decide) (by decide) (by decide) (by decide), d3 142 (by decide)]; exact m4
  have f4 : frG n M M4 := f3.trans ⟨fun b q1 q2 q3 => c1.1 b q1 q2 (by omega), fun j q1 _ _ => c1.2.1 j (by omega) (by omega) (by omega) (by omega) (by omega), fun a _ q2 _ => c1.2.2 a (by omega)⟩
  have s72' : sM S M4 (72 * n) := s72.to (fun a q1 q2 => by rw [c1.2.2 a (by omega), d3 144 (by decide)])
  unfold f113_93
  refine wp_lp2 (fun m y M5 => ∃ w : Nat, y = w ∧ w ≤ nW N ∧ m = nW N - w ∧ (∀ b, b ≠ 183 → M5 b = M4 b) ∧ (∀ j, (j < 14 * n ∨ 14 * n + 14 ≤ j) → M5 183 j = M4 183 j) ∧ ∀ u, u < w → M5 183 (14 * n + u) = told N S u) (nW N) (by omega) ⟨0, rfl, Nat.zero_le _, rfl, fun _ _ => rfl, fun _ _ => rfl, fun u hu => absurd hu (Nat.not_lt_zero _)⟩ ?_
  clear d1 d2 q
  rintro m y M5 ⟨w, rfl, k1, k2, k3, k4, k5⟩
  dsimp only
  unfold lb113_93
  rw [k3 142 (by decide), m4', g2', show (14 * (n : Int) + (w : Int)).toNat = 14 * n + w by omega]
  refine wp_ite (fun q => ?_) (fun q => wp_o ?_)
  · have hw : w < nW N := by omega
    have cw := c4 w hw
    have tB := toldB hN hS hw
    refine wp_gd (by omega) (wp_gd (by omega) (wp_bind (w178 hN hS hw (by rw [k3 161 (by decide)]; exact cw.1) (by rw [k3 162 (by decide)]; exact cw.2) (wp_gd (by omega) (wp_gd (by omega) (wp_mlet (wp_gd (by omega) (wp_i2 (m - 1) (by omega) ⟨w + 1, by omega, by omega, by omega, fun b hb => (ms_a hb).trans (k3 b hb), fun j hj => (ms_i (by omega)).trans (k4 j hj), fun u hu => ?_⟩))))))))
    by_cases e2 : u = w
    · rw [e2, ms_v]
    · rw [ms_i (by omega)]; exact k5 u (by omega)
  rw [show w = nW N by omega] at k5
  have lb : (evL N S K c).length ≤ 64 := by
    have z1 := evL_len N S K c
    have z2 := falls_8 (S := S) hN
    have z3 := cnB_b (dnF N S c) (nW N)
    have z4 := cnB_b (trF N S K c) (nW N)
    have z5 := cnB_b (stF N S K) (nK N)
    unfold cm at z1
    omega
  refine w113c (e := e) (n := n) (L := evL N S K c) he (by rw [k3 142 (by decide)]; exact g7') (by rw [k3 142 (by decide)]; exact g2') ⟨by rw [k3 142 (by decide)]; exact c3.1, fun j p hj => by rw [k3 180 (by decide), k3 181 (by decide)]; exact c3.2 j p hj⟩ lb (fun M6 l6 => ?_)
  obtain ⟨u1, u2, u3, u4, u5⟩ := l6
  refine wpW (w113d (M := M6) hn (by rw [u2 2 (by decide), k3 142 (by decide)]; exact g2')) (fun r hr => ?_)
  obtain ⟨v1, v2, v3, v4, v5⟩ := hr
  have e6 : ∀ b, b ≠ 142 → b ≠ 183 → b ≠ 190 → (b < 185 ∨ 187 < b) → r.2 b = M4 b := fun b q1 q2 q3 q4 => by rw [v2 b q1 q3, u1 b q1 q4, k3 b q2]
  have e183 : r.2 183 = M5 183 := by rw [v2 183 (by decide) (by decide), u1 183 (by decide) (by omega)]
  have e184 : r.2 184 = M3 184 := by rw [e6 184 (by decide) (by decide) (by decide) (by omega), e4 184 (by decide) (by decide) (by decide)]
  have e182 : r.2 182 = M2 182 := by rw [e6 182 (by decide) (by decide) (by decide) (by omega), e4 182 (by decide) (by decide) (by decide), d3 182 (by decide)]
  have e144 : r.2 144 = M4 144 := e6 144 (by decide) (by decide) (by decide) (by omega)
  refine ⟨?_, f4.trans ⟨fun b q1 q2 q3 => e6 b q1 (by omega) (by omega) (by omega), fun j q1 q2 q3 => by rw [v3 j q2, u2 j q3, k3 142 (by decide)], fun a _ _ _ => by rw [e144]⟩, v4, s72'.to (fun a _ _ => by rw [e144]), c2.to (fun a _ _ => by rw [e144]), ⟨?_, ?_, ?_⟩, ⟨fun j hj => ⟨?_, ?_⟩, fun w hw => ⟨?_, ?_⟩⟩, ⟨?_, fun j hj => ?_, fun i p hi hl => ?_⟩, fun k hk => ?_⟩
  · rw [v1, u2 59 (by decide), k3 142 (by decide), c3.1, evL_len]
  · rw [e182]; exact q182.1
  · rw [e182, q182.2]; exact ⟨a2, a3⟩
  · rw [e182, q182.2]; exact a4
  · rw [e184, d4 j hj, r2 184 (by decide)]
  · rw [e183, k4 j hj, e4 183 (by decide) (by decide) (by decide), d3 183 (by decide), r2 183 (by decide)]
  · rw [e184]; exact d5 w hw
  · rw [e183]; exact k5 w hw
  · rw [v3 7 (by decide)]; exact u3
  · rw [v2 185 (by decide) (by decide), v2 186 (by decide) (by decide), v2 187 (by decide) (by decide)]
    have := u4 j hj
    rw [k3 185 (by decide), k3 186 (by decide), k3 187 (by decide), e4 185 (by decide) (by decide) (by decide), e4 186 (by decide) (by decide) (by decide), e4 187 (by decide) (by decide) (by decide), d3 185 (by decide), d3 186 (by decide), d3 187 (by decide), r2 185 (by decide), r2 186 (by decide), r2 187 (by decide)] at this
    exact this
  · rw [v2 185 (by decide) (by decide), v2 186 (by decide) (by decide), v2 187 (by decide) (by decide)]
    exact u5 i p hi hl
  · rw [v5 k hk, u1 188 (by decide) (by omega), u1 190 (by decide) (by omega), k3 188 (by decide), k3 190 (by decide), e4 188 (by decide) (by decide) (by decide), e4 190 (by decide) (by decide) (by decide), d3 188 (by decide), d3 190 (by decide), r2 188 (by decide), r2 190 (by decide)]
end GO2

/-- what the first object's minute leaves -/
def goC (N S : Mm) (K : Bool → (Nat → Int) → Bool) (c : Int) (t n e : Nat) (M M2 : Mm) : Prop := (∀ b, b ≠ 0 → b < 200 + 5 * n → (b < 24 ∨ 30 < b) → (b < 50 ∨ (101 < b ∧ b < 104) ∨ 111 < b) → b ≠ t + 6 → M2 b = M b) ∧ M2 0 0 = (n : Int) + 1 ∧ sC N (nx N S K c) M2 24 ∧ sC N S M2 (200 + 5 * n) ∧
  ((∀ j, j ≠ n → M2 29 j = M 29 j ∧ M2 30 j = M 30 j) ∧ M2 29 n = (200 + 5 * n : Nat) ∧ (0 ≤ M2 30 n ∧ M2 30 n < 16384) ∧ ∀ w, tb (M2 30 n) w = true ↔ (w < nW N ∧ S 0 w = 0 ∧ cbb N S w)) ∧
  (M2 98 0 = min 400 (e + (evL N S K c).length : Nat) ∧ (∀ j, j < e → M2 99 j = M 99 j ∧ M2 100 j = M 100 j ∧ M2 101 j = M 101 j) ∧ ∀ (i : Nat) (p : Int × Nat), (evL N S K c)[i]? = some p → e + i < 400 → M2 99 (e + i) = p.1 ∧ M2 100 (e + i) = p.2 ∧ M2 101 (e + i) = n) ∧ ∀ k, k < 4 → scN N S M M2 n k
section GO3
variable {N S M M1 M2 : Mm} {Ps : Nat → Mm} {l : List (Bool × Sem)} {t d n e : Nat}
theorem w51 (h : IV N S Ps l M) (ht : iTxt l t d M) (hv : iEv N (nwS S) e M) (hn : nwS S = n) (hn2 : n ≤ 498) (h1 : ∀ b, b ≠ 0 → b < 200 + 5 * n → M1 b = M b) (h0 : M1 0 0 = (n : Int) + 1) :
    Wp (f51_29 n (200 + 5 * n) M1) (fun r => r.1 = cm N S (kOf l) (M 3 3) ∧ goC N S (kOf l) (M 3 3) t n e M r.2) := by
  have hN := h.1.1
  have hS := h.1.2.1
  have ht4 : t = 4 ∨ t = 135 := by have := ht.1; omega
  have hx : isTx t := by rcases ht4 with e | e <;> (unfold isTx; omega)
  obtain ⟨_, g2, g3, g4, g5, g6, g7, g8⟩ := ht
  have S61 : S 6 1 = n := by
    have := h.1.2.1.2.2.2.2.2.2.2.1
    unfold nwS at hn
    omega
  have sc0 : sC N S M1 24 := h.1.2.2.2.2.1.to (fun b q1 q2 => h1 b (by omega) (by omega))
  unfold f51_29
  refine wp_bind (w241 (r0 := 200 + 5 * n) (r1 := 24) (by omega) sc0 (fun M2 a1 a2 => ?_))
  rw [Int.toNat_natCast]
  refine wp_gd (by omega) (wp_gd (by omega) (wp_mlet ?_))
  have b6 : ∀ b, b ≠ 29 → b < 200 + 5 * n → ms M2 29 n ((200 + 5 * n : Nat) : Int) b = M1 b := fun b q1 q2 => (ms_a q1).trans (a1 b (by omega))
  have s6 : sC N S (ms M2 29 n ((200 + 5 * n : Nat) : Int)) (200 + 5 * n) := a2.to (fun b q1 q2 => ms_a (by omega))
  have v6 : ∀ j, ms M2 29 n ((200 + 5 * n : Nat) : Int) 29 j = if j = n then ((200 + 5 * n : Nat) : Int) else M 29 j := fun j => by
    rw [ms_at, a1 29 (by omega), h1 29 (by decide) (by omega)]
  generalize ms M2 29 n ((200 + 5 * n : Nat) : Int) = M6 at b6 s6 v6 ⊢
  refine wp_obnd (wf8 hN hS (h.1.2.2.1.to (by rw [b6 3 (by decide) (by omega), h1 3 (by decide) (by omega)]) (fun b q1 q2 => by rw [b6 b (by omega) (by omega), h1 b (by omega) (by omega)])) s6 (by omega) (fun v M9 c1 c2 c3 c4 => wp_mlet ?_))
  have b11 : ∀ b, b ≠ 29 → b ≠ 30 → (b < 50 ∨ 72 < b) → b < 200 + 5 * n → ms M9 30 n v b = M1 b := fun b q1 q2 q3 q4 => (ms_a q2).trans ((c1 b (by omega)).trans (b6 b q1 q4))
  have s11 : sC N S (ms M9 30 n v) (200 + 5 * n) := s6.to (fun b q1 q2 => (ms_a (by omega)).trans (c1 b (by omega)))
  have v11 : ∀ j, ms M9 30 n v 29 j = if j = n then ((200 + 5 * n : Nat) : Int) else M 29 j := fun j => by
    rw [ms_a (by decide), c1 29 (by omega)]
    exact v6 j
  have u11 : ∀ j, ms M9 30 n v 30 j = if j = n then v else M 30 j := fun j => by
    rw [ms_at, c1 30 (by omega), b6 30 (by decide) (by omega), h1 30 (by decide) (by omega)]
  generalize ms M9 30 n v = M11 at b11 s11 v11 u11 ⊢
  refine wp_bind (w219 (by omega) s11 (fun M14 d1 d2 d3 => ?_))
  have b14 : ∀ b, b ≠ 0 → b ≠ 29 → b ≠ 30 → (b < 50 ∨ 78 < b) → b < 200 + 5 * n → M14 b = M b := fun b q0 q1 q2 q3 q4 => (d1 b (by omega)).trans ((b11 b q1 q2 (by omega) q4).trans (h1 b q0 q4))
  refine wp_bind (w225 (K := kOf l) (T := M) (tx := t) (c := M 3 3) hN hS (h.1.2.2.1.to (b14 3 (by decide) (by decide) (by decide) (by omega) (by omega)) (fun b q1 q2 => b14 b (by omega) (by omega) (by omega) (by omega) (by omega))) (txV_g g4) (txV_C hx g4) ⟨by rw [b14 3 (by decide) (by decide) (by decide) (by omega) (by omega)]; exact g2, hx, fun b q1 q2 => b14 b (by omega) (by omega) (by omega) (by omega) (by omega)⟩ ⟨d2, fun q => by rw [d3] at q; exact absurd q (by decide)⟩ (by rw [b14 3 (by decide) (by decide) (by decide) (by omega) (by omega)]) h.cst.2 (fun M17 e1 e2 e3 e4 e5 e6 e7 e8 => ?_))
  have b17 : ∀ b, b ≠ 0 → b ≠ 29 → b ≠ 30 → (b < 50 ∨ 97 < b) → b ≠ t + 6 → b < 200 + 5 * n → M17 b = M b := fun b q0 q1 q2 q3 q4 q5 => (e1 b (by omega) q4).trans (b14 b q0 q1 q2 (by omega) q5)
  have s17 : sC N S M17 (200 + 5 * n) := s11.to (fun b q1 q2 => (e1 b (by omega) (by omega)).trans (d1 b (by omega)))
  have n17 : nCl N M17 := h.1.2.2.1.to (b17 3 (by decide) (by decide) (by decide) (by omega) (by omega) (by omega)) (fun b q1 q2 => b17 b (by omega) (by omega) (by omega) (by omega) (by omega) (by omega))
  have scr := h.2.2.2.2.1
  refine wp_bind (w232 (r3 := 200 + 5 * n) (r4 := 79) (n := n) hN n17 (by omega) (by omega) (by decide) (by rw [s17.2.2.2.2.2]; exact S61) (fun w hw => (s17.1 w hw).1) (fun w hw => e4.2.2.2.2.2 w hw) (fun k hk z => ?_) (fun M20 f1 f2 => ?_))
  · rw [b17 104 (by decide) (by decide) (by decide) (by omega) (by omega) (by omega)] at z
    rw [b17 106 (by decide) (by decide) (by decide) (by omega) (by omega) (by omega)]
    obtain ⟨_, y2, y3, _⟩ := scr.2 k hk
    rcases y3 with y3 | ⟨t2, y3, y4, y5, y6⟩
    · exact absurd (y2.trans y3) z
    · exact y5
  refine wp_bind (w241 (r0 := 24) (r1 := 74) (by decide) (e2.1.to (fun b q1 q2 => f1 b (by omega))) (fun M23 k1 k2 => ?_))
  have r23 : ∀ b, (b < 24 ∨ 28 < b) → (b < 104 ∨ 111 < b) → M23 b = M17 b := fun b q1 q2 => (k1 b (by omega)).trans (f1 b q2)
  have e73 : M23 73 = M17 73 := r23 73 (by omega) (by omega)
  refine wp_bind (w208 (N := N) (S := S) (K := kOf l) (c := M 3 3) (e := e) (n := n) hN hv.2.2.1 (by rw [r23 98 (by omega) (by omega), b17 98 (by decide) (by decide) (by decide) (by omega) (by omega) (by omega)]; exact hv.1) (e4.to (fun b q1 q2 => r23 b (by omega) (by omega))) (by rw [e73]; exact e5) (by rw [e73]; exact e6) (by rw [e73]; exact e7) (by rw [e73]; exact e8) (fun M26 l1 => wp_some ⟨?_, ?_⟩))
  · show M26 73 2 = _
    rw [l1.1 73 (by omega), e73]
    exact e3
  · obtain ⟨l2, l3, l4, l5⟩ := l1
    have r26 : ∀ b, (b < 24 ∨ 28 < b) → (b < 98 ∨ (101 < b ∧ b < 104) ∨ 111 < b) → M26 b = M17 b := fun b q1 q2 => (l2 b (by omega)).trans (r23 b q1 (by omega))
    have o29 : M26 29 = M11 29 := by rw [r26 29 (by omega) (by omega), e1 29 (by omega) (by omega), d1 29 (by omega)]
    have o30 : M26 30 = M11 30 := by rw [r26 30 (by omega) (by omega), e1 30 (by omega) (by omega), d1 30 (by omega)]
    have o98 : ∀ b, 98 ≤ b → b ≤ 101 → M23 b = M b := fun b q1 q2 => by rw [r23 b (by omega) (by omega), b17 b (by omega) (by omega) (by omega) (by omega) (by omega) (by omega)]
    refine ⟨fun b q0 q1 q2 q3 q4 => ?_, ?_, k2.to (fun b q1 q2 => l2 b (by omega)), s17.to (fun b q1 q2 => r26 b (by omega) (by omega)), ⟨fun j hj => ⟨?_, ?_⟩, ?_, ?_, ?_⟩, ⟨l3, fun j hj => ?_, l5⟩, fun k hk => ?_⟩
    · show M26 b = M b
      rw [r26 b (by omega) (by omega)]
      exact b17 b q0 (by omega) (by omega) (by omega) q4 q1
    · show M26 0 0 = _
      rw [r26 0 (by omega) (by omega), e1 0 (by omega) (by omega), d1 0 (by omega), b11 0 (by decide) (by decide) (by omega) (by omega)]
      exact h0
    · show M26 29 j = _
      rw [o29, v11, if_neg hj]
    · show M26 30 j = _
      rw [o30, u11, if_neg hj]
    · show M26 29 n = _
      rw [o29, v11, if_pos rfl]
    · show 0 ≤ M26 30 n ∧ M26 30 n < 16384
      rw [o30, u11, if_pos rfl]
      exact ⟨c2, c3⟩
    · show ∀ w, tb (M26 30 n) w = true ↔ _
      rw [o30, u11, if_pos rfl]
      exact c4
    · have := l4 j hj
      rw [o98 99 (by decide) (by decide), o98 100 (by decide) (by decide), o98 101 (by decide) (by decide)] at this
      exact this
    · have sc := f2 k hk
      have x : ∀ b, 104 ≤ b → b ≤ 111 → M26 b = M20 b := fun b q1 q2 => (l2 b (by omega)).trans (k1 b (by omega))
      have y : ∀ b, 103 ≤ b → b ≤ 111 → M17 b = M b := fun b q1 q2 => b17 b (by omega) (by omega) (by omega) (by omega) (by omega) (by omega)
      unfold scN othS at sc ⊢
      dsimp only
      rw [x 104 (by decide) (by decide), x 105 (by decide) (by decide), x 106 (by decide) (by decide), x (108 + k) (by omega) (by omega)]
      rw [y 103 (by decide) (by decide), y 104 (by decide) (by decide), y 105 (by decide) (by decide), y 106 (by decide) (by decide), y (108 + k) (by omega) (by omega)] at sc
      exact sc
/-- both minutes are told alike -/
theorem go_IV {Mc M' : Mm} (h : IV N S Ps l M) (ht : iTxt l t d M) (hv : iEv N (nwS S) e M) (hn : nwS S = n) (hn2 : n ≤ 498) (hc : goC N S (kOf l) (M 3 3) t n e M Mc) (hm : goM N S (kOf l) (M 3 3) n e Mc M') : GI M' := by
  have hN := h.1.1
  have hS := h.1.2.1
  have ht4 : t = 4 ∨ t = 135 := by have := ht.1; omega
  obtain ⟨a1, a2, a3, a4, ⟨a5, a6, a7, a8⟩, ⟨a9, a10, a11⟩, a12⟩ := hc
  obtain ⟨⟨b1, b2, b3⟩, b4, b5, b6, ⟨b7, b8, b9⟩, ⟨b10, b11⟩, ⟨b12, b13, b14⟩, b15⟩ := hm
  have S61 : S 6 1 = n := by
    have := h.1.2.1.2.2.2.2.2.2.2.1
    unfold nwS at hn
    omega
  have n61 : (nx N S (kOf l) (M 3 3)) 6 1 = (n : Int) + 1 := by rw [← S61]; rfl
  have nwX : nwS (nx N S (kOf l) (M 3 3)) = n + 1 := by unfold nwS; rw [n61]; omega
  -- cells that both leave
  have fb : ∀ b, b ≠ 0 → b < 200 + 5 * n → (b < 24 ∨ 30 < b) → (b < 50 ∨ (101 < b ∧ b < 104) ∨ 111 < b) → b ≠ t + 6 → b ≠ 142 → b ≠ 144 → (b < 158 ∨ (166 < b ∧ b < 178) ∨ 190 < b ∨ b = 188 ∨ b = 189) → M' b = M b := fun b q0 q1 q2 q3 q4 q5 q6 q7 => (b1 b q5 q6 q7).trans (a1 b q0 q1 q2 q3 q4)
  have c142 : Mc 142 = M 142 := a1 142 (by decide) (by omega) (by omega) (by omega) (by omega)
  have c144 : Mc 144 = M 144 := a1 144 (by decide) (by omega) (by omega) (by omega) (by omega)
  have cx : ∀ b, 182 ≤ b → b ≤ 190 → Mc b = M b := fun b q1 q2 => a1 b (by omega) (by omega) (by omega) (by omega) (by omega)
  have fj : ∀ j, (j ≤ 9 ∨ j = 52) → j ≠ 2 → j ≠ 7 → M' 142 j = M 142 j := fun j q1 q2 q3 => (b2 j q1 q2 q3).trans (by rw [c142])
  have mc : ∀ b, b ≠ 142 → b ≠ 144 → (b < 158 ∨ (166 < b ∧ b < 178) ∨ 190 < b ∨ b = 188 ∨ b = 189) → M' b = Mc b := b1
  obtain ⟨⟨g1, g2, g3, g4, g5, g6, g7, g8, g9⟩, h2, _, _, h5, ⟨r, bb, h7⟩, h8, ⟨z, h9⟩⟩ := id h
  rw [hn] at h2 h5 hv
  have hV := nx_V (K := kOf l) (c := M 3 3) hN hS (by omega)
  refine ⟨N, nx N S (kOf l) (M 3 3), fun m => if m = n then S else Ps m, l, ⟨hN, hV, ?_, ?_, a3.to (fun b q1 q2 => mc b (by omega) (by omega) (by omega)), b6, ?_, ?_, ?_⟩, ?_, ⟨t, d, ?_⟩, ⟨min 400 (e + (evL N S (kOf l) (M 3 3)).length), ?_⟩, ?_, ⟨r, bb, ?_⟩, ?_, ⟨z, ?_⟩⟩
  · exact g3.to (fb 3 (by decide) (by omega) (by omega) (by omega) (by omega) (by decide) (by decide) (by omega)) (fun b q1 q2 => fb b (by omega) (by omega) (by omega) (by omega) (by omega) (by omega) (by omega) (by omega))
  · exact g4.to (fj 3 (by omega) (by decide) (by decide)) (fj 4 (by omega) (by decide) (by decide)) (fj 5 (by omega) (by decide) (by decide)) (fun b q1 q2 => fb b (by omega) (by omega) (by omega) (by omega) (by omega) (by omega) (by omega) (by omega))
  · intro w q1 q2
    rw [fb 152 (by decide) (by omega) (by omega) (by omega) (by omega) (by decide) (by decide) (by omega)]
    exact g7 w q1 q2
  · rw [b4, n61]
    exact ⟨rfl, by omega⟩
  · rw [fb 3 (by decide) (by omega) (by omega) (by omega) (by omega) (by decide) (by decide) (by omega), b3 36069 (by omega) (by omega) (by decide), c144]
    exact g9
  · -- the past
    rw [nwX]
    refine ⟨by rw [mc 0 (by decide) (by decide) (by omega)]; rw [a2]; omega, fun m hm => ?_⟩
    dsimp only
    by_cases e1 : m = n
    · rw [if_pos e1, e1]
      refine ⟨hS, S61, by rw [mc 29 (by decide) (by decide) (by omega)]; exact a6, a4.to (fun b q1 q2 => mc b (by omega) (by omega) (by omega)), b5, ?_⟩
      rw [mc 30 (by decide) (by decide) (by omega)]
      exact tb_ext a7.1 b8.1 (fun w => Bool.eq_iff_iff.mpr ((a8 w).trans (b9 w).symm))
    · rw [if_neg e1]
      obtain ⟨p1, p2, p3, p4, p5, p6⟩ := h2.2 m (by omega)
      refine ⟨p1, p2, ?_, p4.to (fun b q1 q2 => fb b (by omega) (by omega) (by omega) (by omega) (by omega) (by omega) (by omega) (by omega)), p5.to (fun a q1 q2 => by rw [b3 a (by omega) (by omega) (by omega), c144]), ?_⟩
      · rw [mc 29 (by decide) (by decide) (by omega), (a5 m e1).1]
        exact p3
      · rw [mc 30 (by decide) (by decide) (by omega), (a5 m e1).2, b7 m e1, cx 182 (by decide) (by decide)]
        exact p6
  · exact ht.to (by rw [fb 3 (by decide) (by omega) (by omega) (by omega) (by omega) (by decide) (by decide) (by omega)]) (by rw [fb 2 (by decide) (by omega) (by omega) (by omega) (by omega) (by decide) (by decide) (by omega)]) (fun b q => fb b (by omega) (by omega) (by omega) (by omega) (by omega) (by omega) (by omega) (by omega)) (fj 6 (by omega) (by decide) (by decide)) (fj 52 (by omega) (by decide) (by decide))
  · -- the log
    rw [nwX]
    have hl := hv.2.2.1
    refine ⟨by rw [mc 98 (by decide) (by decide) (by omega)]; exact a9, b12, by omega, fun j hj => ?_⟩
    rw [mc 99 (by decide) (by decide) (by omega), mc 100 (by decide) (by decide) (by omega), mc 101 (by decide) (by decide) (by omega)]
    by_cases e1 : j < e
    · obtain ⟨x1, x2, x3⟩ := a10 j e1
      obtain ⟨y1, y2, y3⟩ := b13 j e1
      obtain ⟨z1, z2, z3, z4, z5, m, z6, z7⟩ := hv.2.2.2 j e1
      rw [x1, x2, x3, y1, y2, y3, cx 185 (by decide) (by decide), cx 186 (by decide) (by decide), cx 187 (by decide) (by decide)]
      exact ⟨z1, z2, z3, z4, z5, m, by omega, z7⟩
    · have hx : j - e < (evL N S (kOf l) (M 3 3)).length := by omega
      have hx2 := List.getElem?_eq_getElem hx
      obtain ⟨x1, x2, x3⟩ := a11 (j - e) _ hx2 (by omega)
      obtain ⟨y1, y2, y3⟩ := b14 (j - e) _ hx2 (by omega)
      rw [show e + (j - e) = j by omega] at x1 x2 x3 y1 y2 y3
      rw [x1, x2, x3, y1, y2, y3]
      have hmem := List.getElem_mem hx
      generalize (evL N S (kOf l) (M 3 3))[j - e] = p at hmem
      obtain ⟨k, w⟩ := p
      have hk : 0 ≤ k ∧ k ≤ 3 := by
        unfold evL at hmem
        rw [List.mem_append, List.mem_append, List.mem_append, flL_in, flL_in, flL_in, List.mem_map] at hmem
        rcases hmem with ((⟨a, _, q⟩ | q) | q) | q
        · injection q with q1 q2
          omega
        · omega
        · omega
        · omega
      refine ⟨rfl, rfl, rfl, hk, ⟨Int.natCast_nonneg _, ?_⟩, n, by omega, rfl⟩
      have hcam := (evL_in hk).mp hmem
      unfold camN at hcam
      unfold kdN
      show (w : Int) < _
      by_cases k1 : k = 1
      · rw [if_pos k1] at hcam
        rw [if_neg (by omega), if_neg (by omega)]
        omega
      · rw [if_neg k1] at hcam
        by_cases k2 : k = 2
        · rw [if_pos k2] at hcam
          rw [if_neg (by omega), if_neg (by omega)]
          omega
        · rw [if_neg k2] at hcam
          by_cases k3 : k = 3
          · rw [if_pos k3] at hcam
            rw [if_neg (by omega), if_pos k3]
            omega
          · rw [if_neg k3] at hcam
            have := (falls_isl hN hcam).2.1
            rw [if_pos (show k = 0 by omega)]
            omega
  · -- the screens
    rw [nwX]
    have s184 : ∀ m w, m < n → w < 14 → M' 184 (14 * m + w) = M 184 (14 * m + w) ∧ M' 183 (14 * m + w) = M 183 (14 * m + w) := fun m w q1 q2 => by
      have := b10 (14 * m + w) (by omega)
      rw [cx 184 (by decide) (by decide), cx 183 (by decide) (by decide)] at this
      exact this
    have h14 := hN.w14
    have dO : ∀ k t2 m, t2 < n → m < n → (dff N M' k t2 m ↔ dff N M k t2 m) := fun k t2 m q1 q2 => by
      unfold dff
      constructor
      · rintro ⟨w, x1, x2, x3⟩
        rw [(s184 m w q2 (by omega)).1, (s184 m w q2 (by omega)).2, (s184 t2 w q1 (by omega)).1, (s184 t2 w q1 (by omega)).2] at x3
        exact ⟨w, x1, x2, x3⟩
      · rintro ⟨w, x1, x2, x3⟩
        refine ⟨w, x1, x2, ?_⟩
        rw [(s184 m w q2 (by omega)).1, (s184 m w q2 (by omega)).2, (s184 t2 w q1 (by omega)).1, (s184 t2 w q1 (by omega)).2]
        exact x3
    refine ⟨fun m w hm hw => ?_, fun k hk => ?_⟩
    · by_cases e1 : m = n
      · rw [e1, (b11 w hw).1]
        split
        · exact Or.inr rfl
        · exact Or.inl rfl
      · rw [(s184 m w (by omega) (by omega)).1]
        exact h5.1 m w (by omega) hw
    · have i103 : M' 103 = M 103 := fb 103 (by decide) (by omega) (by omega) (by omega) (by omega) (by decide) (by decide) (by omega)
      have i188 : M' 188 = M 188 := fb 188 (by decide) (by omega) (by omega) (by omega) (by omega) (by decide) (by decide) (by omega)
      have i189 : M' 189 = M 189 := fb 189 (by decide) (by omega) (by omega) (by omega) (by omega) (by decide) (by decide) (by omega)
      obtain ⟨x1, x2, x3, x4, x5⟩ := h5.2 k hk
      have sk := a12 k hk
      have i190 := b15 k hk
      rw [cx 188 (by decide) (by decide), cx 190 (by decide) (by decide)] at i190
      have i104 : M' 104 = Mc 104 := mc 104 (by decide) (by decide) (by omega)
      have i105 : M' 105 = Mc 105 := mc 105 (by decide) (by decide) (by omega)
      have i106 : M' 106 = Mc 106 := mc 106 (by decide) (by decide) (by omega)
      have i108 : M' (108 + k) = Mc (108 + k) := mc (108 + k) (by omega) (by omega) (by omega)
      rw [i103, i188, i189, i104, i105, i106, i108, i190]
      by_cases st : M 188 k = 0
      · obtain ⟨y1, y2, y3, y4⟩ := sk.1 (x1.1.trans st)
        rw [if_pos st]
        refine ⟨x1, y2, Or.inr ⟨n, by omega, rfl, y3, fun w hw => ?_⟩, fun _ => by rw [y1]; exact x4 st, fun q => by omega⟩
        obtain ⟨o1, o2⟩ := y4 w hw
        rw [(b11 w hw).1, (b11 w hw).2]
        refine ⟨?_, o2⟩
        by_cases e1 : S 0 w = 0
        · rw [if_pos (o1.mpr e1), if_pos e1]
        · rw [if_neg (fun q => e1 (o1.mp q)), if_neg e1]
      · obtain ⟨y1, y2, y3, y4⟩ := sk.2 (fun q => st (x1.1.symm.trans q))
        rw [if_neg st, y1, y2, y3]
        refine ⟨x1, x2, ?_, fun q => absurd q st, fun q => ?_⟩
        · rcases x3 with x3 | ⟨t2, o1, o2, o3, o4⟩
          · exact Or.inl x3
          · refine Or.inr ⟨t2, by omega, o2, o3, fun w hw => ?_⟩
            rw [(s184 t2 w o1 (by omega)).1, (s184 t2 w o1 (by omega)).2]
            exact o4 w hw
        · obtain ⟨s0, p1, p2, p3, p4⟩ := x5 q
          refine ⟨s0, p1, by omega, fun q2 => ?_, fun t2 ht2 => ?_⟩
          · rcases y4 with ⟨_, u2, _⟩ | ⟨_, u2⟩
            · exact absurd (x2.trans q2) u2.1
            · rw [u2]; exact p3 q2
          · have pt := p4 t2 ht2
            rcases x3 with x3 | ⟨t3, o1, o2, o3, o4⟩
            · omega
            have e3 : t3 = t2 := by omega
            subst e3
            have oth : othS N S M k ↔ dff N M' k t3 n := by
              unfold othS dff
              constructor
              · rintro ⟨_, w, v1, v2, v3⟩
                refine ⟨w, v1, v2, ?_⟩
                obtain ⟨j1, j2⟩ := o4 w v1
                rw [(b11 w v1).1, (b11 w v1).2, (s184 t3 w o1 (by omega)).1, (s184 t3 w o1 (by omega)).2]
                rw [j1, j2] at v3
                rcases v3 with v3 | v3
                · exact Or.inl (fun z => v3 z.symm)
                · exact Or.inr (fun z => v3 z.symm)
              · rintro ⟨w, v1, v2, v3⟩
                refine ⟨by omega, w, v1, v2, ?_⟩
                obtain ⟨j1, j2⟩ := o4 w v1
                rw [(b11 w v1).1, (b11 w v1).2, (s184 t3 w o1 (by omega)).1, (s184 t3 w o1 (by omega)).2] at v3
                rw [j1, j2]
                rcases v3 with v3 | v3
                · exact Or.inl (fun z => v3 z.symm)
                · exact Or.inr (fun z => v3 z.symm)
            rcases pt with ⟨c1, c2⟩ | ⟨m0, c1, c2, c3, c4, c5⟩
            · rcases y4 with ⟨_, u2, u3⟩ | ⟨u2, u3⟩
              · refine Or.inr ⟨n, u3, p2, by omega, oth.mp u2, fun m q1 q2 z => c2 m q1 q2 ((dO k t3 m o1 q2).mp z)⟩
              · refine Or.inl ⟨u3.trans c1, fun m q1 q2 z => ?_⟩
                by_cases e1 : m = n
                · rw [e1] at z
                  exact u2 ⟨c1, oth.mpr z⟩
                · exact c2 m q1 (by omega) ((dO k t3 m o1 (by omega)).mp z)
            · rcases y4 with ⟨u1, _, _⟩ | ⟨u2, u3⟩
              · omega
              · exact Or.inr ⟨m0, u3.trans c1, c2, by omega, (dO k t3 m0 o1 c3).mpr c4, fun m q1 q2 z => c5 m q1 q2 ((dO k t3 m o1 (by omega)).mp z)⟩
  · exact h7.to (fun b q => fb b (by omega) (by omega) (by omega) (by omega) (by omega) (by omega) (by omega) (by omega)) (fj 8 (by omega) (by decide) (by decide)) (fj 9 (by omega) (by decide) (by decide))
  · exact h8.to (fun b q => fb b (by omega) (by omega) (by omega) (by omega) (by omega) (by omega) (by omega) (by omega))
  · exact h9.to (by rw [fb 132 (by decide) (by omega) (by omega) (by omega) (by omega) (by decide) (by decide) (by omega)]) (fj 1 (by omega) (by decide) (by decide)) (fun b q => fb b (by omega) (by omega) (by omega) (by omega) (by omega) (by omega) (by omega) (by omega))
theorem c51 (h : IV N S Ps l M) (hn2 : nwS S ≤ 498) (h1 : ∀ b, b ≠ 0 → b < 200 + 5 * nwS S → M1 b = M b) (h0 : M1 0 0 = (nwS S : Int) + 1) : Wp (f51_29 (nwS S) (200 + 5 * nwS S) M1) (fun r => JJ r.1 (f113 r.2)) := by
  obtain ⟨t, d, ht⟩ := h.2.2.1
  obtain ⟨e, hv⟩ := h.2.2.2.1
  have ht4 : t = 4 ∨ t = 135 := by have := ht.1; omega
  refine wpW (w51 h ht hv rfl hn2 h1 h0) (fun r hr => ?_)
  obtain ⟨v, Mc⟩ := r
  obtain ⟨r1, r2⟩ := hr
  dsimp only at r1 r2 ⊢
  have a1 := r2.1
  have g7 := ht.2.2.2.2.2.2.1
  refine wpW (w113 (K := kOf l) (T := M) (c := M 3 3) (n := nwS S) (e := e) h.1.1 h.1.2.1 hn2 (h.1.2.2.2.1.to (by rw [a1 142 (by decide) (by omega) (by omega) (by omega) (by omega)]) (by rw [a1 142 (by decide) (by omega) (by omega) (by omega) (by omega)]) (by rw [a1 142 (by decide) (by omega) (by omega) (by omega) (by omega)]) (fun b q1 q2 => a1 b (by omega) (by omega) (by omega) (by omega) (by omega))) (h.1.2.2.2.2.2.1.to (fun a _ _ => by rw [a1 144 (by decide) (by omega) (by omega) (by omega) (by omega)])) (txW_M g7) ⟨by rw [a1 142 (by decide) (by omega) (by omega) (by omega) (by omega)], fun b q1 q2 => a1 b (by omega) (by omega) (by omega) (by omega) (by omega)⟩ (by rw [a1 144 (by decide) (by omega) (by omega) (by omega) (by omega)]; exact h.cst.1) h.cst.2 (by rw [a1 142 (by decide) (by omega) (by omega) (by omega) (by omega)]; exact hv.2.1) hv.2.2.1 (by rw [a1 142 (by decide) (by omega) (by omega) (by omega) (by omega)]; exact h.now.2.1)) (fun r2' hr2 => ⟨hr2.1.trans r1.symm, go_IV h ht hv rfl hn2 r2 hr2.2⟩)
theorem c51x (h : IV N S Ps l M) (hn2 : ¬ nwS S ≤ 498) : JJ (-1) (f113 M) := by
  have hnw := h.nw
  unfold f113
  exact wp_pos (by rw [h.now.2.1]; omega) (wp_some ⟨rfl, h.G⟩)
end GO3
