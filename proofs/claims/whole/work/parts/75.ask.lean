/-! Asking the first object's steps: a small machine (holds so far, skips till, stack). -/
abbrev As : Type := Int × Int × List Int
def cd (r : Nat) (M : Mm) (i : Nat) : Int × Int := (M (r + 2) i, M (r + 3) i)
noncomputable def bn2 (c so nx : Int) (k : List Int) : Option As := match k with
  | y :: x :: k2 => if y = 0 ∧ (c = 47 ∨ c = 37) then none else if cps c = true then some (cmpV c x y, nx, k2) else some (so, nx, reck c x y :: k2)
  | _ => none
noncomputable def st1 (C : Nat → Int × Int) (tA tO : Int) (L : Nat → Int) (p : Nat) (so nx : Int) (k : List Int) : Option As :=
  if (p : Int) < nx then some (so, nx, k)
  else if (C p).1 = 48 then (if k.length < 32 then some (so, nx, (C p).2 :: k) else none)
  else if (C p).1 = 97 then (if k.length < 32 then some (so, nx, L (C p).2.toNat :: k) else none)
  else if (C p).1 = 33 then some (if so = 0 then 1 else 0, nx, k)
  else if (C p).1 = 38 then some (so, if so = 0 then (if (C p).2 = -1 then tA else (C p).2) else nx, k)
  else if (C p).1 = 124 then some (so, if so = 0 then nx else (if (C p).2 = -1 then tO else (C p).2), k)
  else bn2 (C p).1 so nx k
noncomputable def rn (C : Nat → Int × Int) (tA tO : Int) (L : Nat → Int) : Nat → Nat → As → Option As
  | 0, _, s => some s
  | m + 1, p, s => (st1 C tA tO L p s.1 s.2.1 s.2.2).bind (rn C tA tO L m (p + 1))
/-- what stands on the stack's cells -/
def stR (f : Nat → Int) : List Int → Prop
  | [] => True
  | x :: k => f k.length = x ∧ stR f k
def okS (c : Int) : Prop := c = 48 ∨ c = 97 ∨ c = 33 ∨ c = 38 ∨ c = 124 ∨ c = 60 ∨ c = 62 ∨ c = 61 ∨ c = 42 ∨ c = 43 ∨ c = 45 ∨ c = 47 ∨ c = 37
def okC (C : Nat → Int × Int) (a b : Nat) : Prop := ∀ i, a ≤ i → i < b → okS (C i).1 ∧ ((C i).1 = 97 → 0 ≤ (C i).2 ∧ (C i).2 < 11)
def ansO (o : Option As) : Int := match o with | some s => s.1 | none => 0
section RN
variable {C C2 : Nat → Int × Int} {tA tO : Int} {L : Nat → Int} {p a b : Nat} {s : As}
theorem rn_add : ∀ (m1 m2 p : Nat) (s : As), rn C tA tO L (m1 + m2) p s = (rn C tA tO L m1 p s).bind (rn C tA tO L m2 (p + m1))
  | 0, m2, p, s => by rw [Nat.zero_add]; rfl
  | m1 + 1, m2, p, s => by
    rw [show m1 + 1 + m2 = (m1 + m2) + 1 by omega, rn, rn]
    cases h : st1 C tA tO L p s.1 s.2.1 s.2.2 with
    | none => rfl
    | some s2 =>
      show rn C tA tO L (m1 + m2) (p + 1) s2 = (rn C tA tO L m1 (p + 1) s2).bind _
      rw [rn_add m1 m2 (p + 1) s2, show p + 1 + m1 = p + (m1 + 1) by omega]
theorem rn_app {a b c : Nat} (h1 : a ≤ b) (h2 : b ≤ c) : rn C tA tO L (c - a) a s = (rn C tA tO L (b - a) a s).bind (rn C tA tO L (c - b) b) := by
  rw [show c - a = (b - a) + (c - b) by omega, rn_add, show a + (b - a) = b by omega]
theorem rn_one {so nx : Int} {k : List Int} : rn C tA tO L (p + 1 - p) p (so, nx, k) = st1 C tA tO L p so nx k := by
  rw [show p + 1 - p = 1 by omega, rn]
  dsimp only
  cases st1 C tA tO L p so nx k <;> rfl
theorem bn2_c {c so nx x y : Int} {k : List Int} : bn2 c so nx (y :: x :: k) = if y = 0 ∧ (c = 47 ∨ c = 37) then none else if cps c = true then some (cmpV c x y, nx, k) else some (so, nx, reck c x y :: k) := rfl
theorem rn_cg : ∀ (m p : Nat) (s : As), (∀ i, p ≤ i → i < p + m → C2 i = C i) → rn C2 tA tO L m p s = rn C tA tO L m p s
  | 0, _, _, _ => rfl
  | m + 1, p, s, h => by
    have e : st1 C2 tA tO L p s.1 s.2.1 s.2.2 = st1 C tA tO L p s.1 s.2.1 s.2.2 := by
      unfold st1
      rw [h p (Nat.le_refl _) (by omega)]
    rw [rn, rn, e]
    congr 1
    funext s2
    exact rn_cg m (p + 1) s2 (fun i h1 h2 => h i (by omega) (by omega))
theorem rn_skip {so nx : Int} {k : List Int} : ∀ (m p : Nat), ((p + m : Nat) : Int) ≤ nx → rn C tA tO L m p (so, nx, k) = some (so, nx, k)
  | 0, _, _ => rfl
  | m + 1, p, h => by
    rw [rn]
    have e : st1 C tA tO L p so nx k = some (so, nx, k) := if_pos (by omega)
    dsimp only
    rw [e]
    exact rn_skip m (p + 1) (by omega)
theorem stR_to {f g : Nat → Int} : ∀ {k : List Int}, stR f k → (∀ i, i < k.length → g i = f i) → stR g k
  | [], _, _ => trivial
  | x :: k, h, hh => ⟨(hh _ (Nat.lt_succ_self _)).trans h.1, stR_to h.2 (fun i hi => hh i (Nat.lt_succ_of_lt hi))⟩
end RN
section LP5
variable {α β γ δ ε τ : Type} {P : τ → Prop}
def up5 (I : Nat → α → β → γ → δ → ε → Prop) (m : Nat) : α × β × γ × δ × ε → Prop := fun t => ∃ k, k < m ∧ I k t.1 t.2.1 t.2.2.1 t.2.2.2.1 t.2.2.2.2
theorem wp_lp5 {f : α × β × γ × δ × ε → Option ((α × β × γ × δ × ε) ⊕ τ)} {x : α} {y : β} {z : γ} {u : δ} {v : ε} (I : Nat → α → β → γ → δ → ε → Prop) (m : Nat) (hm : m < 100000) (h0 : I m x y z u v) (hb : ∀ m x y z u v, I m x y z u v → Wp (f (x, y, z, u, v)) (Sum.elim (up5 I m) P)) : Wp (lp f (x, y, z, u, v)) P :=
  wp_lp (fun m t => I m t.1 t.2.1 t.2.2.1 t.2.2.2.1 t.2.2.2.2) m hm h0 (fun m t h => hb m t.1 t.2.1 t.2.2.1 t.2.2.2.1 t.2.2.2.2 h)
theorem wp_i5 {I : Nat → α → β → γ → δ → ε → Prop} {m : Nat} {x : α} {y : β} {z : γ} {u : δ} {v : ε} (k : Nat) (hk : k < m) (h : I k x y z u v) : Wp (some (.inl (x, y, z, u, v))) (Sum.elim (up5 I m) P) := ⟨_, rfl, k, hk, h⟩
end LP5
theorem w26 {c x y : Int} {M : Mm} {P : Int → Prop} (hc : c = 42 ∨ c = 43 ∨ c = 45 ∨ c = 47 ∨ c = 37) (h0 : ¬ (y = 0 ∧ (c = 47 ∨ c = 37))) (k : P (reck c x y)) : Wp (f26 c x y M) P := by
  unfold f26 f26_66
  unfold reck at k
  rcases hc with rfl | rfl | rfl | rfl | rfl
  · exact wp_pos rfl (wp_some k)
  · exact wp_neg (by decide) (wp_pos rfl (wp_some k))
  · exact wp_neg (by decide) (wp_neg (by decide) (wp_neg (by decide) (wp_pos rfl (wp_some k))))
  · have hy : ¬ y = 0 := fun q => h0 ⟨q, Or.inl rfl⟩
    exact wp_neg (by decide) (wp_neg (by decide) (wp_neg (by decide) (wp_neg (by decide) (wp_neg (by decide) (wp_pos rfl (wp_neg hy (wp_gd hy (wp_some k))))))))
  · have hy : ¬ y = 0 := fun q => h0 ⟨q, Or.inr rfl⟩
    exact wp_neg (by decide) (wp_neg (by decide) (wp_neg (by decide) (wp_neg (by decide) (wp_neg (by decide) (wp_neg (by decide) (wp_neg hy (wp_gd hy (wp_some k))))))))
section W17
variable {r a b : Nat} {M : Mm}
theorem w17 {P : Int × Mm → Prop} (hr : isTx r) (hab : a ≤ b) (hb : b ≤ 320) (hC : okC (cd r M) a b) (k : ∀ M2 : Mm, (∀ c, c ≠ r + 6 → M2 c = M c) → P (ansO (rn (cd r M) (-1) (-1) (M 97) (b - a) a (0, (a : Int), [])), M2)) : Wp (f17 r (a : Int) (b : Int) M) P := by
  unfold f17 f17_12
  generalize hR : rn (cd r M) (-1) (-1) (M 97) (b - a) a (0, (a : Int), []) = R at k
  let I : Nat → Int → Int → Int → Int → Mm → Prop := fun m so nx top y M2 => ∃ (p : Nat) (st : List Int), y = p ∧ a ≤ p ∧ p ≤ b ∧ (m : Int) = b - y ∧ (so = 0 ∨ so = 1) ∧ top = st.length ∧ st.length ≤ 32 ∧ stR (M2 (r + 6)) st ∧ (∀ c, c ≠ r + 6 → M2 c = M c) ∧ rn (cd r M) (-1) (-1) (M 97) (b - p) p (so, nx, st) = R
  refine wp_lp5 I (b - a) (by omega) ⟨a, [], rfl, Nat.le_refl _, hab, by omega, Or.inl rfl, rfl, by decide, trivial, fun _ _ => rfl, hR⟩ ?_
  rintro m so nx top y M2 ⟨p, st, rfl, h1, h2, h3, h4, rfl, h6, h7, h8, h9⟩
  dsimp only
  unfold lb17_12
  refine wp_ite (fun d => ?_) (fun d => wp_o (wp_gd h4 (wp_some ?_)))
  · have hpb : p < b := by omega
    have e2 : M2 (r + 2) = M (r + 2) := h8 _ (by omega)
    have e3 : M2 (r + 3) = M (r + 3) := h8 _ (by omega)
    have e97 : M2 97 = M 97 := h8 97 (by rcases hr with rfl | rfl <;> decide)
    have hcp := hC p h1 hpb
    have hc1 : (cd r M p).1 = M (r + 2) p := rfl
    have hc2 : (cd r M p).2 = M (r + 3) p := rfl
    rw [hc1, hc2] at hcp
    have hrn : rn (cd r M) (-1) (-1) (M 97) (b - p) p (so, nx, st) = (st1 (cd r M) (-1) (-1) (M 97) p so nx st).bind (rn (cd r M) (-1) (-1) (M 97) (b - (p + 1)) (p + 1)) := by
      rw [rn_app (b := p + 1) (by omega) (by omega), rn_one]
    rw [hrn] at h9
    have cont : ∀ (so2 nx2 : Int) (st2 : List Int) (M3 : Mm) (top2 : Int), top2 = st2.length → (so2 = 0 ∨ so2 = 1) → st2.length ≤ 32 → stR (M3 (r + 6)) st2 → (∀ c, c ≠ r + 6 → M3 c = M c) → st1 (cd r M) (-1) (-1) (M 97) p so nx st = some (so2, nx2, st2) → Wp (f17_342 r (b : Int) so2 nx2 top2 (p : Int) M3) (Sum.elim (up5 I m) P) := fun so2 nx2 st2 M3 top2 q0 q1 q2 q3 q4 q5 => by
      unfold f17_342
      refine wp_gd (by omega) (wp_i5 (m - 1) (by omega) ⟨p + 1, st2, by omega, by omega, by omega, by omega, q1, q0, q2, q3, q4, ?_⟩)
      rw [← h9, q5]
      rfl
    have fin0 : st1 (cd r M) (-1) (-1) (M 97) p so nx st = none → Wp (oinr (some ((0 : Int), M2))) (Sum.elim (up5 I m) P) := fun q => wp_o (wp_some (by
      have e : R = none := by rw [← h9, q]; rfl
      have := k M2 h8
      rw [e] at this
      exact this))
    have hst : st1 (cd r M) (-1) (-1) (M 97) p so nx st = st1 (cd r M) (-1) (-1) (M 97) p so nx st := rfl
    refine wp_ite (fun d2 => cont so nx st M2 _ rfl h4 h6 h7 h8 (if_pos d2)) (fun d2 => wp_gd (by omega) ?_)
    rw [Int.toNat_natCast, e2]
    have hs0 : st1 (cd r M) (-1) (-1) (M 97) p so nx st = if (cd r M p).1 = 48 then (if st.length < 32 then some (so, nx, (cd r M p).2 :: st) else none)
  else if (cd r M p).1 = 97 then (if st.length < 32 then some (so, nx, M 97 (cd r M p).2.toNat :: st) else none)
  else if (cd r M p).1 = 33 then some (if so = 0 then 1 else 0, nx, st)
  else if (cd r M p).1 = 38 then some (so, if so = 0 then (if (cd r M p).2 = -1 then -1 else (cd r M p).2) else nx, st)
  else if (cd r M p).1 = 124 then some (so, if so = 0 then nx else (if (cd r M p).2 = -1 then -1 else (cd r M p).2), st)
  else bn2 (cd r M p).1 so nx st := if_neg d2
    rw [hc1, hc2] at hs0
    have hm1 : ∀ x : Int, (if x = -1 then -1 else x) = x := fun x => by
      by_cases q : x = -1
      · rw [if_pos q, q]
      · rw [if_neg q]
    rw [hm1] at hs0
    generalize hcc : M (r + 2) p = c at *
    generalize hww : M (r + 3) p = w at *
    have push : ∀ v : Int, st.length < 32 → (∀ j, j < st.length → ms M2 (r + 6) st.length v (r + 6) j = M2 (r + 6) j) ∧ stR (ms M2 (r + 6) st.length v (r + 6)) (v :: st) ∧ ∀ d, d ≠ r + 6 → ms M2 (r + 6) st.length v d = M d := fun v hl => ⟨fun j hj => ms_i (by omega), ⟨ms_v, stR_to h7 (fun j hj => ms_i (by omega))⟩, fun d hd => (ms_a hd).trans (h8 d hd)⟩
    refine wp_ite (fun d3 => ?_) (fun d3 => wp_ite (fun d4 => ?_) (fun d4 => wp_ite (fun d5 => ?_) (fun d5 => wp_ite (fun d6 => ?_) (fun d6 => wp_ite (fun d7 => ?_) (fun d7 => ?_)))))
    · rw [if_pos d3] at hs0
      unfold f17_51
      refine wp_ite (fun d8 => wp_pos d3 (wp_gd (by omega) (wp_gd (by omega) (wp_mlet (wp_gd (by omega) ?_))))) (fun d8 => fin0 (by rw [hs0, if_neg (by omega)]))
      rw [if_pos (by omega)] at hs0
      rw [Int.toNat_natCast, Int.toNat_natCast, e3, hww]
      obtain ⟨_, g2, g3⟩ := push w (by omega)
      exact cont so nx (w :: st) _ _ (by rw [List.length_cons]; omega) h4 (by rw [List.length_cons]; omega) g2 g3 hs0
    · rw [if_neg d3, if_pos d4] at hs0
      have hw11 := hcp.2 d4
      unfold f17_51
      refine wp_ite (fun d8 => wp_neg d3 (wp_gd (by omega) ?_)) (fun d8 => fin0 (by rw [hs0, if_neg (by omega)]))
      rw [if_pos (by omega)] at hs0
      rw [Int.toNat_natCast, e3, hww]
      refine wp_gd hw11 (wp_gd (by omega) (wp_mlet (wp_gd (by omega) ?_)))
      rw [Int.toNat_natCast, e97]
      obtain ⟨_, g2, g3⟩ := push (M 97 w.toNat) (by omega)
      exact cont so nx (M 97 w.toNat :: st) _ _ (by rw [List.length_cons]; omega) h4 (by rw [List.length_cons]; omega) g2 g3 hs0
    · rw [if_neg d3, if_neg d4, if_pos d5] at hs0
      refine wp_ite (fun z => ?_) (fun z => ?_)
      · rw [if_pos z] at hs0
        exact cont 1 nx st M2 _ rfl (Or.inr rfl) h6 h7 h8 hs0
      · rw [if_neg z] at hs0
        exact cont 0 nx st M2 _ rfl (Or.inl rfl) h6 h7 h8 hs0
    · rw [if_neg d3, if_neg d4, if_neg d5, if_pos d6] at hs0
      refine wp_ite (fun z => ?_) (fun z => ?_)
      · rw [if_pos z] at hs0
        rw [e3, hww]
        exact cont so w st M2 _ rfl h4 h6 h7 h8 hs0
      · rw [if_neg z] at hs0
        exact cont so nx st M2 _ rfl h4 h6 h7 h8 hs0
    · rw [if_neg d3, if_neg d4, if_neg d5, if_neg d6, if_pos d7] at hs0
      refine wp_ite (fun z => ?_) (fun z => ?_)
      · rw [if_pos z] at hs0
        exact cont so nx st M2 _ rfl h4 h6 h7 h8 hs0
      · rw [if_neg z] at hs0
        rw [e3, hww]
        exact cont so w st M2 _ rfl h4 h6 h7 h8 hs0
    · rw [if_neg d3, if_neg d4, if_neg d5, if_neg d6, if_neg d7] at hs0
      refine wp_ite (fun z => ?_) (fun z => ?_)
      · refine fin0 (hs0.trans ?_)
        cases st with
        | nil => rfl
        | cons x st =>
          cases st with
          | nil => rfl
          | cons y st =>
            rw [List.length_cons, List.length_cons] at z
            omega
      · obtain ⟨y, x, k2, rfl⟩ : ∃ y x k2, st = y :: x :: k2 := by
          cases st with
          | nil => exact (z (by decide)).elim
          | cons x st =>
            cases st with
            | nil => exact (z (by show ((0 + 1 : Nat) : Int) < 2; decide)).elim
            | cons y st => exact ⟨x, y, st, rfl⟩
        · have hl : ((y :: x :: k2).length : Int) = k2.length + 2 := by rw [List.length_cons, List.length_cons]; omega
          have hl2 : (y :: x :: k2).length = k2.length + 2 := rfl
          rw [hl]
          have t1 : ((k2.length : Int) + 2 - 1).toNat = k2.length + 1 := by omega
          have t2 : ((k2.length : Int) + 2 - 2).toNat = k2.length := by omega
          have hy : M2 (r + 6) (k2.length + 1) = y := h7.1
          have hx : M2 (r + 6) k2.length = x := h7.2.1
          refine wp_gd (by omega) (wp_gd (by omega) (wp_gd (by omega) (wp_gd (by omega) ?_)))
          rw [t1, t2, hy, hx]
          have hs0' : st1 (cd r M) (-1) (-1) (M 97) p so nx (y :: x :: k2) = if y = 0 ∧ (c = 47 ∨ c = 37) then none else if cps c = true then some (cmpV c x y, nx, k2) else some (so, nx, reck c x y :: k2) := hs0
          have run : ¬ (y = 0 ∧ (c = 47 ∨ c = 37)) → Wp (f17_233 r (b : Int) so nx ((k2.length : Int) + 2) (p : Int) c y x M2) (Sum.elim (up5 I m) P) := fun hz => by
            rw [if_neg hz] at hs0'
            have cmp : cps c = true → Wp (f17_254 r (b : Int) nx ((k2.length : Int) + 2) (p : Int) c y x M2) (Sum.elim (up5 I m) P) := fun hc => by
              rw [if_pos hc] at hs0'
              have go : ∀ v : Int, v = cmpV c x y → (v = 0 ∨ v = 1) → Wp (gd (R4 ((k2.length : Int) + 2 + (-2))) (f17_342 r (b : Int) v nx ((k2.length : Int) + 2 + (-2)) (p : Int) M2)) (Sum.elim (up5 I m) P) := fun v hv hv2 => by
                refine wp_gd (by omega) (cont v nx k2 M2 _ (by omega) hv2 (by omega) h7.2.2 h8 ?_)
                rw [hs0', hv]
              unfold f17_254
              unfold cmpV at go
              refine wp_ite (fun q1 => wp_ite (fun q2 => go 1 (by rw [if_pos q1, if_pos q2]) (Or.inr rfl)) (fun q2 => go 0 (by rw [if_pos q1, if_neg q2]) (Or.inl rfl))) (fun q1 => wp_ite (fun q3 => wp_ite (fun q2 => go 1 (by rw [if_neg q1, if_pos q3, if_pos q2]) (Or.inr rfl)) (fun q2 => go 0 (by rw [if_neg q1, if_pos q3, if_neg q2]) (Or.inl rfl))) (fun q3 => wp_ite (fun q2 => go 1 (by rw [if_neg q1, if_neg q3, if_pos q2]) (Or.inr rfl)) (fun q2 => go 0 (by rw [if_neg q1, if_neg q3, if_neg q2]) (Or.inl rfl))))
            unfold f17_233
            refine wp_ite (fun q1 => cmp (by rw [q1]; rfl)) (fun q1 => wp_ite (fun q2 => cmp (by rw [q2]; rfl)) (fun q2 => wp_ite (fun q3 => cmp (by rw [q3]; rfl)) (fun q3 => wp_gd (by omega) (wp_bind (w26 ?_ hz (wp_gd (by omega) (wp_mlet (wp_gd (by omega) ?_))))))))
            · have := hcp.1
              unfold okS at this
              omega
            · have hnc : ¬ cps c = true := fun q => by
                unfold cps at q
                rw [Bool.or_eq_true, Bool.or_eq_true, beq_iff_eq, beq_iff_eq, beq_iff_eq] at q
                omega
              rw [if_neg hnc] at hs0'
              rw [t2]
              refine cont so nx (reck c x y :: k2) _ _ (by rw [List.length_cons]; omega) h4 (by rw [List.length_cons]; omega) ⟨ms_v, stR_to h7.2.2 (fun j hj => ms_i (by omega))⟩ (fun d hd => (ms_a hd).trans (h8 d hd)) hs0'
          refine wp_ite (fun q => wp_ite (fun q2 => fin0 (by rw [hs0', if_pos ⟨q, Or.inl q2⟩])) (fun q2 => wp_ite (fun q3 => fin0 (by rw [hs0', if_pos ⟨q, Or.inr q3⟩])) (fun q3 => run (fun q4 => by omega)))) (fun q => run (fun q4 => q q4.1))
  · have e : p = b := by omega
    subst e
    have e2 : R = some (so, nx, st) := by rw [← h9, Nat.sub_self]; rfl
    have := k M2 h8
    rw [e2] at this
    exact this
end W17
/-! What a piece of the steps does. -/
def vG (C : Nat → Int × Int) (a b : Nat) (s : Sem) (nd : Nat) : Prop := ∀ (tA tO : Int) (L : Nat → Int) (so nx : Int) (k : List Int), nx ≤ (a : Int) → k.length + nd ≤ 32 → rn C tA tO L (b - a) a (so, nx, k) = (s L).map (fun v => (so, nx, v :: k))
def cG (C : Nat → Int × Int) (a b : Nat) (s : Sem) : Prop := ∀ (tA tO : Int) (L : Nat → Int) (so nx : Int), nx ≤ (a : Int) → ∃ nx2 : Int, nx2 ≤ (b : Int) ∧ rn C tA tO L (b - a) a (so, nx, []) = (s L).map (fun v => (v, nx2, []))
section SEG
variable {C C2 : Nat → Int × Int} {a b c nd : Nat} {s s1 s2 : Sem}
theorem vG.cg (h : vG C a b s nd) (hab : a ≤ b) (e : ∀ i, a ≤ i → i < b → C2 i = C i) : vG C2 a b s nd := fun tA tO L so nx k h1 h2 => by
  rw [rn_cg _ _ _ (fun i q1 q2 => e i q1 (by omega))]
  exact h tA tO L so nx k h1 h2
theorem cG.cg (h : cG C a b s) (hab : a ≤ b) (e : ∀ i, a ≤ i → i < b → C2 i = C i) : cG C2 a b s := fun tA tO L so nx h1 => by
  rw [rn_cg _ _ _ (fun i q1 q2 => e i q1 (by omega))]
  exact h tA tO L so nx h1
theorem vG.le {nd2 : Nat} (h : vG C a b s nd) (hn : nd ≤ nd2) : vG C a b s nd2 := fun tA tO L so nx k h1 h2 => h tA tO L so nx k h1 (by omega)
theorem st1_no {tA tO : Int} {L : Nat → Int} {p : Nat} {so nx : Int} {k : List Int} (h : nx ≤ (p : Int)) {o : Option As} (e : (if (C p).1 = 48 then (if k.length < 32 then some (so, nx, (C p).2 :: k) else none)
  else if (C p).1 = 97 then (if k.length < 32 then some (so, nx, L (C p).2.toNat :: k) else none)
  else if (C p).1 = 33 then some (if so = 0 then 1 else 0, nx, k)
  else if (C p).1 = 38 then some (so, if so = 0 then (if (C p).2 = -1 then tA else (C p).2) else nx, k)
  else if (C p).1 = 124 then some (so, if so = 0 then nx else (if (C p).2 = -1 then tO else (C p).2), k)
  else bn2 (C p).1 so nx k) = o) : st1 C tA tO L p so nx k = o := (if_neg (by omega)).trans e
theorem v_num {v : Int} (h : C a = (48, v)) : vG C a (a + 1) (fun _ => some v) 1 := fun tA tO L so nx k h1 h2 => by
  rw [rn_one]
  refine st1_no h1 ?_
  rw [h]
  dsimp only
  rw [if_pos rfl, if_pos (by omega)]
  rfl
theorem v_let {j : Nat} (h : C a = (97, (j : Int))) : vG C a (a + 1) (fun L => some (L j)) 1 := fun tA tO L so nx k h1 h2 => by
  rw [rn_one]
  refine st1_no h1 ?_
  rw [h]
  dsimp only
  rw [if_neg (by decide), if_pos rfl, if_pos (by omega), Int.toNat_natCast]
  rfl
theorem v_bop {op w : Int} {n1 n2 : Nat} (g1 : vG C a b s1 n1) (g2 : vG C b c s2 n2) (hab : a ≤ b) (hbc : b ≤ c) (h : C c = (op, w)) (ho : op = 42 ∨ op = 43 ∨ op = 45 ∨ op = 47 ∨ op = 37) (hn1 : n1 ≤ nd) (hn2 : n2 + 1 ≤ nd) : vG C a (c + 1) (bopS op s1 s2) nd := fun tA tO L so nx k h1 h2 => by
  rw [rn_app (b := b) hab (by omega), g1 tA tO L so nx k h1 (by omega)]
  unfold bopS
  cases e1 : s1 L with
  | none => rfl
  | some x =>
    show rn C tA tO L (c + 1 - b) b (so, nx, x :: k) = _
    rw [rn_app (b := c) hbc (by omega), g2 tA tO L so nx (x :: k) (by omega) (by rw [List.length_cons]; omega)]
    show _ = Option.map _ ((s2 L).bind fun y => if y = 0 ∧ (op = 47 ∨ op = 37) then none else some (reck op x y))
    cases e2 : s2 L with
    | none => rfl
    | some y =>
      show rn C tA tO L (c + 1 - c) c (so, nx, y :: x :: k) = Option.map _ (if y = 0 ∧ (op = 47 ∨ op = 37) then none else some (reck op x y))
      rw [rn_one]
      refine st1_no (by omega) ?_
      rw [h]
      dsimp only
      rw [if_neg (by omega), if_neg (by omega), if_neg (by omega), if_neg (by omega), if_neg (by omega), bn2_c]
      have hnc : ¬ cps op = true := by
        rcases ho with rfl | rfl | rfl | rfl | rfl <;> decide
      by_cases q : y = 0 ∧ (op = 47 ∨ op = 37)
      · rw [if_pos q, if_pos q]
        rfl
      · rw [if_neg q, if_neg q, if_neg hnc]
        rfl
theorem c_cmp {op w : Int} {n1 n2 : Nat} (g1 : vG C a b s1 n1) (g2 : vG C b c s2 n2) (hab : a ≤ b) (hbc : b ≤ c) (h : C c = (op, w)) (ho : cps op = true) (hn1 : n1 ≤ 32) (hn2 : n2 + 1 ≤ 32) : cG C a (c + 1) (cmpS op s1 s2) := fun tA tO L so nx h1 => by
  refine ⟨nx, by omega, ?_⟩
  rw [rn_app (b := b) hab (by omega), g1 tA tO L so nx [] h1 (by rw [List.length_nil]; omega)]
  unfold cmpS
  cases e1 : s1 L with
  | none => rfl
  | some x =>
    show rn C tA tO L (c + 1 - b) b (so, nx, [x]) = _
    rw [rn_app (b := c) hbc (by omega), g2 tA tO L so nx [x] (by omega) (by rw [List.length_cons, List.length_nil]; omega)]
    show _ = Option.map _ ((s2 L).bind fun y => some (cmpV op x y))
    cases e2 : s2 L with
    | none => rfl
    | some y =>
      show rn C tA tO L (c + 1 - c) c (so, nx, [y, x]) = some (cmpV op x y, nx, [])
      rw [rn_one]
      refine st1_no (by omega) ?_
      rw [h]
      dsimp only
      have ho2 : op = 60 ∨ op = 62 ∨ op = 61 := by
        unfold cps at ho
        rw [Bool.or_eq_true, Bool.or_eq_true, beq_iff_eq, beq_iff_eq, beq_iff_eq] at ho
        omega
      rw [if_neg (by omega), if_neg (by omega), if_neg (by omega), if_neg (by omega), if_neg (by omega), bn2_c, if_neg (by omega), if_pos ho]
theorem c_not {w : Int} (g1 : cG C a b s) (hb : bitS s) (hab : a ≤ b) (h : C b = (33, w)) : cG C a (b + 1) (notS s) := fun tA tO L so nx h1 => by
  obtain ⟨nx2, g2, g3⟩ := g1 tA tO L so nx h1
  refine ⟨nx2, by omega, ?_⟩
  rw [rn_app (b := b) hab (by omega), g3]
  unfold notS
  cases e1 : s L with
  | none => rfl
  | some x =>
    show rn C tA tO L (b + 1 - b) b (x, nx2, []) = some (1 - x, nx2, [])
    rw [rn_one]
    refine st1_no g2 ?_
    rw [h]
    dsimp only
    rw [if_neg (by decide), if_neg (by decide), if_pos rfl]
    rcases hb L x e1 with rfl | rfl <;> rfl
/-- pieces with & between two that still jump nowhere: what fails goes to tA -/
def aG (C : Nat → Int × Int) (a b : Nat) (s : Sem) : Prop := ∀ (tA tO : Int) (L : Nat → Int) (so nx : Int), nx ≤ (a : Int) → (b : Int) ≤ tA → ∃ nx2 : Int, nx2 ≤ (b : Int) ∧ rn C tA tO L (b - a) a (so, nx, []) = (s L).map (fun v => (v, if v = 1 then nx2 else tA, []))
def oG (C : Nat → Int × Int) (a b : Nat) (s : Sem) : Prop := ∀ (tA tO : Int) (L : Nat → Int) (so nx : Int), nx ≤ (a : Int) → (b : Int) ≤ tO → ∃ nx2 : Int, nx2 ≤ (b : Int) ∧ rn C tA tO L (b - a) a (so, nx, []) = (s L).map (fun v => (v, if v = 1 then tO else nx2, []))
theorem aG.cg (h : aG C a b s) (hab : a ≤ b) (e : ∀ i, a ≤ i → i < b → C2 i = C i) : aG C2 a b s := fun tA tO L so nx h1 h2 => by
  rw [rn_cg _ _ _ (fun i q1 q2 => e i q1 (by omega))]
  exact h tA tO L so nx h1 h2
theorem oG.cg (h : oG C a b s) (hab : a ≤ b) (e : ∀ i, a ≤ i → i < b → C2 i = C i) : oG C2 a b s := fun tA tO L so nx h1 h2 => by
  rw [rn_cg _ _ _ (fun i q1 q2 => e i q1 (by omega))]
  exact h tA tO L so nx h1 h2
/-- where a chain of & goes on with a piece -/
theorem c_and (ha : Bool) (g1 : if ha then aG C a b s1 else a = b) (b1 : bitS s1) (g2 : cG C b c s2) (hab : a ≤ b) (hbc : b ≤ c) :
    ∀ (tA tO : Int) (L : Nat → Int) (so nx : Int), nx ≤ (a : Int) → (c : Int) ≤ tA → ∃ nx2 : Int, nx2 ≤ tA ∧ (∀ v, (if ha then andS s1 s2 else s2) L = some v → v = 1 → nx2 ≤ (c : Int)) ∧ (nx2 ≤ (c : Int) ∨ nx2 = tA) ∧ rn C tA tO L (c - a) a (so, nx, []) = ((if ha then andS s1 s2 else s2) L).map (fun v => (v, nx2, [])) := fun tA tO L so nx h1 h2 => by
  cases ha with
  | false =>
    have e : a = b := g1
    subst e
    obtain ⟨nx2, q1, q2⟩ := g2 tA tO L so nx h1
    exact ⟨nx2, by omega, fun _ _ _ => q1, Or.inl q1, q2⟩
  | true =>
    have g1' : aG C a b s1 := g1
    obtain ⟨nx1, q1, q2⟩ := g1' tA tO L so nx h1 (by omega)
    show ∃ nx2 : Int, nx2 ≤ tA ∧ (∀ v, andS s1 s2 L = some v → v = 1 → nx2 ≤ (c : Int)) ∧ (nx2 ≤ (c : Int) ∨ nx2 = tA) ∧ rn C tA tO L (c - a) a (so, nx, []) = (andS s1 s2 L).map (fun v => (v, nx2, []))
    rw [rn_app (b := b) hab hbc, q2]
    unfold andS
    cases e1 : s1 L with
    | none => exact ⟨tA, Int.le_refl _, (fun v hv => by cases hv), Or.inr rfl, rfl⟩
    | some x =>
      by_cases hx : x = 1
      · subst hx
        obtain ⟨nx2, q3, q4⟩ := g2 tA tO L 1 nx1 q1
        refine ⟨nx2, by omega, fun _ _ _ => q3, Or.inl q3, ?_⟩
        show rn C tA tO L (c - b) b (1, (if (1 : Int) = 1 then nx1 else tA), []) = Option.map _ (if (1 : Int) = 1 then s2 L else some 0)
        rw [if_pos rfl, if_pos rfl]
        exact q4
      · have hx0 : x = 0 := by
          have := b1 L x e1
          omega
        subst hx0
        refine ⟨tA, Int.le_refl _, fun v hv hv1 => ?_, Or.inr rfl, ?_⟩
        · have : (if (0 : Int) = 1 then s2 L else some 0) = some v := hv
          rw [if_neg (by decide)] at this
          injection this with this
          omega
        · show rn C tA tO L (c - b) b (0, (if (0 : Int) = 1 then nx1 else tA), []) = Option.map _ (if (0 : Int) = 1 then s2 L else some 0)
          rw [if_neg (by decide), if_neg (by decide)]
          exact rn_skip _ _ (by omega)
end SEG

section JMP
variable {C C2 : Nat → Int × Int} {a b c w : Nat} {s s1 s2 : Sem}
/-- jumps j that lead nowhere yet lead to l -/
def ptJ (C C2 : Nat → Int × Int) (a c : Nat) (j l : Int) : Prop := ∀ i, a ≤ i → i < c → C2 i = if (C i).1 = j ∧ (C i).2 = -1 then (j, l) else C i
theorem rn_ptA {l tA tO : Int} {L : Nat → Int} (h : ptJ C C2 a c 38 l) (hl : l ≠ -1) : ∀ (m p : Nat) (s : As), a ≤ p → p + m ≤ c → rn C2 tA tO L m p s = rn C l tO L m p s
  | 0, _, _, _, _ => rfl
  | m + 1, p, s, h1, h2 => by
    have e : st1 C2 tA tO L p s.1 s.2.1 s.2.2 = st1 C l tO L p s.1 s.2.1 s.2.2 := by
      unfold st1
      rw [h p h1 (by omega)]
      by_cases q : (C p).1 = 38 ∧ (C p).2 = -1
      · rw [if_pos q]
        dsimp only
        rw [q.1, q.2, if_neg (by decide : ¬ (38 : Int) = 48), if_neg (by decide : ¬ (38 : Int) = 97), if_neg (by decide : ¬ (38 : Int) = 33), if_pos (rfl : (38 : Int) = 38), if_neg hl, if_neg (by decide : ¬ (38 : Int) = 48), if_neg (by decide : ¬ (38 : Int) = 97), if_neg (by decide : ¬ (38 : Int) = 33), if_pos (rfl : (38 : Int) = 38), if_pos (rfl : (-1 : Int) = -1)]
      · rw [if_neg q]
        by_cases q2 : (C p).1 = 38
        · have q3 : ¬ (C p).2 = -1 := fun z => q ⟨q2, z⟩
          rw [if_neg q3, if_neg q3, if_neg q3]
        · rw [if_neg q2, if_neg q2]
    rw [rn, rn, e]
    congr 1
    funext s2
    exact rn_ptA h hl m (p + 1) s2 (by omega) (by omega)
theorem rn_ptO {l tA tO : Int} {L : Nat → Int} (h : ptJ C C2 a c 124 l) (hl : l ≠ -1) : ∀ (m p : Nat) (s : As), a ≤ p → p + m ≤ c → rn C2 tA tO L m p s = rn C tA l L m p s
  | 0, _, _, _, _ => rfl
  | m + 1, p, s, h1, h2 => by
    have e : st1 C2 tA tO L p s.1 s.2.1 s.2.2 = st1 C tA l L p s.1 s.2.1 s.2.2 := by
      unfold st1
      rw [h p h1 (by omega)]
      by_cases q : (C p).1 = 124 ∧ (C p).2 = -1
      · rw [if_pos q]
        dsimp only
        rw [q.1, q.2, if_neg (by decide : ¬ (124 : Int) = 48), if_neg (by decide : ¬ (124 : Int) = 97), if_neg (by decide : ¬ (124 : Int) = 33), if_neg (by decide : ¬ (124 : Int) = 38), if_pos (rfl : (124 : Int) = 124), if_neg hl, if_neg (by decide : ¬ (124 : Int) = 48), if_neg (by decide : ¬ (124 : Int) = 97), if_neg (by decide : ¬ (124 : Int) = 33), if_neg (by decide : ¬ (124 : Int) = 38), if_pos (rfl : (124 : Int) = 124), if_pos (rfl : (-1 : Int) = -1)]
      · rw [if_neg q]
        by_cases q2 : (C p).1 = 124
        · have q3 : ¬ (C p).2 = -1 := fun z => q ⟨q2, z⟩
          rw [if_neg q3, if_neg q3, if_neg q3]
        · rw [if_neg q2, if_neg q2]
    rw [rn, rn, e]
    congr 1
    funext s2
    exact rn_ptO h hl m (p + 1) s2 (by omega) (by omega)
theorem ok_pt {j l : Int} (h : okC C a c) (hp : ∀ i, a ≤ i → i < c → C2 i = if (C i).1 = j ∧ (C i).2 = -1 then (j, l) else C i) (hj : okS j) (hj2 : j ≠ 97) : okC C2 a c := fun i h1 h2 => by
  rw [hp i h1 h2]
  by_cases q : (C i).1 = j ∧ (C i).2 = -1
  · rw [if_pos q]
    exact ⟨hj, fun z => (hj2 z).elim⟩
  · rw [if_neg q]
    exact h i h1 h2
theorem ok_cg (h : okC C a c) (e : ∀ i, a ≤ i → i < c → C2 i = C i) : okC C2 a c := fun i h1 h2 => by
  rw [e i h1 h2]
  exact h i h1 h2
theorem ok_app (h1 : okC C a b) (h2 : okC C b c) : okC C a c := fun i q1 q2 => by
  by_cases e : i < b
  · exact h1 i q1 e
  · exact h2 i (by omega) q2
theorem ok_one {x y : Int} (h : C a = (x, y)) (hx : okS x) (h97 : x = 97 → 0 ≤ y ∧ y < 11) : okC C a (a + 1) := fun i q1 q2 => by
  have e : i = a := by omega
  rw [e, h]
  exact ⟨hx, h97⟩
theorem ok_nil : okC C a a := fun i q1 q2 => by omega
theorem c_andJ (ha : Bool) (g1 : if ha then aG C a b s1 else a = b) (b1 : bitS s1) (b2 : bitS s2) (g2 : cG C b c s2) (hab : a ≤ b) (hbc : b ≤ c) (h : C c = (38, -1)) : aG C a (c + 1) (if ha then andS s1 s2 else s2) := fun tA tO L so nx h1 h2 => by
  obtain ⟨nx2, q1, q2, q3, q4⟩ := c_and ha g1 b1 g2 hab hbc tA tO L so nx h1 (by omega)
  have hb : bitS (if ha then andS s1 s2 else s2) := bit_if (bit_and b2) b2
  generalize (if ha then andS s1 s2 else s2) = s at *
  refine ⟨if nx2 ≤ (c : Int) then nx2 else a, by split <;> omega, ?_⟩
  rw [rn_app (b := c) (by omega) (by omega), q4]
  cases e1 : s L with
  | none => rfl
  | some v =>
    show rn C tA tO L (c + 1 - c) c (v, nx2, []) = some (v, if v = 1 then (if nx2 ≤ (c : Int) then nx2 else a) else tA, [])
    rw [rn_one]
    show st1 C tA tO L c v nx2 [] = _
    rcases hb L v e1 with rfl | rfl
    · rw [if_neg (by decide : ¬ (0 : Int) = 1)]
      rcases q3 with q3 | q3
      · refine st1_no q3 ?_
        rw [h]
        dsimp only
        rw [if_neg (by decide), if_neg (by decide), if_neg (by decide), if_pos rfl, if_pos rfl, if_pos rfl]
      · rw [q3]
        exact if_pos (by omega)
    · have q5 := q2 1 e1 rfl
      rw [if_pos rfl, if_pos q5]
      refine st1_no q5 ?_
      rw [h]
      dsimp only
      rw [if_neg (by decide), if_neg (by decide), if_neg (by decide), if_pos rfl, if_neg (by decide)]
theorem c_andE (ha : Bool) (g1 : if ha then aG C a b s1 else a = b) (b1 : bitS s1) (g2 : cG C b c s2) (hab : a ≤ b) (hbc : b ≤ c) (hp : ptJ C C2 a c 38 c) : cG C2 a c (if ha then andS s1 s2 else s2) := fun tA tO L so nx h1 => by
  obtain ⟨nx2, q1, q2, q3, q4⟩ := c_and ha g1 b1 g2 hab hbc c tO L so nx h1 (Int.le_refl _)
  exact ⟨nx2, q1, by rw [rn_ptA hp (by omega) _ _ _ (Nat.le_refl _) (by omega)]; exact q4⟩
/-- and a chain of | -/
theorem c_or (ho : Bool) (g1 : if ho then oG C w a s1 else w = a) (b1 : bitS s1) (g2 : cG C a c s2) (hwa : w ≤ a) (hac : a ≤ c) :
    ∀ (tA tO : Int) (L : Nat → Int) (so nx : Int), nx ≤ (w : Int) → (c : Int) ≤ tO → ∃ nx2 : Int, nx2 ≤ tO ∧ (∀ v, (if ho then orS s1 s2 else s2) L = some v → v = 0 → nx2 ≤ (c : Int)) ∧ (nx2 ≤ (c : Int) ∨ nx2 = tO) ∧ rn C tA tO L (c - w) w (so, nx, []) = ((if ho then orS s1 s2 else s2) L).map (fun v => (v, nx2, [])) := fun tA tO L so nx h1 h2 => by
  cases ho with
  | false =>
    have e : w = a := g1
    subst e
    obtain ⟨nx2, q1, q2⟩ := g2 tA tO L so nx h1
    exact ⟨nx2, by omega, fun _ _ _ => q1, Or.inl q1, q2⟩
  | true =>
    have g1' : oG C w a s1 := g1
    obtain ⟨nx1, q1, q2⟩ := g1' tA tO L so nx h1 (by omega)
    show ∃ nx2 : Int, nx2 ≤ tO ∧ (∀ v, orS s1 s2 L = some v → v = 0 → nx2 ≤ (c : Int)) ∧ (nx2 ≤ (c : Int) ∨ nx2 = tO) ∧ rn C tA tO L (c - w) w (so, nx, []) = (orS s1 s2 L).map (fun v => (v, nx2, []))
    rw [rn_app (b := a) hwa hac, q2]
    unfold orS
    cases e1 : s1 L with
    | none => exact ⟨tO, Int.le_refl _, (fun v hv => by cases hv), Or.inr rfl, rfl⟩
    | some x =>
      by_cases hx : x = 1
      · subst hx
        refine ⟨tO, Int.le_refl _, fun v hv hv1 => ?_, Or.inr rfl, ?_⟩
        · have : (if (1 : Int) = 1 then some 1 else s2 L) = some v := hv
          rw [if_pos rfl] at this
          injection this with this
          omega
        · show rn C tA tO L (c - a) a (1, (if (1 : Int) = 1 then tO else nx1), []) = Option.map _ (if (1 : Int) = 1 then some 1 else s2 L)
          rw [if_pos rfl, if_pos rfl]
          exact rn_skip _ _ (by omega)
      · have hx0 : x = 0 := by
          have := b1 L x e1
          omega
        subst hx0
        obtain ⟨nx2, q3, q4⟩ := g2 tA tO L 0 nx1 q1
        refine ⟨nx2, by omega, fun _ _ _ => q3, Or.inl q3, ?_⟩
        show rn C tA tO L (c - a) a (0, (if (0 : Int) = 1 then tO else nx1), []) = Option.map _ (if (0 : Int) = 1 then some 1 else s2 L)
        rw [if_neg (by decide), if_neg (by decide)]
        exact q4
theorem c_orJ (ho : Bool) (g1 : if ho then oG C w a s1 else w = a) (b1 : bitS s1) (b2 : bitS s2) (g2 : cG C a c s2) (hwa : w ≤ a) (hac : a ≤ c) (h : C c = (124, -1)) : oG C w (c + 1) (if ho then orS s1 s2 else s2) := fun tA tO L so nx h1 h2 => by
  obtain ⟨nx2, q1, q2, q3, q4⟩ := c_or ho g1 b1 g2 hwa hac tA tO L so nx h1 (by omega)
  have hb : bitS (if ho then orS s1 s2 else s2) := bit_if (bit_or b2) b2
  generalize (if ho then orS s1 s2 else s2) = s at *
  refine ⟨if nx2 ≤ (c : Int) then nx2 else w, by split <;> omega, ?_⟩
  rw [rn_app (b := c) (by omega) (by omega), q4]
  cases e1 : s L with
  | none => rfl
  | some v =>
    show rn C tA tO L (c + 1 - c) c (v, nx2, []) = some (v, if v = 1 then tO else (if nx2 ≤ (c : Int) then nx2 else w), [])
    rw [rn_one]
    show st1 C tA tO L c v nx2 [] = _
    rcases hb L v e1 with rfl | rfl
    · have q5 := q2 0 e1 rfl
      rw [if_neg (by decide : ¬ (0 : Int) = 1), if_pos q5]
      refine st1_no q5 ?_
      rw [h]
      dsimp only
      rw [if_neg (by decide), if_neg (by decide), if_neg (by decide), if_neg (by decide), if_pos rfl, if_pos rfl]
    · rw [if_pos rfl]
      rcases q3 with q3 | q3
      · refine st1_no q3 ?_
        rw [h]
        dsimp only
        rw [if_neg (by decide), if_neg (by decide), if_neg (by decide), if_neg (by decide), if_pos rfl, if_neg (by decide), if_pos rfl]
      · rw [q3]
        exact if_pos (by omega)
theorem c_orE (ho : Bool) (g1 : if ho then oG C w a s1 else w = a) (b1 : bitS s1) (g2 : cG C a c s2) (hwa : w ≤ a) (hac : a ≤ c) (hp : ptJ C C2 w c 124 c) : cG C2 w c (if ho then orS s1 s2 else s2) := fun tA tO L so nx h1 => by
  obtain ⟨nx2, q1, q2, q3, q4⟩ := c_or ho g1 b1 g2 hwa hac tA c L so nx h1 (Int.le_refl _)
  exact ⟨nx2, q1, by rw [rn_ptO hp (by omega) _ _ _ (Nat.le_refl _) (by omega)]; exact q4⟩
/-- landing the & leaves what waits for its | -/
theorem aG_ptO {l : Int} (h : oG C w a s) (hwa : w ≤ a) (e : ∀ i, w ≤ i → i < a → C2 i = C i) : oG C2 w a s := h.cg hwa e
end JMP
/-- the clauses l stand in the steps of the text at r of memory T -/
def txV (l : List (Bool × Sem)) (T : Mm) (r : Nat) : Prop := T r 0 = l.length ∧ l.length ≤ 12 ∧ ∃ e : Nat → Nat, e 0 = 0 ∧ ∀ (j : Nat) (x : Bool × Sem), l[j]? = some x → e j ≤ e (j + 1) ∧ e (j + 1) ≤ 320 ∧ T (r + 4) j = e (j + 1) ∧ T (r + 5) j = (if x.1 then 1 else 0) ∧ okC (cd r T) (e j) (e (j + 1)) ∧ cG (cd r T) (e j) (e (j + 1)) x.2 ∧ bitS x.2 ∧ extS x.1 x.2
theorem w16 {r : Nat} {l : List (Bool × Sem)} {T M : Mm} {b : Bool} {P : Int × Mm → Prop} (hr : isTx r) (hV : txV l T r) (hM : ∀ c, r ≤ c → c ≤ r + 5 → M c = T c) (k : ∀ M2 : Mm, (∀ c, c ≠ r + 6 → M2 c = M c) → P (if kOf l b (M 97) then 1 else 0, M2)) : Wp (f16 r (if b then 1 else 0) M) P := by
  obtain ⟨v0, v1, e, v2, v3⟩ := hV
  unfold f16 f16_5
  let I : Nat → Int → Int → Mm → Prop := fun m x y M2 => ∃ j : Nat, y = j ∧ j ≤ l.length ∧ m = l.length - j ∧ x = e j ∧ (∀ c, c ≠ r + 6 → M2 c = M c) ∧ kOf (l.take j) b (M 97) = false
  refine wp_lp3 I l.length (by omega) ⟨0, rfl, Nat.zero_le _, rfl, by rw [v2]; rfl, fun _ _ => rfl, rfl⟩ ?_
  rintro m x y M2 ⟨j, rfl, h1, h2, rfl, h3, h4⟩
  dsimp only
  unfold lb16_5
  have e0 : M2 r = T r := (h3 r (by omega)).trans (hM r (by omega) (by omega))
  have e4 : M2 (r + 4) = T (r + 4) := (h3 _ (by omega)).trans (hM _ (by omega) (by omega))
  have e5 : M2 (r + 5) = T (r + 5) := (h3 _ (by omega)).trans (hM _ (by omega) (by omega))
  have hcd : cd r M2 = cd r T := by
    funext i
    unfold cd
    rw [h3 (r + 2) (by omega), hM (r + 2) (by omega) (by omega), h3 (r + 3) (by omega), hM (r + 3) (by omega) (by omega)]
  have e97 : M2 97 = M 97 := h3 97 (by rcases hr with rfl | rfl <;> decide)
  rw [e0, v0]
  refine wp_ite (fun d => ?_) (fun d => wp_o (wp_some ?_))
  · have hj : j < l.length := by omega
    obtain ⟨x, hx⟩ : ∃ x, l[j]? = some x := ⟨l[j], List.getElem?_eq_getElem hj⟩
    obtain ⟨a1, a2, a3, a4, a5, a6, a7, a8⟩ := v3 j x hx
    have htk : l.take (j + 1) = l.take j ++ [x] := by rw [List.take_add_one, hx]; rfl
    have hk1 : kOf (l.take (j + 1)) b (M 97) = (x.1 == b && x.2 (M 97) == some 1) := by
      unfold kOf at h4 ⊢
      rw [htk, List.any_append, h4, List.any_cons, List.any_nil, Bool.or_false, Bool.false_or]
    have next : ∀ M3 : Mm, (∀ c, c ≠ r + 6 → M3 c = M c) → (x.1 == b && x.2 (M 97) == some 1) = false → Wp (f16_43 r (if b then 1 else 0) (j : Int) M3) (Sum.elim (up3 I m) P) := fun M3 q1 q2 => by
      unfold f16_43
      have e4' : M3 (r + 4) = T (r + 4) := (q1 _ (by omega)).trans (hM _ (by omega) (by omega))
      refine wp_gd (by omega) (wp_gd (by omega) (wp_i3 (m - 1) (by omega) ⟨j + 1, by omega, by omega, by omega, ?_, q1, hk1.trans q2⟩))
      rw [Int.toNat_natCast, e4', a3]
    refine wp_gd (by omega) ?_
    rw [Int.toNat_natCast, e5, a4, e4, a3]
    by_cases hxb : x.1 = b
    · have hc : (if x.1 = true then (1 : Int) else 0) = (if b = true then 1 else 0) := by rw [hxb]
      refine wp_pos hc (wp_obnd (w17 hr a1 a2 (by rw [hcd]; exact a5) (fun M3 q1 => ?_)))
      rw [hcd, e97]
      obtain ⟨nx2, g1, g2⟩ := a6 (-1) (-1) (M 97) 0 (e j) (Int.le_refl _)
      have f3 : ∀ c, c ≠ r + 6 → M3 c = M c := fun c hc => (q1 c hc).trans (h3 c hc)
      rw [g2]
      have hbe : (x.1 == b) = true := by rw [beq_iff_eq]; exact hxb
      cases hs : x.2 (M 97) with
      | none => exact wp_pos rfl (next M3 f3 (by rw [hs]; exact Bool.and_false _))
      | some v =>
        rcases a7 _ v hs with rfl | rfl
        · exact wp_pos rfl (next M3 f3 (by rw [hs]; exact Bool.and_false _))
        · refine wp_neg (show ¬ (1 : Int) = 0 by decide) (wp_o (wp_some ?_))
          have hk : kOf l b (M 97) = true := by
            unfold kOf
            rw [List.any_eq_true]
            refine ⟨x, List.mem_of_getElem? hx, ?_⟩
            rw [hbe, hs]
            rfl
          have := k M3 f3
          rw [hk] at this
          exact this
    · have hc : ¬ (if x.1 = true then (1 : Int) else 0) = (if b = true then 1 else 0) := fun q => hxb (by
        cases h1 : x.1 <;> cases h2 : b
        · rfl
        · rw [h1, h2] at q; exact absurd q (by decide)
        · rw [h1, h2] at q; exact absurd q (by decide)
        · rfl)
      refine wp_neg hc (next M2 h3 ?_)
      rw [show (x.1 == b) = false by rw [beq_eq_false_iff_ne]; exact hxb]
      rfl
  · have e : j = l.length := by omega
    rw [e, List.take_length] at h4
    have := k M2 h3
    rw [h4] at this
    exact this
theorem txV_C {r : Nat} {l : List (Bool × Sem)} {T : Mm} (hr : isTx r) (hV : txV l T r) : txC (kOf l) T r := fun M hM b P k => w16 hr hV hM k
theorem txV_g {r : Nat} {l : List (Bool × Sem)} {T : Mm} (hV : txV l T r) : kCg (kOf l) := kOf_g (fun x hx => by
  obtain ⟨v0, v1, e, v2, v3⟩ := hV
  obtain ⟨j, hj⟩ := List.getElem?_of_mem hx
  exact (v3 j x hj).2.2.2.2.2.2.2)
