theorem wpW {α : Type} {o : Option α} {P P2 : α → Prop} (h : Wp o P) (k : ∀ r, P r → P2 r) : Wp o P2 := by
  obtain ⟨r, e, hr⟩ := h
  exact ⟨r, e, k r hr⟩
section HOLD2
variable {N S S1 M M0 M2 : Mm} {Ps : Nat → Mm} {l : List (Bool × Sem)} {t d m : Nat} {x c : Int}
theorem hld01 {S : Mm} {K : Bool → (Nat → Int) → Bool} {k : Int} : hldN N S K c x k = 0 ∨ hldN N S K c x k = 1 := by
  unfold hldN
  by_cases e : ∀ j : Nat, (j : Int) < k → cm N (plN N (orN S x) K c j) K c = 0
  · rw [if_pos e]; exact Or.inr rfl
  · rw [if_neg e]; exact Or.inl rfl
theorem w57 {P : Int → Prop} (h : IV N S Ps l M) (hx : R4 x) (k : P (if 0 ≤ x ∧ x < (2 ^ nN N : Nat) then 1 else 0)) : Wp (f57 x M) P := by
  have hn8 := h.1.1.n8
  have hp := Nat.two_pow_pos (nN N)
  unfold f57
  rw [h.e30]
  refine wp_ite (fun e => wp_some ?_) (fun e => ?_)
  · rw [if_neg (by omega)] at k
    exact k
  · rw [bR hx (by omega) (by omega), Int.toNat_natCast]
    obtain ⟨n, rfl⟩ := Int.eq_ofNat_of_zero_le (show 0 ≤ x by omega)
    have e1 : (n : Int) / (2 ^ nN N : Nat) = ((n / 2 ^ nN N : Nat) : Int) := rfl
    rw [e1]
    by_cases e2 : n < 2 ^ nN N
    · rw [if_pos (by omega)] at k
      rw [Nat.div_eq_of_lt e2]
      exact wp_pos rfl (wp_some k)
    · rw [if_neg (by omega)] at k
      have : 0 < n / 2 ^ nN N := Nat.div_pos (by omega) hp
      exact wp_neg (by omega) (wp_some k)
theorem w130 {P : Int → Prop} (h : IV N S Ps l M) (k : P (if 0 ≤ x ∧ x < (2 ^ nN N : Nat) then 1 else 0)) : Wp (f130 x M) P := by
  have hn8 := h.1.1.n8
  have hp := pw2_n h.1.1
  have hp2 := Nat.two_pow_pos (nN N)
  unfold f130
  rw [h.m3, bL (by omega) (by omega), Int.toNat_natCast]
  refine wp_gd (by omega) (wp_bind (w143 ?_))
  by_cases e : 0 ≤ x ∧ x < (2 ^ nN N : Nat)
  · rw [if_pos (by omega)]
    rw [if_pos e] at k
    exact wp_gd (Or.inr rfl) (wp_some k)
  · rw [if_neg (by omega)]
    rw [if_neg e] at k
    exact wp_gd (Or.inl rfl) (wp_some k)
theorem w127 {P : Int → Prop} (k : P (if 1 ≤ x ∧ x ≤ 30 then 1 else 0)) : Wp (f127 x M) P := by
  unfold f127
  refine wp_bind (w143 ?_)
  by_cases e : 1 ≤ x ∧ x ≤ 30
  · rw [if_pos e]
    rw [if_pos e] at k
    exact wp_gd (Or.inr rfl) (wp_some k)
  · rw [if_neg e]
    rw [if_neg e] at k
    exact wp_gd (Or.inl rfl) (wp_some k)
theorem c53 {x1 x2 x3 : Int} (h : IV N S Ps l M) (hx : R4 x2) : Wp (f53 x1 x2 x3 M) (fun r => JJ r.1 (f119 x1 x2 x3 r.2)) := by
  have hnw := h.nw
  have m2 : M 142 2 = nwS S := h.now.2.1
  unfold f53
  refine wp_bind (w57 h hx ?_)
  by_cases h2 : 0 ≤ x2 ∧ x2 < (2 ^ nN N : Nat)
  · rw [if_pos h2]
    refine wp_neg (by decide) (wp_bind (w80 ?_))
    by_cases h3 : 1 ≤ x3 ∧ x3 ≤ 30
    · rw [if_pos h3]
      refine wp_neg (by decide) (wp_bind (w73 h (fun c => wp_pos rfl (wp_some ?_)) (fun m hm1 hm => ?_)))
      · show JJ (-1) (f119 x1 x2 x3 M)
        unfold f119
        refine wp_bind (w143 ?_)
        rw [m2, if_neg c]
        exact wp_pos rfl (wp_some ⟨rfl, h.G⟩)
      · obtain ⟨r1, r2, r3, r4⟩ := stR_ok h hm
        refine wp_neg (by omega) ?_
        rw [Int.toNat_natCast]
        refine wp_gd r1 (wp_obnd (wpW (w54 h hm h2.1 h2.2 h3) (fun r hr => ?_)))
        obtain ⟨v, M1⟩ := r
        obtain ⟨g1, g2, g3⟩ := hr
        dsimp only at g1 g2 g3 ⊢
        have key : JJ v (f119 x1 x2 x3 M1) := by
          unfold f119
          refine wp_bind (w143 ?_)
          rw [g2.now.2.1, if_pos (show 0 ≤ x1 ∧ x1 ≤ (nwS S : Int) by omega)]
          refine wp_neg (by decide) (wp_bind (w130 g2 ?_))
          rw [if_pos h2]
          refine wp_neg (by decide) (wp_bind (w127 ?_))
          rw [if_pos h3, hm1]
          refine wp_neg (by decide) (wp_obnd (wpW (w125 g2 hm h2.1 h2.2 h3) (fun r2 hr2 => ?_)))
          obtain ⟨v2, M3⟩ := r2
          obtain ⟨k1, k2, k3⟩ := hr2
          dsimp only at k1 k2 k3 ⊢
          rw [g3, ← g1] at k1
          rcases hld01 (N := N) (S := stAt S Ps m) (K := kOf l) (c := M 3 3) (x := x2) (k := x3) with e | e
          · exact wp_pos (by omega) (wp_some ⟨by rw [g1, e], k2.G⟩)
          · exact wp_neg (by omega) (wp_some ⟨by rw [g1, e], k2.G⟩)
        rcases hld01 (N := N) (S := stAt S Ps m) (K := kOf l) (c := M 3 3) (x := x2) (k := x3) with e | e
        · refine wp_pos (by omega) (wp_some ?_)
          rw [g1, e] at key
          exact key
        · refine wp_neg (by omega) (wp_some ?_)
          rw [g1, e] at key
          exact key
    · rw [if_neg h3]
      refine wp_pos rfl (wp_some ?_)
      show JJ (-1) (f119 x1 x2 x3 M)
      unfold f119
      refine wp_bind (w143 ?_)
      by_cases h1 : 0 ≤ x1 ∧ x1 ≤ M 142 2
      · rw [if_pos h1]
        refine wp_neg (by decide) (wp_bind (w130 h ?_))
        rw [if_pos h2]
        refine wp_neg (by decide) (wp_bind (w127 ?_))
        rw [if_neg h3]
        exact wp_pos rfl (wp_some ⟨rfl, h.G⟩)
      · rw [if_neg h1]
        exact wp_pos rfl (wp_some ⟨rfl, h.G⟩)
  · rw [if_neg h2]
    refine wp_pos rfl (wp_some ?_)
    show JJ (-1) (f119 x1 x2 x3 M)
    unfold f119
    refine wp_bind (w143 ?_)
    by_cases h1 : 0 ≤ x1 ∧ x1 ≤ M 142 2
    · rw [if_pos h1]
      refine wp_neg (by decide) (wp_bind (w130 h ?_))
      rw [if_neg h2]
      exact wp_pos rfl (wp_some ⟨rfl, h.G⟩)
    · rw [if_neg h1]
      exact wp_pos rfl (wp_some ⟨rfl, h.G⟩)
/-- the last minute at which it holds, from y down -/
def lstN (f : Nat → Int) (y v : Int) : Prop := (v = -1 ∧ ∀ m : Nat, (m : Int) ≤ y → f m = 0) ∨ ∃ m : Nat, v = m ∧ (m : Int) ≤ y ∧ f m ≠ 0 ∧ ∀ j : Nat, m < j → (j : Int) ≤ y → f j = 0
theorem lstN_u {f : Nat → Int} {y v v2 : Int} (h : lstN f y v) (g : lstN f y v2) : v = v2 := by
  rcases h with ⟨h1, h2⟩ | ⟨m, h1, h2, h3, h4⟩
  · rcases g with ⟨g1, g2⟩ | ⟨m2, g1, g2, g3, g4⟩
    · omega
    · exact absurd (h2 m2 g2) g3
  · rcases g with ⟨g1, g2⟩ | ⟨m2, g1, g2, g3, g4⟩
    · exact absurd (g2 m h2) h3
    · rcases Nat.lt_trichotomy m m2 with c | c | c
      · exact absurd (h4 m2 c g2) g3
      · omega
      · exact absurd (g4 m c h2) h3
theorem lstN_up {f : Nat → Int} {u : Nat} {y v : Int} (h : lstN f ((u : Int) + (-1)) v) (hf : f u = 0) (hy : y = u) : lstN f y v := by
  rcases h with ⟨h1, h2⟩ | ⟨m, h1, h2, h3, h4⟩
  · refine Or.inl ⟨h1, fun m hm => ?_⟩
    by_cases e : m = u
    · rw [e]; exact hf
    · exact h2 m (by omega)
  · refine Or.inr ⟨m, h1, by omega, h3, fun j q1 q2 => ?_⟩
    by_cases e : j = u
    · rw [e]; exact hf
    · exact h4 j q1 (by omega)
theorem c59 {x1 x2 : Int} (h : IV N S Ps l M) (hx : R4 x1) : Wp (f59 x1 x2 M) (fun r => JJ r.1 (f139 x1 x2 r.2)) := by
  have hnw := h.nw
  unfold f59
  refine wp_bind (w57 h hx ?_)
  by_cases h2 : 0 ≤ x1 ∧ x1 < (2 ^ nN N : Nat)
  · rw [if_pos h2]
    refine wp_neg (by decide) (wp_bind (w80 ?_))
    by_cases h3 : 1 ≤ x2 ∧ x2 ≤ 30
    · rw [if_pos h3]
      refine wp_neg (by decide) ?_
      let f : Nat → Int := fun m => hldN N (stAt S Ps m) (kOf l) (M 3 3) x1 x2
      have model : ∀ (v : Int) (M1 : Mm), IV N S Ps l M1 → M1 3 = M 3 → lstN f (nwS S) v → JJ v (f139 x1 x2 M1) := fun v M1 g1 g2 g3 => by
        unfold f139
        refine wp_bind (w130 g1 ?_)
        rw [if_pos h2]
        refine wp_neg (by decide) (wp_bind (w127 ?_))
        rw [if_pos h3]
        refine wp_neg (by decide) ?_
        unfold f139_22
        rw [g1.now.2.1]
        refine wp_lp2 (fun n y M2 => -1 ≤ y ∧ y ≤ nwS S ∧ (n : Int) = y + 1 ∧ IV N S Ps l M2 ∧ M2 3 = M 3 ∧ ∀ j : Nat, y < j → (j : Int) ≤ nwS S → f j = 0) (nwS S + 1) (by omega) ⟨by omega, by omega, by omega, g1, g2, fun j q1 q2 => by omega⟩ ?_
        rintro n y M2 ⟨c1, c2, c3, c4, c5, c6⟩
        dsimp only
        unfold lb139_22
        refine wp_ite (fun e => wp_o (wp_some ⟨?_, c4.G⟩)) (fun e => ?_)
        · exact (lstN_u g3 (Or.inl ⟨rfl, fun m hm => c6 m (by omega) hm⟩)).symm
        obtain ⟨u, rfl⟩ := Int.eq_ofNat_of_zero_le (show 0 ≤ y by omega)
        refine wp_obnd (wpW (w125 (m := u) c4 (by omega) h2.1 h2.2 h3) (fun r2 hr2 => ?_))
        obtain ⟨v2, M3⟩ := r2
        obtain ⟨k1, k2, k3⟩ := hr2
        dsimp only at k1 k2 k3 ⊢
        rw [c5] at k1
        refine wp_ite (fun e2 => wp_gd (by omega) (wp_i2 (n - 1) (by omega) ⟨by omega, by omega, by omega, k2, k3.trans c5, fun j q1 q2 => ?_⟩)) (fun e2 => wp_o (wp_some ⟨?_, k2.G⟩))
        · by_cases e4 : j = u
          · rw [e4]
            exact k1.symm.trans e2
          · exact c6 j (by omega) q2
        · refine (lstN_u g3 (Or.inr ⟨u, rfl, by omega, ?_, fun j q1 q2 => c6 j (by omega) q2⟩)).symm
          show hldN N (stAt S Ps u) (kOf l) (M 3 3) x1 x2 ≠ 0
          rw [← k1]
          exact e2
      unfold f59_28
      rw [h.now.1]
      refine wp_lp2 (fun n y M2 => -1 ≤ y ∧ y ≤ nwS S ∧ (n : Int) = y + 1 ∧ IV N S Ps l M2 ∧ M2 3 = M 3 ∧ ∀ j : Nat, y < j → (j : Int) ≤ nwS S → f j = 0) (nwS S + 1) (by omega) ⟨by omega, by omega, by omega, h, rfl, fun j q1 q2 => by omega⟩ ?_
      rintro n y M2 ⟨c1, c2, c3, c4, c5, c6⟩
      dsimp only
      unfold lb59_28
      refine wp_ite (fun e => wp_o (wp_some ?_)) (fun e => ?_)
      · exact model (-1) M2 c4 c5 (Or.inl ⟨rfl, fun m hm => c6 m (by omega) hm⟩)
      obtain ⟨u, rfl⟩ := Int.eq_ofNat_of_zero_le (show 0 ≤ y by omega)
      refine wp_bind (w73 c4 (fun z => absurd (show 0 ≤ (u : Int) ∧ (u : Int) ≤ nwS S by omega) z) (fun m hm1 hm => ?_))
      have em : m = u := by omega
      subst em
      obtain ⟨r1, r2, r3, r4⟩ := stR_ok c4 hm
      refine wp_neg (by omega) ?_
      rw [Int.toNat_natCast]
      refine wp_gd r1 (wp_obnd (wpW (w54 c4 hm h2.1 h2.2 h3) (fun r2 hr2 => ?_)))
      obtain ⟨v2, M3⟩ := r2
      obtain ⟨k1, k2, k3⟩ := hr2
      dsimp only at k1 k2 k3 ⊢
      rw [c5] at k1
      unfold f59_57
      refine wp_ite (fun e2 => wp_gd (by omega) (wp_i2 (n - 1) (by omega) ⟨by omega, by omega, by omega, k2, k3.trans c5, fun j q1 q2 => ?_⟩)) (fun e2 => wp_o (wp_some (model m M3 k2 (k3.trans c5) (Or.inr ⟨m, rfl, by omega, ?_, fun j q1 q2 => c6 j (by omega) q2⟩))))
      · by_cases e4 : j = m
        · rw [e4]
          exact k1.symm.trans e2
        · exact c6 j (by omega) q2
      · show hldN N (stAt S Ps m) (kOf l) (M 3 3) x1 x2 ≠ 0
        rw [← k1]
        exact e2
    · rw [if_neg h3]
      refine wp_pos rfl (wp_some ?_)
      show JJ (-1) (f139 x1 x2 M)
      unfold f139
      refine wp_bind (w130 h ?_)
      rw [if_pos h2]
      refine wp_neg (by decide) (wp_bind (w127 ?_))
      rw [if_neg h3]
      exact wp_pos rfl (wp_some ⟨rfl, h.G⟩)
  · rw [if_neg h2]
    refine wp_pos rfl (wp_some ?_)
    show JJ (-1) (f139 x1 x2 M)
    unfold f139
    refine wp_bind (w130 h ?_)
    rw [if_neg h2]
    exact wp_pos rfl (wp_some ⟨rfl, h.G⟩)
end HOLD2
