/-! The least set that holds. -/
def kgOk : Nat → Bool
  | 0 => true
  | n + 1 => (n == 0 || (pcB (n &&& (n - 1)) 14 + 1 == pcB n 14 && (n &&& (n - 1)) < n)) && kgOk n
theorem kgOk_all : kgOk 512 = true := by decide +kernel
theorem kgOk_at : ∀ {m n : Nat}, kgOk m = true → n < m → 0 < n → pcB (n &&& (n - 1)) 14 + 1 = pcB n 14 ∧ (n &&& (n - 1)) < n
  | 0, n, _, h, _ => by omega
  | m + 1, n, h, hn, h0 => by
    rw [kgOk, Bool.and_eq_true] at h
    by_cases e : n = m
    · subst e
      have h1 := h.1
      rw [Bool.or_eq_true, Bool.and_eq_true] at h1
      rcases h1 with h1 | h1
      · have := eq_of_beq h1
        omega
      · exact ⟨eq_of_beq h1.1, of_decide_eq_true h1.2⟩
    · exact kgOk_at h.2 (by omega) h0
/-- counting by taking the lowest away -/
theorem w169 {x : Int} {M : Mm} {P : Int → Prop} (h0 : 0 ≤ x) (h1 : x < 512) (k : P (popc x 14)) : Wp (f169 x M) P := by
  unfold f169 f169_4
  refine wp_lp2 (fun m a y => 0 ≤ y ∧ y < 512 ∧ (m : Int) = y ∧ 0 ≤ a ∧ a + y ≤ 512 ∧ a + popc y 14 = popc x 14) x.toNat (by omega) ⟨h0, h1, by omega, by omega, by omega, Int.zero_add _⟩ ?_
  rintro m a y ⟨a1, a2, a3, a4, a5, a6⟩
  dsimp only
  unfold lb169_4
  refine wp_ite (fun e => wp_o (wp_some ?_)) (fun e => ?_)
  · subst e
    have : popc 0 14 = 0 := by decide
    rw [this, Int.add_zero] at a6
    rw [a6]
    exact k
  · obtain ⟨n, rfl⟩ := Int.eq_ofNat_of_zero_le a1
    obtain ⟨c1, c2⟩ := kgOk_at (n := n) kgOk_all (by omega) (by omega)
    have e1 : bAnd (n : Int) ((n : Int) - 1) = ((n &&& (n - 1) : Nat) : Int) := by
      rw [bA (by omega) (by omega) (by omega) (by omega), Int.toNat_natCast, show ((n : Int) - 1).toNat = n - 1 by omega]
    rw [e1]
    refine wp_gd (by omega) (wp_gd (by omega) (wp_i2 (n &&& (n - 1)) (by omega) ⟨by omega, by omega, rfl, by omega, by omega, ?_⟩))
    rw [pcB_pop] at a6 ⊢
    omega
/-- the load of a set, but for what is dark -/
def lqS (S : Mm) (x : Int) (n : Nat) : Int := sm (fun s => if tb x s then (if S 4 s = 1 then 0 else S 3 s) else 0) n
theorem lqS_b {N S : Mm} {x : Int} (hS : sV N S) : ∀ n, n ≤ 8 → 0 ≤ lqS S x n ∧ lqS S x n ≤ 2000 * n := fun n hn => by
  have q1 := sm_nn (a := fun s => if tb x s then (if S 4 s = 1 then 0 else S 3 s) else 0) (n := n) (fun s hs => by have := hS.2.1 s (by omega); (split <;> try split) <;> omega)
  have q2 := sm_const (f := fun s => if tb x s then (if S 4 s = 1 then 0 else S 3 s) else 0) (c := 2000) (n := n) (fun s hs => by have := hS.2.1 s (by omega); (split <;> try split) <;> omega)
  unfold lqS
  omega
def btr (S : Mm) (n : Nat) (u b : Int) : Prop := b = -2 ∨ lqS S u n < lqS S b n ∨ (lqS S u n = lqS S b n ∧ popc u 14 < popc b 14)
noncomputable def lstF (N S : Mm) (K : Bool → (Nat → Int) → Bool) (c k : Int) : Nat → Int
  | 0 => -2
  | u + 1 => @ite Int (hldN N S K c u k ≠ 0 ∧ btr S (nN N) u (lstF N S K c k u)) (Classical.propDecidable _) (u : Int) (lstF N S K c k u)
theorem lstF_b {N S : Mm} {K : Bool → (Nat → Int) → Bool} {c k : Int} : ∀ u : Nat, lstF N S K c k u = -2 ∨ (0 ≤ lstF N S K c k u ∧ lstF N S K c k u < u)
  | 0 => Or.inl rfl
  | u + 1 => by
    have ih := lstF_b (N := N) (S := S) (K := K) (c := c) (k := k) u
    rw [lstF]
    by_cases e : hldN N S K c u k ≠ 0 ∧ btr S (nN N) u (lstF N S K c k u)
    · rw [if_pos e]; omega
    · rw [if_neg e]; omega
section LEAST
variable {N S S1 M M0 M2 : Mm} {Ps : Nat → Mm} {l : List (Bool × Sem)} {t d m : Nat} {x c : Int}
theorem c60 {x1 x2 : Int} (h : IV N S Ps l M) : Wp (f60 x1 x2 M) (fun r => JJ r.1 (f141 x1 x2 r.2)) := by
  have hnw := h.nw
  have hn8 := h.1.1.n8
  have hpw := pw2_n h.1.1
  have hpp := Nat.two_pow_pos (nN N)
  unfold f60
  refine wp_bind (w73 h (fun z => wp_pos rfl (wp_some ?_)) (fun m hm1 hm => ?_))
  · show JJ (-1) (f141 x1 x2 M)
    unfold f141
    refine wp_bind (w143 ?_)
    rw [h.now.2.1, if_neg z]
    exact wp_pos rfl (wp_some ⟨rfl, h.G⟩)
  obtain ⟨r1, r2, r3, r4⟩ := stR_ok h hm
  refine wp_neg (by omega) ?_
  rw [Int.toNat_natCast]
  refine wp_gd r1 (wp_bind (w80 ?_))
  have hx1 : 0 ≤ x1 ∧ x1 ≤ (nwS S : Int) := by omega
  by_cases h3 : 1 ≤ x2 ∧ x2 ≤ 30
  · rw [if_pos h3]
    refine wp_neg (by decide) (wp_obnd ?_)
    generalize hF : lstF N (stAt S Ps m) (kOf l) (M 3 3) x2 = F
    have Fb : ∀ u, F u = -2 ∨ (0 ≤ F u ∧ F u < u) := fun u => by rw [← hF]; exact lstF_b u
    have Fs : ∀ u : Nat, (hldN N (stAt S Ps m) (kOf l) (M 3 3) u x2 ≠ 0 ∧ btr (stAt S Ps m) (nN N) u (F u) → F (u + 1) = u) ∧ (¬ (hldN N (stAt S Ps m) (kOf l) (M 3 3) u x2 ≠ 0 ∧ btr (stAt S Ps m) (nN N) u (F u)) → F (u + 1) = F u) := fun u => by
      rw [← hF]
      exact ⟨fun e => by rw [lstF, if_pos e], fun e => by rw [lstF, if_neg e]⟩
    have F0 : F 0 = -2 := by rw [← hF]; rfl
    clear hF
    obtain ⟨sV1, _, _, _⟩ := stat_V h hm
    -- the second object
    have model : ∀ M1 : Mm, IV N S Ps l M1 → M1 3 = M 3 → JJ (F (2 ^ nN N)) (f141 x1 x2 M1) := fun M1 g1 g2 => by
      unfold f141
      refine wp_bind (w143 ?_)
      rw [g1.now.2.1, if_pos hx1]
      refine wp_neg (by decide) (wp_bind (w127 ?_))
      rw [if_pos h3]
      refine wp_neg (by decide) ?_
      have go : Wp (f141_51 x1 x2 (stZ (nwS S) m : Nat) (-2) 0 0 M1) (fun r => r.1 = F (2 ^ nN N) ∧ GI r.2) := by
        unfold f141_51
        refine wp_lp4 (fun n b q u M2 => 0 ≤ u ∧ u ≤ (2 ^ nN N : Nat) ∧ (n : Int) = (2 ^ nN N : Nat) - u ∧ IV N S Ps l M2 ∧ M2 3 = M 3 ∧ b = F u.toNat ∧ (b ≠ -2 → q = lqS (stAt S Ps m) b (nN N))) (2 ^ nN N) (by omega) ⟨by omega, by omega, by omega, g1, g2, F0.symm, fun z => absurd rfl z⟩ ?_
        rintro n b q u0 M2 ⟨c1, c2, c3, c4, c5, c6, c7⟩
        dsimp only
        unfold lb141_51
        rw [c4.m3, bL (by omega) (by omega), Int.toNat_natCast]
        refine wp_ite (fun e => ?_) (fun e => wp_o (wp_some ⟨?_, c4.G⟩))
        · obtain ⟨u, rfl⟩ := Int.eq_ofNat_of_zero_le c1
          rw [Int.toNat_natCast] at c6
          obtain ⟨_, _, _, sm1⟩ := stat_V c4 hm
          have zb : stZ (nwS S) m ≤ 36000 := by unfold stZ; split <;> omega
          unfold f141_68
          refine wp_lp2 (fun n2 a y => 0 ≤ y ∧ y ≤ nN N ∧ (n2 : Int) = nN N - y ∧ a = lqS (stAt S Ps m) u y.toNat) (nN N) (by omega) ⟨by omega, by omega, by omega, rfl⟩ ?_
          rintro n2 a y ⟨d1, d2, d3, d4⟩
          dsimp only
          unfold lb141_68
          rw [c4.m3]
          refine wp_ite (fun e2 => ?_) (fun e2 => wp_o ?_)
          · obtain ⟨s, rfl⟩ := Int.eq_ofNat_of_zero_le d1
            rw [Int.toNat_natCast] at d4
            have b1 := lqS_b (x := u) sV1 s (by omega)
            have es : lqS (stAt S Ps m) u (s + 1) = lqS (stAt S Ps m) u s + (if tb (u : Int) s then (if (stAt S Ps m) 4 s = 1 then 0 else (stAt S Ps m) 3 s) else 0) := rfl
            refine wp_bind (w118 (by omega) (by omega) (by omega) (by omega) ?_)
            rw [Int.toNat_natCast]
            cases hq : tb (u : Int) s
            · refine wp_pos rfl (wp_gd (by omega) (wp_gd (by omega) (wp_i2 (n2 - 1) (by omega) ⟨by omega, by omega, by omega, ?_⟩)))
              rw [show ((s : Int) + 1).toNat = s + 1 by omega, es, hq, d4]
              rfl
            · refine wp_neg (show ¬ (1 : Int) = 0 by decide) (wp_bind ?_)
              rw [hq, if_pos rfl] at es
              unfold f145
              have t1 : ((stZ (nwS S) m : Nat) + 51 + (s : Int)).toNat = stZ (nwS S) m + 51 + s := by omega
              have t2 : ((stZ (nwS S) m : Nat) + 59 + (s : Int)).toNat = stZ (nwS S) m + 59 + s := by omega
              have i4 := (sm1.2.1 s (by omega)).2
              have i3 := (sm1.2.1 s (by omega)).1
              have v3 := sV1.2.1 s (by omega)
              rw [t1, t2, i4, i3]
              refine wp_gd (by omega) (wp_gd (by omega) (wp_gd (by omega) (wp_ite (fun z => wp_some ?_) (fun z => wp_gd (by omega) (wp_gd (by omega) (wp_gd (by omega) (wp_some ?_)))))))
              · rw [if_pos z] at es
                refine wp_gd (by omega) (wp_gd (by omega) (wp_i2 (n2 - 1) (by omega) ⟨by omega, by omega, by omega, ?_⟩))
                rw [show ((s : Int) + 1).toNat = s + 1 by omega, es, d4]
              · rw [if_neg z] at es
                refine wp_gd (by omega) (wp_gd (by omega) (wp_i2 (n2 - 1) (by omega) ⟨by omega, by omega, by omega, ?_⟩))
                rw [show ((s : Int) + 1).toNat = s + 1 by omega, es, d4]
          · rw [show y.toNat = nN N by omega] at d4
            have fu := Fb u
            -- not tried
            have skip : ¬ btr (stAt S Ps m) (nN N) u (F u) → Wp (f141_163 x1 x2 (stZ (nwS S) m : Nat) b q u M2) (Sum.elim (up4 (fun n b q u M2 => 0 ≤ u ∧ u ≤ (2 ^ nN N : Nat) ∧ (n : Int) = (2 ^ nN N : Nat) - u ∧ IV N S Ps l M2 ∧ M2 3 = M 3 ∧ b = F u.toNat ∧ (b ≠ -2 → q = lqS (stAt S Ps m) b (nN N))) n) (fun r => r.1 = F (2 ^ nN N) ∧ GI r.2)) := fun z => by
              unfold f141_163
              refine wp_gd (by omega) (wp_i4 (n - 1) (by omega) ⟨by omega, by omega, by omega, c4, c5, ?_, c7⟩)
              rw [show ((u : Int) + 1).toNat = u + 1 by omega, (Fs u).2 (fun zz => z zz.2)]
              exact c6
            have try1 : btr (stAt S Ps m) (nN N) u (F u) → Wp (f141_141 x1 x2 (stZ (nwS S) m : Nat) b q u a M2) (Sum.elim (up4 (fun n b q u M2 => 0 ≤ u ∧ u ≤ (2 ^ nN N : Nat) ∧ (n : Int) = (2 ^ nN N : Nat) - u ∧ IV N S Ps l M2 ∧ M2 3 = M 3 ∧ b = F u.toNat ∧ (b ≠ -2 → q = lqS (stAt S Ps m) b (nN N))) n) (fun r => r.1 = F (2 ^ nN N) ∧ GI r.2)) := fun z => by
              unfold f141_141
              rw [hm1]
              refine wp_obnd (wpW (w125 (x := u) c4 hm (by omega) e h3) (fun r2 hr2 => ?_))
              obtain ⟨v2, M3⟩ := r2
              obtain ⟨k1, k2, k3⟩ := hr2
              dsimp only at k1 k2 k3 ⊢
              rw [c5] at k1
              unfold f141_163
              refine wp_ite (fun e3 => wp_gd (by omega) (wp_i4 (n - 1) (by omega) ⟨by omega, by omega, by omega, k2, k3.trans c5, ?_, c7⟩)) (fun e3 => wp_gd (by omega) (wp_i4 (n - 1) (by omega) ⟨by omega, by omega, by omega, k2, k3.trans c5, ?_, fun _ => d4⟩))
              · rw [show ((u : Int) + 1).toNat = u + 1 by omega, (Fs u).2 (fun zz => zz.1 (k1.symm.trans e3))]
                exact c6
              · rw [show ((u : Int) + 1).toNat = u + 1 by omega, (Fs u).1 ⟨fun zz => e3 (k1.trans zz), z⟩]
            refine wp_ite (fun e3 => try1 (Or.inl (by omega))) (fun e3 => ?_)
            have c7' := c7 (by omega)
            have bF : b = F u := c6
            rw [bF] at c7'
            unfold btr at skip try1
            refine wp_ite (fun e4 => skip (by omega)) (fun e4 => wp_ite (fun e5 => ?_) (fun e5 => try1 (Or.inr (Or.inl (by omega)))))
            refine wp_bind (w169 (by omega) (by omega) (wp_bind (w169 (by omega) (by omega) ?_)))
            rw [bF]
            rw [bF] at skip try1
            exact wp_ite (fun e6 => try1 (Or.inr (Or.inr ⟨by omega, e6⟩))) (fun e6 => skip (by omega))
        · rw [c6, show u0.toNat = 2 ^ nN N by omega]
      unfold stZ at go
      by_cases e : m = nwS S
      · rw [if_pos e] at go
        exact wp_pos (by omega) go
      · rw [if_neg e] at go
        refine wp_neg (by omega) (wp_gd (by omega) ?_)
        rw [show 72 * x1 = ((72 * m : Nat) : Int) by omega]
        exact go
    unfold f61 f61_12
    let I : Nat → Int → Int → Int → Int → Mm → Prop := fun n b q pc u M2 => 0 ≤ u ∧ u ≤ (2 ^ nN N : Nat) ∧ (n : Int) = (2 ^ nN N : Nat) - u ∧ IV N S Ps l M2 ∧ M2 3 = M 3 ∧ b = F u.toNat ∧ (b ≠ -2 → q = lqS (stAt S Ps m) b (nN N) ∧ pc = popc b 14)
    refine wp_lp5 I (2 ^ nN N) (by omega) ⟨by omega, by omega, by omega, h, rfl, F0.symm, fun z => absurd rfl z⟩ ?_
    rintro n b q pc u0 M2 ⟨c1, c2, c3, c4, c5, c6, c7⟩
    dsimp only
    unfold lb61_12
    rw [c4.e30, bL (by omega) (by omega), Int.toNat_natCast]
    refine wp_ite (fun e => ?_) (fun e => wp_o (wp_some (wp_some ?_)))
    · obtain ⟨u, rfl⟩ := Int.eq_ofNat_of_zero_le c1
      rw [Int.toNat_natCast] at c6
      obtain ⟨_, _, sc1, _⟩ := stat_V c4 hm
      have sd := sc1.2.2.1
      have bn := bN_lt (x := (u : Int)) (y := M2 (stAd (nwS S) m) 1) (by omega) (by omega) sd.1 (by omega)
      have tn : ∀ s, tb (bAnd (u : Int) (bXor (M2 (stAd (nwS S) m) 1) (-1))) s = (tb (u : Int) s && !tb (M2 (stAd (nwS S) m) 1) s) := fun s => tb_not (by omega) (by omega) sd.1 (by omega)
      have bn2 : bAnd (u : Int) (bXor (M2 (stAd (nwS S) m) 1) (-1)) < (2 ^ nN N : Nat) := tb_lt bn.1 (fun s hs => by rw [tn, tb_ge (by omega) e hs, Bool.false_and])
      refine wp_bind (w244 h.1.1 sV1 sc1.2.1 bn.1 bn2 (wp_bind (w1 (by omega) (by omega) ?_)))
      have eq : sm (fun s => if tb (bAnd (u : Int) (bXor (M2 (stAd (nwS S) m) 1) (-1))) s then (stAt S Ps m) 3 s else 0) (nN N) = lqS (stAt S Ps m) u (nN N) := sm_congr (fun s hs => by
        have z := sd.2.2 s
        rw [tn]
        cases q1 : tb (u : Int) s
        · rfl
        · cases q2 : tb (M2 (stAd (nwS S) m) 1) s
          · rw [q2] at z
            rw [if_pos (by decide), if_pos rfl, if_neg (by rw [z]; decide)]
          · rw [q2] at z
            rw [if_neg (by decide), if_pos rfl, if_pos (by rw [z]; rfl)])
      rw [eq]
      have fu := Fb u
      have skip : ¬ btr (stAt S Ps m) (nN N) u (F u) → Wp (f61_109 (stAd (nwS S) m) x2 b q pc u M2) (Sum.elim (up5 I n) (fun r => Wp (some (r.1, r.2)) (fun r => JJ r.1 (f141 x1 x2 r.2)))) := fun z => by
        unfold f61_109
        refine wp_gd (by omega) (wp_i5 (n - 1) (by omega) ⟨by omega, by omega, by omega, c4, c5, ?_, c7⟩)
        rw [show ((u : Int) + 1).toNat = u + 1 by omega, (Fs u).2 (fun zz => z zz.2)]
        exact c6
      have try1 : btr (stAt S Ps m) (nN N) u (F u) → Wp (f61_87 (stAd (nwS S) m) x2 b q pc u (lqS (stAt S Ps m) u (nN N)) (popc u 14) M2) (Sum.elim (up5 I n) (fun r => Wp (some (r.1, r.2)) (fun r => JJ r.1 (f141 x1 x2 r.2)))) := fun z => by
        unfold f61_87
        refine wp_obnd (wpW (w54 (x := u) c4 hm (by omega) e h3) (fun r2 hr2 => ?_))
        obtain ⟨v2, M3⟩ := r2
        obtain ⟨k1, k2, k3⟩ := hr2
        dsimp only at k1 k2 k3 ⊢
        rw [c5] at k1
        unfold f61_98 f61_109
        refine wp_ite (fun e3 => wp_gd (by omega) (wp_i5 (n - 1) (by omega) ⟨by omega, by omega, by omega, k2, k3.trans c5, ?_, c7⟩)) (fun e3 => wp_gd (by omega) (wp_i5 (n - 1) (by omega) ⟨by omega, by omega, by omega, k2, k3.trans c5, ?_, fun _ => ⟨rfl, rfl⟩⟩))
        · rw [show ((u : Int) + 1).toNat = u + 1 by omega, (Fs u).2 (fun zz => zz.1 (k1.symm.trans e3))]
          exact c6
        · rw [show ((u : Int) + 1).toNat = u + 1 by omega, (Fs u).1 ⟨fun zz => e3 (k1.trans zz), z⟩]
      refine wp_ite (fun e3 => try1 (Or.inl (by omega))) (fun e3 => ?_)
      have c7' := c7 (by omega)
      have bF : b = F u := c6
      rw [bF] at c7'
      unfold btr at skip try1
      refine wp_ite (fun e4 => try1 (Or.inr (Or.inl (by omega)))) (fun e4 => wp_ite (fun e5 => wp_ite (fun e6 => try1 (Or.inr (Or.inr ⟨by omega, by omega⟩))) (fun e6 => skip (by omega))) (fun e5 => skip (by omega)))
    · show JJ b (f141 x1 x2 M2)
      rw [c6, show u0.toNat = 2 ^ nN N by omega]
      exact model M2 c4 c5
  · rw [if_neg h3]
    refine wp_pos rfl (wp_some ?_)
    show JJ (-1) (f141 x1 x2 M)
    unfold f141
    refine wp_bind (w143 ?_)
    rw [h.now.2.1, if_pos hx1]
    refine wp_neg (by decide) (wp_bind (w127 ?_))
    rw [if_neg h3]
    exact wp_pos rfl (wp_some ⟨rfl, h.G⟩)
end LEAST

/-! What came, and what it came of. -/
noncomputable def camN (N S : Mm) (K : Bool → (Nat → Int) → Bool) (c k : Int) (w : Nat) : Prop := if k = 1 then w < nW N ∧ dnF N S c w = true else if k = 2 then w < nW N ∧ trF N S K c w = true else if k = 3 then w < nK N ∧ stF N S K w = true else w ∈ falls N S (nN N)
def chS (S : Mm) (k : Int) (w : Nat) : Mm := if k = 3 then ms S 5 w 1 else ms S 0 w 0
noncomputable def cauP (N S : Mm) (Ps : Nat → Mm) (l : List (Bool × Sem)) (M : Mm) (j e : Nat) : Prop := M 185 j ≠ 0 ∧ M 187 j = M 187 e - 1 ∧ ¬ camN N (chS (stAt S Ps (M 187 e).toNat) (M 185 j) (M 186 j).toNat) (kOf l) (M 3 3) (M 185 e) (M 186 e).toNat
theorem flL_in {f : Nat → Bool} {kd k : Int} {w : Nat} : ∀ n : Nat, (k, w) ∈ flL f kd n ↔ k = kd ∧ w < n ∧ f w = true
  | 0 => ⟨fun h => (by cases h), fun h => absurd h.2.1 (Nat.not_lt_zero _)⟩
  | n + 1 => by
    rw [flL]
    have ih := flL_in (f := f) (kd := kd) (k := k) (w := w) n
    by_cases e : f n = true
    · rw [if_pos e, List.mem_append, ih]
      constructor
      · rintro (h | h)
        · exact ⟨h.1, by omega, h.2.2⟩
        · rw [List.mem_singleton] at h
          injection h with h1 h2
          exact ⟨h1, by omega, by rw [h2]; exact e⟩
      · rintro ⟨h1, h2, h3⟩
        by_cases e2 : w = n
        · exact Or.inr (by rw [List.mem_singleton, h1, e2])
        · exact Or.inl ⟨h1, by omega, h3⟩
    · rw [if_neg e, ih]
      constructor
      · rintro ⟨h1, h2, h3⟩
        exact ⟨h1, by omega, h3⟩
      · rintro ⟨h1, h2, h3⟩
        by_cases e2 : w = n
        · rw [e2] at h3
          exact absurd h3 e
        · exact ⟨h1, by omega, h3⟩
theorem evL_in {N S : Mm} {K : Bool → (Nat → Int) → Bool} {c k : Int} {w : Nat} (hk : 0 ≤ k ∧ k ≤ 3) : (k, w) ∈ evL N S K c ↔ camN N S K c k w := by
  unfold evL camN
  rw [List.mem_append, List.mem_append, List.mem_append, flL_in, flL_in, flL_in, List.mem_map]
  have e0 : (∃ a, a ∈ falls N S (nN N) ∧ ((0 : Int), a) = (k, w)) ↔ k = 0 ∧ w ∈ falls N S (nN N) := by
    constructor
    · rintro ⟨a, h1, h2⟩
      injection h2 with h3 h4
      exact ⟨h3.symm, by rw [← h4]; exact h1⟩
    · rintro ⟨h1, h2⟩
      exact ⟨w, h2, by rw [h1]⟩
  rw [e0]
  by_cases c1 : k = 1
  · rw [if_pos c1]
    subst c1
    constructor
    · rintro (((h | h) | h) | h)
      · exact absurd h.1 (by decide)
      · exact h.2
      · exact absurd h.1 (by decide)
      · exact absurd h.1 (by decide)
    · exact fun h => Or.inl (Or.inl (Or.inr ⟨rfl, h⟩))
  · rw [if_neg c1]
    by_cases c2 : k = 2
    · rw [if_pos c2]
      subst c2
      constructor
      · rintro (((h | h) | h) | h)
        · exact absurd h.1 (by decide)
        · exact absurd h.1 (by decide)
        · exact h.2
        · exact absurd h.1 (by decide)
      · exact fun h => Or.inl (Or.inr ⟨rfl, h⟩)
    · rw [if_neg c2]
      by_cases c3 : k = 3
      · rw [if_pos c3]
        subst c3
        constructor
        · rintro (((h | h) | h) | h)
          · exact absurd h.1 (by decide)
          · exact absurd h.1 (by decide)
          · exact absurd h.1 (by decide)
          · exact h.2
        · exact fun h => Or.inr ⟨rfl, h⟩
      · rw [if_neg c3]
        constructor
        · rintro (((h | h) | h) | h)
          · exact h.2
          · exact absurd h.1 c1
          · exact absurd h.1 c2
          · exact absurd h.1 c3
        · exact fun h => Or.inl (Or.inl (Or.inl ⟨by omega, h⟩))
section EVENT
variable {N S S1 M M0 M2 : Mm} {Ps : Nat → Mm} {l : List (Bool × Sem)} {t d m ev : Nat} {x c : Int}
theorem cau_fp {j e : Nat} (f : fpP M M2) : cauP N S Ps l M2 j e ↔ cauP N S Ps l M j e := by
  unfold cauP
  rw [f.1 185 (by unfold perB; omega), f.1 186 (by unfold perB; omega), f.1 187 (by unfold perB; omega), f.1 3 (by unfold perB; omega)]
theorem chS_V {k : Int} {w : Nat} (h : sV N S1) (hw : k = 3 → w < nK N) : sV N (chS S1 k w) ∧ (chS S1 k w) 6 1 = S1 6 1 := by
  unfold chS
  by_cases e : k = 3
  · rw [if_pos e]
    exact ⟨h.up (by omega) (by omega) (by omega) (by omega) (by omega) (fun _ => ⟨Or.inr rfl, hw e⟩) (by omega), by rw [ms_a (by decide)]⟩
  · rw [if_neg e]
    exact ⟨h.up (by omega) (by omega) (by omega) (by omega) (by omega) (by omega) (by omega), by rw [ms_a (by decide)]⟩
/-- did it come, the first object -/
theorem w222 {k : Int} {w : Nat} (hN : NC N) (hk : 0 ≤ k ∧ k ≤ 3) (hw : w < 14) (hsg : sgR N S1 M 79) (h3 : ∀ w : Nat, (tb (M 73 3) w = true ↔ (w < nW N ∧ dnF N S1 c w = true))) (h4 : ∀ w : Nat, (tb (M 73 4) w = true ↔ (w < nW N ∧ trF N S1 (kOf l) c w = true)))
    (h5 : ∀ w : Nat, (tb (M 73 5) w = true ↔ (w < nK N ∧ stF N S1 (kOf l) w = true))) (hb : ∀ j, 3 ≤ j → j ≤ 5 → 0 ≤ M 73 j ∧ M 73 j < 16384) : Wp (f222 k w M) (fun v => (v = 1 ∧ camN N S1 (kOf l) c k w) ∨ (v = 0 ∧ ¬ camN N S1 (kOf l) c k w)) := by
  have h8 := hN.n8
  have hf8 := falls_8 (S := S1) hN
  have bit : ∀ j, 3 ≤ j → j ≤ 5 → ∀ p : Prop, (tb (M 73 j) w = true ↔ p) → Wp (if (bAnd (bShr (M 73 j) (w : Int)) 1) = 1 then (some (1 : Int)) else (some 0)) (fun v => (v = 1 ∧ p) ∨ (v = 0 ∧ ¬ p)) := fun j q1 q2 p hp => by
    have := hb j q1 q2
    rw [bT this.1 (by omega) (by omega) (by omega), Int.toNat_natCast]
    by_cases e : tb (M 73 j) w = true
    · rw [if_pos e]
      exact wp_pos rfl (wp_some (Or.inl ⟨rfl, hp.mp e⟩))
    · rw [if_neg e]
      exact wp_neg (by decide) (wp_some (Or.inr ⟨rfl, fun z => e (hp.mpr z)⟩))
  unfold f222 camN
  by_cases c1 : k = 1
  · rw [if_pos c1]
    simp only [if_pos c1]
    exact bit 3 (by decide) (by decide) _ (h3 w)
  · rw [if_neg c1]
    simp only [if_neg c1]
    by_cases c2 : k = 2
    · rw [if_pos c2]
      simp only [if_pos c2]
      exact bit 4 (by decide) (by decide) _ (h4 w)
    · rw [if_neg c2]
      simp only [if_neg c2]
      by_cases c3 : k = 3
      · rw [if_pos c3]
        simp only [if_pos c3]
        exact bit 5 (by decide) (by decide) _ (h5 w)
      · rw [if_neg c3]
        simp only [if_neg c3]
        obtain ⟨s1, s2⟩ := hsg.2.1
        have s2' : ∀ j x : Nat, (falls N S1 (nN N))[j]? = some x → M 80 j = x := s2
        unfold f222_71
        refine wp_lp1 (fun n y => ∃ j : Nat, y = j ∧ j ≤ (falls N S1 (nN N)).length ∧ n = (falls N S1 (nN N)).length - j ∧ ∀ i, i < j → (falls N S1 (nN N))[i]? ≠ some w) _ (by omega) ⟨0, rfl, Nat.zero_le _, rfl, fun i hi => absurd hi (Nat.not_lt_zero _)⟩ ?_
        rintro n y ⟨j, rfl, g1, g2, g3⟩
        try dsimp only
        unfold lb222_71
        rw [s1]
        refine wp_ite (fun e => ?_) (fun e => wp_o (wp_some (Or.inr ⟨rfl, fun z => ?_⟩)))
        · have hj : j < (falls N S1 (nN N)).length := by omega
          have hx := List.getElem?_eq_getElem hj
          rw [Int.toNat_natCast, s2' j _ hx]
          refine wp_gd (by omega) (wp_ite (fun e2 => wp_o (wp_some (Or.inl ⟨rfl, ?_⟩))) (fun e2 => wp_gd (by omega) (wp_i1 (n - 1) (by omega) ⟨j + 1, by omega, by omega, by omega, fun i hi => ?_⟩)))
          · have : (falls N S1 (nN N))[j] = w := by omega
            rw [← this]
            exact List.getElem_mem hj
          · by_cases e3 : i = j
            · rw [e3, hx]
              intro z
              injection z with z
              omega
            · exact g3 i (by omega)
        · obtain ⟨i, hi, hz⟩ := List.getElem_of_mem z
          exact g3 i (by omega) (by rw [List.getElem?_eq_getElem hi, hz])
theorem evm_b (he : iEv N (nwS S) ev M) {j : Nat} (hj : j < ev) : (0 ≤ M 185 j ∧ M 185 j ≤ 3) ∧ (∃ w : Nat, M 186 j = w ∧ w < kdN N (M 185 j)) ∧ ∃ m : Nat, m < nwS S ∧ M 187 j = m := by
  obtain ⟨_, _, _, a, b, c⟩ := he.2.2.2 j hj
  obtain ⟨w, hw⟩ := Int.eq_ofNat_of_zero_le b.1
  exact ⟨a, ⟨w, hw, by omega⟩, c⟩
theorem kdN_14 (hN : NC N) (k : Int) : kdN N k ≤ 14 := by
  have := hN.n8
  have := hN.w14
  have := hN.k9
  unfold kdN
  split
  · omega
  · split <;> omega
theorem w37 {j e : Nat} (h : IV N S Ps l M) (he : iEv N (nwS S) ev M) (hj : j < ev) (hee : e < ev) (hm : M 187 e = m) (hmn : m < nwS S) (h0 : M 185 j ≠ 0) (hc : M 187 j = M 187 e - 1) :
    Wp (f37 j e (stAd (nwS S) m) M) (fun r => ((r.1 = 0 ∧ cauP N S Ps l M j e) ∨ (r.1 = 1 ∧ ¬ cauP N S Ps l M j e)) ∧ fpP M r.2) := by
  have hnw := h.nw
  have hev := he.2.2.1
  obtain ⟨t, d, ht⟩ := h.2.2.1
  have ht4 : t = 4 ∨ t = 135 := by have := ht.1; omega
  obtain ⟨s1, s2, s3, s4⟩ := stat_V h (Nat.le_of_lt hmn)
  obtain ⟨r1, r2, r3, r4⟩ := stR_ok h (Nat.le_of_lt hmn)
  obtain ⟨b1, ⟨wj, b2, b3⟩, _⟩ := evm_b he hj
  obtain ⟨d1, ⟨we, d2, d3⟩, _⟩ := evm_b he hee
  have k14 := kdN_14 h.1.1 (M 185 j)
  have k14e := kdN_14 h.1.1 (M 185 e)
  have ej := he.2.2.2 j hj
  have eee := he.2.2.2 e hee
  have hV := chS_V (k := M 185 j) (w := wj) s1 (fun z => by rw [z] at b3; exact b3)
  unfold f37
  refine wp_bind (w219 r4 s3 (fun M1 a1 a2 a3 => ?_))
  rw [Int.toNat_natCast, a1 99 (by omega), a1 100 (by omega), ej.1, ej.2.1, b2, Int.toNat_natCast]
  have tail : ∀ M3 : Mm, frP t M M3 → plC N (chS (stAt S Ps m) (M 185 j) wj) M3 → Wp (f37_71 e M3) (fun r => ((r.1 = 0 ∧ cauP N S Ps l M j e) ∨ (r.1 = 1 ∧ ¬ cauP N S Ps l M j e)) ∧ fpP M r.2) := fun M3 f3 p3 => by
    unfold f37_71
    refine wp_bind (h.stp ht hV.1 f3 p3 (fun M4 g1 g2 g3 g4 g5 g6 g7 g8 => wp_gd (by omega) (wp_bind ?_)))
    rw [Int.toNat_natCast, g1 99 (by omega) (by omega), g1 100 (by omega) (by omega), eee.1, eee.2.1, d2]
    refine wpW (w222 h.1.1 d1 (by omega) g4 g5 g6 g7 g8) (fun v hv => ?_)
    have ec : cauP N S Ps l M j e ↔ ¬ camN N (chS (stAt S Ps m) (M 185 j) wj) (kOf l) (M 3 3) (M 185 e) we := by
      unfold cauP
      rw [hm, b2, d2, Int.toNat_natCast, Int.toNat_natCast, Int.toNat_natCast]
      rw [hm] at hc
      exact ⟨fun z => z.2.2, fun z => ⟨h0, hc, z⟩⟩
    refine wp_gd (by omega) (wp_some ⟨?_, g1.fp ht4⟩)
    dsimp only
    rw [ec]
    rcases hv with ⟨v1, v2⟩ | ⟨v1, v2⟩
    · exact Or.inr ⟨v1, fun z => z v2⟩
    · exact Or.inl ⟨v1, v2⟩
  unfold chS at tail
  refine wp_gd (by omega) (wp_ite (fun c => wp_mlet (tail _ (fun b q1 q2 => (ms_a (by omega)).trans (a1 b (by omega))) ?_)) (fun c => wp_gd (by omega) (wp_mlet (tail _ (fun b q1 q2 => (ms_a (by omega)).trans (a1 b (by omega))) ?_))))
  · rw [if_pos c]
    have hwk : wj < nK N := by rw [c] at b3; exact b3
    have h9 := h.1.1.k9
    have pk := pw2_k h.1.1
    have hbt := a2.2.2.2.1
    have hbl : bShl 1 (wj : Int) = (2 ^ wj : Nat) := by rw [bL (by omega) (by omega), Int.toNat_natCast]
    have hlt : (2 ^ wj : Nat) < 2 ^ nK N := Nat.pow_lt_pow_right (by decide) hwk
    have hpz : 0 < (2 ^ wj : Nat) := Nat.two_pow_pos wj
    have hor := bO_lt (n := nK N) (x := M1 74 2) (y := bShl 1 (wj : Int)) (by omega) hbt.1 hbt.2.1 (by omega) (by omega)
    refine ⟨a2.up45 (Or.inr rfl) ⟨?_, fun x => ?_⟩ (fun j hj => ms_i (by omega)) (fun b q1 q2 => ms_a (by omega)), fun q => ?_⟩
    · rw [ms_v]
      exact hor
    · rw [ms_v, tb_or hbt.1 (by omega) (by omega) (by omega), tb_pow (by omega) (by omega), Int.toNat_natCast]
      by_cases e2 : x = wj
      · rw [if_pos e2, e2, decide_eq_true rfl, Bool.or_true]
        rfl
      · rw [if_neg e2, decide_eq_false (fun z => e2 z.symm), Bool.or_false]
        exact (hbt.2.2 x).symm
    · rw [ms_a (by decide), a3] at q
      exact absurd q (by decide)
  · rw [if_neg c]
    refine ⟨a2.up (by decide) (fun x hx => ms_at) (fun b q1 q2 q3 => ms_a (by omega)), fun q => ?_⟩
    rw [ms_a (by decide), a3] at q
    exact absurd q (by decide)
theorem w142 {j e : Nat} (h : IV N S Ps l M) (he : iEv N (nwS S) ev M) (hj : j < ev) (hee : e < ev) :
    Wp (f142 j e M) (fun r => ((r.1 = 1 ∧ cauP N S Ps l M j e) ∨ (r.1 = 0 ∧ ¬ cauP N S Ps l M j e)) ∧ fpP M r.2) := by
  have hnw := h.nw
  have hev := he.2.2.1
  obtain ⟨b1, ⟨wj, b2, b3⟩, _⟩ := evm_b he hj
  obtain ⟨d1, ⟨we, d2, d3⟩, ⟨m, hmn, hm⟩⟩ := evm_b he hee
  obtain ⟨s1, s2, s3, s4⟩ := stat_V h (Nat.le_of_lt hmn)
  have k14 := kdN_14 h.1.1 (M 185 j)
  have hV := chS_V (k := M 185 j) (w := wj) s1 (fun z => by rw [z] at b3; exact b3)
  unfold stZ at s4
  rw [if_neg (by omega)] at s4
  unfold f142
  rw [Int.toNat_natCast, Int.toNat_natCast]
  refine wp_gd (by omega) (wp_ite (fun c => wp_some ⟨Or.inr ⟨rfl, fun z => z.1 c⟩, fpP.refl⟩) (fun c => wp_gd (by omega) (wp_gd (by omega) (wp_ite (fun c2 => ?_) (fun c2 => wp_some ⟨Or.inr ⟨rfl, fun z => c2 z.2.1⟩, fpP.refl⟩)))))
  rw [hm, show 72 * (m : Int) = ((72 * m : Nat) : Int) by omega]
  refine wp_gd (by omega) (wp_bind (w96 (z := 72 * m) (z2 := 36288) (by omega) (by decide) (by omega) (fun M1 a1 a2 a3 => wp_mlet ?_)))
  have q1 : ∀ b, b ≠ 144 → ms M1 144 36357 (M1 144 36069) b = M b := fun b hb => (ms_a hb).trans (a1 b hb)
  have q2 : ∀ a, a < 36288 → ms M1 144 36357 (M1 144 36069) 144 a = M 144 a := fun a ha => by rw [ms_i (by omega)]; exact a2 a (by omega)
  have q3 : ms M1 144 36357 (M1 144 36069) 144 36357 = M 3 3 := by rw [ms_v, a2 _ (by omega)]; exact h.cst.1
  have q4 : sM (stAt S Ps m) (ms M1 144 36357 (M1 144 36069)) 36288 := by
    have : sM (stAt S Ps m) M1 36288 := s4.cp (fun j hj => a3 j hj)
    obtain ⟨k1, k2, k3, k4, k5⟩ := this
    refine ⟨fun w hw => ?_, fun i hi => ?_, fun i hi => ?_, ?_, ?_⟩
    · rw [ms_i (by omega), ms_i (by omega), ms_i (by omega)]; exact k1 w hw
    · rw [ms_i (by omega), ms_i (by omega)]; exact k2 i hi
    · rw [ms_i (by omega)]; exact k3 i hi
    · rw [ms_i (by decide)]; exact k4
    · rw [ms_i (by decide)]; exact k5
  generalize ms M1 144 36357 (M1 144 36069) = M3 at q1 q2 q3 q4 ⊢
  clear a1 a2 a3
  have ec : cauP N S Ps l M j e ↔ ¬ camN N (chS (stAt S Ps m) (M 185 j) wj) (kOf l) (M 3 3) (M 185 e) we := by
    unfold cauP
    rw [hm, b2, d2, Int.toNat_natCast, Int.toNat_natCast, Int.toNat_natCast]
    rw [hm] at c2
    exact ⟨fun z => z.2.2, fun z => ⟨c, c2, z⟩⟩
  have tail : ∀ M4 : Mm, (∀ b, b ≠ 144 → M4 b = M b) → (∀ a, a < 36288 → M4 144 a = M 144 a) → M4 144 36357 = M 3 3 → sM (chS (stAt S Ps m) (M 185 j) wj) M4 36288 → Wp (f142_101 e M4) (fun r => ((r.1 = 1 ∧ cauP N S Ps l M j e) ∨ (r.1 = 0 ∧ ¬ cauP N S Ps l M j e)) ∧ fpP M r.2) := fun M4 g1 g2 g3 g4 => by
    unfold f142_101
    have f4 : fpP M M4 := ⟨fun b hb => g1 b hb.2.1, fun j _ => by rw [g1 142 (by decide)], fun a ha => g2 a (by omega)⟩
    refine wp_bind (h.stm hV.1 f4 g4 g3 (fun M5 k1 k2 k3 k4 k5 _ => ?_))
    obtain ⟨l1, l2⟩ := k5
    have lb : (evL N (chS (stAt S Ps m) (M 185 j) wj) (kOf l) (M 3 3)).length ≤ 64 := by
      have z1 := evL_len N (chS (stAt S Ps m) (M 185 j) wj) (kOf l) (M 3 3)
      have z2 := falls_8 (S := chS (stAt S Ps m) (M 185 j) wj) h.1.1
      have z3 := cnB_b (dnF N (chS (stAt S Ps m) (M 185 j) wj) (M 3 3)) (nW N)
      have z4 := cnB_b (trF N (chS (stAt S Ps m) (M 185 j) wj) (kOf l) (M 3 3)) (nW N)
      have z5 := cnB_b (stF N (chS (stAt S Ps m) (M 185 j) wj) (kOf l)) (nK N)
      have := h.1.1.n8
      have := h.1.1.w14
      have := h.1.1.k9
      unfold cm at z1
      omega
    have ev2 := evL_in (N := N) (S := chS (stAt S Ps m) (M 185 j) wj) (K := kOf l) (c := M 3 3) (w := we) d1
    generalize evL N (chS (stAt S Ps m) (M 185 j) wj) (kOf l) (M 3 3) = L at l1 l2 lb ev2
    unfold f142_111
    refine wp_lp1 (fun n y => ∃ u : Nat, y = u ∧ u ≤ L.length ∧ n = L.length - u ∧ ∀ i, i < u → L[i]? ≠ some (M 185 e, we)) L.length (by omega) ⟨0, rfl, Nat.zero_le _, rfl, fun i hi => absurd hi (Nat.not_lt_zero _)⟩ ?_
    rintro n y ⟨u, rfl, g1, g2, g3⟩
    try dsimp only
    unfold lb142_111
    rw [l1, k1.1 185 (by unfold perB; omega), k1.1 186 (by unfold perB; omega), Int.toNat_natCast, Int.toNat_natCast, d2]
    refine wp_ite (fun e1 => ?_) (fun e1 => wp_o (wp_some ⟨Or.inl ⟨rfl, ?_⟩, k1⟩))
    · have hu : u < L.length := by omega
      have hx := List.getElem?_eq_getElem hu
      obtain ⟨o1, o2⟩ := l2 u _ hx
      rw [o1, o2]
      have next : ¬ L[u] = (M 185 e, we) → Wp (f142_154 e u M5) (Sum.elim (up1 (fun n y => ∃ u : Nat, y = u ∧ u ≤ L.length ∧ n = L.length - u ∧ ∀ i, i < u → L[i]? ≠ some (M 185 e, we)) n) (fun r => ((r.1 = 1 ∧ cauP N S Ps l M j e) ∨ (r.1 = 0 ∧ ¬ cauP N S Ps l M j e)) ∧ fpP M r.2)) := fun z => by
        unfold f142_154
        refine wp_gd (by omega) (wp_i1 (n - 1) (by omega) ⟨u + 1, by omega, by omega, by omega, fun i hi => ?_⟩)
        by_cases e3 : i = u
        · rw [e3, hx]
          intro z2
          injection z2 with z2
          exact z z2
        · exact g3 i (by omega)
      refine wp_gd (by omega) (wp_gd (by omega) (wp_ite (fun e2 => wp_ite (fun e3 => wp_o (wp_some ⟨Or.inr ⟨rfl, ?_⟩, k1⟩)) (fun e3 => next (fun z => e3 (by rw [z])))) (fun e2 => next (fun z => e2 (by rw [z])))))
      rw [ec]
      refine fun z => z (ev2.mp ?_)
      have e4 : L[u] = (M 185 e, we) := Prod.ext e2 (by show (L[u]).2 = we; omega)
      rw [← e4]
      exact List.getElem_mem hu
    · rw [ec]
      intro z
      obtain ⟨i, hi, hz⟩ := List.getElem_of_mem (ev2.mpr z)
      exact g3 i (by omega) (by rw [List.getElem?_eq_getElem hi, hz])
  rw [q1 186 (by decide), b2]
  unfold chS at tail
  refine wp_ite (fun c3 => ?_) (fun c3 => ?_)
  · rw [show (36288 + (wj : Int)).toNat = 36288 + wj by omega]
    refine wp_gd (by omega) (wp_gd (by omega) (wp_mlet (tail _ (fun b hb => (ms_a hb).trans (q1 b hb)) (fun a ha => (ms_i (by omega)).trans (q2 a ha)) ((ms_i (by omega)).trans q3) ?_)))
    rw [if_neg (by omega)]
    have ol := offlim
    exact q4.up (r := 0) (i := wj) (by decide) (by omega) (by rw [show 36288 + offS 0 + wj = 36288 + wj by omega, ms_v]) (fun a z1 z2 z3 => ms_i (by omega))
  · have hwk : wj < nK N := by rw [show M 185 j = 3 by omega] at b3; exact b3
    have h9 := h.1.1.k9
    rw [show (36330 + (wj : Int)).toNat = 36330 + wj by omega]
    refine wp_gd (by omega) (wp_gd (by omega) (wp_mlet (tail _ (fun b hb => (ms_a hb).trans (q1 b hb)) (fun a ha => (ms_i (by omega)).trans (q2 a ha)) ((ms_i (by omega)).trans q3) ?_)))
    rw [if_pos (by omega)]
    have ol := offlim
    exact q4.up (r := 5) (i := wj) (by decide) (by omega) (by rw [show 36288 + offS 5 + wj = 36330 + wj by omega, ms_v]) (fun a z1 z2 z3 => ms_i (by omega))
def fstP (f : Nat → Prop) (n : Nat) (v : Int) : Prop := (v = -1 ∧ ∀ j, j < n → ¬ f j) ∨ ∃ j : Nat, v = j ∧ j < n ∧ f j ∧ ∀ i, i < j → ¬ f i
theorem fstP_u {f : Nat → Prop} {n : Nat} {v v2 : Int} (h : fstP f n v) (g : fstP f n v2) : v = v2 := by
  rcases h with ⟨h1, h2⟩ | ⟨j, h1, h2, h3, h4⟩
  · rcases g with ⟨g1, g2⟩ | ⟨i, g1, g2, g3, g4⟩
    · omega
    · exact absurd g3 (h2 i g2)
  · rcases g with ⟨g1, g2⟩ | ⟨i, g1, g2, g3, g4⟩
    · exact absurd h3 (g2 j h2)
    · rcases Nat.lt_trichotomy j i with c | c | c
      · exact absurd h3 (g4 j c)
      · omega
      · exact absurd g3 (h4 i c)
theorem c45 {x1 x2 : Int} (h : IV N S Ps l M) : Wp (f45 x1 x2 M) (fun r => JJ r.1 (f105 x1 x2 r.2)) := by
  have hnw := h.nw
  obtain ⟨ev, he⟩ := h.2.2.2.1
  have hev := he.2.2.1
  unfold f45 f206
  rw [he.1]
  have bad : ¬ (0 ≤ x1 ∧ x1 < ev) → Wp (some ((-1 : Int), M)) (fun r => JJ r.1 (f105 x1 x2 r.2)) := fun z => by
    refine wp_some ?_
    show JJ (-1) (f105 x1 x2 M)
    unfold f105
    rw [he.2.1]
    refine wp_gd (by omega) (wp_bind (w143 ?_))
    rw [if_neg (show ¬ (0 ≤ x1 ∧ x1 ≤ (ev : Int) - 1) by omega)]
    exact wp_pos rfl (wp_some ⟨rfl, h.G⟩)
  refine wp_bind (wp_ite (fun c => wp_some (wp_pos rfl (bad (by omega)))) (fun c => wp_ite (fun c2 => wp_some (wp_neg (by decide) ?_)) (fun c2 => wp_some (wp_pos rfl (bad (by omega))))))
  obtain ⟨e, rfl⟩ := Int.eq_ofNat_of_zero_le (show 0 ≤ x1 by omega)
  have hee : e < ev := by omega
  have ee := he.2.2.2 e hee
  have model : ∀ (v : Int) (M1 : Mm), fpP M M1 → (x2 = 3 → fstP (fun j => cauP N S Ps l M j e) e v) → (x2 ≠ 3 → v = if x2 = 0 then M 185 e else if x2 = 1 then M 186 e else if x2 = 2 then M 187 e else -1) → JJ v (f105 e x2 M1) := fun v M1 f1 k1 k2 => by
    have g := h.fp f1
    have he1 : iEv N (nwS S) ev M1 := he.to (fun b hb => f1.1 b (by unfold perB; omega)) (f1.2.1 7 (by omega))
    unfold f105
    rw [he1.2.1]
    refine wp_gd (by omega) (wp_bind (w143 ?_))
    rw [if_pos (show 0 ≤ (e : Int) ∧ (e : Int) ≤ (ev : Int) - 1 by omega)]
    refine wp_neg (by decide) ?_
    rw [Int.toNat_natCast, f1.1 185 (by unfold perB; omega), f1.1 186 (by unfold perB; omega), f1.1 187 (by unfold perB; omega)]
    by_cases c3 : x2 = 3
    · refine wp_pos c3 ?_
      have kk := k1 c3
      unfold f105_25
      refine wp_lp2 (fun n y M2 => ∃ j : Nat, y = j ∧ j ≤ e ∧ n = e - j ∧ fpP M M2 ∧ ∀ i, i < j → ¬ cauP N S Ps l M i e) e (by omega) ⟨0, rfl, Nat.zero_le _, rfl, f1, fun i hi => absurd hi (Nat.not_lt_zero _)⟩ ?_
      rintro n y M2 ⟨j, rfl, a1, a2, a3, a4⟩
      dsimp only
      unfold lb105_25
      refine wp_ite (fun c4 => ?_) (fun c4 => wp_o (wp_some ⟨?_, (h.fp a3).G⟩))
      · have he2 : iEv N (nwS S) ev M2 := he.to (fun b hb => a3.1 b (by unfold perB; omega)) (a3.2.1 7 (by omega))
        refine wp_obnd (wpW (w142 (j := j) (e := e) (h.fp a3) he2 (by omega) hee) (fun r2 hr2 => ?_))
        obtain ⟨v2, M3⟩ := r2
        obtain ⟨o1, o2⟩ := hr2
        dsimp only at o1 o2 ⊢
        rw [cau_fp a3] at o1
        refine wp_ite (fun c5 => wp_gd (by omega) (wp_i2 (n - 1) (by omega) ⟨j + 1, by omega, by omega, by omega, a3.trans o2, fun i hi => ?_⟩)) (fun c5 => wp_o (wp_some ⟨?_, (h.fp (a3.trans o2)).G⟩))
        · by_cases e3 : i = j
          · rw [e3]
            rcases o1 with o1 | o1
            · omega
            · exact o1.2
          · exact a4 i (by omega)
        · rcases o1 with o1 | o1
          · exact fstP_u (Or.inr ⟨j, rfl, by omega, o1.2, a4⟩) kk
          · omega
      · exact fstP_u (Or.inl ⟨rfl, fun i hi => a4 i (by omega)⟩) kk
    · refine wp_neg c3 ?_
      have kk := k2 c3
      refine wp_ite (fun c4 => wp_gd (by omega) (wp_some ⟨?_, g.G⟩)) (fun c4 => wp_ite (fun c5 => wp_gd (by omega) (wp_some ⟨?_, g.G⟩)) (fun c5 => wp_ite (fun c6 => wp_gd (by omega) (wp_some ⟨?_, g.G⟩)) (fun c6 => wp_some ⟨?_, g.G⟩)))
      · rw [if_pos c4] at kk
        exact kk.symm
      · rw [if_neg c4, if_pos c5] at kk
        exact kk.symm
      · rw [if_neg c4, if_neg c5, if_pos c6] at kk
        exact kk.symm
      · rw [if_neg c4, if_neg c5, if_neg c6] at kk
        exact kk.symm
  rw [Int.toNat_natCast, ee.1, ee.2.1, ee.2.2.1]
  refine wp_ite (fun c4 => wp_gd (by omega) (wp_some (model _ M fpP.refl (by omega) (fun _ => by rw [if_pos c4])))) (fun c4 => wp_ite (fun c5 => wp_gd (by omega) (wp_some (model _ M fpP.refl (by omega) (fun _ => by rw [if_neg c4, if_pos c5])))) (fun c5 => wp_ite (fun c6 => wp_gd (by omega) (wp_some (model _ M fpP.refl (by omega) (fun _ => by rw [if_neg c4, if_neg c5, if_pos c6])))) (fun c6 => wp_ite (fun c7 => wp_obnd ?_) (fun c7 => wp_some (model _ M fpP.refl (fun z => absurd z c7) (fun _ => by rw [if_neg c4, if_neg c5, if_neg c6]))))))
  have fin : ∀ (v : Int) (M1 : Mm), fpP M M1 → fstP (fun j => cauP N S Ps l M j e) e v → Wp (some (v, M1)) (fun r => JJ r.1 (f105 e x2 r.2)) := fun v M1 f1 g1 => wp_some (model v M1 f1 (fun _ => g1) (fun z => absurd c7 z))
  obtain ⟨m, hmn, hm⟩ := (evm_b he hee).2.2
  obtain ⟨r1, r2, r3, r4⟩ := stR_ok h (Nat.le_of_lt hmn)
  unfold f49
  rw [Int.toNat_natCast, ee.2.2.1, hm]
  refine wp_gd (by omega) (wp_bind (w73 h (fun z => absurd (show 0 ≤ (m : Int) ∧ (m : Int) ≤ nwS S by omega) z) (fun m2 hm1 _ => ?_)))
  have em : m2 = m := by omega
  subst em
  refine wp_neg (by omega) ?_
  rw [Int.toNat_natCast]
  refine wp_gd r1 ?_
  unfold f49_22
  refine wp_lp2 (fun n y M2 => ∃ j : Nat, y = j ∧ j ≤ e ∧ n = e - j ∧ fpP M M2 ∧ ∀ i, i < j → ¬ cauP N S Ps l M i e) e (by omega) ⟨0, rfl, Nat.zero_le _, rfl, fpP.refl, fun i hi => absurd hi (Nat.not_lt_zero _)⟩ ?_
  rintro n y M2 ⟨j, rfl, a1, a2, a3, a4⟩
  dsimp only
  unfold lb49_22
  have he2 : iEv N (nwS S) ev M2 := he.to (fun b hb => a3.1 b (by unfold perB; omega)) (a3.2.1 7 (by omega))
  refine wp_ite (fun c8 => ?_) (fun c8 => wp_o (wp_some (fin (-1) M2 a3 (Or.inl ⟨rfl, fun i hi => a4 i (by omega)⟩))))
  have ej := he.2.2.2 j (by omega)
  rw [Int.toNat_natCast, Int.toNat_natCast, a3.1 99 (by unfold perB; omega), a3.1 101 (by unfold perB; omega), ee.2.2.1, ej.2.2.1, ej.1]
  have next : ∀ M3 : Mm, fpP M M3 → ¬ cauP N S Ps l M j e → Wp (f49_86 e (stAd (nwS S) m2) j M3) (Sum.elim (up2 (fun n y M2 => ∃ j : Nat, y = j ∧ j ≤ e ∧ n = e - j ∧ fpP M M2 ∧ ∀ i, i < j → ¬ cauP N S Ps l M i e) n) (fun r => Wp (some (r.1, r.2)) (fun r => JJ r.1 (f105 e x2 r.2)))) := fun M3 f3 z => by
    unfold f49_86
    refine wp_gd (by omega) (wp_i2 (n - 1) (by omega) ⟨j + 1, by omega, by omega, by omega, f3, fun i hi => ?_⟩)
    by_cases e3 : i = j
    · rw [e3]; exact z
    · exact a4 i (by omega)
  refine wp_gd (by omega) (wp_gd (by omega) (wp_gd (by omega) (wp_ite (fun c9 => wp_ite (fun c10 => next M2 a3 (fun z => z.1 c10)) (fun c10 => ?_)) (fun c9 => next M2 a3 (fun z => c9 z.2.1)))))
  refine wp_obnd (wpW (w37 (j := j) (e := e) (m := m2) (h.fp a3) he2 (by omega) hee (by rw [a3.1 187 (by unfold perB; omega)]; exact hm) hmn (by rw [a3.1 185 (by unfold perB; omega)]; exact c10) (by rw [a3.1 187 (by unfold perB; omega)]; exact c9)) (fun r2 hr2 => ?_))
  obtain ⟨v2, M3⟩ := r2
  obtain ⟨o1, o2⟩ := hr2
  dsimp only at o1 o2 ⊢
  rw [cau_fp a3] at o1
  refine wp_ite (fun c5 => wp_o (wp_some (fin j M3 (a3.trans o2) (Or.inr ⟨j, rfl, by omega, ?_, a4⟩)))) (fun c5 => next M3 (a3.trans o2) ?_)
  · rcases o1 with o1 | o1
    · exact o1.2
    · omega
  · rcases o1 with o1 | o1
    · omega
    · exact o1.2
end EVENT
