/-! The least set that holds. -/
def kgOk : Nat → Bool
  | 0 => true
  | n + 1 => (n == 0 || (pcB (n &&& (n - 1)) 14 + 1 == pcB n 14 && (n &&& (n - 1)) < n)) && kgOk n
theorem kgOk_all : kgOk 512 = true := by decide +kernel
theorem kgOk_at : ∀ {m n : Nat}, kgOk m = true → n < m → 0 < n → pcB (n &&& (n - 1)) 14 + 1 = pcB n 14 ∧ (n &&& (n - 1)) < n
  | 0, n, _, h, _ => by omega
  | m + 1, n, h, hn, h0 => by
    rw [kgOk, Bool.and_eq_true] at h
    by_cases e : n = m
    · subst e
      have h1 := h.1
      rw [Bool.or_eq_true, Bool.and_eq_true] at h1
      rcases h1 with h1 | h1
      · have := eq_of_beq h1
        omega
      · exact ⟨eq_of_beq h1.1, of_decide_eq_true h1.2⟩
    · exact kgOk_at h.2 (by omega) h0
/-- counting by taking the lowest away -/
theorem w169 {x : Int} {M : Mm} {P : Int → Prop} (h0 : 0 ≤ x) (h1 : x < 512) (k : P (popc x 14)) : Wp (f169 x M) P := by
  unfold f169 f169_4
  refine wp_lp2 (fun m a y => 0 ≤ y ∧ y < 512 ∧ (m : Int) = y ∧ 0 ≤ a ∧ a + y ≤ 512 ∧ a + popc y 14 = popc x 14) x.toNat (by omega) ⟨h0, h1, by omega, by omega, by omega, Int.zero_add _⟩ ?_
  rintro m a y ⟨a1, a2, a3, a4, a5, a6⟩
  dsimp only
  unfold lb169_4
  refine wp_ite (fun e => wp_o (wp_some ?_)) (fun e => ?_)
  · subst e
    have : popc 0 14 = 0 := by decide
    rw [this, Int.add_zero] at a6
    rw [a6]
    exact k
  · obtain ⟨n, rfl⟩ := Int.eq_ofNat_of_zero_le a1
    obtain ⟨c1, c2⟩ := kgOk_at (n := n) kgOk_all (by omega) (by omega)
    have e1 : bAnd (n : Int) ((n : Int) - 1) = ((n &&& (n - 1) : Nat) : Int) := by
      rw [bA (by omega) (by omega) (by omega) (by omega), Int.toNat_natCast, show ((n : Int) - 1).toNat = n - 1 by omega]
    rw [e1]
    refine wp_gd (by omega) (wp_gd (by omega) (wp_i2 (n &&& (n - 1)) (by omega) ⟨by omega, by omega, rfl, by omega, by omega, ?_⟩))
    rw [pcB_pop] at a6 ⊢
    omega
/-- the load of a set, but for what is dark -/
def lqS (S : Mm) (x : Int) (n : Nat) : Int := sm (fun s => if tb x s then (if S 4 s = 1 then 0 else S 3 s) else 0) n
theorem lqS_b {N S : Mm} {x : Int} (hS : sV N S) : ∀ n, n ≤ 8 → 0 ≤ lqS S x n ∧ lqS S x n ≤ 2000 * n := fun n hn => by
  have q1 := sm_nn (a := fun s => if tb x s then (if S 4 s = 1 then 0 else S 3 s) else 0) (n := n) (fun s hs => by have := hS.2.1 s (by omega); (split <;> try split) <;> omega)
  have q2 := sm_const (f := fun s => if tb x s then (if S 4 s = 1 then 0 else S 3 s) else 0) (c := 2000) (n := n) (fun s hs => by have := hS.2.1 s (by omega); (split <;> try split) <;> omega)
  unfold lqS
  omega
def btr (S : Mm) (n : Nat) (u b : Int) : Prop := b = -2 ∨ lqS S u n < lqS S b n ∨ (lqS S u n = lqS S b n ∧ popc u 14 < popc b 14)
noncomputable def lstF (N S : Mm) (K : Bool → (Nat → Int) → Bool) (c k : Int) : Nat → Int
  | 0 => -2
  | u + 1 => @ite Int (hldN N S K c u k ≠ 0 ∧ btr S (nN N) u (lstF N S K c k u)) (Classical.propDecidable _) (u : Int) (lstF N S K c k u)
theorem lstF_b {N S : Mm} {K : Bool → (Nat → Int) → Bool} {c k : Int} : ∀ u : Nat, lstF N S K c k u = -2 ∨ (0 ≤ lstF N S K c k u ∧ lstF N S K c k u < u)
  | 0 => Or.inl rfl
  | u + 1 => by
    have ih := lstF_b (N := N) (S := S) (K := K) (c := c) (k := k) u
    rw [lstF]
    by_cases e : hldN N S K c u k ≠ 0 ∧ btr S (nN N) u (lstF N S K c k u)
    · rw [if_pos e]; omega
    · rw [if_neg e]; omega
section LEAST
variable {N S S1 M M0 M2 : Mm} {Ps : Nat → Mm} {l : List (Bool × Sem)} {t d m : Nat} {x c : Int}
theorem c60 {x1 x2 : Int} (h : IV N S Ps l M) : Wp (f60 x1 x2 M) (fun r => JJ r.1 (f141 x1 x2 r.2)) := by
  have hnw := h.nw
  have hn8 := h.1.1.n8
  have hpw := pw2_n h.1.1
  have hpp := Nat.two_pow_pos (nN N)
  unfold f60
  refine wp_bind (w73 h (fun z => wp_pos rfl (wp_some ?_)) (fun m hm1 hm => ?_))
  · show JJ (-1) (f141 x1 x2 M)
    unfold f141
    refine wp_bind (w143 ?_)
    rw [h.now.2.1, if_neg z]
    exact wp_pos rfl (wp_some ⟨rfl, h.G⟩)
  obtain ⟨r1, r2, r3, r4⟩ := stR_ok h hm
  refine wp_neg (by omega) ?_
  rw [Int.toNat_natCast]
  refine wp_gd r1 (wp_bind (w80 ?_))
  have hx1 : 0 ≤ x1 ∧ x1 ≤ (nwS S : Int) := by omega
  by_cases h3 : 1 ≤ x2 ∧ x2 ≤ 30
  · rw [if_pos h3]
    refine wp_neg (by decide) (wp_obnd ?_)
    generalize hF : lstF N (stAt S Ps m) (kOf l) (M 3 3) x2 = F
    have Fb : ∀ u, F u = -2 ∨ (0 ≤ F u ∧ F u < u) := fun u => by rw [← hF]; exact lstF_b u
    have Fs : ∀ u : Nat, (hldN N (stAt S Ps m) (kOf l) (M 3 3) u x2 ≠ 0 ∧ btr (stAt S Ps m) (nN N) u (F u) → F (u + 1) = u) ∧ (¬ (hldN N (stAt S Ps m) (kOf l) (M 3 3) u x2 ≠ 0 ∧ btr (stAt S Ps m) (nN N) u (F u)) → F (u + 1) = F u) := fun u => by
      rw [← hF]
      exact ⟨fun e => by rw [lstF, if_pos e], fun e => by rw [lstF, if_neg e]⟩
    have F0 : F 0 = -2 := by rw [← hF]; rfl
    clear hF
    obtain ⟨sV1, _, _, _⟩ := stat_V h hm
    -- the second object
    have model : ∀ M1 : Mm, IV N S Ps l M1 → M1 3 = M 3 → JJ (F (2 ^ nN N)) (f141 x1 x2 M1) := fun M1 g1 g2 => by
      unfold f141
      refine wp_bind (w143 ?_)
      rw [g1.now.2.1, if_pos hx1]
      refine wp_neg (by decide) (wp_bind (w127 ?_))
      rw [if_pos h3]
      refine wp_neg (by decide) ?_
      have go : Wp (f141_51 x1 x2 (stZ (nwS S) m : Nat) (-2) 0 0 M1) (fun r => r.1 = F (2 ^ nN N) ∧ GI r.2) := by
        unfold f141_51
        refine wp_lp4 (fun n b q u M2 => 0 ≤ u ∧ u ≤ (2 ^ nN N : Nat) ∧ (n : Int) = (2 ^ nN N : Nat) - u ∧ IV N S Ps l M2 ∧ M2 3 = M 3 ∧ b = F u.toNat ∧ (b ≠ -2 → q = lqS (stAt S Ps m) b (nN N))) (2 ^ nN N) (by omega) ⟨by omega, by omega, by omega, g1, g2, F0.symm, fun z => absurd rfl z⟩ ?_
        rintro n b q u0 M2 ⟨c1, c2, c3, c4, c5, c6, c7⟩
        dsimp only
        unfold lb141_51
        rw [c4.m3, bL (by omega) (by omega), Int.toNat_natCast]
        refine wp_ite (fun e => ?_) (fun e => wp_o (wp_some ⟨?_, c4.G⟩))
        · obtain ⟨u, rfl⟩ := Int.eq_ofNat_of_zero_le c1
          rw [Int.toNat_natCast] at c6
          obtain ⟨_, _, _, sm1⟩ := stat_V c4 hm
          have zb : stZ (nwS S) m ≤ 36000 := by unfold stZ; split <;> omega
          unfold f141_68
          refine wp_lp2 (fun n2 a y => 0 ≤ y ∧ y ≤ nN N ∧ (n2 : Int) = nN N - y ∧ a = lqS (stAt S Ps m) u y.toNat) (nN N) (by omega) ⟨by omega, by omega, by omega, rfl⟩ ?_
          rintro n2 a y ⟨d1, d2, d3, d4⟩
          dsimp only
          unfold lb141_68
          rw [c4.m3]
          refine wp_ite (fun e2 => ?_) (fun e2 => wp_o ?_)
          · obtain ⟨s, rfl⟩ := Int.eq_ofNat_of_zero_le d1
            rw [Int.toNat_natCast] at d4
            have b1 := lqS_b (x := u) sV1 s (by omega)
            have es : lqS (stAt S Ps m) u (s + 1) = lqS (stAt S Ps m) u s + (if tb (u : Int) s then (if (stAt S Ps m) 4 s = 1 then 0 else (stAt S Ps m) 3 s) else 0) := rfl
            refine wp_bind (w118 (by omega) (by omega) (by omega) (by omega) ?_)
            rw [Int.toNat_natCast]
            cases hq : tb (u : Int) s
            · refine wp_pos rfl (wp_gd (by omega) (wp_gd (by omega) (wp_i2 (n2 - 1) (by omega) ⟨by omega, by omega, by omega, ?_⟩)))
              rw [show ((s : Int) + 1).toNat = s + 1 by omega, es, hq, d4]
              rfl
            · refine wp_neg (show ¬ (1 : Int) = 0 by decide) (wp_bind ?_)
              rw [hq, if_pos rfl] at es
              unfold f145
              have t1 : ((stZ (nwS S) m : Nat) + 51 + (s : Int)).toNat = stZ (nwS S) m + 51 + s := by omega
              have t2 : ((stZ (nwS S) m : Nat) + 59 + (s : Int)).toNat = stZ (nwS S) m + 59 + s := by omega
              have i4 := (sm1.2.1 s (by omega)).2
              have i3 := (sm1.2.1 s (by omega)).1
              have v3 := sV1.2.1 s (by omega)
              rw [t1, t2, i4, i3]
              refine wp_gd (by omega) (wp_gd (by omega) (wp_gd (by omega) (wp_ite (fun z => wp_some ?_) (fun z => wp_gd (by omega) (wp_gd (by omega) (wp_gd (by omega) (wp_some ?_)))))))
              · rw [if_pos z] at es
                refine wp_gd (by omega) (wp_gd (by omega) (wp_i2 (n2 - 1) (by omega) ⟨by omega, by omega, by omega, ?_⟩))
                rw [show ((s : Int) + 1).toNat = s + 1 by omega, es, d4]
              · rw [if_neg z] at es
                refine wp_gd (by omega) (wp_gd (by omega) (wp_i2 (n2 - 1) (by omega) ⟨by omega, by omega, by omega, ?_⟩))
                rw [show ((s : Int) + 1).toNat = s + 1 by omega, es, d4]
          · rw [show y.toNat = nN N by omega] at d4
            have fu := Fb u
            -- not tried
            have skip : ¬ btr (stAt S Ps m) (nN N) u (F u) → Wp (f141_163 x1 x2 (stZ (nwS S) m : Nat) b q u M2) (Sum.elim (up4 (fun n b q u M2 => 0 ≤ u ∧ u ≤ (2 ^ nN N : Nat) ∧ (n : Int) = (2 ^ nN N : Nat) - u ∧ IV N S Ps l M2 ∧ M2 3 = M 3 ∧ b = F u.toNat ∧ (b ≠ -2 → q = lqS (stAt S Ps m) b (nN N))) n) (fun r => r.1 = F (2 ^ nN N) ∧ GI r.2)) := fun z => by
              unfold f141_163
              refine wp_gd (by omega) (wp_i4 (n - 1) (by omega) ⟨by omega, by omega, by omega, c4, c5, ?_, c7⟩)
              rw [show ((u : Int) + 1).toNat = u + 1 by omega, (Fs u).2 (fun zz => z zz.2)]
              exact c6
            have try1 : btr (stAt S Ps m) (nN N) u (F u) → Wp (f141_141 x1 x2 (stZ (nwS S) m : Nat) b q u a M2) (Sum.elim (up4 (fun n b q u M2 => 0 ≤ u ∧ u ≤ (2 ^ nN N : Nat) ∧ (n : Int) = (2 ^ nN N : Nat) - u ∧ IV N S Ps l M2 ∧ M2 3 = M 3 ∧ b = F u.toNat ∧ (b ≠ -2 → q = lqS (stAt S Ps m) b (nN N))) n) (fun r => r.1 = F (2 ^ nN N) ∧ GI r.2)) := fun z => by
              unfold f141_141
              rw [hm1]
              refine wp_obnd (wpW (w125 (x := u) c4 hm (by omega) e h3) (fun r2 hr2 => ?_))
              obtain ⟨v2, M3⟩ := r2
              obtain ⟨k1, k2, k3⟩ := hr2
              dsimp only at k1 k2 k3 ⊢
              rw [c5] at k1
              unfold f141_163
              refine wp_ite (fun e3 => wp_gd (by omega) (wp_i4 (n - 1) (by omega) ⟨by omega, by omega, by omega, k2, k3.trans c5, ?_, c7⟩)) (fun e3 => wp_gd (by omega) (wp_i4 (n - 1) (by omega) ⟨by omega, by omega, by omega, k2, k3.trans c5, ?_, fun _ => d4⟩))
              · rw [show ((u : Int) + 1).toNat = u + 1 by omega, (Fs u).2 (fun zz => zz.1 (k1.symm.trans e3))]
                exact c6
              · rw [show ((u : Int) + 1).toNat = u + 1 by omega, (Fs u).1 ⟨fun zz => e3 (k1.trans zz), z⟩]
            refine wp_ite (fun e3 => try1 (Or.inl (by omega))) (fun e3 => ?_)
            have c7' := c7 (by omega)
            have bF : b = F u := c6
            rw [bF] at c7'
            unfold btr at skip try1
            refine wp_ite (fun e4 => skip (by omega)) (fun e4 => wp_ite (fun e5 => ?_) (fun e5 => try1 (Or.inr (Or.inl (by omega)))))
            refine wp_bind (w169 (by omega) (by omega) (wp_bind (w169 (by omega) (by omega) ?_)))
            rw [bF]
            rw [bF] at skip try1
            exact wp_ite (fun e6 => try1 (Or.inr (Or.inr ⟨by omega, e6⟩))) (fun e6 => skip (by omega))
        · rw [c6, show u0.toNat = 2 ^ nN N by omega]
      unfold stZ at go
      by_cases e : m = nwS S
      · rw [if_pos e] at go
        exact wp_pos (by omega) go
      · rw [if_neg e] at go
        refine wp_neg (by omega) (wp_gd (by omega) ?_)
        rw [show 72 * x1 = ((72 * m : Nat) : Int) by omega]
        exact go
    unfold f61 f61_12
    let I : Nat → Int → Int → Int → Int → Mm → Prop := fun n b q pc u M2 => 0 ≤ u ∧ u ≤ (2 ^ nN N : Nat) ∧ (n : Int) = (2 ^ nN N : Nat) - u ∧ IV N S Ps l M2 ∧ M2 3 = M 3 ∧ b = F u.toNat ∧ (b ≠ -2 → q = lqS (stAt S Ps m) b (nN N) ∧ pc = popc b 14)
    refine wp_lp5 I (2 ^ nN N) (by omega) ⟨by omega, by omega, by omega, h, rfl, F0.symm, fun z => absurd rfl z⟩ ?_
    rintro n b q pc u0 M2 ⟨c1, c2, c3, c4, c5, c6, c7⟩
    dsimp only
    unfold lb61_12
    rw [c4.e30, bL (by omega) (by omega), Int.toNat_natCast]
    refine wp_ite (fun e => ?_) (fun e => wp_o (wp_some (wp_some ?_)))
    · obtain ⟨u, rfl⟩ := Int.eq_ofNat_of_zero_le c1
      rw [Int.toNat_natCast] at c6
      obtain ⟨_, _, sc1, _⟩ := stat_V c4 hm
      have sd := sc1.2.2.1
      have bn := bN_lt (x := (u : Int)) (y := M2 (stAd (nwS S) m) 1) (by omega) (by omega) sd.1 (by omega)
      have tn : ∀ s, tb (bAnd (u : Int) (bXor (M2 (stAd (nwS S) m) 1) (-1))) s = (tb (u : Int) s && !tb (M2 (stAd (nwS S) m) 1) s) := fun s => tb_not (by omega) (by omega) sd.1 (by omega)
      have bn2 : bAnd (u : Int) (bXor (M2 (stAd (nwS S) m) 1) (-1)) < (2 ^ nN N : Nat) := tb_lt bn.1 (fun s hs => by rw [tn, tb_ge (by omega) e hs, Bool.false_and])
      refine wp_bind (w244 h.1.1 sV1 sc1.2.1 bn.1 bn2 (wp_bind (w1 (by omega) (by omega) ?_)))
      have eq : sm (fun s => if tb (bAnd (u : Int) (bXor (M2 (stAd (nwS S) m) 1) (-1))) s then (stAt S Ps m) 3 s else 0) (nN N) = lqS (stAt S Ps m) u (nN N) := sm_congr (fun s hs => by
        have z := sd.2.2 s
        rw [tn]
        cases q1 : tb (u : Int) s
        · rfl
        · cases q2 : tb (M2 (stAd (nwS S) m) 1) s
          · rw [q2] at z
            rw [if_pos (by decide), if_pos rfl, if_neg (by rw [z]; decide)]
          · rw [q2] at z
            rw [if_neg (by decide), if_pos rfl, if_pos (by rw [z]; rfl)])
      rw [eq]
      have fu := Fb u
      have skip : ¬ btr (stAt S Ps m) (nN N) u (F u) → Wp (f61_109 (stAd (nwS S) m) x2 b q pc u M2) (Sum.elim (up5 I n) (fun r => Wp (some (r.1, r.2)) (fun r => JJ r.1 (f141 x1 x2 r.2)))) := fun z => by
        unfold f61_109
        refine wp_gd (by omega) (wp_i5 (n - 1) (by omega) ⟨by omega, by omega, by omega, c4, c5, ?_, c7⟩)
        rw [show ((u : Int) + 1).toNat = u + 1 by omega, (Fs u).2 (fun zz => z zz.2)]
        exact c6
      have try1 : btr (stAt S Ps m) (nN N) u (F u) → Wp (f61_87 (stAd (nwS S) m) x2 b q pc u (lqS (stAt S Ps m) u (nN N)) (popc u 14) M2) (Sum.elim (up5 I n) (fun r => Wp (some (r.1, r.2)) (fun r => JJ r.1 (f141 x1 x2 r.2)))) := fun z => by
        unfold f61_87
        refine wp_obnd (wpW (w54 (x := u) c4 hm (by omega) e h3) (fun r2 hr2 => ?_))
        obtain ⟨v2, M3⟩ := r2
        obtain ⟨k1, k2, k3⟩ := hr2
        dsimp only at k1 k2 k3 ⊢
        rw [c5] at k1
        unfold f61_98 f61_109
        refine wp_ite (fun e3 => wp_gd (by omega) (wp_i5 (n - 1) (by omega) ⟨by omega, by omega, by omega, k2, k3.trans c5, ?_, c7⟩)) (fun e3 => wp_gd (by omega) (wp_i5 (n - 1) (by omega) ⟨by omega, by omega, by omega, k2, k3.trans c5, ?_, fun _ => ⟨rfl, rfl⟩⟩))
        · rw [show ((u : Int) + 1).toNat = u + 1 by omega, (Fs u).2 (fun zz => zz.1 (k1.symm.trans e3))]
          exact c6
        · rw [show ((u : Int) + 1).toNat = u + 1 by omega, (Fs u).1 ⟨fun zz => e3 (k1.trans zz), z⟩]
      refine wp_ite (fun e3 => try1 (Or.inl (by omega))) (fun e3 => ?_)
      have c7' := c7 (by omega)
      have bF : b = F u := c6
      rw [bF] at c7'
      unfold btr at skip try1
      refine wp_ite (fun e4 => try1 (Or.inr (Or.inl (by omega)))) (fun e4 => wp_ite (fun e5 => wp_ite (fun e6 => try1 (Or.inr (Or.inr ⟨by omega, by omega⟩))) (fun e6 => skip (by omega))) (fun e5 => skip (by omega)))
    · show JJ b (f141 x1 x2 M2)
      rw [c6, show u0.toNat = 2 ^ nN N by omega]
      exact model M2 c4 c5
  · rw [if_neg h3]
    refine wp_pos rfl (wp_some ?_)
    show JJ (-1) (f141 x1 x2 M)
    unfold f141
    refine wp_bind (w143 ?_)
    rw [h.now.2.1, if_pos hx1]
    refine wp_neg (by decide) (wp_bind (w127 ?_))
    rw [if_neg h3]
    exact wp_pos rfl (wp_some ⟨rfl, h.G⟩)
end LEAST
