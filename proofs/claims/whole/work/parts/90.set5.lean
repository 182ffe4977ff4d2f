section SET5
variable {N S M M2 : Mm} {Ps : Nat → Mm} {l : List (Bool × Sem)}
theorem c66 {x1 : Int} (h : IV N S Ps l M) : Wp (f66 x1 M) (fun r => JJ r.1 (f158 x1 r.2)) := by
  obtain ⟨z, t1, t2, t3, t4⟩ := h.2.2.2.2.2.2.2
  obtain ⟨t, d, hT⟩ := h.2.2.1
  obtain ⟨g1, g2, g3, g4, g5, g6, g7, g8⟩ := id hT
  unfold f66
  refine wp_bind (w80 ?_)
  by_cases h1 : 1 ≤ x1 ∧ x1 ≤ 160
  · rw [if_pos h1]
    refine wp_neg (by decide) ?_
    rw [t1]
    by_cases h2 : (z : Int) < x1
    · refine wp_pos h2 (wp_some ?_)
      show JJ (-1) (f158 x1 M)
      unfold f158
      refine wp_bind (w143 ?_)
      rw [if_pos h1]
      exact wp_neg (by decide) (wp_pos (by rw [t2]; exact h2) (jj h.G))
    · obtain ⟨n, rfl⟩ := Int.eq_ofNat_of_zero_le (show 0 ≤ x1 by omega)
      refine wp_neg h2 (wp_mlet ?_)
      have m0 : ∀ b, b ≠ 132 → ms M 132 0 0 b = M b := fun b hb => ms_a hb
      rw [m0 2 (by decide), g3, Int.toNat_natCast]
      have hd : isTx d := by rcases g1 with g1 | g1 <;> rw [g1.2] <;> decide
      have ht : isTx t := by rcases g1 with g1 | g1 <;> rw [g1.1] <;> decide
      have e133 : ms M 132 0 0 133 = M 133 := m0 133 (by decide)
      have hle : ∀ e, clsL (M 133) n 13 0 [] = .inl e → e < 0 := fun e he => by
        have := (ok_clsL (B := M 133) (show n ≤ 160 by omega) 13 0 [] (Nat.zero_le _) rfl (by decide) (fun x hx => by cases hx)).1 e he
        omega
      have hmod : ∀ M1 : Mm, M1 142 = M 142 → M1 143 = M 143 → (∀ e M2, clsL (M 133) n 13 0 [] = .inl e → frW M1 M2 → (∀ b, 167 ≤ b → b ≤ 171 → M2 b = M1 b) → M2 142 6 = M1 142 6 → M2 142 1 = 0 → M2 142 52 = 0 → GI M2) → (∀ l2 M2, clsL (M 133) n 13 0 [] = .inr l2 → frW M1 M2 → txW l2 M2 → M2 142 1 = 0 → M2 142 52 = 0 → GI M2) → ∀ v : Int, (∀ e, clsL (M 133) n 13 0 [] = .inl e → e = v) → (∀ l2, clsL (M 133) n 13 0 [] = .inr l2 → (l2.length : Int) = v) → JJ v (f158 (n : Int) M1) := fun M1 q1 q2 kE kO v vE vO =>
        w158 (B := M 133) (by omega) (by omega) (by rw [q1, t2]; omega) (fun i hi => by rw [q2]; exact (t4 i (by omega)).1) (fun i hi => (t4 i (by omega)).2) (by rw [q1]; exact g8) (fun e M2 a1 a2 a3 a4 a5 a6 => ⟨vE e a1, kE e M2 a1 a2 a3 a4 a5 a6⟩) (fun l2 M2 a1 a2 a3 a4 a5 => ⟨vO l2 a1, kO l2 M2 a1 a2 a3 a4 a5⟩)
      have h5 : ms M 132 0 0 d 5 = 0 ∨ ms M 132 0 0 d 5 = 1 := by
        rw [m0 d (by omega)]
        exact g5
      refine wp_gd hd (wp_obnd (w25 hd (by omega) (by omega) h5 (fun e M2 a1 a2 a3 => ?_) (fun l2 M2 a1 a2 a3 a4 => ?_)))
      · rw [e133] at a1
        have hneg := hle e a1
        have fr : ∀ b, (b < d ∨ d + 5 < b) → b ≠ 132 → M2 b = M b := fun b q1 q2 => (a2 b q1).trans (m0 b q2)
        refine wp_neg (by show ¬ 0 < e; omega) (wp_some ?_)
        show JJ e (f158 (n : Int) M2)
        refine hmod M2 (fr 142 (by omega) (by decide)) (fr 143 (by omega) (by decide)) (fun e2 M3 b1 b2 b3 b4 b5 b6 => ?_) (fun l3 M3 b1 => by rw [a1] at b1; cases b1) e (fun e2 he => by rw [a1] at he; injection he with he; exact he.symm) (fun l3 he => by rw [a1] at he; cases he)
        have f3 : ∀ b, (b < d ∨ d + 5 < b) → b ≠ 132 → b ≠ 142 → (b < 172 ∨ 177 < b) → M3 b = M b := fun b q1 q2 q3 q4 => by
          by_cases z : b < 167 ∨ 177 < b
          · exact (b2.1 b q3 z).trans (fr b q1 q2)
          · exact (b3 b (by omega) (by omega)).trans (fr b q1 q2)
        have f142 : ∀ j, j ≠ 1 → (j < 44 ∨ 52 < j) → M3 142 j = M 142 j := fun j q1 q2 => by
          by_cases z : j = 6
          · rw [z, b4, fr 142 (by omega) (by decide)]
          · rw [b2.2 j q1 z q2, fr 142 (by omega) (by decide)]
        refine IV.G (h.net (N2 := N) (l2 := l) ⟨⟨rfl, rfl, rfl⟩, fun _ _ _ _ => rfl⟩ (fun w hw => (h.1.1.cw w hw).2.2.2.2.2.2) (h.1.2.2.1.to (f3 3 (by omega) (by decide) (by decide) (by omega)) (fun b _ _ => f3 b (by omega) (by omega) (by omega) (by omega))) (h.1.2.2.2.1.to (f142 3 (by decide) (by decide)) (f142 4 (by decide) (by decide)) (f142 5 (by decide) (by decide)) (fun b _ _ => f3 b (by omega) (by omega) (by omega) (by omega))) (fun w q1 q2 => by rw [f3 152 (by omega) (by decide) (by decide) (by omega)]; exact h.1.2.2.2.2.2.2.1 w q1 q2) ?_ ⟨t, d, g1, ?_, ?_, ?_, ?_, ?_, ?_, b6⟩ ⟨0, ?_, b5, by decide, fun i hi => absurd hi (Nat.not_lt_zero _)⟩ (fun b q1 q2 q3 q4 q5 q6 q7 q8 => f3 b (by omega) (by omega) (by omega) (by omega)) (fun j q1 q2 q3 => f142 j (by omega) (by omega)) (fun a q1 q2 => by rw [f3 144 (by omega) (by decide) (by decide) (by omega)]))
        · rw [f3 3 (by omega) (by decide) (by decide) (by omega), f3 144 (by omega) (by decide) (by decide) (by omega)]
          exact h.1.2.2.2.2.2.2.2.2
        · rw [f3 3 (by omega) (by decide) (by decide) (by omega)]
          exact g2
        · rw [f3 2 (by omega) (by decide) (by decide) (by omega)]
          exact g3
        · exact g4.to (fun b _ _ => f3 b (by omega) (by omega) (by omega) (by omega))
        · rw [b2.1 d (by omega) (by omega)]
          exact a3
        · rw [f3 t (by omega) (by omega) (by omega) (by omega)]
          exact g6
        · exact g7.to (f142 6 (by decide) (by decide)) (fun b _ _ => f3 b (by omega) (by omega) (by omega) (by omega))
        · rw [b2.1 132 (by decide) (by decide), a2 132 (by omega), ms_v]
          rfl
      · rw [e133] at a1
        have hpos := cls_pos (B := M 133) (show n ≤ 160 by omega) 13 0 [] l2 a1
        rw [List.length_nil] at hpos
        have fr : ∀ b, (b < d ∨ d + 5 < b) → b ≠ 132 → M2 b = M b := fun b q1 q2 => (a2 b q1).trans (m0 b q2)
        refine wp_pos (by show 0 < (l2.length : Int); omega) ?_
        show Wp (gd (isTx (M2 3 4).toNat) (gd (isTx (M2 2 13).toNat) (mlet (ms M2 3 4 ((((M2 2 13).toNat) : Nat) : Int)) fun M16 => mlet (ms M16 2 13 ((((M2 3 4).toNat) : Nat) : Int)) fun M18 => some ((l2.length : Int), M18)))) _
        rw [fr 3 (by omega) (by decide), fr 2 (by omega) (by decide), g2, g3, Int.toNat_natCast, Int.toNat_natCast]
        refine wp_gd ht (wp_gd hd (wp_mlet (wp_mlet (wp_some ?_))))
        show JJ (l2.length : Int) (f158 (n : Int) (ms (ms M2 3 4 (d : Int)) 2 13 (t : Int)))
        have e1 : ∀ b, b ≠ 2 → b ≠ 3 → ms (ms M2 3 4 (d : Int)) 2 13 (t : Int) b = M2 b := fun b q1 q2 => by rw [ms_a q1, ms_a q2]
        have e3 : ms (ms M2 3 4 (d : Int)) 2 13 (t : Int) 3 = ms M 3 4 (d : Int) 3 := by
          rw [ms_a (by decide)]
          funext j
          unfold ms
          rw [fr 3 (by omega) (by decide)]
        have e2 : ms (ms M2 3 4 (d : Int)) 2 13 (t : Int) 2 13 = t := ms_v
        generalize ms (ms M2 3 4 (d : Int)) 2 13 (t : Int) = M3 at e1 e2 e3 ⊢
        have fr3 : ∀ b, (b < d ∨ d + 5 < b) → b ≠ 132 → b ≠ 2 → b ≠ 3 → M3 b = M b := fun b q1 q2 q3 q4 => (e1 b q3 q4).trans (fr b q1 q2)
        refine hmod M3 (fr3 142 (by omega) (by decide) (by decide) (by decide)) (fr3 143 (by omega) (by decide) (by decide) (by decide)) (fun e2 M4 b1 => by rw [a1] at b1; cases b1) (fun l3 M4 b1 b2 b3 b4 b5 => ?_) _ (fun e2 he => by rw [a1] at he; cases he) (fun l3 he => by rw [a1] at he; injection he with he; rw [he])
        have hl : l3 = l2 := by
          rw [a1] at b1
          injection b1 with b1
          exact b1.symm
        subst hl
        have f4 : ∀ b, (b < d ∨ d + 5 < b) → b ≠ 132 → b ≠ 2 → b ≠ 3 → b ≠ 142 → (b < 167 ∨ 177 < b) → M4 b = M b := fun b q1 q2 q3 q4 q5 q6 => (b2.1 b q5 q6).trans (fr3 b q1 q2 q3 q4)
        have f142 : ∀ j, j ≠ 1 → j ≠ 6 → (j < 44 ∨ 52 < j) → M4 142 j = M 142 j := fun j q1 q2 q3 => by rw [b2.2 j q1 q2 q3, fr3 142 (by omega) (by decide) (by decide) (by decide)]
        have f3 : M4 3 = ms M 3 4 (d : Int) 3 := (b2.1 3 (by decide) (by decide)).trans e3
        have f2 : M4 2 13 = t := by rw [b2.1 2 (by decide) (by decide)]; exact e2
        refine IV.G (h.net (N2 := ms N 3 4 (d : Int)) (l2 := l3) ⟨⟨ms_i (by decide), ms_i (by decide), ms_i (by decide)⟩, fun b q1 q2 q3 => ms_a (by omega)⟩ (fun w hw => by rw [ms_a (by decide)]; exact (h.1.1.cw w hw).2.2.2.2.2.2) ?_ ?_ (fun w q1 q2 => by rw [f4 152 (by omega) (by decide) (by decide) (by decide) (by decide) (by decide)]; exact h.1.2.2.2.2.2.2.1 w q1 q2) ?_ ⟨d, t, by omega, by rw [f3, ms_v], f2, ?_, ?_, ?_, b3, b5⟩ ⟨0, ?_, b4, by decide, fun i hi => absurd hi (Nat.not_lt_zero _)⟩ (fun b q1 q2 q3 q4 q5 q6 q7 q8 => f4 b (by omega) (by omega) q1 q2 (by omega) (by omega)) (fun j q1 q2 q3 => f142 j (by omega) q3 (by omega)) (fun a q1 q2 => by rw [f4 144 (by omega) (by decide) (by decide) (by decide) (by decide) (by decide)]))
        · refine ⟨?_, fun b q1 q2 => by rw [ms_a (by omega), f4 b (by omega) (by omega) (by omega) (by omega) (by omega) (by omega)]; exact h.1.2.2.1.2 b q1 q2⟩
          rw [f3]
          funext j
          unfold ms
          rw [h.1.2.2.1.1]
        · have hM := h.1.2.2.2.1.to (M2 := M4) (f142 3 (by decide) (by decide) (by decide)) (f142 4 (by decide) (by decide) (by decide)) (f142 5 (by decide) (by decide) (by decide)) (fun b _ _ => f4 b (by omega) (by omega) (by omega) (by omega) (by omega) (by omega))
          unfold nMd nN nW nK at hM ⊢
          rw [ms_i (by decide : (0 : Nat) ≠ 4), ms_i (by decide : (1 : Nat) ≠ 4), ms_i (by decide : (2 : Nat) ≠ 4)]
          repeat rw [ms_a (by decide)]
          exact hM
        · rw [f3, ms_i (by decide), f4 144 (by omega) (by decide) (by decide) (by decide) (by decide) (by decide)]
          exact h.1.2.2.2.2.2.2.2.2
        · exact a4.to (fun b _ _ => by rw [b2.1 b (by omega) (by omega), e1 b (by omega) (by omega)])
        · rw [f4 t (by omega) (by omega) (by omega) (by omega) (by omega) (by omega)]
          exact g6
        · rw [b2.1 d (by omega) (by omega), e1 d (by omega) (by omega)]
          exact a3
        · rw [b2.1 132 (by decide) (by decide), e1 132 (by decide) (by decide), a2 132 (by omega), ms_v]
          rfl
  · rw [if_neg h1]
    refine wp_pos rfl (wp_some ?_)
    show JJ (-1) (f158 x1 M)
    unfold f158
    refine wp_bind (w143 ?_)
    rw [if_neg h1]
    exact wp_pos rfl (jj h.G)
/-! The check. -/
def nmB (g : Nat → Int) (k : Nat) : Int := bOr (bShl (bOr (bShl (bOr (bShl (bOr (bShl 0 8) (g (4 * k))) 8) (g (4 * k + 1))) 8) (g (4 * k + 2))) 8) (g (4 * k + 3))
theorem w249 {k : Nat} {g : Nat → Int} {P : Int → Prop} (hk : 4 * k + 4 ≤ 200) (hg : ∀ i, i < 4 * k + 4 → M 133 i = g i) (kk : P (nmB g k)) : Wp (f249 (k : Int) M) P := by
  unfold f249 f249_6
  refine wp_gd (by omega) ?_
  have st : ∀ (j : Nat) (x : Int), j < 4 → ∀ {m : Nat}, Wp (iter (fun s : Int × Int => lb249_6 (k : Int) s.1 s.2 M) m (bOr (bShl x 8) (g (4 * k + j)), 4 * (k : Int) + (j : Int) + 1)) P → Wp (iter (fun s : Int × Int => lb249_6 (k : Int) s.1 s.2 M) (m + 1) (x, 4 * (k : Int) + (j : Int))) P := fun j x hj m hw => by
    refine it_step ?_
    try dsimp only
    unfold lb249_6
    refine wp_gd (by omega) (wp_gd (by omega) (wp_pos (by omega) (wp_neg (by omega) (wp_pos (by omega) (wp_gd (by omega) (wp_gd (by omega) (wp_some ?_)))))))
    rw [show (4 * (k : Int) + (j : Int)).toNat = 4 * k + j by omega, hg _ (by omega)]
    exact hw
  refine it_lp (k := 5) (by decide) ?_
  have e0 : (4 * (k : Int)) = 4 * (k : Int) + ((0 : Nat) : Int) := by omega
  rw [e0]
  refine st 0 0 (by decide) ?_
  rw [show 4 * (k : Int) + ((0 : Nat) : Int) + 1 = 4 * (k : Int) + ((1 : Nat) : Int) by omega]
  refine st 1 _ (by decide) ?_
  rw [show 4 * (k : Int) + ((1 : Nat) : Int) + 1 = 4 * (k : Int) + ((2 : Nat) : Int) by omega]
  refine st 2 _ (by decide) ?_
  rw [show 4 * (k : Int) + ((2 : Nat) : Int) + 1 = 4 * (k : Int) + ((3 : Nat) : Int) by omega]
  refine st 3 _ (by decide) ?_
  refine it_step (k := 0) ?_
  try dsimp only
  unfold lb249_6
  exact wp_gd (by omega) (wp_gd (by omega) (wp_neg (by omega) (wp_o (wp_some kk))))
theorem w149 {k : Nat} {g : Nat → Int} {P : Int → Prop} (hk : 4 * k + 4 ≤ 200) (hg : ∀ i, i < 4 * k + 4 → bAnd (M 143 i) 255 = g i) (kk : P (nmB g k)) : Wp (f149 (k : Int) M) P := by
  unfold f149 f149_4
  have st : ∀ (j : Nat) (x : Int), j < 4 → ∀ {m : Nat}, Wp (iter (fun s : Int × Int => lb149_4 (k : Int) s.1 s.2 M) m (bOr (bShl x 8) (g (4 * k + j)), (j : Int) + 1)) P → Wp (iter (fun s : Int × Int => lb149_4 (k : Int) s.1 s.2 M) (m + 1) (x, (j : Int))) P := fun j x hj m hw => by
    refine it_step ?_
    try dsimp only
    unfold lb149_4
    refine wp_pos (by omega) (wp_gd (by omega) (wp_gd (by omega) (wp_gd (by omega) (wp_gd (by omega) (wp_some ?_)))))
    rw [show (4 * (k : Int) + (j : Int)).toNat = 4 * k + j by omega, hg _ (by omega)]
    exact hw
  refine it_lp (k := 5) (by decide) ?_
  refine st 0 0 (by decide) ?_
  refine st 1 _ (by decide) ?_
  refine st 2 _ (by decide) ?_
  refine st 3 _ (by decide) ?_
  refine it_step (k := 0) ?_
  try dsimp only
  unfold lb149_4
  exact wp_neg (by decide) (wp_o (wp_some kk))
/-- what should stand at a place -/
def shC (S : Mm) (p : Nat) : Int := if p % 3 = 0 then ((p / 3 : Nat) : Int) else if p % 3 = 1 then S 0 (p / 3) else S 1 (p / 3)
def okP (g : Nat → Int) (S : Mm) (p : Nat) : Prop := nmB g p = shC S p
def rsP (g : Nat → Int) (S : Mm) (n w : Nat) (v : Int) : Prop := (∃ p, p < 3 * min n w ∧ (∀ q, q < p → okP g S q) ∧ ¬ okP g S p ∧ v = p) ∨ ((∀ q, q < 3 * min n w → okP g S q) ∧ v = if n = w then -1 else ((3 * min n w : Nat) : Int))
theorem rsP_u {g : Nat → Int} {n w : Nat} {v v2 : Int} (h : rsP g S n w v) (h2 : rsP g S n w v2) : v = v2 := by
  rcases h with ⟨p, a1, a2, a3, a4⟩ | ⟨a1, a2⟩ <;> rcases h2 with ⟨p2, b1, b2, b3, b4⟩ | ⟨b1, b2⟩
  · rcases Nat.lt_trichotomy p p2 with q | q | q
    · exact (a3 (b2 p q)).elim
    · rw [a4, b4, q]
    · exact (b3 (a2 p2 q)).elim
  · exact (a3 (b1 p a1)).elim
  · exact (b3 (a1 p2 b1)).elim
  · rw [a2, b2]
theorem w58 {p nw : Nat} {g : Nat → Int} {Q : Int → Prop} (h31 : M 3 1 = nw) (h14 : nw ≤ 14) (hk : 4 * p + 4 ≤ 200) (hg : ∀ i, i < 4 * p + 4 → M 133 i = g i) (h26 : ∀ w, w < 14 → M 26 w = S 0 w) (h27 : ∀ w, w < 14 → M 27 w = S 1 w)
    (k1 : p / 3 < nw → okP g S p → Q 1) (k0 : (p / 3 < nw → ¬ okP g S p) → Q 0) : Wp (f58 (p : Int) M) Q := by
  have td : Int.tdiv (p : Int) 3 = ((p / 3 : Nat) : Int) := rfl
  have tm : Int.tmod (p : Int) 3 = ((p % 3 : Nat) : Int) := rfl
  unfold f58
  rw [td, tm]
  refine wp_gd (by omega) (wp_bind (w215 h31 ?_))
  by_cases d : p / 3 < nw
  · rw [if_pos (show 0 ≤ ((p / 3 : Nat) : Int) ∧ ((p / 3 : Nat) : Int) < (nw : Int) by omega)]
    refine wp_neg (by decide) (wp_bind (w249 hk hg (wp_gd (by omega) ?_)))
    have ans : ∀ v : Int, v = shC S p → Wp (if nmB g p = v then some (1 : Int) else some 0) Q := fun v hv => by
      rw [hv]
      exact wp_ite (fun q => wp_some (k1 d q)) (fun q => wp_some (k0 (fun _ z => q z)))
    unfold shC at ans
    refine wp_ite (fun q => ans _ ?_) (fun q => wp_ite (fun q2 => ?_) (fun q2 => ?_))
    · rw [if_pos (by omega)]
    · rw [Int.toNat_natCast, h26 _ (by omega)]
      exact wp_gd (by omega) (ans _ (by rw [if_neg (by omega), if_pos (by omega)]))
    · rw [Int.toNat_natCast, h27 _ (by omega)]
      exact wp_gd (by omega) (ans _ (by rw [if_neg (by omega), if_neg (by omega)]))
  · rw [if_neg (show ¬ (0 ≤ ((p / 3 : Nat) : Int) ∧ ((p / 3 : Nat) : Int) < (nw : Int)) by omega)]
    exact wp_pos rfl (wp_some (k0 (fun z => (d z).elim)))
theorem c35 {x1 : Int} (h : IV N S Ps l M) : Wp (f35 x1 M) (fun r => JJ r.1 (f90 x1 r.2)) := by
  have h14 := h.1.1.w14
  obtain ⟨z, t1, t2, t3, t4⟩ := h.2.2.2.2.2.2.2
  have tdz : Int.tdiv (z : Int) 12 = ((z / 12 : Nat) : Int) := rfl
  have ref : (x1 < 0 ∨ (z : Int) < x1 * 12) → JJ (-2) (f90 x1 M) := fun q => by
    unfold f90
    rw [t2, tdz]
    exact wp_ite (fun _ => jj h.G) (fun d => wp_gd (by omega) (wp_pos (by omega) (jj h.G)))
  unfold f35
  refine wp_bind (w80 ?_)
  by_cases h1 : 0 ≤ x1 ∧ x1 ≤ 200
  · rw [if_pos h1]
    obtain ⟨n, rfl⟩ := Int.eq_ofNat_of_zero_le h1.1
    refine wp_neg (by decide) (wp_gd (by omega) ?_)
    rw [t1]
    by_cases h2 : (z : Int) < (n : Int) * 12
    · exact wp_pos h2 (wp_some (ref (Or.inr h2)))
    · refine wp_neg h2 (wp_mlet ?_)
      have e26 : ∀ w, w < 14 → M 26 w = S 0 w := fun w hw => (h.1.2.2.2.2.1.1 w hw).1
      have e27 : ∀ w, w < 14 → M 27 w = S 1 w := fun w hw => (h.1.2.2.2.2.1.1 w hw).2.1
      -- the second object
      have mod : ∀ v : Int, rsP (M 133) S n (nW N) v → JJ v (f90 (n : Int) (ms M 132 0 0)) := fun v hv => by
        have iv : GI (ms (ms M 132 0 0) 142 1 0) := IV.G (h.tap (fun b q1 q2 q3 q4 => by rw [ms_a q3, ms_a q1]) (fun j hj => by rw [ms_i hj, ms_a (by decide)]) ⟨0, by rw [ms_a (by decide), ms_v]; rfl, by rw [ms_v]; rfl, by decide, fun i hi => absurd hi (Nat.not_lt_zero _)⟩)
        unfold f90
        rw [ms_a (by decide : (142 : Nat) ≠ 132), t2, tdz]
        refine wp_neg (by omega) (wp_gd (by omega) (wp_neg (by omega) (wp_mlet ?_)))
        have m4 : ms (ms M 132 0 0) 142 1 0 142 4 = nW N := by rw [ms_i (by decide), ms_a (by decide)]; exact h.m4
        have m143 : ∀ i, i < z → bAnd (ms (ms M 132 0 0) 142 1 0 143 i) 255 = M 133 i := fun i hi => by rw [ms_a (by decide), ms_a (by decide)]; exact (t4 i hi).1
        have m0 : ∀ w, w < 14 → ms (ms M 132 0 0) 142 1 0 144 (36000 + w) = S 0 w := fun w hw => by rw [ms_a (by decide), ms_a (by decide)]; exact (h.1.2.2.2.2.2.1.1 w hw).1
        have m1 : ∀ w, w < 14 → ms (ms M 132 0 0) 142 1 0 144 (36014 + w) = S 1 w := fun w hw => by rw [ms_a (by decide), ms_a (by decide)]; exact (h.1.2.2.2.2.2.1.1 w hw).2.1
        generalize ms (ms M 132 0 0) 142 1 0 = M2 at iv m4 m143 m0 m1 ⊢
        have fin : ∀ u : Int, rsP (M 133) S n (nW N) u → Wp (some (u, M2)) (fun r => r.1 = v ∧ GI r.2) := fun u hu => wp_some ⟨rsP_u hu hv, iv⟩
        unfold f90_25
        let I : Nat → Int → Prop := fun m y => ∃ w : Nat, y = w ∧ w ≤ nW N ∧ w ≤ n ∧ m = nW N - w ∧ ∀ q, q < 3 * w → okP (M 133) S q
        refine wp_lp1 I (nW N) (by omega) ⟨0, rfl, Nat.zero_le _, Nat.zero_le _, rfl, fun q hq => by omega⟩ ?_
        rintro m y ⟨w, rfl, a1, a2, a3, a4⟩
        try dsimp only
        unfold lb90_25
        rw [m4]
        refine wp_ite (fun d => ?_) (fun d => ?_)
        · refine wp_ite (fun d2 => wp_o (wp_gd (by omega) (fin _ (Or.inr ⟨fun q hq => a4 q (by omega), by rw [if_neg (by omega)]; omega⟩)))) (fun d2 => wp_gd (by omega) ?_)
          have s0 : shC S (3 * w) = w := by
            unfold shC
            rw [if_pos (by omega)]
            omega
          have s1 : shC S (3 * w + 1) = S 0 w := by
            unfold shC
            rw [if_neg (by omega), if_pos (by omega), show (3 * w + 1) / 3 = w by omega]
          have s2 : shC S (3 * w + 2) = S 1 w := by
            unfold shC
            rw [if_neg (by omega), if_neg (by omega), show (3 * w + 2) / 3 = w by omega]
          have bad : ∀ j : Nat, j < 3 → (∀ i, i < j → okP (M 133) S (3 * w + i)) → ¬ okP (M 133) S (3 * w + j) → ∀ u : Int, u = 3 * (w : Int) + j → Wp (oinr (some (u, M2))) (Sum.elim (up1 I m) (fun r => r.1 = v ∧ GI r.2)) := fun j hj q1 q2 u hu => wp_o (fin u (Or.inl ⟨3 * w + j, by omega, fun q hq => by
            by_cases z : q < 3 * w
            · exact a4 q z
            · have := q1 (q - 3 * w) (by omega)
              rw [show 3 * w + (q - 3 * w) = q by omega] at this
              exact this, q2, by omega⟩))
          rw [show (3 * (w : Int)) = ((3 * w : Nat) : Int) by omega]
          refine wp_bind (w149 (k := 3 * w) (g := M 133) (by omega) (fun i hi => m143 i (by omega)) ?_)
          refine wp_ite (fun c0 => ?_) (fun c0 => bad 0 (by decide) (fun i hi => absurd hi (Nat.not_lt_zero _)) (fun z => c0 (z.trans s0)) _ (by omega))
          have k0 : okP (M 133) S (3 * w) := c0.trans s0.symm
          refine wp_gd (by omega) ?_
          rw [show (((3 * w : Nat) : Int) + 1) = ((3 * w + 1 : Nat) : Int) by omega]
          refine wp_bind (w149 (k := 3 * w + 1) (g := M 133) (by omega) (fun i hi => m143 i (by omega)) ?_)
          refine wp_gd (by omega) (wp_gd (by omega) ?_)
          rw [show ((36000 : Int) + w).toNat = 36000 + w by omega, m0 w (by omega)]
          refine wp_ite (fun c1 => ?_) (fun c1 => bad 1 (by decide) (fun i hi => by rw [show i = 0 by omega]; exact k0) (fun z => c1 (z.trans s1)) _ (by omega))
          have k1 : okP (M 133) S (3 * w + 1) := c1.trans s1.symm
          refine wp_gd (by omega) ?_
          rw [show (((3 * w : Nat) : Int) + 2) = ((3 * w + 2 : Nat) : Int) by omega]
          refine wp_bind (w149 (k := 3 * w + 2) (g := M 133) (by omega) (fun i hi => m143 i (by omega)) ?_)
          refine wp_gd (by omega) (wp_gd (by omega) ?_)
          rw [show ((36014 : Int) + w).toNat = 36014 + w by omega, m1 w (by omega)]
          refine wp_ite (fun c2 => ?_) (fun c2 => bad 2 (by decide) (fun i hi => by
            have hi2 : i = 0 ∨ i = 1 := by omega
            rcases hi2 with rfl | rfl
            · exact k0
            · exact k1) (fun z => c2 (z.trans s2)) _ (by omega))
          have k2 : okP (M 133) S (3 * w + 2) := c2.trans s2.symm
          refine wp_gd (by omega) (wp_i1 (m - 1) (by omega) ⟨w + 1, by omega, by omega, by omega, by omega, fun q hq => ?_⟩)
          have hq3 : q < 3 * w ∨ q = 3 * w ∨ q = 3 * w + 1 ∨ q = 3 * w + 2 := by omega
          rcases hq3 with q1 | rfl | rfl | rfl
          · exact a4 q q1
          · exact k0
          · exact k1
          · exact k2
        · have hw : w = nW N := by omega
          subst hw
          refine wp_o (wp_ite (fun d2 => fin _ (Or.inr ⟨fun q hq => a4 q (by omega), by rw [if_pos (by omega)]⟩)) (fun d2 => wp_gd (by omega) (fin _ (Or.inr ⟨fun q hq => a4 q (by omega), by rw [if_neg (by omega)]; omega⟩))))
      unfold f35_38
      have f31 : ms M 132 0 0 3 1 = nW N := by rw [ms_a (by decide)]; exact h.e31
      have fin : ∀ u : Int, rsP (M 133) S n (nW N) u → Wp (some (u, ms M 132 0 0)) (fun r => JJ r.1 (f90 (n : Int) r.2)) := fun u hu => wp_some (mod u hu)
      let I : Nat → Int → Prop := fun m y => ∃ p : Nat, y = p ∧ p ≤ 3 * nW N ∧ p ≤ 3 * n ∧ m = 3 * n - p ∧ ∀ q, q < p → okP (M 133) S q
      refine wp_lp1 I (3 * n) (by omega) ⟨0, rfl, Nat.zero_le _, Nat.zero_le _, rfl, fun q hq => by omega⟩ ?_
      rintro m y ⟨p, rfl, a1, a2, a3, a4⟩
      try dsimp only
      unfold lb35_38
      refine wp_gd (by omega) (wp_ite (fun d => wp_bind (w58 (nw := nW N) (S := S) (g := M 133) f31 h14 (by omega) (fun i hi => by rw [ms_a (by decide)]) (fun w hw => by rw [ms_a (by decide)]; exact e26 w hw) (fun w hw => by rw [ms_a (by decide)]; exact e27 w hw) (fun q1 q2 => ?_) (fun q1 => ?_))) (fun d => ?_))
      · refine wp_neg (by decide) (wp_gd (by omega) (wp_i1 (m - 1) (by omega) ⟨p + 1, by omega, by omega, by omega, by omega, fun q hq => ?_⟩))
        by_cases z : q < p
        · exact a4 q z
        · rw [show q = p by omega]
          exact q2
      · refine wp_pos rfl (wp_o (fin _ ?_))
        by_cases q2 : p / 3 < nW N
        · exact Or.inl ⟨p, by omega, a4, q1 q2, rfl⟩
        · exact Or.inr ⟨fun q hq => a4 q (by omega), by rw [if_neg (by omega)]; omega⟩
      · rw [f31]
        have hp : p = 3 * n := by omega
        refine wp_o (wp_ite (fun d2 => fin _ (Or.inr ⟨fun q hq => a4 q (by omega), by rw [if_neg (by omega)]; omega⟩)) (fun d2 => fin _ (Or.inr ⟨fun q hq => a4 q (by omega), by rw [if_pos (by omega)]⟩)))
  · rw [if_neg h1]
    exact wp_pos rfl (wp_some (ref (by omega)))
end SET5
