section SET2
variable {N N2 S M M2 : Mm} {Ps : Nat → Mm} {l l2 : List (Bool × Sem)}
/-- the net told anew, but for what hangs where -/
def eqN (N N2 : Mm) : Prop := (N2 3 0 = N 3 0 ∧ N2 3 1 = N 3 1 ∧ N2 3 2 = N 3 2) ∧ ∀ b, 11 ≤ b → b ≤ 23 → b ≠ 19 → N2 b = N b
theorem eqN.qN (e : eqN N N2) : nN N2 = nN N := by unfold nN; rw [e.1.1]
theorem eqN.qW (e : eqN N N2) : nW N2 = nW N := by unfold nW; rw [e.1.2.1]
theorem eqN.qK (e : eqN N N2) : nK N2 = nK N := by unfold nK; rw [e.1.2.2]
theorem eqN.qC (e : eqN N N2) (h : NC N) (h19 : ∀ w, w < nW N → 1 ≤ N2 19 w ∧ N2 19 w ≤ 1000) : NC N2 := by
  obtain ⟨h1, h2, h3, h4, h5, h6, h7, h8⟩ := h
  have eA' : ∀ w, eA N2 w = eA N w := fun w => by unfold eA; rw [e.2 14 (by decide) (by decide) (by decide)]
  have eB' : ∀ w, eB N2 w = eB N w := fun w => by unfold eB; rw [e.2 15 (by decide) (by decide) (by decide)]
  have aK' : ∀ w, aK N2 w = aK N w := fun w => by unfold aK; rw [e.2 20 (by decide) (by decide) (by decide)]
  have oR' : ∀ w, oR N2 w = oR N w := fun w => by unfold oR; rw [e.2 13 (by decide) (by decide) (by decide)]
  have oP' : ∀ w, oP N2 w = oP N w := fun w => by unfold oP; rw [e.2 23 (by decide) (by decide) (by decide)]
  refine ⟨by rw [e.qN, e.1.1]; exact h1, by rw [e.qW, e.1.2.1]; exact h2, by rw [e.qK, e.1.2.2]; exact h3, fun i hi => ?_, fun w hw => ?_, fun k hk => ?_, ?_, ?_⟩
  · rw [e.2 11 (by decide) (by decide) (by decide), e.2 12 (by decide) (by decide) (by decide)]
    rw [e.qN] at hi
    exact h4 i hi
  · rw [e.qW] at hw
    obtain ⟨a1, a2, a3, a4, a5, a6, a7⟩ := h5 w hw
    rw [eA', eB', e.qN, e.2 14 (by decide) (by decide) (by decide), e.2 15 (by decide) (by decide) (by decide), e.2 16 (by decide) (by decide) (by decide), e.2 17 (by decide) (by decide) (by decide), e.2 18 (by decide) (by decide) (by decide)]
    exact ⟨a1, a2, a3, a4, a5, a6, h19 w hw⟩
  · rw [e.qK] at hk
    rw [aK', e.qN, e.2 20 (by decide) (by decide) (by decide), e.2 21 (by decide) (by decide) (by decide), e.2 22 (by decide) (by decide) (by decide)]
    exact h6 k hk
  · unfold NCr befR
    rw [e.qN]
    refine ⟨fun j hj => ?_, fun i j hij hj => ?_, fun s hs => ?_⟩
    · rw [oR', e.2 13 (by decide) (by decide) (by decide)]
      exact h7.1 j hj
    · rw [oR', oR', e.2 12 (by decide) (by decide) (by decide)]
      exact h7.2.1 i j hij hj
    · obtain ⟨j, q1, q2⟩ := h7.2.2 s hs
      exact ⟨j, q1, by rw [oR']; exact q2⟩
  · unfold NCp befP
    rw [e.qK]
    refine ⟨fun j hj => ?_, fun i j hij hj => ?_, fun s hs => ?_⟩
    · rw [oP', e.2 23 (by decide) (by decide) (by decide)]
      exact h8.1 j hj
    · rw [oP', oP', e.2 22 (by decide) (by decide) (by decide)]
      exact h8.2.1 i j hij hj
    · obtain ⟨j, q1, q2⟩ := h8.2.2 s hs
      exact ⟨j, q1, by rw [oP']; exact q2⟩
theorem eqN.qV (e : eqN N N2) (h : sV N S) : sV N2 S := by
  unfold sV
  rw [e.qN, e.qK]
  exact h
theorem eqN.qS {s : Nat} (e : eqN N N2) (h : sC N S M s) : sC N2 S M s := by
  unfold sC
  rw [e.qN, e.qK]
  exact h
theorem eqN.qk (e : eqN N N2) (k : Int) : kdN N2 k = kdN N k := by
  unfold kdN
  rw [e.qN, e.qW, e.qK]
theorem eqN.qh (e : eqN N N2) (k w : Nat) : shw N2 k w ↔ shw N k w := by
  unfold shw eA eB
  rw [e.2 11 (by decide) (by decide) (by decide), e.2 14 (by decide) (by decide) (by decide), e.2 15 (by decide) (by decide) (by decide)]
theorem eqN.qd (e : eqN N N2) (k t m : Nat) : dff N2 M k t m ↔ dff N M k t m := by
  unfold dff
  rw [e.qW]
  exact Iff.intro (fun ⟨w, a, b, c⟩ => ⟨w, a, (e.qh k w).mp b, c⟩) (fun ⟨w, a, b, c⟩ => ⟨w, a, (e.qh k w).mpr b, c⟩)
theorem eqN.qp {n : Nat} (e : eqN N N2) (h : iPast N n Ps M) : iPast N2 n Ps M := ⟨h.1, fun m hm => by
  obtain ⟨a1, a2, a3, a4, a5⟩ := h.2 m hm
  exact ⟨e.qV a1, a2, a3, e.qS a4, a5⟩⟩
theorem eqN.qe {n ev : Nat} (e : eqN N N2) (h : iEv N n ev M) : iEv N2 n ev M := ⟨h.1, h.2.1, h.2.2.1, fun j hj => by
  rw [e.qk]
  exact h.2.2.2 j hj⟩
theorem eqN.qr {n : Nat} (e : eqN N N2) (h : iScr N n M) : iScr N2 n M := by
  unfold iScr
  rw [e.qW]
  refine ⟨h.1, fun k hk => ?_⟩
  obtain ⟨a1, a2, a3, a4, a5⟩ := h.2 k hk
  refine ⟨a1, a2, a3, a4, fun q => ?_⟩
  obtain ⟨s0, b1, b2, b3, b4⟩ := a5 q
  refine ⟨s0, b1, b2, b3, fun t ht => ?_⟩
  rcases b4 t ht with ⟨c1, c2⟩ | ⟨m0, c1, c2, c3, c4, c5⟩
  · exact Or.inl ⟨c1, fun m q1 q2 z => c2 m q1 q2 ((e.qd k t m).mp z)⟩
  · exact Or.inr ⟨m0, c1, c2, c3, (e.qd k t m0).mpr c4, fun m q1 q2 z => c5 m q1 q2 ((e.qd k t m).mp z)⟩
theorem IV.net (h : IV N S Ps l M) (e : eqN N N2) (h19 : ∀ w, w < nW N → 1 ≤ N2 19 w ∧ N2 19 w ≤ 1000) (hcl : nCl N2 M2) (hmd : nMd N2 M2) (h152 : ∀ w, nW N ≤ w → w < 14 → M2 152 w = 1) (hco : M2 3 3 = M2 144 36069 ∧ 0 ≤ M2 3 3 ∧ M2 3 3 ≤ 1000) (hT : ∃ t d, iTxt l2 t d M2) (hz : ∃ z, iTap z M2)
    (hb : ∀ b, b ≠ 2 → b ≠ 3 → (b < 4 ∨ 10 < b) → b ≠ 19 → b ≠ 132 → (b < 134 ∨ 144 < b) → b ≠ 152 → (b < 167 ∨ 181 < b) → M2 b = M b) (hj : ∀ j, 2 ≤ j → j ≤ 9 → j ≠ 6 → M2 142 j = M 142 j) (ha : ∀ a, a < 36072 → a ≠ 36069 → M2 144 a = M 144 a) : IV N2 S Ps l2 M2 := by
  have hn := h.nw
  obtain ⟨⟨g1, g2, g3, g4, g5, g6, g7, g8, g9⟩, h2, _, ⟨ev, h4⟩, h5, ⟨r, b, h7⟩, h8, _⟩ := h
  refine ⟨⟨e.qC g1 h19, e.qV g2, hcl, hmd, (e.qS g5).to (fun b _ _ => hb b (by omega) (by omega) (by omega) (by omega) (by omega) (by omega) (by omega) (by omega)), ?_, by rw [e.qW]; exact h152, by rw [hj 2 (by decide) (by decide) (by decide)]; exact g8, hco⟩, (e.qp h2).to (by omega) (by rw [hb 0 (by decide) (by decide) (by decide) (by decide) (by decide) (by decide) (by decide) (by decide)]) (fun b _ => hb b (by omega) (by omega) (by omega) (by omega) (by omega) (by omega) (by omega) (by omega)) (fun a _ => ha a (by omega) (by omega)), hT, ⟨ev, (e.qe h4).to (fun b _ => hb b (by omega) (by omega) (by omega) (by omega) (by omega) (by omega) (by omega) (by omega)) (hj 7 (by decide) (by decide) (by decide))⟩, (e.qr h5).to (fun b _ => hb b (by omega) (by omega) (by omega) (by omega) (by omega) (by omega) (by omega) (by omega)), ⟨r, b, h7.to (fun b _ => hb b (by omega) (by omega) (by omega) (by omega) (by omega) (by omega) (by omega) (by omega)) (hj 8 (by decide) (by decide) (by decide)) (hj 9 (by decide) (by decide) (by decide))⟩, h8.to (fun b _ => hb b (by omega) (by omega) (by omega) (by omega) (by omega) (by omega) (by omega) (by omega)), hz⟩
  obtain ⟨k1, k2, k3, k4, k5⟩ := g6
  refine ⟨fun w hw => ?_, fun i hi => ?_, fun k hk => ?_, ?_, ?_⟩
  · rw [ha _ (by omega) (by omega), ha _ (by omega) (by omega), ha _ (by omega) (by omega)]
    exact k1 w hw
  · rw [ha _ (by omega) (by omega), ha _ (by omega) (by omega)]
    exact k2 i hi
  · rw [ha _ (by omega) (by omega)]
    exact k3 k hk
  · rw [ha _ (by omega) (by omega)]
    exact k4
  · rw [ha _ (by omega) (by omega)]
    exact k5
theorem c76 {x1 x2 : Int} (h : IV N S Ps l M) (h2 : x2 = 0 ∨ x2 = 1) : Wp (f76 x1 x2 M) (fun r => JJ r.1 (f181 x1 x2 r.2)) := by
  have h14 := h.1.1.w14
  unfold f76 f181
  by_cases hw : 0 ≤ x1 ∧ x1 < nW N
  · obtain ⟨w, rfl⟩ := Int.eq_ofNat_of_zero_le hw.1
    have e26 : M 26 w = S 0 w := (h.1.2.2.2.2.1.1 w (by omega)).1
    have e144 : M 144 (36000 + w) = S 0 w := (h.1.2.2.2.2.2.1.1 w (by omega)).1
    have t1 : (36000 + (w : Int)).toNat = 36000 + w := by omega
    refine wp_bind (w215 h.e31 ?_)
    rw [if_pos hw]
    refine wp_neg (by decide) (wp_gd (by omega) ?_)
    rw [Int.toNat_natCast, e26]
    -- the way is told anew
    have go : ∀ v : Int, (v = 0 ∨ v = 1) → (x2 = 0 → v = 1) → (x2 = 1 → v = 0) → S 0 w ≠ 3 → ¬ (S 0 w = 0 ∧ 1 = x2) → ¬ (S 0 w ≠ 0 ∧ 0 = x2) → Wp (some ((1 : Int), ms M 26 w v)) (fun r => JJ r.1 ((f136 (w : Int) r.2).bind fun v1 => if v1 = 0 then (some (0, r.2)) else (gd (R4 (36000 + (w : Int))) (gd (0 ≤ (36000 + (w : Int)) ∧ (36000 + (w : Int)) < 36400) (if (r.2 144 ((36000 + (w : Int))).toNat) = 3 then (some (0, r.2)) else (if (r.2 144 ((36000 + (w : Int))).toNat) = 0 then (if 1 = x2 then (some (0, r.2)) else (f181_44 (w : Int) x2 r.2)) else (if 0 = x2 then (some (0, r.2)) else (f181_44 (w : Int) x2 r.2)))))))) := fun v v1 v2 v3 n3 n1 n2 => by
      refine wp_some ?_
      dsimp only
      have f142 : ms M 26 w v 142 = M 142 := ms_a (by decide)
      refine wp_bind (w136 ((congrFun f142 4).trans h.m4) (by omega) ?_)
      rw [if_pos hw]
      refine wp_neg (by decide) (wp_gd (by omega) (wp_gd (by omega) ?_))
      rw [t1]
      have em : ms M 26 w v 144 (36000 + w) = S 0 w := by rw [ms_a (by decide)]; exact e144
      have fin : JJ 1 (f181_44 (w : Int) x2 (ms M 26 w v)) := by
        unfold f181_44
        rw [t1]
        have iv : IV N (ms S 0 w v) Ps l (ms (ms M 26 w v) 144 (36000 + w) v) := h.st (by rw [ms_a (by decide)]) (h.1.2.1.up (by omega) (by omega) (by omega) (by omega) (by omega) (by omega) (by omega)) (upC0 h (by omega)) (upM0 h (by omega)) (fun b q1 q2 => by rw [ms_a q2, ms_a (by omega)]) (fun a q => by rw [ms_i (by omega), ms_a (by decide)])
        refine wp_gd (by omega) (wp_ite (fun d => ?_) (fun d => ?_))
        · rw [v2 d] at iv ⊢
          exact wp_gd (by omega) (wp_mlet (jj iv.G))
        · rw [v3 (by omega)] at iv ⊢
          exact wp_gd (by omega) (wp_mlet (jj iv.G))
      exact wp_neg (fun z => n3 (em.symm.trans z)) (wp_ite (fun d => wp_neg (fun z => n1 ⟨em.symm.trans d, z⟩) fin) (fun d => wp_neg (fun z => n2 ⟨fun y => d (em.trans y), z⟩) fin))
    have ref : (S 0 w = 3 ∨ (S 0 w = 0 ∧ 1 = x2) ∨ (S 0 w ≠ 0 ∧ 0 = x2)) → JJ 0 (f181 (w : Int) x2 M) := fun q => by
      unfold f181
      refine wp_bind (w136 h.m4 (by omega) ?_)
      rw [if_pos hw]
      refine wp_neg (by decide) (wp_gd (by omega) (wp_gd (by omega) ?_))
      rw [t1]
      exact wp_ite (fun d => jj h.G) (fun d => wp_ite (fun d2 => wp_ite (fun d3 => jj h.G) (fun d3 => by omega)) (fun d2 => wp_ite (fun d3 => jj h.G) (fun d3 => by omega)))
    have run : S 0 w ≠ 3 → ¬ (S 0 w = 0 ∧ 1 = x2) → ¬ (S 0 w ≠ 0 ∧ 0 = x2) → Wp (f76_47 (w : Int) x2 M) (fun r => JJ r.1 ((f136 (w : Int) r.2).bind fun v1 => if v1 = 0 then (some (0, r.2)) else (gd (R4 (36000 + (w : Int))) (gd (0 ≤ (36000 + (w : Int)) ∧ (36000 + (w : Int)) < 36400) (if (r.2 144 ((36000 + (w : Int))).toNat) = 3 then (some (0, r.2)) else (if (r.2 144 ((36000 + (w : Int))).toNat) = 0 then (if 1 = x2 then (some (0, r.2)) else (f181_44 (w : Int) x2 r.2)) else (if 0 = x2 then (some (0, r.2)) else (f181_44 (w : Int) x2 r.2)))))))) := fun n3 n1 n2 => by
      unfold f76_47
      rw [Int.toNat_natCast]
      exact wp_ite (fun d => wp_gd (by omega) (wp_mlet (go 1 (Or.inr rfl) (fun _ => rfl) (by omega) n3 n1 n2))) (fun d => wp_gd (by omega) (wp_mlet (go 0 (Or.inl rfl) (by omega) (fun _ => rfl) n3 n1 n2)))
    refine wp_ite (fun d => wp_some (ref (Or.inl d))) (fun d => wp_ite (fun d2 => wp_ite (fun d3 => wp_some (ref (Or.inr (Or.inl ⟨d2, d3⟩)))) (fun d3 => run d (by omega) (by omega))) (fun d2 => wp_ite (fun d3 => wp_some (ref (Or.inr (Or.inr ⟨d2, d3⟩)))) (fun d3 => run d (by omega) (by omega))))
  · refine wp_bind (w215 h.e31 ?_)
    rw [if_neg hw]
    refine wp_pos rfl (wp_some (wp_bind (w136 h.m4 (by omega) ?_)))
    rw [if_neg hw]
    exact wp_pos rfl (jj h.G)
theorem c38 {x1 : Int} (h : IV N S Ps l M) : Wp (f38 x1 M) (fun r => JJ r.1 (f95 x1 r.2)) := by
  unfold f38 f95
  refine wp_bind (w80 ?_)
  by_cases d : 0 ≤ x1 ∧ x1 ≤ 1000
  · rw [if_pos d]
    refine wp_neg (by decide) (wp_mlet (wp_some ?_))
    dsimp only
    refine wp_bind (w143 ?_)
    rw [if_pos d]
    refine wp_neg (by decide) (wp_mlet (jj (IV.G (h.net (N2 := ms N 3 3 x1) (l2 := l) ⟨⟨ms_i (by decide), ms_i (by decide), ms_i (by decide)⟩, fun b q1 q2 q3 => ms_a (by omega)⟩ (fun w hw => ?_) ?_ ?_ (fun w q1 q2 => ?_) ?_ ?_ ?_ (fun b q1 q2 q3 q4 q5 q6 q7 q8 => ?_) (fun j q1 q2 q3 => ?_) (fun a q1 q2 => ?_)))))
    · rw [ms_a (by decide)]
      exact (h.1.1.cw w hw).2.2.2.2.2.2
    · refine ⟨?_, fun b q1 q2 => by rw [ms_a (by omega), ms_a (by omega), ms_a (by omega)]; exact h.1.2.2.1.2 b q1 q2⟩
      rw [ms_a (by decide)]
      funext j
      unfold ms
      rw [h.1.2.2.1.1]
    · have := h.1.2.2.2.1
      unfold nMd at this ⊢
      unfold nN nW nK at this ⊢
      rw [ms_i (by decide : (0 : Nat) ≠ 3), ms_i (by decide : (1 : Nat) ≠ 3), ms_i (by decide : (2 : Nat) ≠ 3)]
      repeat rw [ms_a (by decide)]
      exact this
    · rw [ms_a (by decide), ms_a (by decide)]
      exact h.1.2.2.2.2.2.2.1 w q1 q2
    · rw [ms_v, ms_a (by decide), ms_v]
      exact ⟨rfl, d⟩
    · obtain ⟨t, d2, hT⟩ := h.2.2.1
      exact ⟨t, d2, hT.to (by rw [ms_a (by decide), ms_i (by decide)]) (by rw [ms_a (by decide), ms_a (by decide)]) (fun b q => by rw [ms_a (by omega), ms_a (by omega)]) (by rw [ms_a (by decide), ms_a (by decide)]) (by rw [ms_a (by decide), ms_a (by decide)])⟩
    · obtain ⟨z, hz⟩ := h.2.2.2.2.2.2.2
      exact ⟨z, hz.to (by rw [ms_a (by decide), ms_a (by decide)]) (by rw [ms_a (by decide), ms_a (by decide)]) (fun b q => by rw [ms_a (by omega), ms_a (by omega)])⟩
    · rw [ms_a (by omega), ms_a (by omega)]
    · rw [ms_a (by decide), ms_a (by decide)]
    · rw [ms_i (by omega), ms_a (by decide)]
  · rw [if_neg d]
    refine wp_pos rfl (wp_some (wp_bind (w143 ?_)))
    rw [if_neg d]
    exact wp_pos rfl (jj h.G)
end SET2
