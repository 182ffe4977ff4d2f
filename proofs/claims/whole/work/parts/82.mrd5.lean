section MR5
variable {M0 M : Mm} {c0 n p q o c c2 : Nat} {ks S0 : List Int} {B : Nat → Int} {wk : Bool} {P : Mm → Prop}
theorem topN.S {S : List Int} (h : topN S) (j : Nat) : ∃ x r, List.replicate j 33 ++ S = x :: r ∧ (x = 33 ∨ x = 40 ∨ x = 38 ∨ x = 124) := by
  obtain ⟨x, r, rfl, hx⟩ := h
  cases j with
  | zero => exact ⟨x, r, rfl, by omega⟩
  | succ j => exact ⟨33, List.replicate j 33 ++ x :: r, rfl, Or.inl rfl⟩
/-- behind a sum the signs are out: then -/
theorem EA_s {t a : Int} {sT sA s : Sem} {Q : Mm → Prop} (h0 : mH n B wk M0) (h : mW M0 c0 n q o (opE t a ++ S0) c2 M) (ht : t = 0 ∨ tms t = true) (ha : a = 0 ∨ pls a = true) (hS : topS S0) (hp : pD (cm3 M) wk c c2 t sT a sA s) (hok : okM (cm3 M) wk c c2) (h5 : tms (pkN B n q) = false) (h6 : pls (pkN B n q) = false)
    (k : ∀ (M2 : Mm) (c3 : Nat), mW M0 c0 n q o S0 c3 M2 → c2 ≤ c3 → (∀ i, i < c2 → cm3 M2 i = cm3 M i) → mG (cm3 M2) wk c c3 (cbE t sT a sA s) false → okM (cm3 M2) wk c c3 →
      Wp (if hrN B n q = 93 then
  ((f179 M2).bind fun v16 =>
  if v16 = 91 then
  (gd (R4 ((M2 142 50) - 1)) (
  mlet (ms M2 142 50 ((M2 142 50) - 1)) fun M22 =>
  gd (R4 ((M22 142 49) - 1)) (
  mlet (ms M22 142 49 ((M22 142 49) - 1)) fun M26 =>
  gd (R4 ((M26 142 44) + 1)) (
  mlet (ms M26 142 44 ((M26 142 44) + 1)) fun M30 =>
  mlet (ms M30 142 52 1) fun M32 =>
  some (1, M32)))))
  else
  ((f190 1 (M2 142 44) M2).bind fun M22 =>
  some (0, M22)))
  else
  ((f131 (hrN B n q) M2).bind fun v16 =>
  if v16 = 0 then
  ((f179 M2).bind fun v20 =>
  (f131 v20 M2).bind fun v23 =>
  if v23 = 0 then
  ((f190 1 (M2 142 44) M2).bind fun M29 =>
  some (0, M29))
  else
  ((f179 M2).bind fun v27 =>
  (f103 v27 0 M2).bind fun M31 =>
  gd (R4 ((M31 142 50) - 1)) (
  mlet (ms M31 142 50 ((M31 142 50) - 1)) fun M35 =>
  some (0, M35))))
  else
  ((f179 M2).bind fun v20 =>
  if v20 = 91 then
  (f116_128 (hrN B n q) M2)
  else
  ((f179 M2).bind fun v24 =>
  (f131 v24 M2).bind fun v27 =>
  if v27 = 0 then
  (f116_137 (hrN B n q) M2)
  else
  (f116_128 (hrN B n q) M2))))) (fun r : Int × Mm => Wp (if r.1 = 0 then f152_84 r.2 else some (.inl (1, r.2))) (Sum.elim (fun s => Wp (iter (fun s : Int × Mm => lb152_39 s.1 s.2) (n + 2 - q) s) Q) Q))) : EA n q M Q := by
  have hn := h0.n160
  unfold EA b61
  refine wp_bind (w124g h.g (wp_neg (by decide) ?_))
  unfold f116
  refine wp_obnd (wp_bind (w120 h0 h.f h.pP (wp_bind (w133 ?_))))
  rw [tms_hr h0, h5]
  refine wp_pos rfl (wp_bind (w128 ?_))
  rw [pls_hr h0, h6]
  exact wp_pos rfl (wp_bind (w177T hn h ht ha hS hp hok (fun M2 c3 g1 g2 g3 g4 g5 => k M2 c3 g1 g2 g3 g4 g5)))
theorem m_piece {sum : Nat → Rs} {low : Option ((Nat → Rs) × (Nat → Rs))} (h0 : mH n B wk M0) (ho6 : o ≤ 6) (hs : smP M0 c0 n B wk o sum) (hsok : ∀ p, p ≤ n → okR n wk p (sum p))
    (hl : if o < 6 then ∃ fc fp, low = some (fc, fp) ∧ cdP M0 c0 n B wk (o + 1) fc ∧ (∀ p, p ≤ n → okB n wk p (fc p)) ∧ pcP M0 c0 n B wk (o + 1) fp ∧ (∀ p, p ≤ n → okB n wk p (fp p)) else low = none) :
    pcP M0 c0 n B wk o (pcS B n sum low) := by
  intro j p S c M P h hj hS kE kB kO
  have hn := h0.n160
  have hpn := h.pn
  unfold PC
  refine it_step (k := n - p + 1) ?_
  try dsimp only
  unfold lb152_0
  refine wp_bind (w124g h.g (wp_neg (by decide) (wp_bind (w120 h0 h.f h.pP ?_))))
  have opn : (pkN B n p = 40 ∨ pkN B n p = 33) → Wp (f152_25 M) (Sum.elim (fun t => Wp (iter (fun s : Mm => lb152_0 s) (n - p + 1) t) (fun M9 => PB n p M9 P)) (fun M9 => PB n p M9 P)) := fun d => by
    have hlt : p < n := pk_ne (B := B) (fun z => by omega)
    unfold f152_25
    refine wp_bind (w150 h0 h hlt ho6 (fun ho M2 q1 => wp_some ?_) (fun ho M2 q1 q2 => wp_some ?_))
    · rw [if_neg (by omega)] at hl
      subst hl
      dsimp only [pcS] at kE
      rw [if_pos d] at kE
      have hb : M2 142 46 < 0 := by rw [q1.2.1]; omega
      show Wp (iter _ (n - p + 1) M2) _
      refine it_step ?_
      try dsimp only
      unfold lb152_0
      refine wp_bind (w124b hb (wp_pos rfl (wp_o ?_)))
      unfold f152_32
      refine wp_mlet ?_
      unfold f152_39
      refine it_lp (k := 0 + 1) (by decide) (it_step ?_)
      try dsimp only
      unfold lb152_39
      refine wp_neg (by decide) (wp_bind (w124b (by rw [ms_i (by decide)]; exact hb) (wp_pos rfl (wp_o ?_))))
      unfold f152_89
      refine wp_bind (w124b (by rw [ms_i (by decide)]; exact hb) (wp_pos rfl (wp_some ?_)))
      exact er_PB q1.z (by omega) (kE _ _ rfl q1.z)
    · rw [if_pos ho] at hl
      obtain ⟨fc, fp, rfl, hc1, hc2, hp1, hp2⟩ := hl
      dsimp only [pcS] at kE kB kO
      show Wp (iter _ (n - p + 1) M2) _
      have hC : PC n (p + 1) M2 P := by
        by_cases d2 : pkN B n p = 40
        · rw [if_pos d2] at kE kB kO
          rw [d2] at q1
          refine hc1 (p + 1) (List.replicate j 33 ++ S) c M2 P q1 (fun e M3 g1 g2 => kE e M3 (by rw [g1]; rfl) g2) (fun q s M3 g1 g2 g3 => kE _ M3 (by rw [g1]; exact if_neg g2) g3) (fun q s ha ho2 sA sO sF c3 M3 g1 g2 g3 g4 g5 g6 g7 g8 => ?_)
          have hqn := pkI_ g2 (by decide)
          rw [g1] at kE kB kO
          have kO' : ∀ (q2 : Nat) (s2 : Sem) (c2 : Nat) (M2 : Mm), (if pkN B n q = 41 then (.inr (q + 1, s) : Rs) else flt 1 q) = .inr (q2, s2) → (pkN B n q2 = 38 ∨ pkN B n q2 = 124 ∨ pkN B n q2 = 41) → mW M0 c0 n q2 (o - j) S c2 M2 → c ≤ c2 → (∀ i, i < c → cm3 M2 i = cm3 M i) → mG (cm3 M2) wk c c2 (notN j s2) true → okM (cm3 M2) wk c c2 → PB n q2 M2 P := kO
          have kB' : ∀ (q2 : Nat) (s2 : Sem) (M2 : Mm), (if pkN B n q = 41 then (.inr (q + 1, s) : Rs) else flt 1 q) = .inr (q2, s2) → ¬ (pkN B n q2 = 38 ∨ pkN B n q2 = 124 ∨ pkN B n q2 = 41) → mB M0 (-1000 * 1 - q2) M2 → P M2 := kB
          rw [if_pos g2] at kO' kB'
          unfold PB f94_69
          refine wp_bind (w124g g4.g (wp_neg (by decide) (wp_obnd ?_)))
          unfold f114
          refine wp_bind (w120 h0 g4.f g4.pP ?_)
          rw [hr_pk hqn, g2]
          refine wp_neg (by decide) (wp_neg (by decide) (wp_pos rfl (wp_bind (w138T hn g4 g7 g8 (fun M4 c4 k1 k2 k3 k4 k5 => ?_)))))
          rw [← g3] at k4
          have kl := k1.l
          rw [List.length_cons] at kl
          have kcp := k1.cp
          rw [List.length_cons] at kcp
          rw [kl]
          refine wp_gd (by omega) (wp_mlet ?_)
          rw [ms_i (by decide : (49 : Nat) ≠ 50), k1.oP]
          refine wp_gd (by omega) (wp_mlet ?_)
          rw [ms_i (by decide : (44 : Nat) ≠ 49), ms_i (by decide : (44 : Nat) ≠ 50), k1.pP]
          refine wp_gd (by omega) (wp_mlet ?_)
          have hSl : 0 < (List.replicate j 33 ++ S).length := by
            obtain ⟨x, r, e, _⟩ := hS.S j
            rw [e, List.length_cons]
            omega
          refine wp_neg (by rw [ms_i (by decide), ms_i (by decide), ms_v]; omega) (wp_mlet (wp_pos ms_v ?_))
          have hM5 : mW M0 c0 n (q + 1) o (List.replicate j 33 ++ S) c4 (ms (ms (ms (ms M4 142 50 ((((List.replicate j 33 ++ S).length + 1 : Nat) : Int) - 1)) 142 49 (((o + 1 : Nat) : Int) - 1)) 142 44 ((q : Int) + 1)) 142 51 0) := by
            refine ⟨(((k1.f.trans (frN.st (by omega))).trans (frN.st (by omega))).trans (frN.st (by omega))).trans (frN.st (by omega)), fun i hi => by rw [c3_st, c3_st, c3_st, c3_st]; exact k1.c0P i hi, k1.lc, ?_, ?_, ?_, ?_, ?_, ?_, by omega, by omega, ms_v, ?_⟩
            · rw [ms_i (by decide), ms_v]; omega
            · rw [ms_i (by decide), ms_i (by decide), ms_i (by decide), ms_i (by decide)]; exact k1.g
            · rw [ms_i (by decide), ms_i (by decide), ms_i (by decide), ms_i (by decide)]; exact k1.cP
            · rw [ms_i (by decide), ms_i (by decide), ms_v]; omega
            · rw [ms_i (by decide), ms_i (by decide), ms_i (by decide), ms_v]; omega
            · rw [ms_a (by decide), ms_a (by decide), ms_a (by decide), ms_a (by decide)]; exact k1.s.2
            · rw [ms_i (by decide), ms_i (by decide), ms_i (by decide), ms_i (by decide)]; exact k1.ib
          have hc3 : ∀ i, cm3 (ms (ms (ms (ms M4 142 50 ((((List.replicate j 33 ++ S).length + 1 : Nat) : Int) - 1)) 142 49 (((o + 1 : Nat) : Int) - 1)) 142 44 ((q : Int) + 1)) 142 51 0) i = cm3 M4 i := fun i => by rw [c3_st, c3_st, c3_st, c3_st]
          generalize ms (ms (ms (ms M4 142 50 ((((List.replicate j 33 ++ S).length + 1 : Nat) : Int) - 1)) 142 49 (((o + 1 : Nat) : Int) - 1)) 142 44 ((q : Int) + 1)) 142 51 0 = M5 at hM5 hc3 ⊢
          unfold f114_114
          refine wp_bind (w104 hn hS hj ho6 hM5 (by omega) (k4.cg (by omega) (fun i _ _ => hc3 i)) (okM_cg k5 (fun i _ _ => hc3 i)) (fun M6 c6 j1 j2 j3 j4 j5 => wp_some (wp_some ?_)))
          show Wp (iter _ (n - q + 3) _) P
          rw [show n - q + 3 = n - (q + 1) + 4 by omega]
          refine h_PB j1 ?_
          by_cases z : pkN B n (q + 1) = 38 ∨ pkN B n (q + 1) = 124 ∨ pkN B n (q + 1) = 41
          · exact kO' (q + 1) s c6 M6 rfl z j1 (by omega) (fun i hi => (j3 i (by omega)).trans ((hc3 i).trans ((k3 i (by omega)).trans ((g6 i hi).trans (q2 i))))) j4 j5
          · exact er_PB2 h0 j1 z (fun M7 z2 => kB' (q + 1) s M7 rfl z z2)
        · have d3 : pkN B n p = 33 := by omega
          rw [if_neg d2, if_pos d3] at kE kB kO
          rw [d3] at q1
          have q1' : mW M0 c0 n (p + 1) (o + 1) (List.replicate (j + 1) 33 ++ S) c M2 := q1
          refine hp1 (j + 1) (p + 1) S c M2 P q1' (by omega) hS (fun e M3 g1 g2 => kE e M3 (by rw [g1]; rfl) g2) (fun q s M3 g1 g2 g3 => kB q (notS s) M3 (by rw [g1]; rfl) g2 g3) (fun q s c3 M3 g1 g2 g3 g4 g5 g6 g7 => kO q (notS s) c3 M3 (by rw [g1]; rfl) g2 ?_ g4 (fun i hi => (g5 i hi).trans (q2 i)) g6 g7)
          rw [show o + 1 - (j + 1) = o - j by omega] at g3
          exact g3
      refine Wp.mono (show Wp (iter (fun s : Mm => lb152_0 s) (n - p + 1) M2) (fun M9 => PB n (p + 1) M9 P) from ?_) (fun M1 g => g.mono (by omega))
      have hC' := hC
      unfold PC at hC'
      rw [show n - (p + 1) + 2 = n - p + 1 by omega] at hC'
      exact hC'
  refine wp_ite (fun d => opn (Or.inr ((hr_eq h0 (by decide)).mp d))) (fun d => wp_bind (w120 h0 h.f h.pP (wp_ite (fun d2 => opn (Or.inl ((hr_eq h0 (by decide)).mp d2))) (fun d2 => wp_o ?_))))
  have d' : pkN B n p ≠ 33 := fun y => d ((hr_eq h0 (by decide)).mpr y)
  have d2' : pkN B n p ≠ 40 := fun y => d2 ((hr_eq h0 (by decide)).mpr y)
  have hsp : pcS B n sum low p = cmpP B n sum p := by
    cases low with
    | none => exact if_neg (by omega)
    | some y => exact (if_neg d2').trans (if_neg d')
  rw [hsp] at kE kB kO
  clear hsp hl opn
  unfold cmpP at kE kB kO
  unfold f152_32
  refine wp_mlet ?_
  unfold f152_39
  have hz := h.z
  have cz : ∀ i, cm3 (ms M 142 52 0) i = cm3 M i := fun i => c3_st
  generalize ms M 142 52 0 = M1 at hz cz ⊢
  refine it_lp (k := n + 3 - p) (by omega) (h_EF hz hn ?_)
  obtain ⟨x, r, hx1, hx2⟩ := hS.S j
  have hTS : topS (List.replicate j 33 ++ S) := by
    rw [hx1]
    refine ⟨x, r, rfl, ?_, ?_⟩
    · rcases hx2 with rfl | rfl | rfl | rfl <;> rfl
    · rcases hx2 with rfl | rfl | rfl | rfl <;> rfl
  have hx91 : x ≠ 91 := by omega
  have hxc : cps x = false := by rcases hx2 with rfl | rfl | rfl | rfl <;> rfl
  have fin : ∀ (e : Int) (M2 : Mm), mB M0 e M2 → e < 0 → P M2 → PB n p M2 P := fun e M2 q1 q2 q3 => er_PB q1 q2 q3
  refine hs p _ c M1 _ hz hTS (fun e M2 g1 g2 => fin e M2 g2 (err_neg (hsok p hpn) g1) (kE e M2 (by rw [g1]; rfl) g2)) (fun q s t a sT sA sF c2 M2 g1 g2 g3 g4 g5 g6 g7 g8 g9 g10 g11 => ?_)
  have hpq := (hsok p hpn).2 q s g1
  rw [g1] at kE kB kO
  have kE' : ∀ (e : Int) (M2 : Mm), (if cps (pkN B n q) then sb (sum (q + 1)) (fun q2 s2 => .inr (q2, cmpS (pkN B n q) s s2)) else flt 1 q) = .inl e → mB M0 e M2 → P M2 := kE
  have kB' : ∀ (q3 : Nat) (s3 : Sem) (M2 : Mm), (if cps (pkN B n q) then sb (sum (q + 1)) (fun q2 s2 => .inr (q2, cmpS (pkN B n q) s s2)) else flt 1 q) = .inr (q3, s3) → ¬ (pkN B n q3 = 38 ∨ pkN B n q3 = 124 ∨ pkN B n q3 = 41) → mB M0 (-1000 * 1 - q3) M2 → P M2 := kB
  have kO' : ∀ (q3 : Nat) (s3 : Sem) (c2 : Nat) (M2 : Mm), (if cps (pkN B n q) then sb (sum (q + 1)) (fun q2 s2 => .inr (q2, cmpS (pkN B n q) s s2)) else flt 1 q) = .inr (q3, s3) → (pkN B n q3 = 38 ∨ pkN B n q3 = 124 ∨ pkN B n q3 = 41) → mW M0 c0 n q3 (o - j) S c2 M2 → c ≤ c2 → (∀ i, i < c → cm3 M2 i = cm3 M i) → mG (cm3 M2) wk c c2 (notN j s3) true → okM (cm3 M2) wk c c2 → PB n q3 M2 P := kO
  clear kE kB kO
  refine EA_s h0 g7 g3 g4 hTS g10 g11 g5 g6 (fun M3 c3 k1 k2 k3 k4 k5 => ?_)
  rw [← g2] at k4
  rw [hx1] at k1
  refine wp_ite (fun z => ?_) (fun z => wp_bind (w131 ?_))
  · have z' := (hr_eq h0 (by decide)).mp z
    refine wp_bind (w179 hn k1 (wp_neg hx91 ?_))
    rw [k1.pP]
    refine wp_bind (w190 k1.f k1.g k1.ib (by decide) (by omega) (fun M5 j1 j2 j3 => wp_some ?_))
    try dsimp only
    refine wp_pos rfl ?_
    unfold f152_84
    exact wp_some (er_it j1 (by omega) (by omega) (fin _ M5 j1 (by omega) (kE' _ M5 (by rw [z']; rfl) j1)))
  · rw [cps_hr h0]
    cases hcp : cps (pkN B n q) with
    | false =>
      rw [hcp] at kE'
      refine wp_pos rfl (wp_bind (w179 hn k1 (wp_bind (w131 ?_))))
      rw [hxc]
      refine wp_pos rfl ?_
      rw [k1.pP]
      refine wp_bind (w190 k1.f k1.g k1.ib (by decide) (by omega) (fun M5 j1 j2 j3 => wp_some ?_))
      try dsimp only
      refine wp_pos rfl ?_
      unfold f152_84
      exact wp_some (er_it j1 (by omega) (by omega) (fin _ M5 j1 (by omega) (kE' _ M5 rfl j1)))
    | true =>
      rw [hcp, if_pos rfl] at kE' kB' kO'
      have hqn := cps_in hcp
      have hcv := cps_v hcp
      refine wp_neg (by decide) (wp_bind (w179 hn k1 (wp_neg hx91 (wp_bind (w179 hn k1 (wp_bind (w131 ?_)))))))
      rw [hxc]
      refine wp_pos rfl ?_
      unfold f116_137
      rw [hr_pk hqn]
      refine wp_bind (k1.puts hn hqn (fun M4 j1 j2 => wp_some ?_))
      try dsimp only
      refine wp_neg (by decide) (wp_some ?_)
      show Wp (iter _ (n + 2 - q) _) _
      rw [show n + 2 - q = n + 3 - (q + 1) by omega]
      refine h_EF j1 hn ?_
      have ht4 : tms (pkN B n q) = false ∧ pls (pkN B n q) = false ∧ pkN B n q ≠ 91 := by rcases hcv with e | e | e <;> rw [e] <;> decide
      have k4' : mG (cm3 M4) wk c c3 s false := k4.cg (by omega) (fun i _ _ => j2 i)
      have k5' : okM (cm3 M4) wk c c3 := okM_cg k5 (fun i _ _ => j2 i)
      have b4 : ∀ i, i < c → cm3 M4 i = cm3 M i := fun i hi => (j2 i).trans ((k3 i (by omega)).trans ((g9 i hi).trans (cz i)))
      have hTS2 : topS (pkN B n q :: x :: r) := ⟨pkN B n q, x :: r, rfl, ht4.1, ht4.2.1⟩
      refine hs (q + 1) _ c3 M4 _ j1 hTS2 (fun e M5 e1 e2 => fin e M5 e2 (err_neg (hsok (q + 1) (by omega)) e1) (kE' e M5 (by rw [e1]; rfl) e2)) (fun q2 s2 t2 a2 sT2 sA2 sF2 c5 M5 e1 e2 e3 e4 e5 e6 e7 e8 e9 e10 e11 => ?_)
      have hpq2 := (hsok (q + 1) (by omega)).2 q2 s2 e1
      rw [e1] at kE' kB' kO'
      refine EA_s h0 e7 e3 e4 hTS2 e10 e11 e5 e6 (fun M6 c6 l1 l2 l3 l4 l5 => ?_)
      rw [← e2] at l4
      have bad : ¬ (pkN B n q2 = 38 ∨ pkN B n q2 = 124 ∨ pkN B n q2 = 41) → ∀ M7 : Mm, mB M0 (-1000 * 1 - q2) M7 → PB n p M7 P := fun y M7 y2 => fin _ M7 y2 (by omega) (kB' q2 _ M7 rfl y y2)
      refine wp_ite (fun z => ?_) (fun z => wp_bind (w131 ?_))
      · have z' := (hr_eq h0 (by decide)).mp z
        refine wp_bind (w179 hn l1 (wp_neg ht4.2.2 ?_))
        rw [l1.pP]
        refine wp_bind (w190 l1.f l1.g l1.ib (by decide) (by omega) (fun M7 j1 j2 j3 => wp_some ?_))
        try dsimp only
        refine wp_pos rfl ?_
        unfold f152_84
        exact wp_some (er_it j1 (by omega) (by omega) (bad (by omega) M7 j1))
      · rw [cps_hr h0]
        cases hcp2 : cps (pkN B n q2) with
        | true =>
          have hcv2 := cps_v hcp2
          refine wp_neg (by decide) (wp_bind (w179 hn l1 (wp_neg ht4.2.2 (wp_bind (w179 hn l1 (wp_bind (w131 ?_)))))))
          rw [hcp]
          refine wp_neg (by decide) ?_
          unfold f116_128 f116_137
          rw [l1.pP]
          have kl := l1.l
          have kcp := l1.cp
          refine wp_bind (w190 l1.f l1.g l1.ib (by decide) (by omega) (fun M7 j1 j2 j3 => wp_bind (w155 (l := (pkN B n q :: x :: r).length) (p := q2) ((j2 50 (by decide)).trans kl) (by omega) ((j2 44 (by decide)).trans l1.pP) (by omega) (wp_some ?_))))
          try dsimp only
          have jb : mB M0 (-1000 * 1 - q2) (puM M7 (pkN B n q :: x :: r).length q2 (hrN B n q2)) := ⟨j1.1.trans frN.pu, (pu_j (by decide) (by decide)).trans j1.2.1, (pu_j (by decide) (by decide)).trans j1.2.2⟩
          exact wp_neg (by decide) (wp_some (er_it jb (by omega) (by omega) (bad (by omega) _ jb)))
        | false =>
          refine wp_pos rfl (wp_bind (w179 hn l1 (wp_bind (w131 ?_))))
          rw [hcp]
          have lcp := l1.cp
          rw [List.length_cons] at lcp
          refine wp_neg (by decide) (wp_bind (w179 hn l1 (wp_bind (w103 l1.g l1.cP (by omega) ?_))))
          rw [emm_j (by decide : (50 : Nat) ≠ 48), l1.l, List.length_cons]
          obtain ⟨y1, y2, y3⟩ := l1.ep (y := pkN B n q) (v := (((x :: r).length + 1 : Nat) : Int) - 1) (by omega)
          refine wp_gd (by omega) (wp_mlet (wp_some ?_))
          try dsimp only
          refine wp_pos rfl ?_
          unfold f152_84
          refine wp_some ?_
          show Wp (iter _ (n + 2 - q2) _) _
          rw [show n + 2 - q2 = (n + 1 - q2) + 1 by omega]
          refine it_step ?_
          try dsimp only
          unfold lb152_39
          refine wp_pos rfl (wp_o ?_)
          unfold f152_89
          refine wp_bind (w124g y1.g (wp_neg (by decide) (wp_bind ?_)))
          have y1' : mW M0 c0 n q2 o (List.replicate j 33 ++ S) (c6 + 1) (ms (emM M6 c6 (pkN B n q) 0) 142 50 ((((x :: r).length + 1 : Nat) : Int) - 1)) := by
            rw [hx1]
            exact y1
          have b6 : ∀ i, i < c → cm3 (ms (emM M6 c6 (pkN B n q) 0) 142 50 ((((x :: r).length + 1 : Nat) : Int) - 1)) i = cm3 M i := fun i hi => (y2 i (by omega)).trans ((l3 i (by omega)).trans ((e9 i (by omega)).trans (b4 i hi)))
          have mg6 := m_cmp (C := cm3 (ms (emM M6 c6 (pkN B n q) 0) 142 50 ((((x :: r).length + 1 : Nat) : Int) - 1))) (mG.cg k4' (by omega) (fun i _ h2 => (y2 i (by omega)).trans ((l3 i (by omega)).trans (e9 i (by omega))))) (mG.cg l4 (by omega) (fun i _ h2 => y2 i h2)) (by omega) (by omega) y3 hcv
          have ok6 : okM (cm3 (ms (emM M6 c6 (pkN B n q) 0) 142 50 ((((x :: r).length + 1 : Nat) : Int) - 1))) wk c (c6 + 1) := okM_snoc (okM_app (okM_cg k5' (fun i _ h2 => (l3 i (by omega)).trans (e9 i (by omega)))) l5) y2 y3 (by omega)
          refine w104 hn hS hj ho6 y1' (by omega) mg6 ok6 (fun M8 c8 u1 u2 u3 u4 u5 => wp_some ?_)
          by_cases w : pkN B n q2 = 38 ∨ pkN B n q2 = 124 ∨ pkN B n q2 = 41
          · exact (kO' q2 _ c8 M8 rfl w u1 (by omega) (fun i hi => (u3 i (by omega)).trans (b6 i hi)) u4 u5).mono (by omega)
          · exact (er_PB2 h0 u1 w (fun M9 w2 => kB' q2 _ M9 rfl w w2)).mono (by omega)
theorem m_pieceD (h0 : mH n B wk M0) : ∀ (d o : Nat), o + d = 6 → pcP M0 c0 n B wk o (pieceD B n wk d)
  | 0, o, ho => m_piece (low := none) h0 (by omega) (m_sumD h0 0 o ho) (fun p hp => ok_sumD h0.n160 0 p hp) (by rw [if_neg (by omega)])
  | d + 1, o, ho => m_piece (low := some ((fun p => condL B n (pieceD B n wk d) n p false zS false zS), pieceD B n wk d)) h0 (by omega) (m_sumD h0 (d + 1) o ho) (fun p hp => ok_sumD h0.n160 (d + 1) p hp) (by
      rw [if_pos (by omega)]
      exact ⟨_, _, rfl, m_cond h0 (by omega) (m_pieceD h0 d (o + 1) (by omega)) (fun p hp => ok_pieceD h0.n160 d p hp), fun p hp => ok_condL h0.n160 (fun p hp => ok_pieceD h0.n160 d p hp) n p false zS false zS hp ext_z ext_z, m_pieceD h0 d (o + 1) (by omega), fun p hp => ok_pieceD h0.n160 d p hp⟩)
theorem m_condD (h0 : mH n B wk M0) : cdP M0 c0 n B wk 1 (condD B n wk 5) := m_cond h0 (by decide) (m_pieceD h0 5 1 (by decide)) (fun p hp => ok_pieceD h0.n160 5 p hp)
end MR5
