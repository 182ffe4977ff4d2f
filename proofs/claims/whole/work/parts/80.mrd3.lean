section MR3
variable {M0 M : Mm} {c0 n p q o c c2 : Nat} {ks S0 : List Int} {B : Nat → Int} {wk : Bool} {t a : Int} {sT sA s : Sem} {Q : Mm → Prop} {C C2 : Nat → Int × Int}
theorem er_it {e x : Int} (h : mB M0 e M) (he : e < 0) (hq : q ≤ n) (k : Q M) : Wp (iter (fun s : Int × Mm => lb152_39 s.1 s.2) (n + 2 - q) (x, M)) Q := by
  rw [show n + 2 - q = (n + 1 - q) + 1 by omega]
  refine it_step ?_
  try dsimp only
  unfold lb152_39
  have f89 : Wp (f152_89 M) Q := by
    unfold f152_89
    exact wp_bind (w124b (by rw [h.2.1]; exact he) (wp_pos rfl (wp_some k)))
  exact wp_ite (fun _ => wp_o f89) (fun _ => wp_bind (w124b (by rw [h.2.1]; exact he) (wp_pos rfl (wp_o f89))))
theorem h_EB (hg : M 142 46 = 0) (hb : M 142 52 = 1) (hq : q ≤ n) (k : EA n (q + 1) (ms M 142 52 0) Q) : Wp (iter (fun s : Int × Mm => lb152_39 s.1 s.2) (n + 2 - q) (1, M)) Q := by
  rw [show n + 2 - q = (n + 1 - q) + 1 by omega]
  refine it_step ?_
  try dsimp only
  have k' := k
  unfold EA b61 at k'
  rw [show n + 2 - (q + 1) = n + 1 - q by omega] at k'
  unfold lb152_39 f152_61
  exact wp_neg (by decide) (wp_bind (w124g hg (wp_neg (by decide) (wp_neg (by rw [hb]; decide) (wp_mlet k')))))
theorem w103b {x y : Int} {P : Mm → Prop} (hg : M 142 46 < 0) (k : P M) : Wp (f103 x y M) P := by
  unfold f103
  exact wp_bind (w124b hg (wp_pos rfl (wp_some k)))
theorem mW.eg {x y v : Int} (h : mW M0 c0 n p o ks c M) (hv : v = (p : Int) + 1) (hp : p < n) : mW M0 c0 n (p + 1) o ks (c + 1) (ms (emM M c x y) 142 44 v) := by
  have hlc := h.lc
  have hcp := h.cp
  refine ⟨(h.f.trans frN.em).trans (frN.st (by omega)), fun i hi => c3_st.trans ((em_a (by omega)).trans (h.c0P i hi)), by omega, by rw [ms_v]; omega, (ms_i (by decide)).trans ((emm_j (by decide)).trans h.g), ?_, (ms_i (by decide)).trans ((emm_j (by decide)).trans h.oP), (ms_i (by decide)).trans ((emm_j (by decide)).trans h.l), ?_, hp, by omega, (ms_i (by decide)).trans ((emm_j (by decide)).trans h.ov), (ms_i (by decide)).trans ((emm_j (by decide)).trans h.ib)⟩
  · rw [ms_i (by decide)]
    show ms _ 142 48 _ 142 48 = _
    rw [ms_v]
    omega
  · have e : ms (emM M c x y) 142 44 v 177 = M 177 := by
      unfold emM
      rw [ms_a (by decide), ms_a (by decide), ms_a (by decide), ms_a (by decide)]
    rw [e]
    exact h.s
theorem m_fac {low : Option (Nat → Rs)} (h0 : mH n B wk M0) (ho : o ≤ 6) (hl : if o < 6 then ∃ f, low = some f ∧ smP M0 c0 n B wk (o + 1) f ∧ (∀ p, p ≤ n → okR n wk p (f p)) else low = none) : fcP M0 c0 n wk o (facP B n wk low) := by
  intro p ks c M Q h kE kO
  have hn := h0.n160
  have hpn := h.pn
  have hcp := h.cp
  unfold EF
  rw [show n - p + 2 = (n - p + 1) + 1 by omega]
  refine it_step ?_
  try dsimp only
  unfold lb106_0
  refine wp_bind (w124g h.g (wp_neg (by decide) (wp_bind (w120 h0 h.f h.pP ?_))))
  unfold facP at kE kO
  have erE : ∀ (e : Int) (M2 : Mm), mB M0 e M2 → e < 0 → (∀ M3 : Mm, mB M0 e M3 → Q M3) → EA n p (ms M2 142 52 0) Q := fun e M2 q1 q2 q3 => er_EA q1.z q2 hpn q3
  refine wp_ite (fun d => ?_) (fun d => ?_)
  · have d' := (hr_eq h0 (by decide)).mp d
    have hlt := pkI_ d' (by decide)
    rw [if_pos d'] at kE kO
    refine wp_bind (w150 h0 h hlt ho (fun ho6 M2 q1 => wp_some ?_) (fun ho6 M2 q1 q2 => wp_some ?_))
    · rw [if_neg (by omega)] at hl
      subst hl
      show Wp (iter _ (n - p + 1) M2) _
      refine it_step ?_
      try dsimp only
      unfold f106_23
      have hb : M2 142 46 < 0 := by rw [q1.2.1]; omega
      exact wp_bind (w124b hb (wp_pos rfl (wp_o (wp_bind (w124b hb (wp_pos rfl (wp_some (erE _ M2 q1 (by omega) (fun M3 g => kE _ M3 rfl g)))))))))
    · rw [if_pos ho6] at hl
      obtain ⟨f, rfl, hf, hok⟩ := hl
      dsimp only at kE kO
      rw [d'] at q1
      show Wp (iter _ (n - p + 1) M2) _
      have hE : EF n (p + 1) M2 Q := by
        refine hf (p + 1) (91 :: ks) c M2 Q q1 ⟨91, ks, rfl, rfl, rfl⟩ (fun e M3 g1 g2 => kE e M3 (by rw [g1]; rfl) g2) (fun q s t a sT sA sF c3 M3 g1 g2 g3 g4 g5 g6 g7 g8 g9 g10 g11 => ?_)
        have hq := (hok (p + 1) (by omega)).2 q s g1
        rw [g1] at kE kO
        have kE' : ∀ (e : Int) (M2 : Mm), (if pkN B n q = 93 then (.inr (q + 1, s) : Rs) else flt 1 q) = .inl e → mB M0 e M2 → Q M2 := kE
        have kO' : ∀ (q2 : Nat) (s2 : Sem) (c2 : Nat) (M2 : Mm), (if pkN B n q = 93 then (.inr (q + 1, s) : Rs) else flt 1 q) = .inr (q2, s2) → mW M0 c0 n q2 o ks c2 M2 → c ≤ c2 → (∀ i, i < c → cm3 M2 i = cm3 M i) → mG (cm3 M2) wk c c2 s2 false → okM (cm3 M2) wk c c2 → EA n q2 M2 Q := kO
        unfold EA b61
        refine wp_bind (w124g g7.g (wp_neg (by decide) ?_))
        unfold f116
        refine wp_obnd (wp_bind (w120 h0 g7.f g7.pP (wp_bind (w133 ?_))))
        rw [tms_hr h0, g5]
        refine wp_pos rfl (wp_bind (w128 ?_))
        rw [pls_hr h0, g6]
        refine wp_pos rfl (wp_bind (w177T hn g7 g3 g4 ⟨91, ks, rfl, rfl, rfl⟩ g10 g11 (fun M4 c4 k1 k2 k3 k4 k5 => ?_)))
        rw [← g2] at k4
        have bad1 : pkN B n q ≠ 93 → ∀ M5 : Mm, mB M0 (-1000 * 1 - q) M5 → Q M5 := fun z M5 z2 => kE' _ M5 (by rw [if_neg z]; rfl) z2
        refine wp_ite (fun z => ?_) (fun z => ?_)
        · have z' := (hr_eq h0 (by decide)).mp z
          rw [if_pos z'] at kO'
          have hqn := pkI_ z' (by decide)
          refine wp_bind (w179 hn k1 (wp_pos rfl ?_))
          have kl := k1.l
          rw [List.length_cons] at kl
          have kcp := k1.cp
          rw [List.length_cons] at kcp
          rw [kl]
          refine wp_gd (by omega) (wp_mlet ?_)
          rw [ms_i (by decide : (49 : Nat) ≠ 50), k1.oP]
          refine wp_gd (by omega) (wp_mlet ?_)
          rw [ms_i (by decide : (44 : Nat) ≠ 49), ms_i (by decide : (44 : Nat) ≠ 50), k1.pP]
          refine wp_gd (by omega) (wp_mlet (wp_mlet (wp_some ?_)))
          try dsimp only
          refine wp_neg (by decide) (wp_some ?_)
          have gz : ms (ms (ms (ms M4 142 50 (((ks.length + 1 : Nat) : Int) - 1)) 142 49 (((o + 1 : Nat) : Int) - 1)) 142 44 ((q : Int) + 1)) 142 52 1 142 46 = 0 := by
            rw [ms_i (by decide), ms_i (by decide), ms_i (by decide), ms_i (by decide)]
            exact k1.g
          refine h_EB gz ms_v (by omega) ?_
          have hc3 : ∀ i, cm3 (ms (ms (ms (ms (ms M4 142 50 (((ks.length + 1 : Nat) : Int) - 1)) 142 49 (((o + 1 : Nat) : Int) - 1)) 142 44 ((q : Int) + 1)) 142 52 1) 142 52 0) i = cm3 M4 i := fun i => by rw [c3_st, c3_st, c3_st, c3_st, c3_st]
          refine kO' (q + 1) s c4 _ rfl ⟨((((k1.f.trans (frN.st (by omega))).trans (frN.st (by omega))).trans (frN.st (by omega))).trans (frN.st (by omega))).trans (frN.st (by omega)), fun i hi => (hc3 i).trans (k1.c0P i hi), k1.lc, ?_, ?_, ?_, ?_, ?_, ?_, by omega, by omega, ?_, ms_v⟩ (by omega) (fun i hi => (hc3 i).trans ((k3 i (by omega)).trans ((g9 i hi).trans (q2 i)))) (k4.cg (by omega) (fun i _ _ => hc3 i)) (okM_cg k5 (fun i _ _ => hc3 i))
          · rw [ms_i (by decide), ms_i (by decide), ms_v]; omega
          · rw [ms_i (by decide)]; exact gz
          · rw [ms_i (by decide), ms_i (by decide), ms_i (by decide), ms_i (by decide), ms_i (by decide)]; exact k1.cP
          · rw [ms_i (by decide), ms_i (by decide), ms_i (by decide), ms_v]; omega
          · rw [ms_i (by decide), ms_i (by decide), ms_i (by decide), ms_i (by decide), ms_v]; omega
          · rw [ms_a (by decide), ms_a (by decide), ms_a (by decide), ms_a (by decide), ms_a (by decide)]; exact k1.s.2
          · rw [ms_i (by decide), ms_i (by decide), ms_i (by decide), ms_i (by decide), ms_i (by decide)]; exact k1.ov
        · have z' : pkN B n q ≠ 93 := fun y => z ((hr_eq h0 (by decide)).mpr y)
          refine wp_bind (w131 ?_)
          rw [cps_hr h0]
          cases hcp2 : cps (pkN B n q) with
          | false =>
            refine wp_pos rfl (wp_bind (w179 hn k1 (wp_bind (w131 (wp_pos rfl ?_)))))
            rw [k1.pP]
            refine wp_bind (w190 k1.f k1.g k1.ib (by decide) (by omega) (fun M5 j1 j2 j3 => wp_some ?_))
            try dsimp only
            refine wp_pos rfl ?_
            unfold f152_84
            exact wp_some (er_it j1 (by omega) (by omega) (bad1 z' M5 j1))
          | true =>
            have hqn := cps_in hcp2
            refine wp_neg (by decide) (wp_bind (w179 hn k1 (wp_pos rfl ?_)))
            unfold f116_128 f116_137
            rw [k1.pP]
            have kl := k1.l
            have kcp := k1.cp
            refine wp_bind (w190 k1.f k1.g k1.ib (by decide) (by omega) (fun M5 j1 j2 j3 => wp_bind (w155 (l := (91 :: ks).length) (p := q) ((j2 50 (by decide)).trans kl) (by omega) ((j2 44 (by decide)).trans k1.pP) (by omega) (wp_some ?_))))
            try dsimp only
            have jb : mB M0 (-1000 * 1 - q) (puM M5 (91 :: ks).length q (hrN B n q)) := ⟨j1.1.trans frN.pu, (pu_j (by decide) (by decide)).trans j1.2.1, (pu_j (by decide) (by decide)).trans j1.2.2⟩
            exact wp_neg (by decide) (wp_some (er_it jb (by omega) (by omega) (bad1 z' _ jb)))
      refine Wp.mono (show Wp (iter (fun s : Mm => lb106_0 s) (n - p + 1) M2) (fun M1 => EA n (p + 1) (ms M1 142 52 0) Q) from ?_) (fun M1 g => g.mono (by omega))
      have hE' := hE
      unfold EF at hE'
      rw [show n - (p + 1) + 2 = n - p + 1 by omega] at hE'
      exact hE'
  · have d' : pkN B n p ≠ 91 := fun y => d ((hr_eq h0 (by decide)).mpr y)
    rw [if_neg d'] at kE kO
    refine wp_o ?_
    unfold f106_23
    refine wp_bind (w124g h.g (wp_neg (by decide) (wp_bind (w160 h0 h.f h.pP ?_))))
    cases hd : dgt (pkN B n p) with
    | true =>
      rw [hd, if_pos rfl] at kE kO
      refine wp_neg (by decide) (wp_obnd (w156 h0 h hd (fun e v M2 g1 g2 => ?_) (fun p2 v M2 g1 g2 g3 g4 => ?_)))
      · have hneg : e < 0 := by
          unfold numP at g1
          split at g1
          · have h2 : -1000 * 2 - ((dgs B n 6 p 0).1 : Int) = e := by injection g1
            omega
          · cases g1
        exact wp_bind (w103b (show M2 142 46 < 0 by rw [g2.2.1]; exact hneg) (wp_some (erE e M2 g2 hneg (fun M3 g => kE e M3 g1 g))))
      · have hp2 := g3.pn
        have hE := g3.em (x := 0) (y := v) (by omega)
        refine wp_bind (w103 g3.g g3.cP (by omega) (wp_some ?_))
        refine (kO p2 _ (c + 1) _ g1 hE.z (by omega) (fun i hi => c3_st.trans ((em_a hi).trans (g4 i))) (m_num (c3_st.trans em_c)) ?_).mono (by omega)
        exact okM_snoc (c2 := c) (fun i q1 q2 => by omega) (fun i _ => rfl) (c3_st.trans em_c) (Or.inl rfl)
    | false =>
      rw [hd, if_neg (by decide)] at kE kO
      refine wp_pos rfl (wp_bind (w120 h0 h.f h.pP (wp_bind (w135 h0 h.f ?_))))
      rw [ltr_hr]
      cases hl2 : ltr wk (pkN B n p) with
      | none =>
        rw [hl2] at kE
        refine wp_pos rfl ?_
        rw [h.pP]
        exact wp_bind (w190 h.f h.g h.ib (by decide) (by omega) (fun M2 g1 g2 g3 => wp_some (erE _ M2 g1 (by omega) (fun M3 g => kE _ M3 rfl g))))
      | some j =>
        rw [hl2] at kO
        obtain ⟨hj1, hj2, hj3⟩ := ltr_ok hl2
        have hlt : p < n := pk_ne (fun z => (by decide : ∀ j : Nat, j < 11 → chrL j ≠ -1) j hj1 (hj2.trans z))
        refine wp_neg (show ¬ (1 : Int) = 0 by decide) (wp_bind (w120 h0 h.f h.pP (wp_bind (w103 h.g h.cP (by omega) ?_))))
        rw [emm_j (by decide : (44 : Nat) ≠ 48), h.pP, hr_pk hlt, ← hj2]
        refine wp_gd (by omega) (wp_mlet (wp_some ?_))
        have hE := h.eg (x := 1) (y := chrL j) (v := (p : Int) + 1) rfl hlt
        refine (kO (p + 1) _ (c + 1) _ rfl hE.z (by omega) (fun i hi => c3_st.trans (c3_st.trans (em_a hi))) (m_let (c3_st.trans (c3_st.trans em_c)) hj1 hj3) ?_).mono (by omega)
        exact okM_snoc (c2 := c) (fun i q1 q2 => by omega) (fun i _ => rfl) (c3_st.trans (c3_st.trans em_c)) (Or.inr (Or.inr ⟨rfl, j, hj1, rfl, hj3⟩))
theorem okM_app {m : Nat} (h1 : okM C wk c m) (h2 : okM C wk m c2) : okM C wk c c2 := fun i q1 q2 => by
  by_cases e : i < m
  · exact h1 i q1 e
  · exact h2 i (by omega) q2
theorem opE_t {x : Int} (hx : ¬ x = 0) : opE x a ++ S0 = x :: (opE 0 a ++ S0) := by
  unfold opE
  rw [if_neg hx, if_pos rfl]
  rfl
theorem opE_a {x : Int} (hx : ¬ x = 0) : opE 0 x ++ S0 = x :: S0 := by
  unfold opE
  rw [if_pos rfl, if_neg hx]
  rfl
theorem m_sumL {fac : Nat → Rs} (h0 : mH n B wk M0) (hF : fcP M0 c0 n wk o fac) (hok : ∀ p, p ≤ n → okR n wk p (fac p)) (hS : topS S0) (Mb : Mm) :
    ∀ (k p : Nat) (t a : Int) (sT sA : Sem) (c1 : Nat) (M : Mm) (Q : Mm → Prop), n < k + p → mW M0 c0 n p o (opE t a ++ S0) c1 M → (t = 0 ∨ tms t = true) → (a = 0 ∨ pls a = true) → c ≤ c1 → (∀ i, i < c → cm3 M i = cm3 Mb i) → pE (cm3 M) wk c c1 t sT a sA → okM (cm3 M) wk c c1 →
      (∀ (e : Int) (M2 : Mm), sumL B n fac k p t sT a sA = .inl e → mB M0 e M2 → Q M2) →
      (∀ (q : Nat) (s : Sem) (t2 a2 : Int) (sT2 sA2 sF : Sem) (c2 : Nat) (M2 : Mm), sumL B n fac k p t sT a sA = .inr (q, s) → s = cbE t2 sT2 a2 sA2 sF → (t2 = 0 ∨ tms t2 = true) → (a2 = 0 ∨ pls a2 = true) → tms (pkN B n q) = false → pls (pkN B n q) = false → mW M0 c0 n q o (opE t2 a2 ++ S0) c2 M2 → c ≤ c2 → (∀ i, i < c → cm3 M2 i = cm3 Mb i) → pD (cm3 M2) wk c c2 t2 sT2 a2 sA2 sF → okM (cm3 M2) wk c c2 → EA n q M2 Q) → EF n p M Q
  | 0, p, t, a, sT, sA, c1, M, Q, hk, h, _, _, _, _, _, _, _, _ => by
    have := h.pn
    omega
  | k + 1, p, t, a, sT, sA, c1, M, Q, hk, h, ht, ha, hc, hb, hp, ho, kE, kO => by
    have hn := h0.n160
    rw [sumL] at kE kO
    refine hF p _ c1 M Q h (fun e M2 q1 q2 => kE e M2 (by rw [q1]; rfl) q2) (fun q s c2 M2 q1 q2 q3 q4 q5 q6 => ?_)
    have hpq := (hok p h.pn).2 q s q1
    rw [q1] at kE kO
    have eqn : sb (.inr (q, s) : Rs) (fun q s => if tms (pkN B n q) then sumL B n fac k (q + 1) (pkN B n q) (if t = 0 then s else bopS t sT s) a sA
    else if pls (pkN B n q) then sumL B n fac k (q + 1) 0 zS (pkN B n q) (if a = 0 then (if t = 0 then s else bopS t sT s) else bopS a sA (if t = 0 then s else bopS t sT s))
    else .inr (q, if a = 0 then (if t = 0 then s else bopS t sT s) else bopS a sA (if t = 0 then s else bopS t sT s))) = (if tms (pkN B n q) then sumL B n fac k (q + 1) (pkN B n q) (if t = 0 then s else bopS t sT s) a sA
    else if pls (pkN B n q) then sumL B n fac k (q + 1) 0 zS (pkN B n q) (cbE t sT a sA s)
    else .inr (q, cbE t sT a sA s)) := rfl
    rw [eqn] at kE kO
    have hpd : pD (cm3 M2) wk c c2 t sT a sA s := ⟨c1, hp.cg q4, q3, q5⟩
    have hok2 : okM (cm3 M2) wk c c2 := okM_app (okM_cg ho (fun i _ h2 => q4 i h2)) q6
    have hb2 : ∀ i, i < c → cm3 M2 i = cm3 Mb i := fun i hi => (q4 i (by omega)).trans (hb i hi)
    cases htm : tms (pkN B n q) with
    | true =>
      rw [htm, if_pos rfl] at kE kO
      have hqn := tms_in htm
      have hv := tms_v htm
      have hpl : pls (pkN B n q) = false := by rcases hv with e | e | e <;> rw [e] <;> rfl
      unfold EA b61
      refine wp_bind (w124g q2.g (wp_neg (by decide) ?_))
      unfold f116
      refine wp_obnd (wp_bind (w120 h0 q2.f q2.pP (wp_bind (w133 ?_))))
      rw [tms_hr h0, htm]
      refine wp_neg (by decide) ?_
      unfold f116_19
      refine wp_bind (w128 ?_)
      rw [pls_hr h0, hpl]
      refine wp_bind (w177F hn q2 ht ha hS hpd hok2 (fun M3 c3 g1 g2 g3 g4 g5 => ?_))
      rw [hr_pk hqn]
      refine wp_bind (g1.puts hn hqn (fun M4 j1 j2 => wp_some ?_))
      try dsimp only
      refine wp_neg (by decide) (wp_some ?_)
      show Wp (iter _ (n + 2 - q) _) Q
      rw [show n + 2 - q = n + 3 - (q + 1) by omega]
      have hx : ¬ pkN B n q = 0 := by omega
      rw [← opE_t hx] at j1
      exact h_EF j1 hn (m_sumL h0 hF hok hS Mb k (q + 1) (pkN B n q) a (if t = 0 then s else bopS t sT s) sA c3 M4 Q (by omega) j1 (Or.inr htm) ha (by omega) (fun i hi => (j2 i).trans ((g3 i (by omega)).trans (hb2 i hi))) ((g4 _ hx).cg (fun i _ => j2 i)) (okM_cg g5 (fun i _ _ => j2 i)) kE kO)
    | false =>
      cases hpl : pls (pkN B n q) with
      | true =>
        rw [htm, if_neg (by decide), hpl, if_pos rfl] at kE kO
        have hqn := pls_in hpl
        have hv := pls_v hpl
        unfold EA b61
        refine wp_bind (w124g q2.g (wp_neg (by decide) ?_))
        unfold f116
        refine wp_obnd (wp_bind (w120 h0 q2.f q2.pP (wp_bind (w133 ?_))))
        rw [tms_hr h0, htm]
        refine wp_pos rfl (wp_bind (w128 ?_))
        rw [pls_hr h0, hpl]
        refine wp_neg (by decide) ?_
        unfold f116_19
        refine wp_bind (w128 ?_)
        rw [pls_hr h0, hpl]
        refine wp_bind (w177T hn q2 ht ha hS hpd hok2 (fun M3 c3 g1 g2 g3 g4 g5 => ?_))
        rw [hr_pk hqn]
        refine wp_bind (g1.puts hn hqn (fun M4 j1 j2 => wp_some ?_))
        try dsimp only
        refine wp_neg (by decide) (wp_some ?_)
        show Wp (iter _ (n + 2 - q) _) Q
        rw [show n + 2 - q = n + 3 - (q + 1) by omega]
        have hx : ¬ pkN B n q = 0 := by omega
        rw [← opE_a hx] at j1
        exact h_EF j1 hn (m_sumL h0 hF hok hS Mb k (q + 1) 0 (pkN B n q) zS (cbE t sT a sA s) c3 M4 Q (by omega) j1 (Or.inl rfl) (Or.inr hpl) (by omega) (fun i hi => (j2 i).trans ((g3 i (by omega)).trans (hb2 i hi))) ⟨c3, by omega, Nat.le_refl _, by rw [if_neg hx]; exact g4.cg (by omega) (fun i _ _ => j2 i), by rw [if_pos rfl]⟩ (okM_cg g5 (fun i _ _ => j2 i)) kE kO)
      | false =>
        rw [htm, if_neg (by decide), hpl, if_neg (by decide)] at kE kO
        exact kO q _ t a sT sA s c2 M2 rfl rfl ht ha htm hpl q2 (by omega) hb2 hpd hok2
theorem m_sum {fac : Nat → Rs} (h0 : mH n B wk M0) (hF : fcP M0 c0 n wk o fac) (hok : ∀ p, p ≤ n → okR n wk p (fac p)) : smP M0 c0 n B wk o (fun p => sumL B n fac n p 0 zS 0 zS) := by
  intro p S0 c M Q h hS kE kO
  have hcp := h.cp
  have hp1 : 1 ≤ p := by
    obtain ⟨x, r, rfl, _⟩ := hS
    rw [List.length_cons] at hcp
    omega
  exact m_sumL h0 hF hok hS M n p 0 0 zS zS c M Q (by omega) h (Or.inl rfl) (Or.inl rfl) (Nat.le_refl _) (fun _ _ => rfl) ⟨c, Nat.le_refl _, Nat.le_refl _, by rw [if_pos rfl], by rw [if_pos rfl]⟩ (fun i q1 q2 => by omega) kE kO
theorem m_sumD (h0 : mH n B wk M0) : ∀ (d o : Nat), o + d = 6 → smP M0 c0 n B wk o (sumD B n wk d)
  | 0, o, ho => m_sum (fac := facP B n wk none) h0 (m_fac h0 (by omega) (by rw [if_neg (by omega)])) (fun p hp => ok_fac h0.n160 hp (fun f h => by cases h))
  | d + 1, o, ho => m_sum (fac := facP B n wk (some (sumD B n wk d))) h0 (m_fac h0 (by omega) (by rw [if_pos (by omega)]; exact ⟨_, rfl, m_sumD h0 d (o + 1) (by omega), fun p hp => ok_sumD h0.n160 d p hp⟩)) (fun p hp => ok_fac h0.n160 hp (fun f h p hp => by
      cases h
      exact ok_sumD h0.n160 d p hp))
end MR3
