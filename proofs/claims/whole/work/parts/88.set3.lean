section SET3
variable {N S M M2 : Mm} {Ps : Nat → Mm} {l : List (Bool × Sem)}
theorem IV.clk (h : IV N S Ps l M) (hb : ∀ b, (b < 112 ∨ (118 < b ∧ b < 191) ∨ 196 < b) → b ≠ 142 → M2 b = M b) (hj : ∀ j, j ≠ 8 → j ≠ 9 → M2 142 j = M 142 j) (hc : ∃ r b, iClk r b M2) : IV N S Ps l M2 := by
  have hn := h.nw
  obtain ⟨h1, h2, ⟨t, d, h3⟩, ⟨ev, h4⟩, h5, _, h7, ⟨z, h8⟩⟩ := h
  exact ⟨h1.to (fun b _ => hb b (by omega) (by omega)) (fun j _ _ => hj j (by omega) (by omega)) (fun a _ _ => by rw [hb 144 (by omega) (by decide)]), h2.to (by omega) (by rw [hb 0 (by omega) (by decide)]) (fun b _ => hb b (by omega) (by omega)) (fun a _ => by rw [hb 144 (by omega) (by decide)]), ⟨t, d, h3.to (by rw [hb 3 (by omega) (by decide)]) (by rw [hb 2 (by omega) (by decide)]) (fun b _ => hb b (by omega) (by omega)) (hj 6 (by decide) (by decide)) (hj 52 (by decide) (by decide))⟩, ⟨ev, h4.to (fun b _ => hb b (by omega) (by omega)) (hj 7 (by decide) (by decide))⟩, h5.to (fun b _ => hb b (by omega) (by omega)), hc, h7.to (fun b _ => hb b (by omega) (by omega)), ⟨z, h8.to (by rw [hb 132 (by omega) (by decide)]) (hj 1 (by decide) (by decide)) (fun b _ => hb b (by omega) (by omega))⟩⟩
theorem IV.beg (h : IV N S Ps l M) (hb : ∀ b, b ≠ 126 → b ≠ 127 → b ≠ 156 → b ≠ 157 → M2 b = M b) (hc : iBeg M2) : IV N S Ps l M2 := by
  have hn := h.nw
  obtain ⟨h1, h2, ⟨t, d, h3⟩, ⟨ev, h4⟩, h5, ⟨r, b, h6⟩, _, ⟨z, h8⟩⟩ := h
  have e142 : M2 142 = M 142 := hb 142 (by decide) (by decide) (by decide) (by decide)
  have e144 : M2 144 = M 144 := hb 144 (by decide) (by decide) (by decide) (by decide)
  exact ⟨h1.to (fun b _ => hb b (by omega) (by omega) (by omega) (by omega)) (fun j _ _ => by rw [e142]) (fun a _ _ => by rw [e144]), h2.to (by omega) (by rw [hb 0 (by omega) (by decide) (by decide) (by decide)]) (fun b _ => hb b (by omega) (by omega) (by omega) (by omega)) (fun a _ => by rw [e144]), ⟨t, d, h3.to (by rw [hb 3 (by omega) (by decide) (by decide) (by decide)]) (by rw [hb 2 (by omega) (by decide) (by decide) (by decide)]) (fun b _ => hb b (by omega) (by omega) (by omega) (by omega)) (by rw [e142]) (by rw [e142])⟩, ⟨ev, h4.to (fun b _ => hb b (by omega) (by omega) (by omega) (by omega)) (by rw [e142])⟩, h5.to (fun b _ => hb b (by omega) (by omega) (by omega) (by omega)), ⟨r, b, h6.to (fun b _ => hb b (by omega) (by omega) (by omega) (by omega)) (by rw [e142]) (by rw [e142])⟩, hc, ⟨z, h8.to (by rw [hb 132 (by omega) (by decide) (by decide) (by decide)]) (by rw [e142]) (fun b _ => hb b (by omega) (by omega) (by omega) (by omega))⟩⟩
theorem IV.scr (h : IV N S Ps l M) (hb : ∀ b, b ≠ 103 → b ≠ 105 → b ≠ 188 → b ≠ 189 → M2 b = M b) (hc : iScr N (nwS S) M2) : IV N S Ps l M2 := by
  have hn := h.nw
  obtain ⟨h1, h2, ⟨t, d, h3⟩, ⟨ev, h4⟩, _, ⟨r, b, h6⟩, h7, ⟨z, h8⟩⟩ := h
  have e142 : M2 142 = M 142 := hb 142 (by decide) (by decide) (by decide) (by decide)
  have e144 : M2 144 = M 144 := hb 144 (by decide) (by decide) (by decide) (by decide)
  exact ⟨h1.to (fun b _ => hb b (by omega) (by omega) (by omega) (by omega)) (fun j _ _ => by rw [e142]) (fun a _ _ => by rw [e144]), h2.to (by omega) (by rw [hb 0 (by omega) (by decide) (by decide) (by decide)]) (fun b _ => hb b (by omega) (by omega) (by omega) (by omega)) (fun a _ => by rw [e144]), ⟨t, d, h3.to (by rw [hb 3 (by omega) (by decide) (by decide) (by decide)]) (by rw [hb 2 (by omega) (by decide) (by decide) (by decide)]) (fun b _ => hb b (by omega) (by omega) (by omega) (by omega)) (by rw [e142]) (by rw [e142])⟩, ⟨ev, h4.to (fun b _ => hb b (by omega) (by omega) (by omega) (by omega)) (by rw [e142])⟩, hc, ⟨r, b, h6.to (fun b _ => hb b (by omega) (by omega) (by omega) (by omega)) (by rw [e142]) (by rw [e142])⟩, h7.to (fun b _ => hb b (by omega) (by omega) (by omega) (by omega)), ⟨z, h8.to (by rw [hb 132 (by omega) (by decide) (by decide) (by decide)]) (by rw [e142]) (fun b _ => hb b (by omega) (by omega) (by omega) (by omega))⟩⟩
theorem c39 {x1 x2 : Int} (h : IV N S Ps l M) : Wp (f39 x1 x2 M) (fun r => JJ r.1 (f97 x1 x2 r.2)) := by
  have h14 := h.1.1.w14
  have h8 := h.1.1.n8
  have h9 := h.1.1.k9
  unfold f39
  by_cases h_w : 0 ≤ x1 ∧ x1 < nW N
  · by_cases h_v : 1 ≤ x2 ∧ x2 ≤ 1000
    · refine wp_bind (w215 h.e31 ?_)
      rw [if_pos h_w]
      refine wp_neg (by decide) ?_
      refine wp_bind (w80 ?_)
      rw [if_pos h_v]
      refine wp_neg (by decide) ?_
      obtain ⟨w, rfl⟩ := Int.eq_ofNat_of_zero_le h_w.1
      refine wp_gd (by omega) (wp_mlet (wp_some ?_))
      rw [Int.toNat_natCast]
      show JJ (1) (f97 (w : Int) x2 (ms M 19 w x2))
      unfold f97
      have f142 : ms M 19 w x2 142 = M 142 := ms_a (by decide)
      refine wp_bind (w136 ((congrFun f142 4).trans h.m4) (by omega) ?_)
      rw [if_pos h_w]
      refine wp_neg (by decide) ?_
      refine wp_bind (w143 ?_)
      rw [if_pos h_v]
      refine wp_neg (by decide) ?_
      rw [Int.toNat_natCast]
      refine wp_gd (by omega) (wp_mlet (jj (IV.G (h.net (N2 := ms N 19 w x2) (l2 := l) ⟨⟨by rw [ms_a (by decide)], by rw [ms_a (by decide)], by rw [ms_a (by decide)]⟩, fun b q1 q2 q3 => ms_a (by omega)⟩ (fun x hx => ?_) ?_ ?_ (fun x q1 q2 => ?_) ?_ ?_ ?_ (fun b q1 q2 q3 q4 q5 q6 q7 q8 => ?_) (fun j q1 q2 q3 => ?_) (fun a q1 q2 => ?_)))))
      · by_cases e : x = w
        · rw [e, ms_v]
          exact h_v
        · rw [ms_i e]
          exact (h.1.1.cw x hx).2.2.2.2.2.2
      · refine ⟨by rw [ms_a (by decide), ms_a (by decide), ms_a (by decide)]; exact h.1.2.2.1.1, fun b q1 q2 => ?_⟩
        rw [ms_a (by omega)]
        have := h.1.2.2.1.2 b q1 q2
        by_cases e : b = 19
        · subst e
          funext j
          unfold ms
          rw [this]
        · rw [ms_a e, ms_a e]
          exact this
      · obtain ⟨k1, k2, k3, k4, k5, k6⟩ := h.1.2.2.2.1
        have en : ∀ b, b ≠ 19 → ms N 19 w x2 b = N b := fun b hb => ms_a hb
        have em : ∀ b, b ≠ 19 → b ≠ 152 → ms (ms M 19 w x2) 152 w x2 b = M b := fun b q1 q2 => by rw [ms_a q2, ms_a q1]
        unfold nMd nN nW nK
        rw [en 3 (by decide), en 11 (by decide), en 12 (by decide), en 14 (by decide), en 15 (by decide), en 16 (by decide), en 17 (by decide), en 18 (by decide), en 20 (by decide), en 21 (by decide), en 22 (by decide), em 142 (by decide) (by decide), em 145 (by decide) (by decide), em 146 (by decide) (by decide), em 147 (by decide) (by decide), em 148 (by decide) (by decide), em 149 (by decide) (by decide), em 150 (by decide) (by decide), em 151 (by decide) (by decide), em 153 (by decide) (by decide), em 154 (by decide) (by decide), em 155 (by decide) (by decide)]
        refine ⟨k1, k2, k3, k4, fun x hx => ?_, k6⟩
        obtain ⟨a1, a2, a3, a4, a5, a6⟩ := k5 x hx
        refine ⟨a1, a2, a3, a4, a5, ?_⟩
        by_cases e : x = w
        · rw [e, ms_v, ms_v]
        · rw [ms_i e, ms_i e, ms_a (by decide)]
          exact a6
      · rw [ms_i (by omega), ms_a (by decide)]
        exact h.1.2.2.2.2.2.2.1 x q1 q2
      · repeat rw [ms_a (by decide)]
        exact h.1.2.2.2.2.2.2.2.2
      · obtain ⟨t, d2, hT⟩ := h.2.2.1
        exact ⟨t, d2, hT.to (by rw [ms_a (by decide), ms_a (by decide)]) (by rw [ms_a (by decide), ms_a (by decide)]) (fun b q => by rw [ms_a (by omega), ms_a (by omega)]) (by rw [ms_a (by decide), ms_a (by decide)]) (by rw [ms_a (by decide), ms_a (by decide)])⟩
      · obtain ⟨z, hz⟩ := h.2.2.2.2.2.2.2
        exact ⟨z, hz.to (by rw [ms_a (by decide), ms_a (by decide)]) (by rw [ms_a (by decide), ms_a (by decide)]) (fun b q => by rw [ms_a (by omega), ms_a (by omega)])⟩
      · rw [ms_a (by omega), ms_a (by omega)]
      · rw [ms_a (by decide), ms_a (by decide)]
      · rw [ms_a (by decide), ms_a (by decide)]
    · refine wp_bind (w215 h.e31 ?_)
      rw [if_pos h_w]
      refine wp_neg (by decide) ?_
      refine wp_bind (w80 ?_)
      rw [if_neg h_v]
      refine wp_pos rfl ?_
      refine wp_some ?_
      show JJ (0) (f97 x1 x2 M)
      unfold f97
      have f142 : M 142 = M 142 := rfl
      refine wp_bind (w136 ((congrFun f142 4).trans h.m4) (by omega) ?_)
      rw [if_pos h_w]
      refine wp_neg (by decide) ?_
      refine wp_bind (w143 ?_)
      rw [if_neg h_v]
      refine wp_pos rfl ?_
      exact wp_some ⟨rfl, h.G⟩
  · refine wp_bind (w215 h.e31 ?_)
    rw [if_neg h_w]
    refine wp_pos rfl ?_
    refine wp_some ?_
    show JJ (0) (f97 x1 x2 M)
    unfold f97
    have f142 : M 142 = M 142 := rfl
    refine wp_bind (w136 ((congrFun f142 4).trans h.m4) (by omega) ?_)
    rw [if_neg h_w]
    refine wp_pos rfl ?_
    exact wp_some ⟨rfl, h.G⟩
theorem c36 {x1 x2 x3 : Int} (h : IV N S Ps l M) : Wp (f36 x1 x2 x3 M) (fun r => JJ r.1 (f92 x1 x2 x3 r.2)) := by
  have h14 := h.1.1.w14
  have h8 := h.1.1.n8
  have h9 := h.1.1.k9
  unfold f36
  by_cases h_k : 0 ≤ x1 ∧ x1 < 4
  · by_cases h_o : ¬ x3 < x2
    · by_cases h_a : -100 ≤ x2 ∧ x2 ≤ 100
      · by_cases h_b : -100 ≤ x3 ∧ x3 ≤ 100
        · refine wp_bind (w56 ?_)
          rw [if_pos h_k]
          refine wp_neg (by decide) ?_
          refine wp_neg h_o ?_
          refine wp_bind (w80 ?_)
          rw [if_pos h_a]
          refine wp_neg (by decide) ?_
          refine wp_bind (w80 ?_)
          rw [if_pos h_b]
          refine wp_neg (by decide) ?_
          obtain ⟨k, rfl⟩ := Int.eq_ofNat_of_zero_le h_k.1
          refine wp_gd (by omega) (wp_mlet (wp_mlet (wp_some ?_)))
          rw [Int.toNat_natCast]
          have h_c : x2 ≤ x3 ∧ x3 ≤ 100 := by omega
          show JJ (1) (f92 (k : Int) x2 x3 (ms (ms M 113 k x2) 114 k x3))
          unfold f92
          refine wp_bind (w126 ?_)
          rw [if_pos h_k]
          refine wp_neg (by decide) ?_
          refine wp_bind (w143 ?_)
          rw [if_pos h_a]
          refine wp_neg (by decide) ?_
          refine wp_bind (w143 ?_)
          rw [if_pos h_c]
          refine wp_neg (by decide) ?_
          obtain ⟨r, b, g1, g2, g3, g4, g5, g6, g7, g8, g9⟩ := h.2.2.2.2.2.1
          rw [Int.toNat_natCast]
          refine wp_gd (by omega) (wp_mlet (wp_mlet (jj (IV.G (h.clk (fun b q1 q2 => ?_) (fun j q1 q2 => ?_) ⟨r, b, ?_, ?_, g3, ?_, ?_, g6, fun i hi => ?_, fun i hi => ?_, fun i hi => ?_⟩)))))
          · rw [ms_a (by omega), ms_a (by omega), ms_a (by omega), ms_a (by omega)]
          · repeat rw [ms_a (by decide)]
          · repeat rw [ms_a (by decide)]
            exact g1
          · repeat rw [ms_a (by decide)]
            exact g2
          · repeat rw [ms_a (by decide)]
            exact g4
          · repeat rw [ms_a (by decide)]
            exact g5
          · have hg := g7 i hi
            have e113 : ms (ms (ms (ms M 113 k x2) 114 k x3) 191 k x2) 192 k x3 113 i = ms M 113 k x2 113 i := by rw [ms_a (by decide), ms_a (by decide), ms_a (by decide)]
            have e114 : ms (ms (ms (ms M 113 k x2) 114 k x3) 191 k x2) 192 k x3 114 i = ms (ms M 113 k x2) 114 k x3 114 i := by rw [ms_a (by decide), ms_a (by decide)]
            have e191 : ms (ms (ms (ms M 113 k x2) 114 k x3) 191 k x2) 192 k x3 191 i = ms (ms (ms M 113 k x2) 114 k x3) 191 k x2 191 i := by rw [ms_a (by decide)]
            rw [e113, e114, e191]
            by_cases e : i = k
            · rw [e, ms_v, ms_v, ms_v, ms_v]
              omega
            · rw [ms_i e, ms_i e, ms_i e, ms_i e]
              repeat rw [ms_a (by decide)]
              exact hg
          · repeat rw [ms_a (by decide)]
            exact g8 i hi
          · repeat rw [ms_a (by decide)]
            exact g9 i hi
        · refine wp_bind (w56 ?_)
          rw [if_pos h_k]
          refine wp_neg (by decide) ?_
          refine wp_neg h_o ?_
          refine wp_bind (w80 ?_)
          rw [if_pos h_a]
          refine wp_neg (by decide) ?_
          refine wp_bind (w80 ?_)
          rw [if_neg h_b]
          refine wp_pos rfl ?_
          refine wp_some ?_
          show JJ (0) (f92 x1 x2 x3 M)
          unfold f92
          have f142 : M 142 = M 142 := rfl
          refine wp_bind (w126 ?_)
          rw [if_pos h_k]
          refine wp_neg (by decide) ?_
          refine wp_bind (w143 ?_)
          rw [if_pos h_a]
          refine wp_neg (by decide) ?_
          by_cases h_c : x2 ≤ x3 ∧ x3 ≤ 100
          · refine wp_bind (w143 ?_)
            rw [if_pos h_c]
            refine wp_neg (by decide) ?_
            exact (show False by omega).elim
          · refine wp_bind (w143 ?_)
            rw [if_neg h_c]
            refine wp_pos rfl ?_
            exact wp_some ⟨rfl, h.G⟩
      · refine wp_bind (w56 ?_)
        rw [if_pos h_k]
        refine wp_neg (by decide) ?_
        refine wp_neg h_o ?_
        refine wp_bind (w80 ?_)
        rw [if_neg h_a]
        refine wp_pos rfl ?_
        refine wp_some ?_
        show JJ (0) (f92 x1 x2 x3 M)
        unfold f92
        have f142 : M 142 = M 142 := rfl
        refine wp_bind (w126 ?_)
        rw [if_pos h_k]
        refine wp_neg (by decide) ?_
        refine wp_bind (w143 ?_)
        rw [if_neg h_a]
        refine wp_pos rfl ?_
        exact wp_some ⟨rfl, h.G⟩
    · refine wp_bind (w56 ?_)
      rw [if_pos h_k]
      refine wp_neg (by decide) ?_
      refine wp_pos (Decidable.of_not_not h_o) ?_
      refine wp_some ?_
      show JJ (0) (f92 x1 x2 x3 M)
      unfold f92
      have f142 : M 142 = M 142 := rfl
      refine wp_bind (w126 ?_)
      rw [if_pos h_k]
      refine wp_neg (by decide) ?_
      by_cases h_a : -100 ≤ x2 ∧ x2 ≤ 100
      · refine wp_bind (w143 ?_)
        rw [if_pos h_a]
        refine wp_neg (by decide) ?_
        by_cases h_c : x2 ≤ x3 ∧ x3 ≤ 100
        · refine wp_bind (w143 ?_)
          rw [if_pos h_c]
          refine wp_neg (by decide) ?_
          exact (show False by omega).elim
        · refine wp_bind (w143 ?_)
          rw [if_neg h_c]
          refine wp_pos rfl ?_
          exact wp_some ⟨rfl, h.G⟩
      · refine wp_bind (w143 ?_)
        rw [if_neg h_a]
        refine wp_pos rfl ?_
        exact wp_some ⟨rfl, h.G⟩
  · refine wp_bind (w56 ?_)
    rw [if_neg h_k]
    refine wp_pos rfl ?_
    refine wp_some ?_
    show JJ (0) (f92 x1 x2 x3 M)
    unfold f92
    have f142 : M 142 = M 142 := rfl
    refine wp_bind (w126 ?_)
    rw [if_neg h_k]
    refine wp_pos rfl ?_
    exact wp_some ⟨rfl, h.G⟩
theorem c33 {x1 x2 x3 : Int} (h : IV N S Ps l M) (h2 : x2 = 0 ∨ x2 = 1) : Wp (f33 x1 x2 x3 M) (fun r => JJ r.1 (f86 x1 x2 x3 r.2)) := by
  have h14 := h.1.1.w14
  have h8 := h.1.1.n8
  have h9 := h.1.1.k9
  unfold f33
  by_cases h_k : 0 ≤ x1 ∧ x1 < nK N
  · by_cases h_v : 1 ≤ x3 ∧ x3 ≤ 100
    · refine wp_bind (w216 h.e32 ?_)
      rw [if_pos h_k]
      refine wp_neg (by decide) ?_
      refine wp_bind (w80 ?_)
      rw [if_pos h_v]
      refine wp_neg (by decide) ?_
      obtain ⟨k, rfl⟩ := Int.eq_ofNat_of_zero_le h_k.1
      refine wp_gd (by omega) (wp_gd h2 (wp_mlet (wp_mlet (wp_some ?_))))
      rw [Int.toNat_natCast]
      show JJ (1) (f86 (k : Int) x2 x3 (ms (ms M 126 k x2) 127 k x3))
      unfold f86
      have f142 : ms (ms M 126 k x2) 127 k x3 142 = M 142 := by rw [ms_a (by decide), ms_a (by decide)]
      refine wp_bind (w137 ((congrFun f142 5).trans h.m5) (by omega) ?_)
      rw [if_pos h_k]
      refine wp_neg (by decide) ?_
      refine wp_bind (w143 ?_)
      rw [if_pos h_v]
      refine wp_neg (by decide) ?_
      rw [Int.toNat_natCast]
      refine wp_gd (by omega) (wp_gd h2 (wp_mlet (wp_mlet (jj (IV.G (h.beg (fun b q1 q2 q3 q4 => ?_) (fun i hi => ?_)))))))
      · rw [ms_a q4, ms_a q3, ms_a q2, ms_a q1]
      · have hg := h.2.2.2.2.2.2.1 i hi
        have e126 : ms (ms (ms (ms M 126 k x2) 127 k x3) 156 k x2) 157 k x3 126 i = ms M 126 k x2 126 i := by rw [ms_a (by decide), ms_a (by decide), ms_a (by decide)]
        have e127 : ms (ms (ms (ms M 126 k x2) 127 k x3) 156 k x2) 157 k x3 127 i = ms (ms M 126 k x2) 127 k x3 127 i := by rw [ms_a (by decide), ms_a (by decide)]
        have e156 : ms (ms (ms (ms M 126 k x2) 127 k x3) 156 k x2) 157 k x3 156 i = ms (ms (ms M 126 k x2) 127 k x3) 156 k x2 156 i := by rw [ms_a (by decide)]
        rw [e126, e127, e156]
        by_cases e : i = k
        · rw [e, ms_v, ms_v, ms_v, ms_v]
          exact ⟨⟨rfl, h2⟩, rfl, h_v⟩
        · rw [ms_i e, ms_i e, ms_i e, ms_i e]
          repeat rw [ms_a (by decide)]
          exact hg
    · refine wp_bind (w216 h.e32 ?_)
      rw [if_pos h_k]
      refine wp_neg (by decide) ?_
      refine wp_bind (w80 ?_)
      rw [if_neg h_v]
      refine wp_pos rfl ?_
      refine wp_some ?_
      show JJ (0) (f86 x1 x2 x3 M)
      unfold f86
      have f142 : M 142 = M 142 := rfl
      refine wp_bind (w137 ((congrFun f142 5).trans h.m5) (by omega) ?_)
      rw [if_pos h_k]
      refine wp_neg (by decide) ?_
      refine wp_bind (w143 ?_)
      rw [if_neg h_v]
      refine wp_pos rfl ?_
      exact wp_some ⟨rfl, h.G⟩
  · refine wp_bind (w216 h.e32 ?_)
    rw [if_neg h_k]
    refine wp_pos rfl ?_
    refine wp_some ?_
    show JJ (0) (f86 x1 x2 x3 M)
    unfold f86
    have f142 : M 142 = M 142 := rfl
    refine wp_bind (w137 ((congrFun f142 5).trans h.m5) (by omega) ?_)
    rw [if_neg h_k]
    refine wp_pos rfl ?_
    exact wp_some ⟨rfl, h.G⟩
theorem c65 {x1 x2 : Int} (h : IV N S Ps l M) : Wp (f65 x1 x2 M) (fun r => JJ r.1 (f157 x1 x2 r.2)) := by
  have h14 := h.1.1.w14
  have h8 := h.1.1.n8
  have h9 := h.1.1.k9
  obtain ⟨r, b, hr⟩ := h.2.2.2.2.2.1
  have hr40 := hr.2.2.1
  have hr1 := hr.1
  unfold f65
  by_cases h_k : 0 ≤ x1 ∧ x1 < 4
  · by_cases h_v : 0 ≤ x2 ∧ x2 ≤ 9999
    · by_cases h_n : r < 40
      · refine wp_bind (w56 ?_)
        rw [if_pos h_k]
        refine wp_neg (by decide) ?_
        refine wp_bind (w80 ?_)
        rw [if_pos h_v]
        refine wp_neg (by decide) ?_
        refine wp_pos (show M 112 0 < 40 by omega) ?_
        obtain ⟨g1, g2, g3, g4, g5, g6, g7, g8, g9⟩ := id hr
        unfold f198
        rw [g1, Int.toNat_natCast]
        refine wp_obnd (wp_gd (by omega) (wp_mlet ?_))
        rw [ms_a (by decide : (112 : Nat) ≠ 115), g1, Int.toNat_natCast]
        refine wp_gd (by omega) (wp_mlet ?_)
        rw [ms_a (by decide : (112 : Nat) ≠ 116), ms_a (by decide : (112 : Nat) ≠ 115), g1]
        refine wp_gd (by omega) (wp_mlet ?_)
        rw [ms_v]
        refine wp_gd (by omega) (wp_some (wp_some ?_))
        show JJ ((r : Int) + 1 - 1) (f157 x1 x2 (ms (ms (ms M 115 r x1) 116 r x2) 112 0 ((r : Int) + 1)))
        unfold f157
        have f142 : ms (ms (ms M 115 r x1) 116 r x2) 112 0 ((r : Int) + 1) 142 = M 142 := by rw [ms_a (by decide), ms_a (by decide), ms_a (by decide)]
        refine wp_neg (by rw [f142, hr.2.1]; omega) ?_
        refine wp_bind (w126 ?_)
        rw [if_pos h_k]
        refine wp_neg (by decide) ?_
        refine wp_bind (w143 ?_)
        rw [if_pos h_v]
        refine wp_neg (by decide) ?_
        have f8 : ms (ms (ms M 115 r x1) 116 r x2) 112 0 ((r : Int) + 1) 142 8 = r := (congrFun f142 8).trans g2
        rw [f8, Int.toNat_natCast]
        refine wp_gd (by omega) (wp_mlet ?_)
        rw [ms_a (by decide : (142 : Nat) ≠ 193), f8, Int.toNat_natCast]
        refine wp_gd (by omega) (wp_mlet ?_)
        rw [ms_a (by decide : (142 : Nat) ≠ 194), ms_a (by decide : (142 : Nat) ≠ 193), f8]
        refine wp_gd (by omega) (wp_mlet ?_)
        rw [ms_v]
        refine wp_gd (by omega) (jj (IV.G (h.clk (fun b q1 q2 => ?_) (fun j q1 q2 => ?_) ⟨r + 1, b, ?_, ?_, by omega, ?_, ?_, g6, fun i hi => ?_, fun i hi => ?_, fun i hi => ?_⟩)))
        · rw [ms_a (by omega), ms_a (by omega), ms_a (by omega), ms_a (by omega), ms_a (by omega), ms_a (by omega)]
        · rw [ms_i q1]
          repeat rw [ms_a (by decide)]
        · rw [ms_a (by decide), ms_a (by decide), ms_a (by decide), ms_v]
          omega
        · rw [ms_v]
          omega
        · rw [ms_a (by decide), ms_a (by decide), ms_a (by decide), ms_i (by decide), ms_a (by decide), ms_a (by decide)]
          exact g4
        · rw [ms_i (by decide)]
          repeat rw [ms_a (by decide)]
          exact g5
        · repeat rw [ms_a (by decide)]
          exact g7 i hi
        · have e115 : ms (ms (ms (ms (ms (ms M 115 r x1) 116 r x2) 112 0 ((r : Int) + 1)) 193 r x1) 194 r x2) 142 8 ((r : Int) + 1) 115 i = ms M 115 r x1 115 i := by rw [ms_a (by decide), ms_a (by decide), ms_a (by decide), ms_a (by decide), ms_a (by decide)]
          have e116 : ms (ms (ms (ms (ms (ms M 115 r x1) 116 r x2) 112 0 ((r : Int) + 1)) 193 r x1) 194 r x2) 142 8 ((r : Int) + 1) 116 i = ms (ms M 115 r x1) 116 r x2 116 i := by rw [ms_a (by decide), ms_a (by decide), ms_a (by decide), ms_a (by decide)]
          have e193 : ms (ms (ms (ms (ms (ms M 115 r x1) 116 r x2) 112 0 ((r : Int) + 1)) 193 r x1) 194 r x2) 142 8 ((r : Int) + 1) 193 i = ms (ms (ms (ms M 115 r x1) 116 r x2) 112 0 ((r : Int) + 1)) 193 r x1 193 i := by rw [ms_a (by decide), ms_a (by decide)]
          have e194 : ms (ms (ms (ms (ms (ms M 115 r x1) 116 r x2) 112 0 ((r : Int) + 1)) 193 r x1) 194 r x2) 142 8 ((r : Int) + 1) 194 i = ms (ms (ms (ms (ms M 115 r x1) 116 r x2) 112 0 ((r : Int) + 1)) 193 r x1) 194 r x2 194 i := by rw [ms_a (by decide)]
          rw [e115, e116, e193, e194]
          by_cases e : i = r
          · rw [e, ms_v, ms_v, ms_v, ms_v]
            exact ⟨rfl, rfl, by omega, by omega⟩
          · rw [ms_i e, ms_i e, ms_i e, ms_i e]
            repeat rw [ms_a (by decide)]
            exact g8 i (by omega)
        · repeat rw [ms_a (by decide)]
          have := g9 i hi
          omega
      · refine wp_bind (w56 ?_)
        rw [if_pos h_k]
        refine wp_neg (by decide) ?_
        refine wp_bind (w80 ?_)
        rw [if_pos h_v]
        refine wp_neg (by decide) ?_
        refine wp_neg (show ¬ M 112 0 < 40 by omega) ?_
        refine wp_some ?_
        show JJ (-1) (f157 x1 x2 M)
        unfold f157
        have f142 : M 142 = M 142 := rfl
        refine wp_pos (by rw [hr.2.1]; omega) ?_
        exact wp_some ⟨rfl, h.G⟩
    · refine wp_bind (w56 ?_)
      rw [if_pos h_k]
      refine wp_neg (by decide) ?_
      refine wp_bind (w80 ?_)
      rw [if_neg h_v]
      refine wp_pos rfl ?_
      refine wp_some ?_
      show JJ (-1) (f157 x1 x2 M)
      unfold f157
      have f142 : M 142 = M 142 := rfl
      by_cases h_n : r < 40
      · refine wp_neg (by rw [f142, hr.2.1]; omega) ?_
        refine wp_bind (w126 ?_)
        rw [if_pos h_k]
        refine wp_neg (by decide) ?_
        refine wp_bind (w143 ?_)
        rw [if_neg h_v]
        refine wp_pos rfl ?_
        exact wp_some ⟨rfl, h.G⟩
      · refine wp_pos (by rw [hr.2.1]; omega) ?_
        exact wp_some ⟨rfl, h.G⟩
  · refine wp_bind (w56 ?_)
    rw [if_neg h_k]
    refine wp_pos rfl ?_
    refine wp_some ?_
    show JJ (-1) (f157 x1 x2 M)
    unfold f157
    have f142 : M 142 = M 142 := rfl
    by_cases h_n : r < 40
    · refine wp_neg (by rw [f142, hr.2.1]; omega) ?_
      refine wp_bind (w126 ?_)
      rw [if_neg h_k]
      refine wp_pos rfl ?_
      exact wp_some ⟨rfl, h.G⟩
    · refine wp_pos (by rw [hr.2.1]; omega) ?_
      exact wp_some ⟨rfl, h.G⟩
theorem c32 {x1 x2 : Int} (h : IV N S Ps l M) : Wp (f32 x1 x2 M) (fun r => JJ r.1 (f85 x1 x2 r.2)) := by
  have h14 := h.1.1.w14
  have h8 := h.1.1.n8
  have h9 := h.1.1.k9
  obtain ⟨r, b, hr⟩ := h.2.2.2.2.2.1
  have hr40 := hr.2.2.1
  have hr1 := hr.1
  have hr4 := hr.2.2.2.1
  have hb100 := hr.2.2.2.2.2.1
  unfold f32
  by_cases h_x : 0 ≤ x1 ∧ x1 < r
  · by_cases h_y : 0 ≤ x2 ∧ x2 < r
    · by_cases h_d : ¬ x1 = x2
      · by_cases h_n : b < 100
        · refine wp_bind (w203 hr.1 ?_)
          rw [if_pos h_x]
          refine wp_neg (by decide) ?_
          refine wp_bind (w203 hr.1 ?_)
          rw [if_pos h_y]
          refine wp_neg (by decide) ?_
          refine wp_neg h_d ?_
          refine wp_pos (show M 112 1 < 100 by omega) ?_
          obtain ⟨g1, g2, g3, g4, g5, g6, g7, g8, g9⟩ := id hr
          unfold f199
          rw [g4, Int.toNat_natCast]
          refine wp_bind (wp_gd (by omega) (wp_mlet ?_))
          rw [ms_a (by decide : (112 : Nat) ≠ 117), g4, Int.toNat_natCast]
          refine wp_gd (by omega) (wp_mlet ?_)
          rw [ms_a (by decide : (112 : Nat) ≠ 118), ms_a (by decide : (112 : Nat) ≠ 117), g4]
          refine wp_gd (by omega) (wp_mlet (wp_some (wp_some ?_)))
          show JJ (1) (f85 x1 x2 (ms (ms (ms M 117 b x1) 118 b x2) 112 1 ((b : Int) + 1)))
          unfold f85
          have f142 : ms (ms (ms M 117 b x1) 118 b x2) 112 1 ((b : Int) + 1) 142 = M 142 := by rw [ms_a (by decide), ms_a (by decide), ms_a (by decide)]
          refine wp_neg (by rw [f142, hr.2.2.2.2.1]; omega) ?_
          refine wp_bind (w129 ((congrFun f142 8).trans hr.2.1) (by omega) ?_)
          rw [if_pos h_x]
          refine wp_neg (by decide) ?_
          refine wp_bind (w129 ((congrFun f142 8).trans hr.2.1) (by omega) ?_)
          rw [if_pos h_y]
          refine wp_neg (by decide) ?_
          refine wp_neg h_d ?_
          have f8 : ms (ms (ms M 117 b x1) 118 b x2) 112 1 ((b : Int) + 1) 142 9 = b := (congrFun f142 9).trans g5
          rw [f8, Int.toNat_natCast]
          refine wp_gd (by omega) (wp_mlet ?_)
          rw [ms_a (by decide : (142 : Nat) ≠ 195), f8, Int.toNat_natCast]
          refine wp_gd (by omega) (wp_mlet ?_)
          rw [ms_a (by decide : (142 : Nat) ≠ 196), ms_a (by decide : (142 : Nat) ≠ 195), f8]
          refine wp_gd (by omega) (wp_mlet (jj (IV.G (h.clk (fun c q1 q2 => ?_) (fun j q1 q2 => ?_) ⟨r, b + 1, ?_, ?_, g3, ?_, ?_, by omega, fun i hi => ?_, fun i hi => ?_, fun i hi => ?_⟩))))
          · rw [ms_a (by omega), ms_a (by omega), ms_a (by omega), ms_a (by omega), ms_a (by omega), ms_a (by omega)]
          · rw [ms_i q2]
            repeat rw [ms_a (by decide)]
          · rw [ms_a (by decide), ms_a (by decide), ms_a (by decide), ms_i (by decide), ms_a (by decide), ms_a (by decide)]
            exact g1
          · rw [ms_i (by decide)]
            repeat rw [ms_a (by decide)]
            exact g2
          · rw [ms_a (by decide), ms_a (by decide), ms_a (by decide), ms_v]
            omega
          · rw [ms_v]
            omega
          · repeat rw [ms_a (by decide)]
            exact g7 i hi
          · repeat rw [ms_a (by decide)]
            exact g8 i hi
          · have e115 : ms (ms (ms (ms (ms (ms M 117 b x1) 118 b x2) 112 1 ((b : Int) + 1)) 195 b x1) 196 b x2) 142 9 ((b : Int) + 1) 117 i = ms M 117 b x1 117 i := by rw [ms_a (by decide), ms_a (by decide), ms_a (by decide), ms_a (by decide), ms_a (by decide)]
            have e116 : ms (ms (ms (ms (ms (ms M 117 b x1) 118 b x2) 112 1 ((b : Int) + 1)) 195 b x1) 196 b x2) 142 9 ((b : Int) + 1) 118 i = ms (ms M 117 b x1) 118 b x2 118 i := by rw [ms_a (by decide), ms_a (by decide), ms_a (by decide), ms_a (by decide)]
            have e193 : ms (ms (ms (ms (ms (ms M 117 b x1) 118 b x2) 112 1 ((b : Int) + 1)) 195 b x1) 196 b x2) 142 9 ((b : Int) + 1) 195 i = ms (ms (ms (ms M 117 b x1) 118 b x2) 112 1 ((b : Int) + 1)) 195 b x1 195 i := by rw [ms_a (by decide), ms_a (by decide)]
            have e194 : ms (ms (ms (ms (ms (ms M 117 b x1) 118 b x2) 112 1 ((b : Int) + 1)) 195 b x1) 196 b x2) 142 9 ((b : Int) + 1) 196 i = ms (ms (ms (ms (ms M 117 b x1) 118 b x2) 112 1 ((b : Int) + 1)) 195 b x1) 196 b x2 196 i := by rw [ms_a (by decide)]
            rw [e115, e116, e193, e194]
            by_cases e : i = b
            · rw [e, ms_v, ms_v, ms_v, ms_v]
              exact ⟨rfl, rfl, by omega, by omega⟩
            · rw [ms_i e, ms_i e, ms_i e, ms_i e]
              repeat rw [ms_a (by decide)]
              exact g9 i (by omega)
        · refine wp_bind (w203 hr.1 ?_)
          rw [if_pos h_x]
          refine wp_neg (by decide) ?_
          refine wp_bind (w203 hr.1 ?_)
          rw [if_pos h_y]
          refine wp_neg (by decide) ?_
          refine wp_neg h_d ?_
          refine wp_neg (show ¬ M 112 1 < 100 by omega) ?_
          refine wp_some ?_
          show JJ (0) (f85 x1 x2 M)
          unfold f85
          have f142 : M 142 = M 142 := rfl
          refine wp_pos (by rw [hr.2.2.2.2.1]; omega) ?_
          exact wp_some ⟨rfl, h.G⟩
      · refine wp_bind (w203 hr.1 ?_)
        rw [if_pos h_x]
        refine wp_neg (by decide) ?_
        refine wp_bind (w203 hr.1 ?_)
        rw [if_pos h_y]
        refine wp_neg (by decide) ?_
        refine wp_pos (Decidable.of_not_not h_d) ?_
        refine wp_some ?_
        show JJ (0) (f85 x1 x2 M)
        unfold f85
        have f142 : M 142 = M 142 := rfl
        by_cases h_n : b < 100
        · refine wp_neg (by rw [f142, hr.2.2.2.2.1]; omega) ?_
          refine wp_bind (w129 ((congrFun f142 8).trans hr.2.1) (by omega) ?_)
          rw [if_pos h_x]
          refine wp_neg (by decide) ?_
          refine wp_bind (w129 ((congrFun f142 8).trans hr.2.1) (by omega) ?_)
          rw [if_pos h_y]
          refine wp_neg (by decide) ?_
          refine wp_pos (Decidable.of_not_not h_d) ?_
          exact wp_some ⟨rfl, h.G⟩
        · refine wp_pos (by rw [hr.2.2.2.2.1]; omega) ?_
          exact wp_some ⟨rfl, h.G⟩
    · refine wp_bind (w203 hr.1 ?_)
      rw [if_pos h_x]
      refine wp_neg (by decide) ?_
      refine wp_bind (w203 hr.1 ?_)
      rw [if_neg h_y]
      refine wp_pos rfl ?_
      refine wp_some ?_
      show JJ (0) (f85 x1 x2 M)
      unfold f85
      have f142 : M 142 = M 142 := rfl
      by_cases h_n : b < 100
      · refine wp_neg (by rw [f142, hr.2.2.2.2.1]; omega) ?_
        refine wp_bind (w129 ((congrFun f142 8).trans hr.2.1) (by omega) ?_)
        rw [if_pos h_x]
        refine wp_neg (by decide) ?_
        refine wp_bind (w129 ((congrFun f142 8).trans hr.2.1) (by omega) ?_)
        rw [if_neg h_y]
        refine wp_pos rfl ?_
        exact wp_some ⟨rfl, h.G⟩
      · refine wp_pos (by rw [hr.2.2.2.2.1]; omega) ?_
        exact wp_some ⟨rfl, h.G⟩
  · refine wp_bind (w203 hr.1 ?_)
    rw [if_neg h_x]
    refine wp_pos rfl ?_
    refine wp_some ?_
    show JJ (0) (f85 x1 x2 M)
    unfold f85
    have f142 : M 142 = M 142 := rfl
    by_cases h_n : b < 100
    · refine wp_neg (by rw [f142, hr.2.2.2.2.1]; omega) ?_
      refine wp_bind (w129 ((congrFun f142 8).trans hr.2.1) (by omega) ?_)
      rw [if_neg h_x]
      refine wp_pos rfl ?_
      exact wp_some ⟨rfl, h.G⟩
    · refine wp_pos (by rw [hr.2.2.2.2.1]; omega) ?_
      exact wp_some ⟨rfl, h.G⟩
end SET3
