theorem bd_kq {N S : Mm} {i : Nat} (h7 : sz N S i ≤ 7) : ∀ c, sz N S i ≤ c → c < 14 → bdB (fun r => mX N S i r (kq (sz N S i) c)) (sz N S i) 16000 := fun c h1 h2 => by
  refine ⟨fun r => if c = 7 + r then 1 else 0, fun _ => 0, fun r hr => ⟨by show (0 : Int) ≤ if c = 7 + r then 1 else 0; split <;> decide, Int.le_refl 0, ?_⟩, ?_, ?_⟩
  · show mX N S i r (kq (sz N S i) c) = (if c = 7 + r then 1 else 0) - 0
    rw [mX_kq h7 hr h2, if_neg (c := c < sz N S i) (by omega)]
    omega
  · have := sm_mono (f := fun r => if c = 7 + r then (1 : Int) else 0) (g := fun r => if r = c - 7 then 1 else 0) (n := sz N S i) (fun r _ => by
      by_cases e : c = 7 + r
      · rw [if_pos e, if_pos (by omega)]
        decide
      · rw [if_neg e]
        split <;> decide)
    rw [sm_one] at this
    have h9 : (if c - 7 < sz N S i then (1 : Int) else 0) ≤ 1 := by split <;> decide
    omega
  · rw [sm_zero (fun _ _ => rfl)]
    decide
section MF
variable {N S M : Mm} {z i : Nat}
theorem psh_b (hN : NC N) (hS : sV N S) {s : Nat} (hs : s < nN N) : -16000 ≤ psh N S s ∧ psh N S s ≤ 16000 ∧ gS N S s ≤ 16000 := by
  have h1 := sm_ge1 (f := fun t => if isl N S t = isl N S s then gS N S t else 0) hs (fun t _ => by have := gS_nn hN hS t; split <;> omega)
  have h2 := gS_sum (i := isl N S s) hN hS
  have h3 := gS_nn hN hS s
  have h4 := dS_nn hN hS hs
  have h5 : dS N S s ≤ 2000 := by
    have := hS.2.1 s (by have := hN.n8; omega)
    unfold dS
    split <;> omega
  rw [if_pos rfl] at h1
  rw [psh_split]
  omega
theorem w115 {s : Nat} {P : Int → Prop} (hN : NC N) (hS : sV N S) (hM : nMd N M) (h : mS N S M (dkF N S) z) (hg : ∀ x : Nat, x < nK N → M 159 x = gv N S x) (hs : s < nN N) (k : P (psh N S s)) : Wp (f115 z s M) P := by
  have h8 := hN.n8
  have h9 := hN.k9
  have hlv := hS.2.1 s (by omega)
  have hb := psh_b hN hS hs
  have hgn := gS_nn hN hS s
  unfold f115
  refine wp_bind (w145 h (by omega) ?_)
  have hd : -2000 ≤ -(if dkF N S s = 1 then (0 : Int) else S 3 s) ∧ -(if dkF N S s = 1 then (0 : Int) else S 3 s) ≤ 0 := by split <;> omega
  refine wp_gd ⟨by omega, by omega⟩ ?_
  unfold f115_12
  refine wp_lp2 (fun m x y => 0 ≤ y ∧ y ≤ nK N ∧ (m : Int) = nK N - y ∧ x = -(if dkF N S s = 1 then (0 : Int) else S 3 s) + sm (fun k => if aK N k = s then gv N S k else 0) y.toNat) (nK N) (by omega) ⟨by omega, by omega, by omega, (Int.add_zero _).symm⟩ ?_
  rintro m x y ⟨a1, a2, a3, a4⟩
  dsimp only
  unfold lb115_12
  rw [hM.2.2.1, hN.k]
  refine wp_ite (fun c => ?_) (fun c => wp_o (wp_some ?_))
  · obtain ⟨u, rfl⟩ := Int.eq_ofNat_of_zero_le a1
    rw [Int.toNat_natCast] at a4
    have hu : u < nK N := by omega
    have hk := hN.ck u hu
    have hpart : ∀ v, v ≤ nK N → 0 ≤ sm (fun k => if aK N k = s then gv N S k else 0) v ∧ sm (fun k => if aK N k = s then gv N S k else 0) v ≤ 16000 := fun v hv => by
      have q1 := sm_nn (a := fun k => if aK N k = s then gv N S k else 0) (n := v) (fun k _ => by have := gv_nn hN hS k; split <;> omega)
      have q2 := sm_up (a := fun k => if aK N k = s then gv N S k else 0) (n := nK N) (fun k _ => by have := gv_nn hN hS k; split <;> omega) (nK N - v) v (by omega)
      rw [show v + (nK N - v) = nK N by omega] at q2
      have q3 : gS N S s = sm (fun k => if aK N k = s then gv N S k else 0) (nK N) := rfl
      omega
    have h1 := hpart u (by omega)
    have h2 := hpart (u + 1) (by omega)
    have h3 : sm (fun k => if aK N k = s then gv N S k else 0) (u + 1) = sm (fun k => if aK N k = s then gv N S k else 0) u + if aK N u = s then gv N S u else 0 := rfl
    rw [Int.toNat_natCast, (hM.2.2.2.2.2 u hu).1, hk.1.1, hg u hu]
    refine wp_gd (by omega) (wp_ite (fun c2 => ?_) (fun c2 => ?_))
    · rw [if_pos (by omega)] at h3
      refine wp_gd ⟨by omega, by omega⟩ (wp_gd (by omega) (wp_i2 (m - 1) (by omega) ⟨by omega, by omega, by omega, ?_⟩))
      rw [show ((u : Int) + 1).toNat = u + 1 by omega, h3]
      omega
    · rw [if_neg (by omega)] at h3
      refine wp_gd ⟨by omega, by omega⟩ (wp_gd (by omega) (wp_i2 (m - 1) (by omega) ⟨by omega, by omega, by omega, ?_⟩))
      rw [show ((u : Int) + 1).toNat = u + 1 by omega, h3]
      omega
  · have : x = psh N S s := by
      rw [a4, show y.toNat = nK N by omega]
      unfold psh
      split <;> omega
    rw [this]
    exact k
/-- heights as the second object sums them -/
theorem ht_sum (hN : NC N) (hS : sV N S) (hi : i < nN N) (hr : isl N S i = i) {s : Nat} (hs : s < nN N) (hin : isl N S s = i ∧ s ≠ i) : ht N S i s = sm (fun t => if isl N S t = i ∧ t ≠ i then gjI (mX N S i) (sz N S i) (pl N S i s) (20 + pl N S i t) * psh N S t else 0) (nN N) := by
  have h7 := sz_7 (S := S) hN hi
  have hsm := mX_sml hN hi hr
  unfold ht
  rw [if_neg hin.2, rhs_all (m := 20) (r := 14) (b := bV N S i) (by omega) hsm.2.1 hsm.2.2.2 (fun r hr2 => by unfold mX; rw [if_neg (by omega), if_pos rfl]) (Nat.le_refl _) _ (pl_sz hs hin)]
  have e1 : sm (fun c => bV N S i c * gjI (mX N S i) (sz N S i) (pl N S i s) (20 + c)) (sz N S i) = sm (fun c => sm (fun t => if (isl N S t = i ∧ t ≠ i) ∧ pl N S i t = c then gjI (mX N S i) (sz N S i) (pl N S i s) (20 + c) * psh N S t else 0) (nN N)) (sz N S i) := sm_congr (fun c _ => by
    unfold bV
    rw [Int.mul_comm, ← sm_mul]
    exact sm_congr (fun t _ => by split; rfl; exact Int.mul_zero _))
  rw [e1, sm_swap (fun c t => if (isl N S t = i ∧ t ≠ i) ∧ pl N S i t = c then gjI (mX N S i) (sz N S i) (pl N S i s) (20 + c) * psh N S t else 0)]
  refine sm_congr (fun t ht => ?_)
  by_cases e : isl N S t = i ∧ t ≠ i
  · rw [if_pos e, sm_congr (g := fun c => if c = pl N S i t then gjI (mX N S i) (sz N S i) (pl N S i s) (20 + pl N S i t) * psh N S t else 0) (fun c _ => by
      by_cases e2 : c = pl N S i t
      · rw [if_pos e2, if_pos ⟨e, e2.symm⟩, e2]
      · rw [if_neg e2, if_neg (fun q => e2 q.2.symm)]), sm_one, if_pos (pl_sz ht e)]
  · rw [if_neg e, sm_zero (fun c _ => if_neg (fun q => e q.1))]
theorem w111 {D : Nat → Int} {P : Mm → Prop} (hN : NC N) (hS : sV N S) (hM : nMd N M) (h : mS N S M D z) (hDi : ∀ s, s < nN N → isl N S s = i → D s = dkF N S s) (hon : ∀ w, w < 14 → M 144 (z + w) = S 0 w) (hg : ∀ x : Nat, x < nK N → isl N S (aK N x) = i → M 159 x = gv N S x) (hi : i < nN N) (hroot : isl N S i = i)
    (k : ∀ M2 : Mm, (∀ b, b ≠ 161 → b ≠ 162 → b ≠ 164 → b ≠ 165 → b ≠ 166 → M2 b = M b) →
      (∀ w : Nat, w < nW N → M2 161 w = if S 0 w = 0 ∧ isl N S (eA N w) = i then fl N S w else M 161 w) → (∀ w : Nat, w < nW N → M2 162 w = if S 0 w = 0 ∧ isl N S (eA N w) = i then fD N S w else M 162 w) → P M2) : Wp (f111 z i M) P := by
  have h8 := hN.n8
  have h14 := hN.w14
  have h7 := sz_7 (S := S) hN hi
  have hz := h.1
  have hsm := mX_sml hN hi hroot
  have t := sml_tab hsm (p := sz N S i) (Nat.le_refl _)
  unfold f111
  refine wp_obnd (w140 hN hM hz hon h.2.2.2.2 hi hroot (fun M1 b1 b2 b3 => ?_))
  refine wp_obnd (w182 (n := sz N S i) hsm (bd_kq h7) b3 (fun M2 c1 c2 => ?_))
  dsimp only
  have d1 : ∀ b, b ≠ 164 → b ≠ 165 → M2 b = M b := fun b h1 h2 => (c1 b h1).trans (b1 b h1 h2)
  have d2 : ∀ s : Nat, s < nN N → M2 165 s = mP N S i s := fun s hs => by rw [c1 165 (by decide)]; exact b2 s hs
  clear b1 b2 b3 c1
  unfold f111_17
  let I : Nat → Int → Mm → Prop := fun m y M3 => 0 ≤ y ∧ y ≤ nN N ∧ (m : Int) = nN N - y ∧ (∀ b, b ≠ 166 → M3 b = M2 b) ∧ ∀ s : Nat, (s : Int) < y → isl N S s = i → M3 166 s = ht N S i s
  refine wp_lp2 I (nN N) (by omega) ⟨by omega, by omega, by omega, fun _ _ => rfl, fun s hs => by omega⟩ ?_
  rintro m y M3 ⟨a1, a2, a3, a5, a6⟩
  dsimp only
  unfold lb111_17
  have g3 : ∀ b, b ≠ 166 → b ≠ 164 → b ≠ 165 → M3 b = M b := fun b q1 q2 q3 => (a5 b q1).trans (d1 b q2 q3)
  rw [g3 142 (by decide) (by decide) (by decide), hM.1, hN.n, g3 158 (by decide) (by decide) (by decide)]
  refine wp_ite (fun c => ?_) (fun c => wp_o ?_)
  · obtain ⟨u, rfl⟩ := Int.eq_ofNat_of_zero_le a1
    have hu : u < nN N := by omega
    rw [Int.toNat_natCast, h.2.2.2.2 u hu]
    refine wp_gd (by omega) (wp_ite (fun cc => wp_mlet ?_) (fun cc => ?_))
    · have hiu : isl N S u = i := by omega
      -- done with this height
      have fin : ∀ M4 : Mm, (∀ b, b ≠ 166 → M4 b = M2 b) → (∀ s : Nat, s ≠ u → M4 166 s = M3 166 s) → M4 166 u = ht N S i u → Wp (f111_143 z i (det (sz N S i) (mX N S i)) u M4) (Sum.elim (up2 I m) P) := fun M4 q1 q2 q3 => by
        unfold f111_143
        refine wp_gd (by omega) (wp_i2 (m - 1) (by omega) ⟨by omega, by omega, by omega, q1, fun s hs h2 => ?_⟩)
        by_cases e : s = u
        · rw [e]
          exact q3
        · rw [q2 s e]
          exact a6 s (by omega) h2
      unfold f111_51
      let J : Nat → Int → Mm → Prop := fun q v M4 => 0 ≤ v ∧ v ≤ nN N ∧ (q : Int) = nN N - v ∧ (∀ b, b ≠ 166 → M4 b = M2 b) ∧ (∀ s : Nat, s ≠ u → M4 166 s = M3 166 s) ∧ (u = i → M4 166 u = 0) ∧
        (u ≠ i → M4 166 u = sm (fun t => if isl N S t = i ∧ t ≠ i then gjI (mX N S i) (sz N S i) (pl N S i u) (20 + pl N S i t) * psh N S t else 0) v.toNat)
      refine wp_lp2 J (nN N) (by omega) ⟨by omega, by omega, by omega, fun b hb => (ms_a hb).trans (a5 b hb), fun s hs => ms_i hs, fun _ => ms_v, fun _ => ms_v⟩ ?_
      rintro q v M4 ⟨e1, e2, e3, e4, e5, e6, e7⟩
      dsimp only
      unfold lb111_51
      have g4 : ∀ b, b ≠ 166 → b ≠ 164 → b ≠ 165 → M4 b = M b := fun b q1 q2 q3 => (e4 b q1).trans (d1 b q2 q3)
      rw [g4 142 (by decide) (by decide) (by decide), hM.1, hN.n, g4 158 (by decide) (by decide) (by decide), e4 165 (by decide), e4 164 (by decide), Int.toNat_natCast, d2 u hu]
      refine wp_ite (fun f1 => ?_) (fun f1 => wp_o (fin M4 e4 e5 ?_))
      · refine wp_gd (by omega) ?_
        by_cases eu : u = i
        · have : mP N S i u = -1 := if_neg (fun q => q.2 eu)
          rw [this]
          refine wp_pos rfl (wp_o (fin M4 e4 e5 ?_))
          rw [e6 eu]
          unfold ht
          rw [if_pos eu]
        · have hmu : mP N S i u = (pl N S i u : Int) := if_pos ⟨hiu, eu⟩
          have hpu := pl_sz hu ⟨hiu, eu⟩
          rw [hmu]
          refine wp_neg (by omega) ?_
          obtain ⟨x, rfl⟩ := Int.eq_ofNat_of_zero_le e1
          have hx : x < nN N := by omega
          rw [Int.toNat_natCast, h.2.2.2.2 x hx, d2 x hx]
          rw [Int.toNat_natCast] at e7
          have skip : ¬ (isl N S x = i ∧ x ≠ i) → Wp (f111_137 z i (det (sz N S i) (mX N S i)) u x M4) (Sum.elim (up2 J q) (Sum.elim (up2 I m) P)) := fun hne => by
            unfold f111_137
            refine wp_gd (by omega) (wp_i2 (q - 1) (by omega) ⟨by omega, by omega, by omega, e4, e5, e6, fun _ => ?_⟩)
            rw [e7 eu, show ((x : Int) + 1).toNat = x + 1 by omega]
            show _ = sm _ x + if isl N S x = i ∧ x ≠ i then _ else 0
            rw [if_neg hne, Int.add_zero]
          refine wp_gd (by omega) (wp_ite (fun f2 => ?_) (fun f2 => skip (fun q => f2 (by rw [q.1]))))
          by_cases ex : x = i
          · have : mP N S i x = -1 := if_neg (fun q => q.2 ex)
            rw [this]
            exact wp_pos rfl (skip (fun q => q.2 ex))
          · have hix : isl N S x = i := by omega
            have hmx : mP N S i x = (pl N S i x : Int) := if_pos ⟨hix, ex⟩
            have hpx := pl_sz hx ⟨hix, ex⟩
            rw [hmx]
            have hV := sml_V hsm (p := sz N S i) (Nat.le_refl _) hpu hpx
            have hent : M2 164 (14 * (pl N S i u : Int) + 7 + pl N S i x).toNat = gjI (mX N S i) (sz N S i) (pl N S i u) (20 + pl N S i x) := by
              rw [show (14 * (pl N S i u : Int) + 7 + pl N S i x).toNat = 14 * pl N S i u + (7 + pl N S i x) by omega, c2 _ _ hpu (by omega)]
              congr 1
              unfold kq
              rw [if_neg (by omega)]
              omega
            have hterm : ∀ y, y < nN N → isl N S y = i ∧ y ≠ i → -843308032000 ≤ gjI (mX N S i) (sz N S i) (pl N S i u) (20 + pl N S i y) * psh N S y ∧ gjI (mX N S i) (sz N S i) (pl N S i u) (20 + pl N S i y) * psh N S y ≤ 843308032000 := fun y hy hiny => by
              have hVy := sml_V hsm (p := sz N S i) (Nat.le_refl _) hpu (pl_sz hy hiny)
              have hpb := psh_b hN hS hy
              have := mul_bd (x := gjI (mX N S i) (sz N S i) (pl N S i u) (20 + pl N S i y)) (y := psh N S y) (X := 52706752) (Y := 16000) ⟨by omega, by omega⟩ ⟨by omega, by omega⟩
              omega
            have hsum : -6746464256000 ≤ M4 166 u ∧ M4 166 u ≤ 6746464256000 := by
              rw [e7 eu]
              have q1 := sm_const (f := fun t => if isl N S t = i ∧ t ≠ i then gjI (mX N S i) (sz N S i) (pl N S i u) (20 + pl N S i t) * psh N S t else 0) (c := 843308032000) (n := x) (fun y hy => by
                split
                · rename_i q
                  exact (hterm y (by omega) q).2
                · decide)
              have q2 := sm_const (f := fun t => - if isl N S t = i ∧ t ≠ i then gjI (mX N S i) (sz N S i) (pl N S i u) (20 + pl N S i t) * psh N S t else 0) (c := 843308032000) (n := x) (fun y hy => by
                split
                · rename_i q
                  have := (hterm y (by omega) q).1
                  omega
                · decide)
              rw [sm_neg] at q2
              omega
            have ht1 := hterm x hx ⟨hix, ex⟩
            refine wp_neg (by omega) (wp_gd (by omega) (wp_gd (by omega) (wp_gd (by omega) (wp_gd (by omega) (wp_bind ?_)))))
            have hM4 : nMd N M4 := hM.to (by rw [g4 142 (by decide) (by decide) (by decide)]) (by rw [g4 142 (by decide) (by decide) (by decide)]) (by rw [g4 142 (by decide) (by decide) (by decide)]) (fun b h1 h2 => g4 b (by omega) (by omega) (by omega))
            have hcall : ∀ {Q : Int → Prop}, Q (psh N S x) → Wp (f115 z x M4) Q := fun {Q} hQ => by
              -- only the works at x count; they are of this island
              have h9 := hN.k9
              have hlv := hS.2.1 x (by omega)
              have hb := psh_b hN hS hx
              have hgn := gS_nn hN hS x
              have h' : mS N S M4 D z := ⟨hz, fun k hk => by rw [g4 144 (by decide) (by decide) (by decide)]; exact h.2.1 k hk, fun s hs => by rw [g4 144 (by decide) (by decide) (by decide)]; exact h.2.2.1 s hs, fun s hs => by rw [g4 144 (by decide) (by decide) (by decide)]; exact h.2.2.2.1 s hs, fun s hs => by rw [g4 158 (by decide) (by decide) (by decide)]; exact h.2.2.2.2 s hs⟩
              unfold f115
              refine wp_bind (w145 h' (by omega) ?_)
              rw [hDi x hx hix]
              have hd : -2000 ≤ -(if dkF N S x = 1 then (0 : Int) else S 3 x) ∧ -(if dkF N S x = 1 then (0 : Int) else S 3 x) ≤ 0 := by split <;> omega
              refine wp_gd ⟨by omega, by omega⟩ ?_
              unfold f115_12
              refine wp_lp2 (fun m l y => 0 ≤ y ∧ y ≤ nK N ∧ (m : Int) = nK N - y ∧ l = -(if dkF N S x = 1 then (0 : Int) else S 3 x) + sm (fun k => if aK N k = x then gv N S k else 0) y.toNat) (nK N) (by omega) ⟨by omega, by omega, by omega, (Int.add_zero _).symm⟩ ?_
              rintro m l y ⟨a1, a2, a3, a4⟩
              dsimp only
              unfold lb115_12
              rw [hM4.2.2.1, hN.k, g4 159 (by decide) (by decide) (by decide)]
              refine wp_ite (fun c => ?_) (fun c => wp_o (wp_some ?_))
              · obtain ⟨u, rfl⟩ := Int.eq_ofNat_of_zero_le a1
                rw [Int.toNat_natCast] at a4
                have hu : u < nK N := by omega
                have hk := hN.ck u hu
                have hpart : ∀ v, v ≤ nK N → 0 ≤ sm (fun k => if aK N k = x then gv N S k else 0) v ∧ sm (fun k => if aK N k = x then gv N S k else 0) v ≤ 16000 := fun v hv => by
                  have q1 := sm_nn (a := fun k => if aK N k = x then gv N S k else 0) (n := v) (fun k _ => by have := gv_nn hN hS k; split <;> omega)
                  have q2 := sm_up (a := fun k => if aK N k = x then gv N S k else 0) (n := nK N) (fun k _ => by have := gv_nn hN hS k; split <;> omega) (nK N - v) v (by omega)
                  rw [show v + (nK N - v) = nK N by omega] at q2
                  have q3 : gS N S x = sm (fun k => if aK N k = x then gv N S k else 0) (nK N) := rfl
                  omega
                have h1 := hpart u (by omega)
                have h2 := hpart (u + 1) (by omega)
                have h3 : sm (fun k => if aK N k = x then gv N S k else 0) (u + 1) = sm (fun k => if aK N k = x then gv N S k else 0) u + if aK N u = x then gv N S u else 0 := rfl
                rw [Int.toNat_natCast, (hM4.2.2.2.2.2 u hu).1, hk.1.1]
                refine wp_gd (by omega) (wp_ite (fun c2 => ?_) (fun c2 => ?_))
                · have eax : aK N u = x := by omega
                  rw [if_pos eax] at h3
                  rw [hg u hu (by rw [eax]; exact hix)]
                  refine wp_gd ⟨by omega, by omega⟩ (wp_gd (by omega) (wp_i2 (m - 1) (by omega) ⟨by omega, by omega, by omega, ?_⟩))
                  rw [show ((u : Int) + 1).toNat = u + 1 by omega, h3]
                  omega
                · rw [if_neg (by omega)] at h3
                  refine wp_gd ⟨by omega, by omega⟩ (wp_gd (by omega) (wp_i2 (m - 1) (by omega) ⟨by omega, by omega, by omega, ?_⟩))
                  rw [show ((u : Int) + 1).toNat = u + 1 by omega, h3]
                  omega
              · have : l = psh N S x := by
                  rw [a4, show y.toNat = nK N by omega]
                  unfold psh
                  split <;> omega
                rw [this]
                exact hQ
            refine hcall ?_
            rw [hent]
            refine wp_gd ⟨by omega, by omega⟩ (wp_gd ⟨by omega, by omega⟩ (wp_mlet ?_))
            unfold f111_137
            refine wp_gd (by omega) (wp_i2 (q - 1) (by omega) ⟨by omega, by omega, by omega, fun b hb => (ms_a hb).trans (e4 b hb), fun s hs => (ms_i hs).trans (e5 s hs), fun q => (eu q).elim, fun _ => ?_⟩)
            rw [ms_v, e7 eu, show ((x : Int) + 1).toNat = x + 1 by omega]
            show _ = sm _ x + if isl N S x = i ∧ x ≠ i then _ else 0
            rw [if_pos ⟨hix, ex⟩]
      · by_cases eu : u = i
        · rw [e6 eu]
          unfold ht
          rw [if_pos eu]
        · rw [e7 eu, show v.toNat = nN N by omega]
          exact (ht_sum hN hS hi hroot hu ⟨hiu, eu⟩).symm
    · unfold f111_143
      refine wp_gd (by omega) (wp_i2 (m - 1) (by omega) ⟨by omega, by omega, by omega, a5, fun s hs h2 => ?_⟩)
      have : s ≠ u := fun e => cc (by rw [← e, h2])
      exact a6 s (by omega) h2
  have b6 : ∀ s : Nat, s < nN N → isl N S s = i → M3 166 s = ht N S i s := fun s hs => a6 s (by omega)
  clear a1 a2 a3 a5 a6 c
  unfold f111_152
  let I2 : Nat → Int → Mm → Prop := fun m y M4 => 0 ≤ y ∧ y ≤ nW N ∧ (m : Int) = nW N - y ∧ (∀ b, b ≠ 161 → b ≠ 162 → M4 b = M3 b) ∧ (∀ w : Nat, w < nW N → M4 161 w = if (w : Int) < y ∧ S 0 w = 0 ∧ isl N S (eA N w) = i then fl N S w else M 161 w) ∧ ∀ w : Nat, w < nW N → M4 162 w = if (w : Int) < y ∧ S 0 w = 0 ∧ isl N S (eA N w) = i then fD N S w else M 162 w
  refine wp_lp2 I2 (nW N) (by omega) ⟨by omega, by omega, by omega, fun _ _ _ => rfl, fun w hw => by rw [if_neg (by omega), g3 161 (by decide) (by decide) (by decide)], fun w hw => by rw [if_neg (by omega), g3 162 (by decide) (by decide) (by decide)]⟩ ?_
  clear m y
  rintro m y M4 ⟨c1, c2', c3, c5, c8, c9⟩
  dsimp only
  unfold lb111_152
  have g5 : ∀ b, b ≠ 161 → b ≠ 162 → b ≠ 166 → b ≠ 164 → b ≠ 165 → M4 b = M b := fun b q1 q2 q3 q4 q5 => (c5 b q1 q2).trans (g3 b q3 q4 q5)
  rw [g5 142 (by decide) (by decide) (by decide) (by decide) (by decide), hM.2.1, hN.w, g5 144 (by decide) (by decide) (by decide) (by decide) (by decide), g5 147 (by decide) (by decide) (by decide) (by decide) (by decide), g5 148 (by decide) (by decide) (by decide) (by decide) (by decide), g5 149 (by decide) (by decide) (by decide) (by decide) (by decide), g5 158 (by decide) (by decide) (by decide) (by decide) (by decide), c5 166 (by decide) (by decide)]
  refine wp_ite (fun c => ?_) (fun c => wp_o (wp_some ?_))
  · obtain ⟨w, rfl⟩ := Int.eq_ofNat_of_zero_le c1
    have hw : w < nW N := by omega
    have hcw := hN.cw w hw
    have hmw := hM.2.2.2.2.1 w hw
    rw [show ((z : Int) + w).toNat = z + w by omega, hon w (by omega), Int.toNat_natCast, hmw.1, hmw.2.1, hmw.2.2.1, hcw.1.1, hcw.2.1.1, Int.toNat_natCast, Int.toNat_natCast, h.2.2.2.2 _ hcw.1.2]
    have skip : ¬ (S 0 w = 0 ∧ isl N S (eA N w) = i) → Wp (f111_242 z i (det (sz N S i) (mX N S i)) w M4) (Sum.elim (up2 I2 m) P) := fun hne => by
      unfold f111_242
      refine wp_gd (by omega) (wp_i2 (m - 1) (by omega) ⟨by omega, by omega, by omega, c5, fun x hx => ?_, fun x hx => ?_⟩)
      · rw [c8 x hx]
        by_cases e : x = w
        · rw [if_neg (fun q => hne (e ▸ q.2)), if_neg (fun q => hne (e ▸ q.2))]
        · by_cases e2 : (x : Int) < w ∧ S 0 x = 0 ∧ isl N S (eA N x) = i
          · rw [if_pos e2, if_pos ⟨by omega, e2.2⟩]
          · rw [if_neg e2, if_neg (fun q => e2 ⟨by omega, q.2⟩)]
      · rw [c9 x hx]
        by_cases e : x = w
        · rw [if_neg (fun q => hne (e ▸ q.2)), if_neg (fun q => hne (e ▸ q.2))]
        · by_cases e2 : (x : Int) < w ∧ S 0 x = 0 ∧ isl N S (eA N x) = i
          · rw [if_pos e2, if_pos ⟨by omega, e2.2⟩]
          · rw [if_neg e2, if_neg (fun q => e2 ⟨by omega, q.2⟩)]
    refine wp_gd (by omega) (wp_gd (by omega) (wp_ite (fun d2 => wp_gd (by omega) (wp_gd (by omega) (wp_ite (fun d3 => ?_) (fun d3 => skip (fun q => d3 (by rw [q.2])))))) (fun d2 => skip (fun q => d2 q.1))))
    have hin : S 0 w = 0 ∧ isl N S (eA N w) = i := ⟨d2, by omega⟩
    have hB := way_in hN hw hin
    have hfl : N 16 w * (ht N S i (eA N w) - ht N S i (eB N w)) = fl N S w := by
      unfold fl
      rw [hin.2]
    have hfD : det (sz N S i) (mX N S i) = fD N S w := by
      unfold fD
      rw [hin.2]
    have hb1 := ht_b hN hS hi hroot hcw.1.2 hin.2
    have hb2 := ht_b hN hS hi hroot hcw.2.1.2 hB
    have hfb := fl_b hN hS hw d2
    rw [b6 _ hcw.1.2 hin.2, b6 _ hcw.2.1.2 hB, hfl, hfD]
    refine wp_gd (by omega) (wp_gd ⟨by omega, by omega⟩ (wp_gd ⟨by omega, by omega⟩ (wp_mlet (wp_mlet ?_))))
    unfold f111_242
    refine wp_gd (by omega) (wp_i2 (m - 1) (by omega) ⟨by omega, by omega, by omega, fun b q1 q2 => (ms_a q2).trans ((ms_a q1).trans (c5 b q1 q2)), fun x hx => ?_, fun x hx => ?_⟩)
    · rw [ms_a (by decide)]
      by_cases e : x = w
      · rw [e, ms_v, if_pos ⟨by omega, hin⟩]
      · rw [ms_i e, c8 x hx]
        by_cases e2 : (x : Int) < w ∧ S 0 x = 0 ∧ isl N S (eA N x) = i
        · rw [if_pos e2, if_pos ⟨by omega, e2.2⟩]
        · rw [if_neg e2, if_neg (fun q => e2 ⟨by omega, q.2⟩)]
    · by_cases e : x = w
      · rw [e, ms_v, if_pos ⟨by omega, hin⟩]
      · rw [ms_i e, ms_a (by decide), c9 x hx]
        by_cases e2 : (x : Int) < w ∧ S 0 x = 0 ∧ isl N S (eA N x) = i
        · rw [if_pos e2, if_pos ⟨by omega, e2.2⟩]
        · rw [if_neg e2, if_neg (fun q => e2 ⟨by omega, q.2⟩)]
  · have ey : y = nW N := by omega
    subst ey
    refine k M4 (fun b q1 q2 q3 q4 q5 => g5 b q1 q2 q5 q3 q4) (fun w hw => ?_) (fun w hw => ?_)
    · rw [c8 w hw]
      by_cases e : S 0 w = 0 ∧ isl N S (eA N w) = i
      · rw [if_pos ⟨by omega, e⟩, if_pos e]
      · rw [if_neg (fun q => e q.2), if_neg e]
    · rw [c9 w hw]
      by_cases e : S 0 w = 0 ∧ isl N S (eA N w) = i
      · rw [if_pos ⟨by omega, e⟩, if_pos e]
      · rw [if_neg (fun q => e q.2), if_neg e]
end MF

/-- what the second object tells of state S after it stood at z -/
def mgR (N S M : Mm) (z : Nat) : Prop := (∀ s, s < 8 → M 144 (z + 51 + s) = dkF N S s) ∧ (M 142 29 = (falls N S (nN N)).length ∧ ∀ j x : Nat, (falls N S (nN N))[j]? = some x → M 163 j = x) ∧ (∀ s : Nat, s < nN N → M 158 s = isl N S s ∧ M 160 (isl N S s) = rsv N S (isl N S s)) ∧
  (∀ x : Nat, x < nK N → M 159 x = gv N S x) ∧ ∀ w : Nat, w < nW N → M 161 w = (if S 0 w = 0 then fl N S w else 0) ∧ M 162 w = if S 0 w = 0 then fD N S w else 1
/-- what standing leaves as it was -/
def frM (z : Nat) (M M2 : Mm) : Prop := (∀ b, b ≠ 142 → b ≠ 144 → (b < 158 ∨ 166 < b) → M2 b = M b) ∧ (∀ j, j ≠ 29 → M2 142 j = M 142 j) ∧ ∀ a, (a < z + 51 ∨ z + 59 ≤ a) → M2 144 a = M 144 a
theorem frM.trans {z : Nat} {M M2 M3 : Mm} (h : frM z M M2) (g : frM z M2 M3) : frM z M M3 := ⟨fun b h1 h2 h3 => (g.1 b h1 h2 h3).trans (h.1 b h1 h2 h3), fun j hj => (g.2.1 j hj).trans (h.2.1 j hj), fun a ha => (g.2.2 a ha).trans (h.2.2 a ha)⟩
theorem frM.of {z : Nat} {M M2 : Mm} (h : ∀ b, (b < 158 ∨ 166 < b) → M2 b = M b) : frM z M M2 := ⟨fun b _ _ hb => h b hb, fun j _ => by rw [h 142 (by decide)], fun a _ => by rw [h 144 (by decide)]⟩
theorem frM.md {z : Nat} {N M M2 : Mm} (h : frM z M M2) (hM : nMd N M) : nMd N M2 := hM.to (h.2.1 3 (by decide)) (h.2.1 4 (by decide)) (h.2.1 5 (by decide)) (fun b h1 h2 => h.1 b (by omega) (by omega) (by omega))
section MT
variable {N S M : Mm} {z : Nat}
theorem w173 {P : Mm → Prop} (hN : NC N) (hS : sV N S) (hM : nMd N M) (hz : z + 72 ≤ 36400) (hs : sM S M z) (k : ∀ M2 : Mm, frM z M M2 → mgR N S M2 z → P M2) : Wp (f173 z M) P := by
  have h8 := hN.n8
  have h9 := hN.k9
  have h14 := hN.w14
  unfold f173
  refine wp_bind (w117 (n := nN N) (nw := nW N) (G := isl N S) (A := eA N) (B := eB N) (U := fun w => S 0 w = 0) (by rw [hM.1]; exact hN.n) h8 (by rw [hM.2.1]; exact hN.w) h14 hz (fun w hw => by rw [(hM.2.2.2.2.1 w hw).1]; exact (hN.cw w hw).1.1) (fun w hw => by rw [(hM.2.2.2.2.1 w hw).2.1]; exact (hN.cw w hw).2.1.1) (fun w hw => ⟨(hN.cw w hw).1.2, (hN.cw w hw).2.1.2⟩) (fun w hw => by
      rw [if_pos rfl, (hs.1 w (by omega)).1]) (isl_lab N S) (fun M1 a1 a2 => ?_))
  refine wp_mlet ?_
  have f1 : frM z M (ms M1 142 29 0) := ⟨fun b q1 _ q3 => (ms_a q1).trans (a1 b (by omega)), fun j hj => (ms_i hj).trans (by rw [a1 142 (by decide)]), fun a _ => by rw [ms_a (by decide), a1 144 (by decide)]⟩
  have g29 : ms M1 142 29 0 142 29 = 0 := ms_v
  have g158 : ∀ s : Nat, s < nN N → ms M1 142 29 0 158 s = isl N S s := fun s hs => by rw [ms_a (by decide)]; exact a2 s hs
  have g144 : ms M1 142 29 0 144 = M 144 := (ms_a (by decide)).trans (a1 144 (by decide))
  generalize ms M1 142 29 0 = M2 at f1 g29 g158 g144 ⊢
  clear a1 a2
  unfold f173_13
  refine wp_lp2 (fun m y M3 => 0 ≤ y ∧ y ≤ 9 ∧ (m : Int) = 9 - y ∧ (∀ b, b ≠ 159 → M3 b = M2 b) ∧ ∀ x : Nat, (x : Int) < y → M3 159 x = 0) 9 (by omega) ⟨by omega, by omega, by omega, fun _ _ => rfl, fun x hx => by omega⟩ ?_
  rintro m y M3 ⟨c1, c2, c3, c4, c5⟩
  dsimp only
  unfold lb173_13
  refine wp_ite (fun c => ?_) (fun c => wp_o ?_)
  · refine wp_gd (by omega) (wp_mlet (wp_gd (by omega) (wp_i2 (m - 1) (by omega) ⟨by omega, by omega, by omega, fun b hb => (ms_a hb).trans (c4 b hb), fun x hx => ?_⟩)))
    by_cases e : x = y.toNat
    · rw [e, ms_v]
    · rw [ms_i e]
      exact c5 x (by omega)
  have d159 : ∀ x : Nat, x < 9 → M3 159 x = 0 := fun x hx => c5 x (by omega)
  have d4 : ∀ b, b ≠ 159 → M3 b = M2 b := c4
  clear c1 c2 c3 c4 c5 c
  unfold f173_34
  refine wp_lp2 (fun m y M4 => 0 ≤ y ∧ y ≤ 14 ∧ (m : Int) = 14 - y ∧ (∀ b, b ≠ 161 → b ≠ 162 → M4 b = M3 b) ∧ ∀ x : Nat, (x : Int) < y → M4 161 x = 0 ∧ M4 162 x = 1) 14 (by omega) ⟨by omega, by omega, by omega, fun _ _ _ => rfl, fun x hx => by omega⟩ ?_
  clear m y
  rintro m y M4 ⟨c1, c2, c3, c4, c5⟩
  dsimp only
  unfold lb173_34
  refine wp_ite (fun c => ?_) (fun c => wp_o ?_)
  · refine wp_gd (by omega) (wp_mlet (wp_mlet (wp_gd (by omega) (wp_i2 (m - 1) (by omega) ⟨by omega, by omega, by omega, fun b q1 q2 => (ms_a q2).trans ((ms_a q1).trans (c4 b q1 q2)), fun x hx => ?_⟩))))
    rw [ms_a (by decide : (161 : Nat) ≠ 162)]
    by_cases e : x = y.toNat
    · rw [e, ms_v, ms_v]
      exact ⟨rfl, rfl⟩
    · rw [ms_i e, ms_i e, ms_a (by decide : (162 : Nat) ≠ 161)]
      exact c5 x (by omega)
  have f4 : frM z M M4 := f1.trans (frM.of (fun b hb => (c4 b (by omega) (by omega)).trans (d4 b (by omega))))
  have e159 : ∀ x : Nat, x < 9 → M4 159 x = 0 := fun x hx => by rw [c4 159 (by decide) (by decide)]; exact d159 x hx
  have e158 : ∀ s : Nat, s < nN N → M4 158 s = isl N S s := fun s hs => by rw [c4 158 (by decide) (by decide), d4 158 (by decide)]; exact g158 s hs
  have e29 : M4 142 29 = 0 := by rw [c4 142 (by decide) (by decide), d4 142 (by decide)]; exact g29
  have e144 : M4 144 = M 144 := by rw [c4 144 (by decide) (by decide), d4 144 (by decide)]; exact g144
  have e161 : ∀ x : Nat, x < 14 → M4 161 x = 0 ∧ M4 162 x = 1 := fun x hx => c5 x (by omega)
  clear c1 c2 c3 c4 c5 c d159 d4 f1 g29 g158 g144 M3 M2 M1
  unfold f173_62
  let I : Nat → Int → Mm → Prop := fun m x M5 => 0 ≤ x ∧ x ≤ nN N ∧ (m : Int) = nN N - x ∧ frM z M M5 ∧ mS N S M5 (fun s => if s ∈ falls N S x.toNat then 1 else S 4 s) z ∧
    (M5 142 29 = (falls N S x.toNat).length ∧ (∀ j y : Nat, (falls N S x.toNat)[j]? = some y → M5 163 j = y) ∧ ((falls N S x.toNat).length : Int) = sm (fun s => (if s ∈ falls N S x.toNat then 1 else S 4 s) - S 4 s) (nN N)) ∧
    (∀ i : Nat, (i : Int) < x → isl N S i = i → M5 160 i = rsv N S i) ∧ (∀ y : Nat, y < nK N → M5 159 y = if (isl N S (aK N y) : Int) < x then gv N S y else 0) ∧
    ∀ w : Nat, w < nW N → M5 161 w = (if (isl N S (eA N w) : Int) < x ∧ S 0 w = 0 then fl N S w else 0) ∧ M5 162 w = if (isl N S (eA N w) : Int) < x ∧ S 0 w = 0 then fD N S w else 1
  refine wp_lp2 I (nN N) (by omega) ⟨by omega, by omega, by omega, f4, ⟨hz, fun k hk => by rw [e144]; exact hs.2.2.1 k hk, fun s hs2 => by rw [e144]; exact (hs.2.1 s hs2).1, fun s hs2 => by
      rw [e144, (hs.2.1 s hs2).2]
      exact (if_neg (fun q => by cases q)).symm, e158⟩, ⟨e29, fun j y hj => (by cases hj), ?_⟩, fun i q => by omega, fun y hy => by rw [if_neg (by omega)]; exact e159 y (by omega), fun w hw => by rw [if_neg (by omega), if_neg (by omega)]; exact e161 w (by omega)⟩ ?_
  · show (0 : Int) = _
    rw [sm_zero (fun s _ => by rw [if_neg (fun z => by cases z)]; omega)]
  clear f4 e159 e158 e29 e144 e161 m y M4
  rintro m x M5 ⟨c1, c2, c3, c4, c5, ⟨c9, c10, c11⟩, c14, c15, c16⟩
  dsimp only
  unfold lb173_62
  have m5 := c4.md hM
  rw [m5.1, hN.n]
  refine wp_ite (fun c => ?_) (fun c => wp_o (wp_some ?_))
  · obtain ⟨i, rfl⟩ := Int.eq_ofNat_of_zero_le c1
    have hi : i < nN N := by omega
    rw [Int.toNat_natCast] at c5 c9 c10 c11
    have hil := isl_le (S := S) hi
    rw [Int.toNat_natCast, c5.2.2.2.2 i hi]
    refine wp_gd (by omega) (wp_ite (fun d => ?_) (fun d => ?_))
    · have hroot : isl N S i = i := by omega
      have hfa : falls N S (i + 1) = falls N S i ++ fall N S i := by rw [falls, if_pos hroot]
      have hD01 : ∀ s, (if s ∈ falls N S i then (1 : Int) else S 4 s) = 0 ∨ (if s ∈ falls N S i then (1 : Int) else S 4 s) = 1 := fun s => by
        split
        · exact Or.inr rfl
        · exact hS.2.2.1 s
      refine wp_bind (w165 (D := fun s => if s ∈ falls N S i then 1 else S 4 s) (l := falls N S i) hN hS m5 c5 hi hD01 (fun s hs hi2 => ?_) (fun s => ?_) c9 c10 c11 (fun M6 D2 h1 h2 h3 h4 h5 h6 h7 h8' h9' => ?_))
      · rw [if_neg (fun z => by have := (falls_isl hN z).1; omega)]
      · have := hS.2.2.1 s
        split <;> omega
      have hD2 : ∀ s, D2 s = if s ∈ falls N S (i + 1) then 1 else S 4 s := fun s => by
        rw [h6 s, hfa]
        by_cases z1 : s ∈ fall N S i
        · rw [if_pos z1, if_pos (List.mem_append.mpr (Or.inr z1))]
        · rw [if_neg z1]
          by_cases z2 : s ∈ falls N S i
          · rw [if_pos z2, if_pos (List.mem_append.mpr (Or.inl z2))]
          · rw [if_neg z2, if_neg (fun z => by
              rcases List.mem_append.mp z with z | z
              · exact z2 z
              · exact z1 z)]
      have hdk : ∀ s, s < nN N → isl N S s = i → D2 s = dkF N S s := fun s hsn hi2 => by
        rw [h6 s, if_neg (c := s ∈ falls N S i) (fun z => by have := (falls_isl hN z).1; omega)]
        unfold dkF
        rw [hi2]
        by_cases e1 : s ∈ fall N S i
        · rw [if_pos e1, if_pos (Or.inr e1)]
        · rw [if_neg e1]
          rcases hS.2.2.1 s with e2 | e2
          · rw [e2, if_neg (fun z => by
              rcases z with z | z
              · exact absurd z (by decide)
              · exact e1 z)]
          · rw [e2, if_pos (Or.inl rfl)]
      have hLd : litI N S D2 i = litI N S (dkF N S) i := litI_congr hdk
      have f6 : frM z M5 M6 := ⟨fun b q1 q2 q3 => h1 b q1 q2 (by omega), h2, h3⟩
      have m6 := f6.md m5
      refine wp_bind (w112 hN hS m6 h4 hi h5 (fun y hy hy2 => ?_) (fun M7 p1 p2 p3 => ?_))
      · rw [h1 159 (by decide) (by decide) (by decide), c15 y hy, if_neg (by omega)]
      have f7 : frM z M6 M7 := frM.of (fun b hb => p1 b (by omega) (by omega))
      have m7 := f7.md m6
      have h47 : mS N S M7 D2 z := ⟨hz, fun k hk => by rw [p1 144 (by decide) (by decide)]; exact h4.2.1 k hk, fun s hs => by rw [p1 144 (by decide) (by decide)]; exact h4.2.2.1 s hs, fun s hs => by rw [p1 144 (by decide) (by decide)]; exact h4.2.2.2.1 s hs, fun s hs => by rw [p1 158 (by decide) (by decide)]; exact h4.2.2.2.2 s hs⟩
      have hgv : ∀ y : Nat, y < nK N → isl N S (aK N y) = i → M7 159 y = gv N S y := fun y hy hy2 => by
        rw [p3 y hy, if_pos hy2]
        unfold gv
        rw [hy2, hLd]
      have hon7 : ∀ w, w < 14 → M7 144 (z + w) = S 0 w := fun w hw => by
        rw [p1 144 (by decide) (by decide), h3 _ (by omega), c4.2.2 _ (by omega)]
        exact (hs.1 w hw).1
      refine wp_bind (w111 hN hS m7 h47 hdk hon7 hgv hi hroot (fun M8 q1 q2 q3 => ?_))
      have f8 : frM z M7 M8 := frM.of (fun b hb => q1 b (by omega) (by omega) (by omega) (by omega) (by omega))
      have c160 : ∀ b, b ≠ 142 → b ≠ 144 → b ≠ 163 → b ≠ 159 → b ≠ 160 → b ≠ 161 → b ≠ 162 → b ≠ 164 → b ≠ 165 → b ≠ 166 → M8 b = M5 b := fun b z1 z2 z3 z4 z5 z6 z7 z8 z9 z10 => (q1 b z6 z7 z8 z9 z10).trans ((p1 b z4 z5).trans (h1 b z1 z2 z3))
      unfold f173_101
      refine wp_gd (by omega) (wp_i2 (m - 1) (by omega) ⟨by omega, by omega, by omega, ((c4.trans f6).trans f7).trans f8, ?_, ⟨?_, fun j y hj => ?_, ?_⟩, fun j hj hj2 => ?_, fun y hy => ?_, fun w hw => ?_⟩)
      · rw [show ((i : Int) + 1).toNat = i + 1 by omega]
        refine ⟨hz, fun k hk => ?_, fun s hs => ?_, fun s hs => ?_, fun s hs => ?_⟩
        · rw [q1 144 (by decide) (by decide) (by decide) (by decide) (by decide)]
          exact h47.2.1 k hk
        · rw [q1 144 (by decide) (by decide) (by decide) (by decide) (by decide)]
          exact h47.2.2.1 s hs
        · rw [q1 144 (by decide) (by decide) (by decide) (by decide) (by decide), h47.2.2.2.1 s hs]
          exact hD2 s
        · rw [q1 158 (by decide) (by decide) (by decide) (by decide) (by decide)]
          exact h47.2.2.2.2 s hs
      · rw [q1 142 (by decide) (by decide) (by decide) (by decide) (by decide), p1 142 (by decide) (by decide), h7, show ((i : Int) + 1).toNat = i + 1 by omega, hfa]
      · rw [show ((i : Int) + 1).toNat = i + 1 by omega, hfa] at hj
        rw [q1 163 (by decide) (by decide) (by decide) (by decide) (by decide), p1 163 (by decide) (by decide)]
        exact h8' j y hj
      · rw [show ((i : Int) + 1).toNat = i + 1 by omega, hfa, h9']
        exact sm_congr (fun s _ => by rw [hD2 s, hfa])
      · rw [q1 160 (by decide) (by decide) (by decide) (by decide) (by decide), p2 j]
        by_cases e : j = i
        · rw [if_pos e, e, hLd]
          rfl
        · rw [if_neg e, h1 160 (by decide) (by decide) (by decide)]
          exact c14 j (by omega) hj2
      · rw [q1 159 (by decide) (by decide) (by decide) (by decide) (by decide)]
        by_cases e : isl N S (aK N y) = i
        · rw [if_pos (by omega)]
          exact hgv y hy e
        · rw [p3 y hy, if_neg e, h1 159 (by decide) (by decide) (by decide), c15 y hy]
          by_cases e2 : (isl N S (aK N y) : Int) < i
          · rw [if_pos e2, if_pos (by omega)]
          · rw [if_neg e2, if_neg (by omega)]
      · rw [q2 w hw, q3 w hw, p1 161 (by decide) (by decide), p1 162 (by decide) (by decide), h1 161 (by decide) (by decide) (by decide), h1 162 (by decide) (by decide) (by decide), (c16 w hw).1, (c16 w hw).2]
        by_cases e : S 0 w = 0 ∧ isl N S (eA N w) = i
        · rw [if_pos e, if_pos e, if_pos ⟨by omega, e.1⟩, if_pos ⟨by omega, e.1⟩]
          exact ⟨rfl, rfl⟩
        · rw [if_neg e, if_neg e]
          by_cases e2 : (isl N S (eA N w) : Int) < i ∧ S 0 w = 0
          · rw [if_pos e2, if_pos e2, if_pos ⟨by omega, e2.2⟩, if_pos ⟨by omega, e2.2⟩]
            exact ⟨rfl, rfl⟩
          · have e3 : ¬ ((isl N S (eA N w) : Int) < (i : Int) + 1 ∧ S 0 w = 0) := fun q => by
              by_cases e4 : isl N S (eA N w) = i
              · exact e ⟨q.2, e4⟩
              · exact e2 ⟨by omega, q.2⟩
            rw [if_neg e2, if_neg e2, if_neg e3, if_neg e3]
            exact ⟨rfl, rfl⟩
    · have hroot : isl N S i ≠ i := by omega
      have hno : ∀ s, s < nN N → isl N S s ≠ i := fun s hs e => hroot (by rw [← e]; exact isl_idem hs)
      have hfa : falls N S (i + 1) = falls N S i := by rw [falls, if_neg hroot]
      unfold f173_101
      refine wp_gd (by omega) (wp_i2 (m - 1) (by omega) ⟨by omega, by omega, by omega, c4, ?_, ⟨?_, ?_, ?_⟩, fun j hj hj2 => ?_, fun y hy => ?_, fun w hw => ?_⟩)
      · rw [show ((i : Int) + 1).toNat = i + 1 by omega, hfa]
        exact c5
      · rw [show ((i : Int) + 1).toNat = i + 1 by omega, hfa]
        exact c9
      · rw [show ((i : Int) + 1).toNat = i + 1 by omega, hfa]
        exact c10
      · rw [show ((i : Int) + 1).toNat = i + 1 by omega, hfa]
        exact c11
      · have : j ≠ i := fun e => hroot (e ▸ hj2)
        exact c14 j (by omega) hj2
      · have := hno _ (hN.ck y hy).1.2
        rw [c15 y hy]
        by_cases e2 : (isl N S (aK N y) : Int) < i
        · rw [if_pos e2, if_pos (by omega)]
        · rw [if_neg e2, if_neg (by omega)]
      · have := hno _ (hN.cw w hw).1.2
        rw [(c16 w hw).1, (c16 w hw).2]
        by_cases e2 : (isl N S (eA N w) : Int) < i ∧ S 0 w = 0
        · rw [if_pos e2, if_pos e2, if_pos ⟨by omega, e2.2⟩, if_pos ⟨by omega, e2.2⟩]
          exact ⟨rfl, rfl⟩
        · have e3 : ¬ ((isl N S (eA N w) : Int) < (i : Int) + 1 ∧ S 0 w = 0) := fun q => e2 ⟨by omega, q.2⟩
          rw [if_neg e2, if_neg e2, if_neg e3, if_neg e3]
          exact ⟨rfl, rfl⟩
  · have ex : x.toNat = nN N := by omega
    rw [ex] at c5 c9 c10 c11
    refine k M5 c4 ⟨fun s hs => by rw [dkF_falls hN hS s]; exact c5.2.2.2.1 s hs, ⟨c9, c10⟩, fun s hs => ⟨c5.2.2.2.2 s hs, c14 _ (by have := isl_lt (S := S) hs; omega) (isl_idem hs)⟩, fun y hy => ?_, fun w hw => ?_⟩
    · have := isl_lt (S := S) (hN.ck y hy).1.2
      rw [c15 y hy, if_pos (by omega)]
    · have := isl_lt (S := S) (hN.cw w hw).1.2
      rw [(c16 w hw).1, (c16 w hw).2]
      by_cases e : S 0 w = 0
      · rw [if_pos e, if_pos e, if_pos ⟨by omega, e⟩, if_pos ⟨by omega, e⟩]
        exact ⟨rfl, rfl⟩
      · rw [if_neg e, if_neg e, if_neg (fun q => e q.2), if_neg (fun q => e q.2)]
        exact ⟨rfl, rfl⟩
end MT
