theorem litI_congr {N S : Mm} {D D2 : Nat → Int} {i : Nat} (h : ∀ s, s < nN N → isl N S s = i → D s = D2 s) : litI N S D i = litI N S D2 i := sm_congr (fun s hs => by
  by_cases e : isl N S s = i
  · rw [h s hs e]
  · rw [if_neg (fun q => e q.1), if_neg (fun q => e q.1)])
theorem litI_less {N S : Mm} {D D2 : Nat → Int} {i p : Nat} (hp : p < nN N) (hi : isl N S p = i) (h0 : D p = 0) (h : ∀ s, D2 s = if s = p then 1 else D s) : litI N S D2 i = litI N S D i - S 3 p := by
  have := sm_upd (f := fun s => if isl N S s = i ∧ D2 s = 0 then S 3 s else 0) (g := fun s => if isl N S s = i ∧ D s = 0 then S 3 s else 0) (n := nN N) (p := p) (x := S 3 p) hp (fun s hs => by
    rw [h s]
    by_cases e : s = p
    · subst e
      rw [if_pos rfl, if_pos ⟨hi, h0⟩, if_neg (fun q => absurd q.2 (by decide)), if_pos rfl]
      omega
    · rw [if_neg e, if_neg e]
      omega)
  unfold litI
  omega
theorem sm_top {f : Nat → Int} {n p : Nat} (hp : p < n) (h1 : ∀ s, s < n → f s ≤ 1) (h0 : f p ≤ 0) : sm f n ≤ (n : Int) - 1 := by
  have h2 := sm_mono (f := f) (g := fun s => 1 + if s = p then -1 else 0) (n := n) (fun s hs => by
    by_cases e : s = p
    · subst e
      rw [if_pos rfl]
      omega
    · rw [if_neg e]
      have := h1 s hs
      omega)
  rw [sm_add (fun _ => 1) (fun s => if s = p then -1 else 0), sm_one, if_pos hp] at h2
  have h3 := sm_const (f := fun _ => (1 : Int)) (c := 1) (n := n) (fun _ _ => Int.le_refl 1)
  omega
section ST
variable {N S M : Mm} {r r2 i : Nat}
theorem w239 {D : Nat → Int} {l : List Nat} {P : Mm → Prop} (hN : NC N) (hS : sV N S) (hM : nCl N M) (hs : sC N S M r2) (hq : sepS r r2) (hi : i < nN N)
    (hl : ∀ s : Nat, s < nN N → M (r + 2) s = isl N S s) (hd0 : 0 ≤ M r 0) (hd1 : M r 0 < (2 ^ nN N : Nat)) (hD : ∀ s, D s = if tb (M r 0) s then 1 else 0) (hDi : ∀ s, s < nN N → isl N S s = i → D s = S 4 s) (hDS : ∀ s, S 4 s ≤ D s)
    (hn : M r 1 = l.length) (hls : ∀ j x : Nat, l[j]? = some x → M (r + 1) j = x) (hct : (l.length : Int) = sm (fun s => D s - S 4 s) (nN N))
    (k : ∀ (M2 : Mm) (D2 : Nat → Int), frS r M M2 → (∀ b, b ≠ r → b ≠ r + 1 → b ≠ r + 3 → b ≠ r + 4 → b ≠ r + 6 → M2 b = M b) → M2 r 2 = M r 2 →
      (0 ≤ M2 r 0 ∧ M2 r 0 < (2 ^ nN N : Nat) ∧ ∀ s, D2 s = if tb (M2 r 0) s then 1 else 0) → (∀ s, D2 s = if s ∈ fall N S i then 1 else D s) →
      M2 r 1 = (l ++ fall N S i).length → (∀ j x : Nat, (l ++ fall N S i)[j]? = some x → M2 (r + 1) j = x) → (((l ++ fall N S i).length : Int) = sm (fun s => D2 s - S 4 s) (nN N)) →
      (∀ s : Nat, s < nN N → M2 (r + 3) s = if isl N S s = i then mostI N S i - litI N S (dkF N S) i else M (r + 3) s) →
      (∀ x : Nat, x < nK N → M2 (r + 4) x = if isl N S (aK N x) = i then gv N S x else M (r + 4) x) →
      (∀ s : Nat, s < nN N → M2 (r + 6) s = if isl N S s = i then psh N S s else M (r + 6) s) → P M2) :
    Wp (f239 r r2 i M) P := by
  have h8 := hN.n8
  have h9 := hN.k9
  have hmo := mostI_b (S := S) (i := i) hN
  have hpn := pw2_n hN
  have hpk := pw2_k hN
  have hq1 := hq.1
  have hq2 := hq.2
  have e3 : M 3 = N 3 := hM.1
  have e13 : M 13 = N 13 := hM.r (by decide) (by decide)
  have e20 : M 20 = N 20 := hM.r (by decide) (by decide)
  have e21 : M 21 = N 21 := hM.r (by decide) (by decide)
  unfold f239 f239_6
  refine wp_lp2 (fun m x y => 0 ≤ y ∧ y ≤ nK N ∧ (m : Int) = nK N - y ∧ x = sm (fun k => if S 5 k = 1 ∧ isl N S (aK N k) = i then N 21 k else 0) y.toNat) (nK N) (by omega) ⟨by omega, by omega, by omega, rfl⟩ ?_
  rintro m x y ⟨a1, a2, a3, a4⟩
  dsimp only
  unfold lb239_6
  rw [e3, hN.k]
  refine wp_ite (fun c => ?_) (fun c => wp_o ?_)
  · obtain ⟨u, rfl⟩ := Int.eq_ofNat_of_zero_le a1
    rw [Int.toNat_natCast] at a4
    have hu : u < nK N := by omega
    have hk := hN.ck u hu
    have hx : 0 ≤ x ∧ x ≤ 45000 := by
      have h1 := sm_nn (a := fun k => if S 5 k = 1 ∧ isl N S (aK N k) = i then N 21 k else 0) (n := u) (fun k hk2 => by
        have := (hN.ck k (by omega)).2.1
        split <;> omega)
      have h2 := sm_const (f := fun k => if S 5 k = 1 ∧ isl N S (aK N k) = i then N 21 k else 0) (c := 5000) (n := u) (fun k hk2 => by
        have := (hN.ck k (by omega)).2.1
        split <;> omega)
      omega
    have step : ∀ v : Int, v = (if S 5 u = 1 ∧ isl N S (aK N u) = i then N 21 u else 0) → Wp (f239_52 r r2 i (x + v) u M) (Sum.elim (up2 (fun m x y => 0 ≤ y ∧ y ≤ nK N ∧ (m : Int) = nK N - y ∧ x = sm (fun k => if S 5 k = 1 ∧ isl N S (aK N k) = i then N 21 k else 0) y.toNat) m) P) := fun v hv => by
      unfold f239_52
      refine wp_gd (by omega) (wp_i2 (m - 1) (by omega) ⟨by omega, by omega, by omega, ?_⟩)
      rw [show ((u : Int) + 1).toNat = u + 1 by omega, a4, hv]
      rfl
    refine wp_bind (w245 hs.2.2.2.1.1 (by have := hs.2.2.2.1.2.1; omega) (by omega) (by omega) ?_)
    rw [Int.toNat_natCast, e20, hk.1.1, Int.toNat_natCast, hl _ hk.1.2, e21]
    have hrun := hs.2.2.2.1.2.2 u
    cases q : tb (M r2 2) u
    · rw [q] at hrun
      refine wp_pos rfl ?_
      have := step 0 (by rw [if_neg (fun z => by rw [hrun] at z; exact absurd z.1 (by decide))])
      rw [Int.add_zero] at this
      exact this
    · rw [q] at hrun
      refine wp_neg (by decide) (wp_gd (by omega) (wp_gd (by omega) (wp_ite (fun c2 => ?_) (fun c2 => ?_))))
      · refine wp_gd ⟨by omega, by omega⟩ (step _ ?_)
        rw [if_pos ⟨hrun, by omega⟩]
      · have := step 0 (by rw [if_neg (fun z => c2 (by rw [z.2]))])
        rw [Int.add_zero] at this
        exact this
  have ex : x = mostI N S i := by
    rw [a4, show y.toNat = nK N by omega]
    rfl
  subst ex
  clear a1 a2 a3 a4 c
  unfold f239_64
  refine wp_lp2 (fun m x y => 0 ≤ y ∧ y ≤ nN N ∧ (m : Int) = nN N - y ∧ x = sm (fun s => if isl N S s = i ∧ D s = 0 then S 3 s else 0) y.toNat) (nN N) (by omega) ⟨by omega, by omega, by omega, rfl⟩ ?_
  rintro m x y ⟨a1, a2, a3, a4⟩
  dsimp only
  unfold lb239_64
  rw [e3, hN.n]
  refine wp_ite (fun c => ?_) (fun c => wp_o ?_)
  · obtain ⟨u, rfl⟩ := Int.eq_ofNat_of_zero_le a1
    rw [Int.toNat_natCast] at a4
    have hu : u < nN N := by omega
    have hx : 0 ≤ x ∧ x ≤ 16000 := by
      have h1 := sm_nn (a := fun s => if isl N S s = i ∧ D s = 0 then S 3 s else 0) (n := u) (fun s _ => by
        have := hS.2.1 s (by omega)
        split <;> omega)
      have h2 := sm_const (f := fun s => if isl N S s = i ∧ D s = 0 then S 3 s else 0) (c := 2000) (n := u) (fun s _ => by
        have := hS.2.1 s (by omega)
        split <;> omega)
      omega
    have step : ∀ v : Int, v = (if isl N S u = i ∧ D u = 0 then S 3 u else 0) → Wp (f239_108 r r2 i (mostI N S i) (x + v) u M) (Sum.elim (up2 (fun m x y => 0 ≤ y ∧ y ≤ nN N ∧ (m : Int) = nN N - y ∧ x = sm (fun s => if isl N S s = i ∧ D s = 0 then S 3 s else 0) y.toNat) m) P) := fun v hv => by
      unfold f239_108
      refine wp_gd (by omega) (wp_i2 (m - 1) (by omega) ⟨by omega, by omega, by omega, ?_⟩)
      rw [show ((u : Int) + 1).toNat = u + 1 by omega, a4, hv]
      rfl
    have skip : ¬ (isl N S u = i ∧ D u = 0) → Wp (f239_108 r r2 i (mostI N S i) x u M) (Sum.elim (up2 (fun m x y => 0 ≤ y ∧ y ≤ nN N ∧ (m : Int) = nN N - y ∧ x = sm (fun s => if isl N S s = i ∧ D s = 0 then S 3 s else 0) y.toNat) m) P) := fun hne => by
      have := step 0 (by rw [if_neg hne])
      rw [Int.add_zero] at this
      exact this
    have hDu := hD u
    have hlv := hS.2.1 u (by omega)
    rw [Int.toNat_natCast, hl u hu, bT hd0 (by omega) (by omega) (by omega), Int.toNat_natCast, hs.2.1 u (by omega), ← hDu]
    refine wp_gd (by omega) (wp_ite (fun c2 => wp_ite (fun c3 => wp_gd ⟨by omega, by omega⟩ (step _ ?_)) (fun c3 => skip ?_)) (fun c2 => skip ?_))
    · rw [if_pos ⟨by omega, c3⟩]
    · exact fun z => c3 z.2
    · exact fun z => c2 (by rw [z.1])
  have ex : x = litI N S D i := by
    rw [a4, show y.toNat = nN N by omega]
    rfl
  subst ex
  clear a1 a2 a3 a4 c
  refine wp_gd (by omega) ?_
  unfold f239_122
  have hL0 : litI N S D i = litI N S (S 4) i := litI_congr hDi
  -- what is shed
  let I : Nat → Int → Int → Mm → Prop := fun m L y M2 => -1 ≤ y ∧ y < nN N ∧ (m : Int) = y + 1 ∧ frS r M M2 ∧ (∀ b, b ≠ r → b ≠ r + 1 → M2 b = M b) ∧ M2 r 2 = M r 2 ∧
    ∃ (done : List Nat) (D2 : Nat → Int), fall N S i = done ++ shF S (mostI N S i) (shL N S i (y + 1).toNat) L ∧ (∀ s, s ∈ done → ∃ p : Nat, y < p ∧ p < nN N ∧ s = oR N p) ∧
      (0 ≤ M2 r 0 ∧ M2 r 0 < (2 ^ nN N : Nat) ∧ ∀ s, D2 s = if tb (M2 r 0) s then 1 else 0) ∧ (∀ s, D2 s = if s ∈ done then 1 else D s) ∧ L = litI N S D2 i ∧
      M2 r 1 = (l ++ done).length ∧ (∀ j x : Nat, (l ++ done)[j]? = some x → M2 (r + 1) j = x) ∧ (((l ++ done).length : Int) = sm (fun s => D2 s - S 4 s) (nN N))
  refine wp_lp3 I (nN N) (by omega) ⟨by omega, by omega, by omega, frS.rfl', fun _ _ _ => rfl, rfl, [], D, ?_, fun s hs => (by cases hs), ⟨hd0, hd1, hD⟩, fun s => (by rw [if_neg (by intro q; cases q)]), rfl, ?_, ?_, ?_⟩ ?_
  · rw [show ((nN N : Int) - 1 + 1).toNat = nN N by omega, hL0]
    rfl
  · rw [List.append_nil]
    exact hn
  · rw [List.append_nil]
    exact hls
  · rw [List.append_nil]
    exact hct
  clear y m
  rintro m L y M2 ⟨a1, a2, a3, a4, a5, a6, done, D2, b1, b2, ⟨b3, b4, b5⟩, b6, b7, b8, b9, b10⟩
  dsimp only
  unfold lb239_122
  have el : M2 (r + 2) = M (r + 2) := a5 _ (by omega) (by omega)
  have hs2 := a4.sc hq hs
  have n2 := a4.nc hq hM
  have e13' : M2 13 = N 13 := n2.r (by decide) (by decide)
  have hli := litI_b (i := i) (D := D2) hN hS
  -- the end
  have fin : fall N S i = done → Wp (f239_228 r r2 i (mostI N S i) L M2) P := fun he => by
    unfold f239_228
    refine wp_bind ?_
    have hdk : ∀ s, s < nN N → isl N S s = i → D2 s = dkF N S s := fun s hsn hi2 => by
      rw [b6 s, hDi s hsn hi2]
      unfold dkF
      rw [hi2, he]
      by_cases e1 : s ∈ done
      · rw [if_pos e1, if_pos (Or.inr e1)]
      · rw [if_neg e1]
        rcases hS.2.2.1 s with e2 | e2
        · rw [e2, if_neg (fun z => by
            rcases z with z | z
            · exact absurd z (by decide)
            · exact e1 z)]
        · rw [e2, if_pos (Or.inl rfl)]
    have hLd : litI N S D2 i = litI N S (dkF N S) i := litI_congr hdk
    refine w233 (D := D2) hN hS n2 hs2 hq hi (fun s hsn => by rw [el]; exact hl s hsn) b3 b4 b5 b7.symm (fun M3 g1 g2 g3 g4 g5 => ?_)
    refine wp_some (k M3 D2 (a4.trans g1) (fun b z0 z1 z3 z4 z6 => (g2 b z3 z4 z6).trans (a5 b z0 z1)) ?_ ?_ (fun s => by rw [b6 s, he]) ?_ ?_ ?_ ?_ ?_ ?_)
    · rw [g2 r (by omega) (by omega) (by omega)]
      exact a6
    · rw [g2 r (by omega) (by omega) (by omega)]
      exact ⟨b3, b4, b5⟩
    · rw [g2 r (by omega) (by omega) (by omega), he]
      exact b8
    · rw [g2 (r + 1) (by omega) (by omega) (by omega), he]
      exact b9
    · rw [he]
      exact b10
    · intro s hsn
      rw [g3 s hsn, a5 (r + 3) (by omega) (by omega), b7, hLd]
    · intro x hx
      rw [g4 x hx, a5 (r + 4) (by omega) (by omega)]
      by_cases e : isl N S (aK N x) = i
      · rw [if_pos e, if_pos e]
        unfold gv
        rw [e, b7, hLd]
      · rw [if_neg e, if_neg e]
    · intro s hsn
      rw [g5 s hsn, a5 (r + 6) (by omega) (by omega)]
      by_cases e : isl N S s = i
      · rw [if_pos e, if_pos e]
        unfold psh
        rw [hdk s hsn e]
        congr 1
        refine sm_congr (fun x hx => ?_)
        by_cases e2 : aK N x = s
        · rw [if_pos e2, if_pos e2]
          unfold gv
          rw [e2, e, b7, hLd]
        · rw [if_neg e2, if_neg e2]
      · rw [if_neg e, if_neg e]
  refine wp_ite (fun c => wp_o (fin ?_)) (fun c => ?_)
  · rw [b1, show (y + 1).toNat = 0 by omega]
    exact List.append_nil _
  obtain ⟨u, rfl⟩ := Int.eq_ofNat_of_zero_le (by omega : 0 ≤ y)
  rw [show ((u : Int) + 1).toNat = u + 1 by omega] at b1
  refine wp_ite (fun c2 => ?_) (fun c2 => wp_o (fin (by rw [b1, shF_no c2]; exact List.append_nil _)))
  have hu : u < nN N := by omega
  have ho := hN.cr.1 u hu
  have hlv := hS.2.1 (oR N u) (by omega)
  rw [Int.toNat_natCast, e13', ho.1, Int.toNat_natCast, el, hl _ ho.2, bT b3 (by omega) (by omega) (by omega), Int.toNat_natCast, ← b5, hs2.2.1 _ (by omega)]
  have hnd : oR N u ∉ done := fun q => by
    obtain ⟨p, p1, p2, p3⟩ := b2 _ q
    have := oR_inj hN hu p2 p3
    omega
  have hDu : D2 (oR N u) = D (oR N u) := by rw [b6, if_neg hnd]
  have hstep : shL N S i (u + 1) = if isl N S (oR N u) = i ∧ S 4 (oR N u) = 0 ∧ 0 < S 3 (oR N u) then oR N u :: shL N S i u else shL N S i u := rfl
  have skip : ¬ (isl N S (oR N u) = i ∧ S 4 (oR N u) = 0 ∧ 0 < S 3 (oR N u)) → Wp (f239_222 r r2 i (mostI N S i) L u M2) (Sum.elim (up3 I m) P) := fun hne => by
    unfold f239_222
    rw [hstep, if_neg hne] at b1
    refine wp_gd (by omega) (wp_i3 (m - 1) (by omega) ⟨by omega, by omega, by omega, a4, a5, a6, done, D2, ?_, fun s hs => ?_, ⟨b3, b4, b5⟩, b6, b7, b8, b9, b10⟩)
    · rw [show ((u : Int) + -1 + 1).toNat = u by omega]
      exact b1
    · obtain ⟨p, p1, p2⟩ := b2 s hs
      exact ⟨p, by omega, p2⟩
  refine wp_gd (by omega) (wp_gd (by omega) (wp_ite (fun c3 => wp_ite (fun c4 => wp_ite (fun c5 => ?_) (fun c5 => skip ?_)) (fun c4 => skip ?_)) (fun c3 => skip ?_)))
  · have c6 : isl N S (oR N u) = i := by omega
    have c7 : S 4 (oR N u) = 0 := by rw [← hDi _ ho.2 c6, ← hDu]; exact c4
    rw [hstep, if_pos ⟨c6, c7, c5⟩, shF, if_pos c2] at b1
    have hD20 : ∀ s, D2 s - S 4 s ≤ 1 := fun s => by
      have := b5 s
      have := hS.2.2.1 s
      split at * <;> omega
    have hcap := sm_top (f := fun s => D2 s - S 4 s) ho.2 (fun s _ => hD20 s) (by omega)
    refine wp_mlet ?_
    rw [ms_i (by decide : (1 : Nat) ≠ 0), b8]
    refine wp_gd (by omega) (wp_mlet ?_)
    rw [ms_a (by omega : r ≠ r + 1), ms_i (by decide : (1 : Nat) ≠ 0), b8]
    refine wp_gd ⟨by omega, by omega⟩ (wp_mlet ?_)
    rw [ms_a (by omega : r2 + 1 ≠ r), ms_a (by omega : r2 + 1 ≠ r + 1), ms_a (by omega : r2 + 1 ≠ r), hs2.2.1 _ (by omega)]
    refine wp_gd ⟨by omega, by omega⟩ ?_
    unfold f239_222
    have hpow : (2 ^ oR N u : Nat) < (2 ^ nN N : Nat) := Nat.pow_lt_pow_right (by decide) ho.2
    have hp0 : (0 : Int) ≤ ((2 ^ oR N u : Nat) : Int) := Int.natCast_nonneg _
    have hbl : bShl 1 (oR N u : Int) = (2 ^ oR N u : Nat) := by
      have := bL (y := (oR N u : Int)) (by omega) (by omega)
      rw [Int.toNat_natCast] at this
      exact this
    have hbO := bO_lt (n := nN N) (x := M2 r 0) (y := bShl 1 (oR N u : Int)) (by omega) b3 b4 (by omega) (by omega)
    have hD3 : ∀ s, (if tb (bOr (M2 r 0) (bShl 1 (oR N u : Int))) s then (1 : Int) else 0) = if s ∈ done ++ [oR N u] then 1 else D s := fun s => by
      rw [tb_or b3 (by omega) (by omega) (by omega), tb_pow (by omega) (by omega), Int.toNat_natCast]
      by_cases e : oR N u = s
      · rw [decide_eq_true e, Bool.or_true, if_pos rfl, if_pos (List.mem_append.mpr (Or.inr (List.mem_singleton.mpr e.symm)))]
      · rw [decide_eq_false e, Bool.or_false, ← b5 s, b6 s]
        by_cases e2 : s ∈ done
        · rw [if_pos e2, if_pos (List.mem_append.mpr (Or.inl e2))]
        · rw [if_neg e2, if_neg (fun z => by
            rcases List.mem_append.mp z with z | z
            · exact e2 z
            · exact e (List.mem_singleton.mp z).symm)]
    have hD4 : ∀ s, (if s ∈ done ++ [oR N u] then (1 : Int) else D s) = if s = oR N u then 1 else D2 s := fun s => by
      by_cases e : s = oR N u
      · rw [if_pos e, if_pos (List.mem_append.mpr (Or.inr (List.mem_singleton.mpr e)))]
      · rw [if_neg e, b6 s]
        by_cases e2 : s ∈ done
        · rw [if_pos e2, if_pos (List.mem_append.mpr (Or.inl e2))]
        · rw [if_neg e2, if_neg (fun z => by
            rcases List.mem_append.mp z with z | z
            · exact e2 z
            · exact e (List.mem_singleton.mp z))]
    have hlen : (l ++ (done ++ [oR N u])).length = (l ++ done).length + 1 := by rw [← List.append_assoc, List.length_append]; rfl
    refine wp_gd (by omega) (wp_i3 (m - 1) (by omega) ⟨by omega, by omega, by omega, ((a4.st (by omega) (by omega)).st (by omega) (by omega)).st (by omega) (by omega), fun b hb hb2 => ?_, ?_, done ++ [oR N u], fun s => if s ∈ done ++ [oR N u] then 1 else D s, ?_, fun s hs => ?_, ⟨?_, ?_, ?_⟩, fun s => rfl, ?_, ?_, fun j x hj => ?_, ?_⟩)
    · rw [ms_a hb, ms_a hb2, ms_a hb]
      exact a5 b hb hb2
    · rw [ms_i (by decide), ms_a (by omega), ms_i (by decide)]
      exact a6
    · rw [show ((u : Int) + -1 + 1).toNat = u by omega, List.append_assoc]
      exact b1
    · rcases List.mem_append.mp hs with hs | hs
      · obtain ⟨p, p1, p2⟩ := b2 s hs
        exact ⟨p, by omega, p2⟩
      · exact ⟨u, by omega, hu, List.mem_singleton.mp hs⟩
    · rw [ms_i (by decide), ms_a (by omega), ms_v]
      exact hbO.1
    · rw [ms_i (by decide), ms_a (by omega), ms_v]
      exact hbO.2
    · intro s
      rw [ms_i (by decide), ms_a (by omega), ms_v]
      exact (hD3 s).symm
    · rw [litI_less ho.2 c6 (D := D2) (by rw [hDu, hDi _ ho.2 c6]; exact c7) hD4, b7]
    · rw [ms_v, hlen]
      omega
    · rw [ms_a (by omega)]
      by_cases e : j = (l ++ done).length
      · subst e
        rw [← List.append_assoc, List.getElem?_append_right (Nat.le_refl _), Nat.sub_self] at hj
        have hx : oR N u = x := by
          injection hj
        rw [Int.toNat_natCast, ms_v, hx]
      · rw [Int.toNat_natCast, ms_i e, ms_a (by omega)]
        have hlt : j < (l ++ done).length := by
          have : j < (l ++ (done ++ [oR N u])).length := by
            rcases Nat.lt_or_ge j (l ++ (done ++ [oR N u])).length with q | q
            · exact q
            · rw [List.getElem?_eq_none q] at hj
              cases hj
          omega
        rw [← List.append_assoc, List.getElem?_append_left hlt] at hj
        exact b9 j x hj
    · rw [hlen]
      have := sm_upd (f := fun s => D2 s - S 4 s) (g := fun s => (if s ∈ done ++ [oR N u] then (1 : Int) else D s) - S 4 s) (n := nN N) (p := oR N u) (x := 1) ho.2 (fun s hs => by
        rw [hD4 s]
        by_cases e : s = oR N u
        · rw [if_pos e, if_pos e, e, hDu, hDi _ ho.2 c6]
          omega
        · rw [if_neg e, if_neg e]
          omega)
      rw [this]
      omega
  · exact fun z => c5 z.2.2
  · exact fun z => c4 (by rw [hDu, hDi _ ho.2 z.1]; exact z.2.1)
  · exact fun z => c3 (by rw [z.1])
end ST
