/-! The matrix of an island. -/
noncomputable def pl (N S : Mm) (i : Nat) : Nat → Nat
  | 0 => 0
  | s + 1 => if isl N S s = i ∧ s ≠ i then pl N S i s + 1 else pl N S i s
noncomputable def sz (N S : Mm) (i : Nat) : Nat := pl N S i (nN N)
noncomputable def ep (N S : Mm) (i s : Nat) : Nat := if s = i then 50 else pl N S i s
def dl (p r : Nat) : Int := if p = r then 1 else 0
noncomputable def wt (N S : Mm) (i w r c : Nat) : Int := if S 0 w = 0 ∧ isl N S (eA N w) = i then N 16 w * ((dl (ep N S i (eA N w)) r - dl (ep N S i (eB N w)) r) * (dl (ep N S i (eA N w)) c - dl (ep N S i (eB N w)) c)) else 0
noncomputable def mA (N S : Mm) (i r c : Nat) : Int := sm (fun w => wt N S i w r c) (nW N)
noncomputable def bV (N S : Mm) (i r : Nat) : Int := sm (fun s => if (isl N S s = i ∧ s ≠ i) ∧ pl N S i s = r then psh N S s else 0) (nN N)
noncomputable def mX (N S : Mm) (i r c : Nat) : Int := if c < sz N S i then mA N S i r c else if c = 14 then bV N S i r else if c = 20 + r then 1 else 0
section PL
variable {N S : Mm} {i : Nat}
theorem pl_le : ∀ s : Nat, pl N S i s ≤ s
  | 0 => Nat.le_refl 0
  | s + 1 => by
    have := pl_le s
    rw [pl]
    split <;> omega
theorem pl_mono : ∀ {m s : Nat}, pl N S i s ≤ pl N S i (s + m)
  | 0, s => Nat.le_refl _
  | m + 1, s => by
    have h := pl_mono (m := m) (s := s)
    show _ ≤ pl N S i (s + m + 1)
    rw [pl]
    split <;> omega
theorem pl_lt {s t : Nat} (h : s < t) (hs : isl N S s = i ∧ s ≠ i) : pl N S i s < pl N S i t := by
  have h1 : pl N S i (s + 1) = pl N S i s + 1 := by rw [pl, if_pos hs]
  have h2 := pl_mono (N := N) (S := S) (i := i) (m := t - (s + 1)) (s := s + 1)
  rw [show s + 1 + (t - (s + 1)) = t by omega] at h2
  omega
theorem pl_inj {s t : Nat} (hs : isl N S s = i ∧ s ≠ i) (ht : isl N S t = i ∧ t ≠ i) (e : pl N S i s = pl N S i t) : s = t := by
  rcases Nat.lt_trichotomy s t with q | q | q
  · have := pl_lt q hs
    omega
  · exact q
  · have := pl_lt q ht
    omega
theorem pl_sz {s : Nat} (h : s < nN N) (hs : isl N S s = i ∧ s ≠ i) : pl N S i s < sz N S i := pl_lt h hs
theorem pl_root : ∀ {m : Nat}, pl N S i (i + 1 + m) + 1 ≤ i + 1 + m
  | 0 => by
    have := pl_le (N := N) (S := S) (i := i) i
    show pl N S i (i + 1) + 1 ≤ i + 1
    rw [pl, if_neg (fun q => q.2 rfl)]
    omega
  | m + 1 => by
    have := pl_root (m := m)
    show pl N S i (i + 1 + m + 1) + 1 ≤ i + 1 + m + 1
    rw [pl]
    split <;> omega
theorem sz_7 (hN : NC N) (hi : i < nN N) : sz N S i ≤ 7 := by
  have := pl_root (N := N) (S := S) (i := i) (m := nN N - (i + 1))
  rw [show i + 1 + (nN N - (i + 1)) = nN N by omega] at this
  have := hN.n8
  unfold sz
  omega
theorem ep_lt {s : Nat} (h : s < nN N) (hs : isl N S s = i) (e : s ≠ i) : ep N S i s = pl N S i s ∧ pl N S i s < sz N S i := ⟨if_neg e, pl_sz h ⟨hs, e⟩⟩
theorem ep_root : ep N S i i = 50 := if_pos rfl
theorem ep_inj (hN : NC N) (hi : i < nN N) {s t : Nat} (hs : s < nN N) (ht : t < nN N) (is : isl N S s = i) (it : isl N S t = i) (e : ep N S i s = ep N S i t) : s = t := by
  have h7 := sz_7 (S := S) hN hi
  by_cases e1 : s = i
  · by_cases e2 : t = i
    · omega
    · have := ep_lt ht it e2
      rw [e1, ep_root] at e
      omega
  · have h1 := ep_lt hs is e1
    by_cases e2 : t = i
    · rw [e2, ep_root] at e
      omega
    · have h2 := ep_lt ht it e2
      exact pl_inj ⟨is, e1⟩ ⟨it, e2⟩ (by omega)
theorem dl_01 (p r : Nat) : dl p r = 0 ∨ dl p r = 1 := by
  unfold dl
  split
  · exact Or.inr rfl
  · exact Or.inl rfl
/-- a way of the island: its ends -/
theorem way_in (hN : NC N) {w : Nat} (hw : w < nW N) (h : S 0 w = 0 ∧ isl N S (eA N w) = i) : isl N S (eB N w) = i := by rw [← isl_on hN hw h.1]; exact h.2
theorem wt_sym (w r c : Nat) : wt N S i w r c = wt N S i w c r := by
  unfold wt
  split
  · rw [Int.mul_comm (dl _ r - _)]
  · rfl
theorem wt_off (hN : NC N) {w r c : Nat} (hw : w < nW N) (h : r ≠ c) : wt N S i w r c ≤ 0 := by
  have h16 := (hN.cw w hw).2.2.2.1
  unfold wt
  split
  · refine mpn (by omega) ?_
    unfold dl
    by_cases a : ep N S i (eA N w) = r
    · rw [if_pos a, if_neg (fun q => h (a.symm.trans q))]
      by_cases b : ep N S i (eB N w) = r
      · rw [if_pos b]
        exact Int.le_of_eq (Int.zero_mul _)
      · rw [if_neg b]
        split <;> decide
    · rw [if_neg a]
      by_cases b : ep N S i (eB N w) = r
      · rw [if_pos b, if_neg (fun q => h (b.symm.trans q))]
        split <;> decide
      · rw [if_neg b]
        exact Int.le_of_eq (Int.zero_mul _)
  · exact Int.le_refl 0
theorem dl_sum {p n : Nat} : sm (fun c => dl p c) n = if p < n then 1 else 0 := by
  rw [← sm_one p 1 n]
  exact sm_congr (fun c _ => by
    unfold dl
    by_cases e : p = c
    · rw [if_pos e, if_pos e.symm]
    · rw [if_neg e, if_neg (fun q => e q.symm)])
theorem wt_row (hN : NC N) (hi : i < nN N) {w r : Nat} (hw : w < nW N) (hr : r < sz N S i) : 0 ≤ sm (wt N S i w r) (sz N S i) := by
  have h16 := (hN.cw w hw).2.2.2.1
  have ha := (hN.cw w hw).1.2
  have hb := (hN.cw w hw).2.1.2
  have h7 := sz_7 (S := S) hN hi
  by_cases h : S 0 w = 0 ∧ isl N S (eA N w) = i
  · have hB := way_in hN hw h
    have e : sm (wt N S i w r) (sz N S i) = N 16 w * ((dl (ep N S i (eA N w)) r - dl (ep N S i (eB N w)) r) * ((if ep N S i (eA N w) < sz N S i then 1 else 0) - (if ep N S i (eB N w) < sz N S i then 1 else 0))) := by
      rw [← dl_sum, ← dl_sum, sm_congr (f := wt N S i w r) (g := fun c => (N 16 w * (dl (ep N S i (eA N w)) r - dl (ep N S i (eB N w)) r)) * (dl (ep N S i (eA N w)) c + - dl (ep N S i (eB N w)) c)) (fun c _ => by
        unfold wt
        rw [if_pos h, Int.mul_assoc]
        rfl), sm_mul, sm_add, sm_neg, Int.mul_assoc]
      rfl
    rw [e]
    refine Int.mul_nonneg (by omega) ?_
    unfold dl
    repeat' split
    all_goals first | decide | (exfalso; omega)
  · rw [sm_zero (f := wt N S i w r) (fun c _ => if_neg h)]
    exact Int.le_refl 0
theorem mA_row (r : Nat) : sm (mA N S i r) (sz N S i) = sm (fun w => sm (wt N S i w r) (sz N S i)) (nW N) := (sm_swap (fun w c => wt N S i w r c) (sz N S i) (nW N)).symm
theorem dl_sq (p q : Nat) (r : Nat) : (dl p r - dl q r) * (dl p r - dl q r) ≤ dl p r + dl q r := by
  unfold dl
  split <;> split <;> decide
theorem mA_diag (hN : NC N) : sm (fun r => mA N S i r r) (sz N S i) ≤ 84 := by
  have h1 : sm (fun r => mA N S i r r) (sz N S i) = sm (fun w => sm (fun r => wt N S i w r r) (sz N S i)) (nW N) := (sm_swap (fun w r => wt N S i w r r) (sz N S i) (nW N)).symm
  have h2 := sm_const (f := fun w => sm (fun r => wt N S i w r r) (sz N S i)) (c := 6) (n := nW N) (fun w hw => by
    have h16 := (hN.cw w hw).2.2.2.1
    have h3 := sm_mono (f := fun r => wt N S i w r r) (g := fun r => N 16 w * (dl (ep N S i (eA N w)) r + dl (ep N S i (eB N w)) r)) (n := sz N S i) (fun r _ => by
      have h4 := dl_sq (ep N S i (eA N w)) (ep N S i (eB N w)) r
      have h5 : 0 ≤ dl (ep N S i (eA N w)) r + dl (ep N S i (eB N w)) r := by
        have := dl_01 (ep N S i (eA N w)) r
        have := dl_01 (ep N S i (eB N w)) r
        omega
      unfold wt
      split
      · exact Int.mul_le_mul_of_nonneg_left h4 (by omega)
      · exact Int.mul_nonneg (by omega) h5)
    rw [sm_mul, sm_add, dl_sum, dl_sum] at h3
    have h6 : N 16 w * ((if ep N S i (eA N w) < sz N S i then 1 else 0) + (if ep N S i (eB N w) < sz N S i then 1 else 0)) ≤ 6 := by
      split <;> split <;> omega
    omega)
  have := hN.w14
  omega
/-- the matrix is that of a net -/
theorem mX_nt (hN : NC N) (hi : i < nN N) (hr : isl N S i = i) : ntM (mX N S i) (sz N S i) := by
  have h7 := sz_7 (S := S) hN hi
  have e : ∀ r c, c < sz N S i → mX N S i r c = mA N S i r c := fun r c hc => if_pos hc
  have er : ∀ r, sm (mX N S i r) (sz N S i) = sm (mA N S i r) (sz N S i) := fun r => sm_congr (fun c hc => e r c hc)
  have hrow : ∀ r, r < sz N S i → ∀ w, w < nW N → 0 ≤ sm (wt N S i w r) (sz N S i) := fun r hr w hw => wt_row hN hi hw hr
  refine ⟨fun r c hr hc => ?_, fun r c hr hc hne => ?_, fun r hr => ?_, fun T hT => ?_⟩
  · rw [e r c hc, e c r hr]
    exact sm_congr (fun w _ => wt_sym w r c)
  · rw [e r c hc]
    have := sm_mono (f := fun w => wt N S i w r c) (g := fun _ => 0) (n := nW N) (fun w hw => wt_off hN hw hne)
    rw [sm_zero (f := fun _ => (0 : Int)) (fun _ _ => rfl)] at this
    exact this
  · rw [er, mA_row]
    exact sm_nn (fun w hw => hrow r hr w hw)
  · -- were it not so, T's spots would be closed
    apply Classical.byContradiction
    intro hno
    have hno2 : ∀ r, r < sz N S i → T r → sm (mA N S i r) (sz N S i) ≤ 0 ∧ ∀ c, c < sz N S i → ¬ T c → 0 ≤ mA N S i r c := fun r hr ht => by
      refine ⟨?_, fun c hc hnt => ?_⟩
      · rcases Int.lt_or_le 0 (sm (mA N S i r) (sz N S i)) with q | q
        · exact (hno ⟨r, hr, ht, Or.inl (by rw [er]; exact q)⟩).elim
        · exact q
      · rcases Int.lt_or_le (mA N S i r c) 0 with q | q
        · exact (hno ⟨r, hr, ht, Or.inr ⟨c, hc, hnt, by rw [e r c hc]; exact q⟩⟩).elim
        · exact q
    let T' : Nat → Prop := fun s => isl N S s = i ∧ s ≠ i ∧ T (pl N S i s)
    have hstep : ∀ w, w < nW N → S 0 w = 0 → ∀ a b, (eA N w = a ∧ eB N w = b ∨ eA N w = b ∧ eB N w = a) → T' a → T' b := fun w hw hu a b hab ⟨ha1, ha2, ha3⟩ => by
      have hwa := (hN.cw w hw).1.2
      have hwb := (hN.cw w hw).2.1.2
      have hne := (hN.cw w hw).2.2.1
      have h16 := (hN.cw w hw).2.2.2.1
      have hon := isl_on hN hw hu
      have han : a < nN N := by rcases hab with q | q <;> omega
      have hbn : b < nN N := by rcases hab with q | q <;> omega
      have hab2 : a ≠ b := by rcases hab with q | q <;> omega
      have hbi : isl N S b = i := by
        rcases hab with ⟨q1, q2⟩ | ⟨q1, q2⟩
        · rw [← q2, ← hon, q1]; exact ha1
        · rw [← q1, hon, q2]; exact ha1
      have hA : S 0 w = 0 ∧ isl N S (eA N w) = i := ⟨hu, by rcases hab with ⟨q1, _⟩ | ⟨q1, _⟩ <;> (rw [q1]; assumption)⟩
      have hpa := ep_lt han ha1 ha2
      have hpr := hno2 _ hpa.2 ha3
      by_cases eb : b = i
      · -- the root: the row's sum is above 0
        exfalso
        have g1 := sm_ge1 (f := fun w => sm (wt N S i w (pl N S i a)) (sz N S i)) hw (fun w hw => hrow _ hpa.2 w hw)
        rw [← mA_row] at g1
        have g2 : sm (wt N S i w (pl N S i a)) (sz N S i) = N 16 w := by
          have e1 : ∀ c, c < sz N S i → wt N S i w (pl N S i a) c = N 16 w * dl (pl N S i a) c := fun c hc => by
            unfold wt
            rw [if_pos hA]
            have z1 : dl 50 (pl N S i a) = 0 := if_neg (by omega)
            have z2 : dl 50 c = 0 := if_neg (by omega)
            have z3 : dl (pl N S i a) (pl N S i a) = 1 := if_pos rfl
            rcases hab with ⟨q1, q2⟩ | ⟨q1, q2⟩
            · rw [q1, q2, eb, ep_root, hpa.1, z1, z2, z3]
              show N 16 w * ((1 - 0) * (dl (pl N S i a) c - 0)) = _
              congr 1
              omega
            · rw [q1, q2, eb, ep_root, hpa.1, z1, z2, z3]
              show N 16 w * ((0 - 1) * (0 - dl (pl N S i a) c)) = _
              congr 1
              omega
          rw [sm_congr e1, sm_mul, dl_sum, if_pos hpa.2, Int.mul_one]
        omega
      · have hpb := ep_lt hbn hbi eb
        refine ⟨hbi, eb, ?_⟩
        apply Classical.byContradiction
        intro hnt
        have g0 := hpr.2 _ hpb.2 hnt
        have hpab : pl N S i a ≠ pl N S i b := fun q => hab2 (pl_inj ⟨ha1, ha2⟩ ⟨hbi, eb⟩ q)
        have g1 := sm_le1 (f := fun w => wt N S i w (pl N S i a) (pl N S i b)) hw (fun w2 hw2 _ => wt_off hN hw2 hpab)
        have g2 : wt N S i w (pl N S i a) (pl N S i b) = - N 16 w := by
          unfold wt
          rw [if_pos hA]
          have z1 : dl (pl N S i a) (pl N S i a) = 1 := if_pos rfl
          have z2 : dl (pl N S i b) (pl N S i b) = 1 := if_pos rfl
          have z3 : dl (pl N S i a) (pl N S i b) = 0 := if_neg hpab
          have z4 : dl (pl N S i b) (pl N S i a) = 0 := if_neg (fun q => hpab q.symm)
          rcases hab with ⟨q1, q2⟩ | ⟨q1, q2⟩
          · rw [q1, q2, hpa.1, hpb.1, z1, z2, z3, z4]
            omega
          · rw [q1, q2, hpa.1, hpb.1, z1, z2, z3, z4]
            omega
        have : mA N S i (pl N S i a) (pl N S i b) ≤ wt N S i w (pl N S i a) (pl N S i b) := g1
        omega
    have hcl : gClo (nN N) (onJ N S) T' := fun a b ha hb ⟨w, h1, h2, h3⟩ ht => hstep w h1 h2 a b (h3.imp id (fun q => ⟨q.1, q.2⟩)) ht
    obtain ⟨r, hr, ht⟩ := hT
    -- a spot of place r
    have hex : ∀ m : Nat, r < pl N S i m → ∃ s, s < m ∧ isl N S s = i ∧ s ≠ i ∧ pl N S i s = r := by
      intro m
      induction m with
      | zero => intro q; exact absurd q (Nat.not_lt_zero r)
      | succ m ih =>
        intro q
        rw [pl] at q
        split at q
        · rename_i c
          by_cases e2 : r = pl N S i m
          · exact ⟨m, by omega, c.1, c.2, e2.symm⟩
          · obtain ⟨s, s1, s2⟩ := ih (by omega)
            exact ⟨s, by omega, s2⟩
        · obtain ⟨s, s1, s2⟩ := ih q
          exact ⟨s, by omega, s2⟩
    obtain ⟨s, s1, s2, s3, s4⟩ := hex (nN N) hr
    have := (isl_lab N S).1.2 T' hcl s s1 ⟨s2, s3, by rw [s4]; exact ht⟩
    rw [s2] at this
    exact this.2.1 rfl
end PL
