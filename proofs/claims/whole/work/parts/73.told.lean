/-! No way carries more than all that is made. -/
section TD
variable {N S : Mm} {i w a b : Nat}
def endsO (N : Mm) (w a b : Nat) : Prop := (eA N w = a ∧ eB N w = b) ∨ (eA N w = b ∧ eB N w = a)
theorem row_root (hN : NC N) (hi : i < nN N) (hw : w < nW N) (hA : S 0 w = 0 ∧ isl N S (eA N w) = i) (hab : endsO N w a i) (ha : a < nN N) (ha1 : isl N S a = i) (ha2 : a ≠ i) : N 16 w ≤ sm (mX N S i (pl N S i a)) (sz N S i) := by
  have h7 := sz_7 (S := S) hN hi
  have hpa := ep_lt ha ha1 ha2
  have er : sm (mX N S i (pl N S i a)) (sz N S i) = sm (mA N S i (pl N S i a)) (sz N S i) := sm_congr (fun c hc => if_pos hc)
  have g1 := sm_ge1 (f := fun w => sm (wt N S i w (pl N S i a)) (sz N S i)) hw (fun w hw => wt_row hN hi hw hpa.2)
  rw [← mA_row] at g1
  have g2 : sm (wt N S i w (pl N S i a)) (sz N S i) = N 16 w := by
    have e1 : ∀ c, c < sz N S i → wt N S i w (pl N S i a) c = N 16 w * dl (pl N S i a) c := fun c hc => by
      unfold wt
      rw [if_pos hA]
      have z1 : dl 50 (pl N S i a) = 0 := if_neg (by omega)
      have z2 : dl 50 c = 0 := if_neg (by omega)
      have z3 : dl (pl N S i a) (pl N S i a) = 1 := if_pos rfl
      rcases hab with ⟨q1, q2⟩ | ⟨q1, q2⟩
      · rw [q1, q2, ep_root, hpa.1, z1, z2, z3]
        show N 16 w * ((1 - 0) * (dl (pl N S i a) c - 0)) = _
        congr 1
        omega
      · rw [q1, q2, ep_root, hpa.1, z1, z2, z3]
        show N 16 w * ((0 - 1) * (0 - dl (pl N S i a) c)) = _
        congr 1
        omega
    rw [sm_congr e1, sm_mul, dl_sum, if_pos hpa.2, Int.mul_one]
  omega
theorem off_way (hN : NC N) (hi : i < nN N) (hw : w < nW N) (hA : S 0 w = 0 ∧ isl N S (eA N w) = i) (hab : endsO N w a b) (ha : a < nN N) (hb : b < nN N) (ha1 : isl N S a = i ∧ a ≠ i) (hb1 : isl N S b = i ∧ b ≠ i) (hne : a ≠ b) : mX N S i (pl N S i a) (pl N S i b) ≤ - N 16 w := by
  have hpa := ep_lt ha ha1.1 ha1.2
  have hpb := ep_lt hb hb1.1 hb1.2
  have hpab : pl N S i a ≠ pl N S i b := fun q => hne (pl_inj ha1 hb1 q)
  have g1 := sm_le1 (f := fun w => wt N S i w (pl N S i a) (pl N S i b)) hw (fun w2 hw2 _ => wt_off hN hw2 hpab)
  have g2 : wt N S i w (pl N S i a) (pl N S i b) = - N 16 w := by
    unfold wt
    rw [if_pos hA]
    have z1 : dl (pl N S i a) (pl N S i a) = 1 := if_pos rfl
    have z2 : dl (pl N S i b) (pl N S i b) = 1 := if_pos rfl
    have z3 : dl (pl N S i a) (pl N S i b) = 0 := if_neg hpab
    have z4 : dl (pl N S i b) (pl N S i a) = 0 := if_neg (fun q => hpab q.symm)
    rcases hab with ⟨q1, q2⟩ | ⟨q1, q2⟩
    · rw [q1, q2, hpa.1, hpb.1, z1, z2, z3, z4]
      omega
    · rw [q1, q2, hpa.1, hpb.1, z1, z2, z3, z4]
      omega
  have : mA N S i (pl N S i a) (pl N S i b) ≤ wt N S i w (pl N S i a) (pl N S i b) := g1
  rw [show mX N S i (pl N S i a) (pl N S i b) = mA N S i (pl N S i a) (pl N S i b) from if_pos hpb.2]
  omega
/-- x is at most y, and what y times h is at most, x times h is too -/
theorem mul_dn {x y h B : Int} (h0 : 0 ≤ x) (hxy : x ≤ y) (hB : 0 ≤ B) (hh : h * y ≤ B) : x * h ≤ B := by
  rcases Int.lt_or_le h 0 with q | q
  · have := mpn (a := x) (b := h) h0 (by omega)
    omega
  · have := Int.mul_le_mul_of_nonneg_left hxy q
    rw [Int.mul_comm x h]
    omega
theorem fl_16 (hN : NC N) (hS : sV N S) (hw : w < nW N) (hu : S 0 w = 0) : -(fD N S w * 16000) ≤ fl N S w ∧ fl N S w ≤ fD N S w * 16000 := by
  have hcw := hN.cw w hw
  have hi := isl_lt (S := S) hcw.1.2
  have hr := isl_idem (S := S) hcw.1.2
  have hD := (fl_b hN hS hw hu).2.1
  have hBi := (isl_on hN hw hu).symm
  have h7 := sz_7 (S := S) hN hi
  unfold fl
  have hDe : fD N S w = det (sz N S (isl N S (eA N w))) (mX N S (isl N S (eA N w))) := rfl
  generalize hie : isl N S (eA N w) = i at *
  have hnt := mX_nt hN hi hr
  have hA : S 0 w = 0 ∧ isl N S (eA N w) = i := ⟨hu, hie⟩
  have hs : ∀ r, r < sz N S i → sm (fun j => mX N S i r j * gjI (mX N S i) (sz N S i) j 14) (sz N S i) = det (sz N S i) (mX N S i) * bV N S i r := fun r hr2 => net_solve (m := 20) (by omega) hnt (fun r c h1 h2 => by
    unfold mX
    rw [if_neg (by omega), if_neg (by omega)]
    by_cases e : r = c
    · rw [if_pos (by omega), if_pos e]
    · rw [if_neg (by omega), if_neg e]) (fun r _ => congrFun (mX_14 hN hi) r) hr2
  have key := net_flow hnt (by omega) hs (bd_sub (bV_bd hN hS)) (by decide : (0 : Int) ≤ 16000)
  rw [← hDe] at key
  have h16 := hcw.2.2.2.1
  have hDB : 0 ≤ fD N S w * 16000 := Int.mul_nonneg (by omega) (by decide)
  generalize fD N S w * 16000 = X at *
  -- one end is the root
  have root : ∀ s, s < nN N → isl N S s = i → s ≠ i → endsO N w s i → (N 16 w * gjI (mX N S i) (sz N S i) (pl N S i s) 14 ≤ X ∧ -X ≤ N 16 w * gjI (mX N S i) (sz N S i) (pl N S i s) 14) := fun s hs2 h1 h2 h3 => by
    have hp := pl_sz hs2 ⟨h1, h2⟩
    have g := row_root hN hi hw hA h3 hs2 h1 h2
    have k := key.1 _ hp
    have k1 := mul_dn (x := N 16 w) (by omega) g hDB k.1
    have k2 := mul_dn (x := N 16 w) (h := - gjI (mX N S i) (sz N S i) (pl N S i s) 14) (by omega) g hDB (by rw [Int.neg_mul]; omega)
    rw [Int.mul_neg] at k2
    exact ⟨k1, by omega⟩
  unfold ht
  by_cases ea : eA N w = i
  · rw [if_pos ea, if_neg (fun q => hcw.2.2.1 (ea.trans q.symm))]
    have := root (eB N w) hcw.2.1.2 hBi (fun q => hcw.2.2.1 (ea.trans q.symm)) (Or.inr ⟨ea, rfl⟩)
    rw [Int.mul_sub, Int.mul_zero]
    omega
  · rw [if_neg ea]
    by_cases eb : eB N w = i
    · rw [if_pos eb, Int.sub_zero]
      have := root (eA N w) hcw.1.2 hie ea (Or.inl ⟨rfl, eb⟩)
      omega
    · rw [if_neg eb]
      have hpa := pl_sz hcw.1.2 ⟨hie, ea⟩
      have hpb := pl_sz hcw.2.1.2 ⟨hBi, eb⟩
      have hne : pl N S i (eA N w) ≠ pl N S i (eB N w) := fun q => hcw.2.2.1 (pl_inj ⟨hie, ea⟩ ⟨hBi, eb⟩ q)
      have g := off_way hN hi hw hA (Or.inl ⟨rfl, rfl⟩) hcw.1.2 hcw.2.1.2 ⟨hie, ea⟩ ⟨hBi, eb⟩ hcw.2.2.1
      have k1 := key.2 _ _ hpa hpb hne
      have k2 := key.2 _ _ hpb hpa (fun q => hne q.symm)
      rw [hnt.1 _ _ hpb hpa] at k2
      have m1 := mul_dn (x := N 16 w) (by omega) (show N 16 w ≤ _ by omega : N 16 w ≤ - mX N S i (pl N S i (eA N w)) (pl N S i (eB N w))) hDB (by rw [Int.mul_comm]; exact k1)
      have m2 := mul_dn (x := N 16 w) (by omega) (show N 16 w ≤ _ by omega : N 16 w ≤ - mX N S i (pl N S i (eA N w)) (pl N S i (eB N w))) hDB (by rw [Int.mul_comm]; exact k2)
      refine ⟨?_, m1⟩
      rw [show gjI (mX N S i) (sz N S i) (pl N S i (eA N w)) 14 - gjI (mX N S i) (sz N S i) (pl N S i (eB N w)) 14 = -(gjI (mX N S i) (sz N S i) (pl N S i (eB N w)) 14 - gjI (mX N S i) (sz N S i) (pl N S i (eA N w)) 14) by omega, Int.mul_neg]
      omega
/-- what is told of a way -/
theorem toldB (hN : NC N) (hS : sV N S) (hw : w < nW N) : -1600000 ≤ told N S w ∧ told N S w ≤ 1600000 := by
  unfold told
  split
  · rename_i hu
    have h1 := fl_16 hN hS hw hu
    have hD := (fl_b hN hS hw hu).2.1
    have a1 : (Int.tdiv (fl N S w * 100) (fD N S w)).natAbs = (fl N S w * 100).natAbs / (fD N S w).natAbs := Int.natAbs_tdiv _ _
    have a2 : (fl N S w * 100).natAbs / (fD N S w).natAbs ≤ 1600000 := by
      refine Nat.div_le_of_le_mul ?_
      omega
    rw [← a1] at a2
    clear h1 a1
    omega
  · decide
end TD
