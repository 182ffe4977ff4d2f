def chrL (j : Nat) : Int := ([109, 105, 107, 114, 100, 110, 102, 108, 119, 103, 120] : List Int).getD j 0
/-- the rules K stand in the second object of memory T -/
def txM (K : Bool → (Nat → Int) → Bool) (T : Mm) : Prop := ∀ M : Mm, M 142 6 = T 142 6 → (∀ b, 167 ≤ b → b ≤ 171 → M b = T b) → ∀ (b : Bool) (z thing : Nat) (L : Nat → Int) (P : Int × Mm → Prop),
  (∀ j, relL b j → ∀ M2 : Mm, (∀ c, c ≠ 142 → c ≠ 178 → c ≠ 179 → M2 c = M c) → (∀ i, i ≠ 54 → i ≠ 55 → i ≠ 56 → M2 142 i = M 142 i) → M2 142 54 = z → M2 142 55 = thing → M2 142 56 = (if b then 0 else 1) → ∀ Q : Int → Prop, Q (L j) → Wp (f183 (chrL j) M2) Q) →
  (∀ M2 : Mm, (∀ c, c ≠ 142 → c ≠ 178 → c ≠ 179 → M2 c = M c) → (∀ i, i ≠ 54 → i ≠ 55 → i ≠ 56 → M2 142 i = M 142 i) → P (if K b L then 1 else 0, M2)) → Wp (f122 z (if b then 0 else 1) thing M) P
/-- those of a kind, in their order -/
def flL (f : Nat → Bool) (kd : Int) : Nat → List (Int × Nat)
  | 0 => []
  | w + 1 => if f w then flL f kd w ++ [(kd, w)] else flL f kd w
theorem flL_len (f : Nat → Bool) (kd : Int) : ∀ n : Nat, ((flL f kd n).length : Int) = cnB f n
  | 0 => rfl
  | n + 1 => by
    have ih := flL_len f kd n
    show _ = cnB f n + if f n = true then 1 else 0
    rw [flL]
    cases q : f n
    · rw [if_neg (by decide), if_neg (by decide)]
      omega
    · rw [if_pos rfl, if_pos rfl, List.length_append]
      show ((_ + 1 : Nat) : Int) = _
      omega
noncomputable def evL (N S : Mm) (K : Bool → (Nat → Int) → Bool) (c : Int) : List (Int × Nat) := (falls N S (nN N)).map (fun x => (0, x)) ++ flL (dnF N S c) 1 (nW N) ++ flL (trF N S K c) 2 (nW N) ++ flL (stF N S K) 3 (nK N)
theorem evL_len (N S : Mm) (K : Bool → (Nat → Int) → Bool) (c : Int) : ((evL N S K c).length : Int) = cm N S K c := by
  have h1 := flL_len (dnF N S c) 1 (nW N)
  have h2 := flL_len (trF N S K c) 2 (nW N)
  have h3 := flL_len (stF N S K) 3 (nK N)
  unfold evL cm
  rw [List.length_append, List.length_append, List.length_append, List.length_map]
  omega
/-- a list of what came lies in memory -/
def evM (M : Mm) (l : List (Int × Nat)) : Prop := M 142 59 = l.length ∧ ∀ (j : Nat) (p : Int × Nat), l[j]? = some p → M 180 j = p.1 ∧ M 181 j = p.2
theorem w93 {kd x : Int} {n : Nat} {M : Mm} {l : List (Int × Nat)} {P : Mm → Prop} (hx : x = n) (h : evM M l) (hl : l.length < 64) (k : ∀ M2 : Mm, (∀ b, b ≠ 142 → b ≠ 180 → b ≠ 181 → M2 b = M b) → (∀ j, j ≠ 59 → M2 142 j = M 142 j) → evM M2 (l ++ [(kd, n)]) → P M2) : Wp (f93 kd x M) P := by
  unfold f93
  rw [h.1]
  refine wp_gd (by omega) (wp_mlet ?_)
  rw [ms_a (by decide : (142 : Nat) ≠ 180), h.1]
  refine wp_gd (by omega) (wp_mlet ?_)
  rw [ms_a (by decide : (142 : Nat) ≠ 181), ms_a (by decide : (142 : Nat) ≠ 180), h.1, Int.toNat_natCast]
  refine wp_gd ⟨by omega, by omega⟩ (wp_mlet (wp_some (k _ (fun b q1 q2 q3 => ?_) (fun j hj => ?_) ⟨?_, fun j p hj => ?_⟩)))
  · rw [ms_a q1, ms_a q3, ms_a q2]
  · rw [ms_i hj, ms_a (by decide), ms_a (by decide)]
  · rw [ms_v, List.length_append]
    rfl
  · rw [ms_a (by decide : (180 : Nat) ≠ 142), ms_a (by decide : (180 : Nat) ≠ 181), ms_a (by decide : (181 : Nat) ≠ 142)]
    by_cases e : j = l.length
    · subst e
      rw [List.getElem?_append_right (Nat.le_refl _), Nat.sub_self] at hj
      have hp : (kd, n) = p := by injection hj
      rw [ms_v, ms_v, ← hp]
      exact ⟨rfl, hx⟩
    · have hlt : j < l.length := by
        rcases Nat.lt_or_ge j (l ++ [(kd, n)]).length with q | q
        · rw [List.length_append] at q
          have : ([(kd, n)] : List (Int × Nat)).length = 1 := rfl
          omega
        · rw [List.getElem?_eq_none q] at hj
          cases hj
      rw [List.getElem?_append_left hlt] at hj
      rw [ms_i e, ms_i e, ms_a (by decide : (181 : Nat) ≠ 180)]
      exact h.2 j p hj
theorem warm_eq {x D l : Int} (hD : 0 < D) (hl : 0 < l) : Int.tdiv (100 * ab x) (D * l) = Int.tdiv (ab (Int.tdiv (x * 100) D)) l := by
  have key : ∀ n : Int, 0 ≤ n → Int.tdiv (100 * n) (D * l) = Int.tdiv (Int.tdiv (n * 100) D) l := fun n hn => by
    obtain ⟨a, rfl⟩ := Int.eq_ofNat_of_zero_le hn
    obtain ⟨d, rfl⟩ := Int.eq_ofNat_of_zero_le (Int.le_of_lt hD)
    obtain ⟨e, rfl⟩ := Int.eq_ofNat_of_zero_le (Int.le_of_lt hl)
    show (((100 * a) / (d * e) : Nat) : Int) = (((a * 100) / d / e : Nat) : Int)
    rw [Nat.div_div_eq_div_mul, Nat.mul_comm 100 a]
  by_cases h : x < 0
  · have e1 : ab x = -x := if_pos h
    have e2 : Int.tdiv (x * 100) D = - Int.tdiv (-x * 100) D := by
      rw [← Int.neg_tdiv]
      congr 1
      omega
    have h3 := (tdiv_n (x := -x * 100) (d := D) (by omega) hD).1
    have e3 : ab (- Int.tdiv (-x * 100) D) = Int.tdiv (-x * 100) D := by
      unfold ab
      split <;> omega
    rw [e1, e2, e3]
    exact key _ (by omega)
  · have e1 : ab x = x := if_neg h
    have h3 := (tdiv_n (x := x * 100) (d := D) (by omega) hD).1
    have e3 : ab (Int.tdiv (x * 100) D) = Int.tdiv (x * 100) D := if_neg (by omega)
    rw [e1, e3]
    exact key _ (by omega)
section MP
variable {N S M : Mm} {c : Int} {z : Nat}
theorem w184 {P : Mm → Prop} (hN : NC N) (hS : sV N S) (hM : nMd N M) (hz : z + 72 ≤ 36400) (h0 : ∀ w, w < 14 → M 144 (z + w) = S 0 w) (h1 : ∀ w, w < 14 → M 144 (z + 14 + w) = S 1 w) (hc : M 144 (z + 69) = c) (hc2 : 0 ≤ c ∧ c ≤ 1000)
    (hf : ∀ w : Nat, w < nW N → M 161 w = (if S 0 w = 0 then fl N S w else 0) ∧ M 162 w = if S 0 w = 0 then fD N S w else 1)
    (k : ∀ M2 : Mm, (∀ b, b ≠ 144 → M2 b = M b) → (∀ a, (a < z + 14 ∨ z + 28 ≤ a) → M2 144 a = M 144 a) → (∀ w, w < 14 → M2 144 (z + 14 + w) = if w < nW N then wmF N S c w else S 1 w) → P M2) : Wp (f184 z M) P := by
  have h14 := hN.w14
  unfold f184 f184_2
  let I : Nat → Int → Mm → Prop := fun m y M2 => 0 ≤ y ∧ y ≤ nW N ∧ (m : Int) = nW N - y ∧ (∀ b, b ≠ 144 → M2 b = M b) ∧ (∀ a, (a < z + 14 ∨ z + 28 ≤ a) → M2 144 a = M 144 a) ∧ ∀ w : Nat, w < 14 → M2 144 (z + 14 + w) = if (w : Int) < y then wmF N S c w else S 1 w
  refine wp_lp2 I (nW N) (by omega) ⟨by omega, by omega, by omega, fun _ _ => rfl, fun _ _ => rfl, fun w hw => by rw [if_neg (by omega)]; exact h1 w hw⟩ ?_
  rintro m y M2 ⟨a1, a2, a3, a4, a5, a6⟩
  dsimp only
  unfold lb184_2
  rw [a4 142 (by decide), hM.2.1, hN.w, a4 161 (by decide), a4 162 (by decide), a4 150 (by decide)]
  refine wp_ite (fun d => ?_) (fun d => wp_o (wp_some (k M2 a4 a5 (fun w hw => ?_))))
  · obtain ⟨w, rfl⟩ := Int.eq_ofNat_of_zero_le a1
    have hw : w < nW N := by omega
    have hcw := hN.cw w hw
    have hlim := hcw.2.2.2.2.1
    have hS1 := (hS.1 w (by omega)).2.1
    have hb := wmF_b N S c w
    have e0 : M2 144 ((z : Int) + w).toNat = S 0 w := by rw [show ((z : Int) + w).toNat = z + w by omega, a5 _ (by omega)]; exact h0 w (by omega)
    have e1 : M2 144 ((z : Int) + 14 + w).toNat = S 1 w := by rw [show ((z : Int) + 14 + w).toNat = z + 14 + w by omega, a6 w (by omega), if_neg (by omega)]
    have ec : M2 144 ((z : Int) + 69).toNat = c := by rw [show ((z : Int) + 69).toNat = z + 69 by omega, a5 _ (by omega)]; exact hc
    have st : ∀ v : Int, v = wmF N S c w → Wp (gd (R4 v) (mlet (ms M2 144 ((z : Int) + 14 + w).toNat v) fun M29 => gd (R4 ((w : Int) + 1)) (some (.inl ((w : Int) + 1, M29))))) (Sum.elim (up2 I m) P) := fun v hv => by
      rw [hv, show ((z : Int) + 14 + w).toNat = z + 14 + w by omega]
      refine wp_gd ⟨by omega, by omega⟩ (wp_mlet (wp_gd (by omega) (wp_i2 (m - 1) (by omega) ⟨by omega, by omega, by omega, fun b hb2 => (ms_a hb2).trans (a4 b hb2), fun a ha => (ms_i (by omega)).trans (a5 a ha), fun x hx => ?_⟩)))
      by_cases e : x = w
      · rw [e, ms_v, if_pos (by omega)]
      · rw [ms_i (by omega), a6 x hx]
        by_cases e2 : (x : Int) < w
        · rw [if_pos e2, if_pos (by omega)]
        · rw [if_neg e2, if_neg (by omega)]
    rw [Int.toNat_natCast, e0, e1, ec, (hf w hw).1, (hf w hw).2, (hM.2.2.2.2.1 w hw).2.2.2.1]
    refine wp_gd (by omega) (wp_gd (by omega) (wp_ite (fun d2 => ?_) (fun d2 => ?_)))
    · rw [if_pos d2, if_pos d2]
      have hfb := fl_b hN hS hw d2
      have hab := ab_b (x := fl N S w) hfb.1
      have hwe := warm_eq (x := fl N S w) (D := fD N S w) (l := N 17 w) hfb.2.1 (by omega)
      have htl : Int.tdiv (fl N S w * 100) (fD N S w) = told N S w := by
        unfold told
        rw [if_pos d2]
      rw [htl] at hwe
      have hld := mul_bd (x := fD N S w) (y := N 17 w) (X := 35831808) (Y := 5000) ⟨by omega, by omega⟩ ⟨by omega, by omega⟩
      have hpos := Int.mul_pos hfb.2.1 (by omega : 0 < N 17 w)
      have htb := told_b hN hS hw
      have hab2 := ab_b (X := 505984819200000) htb
      have hdv := tdiv_n (x := ab (told N S w)) (d := N 17 w) hab2.1 (by omega)
      have hwm : wmF N S c w = max 0 (min 1000000 (S 1 w + Int.tdiv (ab (told N S w)) (N 17 w) - c)) := by
        unfold wmF
        rw [if_pos d2]
      refine wp_gd (by omega) (wp_bind (w170 ⟨by omega, by omega⟩ ?_))
      have hab' : (if fl N S w < 0 then - fl N S w else fl N S w) = ab (fl N S w) := rfl
      rw [hab', hwe]
      refine wp_gd ⟨by omega, by omega⟩ (wp_gd ⟨by omega, by omega⟩ (wp_gd (by omega) (wp_gd ⟨by omega, by omega⟩ (wp_gd (by omega) (wp_gd (by omega) (wp_gd (by omega) (wp_gd ⟨by omega, by omega⟩ (wp_gd (by omega) (wp_gd (by omega) (wp_gd ⟨by omega, by omega⟩ ?_))))))))))
      exact wp_ite (fun q => st 0 (by omega)) (fun q => wp_ite (fun q2 => st _ (by omega)) (fun q2 => st _ (by omega)))
    · have hwm : wmF N S c w = max 0 (min 1000000 (S 1 w + 0 - c)) := by
        unfold wmF
        rw [if_neg d2]
      refine wp_gd (by omega) (wp_gd (by omega) (wp_gd (by omega) (wp_gd ⟨by omega, by omega⟩ (wp_gd (by omega) (wp_gd (by omega) (wp_gd ⟨by omega, by omega⟩ ?_))))))
      exact wp_ite (fun q => st 0 (by omega)) (fun q => wp_ite (fun q2 => st _ (by omega)) (fun q2 => st _ (by omega)))
  · rw [a6 w hw]
    by_cases e2 : w < nW N
    · rw [if_pos e2, if_pos (by omega)]
    · rw [if_neg e2, if_neg (by omega)]
/-- the letters in the second object -/
theorem w183 {b : Bool} {x j : Nat} {P : Int → Prop} (hN : NC N) (hS : sV N S) (hM : nMd N M) (hz : z + 72 ≤ 36400) (hj : relL b j) (hx : if b then x < nK N else x < nW N) (h54 : M 142 54 = z) (h55 : M 142 55 = x) (h56 : M 142 56 = (if b then 0 else 1))
    (hw : ∀ w : Nat, w < nW N → M 144 (z + 14 + w) = wmF N S c w) (hld : ∀ s, s < 8 → M 144 (z + 59 + s) = S 3 s) (hdk : ∀ s, s < 8 → M 144 (z + 51 + s) = dkF N S s) (h67 : M 144 (z + 67) = S 6 0) (h68 : M 144 (z + 68) = S 6 1)
    (hrow : ∀ s : Nat, s < nN N → M 158 s = isl N S s ∧ M 160 (isl N S s) = rsv N S (isl N S s)) (hgv : ∀ y : Nat, y < nK N → M 159 y = gv N S y) (hf : ∀ w : Nat, w < nW N → M 161 w = (if S 0 w = 0 then fl N S w else 0) ∧ M 162 w = if S 0 w = 0 then fD N S w else 1)
    (k : P (if b then lK N S x j else lW N S c x j)) : Wp (f183 (chrL j) M) P := by
  have h14 := hN.w14
  have h9 := hN.k9
  have hn8 := hN.n8
  have c124 : ∀ Q : Int → Prop, Q (S 6 1) → Wp (f183_124 M) Q := fun Q q => by
    unfold f183_124
    rw [h54, show ((z : Int) + 68).toNat = z + 68 by omega, h68]
    exact wp_gd (by omega) (wp_gd (by omega) (wp_some q))
  have c171 : ∀ Q : Int → Prop, Q (S 6 0) → Wp (f183_171 M) Q := fun Q q => by
    unfold f183_171
    rw [h54, show ((z : Int) + 67).toNat = z + 67 by omega, h67]
    exact wp_gd (by omega) (wp_gd (by omega) (wp_some q))
  have c162 : ∀ Q : Int → Prop, Q (drk N S) → Wp (f183_162 M) Q := fun Q q => by
    unfold f183_162
    rw [h54]
    exact wp_bind (w163 (D := dkF N S) hN hS hM hz hld hdk (wp_some q))
  have c149 : ∀ (s : Nat) (Q : Int → Prop), s < nN N → Q (rsv N S (isl N S s)) → Wp (f183_149 s M) Q := fun s Q hs q => by
    have := isl_lt (S := S) hs
    unfold f183_149
    rw [Int.toNat_natCast, (hrow s hs).1, Int.toNat_natCast, (hrow s hs).2]
    exact wp_gd (by omega) (wp_gd (by omega) (wp_some q))
  unfold f183
  rw [h56, h55, Int.toNat_natCast]
  cases b
  · -- a wire
    have hx' : x < nW N := hx
    have hcw := hN.cw x hx'
    have hmw := hM.2.2.2.2.1 x hx'
    have htb := told_b hN hS hx'
    have k' : P (lW N S c x j) := k
    refine wp_neg (by decide) (wp_gd (by omega) ?_)
    have hj9 : j = 0 ∨ j = 1 ∨ j = 2 ∨ j = 3 ∨ j = 4 ∨ j = 5 ∨ j = 6 ∨ j = 7 ∨ j = 8 := by
      rcases hj with q | q | q
      · omega
      · omega
      · exact absurd q.1 (by decide)
    rcases hj9 with rfl | rfl | rfl | rfl | rfl | rfl | rfl | rfl | rfl
    · iterate 9 refine wp_neg (by decide) ?_
      refine wp_pos rfl ?_
      exact c124 _ k'
    · iterate 5 refine wp_neg (by decide) ?_
      refine wp_pos rfl ?_
      exact wp_some k'
    · iterate 7 refine wp_neg (by decide) ?_
      refine wp_pos rfl ?_
      rw [hmw.1, hcw.1.1, Int.toNat_natCast, (hM.2.2.2.1 _ hcw.1.2).1]
      exact wp_gd (by omega) (wp_some k')
    · iterate 14 refine wp_neg (by decide) ?_
      refine wp_pos rfl ?_
      rw [hmw.1, hcw.1.1]
      exact c149 _ _ hcw.1.2 k'
    · refine wp_pos rfl ?_
      exact c162 _ k'
    · iterate 10 refine wp_neg (by decide) ?_
      refine wp_pos rfl ?_
      exact c171 _ k'
    · iterate 2 refine wp_neg (by decide) ?_
      refine wp_pos rfl ?_
      unfold f183_185
      exact wp_bind (w178 hN hS hx' (hf x hx').1 (hf x hx').2 (wp_bind (w170 ⟨by omega, by omega⟩ (wp_some k'))))
    · iterate 8 refine wp_neg (by decide) ?_
      refine wp_pos rfl ?_
      rw [hmw.2.2.2.1]
      exact wp_some k'
    · iterate 19 refine wp_neg (by decide) ?_
      refine wp_pos rfl ?_
      unfold f183_202
      rw [h54, show ((z : Int) + 14 + x).toNat = z + 14 + x by omega, hw x hx']
      exact wp_gd (by omega) (wp_gd (by omega) (wp_gd (by omega) (wp_some k')))
  · have hx' : x < nK N := hx
    have hck := hN.ck x hx'
    have hmk := hM.2.2.2.2.2 x hx'
    have k' : P (lK N S x j) := k
    refine wp_pos rfl (wp_gd (by omega) ?_)
    have hj9 : j = 0 ∨ j = 1 ∨ j = 2 ∨ j = 3 ∨ j = 4 ∨ j = 5 ∨ j = 9 ∨ j = 10 := by
      rcases hj with q | q | q
      · omega
      · exact absurd q.1 (by decide)
      · omega
    rcases hj9 with rfl | rfl | rfl | rfl | rfl | rfl | rfl | rfl
    · iterate 9 refine wp_neg (by decide) ?_
      refine wp_pos rfl ?_
      exact c124 _ k'
    · iterate 5 refine wp_neg (by decide) ?_
      refine wp_pos rfl ?_
      exact wp_some k'
    · iterate 7 refine wp_neg (by decide) ?_
      refine wp_pos rfl ?_
      rw [hmk.1, hck.1.1, Int.toNat_natCast, (hM.2.2.2.1 _ hck.1.2).1]
      exact wp_gd (by omega) (wp_some k')
    · iterate 14 refine wp_neg (by decide) ?_
      refine wp_pos rfl ?_
      rw [hmk.1, hck.1.1]
      exact c149 _ _ hck.1.2 k'
    · refine wp_pos rfl ?_
      exact c162 _ k'
    · iterate 10 refine wp_neg (by decide) ?_
      refine wp_pos rfl ?_
      exact c171 _ k'
    · iterate 3 refine wp_neg (by decide) ?_
      refine wp_pos rfl ?_
      rw [hgv x hx']
      exact wp_some k'
    · iterate 20 refine wp_neg (by decide) ?_
      skip
      rw [hmk.2.1]
      exact wp_some k'
end MP

def txB (T M : Mm) : Prop := M 142 6 = T 142 6 ∧ ∀ b, 167 ≤ b → b ≤ 171 → M b = T b
/-- what a minute of the second object at z leaves as it was -/
def frS2 (z : Nat) (M M2 : Mm) : Prop := (∀ b, b ≠ 142 → b ≠ 144 → (b < 158 ∨ (166 < b ∧ b < 178) ∨ 181 < b) → M2 b = M b) ∧ (∀ j, j ≠ 29 → j ≠ 54 → j ≠ 55 → j ≠ 56 → j ≠ 59 → M2 142 j = M 142 j) ∧ ∀ a, (a < z ∨ z + 69 ≤ a) → M2 144 a = M 144 a
theorem frS2.trans {z : Nat} {M M2 M3 : Mm} (h : frS2 z M M2) (g : frS2 z M2 M3) : frS2 z M M3 := ⟨fun b h1 h2 h3 => (g.1 b h1 h2 h3).trans (h.1 b h1 h2 h3), fun j h1 h2 h3 h4 h5 => (g.2.1 j h1 h2 h3 h4 h5).trans (h.2.1 j h1 h2 h3 h4 h5), fun a ha => (g.2.2 a ha).trans (h.2.2 a ha)⟩
theorem frS2.md {z : Nat} {N M M2 : Mm} (h : frS2 z M M2) (hM : nMd N M) : nMd N M2 := hM.to (h.2.1 3 (by decide) (by decide) (by decide) (by decide) (by decide)) (h.2.1 4 (by decide) (by decide) (by decide) (by decide) (by decide)) (h.2.1 5 (by decide) (by decide) (by decide) (by decide) (by decide)) (fun b h1 h2 => h.1 b (by omega) (by omega) (by omega))
theorem frS2.tx {z : Nat} {T M M2 : Mm} (h : frS2 z M M2) (hM : txB T M) : txB T M2 := ⟨(h.2.1 6 (by decide) (by decide) (by decide) (by decide) (by decide)).trans hM.1, fun b h1 h2 => (h.1 b (by omega) (by omega) (by omega)).trans (hM.2 b h1 h2)⟩
section MQ
variable {N S M T : Mm} {c : Int} {z : Nat} {K : Bool → (Nat → Int) → Bool}
/-- one minute of the second object -/
theorem w175 {P : Mm → Prop} (hN : NC N) (hS : sV N S) (hM : nMd N M) (hK : txM K T) (hT : txB T M) (hz : z + 72 ≤ 36400) (hs : sM S M z) (hc : M 144 (z + 69) = c) (hc2 : 0 ≤ c ∧ c ≤ 1000)
    (k : ∀ M2 : Mm, frS2 z M M2 → sM (nx N S K c) M2 z → evM M2 (evL N S K c) → (∀ w : Nat, w < nW N → M2 161 w = (if S 0 w = 0 then fl N S w else 0) ∧ M2 162 w = if S 0 w = 0 then fD N S w else 1) → P M2) : Wp (f175 z M) P := by
  have h14 := hN.w14
  have h9 := hN.k9
  have hn8 := hN.n8
  have hS61 := hS.2.2.2.2.2.2.2
  have hfl := falls_8 (S := S) hN
  unfold f175
  refine wp_mlet ?_
  have f0 : frS2 z M (ms M 142 59 0) := ⟨fun b q1 _ _ => ms_a q1, fun j _ _ _ _ q => ms_i q, fun a _ => congrFun (ms_a (by decide)) a⟩
  have s0 : sM S (ms M 142 59 0) z := hs.to (fun a _ _ => congrFun (ms_a (by decide)) a)
  have e59 : ms M 142 59 0 142 59 = 0 := ms_v
  generalize ms M 142 59 0 = M0 at f0 s0 e59 ⊢
  refine wp_bind (w173 hN hS (f0.md hM) hz s0 (fun M1 g1 g2 => ?_))
  have f1 : frS2 z M M1 := f0.trans ⟨fun b q1 q2 q3 => g1.1 b q1 q2 (by omega), fun j q _ _ _ _ => g1.2.1 j q, fun a ha => g1.2.2 a (by omega)⟩
  have e59' : M1 142 59 = 0 := (g1.2.1 59 (by decide)).trans e59
  obtain ⟨q51, ⟨q29, q163⟩, qrow, qgv, qfl⟩ := g2
  have s1 : ∀ a, (z ≤ a ∧ a < z + 51) ∨ (z + 59 ≤ a ∧ a < z + 72) → M1 144 a = M0 144 a := fun a ha => g1.2.2 a (by omega)
  unfold f175_12
  let I0 : Nat → Int → Mm → Prop := fun m y M2 => 0 ≤ y ∧ y ≤ (falls N S (nN N)).length ∧ (m : Int) = (falls N S (nN N)).length - y ∧ (∀ b, b ≠ 142 → b ≠ 180 → b ≠ 181 → M2 b = M1 b) ∧ (∀ j, j ≠ 59 → M2 142 j = M1 142 j) ∧ evM M2 (((falls N S (nN N)).take y.toNat).map (fun x => (0, x)))
  refine wp_lp2 I0 (falls N S (nN N)).length (by omega) ⟨by omega, by omega, by omega, fun _ _ _ _ => rfl, fun _ _ => rfl, e59', fun j p hj => by cases hj⟩ ?_
  rintro m y M2 ⟨a1, a2, a3, a4, a5, a6⟩
  dsimp only
  unfold lb175_12
  rw [a5 29 (by decide), q29, a4 163 (by decide) (by decide) (by decide)]
  refine wp_ite (fun d => ?_) (fun d => wp_o ?_)
  · obtain ⟨u, rfl⟩ := Int.eq_ofNat_of_zero_le a1
    have hu : u < (falls N S (nN N)).length := by omega
    have hx := List.getElem?_eq_getElem hu
    rw [Int.toNat_natCast] at a6
    have htk : (falls N S (nN N)).take (u + 1) = (falls N S (nN N)).take u ++ [(falls N S (nN N))[u]] := by rw [List.take_add_one, hx]; rfl
    have hlt : (((falls N S (nN N)).take u).map (fun x => ((0 : Int), x))).length < 64 := by
      rw [List.length_map, List.length_take]
      omega
    refine wp_gd (by omega) (wp_bind (w93 (n := (falls N S (nN N))[u]) (by rw [Int.toNat_natCast]; exact q163 u _ hx) a6 hlt (fun M3 b1 b2 b3 => ?_)))
    refine wp_gd (by omega) (wp_i2 (m - 1) (by omega) ⟨by omega, by omega, by omega, fun b z1 z2 z3 => (b1 b z1 z2 z3).trans (a4 b z1 z2 z3), fun j hj => (b2 j hj).trans (a5 j hj), ?_⟩)
    rw [show ((u : Int) + 1).toNat = u + 1 by omega, htk, List.map_append]
    exact b3
  have hy : y.toNat = (falls N S (nN N)).length := by omega
  rw [hy, List.take_length] at a6
  have f2 : frS2 z M M2 := f1.trans ⟨fun b z1 _ z3 => a4 b z1 (by omega) (by omega), fun j _ _ _ _ z5 => a5 j z5, fun a _ => by rw [a4 144 (by decide) (by decide) (by decide)]⟩
  have e144 : M2 144 = M1 144 := a4 144 (by decide) (by decide) (by decide)
  have hfl2 : ∀ w : Nat, w < nW N → M2 161 w = (if S 0 w = 0 then fl N S w else 0) ∧ M2 162 w = if S 0 w = 0 then fD N S w else 1 := fun w hw => by rw [a4 161 (by decide) (by decide) (by decide), a4 162 (by decide) (by decide) (by decide)]; exact qfl w hw
  have hrow2 : ∀ s : Nat, s < nN N → M2 158 s = isl N S s ∧ M2 160 (isl N S s) = rsv N S (isl N S s) := fun s hs => by rw [a4 158 (by decide) (by decide) (by decide), a4 160 (by decide) (by decide) (by decide)]; exact qrow s hs
  have hgv2 : ∀ x : Nat, x < nK N → M2 159 x = gv N S x := fun x hx => by rw [a4 159 (by decide) (by decide) (by decide)]; exact qgv x hx
  clear I0 a1 a2 a3 a4 a5 d hy
  refine wp_bind (w184 (c := c) hN hS (f2.md hM) hz (fun w hw => by rw [e144, s1 _ (by omega)]; exact (s0.1 w hw).1) (fun w hw => by rw [e144, s1 _ (by omega)]; exact (s0.1 w hw).2.1) (by rw [f2.2.2 _ (by omega)]; exact hc) hc2 hfl2 (fun M4 b1 b2 b3 => ?_))
  have f4 : frS2 z M M4 := f2.trans ⟨fun b _ z2 _ => b1 b z2, fun j _ _ _ _ _ => by rw [b1 142 (by decide)], fun a ha => b2 a (by omega)⟩
  have ev4 : evM M4 ((falls N S (nN N)).map (fun x => (0, x))) := ⟨by rw [b1 142 (by decide)]; exact a6.1, fun j p hj => by rw [b1 180 (by decide), b1 181 (by decide)]; exact a6.2 j p hj⟩
  -- the state at z, but for what goes down, trips and stops
  have t0 : ∀ w, w < 14 → M4 144 (z + w) = S 0 w := fun w hw => by rw [b2 _ (by omega), e144, s1 _ (by omega)]; exact (s0.1 w hw).1
  have t2 : ∀ w, w < 14 → M4 144 (z + 28 + w) = S 2 w := fun w hw => by rw [b2 _ (by omega), e144, s1 _ (by omega)]; exact (s0.1 w hw).2.2
  have t3 : ∀ s, s < 8 → M4 144 (z + 59 + s) = S 3 s := fun s hs2 => by rw [b2 _ (by omega), e144, s1 _ (by omega)]; exact (s0.2.1 s hs2).1
  have t4 : ∀ s, s < 8 → M4 144 (z + 51 + s) = dkF N S s := fun s hs2 => by rw [b2 _ (by omega), e144]; exact q51 s hs2
  have t5 : ∀ x, x < 9 → M4 144 (z + 42 + x) = S 5 x := fun x hx => by rw [b2 _ (by omega), e144, s1 _ (by omega)]; exact s0.2.2.1 x hx
  have t67 : M4 144 (z + 67) = S 6 0 := by rw [b2 _ (by omega), e144, s1 _ (by omega)]; exact s0.2.2.2.1
  have t68 : M4 144 (z + 68) = S 6 1 := by rw [b2 _ (by omega), e144, s1 _ (by omega)]; exact s0.2.2.2.2
  have hfl4 : ∀ w : Nat, w < nW N → M4 161 w = (if S 0 w = 0 then fl N S w else 0) ∧ M4 162 w = if S 0 w = 0 then fD N S w else 1 := fun w hw => by rw [b1 161 (by decide), b1 162 (by decide)]; exact hfl2 w hw
  have hrow4 : ∀ s : Nat, s < nN N → M4 158 s = isl N S s ∧ M4 160 (isl N S s) = rsv N S (isl N S s) := fun s hs => by rw [b1 158 (by decide), b1 160 (by decide)]; exact hrow2 s hs
  have hgv4 : ∀ x : Nat, x < nK N → M4 159 x = gv N S x := fun x hx => by rw [b1 159 (by decide)]; exact hgv2 x hx
  clear a6 f2 e144 hfl2 hrow2 hgv2 b1 b2 M2 q51 q29 q163 qrow qgv qfl s1 f1 e59' g1 M1 f0 s0 e59 M0 m y
  have m4 := f4.md hM
  have kc1 := fun n => flL_len (dnF N S c) 1 n
  have kc2 := fun n => flL_len (trF N S K c) 2 n
  have kc3 := fun n => flL_len (stF N S K) 3 n
  have kb1 := fun n => cnB_b (dnF N S c) n
  have kb2 := fun n => cnB_b (trF N S K c) n
  have kb3 := fun n => cnB_b (stF N S K) n
  unfold f175_46
  let I1 : Nat → Int → Int → Mm → Prop := fun m x y M5 => 0 ≤ y ∧ y ≤ nW N ∧ (m : Int) = nW N - y ∧ x = cnB (dnF N S c) y.toNat ∧ (∀ b, b ≠ 142 → b ≠ 144 → b ≠ 180 → b ≠ 181 → M5 b = M4 b) ∧ (∀ j, j ≠ 59 → M5 142 j = M4 142 j) ∧ (∀ a, (a < z ∨ z + 14 ≤ a) → M5 144 a = M4 144 a) ∧
    (∀ w : Nat, w < 14 → M5 144 (z + w) = if w < y.toNat ∧ dnF N S c w = true then 3 else S 0 w) ∧ evM M5 ((falls N S (nN N)).map (fun x => (0, x)) ++ flL (dnF N S c) 1 y.toNat)
  refine wp_lp3 I1 (nW N) (by omega) ⟨by omega, by omega, by omega, rfl, fun _ _ _ _ _ => rfl, fun _ _ => rfl, fun _ _ => rfl, fun w hw => by rw [if_neg (fun q => absurd q.1 (Nat.not_lt_zero _))]; exact t0 w hw, by show evM M4 (_ ++ []); rw [List.append_nil]; exact ev4⟩ ?_
  rintro m x y M5 ⟨a1, a2, a3, a4, a5, a6, a7, a8, a9⟩
  dsimp only
  unfold lb175_46
  rw [a6 4 (by decide), m4.2.1, hN.w, a5 151 (by decide) (by decide) (by decide) (by decide)]
  refine wp_ite (fun d => ?_) (fun d => wp_o ?_)
  · obtain ⟨w, rfl⟩ := Int.eq_ofNat_of_zero_le a1
    rw [Int.toNat_natCast] at a4 a8 a9
    have hw : w < nW N := by omega
    have hwb := wmF_b N S c w
    have hS2 := (hS.1 w (by omega)).2.2
    have hcw := hN.cw w hw
    have r0 : M5 144 ((z : Int) + w).toNat = S 0 w := by rw [show ((z : Int) + w).toNat = z + w by omega, a8 w (by omega), if_neg (by omega)]
    have r1 : M5 144 ((z : Int) + 14 + w).toNat = wmF N S c w := by rw [show ((z : Int) + 14 + w).toNat = z + 14 + w by omega, a7 _ (by omega), b3 w (by omega), if_pos hw]
    have r2 : M5 144 ((z : Int) + 28 + w).toNat = S 2 w := by rw [show ((z : Int) + 28 + w).toNat = z + 28 + w by omega, a7 _ (by omega), t2 w (by omega)]
    have hdn : dnF N S c w = true ↔ (S 0 w = 0 ∧ 0 < S 2 w ∧ N 18 w ≤ wmF N S c w + S 2 w) := decide_eq_true_iff
    have skip : ¬ dnF N S c w = true → Wp (f175_127 z x w M5) (Sum.elim (up3 I1 m) P) := fun hne => by
      unfold f175_127
      refine wp_gd (by omega) (wp_i3 (m - 1) (by omega) ⟨by omega, by omega, by omega, ?_, a5, a6, a7, fun v hv => ?_, ?_⟩)
      · rw [show ((w : Int) + 1).toNat = w + 1 by omega, a4]
        show _ = cnB _ w + if dnF N S c w = true then 1 else 0
        rw [if_neg hne, Int.add_zero]
      · rw [a8 v hv, show ((w : Int) + 1).toNat = w + 1 by omega]
        by_cases e : v = w
        · rw [if_neg (by omega), if_neg (fun q => hne (e ▸ q.2))]
        · by_cases e2 : v < w ∧ dnF N S c v = true
          · rw [if_pos e2, if_pos ⟨by omega, e2.2⟩]
          · rw [if_neg e2, if_neg (fun q => e2 ⟨by omega, q.2⟩)]
      · rw [show ((w : Int) + 1).toNat = w + 1 by omega, flL, if_neg hne]
        exact a9
    rw [Int.toNat_natCast, r0, r1, r2, (m4.2.2.2.2.1 w hw).2.2.2.2.1]
    refine wp_gd (by omega) (wp_gd (by omega) (wp_gd (by omega) (wp_gd (by omega) (wp_gd (by omega) (wp_ite (fun d2 => wp_ite (fun d3 => skip (fun q => by have := (hdn.mp q).2.1; omega)) (fun d3 => ?_)) (fun d2 => skip (fun q => d2 (hdn.mp q).1)))))))
    refine wp_gd (by omega) (wp_gd (by omega) (wp_gd (by omega) (wp_gd ⟨by omega, by omega⟩ (wp_gd (by omega) (wp_ite (fun d4 => skip (fun q => by have := (hdn.mp q).2.2; omega)) (fun d4 => wp_mlet ?_))))))
    have hin : dnF N S c w = true := hdn.mpr ⟨d2, by omega, by omega⟩
    rw [show ((z : Int) + w).toNat = z + w by omega]
    have k1 := kc1 w
    have k2 := kb1 w
    have ev5 : evM (ms M5 144 (z + w) 3) ((falls N S (nN N)).map (fun x => (0, x)) ++ flL (dnF N S c) 1 w) := ⟨by rw [ms_a (by decide)]; exact a9.1, fun j p hj => by rw [ms_a (by decide), ms_a (by decide)]; exact a9.2 j p hj⟩
    refine wp_bind (w93 (n := w) rfl ev5 (by rw [List.length_append, List.length_map]; omega) (fun M6 c1 c2 c3 => ?_))
    refine wp_gd (by omega) ?_
    unfold f175_127
    have e144 : M6 144 = ms M5 144 (z + w) 3 144 := c1 144 (by decide) (by decide) (by decide)
    refine wp_gd (by omega) (wp_i3 (m - 1) (by omega) ⟨by omega, by omega, by omega, ?_, fun b z1 z2 z3 z4 => (c1 b z1 z3 z4).trans ((ms_a z2).trans (a5 b z1 z2 z3 z4)), fun j hj => (c2 j hj).trans (by rw [ms_a (by decide)]; exact a6 j hj), fun a ha => by rw [e144, ms_i (by omega)]; exact a7 a ha, fun v hv => ?_, ?_⟩)
    · rw [show ((w : Int) + 1).toNat = w + 1 by omega, a4]
      show _ = cnB _ w + if dnF N S c w = true then 1 else 0
      rw [if_pos hin]
    · rw [e144, show ((w : Int) + 1).toNat = w + 1 by omega]
      by_cases e : v = w
      · rw [e, ms_v, if_pos ⟨by omega, hin⟩]
      · rw [ms_i (by omega), a8 v hv]
        by_cases e2 : v < w ∧ dnF N S c v = true
        · rw [if_pos e2, if_pos ⟨by omega, e2.2⟩]
        · rw [if_neg e2, if_neg (fun q => e2 ⟨by omega, q.2⟩)]
    · rw [show ((w : Int) + 1).toNat = w + 1 by omega, flL, if_pos hin, ← List.append_assoc]
      exact c3
  have hy : y.toNat = nW N := by omega
  rw [hy] at a4 a8 a9
  subst a4
  have f5 : frS2 z M M5 := f4.trans ⟨fun b z1 z2 z3 => a5 b z1 z2 (by omega) (by omega), fun j _ _ _ _ z5 => a6 j z5, fun a ha => a7 a (by omega)⟩
  have j0 : ∀ w, w < 14 → M5 144 (z + w) = if w < nW N ∧ dnF N S c w = true then 3 else S 0 w := a8
  have jo : ∀ a, (a < z ∨ z + 14 ≤ a) → M5 144 a = M4 144 a := a7
  have jb : ∀ b, b ≠ 142 → b ≠ 144 → b ≠ 180 → b ≠ 181 → M5 b = M4 b := a5
  have ev5 := a9
  clear I1 a1 a2 a3 a5 a6 a7 a8 a9 d hy m
  unfold f175_135
  let I2 : Nat → Int → Int → Mm → Prop := fun m x y M6 => 0 ≤ y ∧ y ≤ nW N ∧ (m : Int) = nW N - y ∧ x = cnB (dnF N S c) (nW N) + cnB (trF N S K c) y.toNat ∧ frS2 z M M6 ∧ (∀ b, b ≠ 142 → b ≠ 144 → b ≠ 178 → b ≠ 179 → b ≠ 180 → b ≠ 181 → M6 b = M5 b) ∧ (∀ a, (a < z ∨ z + 14 ≤ a) → M6 144 a = M5 144 a) ∧
    (∀ w : Nat, w < 14 → M6 144 (z + w) = if w < y.toNat ∧ trF N S K c w = true then 2 else M5 144 (z + w)) ∧ evM M6 ((falls N S (nN N)).map (fun x => (0, x)) ++ flL (dnF N S c) 1 (nW N) ++ flL (trF N S K c) 2 y.toNat)
  refine wp_lp3 I2 (nW N) (by omega) ⟨by omega, by omega, by omega, (Int.add_zero _).symm, f5, fun _ _ _ _ _ _ _ => rfl, fun _ _ => rfl, fun w hw => by rw [if_neg (fun q => absurd q.1 (Nat.not_lt_zero _))], by show evM M5 (_ ++ []); rw [List.append_nil]; exact ev5⟩ ?_
  rintro m x y M6 ⟨a1, a2, a3, a4, a5, a6, a7, a8, a9⟩
  dsimp only
  unfold lb175_135
  have m6 := a5.md hM
  have tB6 := a5.tx hT
  rw [m6.2.1, hN.w]
  refine wp_ite (fun d => ?_) (fun d => wp_o ?_)
  · obtain ⟨w, rfl⟩ := Int.eq_ofNat_of_zero_le a1
    rw [Int.toNat_natCast] at a4 a8 a9
    have hw : w < nW N := by omega
    have r0 : M6 144 ((z : Int) + w).toNat = if w < nW N ∧ dnF N S c w = true then 3 else S 0 w := by rw [show ((z : Int) + w).toNat = z + w by omega, a8 w (by omega), if_neg (by omega)]; exact j0 w (by omega)
    have kk := kb2 w
    have kk1 := kb1 (nW N)
    have skip : ∀ M7 : Mm, frS2 z M M7 → (∀ b, b ≠ 142 → b ≠ 178 → b ≠ 179 → M7 b = M6 b) → M7 142 59 = M6 142 59 → ¬ trF N S K c w = true → Wp (f175_185 z x w M7) (Sum.elim (up3 I2 m) P) := fun M7 q0 q1 q2 hne => by
      have e144 : M7 144 = M6 144 := q1 144 (by decide) (by decide) (by decide)
      unfold f175_185
      refine wp_gd (by omega) (wp_i3 (m - 1) (by omega) ⟨by omega, by omega, by omega, ?_, q0, fun b z1 z2 z3 z4 z5 z6 => (q1 b z1 z3 z4).trans (a6 b z1 z2 z3 z4 z5 z6), fun a ha => by rw [e144]; exact a7 a ha, fun v hv => ?_, ?_⟩)
      · rw [show ((w : Int) + 1).toNat = w + 1 by omega, a4]
        show _ = _ + (cnB _ w + if trF N S K c w = true then 1 else 0)
        rw [if_neg hne, Int.add_zero]
      · rw [e144, a8 v hv, show ((w : Int) + 1).toNat = w + 1 by omega]
        by_cases e : v = w
        · rw [if_neg (by omega), if_neg (fun q => hne (e ▸ q.2))]
        · by_cases e2 : v < w ∧ trF N S K c v = true
          · rw [if_pos e2, if_pos ⟨by omega, e2.2⟩]
          · rw [if_neg e2, if_neg (fun q => e2 ⟨by omega, q.2⟩)]
      · rw [show ((w : Int) + 1).toNat = w + 1 by omega, flL, if_neg hne]
        exact ⟨q2.trans a9.1, fun j p hj => by rw [q1 180 (by decide) (by decide) (by decide), q1 181 (by decide) (by decide) (by decide)]; exact a9.2 j p hj⟩
    rw [r0]
    refine wp_gd (by omega) (wp_gd (by omega) (wp_ite (fun d2 => wp_obnd ?_) (fun d2 => skip M6 a5 (fun _ _ _ _ => rfl) rfl (fun q => ?_))))
    · have hnd : ¬ dnF N S c w = true := fun q => by rw [if_pos ⟨hw, q⟩] at d2; omega
      rw [if_neg (fun q => hnd q.2)] at d2
      have d1 : dnF N S c w = false := by
        cases q : dnF N S c w
        · rfl
        · exact (hnd q).elim
      have htr : trF N S K c w = K false (lW N S c w) := by
        unfold trF
        rw [d1, decide_eq_true d2]
        rfl
      refine hK M6 tB6.1 tB6.2 false z w (lW N S c w) _ (fun j hj M7 g1 g2 g3 g4 g5 Q hQ => ?_) (fun M7 g1 g2 => ?_)
      · have e144 : ∀ a, (a < z ∨ z + 14 ≤ a) → M7 144 a = M4 144 a := fun a ha => by rw [g1 144 (by decide) (by decide) (by decide), a7 a ha]; exact jo a ha
        have eb : ∀ b, b ≠ 142 → b ≠ 144 → b ≠ 178 → b ≠ 179 → b ≠ 180 → b ≠ 181 → M7 b = M4 b := fun b z1 z2 z3 z4 z5 z6 => by rw [g1 b z1 z3 z4, a6 b z1 z2 z3 z4 z5 z6]; exact jb b z1 z2 z5 z6
        have m7 : nMd N M7 := m6.to (g2 3 (by decide) (by decide) (by decide)) (g2 4 (by decide) (by decide) (by decide)) (g2 5 (by decide) (by decide) (by decide)) (fun b h1 h2 => g1 b (by omega) (by omega) (by omega))
        refine w183 (b := false) (x := w) (c := c) hN hS m7 hz hj hw g3 g4 g5 (fun v hv => by rw [e144 _ (by omega), b3 v (by omega), if_pos hv]) (fun s hs2 => by rw [e144 _ (by omega)]; exact t3 s hs2) (fun s hs2 => by rw [e144 _ (by omega)]; exact t4 s hs2) (by rw [e144 _ (by omega)]; exact t67) (by rw [e144 _ (by omega)]; exact t68) (fun s hs2 => by rw [eb 158 (by decide) (by decide) (by decide) (by decide) (by decide) (by decide), eb 160 (by decide) (by decide) (by decide) (by decide) (by decide) (by decide)]; exact hrow4 s hs2) (fun v hv => by rw [eb 159 (by decide) (by decide) (by decide) (by decide) (by decide) (by decide)]; exact hgv4 v hv) (fun v hv => by rw [eb 161 (by decide) (by decide) (by decide) (by decide) (by decide) (by decide), eb 162 (by decide) (by decide) (by decide) (by decide) (by decide) (by decide)]; exact hfl4 v hv) hQ
      · have f7 : frS2 z M M7 := a5.trans ⟨fun b z1 _ z3 => g1 b z1 (by omega) (by omega), fun j _ z2 z3 z4 _ => g2 j z2 z3 z4, fun a _ => by rw [g1 144 (by decide) (by decide) (by decide)]⟩
        dsimp only
        rw [← htr]
        refine wp_ite (fun q => skip M7 f7 g1 (g2 59 (by decide) (by decide) (by decide)) (fun q2 => by rw [if_pos q2] at q; omega)) (fun q => wp_mlet ?_)
        have hin : trF N S K c w = true := by
          cases q2 : trF N S K c w
          · rw [q2] at q
            exact absurd rfl q
          · rfl
        rw [show ((z : Int) + w).toNat = z + w by omega]
        have k1 := kc1 (nW N)
        have k2 := kb1 (nW N)
        have k3 := kc2 w
        have k4 := kb2 w
        have ev7 : evM (ms M7 144 (z + w) 2) ((falls N S (nN N)).map (fun x => (0, x)) ++ flL (dnF N S c) 1 (nW N) ++ flL (trF N S K c) 2 w) := ⟨by rw [ms_a (by decide), g2 59 (by decide) (by decide) (by decide)]; exact a9.1, fun j p hj => by rw [ms_a (by decide), ms_a (by decide), g1 180 (by decide) (by decide) (by decide), g1 181 (by decide) (by decide) (by decide)]; exact a9.2 j p hj⟩
        refine wp_bind (w93 (n := w) rfl ev7 (by rw [List.length_append, List.length_append, List.length_map]; omega) (fun M8 c1 c2 c3 => ?_))
        refine wp_gd (by omega) ?_
        unfold f175_185
        have e144 : M8 144 = ms M7 144 (z + w) 2 144 := c1 144 (by decide) (by decide) (by decide)
        have g144 : M7 144 = M6 144 := g1 144 (by decide) (by decide) (by decide)
        refine wp_gd (by omega) (wp_i3 (m - 1) (by omega) ⟨by omega, by omega, by omega, ?_, f7.trans ⟨fun b z1 z2 z3 => (c1 b z1 (by omega) (by omega)).trans (ms_a z2), fun j _ _ _ _ z5 => (c2 j z5).trans (by rw [ms_a (by decide)]), fun a ha => by rw [e144, ms_i (by omega)]⟩, fun b z1 z2 z3 z4 z5 z6 => (c1 b z1 z5 z6).trans ((ms_a z2).trans ((g1 b z1 z3 z4).trans (a6 b z1 z2 z3 z4 z5 z6))), fun a ha => by rw [e144, ms_i (by omega), g144]; exact a7 a ha, fun v hv => ?_, ?_⟩)
        · rw [show ((w : Int) + 1).toNat = w + 1 by omega, a4]
          show _ = _ + (cnB _ w + if trF N S K c w = true then 1 else 0)
          rw [if_pos hin]
          omega
        · rw [e144, show ((w : Int) + 1).toNat = w + 1 by omega]
          by_cases e : v = w
          · rw [e, ms_v, if_pos ⟨by omega, hin⟩]
          · rw [ms_i (by omega), g144, a8 v hv]
            by_cases e2 : v < w ∧ trF N S K c v = true
            · rw [if_pos e2, if_pos ⟨by omega, e2.2⟩]
            · rw [if_neg e2, if_neg (fun q => e2 ⟨by omega, q.2⟩)]
        · rw [show ((w : Int) + 1).toNat = w + 1 by omega, flL, if_pos hin, ← List.append_assoc]
          exact c3
    · unfold trF at q
      rw [Bool.and_eq_true, Bool.and_eq_true, decide_eq_true_iff] at q
      have hnd : ¬ dnF N S c w = true := fun z => by rw [z] at q; exact absurd q.1.2 (by decide)
      rw [if_neg (fun z => hnd z.2)] at d2
      exact d2 q.1.1
  have hy : y.toNat = nW N := by omega
  rw [hy] at a4 a8 a9
  subst a4
  have l0 : ∀ w, w < 14 → M6 144 (z + w) = if w < nW N ∧ trF N S K c w = true then 2 else if w < nW N ∧ dnF N S c w = true then 3 else S 0 w := fun w hw => by rw [a8 w hw, j0 w hw]
  have lo : ∀ a, (a < z ∨ z + 14 ≤ a) → M6 144 a = M4 144 a := fun a ha => (a7 a ha).trans (jo a ha)
  have lb : ∀ b, b ≠ 142 → b ≠ 144 → b ≠ 178 → b ≠ 179 → b ≠ 180 → b ≠ 181 → M6 b = M4 b := fun b z1 z2 z3 z4 z5 z6 => (a6 b z1 z2 z3 z4 z5 z6).trans (jb b z1 z2 z5 z6)
  have f6 := a5
  have ev6 := a9
  clear I2 a1 a2 a3 a5 a6 a7 a8 a9 d hy m j0 jo jb ev5 f5 ev4
  unfold f175_193
  let I3 : Nat → Int → Mm → Prop := fun m y M7 => 0 ≤ y ∧ y ≤ nK N ∧ (m : Int) = nK N - y ∧ frS2 z M M7 ∧ (∀ b, b ≠ 142 → b ≠ 144 → b ≠ 178 → b ≠ 179 → b ≠ 180 → b ≠ 181 → M7 b = M6 b) ∧ (∀ a, (a < z + 42 ∨ z + 51 ≤ a) → M7 144 a = M6 144 a) ∧
    (∀ w : Nat, w < 9 → M7 144 (z + 42 + w) = if w < y.toNat ∧ stF N S K w = true then 0 else S 5 w) ∧ evM M7 ((falls N S (nN N)).map (fun x => (0, x)) ++ flL (dnF N S c) 1 (nW N) ++ flL (trF N S K c) 2 (nW N) ++ flL (stF N S K) 3 y.toNat)
  refine wp_lp2 I3 (nK N) (by omega) ⟨by omega, by omega, by omega, f6, fun _ _ _ _ _ _ _ => rfl, fun _ _ => rfl, fun w hw => by rw [if_neg (fun q => absurd q.1 (Nat.not_lt_zero _)), lo _ (by omega)]; exact t5 w hw, by show evM M6 (_ ++ []); rw [List.append_nil]; exact ev6⟩ ?_
  rintro m y M7 ⟨a1, a2, a3, a5, a6, a7, a8, a9⟩
  dsimp only
  unfold lb175_193
  have m7 := a5.md hM
  have tB7 := a5.tx hT
  rw [m7.2.2.1, hN.k]
  have kk1 := kb1 (nW N)
  have kk2 := kb2 (nW N)
  refine wp_ite (fun d => ?_) (fun d => wp_o ?_)
  · obtain ⟨w, rfl⟩ := Int.eq_ofNat_of_zero_le a1
    rw [Int.toNat_natCast] at a8 a9
    have hw : w < nK N := by omega
    have r0 : M7 144 ((z : Int) + 42 + w).toNat = S 5 w := by rw [show ((z : Int) + 42 + w).toNat = z + 42 + w by omega, a8 w (by omega), if_neg (by omega)]
    have skip : ∀ M8 : Mm, frS2 z M M8 → (∀ b, b ≠ 142 → b ≠ 178 → b ≠ 179 → M8 b = M7 b) → M8 142 59 = M7 142 59 → ¬ stF N S K w = true → Wp (f175_246 z (cnB (dnF N S c) (nW N) + cnB (trF N S K c) (nW N)) w M8) (Sum.elim (up2 I3 m) P) := fun M8 q0 q1 q2 hne => by
      have e144 : M8 144 = M7 144 := q1 144 (by decide) (by decide) (by decide)
      unfold f175_246
      refine wp_gd (by omega) (wp_i2 (m - 1) (by omega) ⟨by omega, by omega, by omega, q0, fun b z1 z2 z3 z4 z5 z6 => (q1 b z1 z3 z4).trans (a6 b z1 z2 z3 z4 z5 z6), fun a ha => by rw [e144]; exact a7 a ha, fun v hv => ?_, ?_⟩)
      · rw [e144, a8 v hv, show ((w : Int) + 1).toNat = w + 1 by omega]
        by_cases e : v = w
        · rw [if_neg (by omega), if_neg (fun q => hne (e ▸ q.2))]
        · by_cases e2 : v < w ∧ stF N S K v = true
          · rw [if_pos e2, if_pos ⟨by omega, e2.2⟩]
          · rw [if_neg e2, if_neg (fun q => e2 ⟨by omega, q.2⟩)]
      · rw [show ((w : Int) + 1).toNat = w + 1 by omega, flL, if_neg hne]
        exact ⟨q2.trans a9.1, fun j p hj => by rw [q1 180 (by decide) (by decide) (by decide), q1 181 (by decide) (by decide) (by decide)]; exact a9.2 j p hj⟩
    rw [r0]
    refine wp_gd (by omega) (wp_gd (by omega) (wp_gd (by omega) (wp_ite (fun d2 => skip M7 a5 (fun _ _ _ _ => rfl) rfl (fun q => ?_)) (fun d2 => wp_obnd ?_))))
    · unfold stF at q
      rw [Bool.and_eq_true, decide_eq_true_iff] at q
      omega
    · have d3 : S 5 w = 1 := by
        rcases hS.2.2.2.2.1 w with q | q
        · exact (d2 q).elim
        · exact q
      have hst : stF N S K w = K true (lK N S w) := by
        unfold stF
        rw [decide_eq_true d3]
        rfl
      refine hK M7 tB7.1 tB7.2 true z w (lK N S w) _ (fun j hj M8 g1 g2 g3 g4 g5 Q hQ => ?_) (fun M8 g1 g2 => ?_)
      · have e144 : ∀ a, (a < z ∨ z + 14 ≤ a) → (a < z + 42 ∨ z + 51 ≤ a) → M8 144 a = M4 144 a := fun a ha ha2 => by rw [g1 144 (by decide) (by decide) (by decide), a7 a ha2]; exact lo a ha
        have eb : ∀ b, b ≠ 142 → b ≠ 144 → b ≠ 178 → b ≠ 179 → b ≠ 180 → b ≠ 181 → M8 b = M4 b := fun b z1 z2 z3 z4 z5 z6 => by rw [g1 b z1 z3 z4, a6 b z1 z2 z3 z4 z5 z6]; exact lb b z1 z2 z3 z4 z5 z6
        have m8 : nMd N M8 := m7.to (g2 3 (by decide) (by decide) (by decide)) (g2 4 (by decide) (by decide) (by decide)) (g2 5 (by decide) (by decide) (by decide)) (fun b h1 h2 => g1 b (by omega) (by omega) (by omega))
        refine w183 (b := true) (x := w) (c := c) hN hS m8 hz hj hw g3 g4 g5 (fun v hv => by rw [e144 _ (by omega) (by omega), b3 v (by omega), if_pos hv]) (fun s hs2 => by rw [e144 _ (by omega) (by omega)]; exact t3 s hs2) (fun s hs2 => by rw [e144 _ (by omega) (by omega)]; exact t4 s hs2) (by rw [e144 _ (by omega) (by omega)]; exact t67) (by rw [e144 _ (by omega) (by omega)]; exact t68) (fun s hs2 => by rw [eb 158 (by decide) (by decide) (by decide) (by decide) (by decide) (by decide), eb 160 (by decide) (by decide) (by decide) (by decide) (by decide) (by decide)]; exact hrow4 s hs2) (fun v hv => by rw [eb 159 (by decide) (by decide) (by decide) (by decide) (by decide) (by decide)]; exact hgv4 v hv) (fun v hv => by rw [eb 161 (by decide) (by decide) (by decide) (by decide) (by decide) (by decide), eb 162 (by decide) (by decide) (by decide) (by decide) (by decide) (by decide)]; exact hfl4 v hv) hQ
      · have f8 : frS2 z M M8 := a5.trans ⟨fun b z1 _ z3 => g1 b z1 (by omega) (by omega), fun j _ z2 z3 z4 _ => g2 j z2 z3 z4, fun a _ => by rw [g1 144 (by decide) (by decide) (by decide)]⟩
        dsimp only
        rw [← hst]
        refine wp_ite (fun q => skip M8 f8 g1 (g2 59 (by decide) (by decide) (by decide)) (fun q2 => by rw [if_pos q2] at q; omega)) (fun q => wp_mlet ?_)
        have hin : stF N S K w = true := by
          cases q2 : stF N S K w
          · rw [q2] at q
            exact absurd rfl q
          · rfl
        rw [show ((z : Int) + 42 + w).toNat = z + 42 + w by omega]
        have k1 := kc1 (nW N)
        have k3 := kc2 (nW N)
        have k5 := kc3 w
        have k6 := kb3 w
        have ev8 : evM (ms M8 144 (z + 42 + w) 0) ((falls N S (nN N)).map (fun x => (0, x)) ++ flL (dnF N S c) 1 (nW N) ++ flL (trF N S K c) 2 (nW N) ++ flL (stF N S K) 3 w) := ⟨by rw [ms_a (by decide), g2 59 (by decide) (by decide) (by decide)]; exact a9.1, fun j p hj => by rw [ms_a (by decide), ms_a (by decide), g1 180 (by decide) (by decide) (by decide), g1 181 (by decide) (by decide) (by decide)]; exact a9.2 j p hj⟩
        refine wp_bind (w93 (n := w) rfl ev8 (by rw [List.length_append, List.length_append, List.length_append, List.length_map]; omega) (fun M9 c1 c2 c3 => ?_))
        unfold f175_246
        have e144 : M9 144 = ms M8 144 (z + 42 + w) 0 144 := c1 144 (by decide) (by decide) (by decide)
        have g144 : M8 144 = M7 144 := g1 144 (by decide) (by decide) (by decide)
        refine wp_gd (by omega) (wp_i2 (m - 1) (by omega) ⟨by omega, by omega, by omega, f8.trans ⟨fun b z1 z2 z3 => (c1 b z1 (by omega) (by omega)).trans (ms_a z2), fun j _ _ _ _ z5 => (c2 j z5).trans (by rw [ms_a (by decide)]), fun a ha => by rw [e144, ms_i (by omega)]⟩, fun b z1 z2 z3 z4 z5 z6 => (c1 b z1 z5 z6).trans ((ms_a z2).trans ((g1 b z1 z3 z4).trans (a6 b z1 z2 z3 z4 z5 z6))), fun a ha => by rw [e144, ms_i (by omega), g144]; exact a7 a ha, fun v hv => ?_, ?_⟩)
        · rw [e144, show ((w : Int) + 1).toNat = w + 1 by omega]
          by_cases e : v = w
          · rw [e, ms_v, if_pos ⟨by omega, hin⟩]
          · rw [ms_i (by omega), g144, a8 v hv]
            by_cases e2 : v < w ∧ stF N S K v = true
            · rw [if_pos e2, if_pos ⟨by omega, e2.2⟩]
            · rw [if_neg e2, if_neg (fun q => e2 ⟨by omega, q.2⟩)]
        · rw [show ((w : Int) + 1).toNat = w + 1 by omega, flL, if_pos hin, ← List.append_assoc]
          exact c3
  · have hy : y.toNat = nK N := by omega
    rw [hy] at a8 a9
    have all : ∀ a, (a < z ∨ z + 14 ≤ a) → (a < z + 42 ∨ z + 51 ≤ a) → M7 144 a = M4 144 a := fun a h1 h2 => (a7 a h2).trans (lo a h1)
    rw [show ((z : Int) + 67).toNat = z + 67 by omega, show ((z : Int) + 68).toNat = z + 68 by omega]
    refine wp_gd (by omega) (wp_gd (by omega) (wp_mlet ?_))
    rw [ms_i (by omega : z + 68 ≠ z + 67), all _ (by omega) (by omega), t68]
    refine wp_gd (by omega) (wp_gd (by omega) (wp_gd ⟨by omega, by omega⟩ (wp_mlet (wp_some (k _ (a5.trans ⟨fun b _ z2 _ => (ms_a z2).trans (ms_a z2), fun j _ _ _ _ _ => by rw [ms_a (by decide), ms_a (by decide)], fun a ha => by rw [ms_i (by omega), ms_i (by omega)]⟩) ⟨fun w hw => ⟨?_, ?_, ?_⟩, fun s hs2 => ⟨?_, ?_⟩, fun x hx => ?_, ?_, ?_⟩ ⟨?_, fun j p hj => ?_⟩ (fun w hw => ?_))))))
    · rw [ms_i (by omega), ms_i (by omega), a7 _ (by omega), l0 w hw]
      show _ = if w < nW N then (if dnF N S c w = true then (3 : Int) else if trF N S K c w = true then 2 else S 0 w) else S 0 w
      by_cases q : w < nW N
      · rw [if_pos q]
        by_cases q2 : trF N S K c w = true
        · rw [if_pos ⟨q, q2⟩, if_neg (fun z => dn_tr z q2), if_pos q2]
        · rw [if_neg (fun z => q2 z.2)]
          by_cases q3 : dnF N S c w = true
          · rw [if_pos ⟨q, q3⟩, if_pos q3]
          · rw [if_neg (fun z => q3 z.2), if_neg q3, if_neg q2]
      · rw [if_neg q, if_neg (fun z => q z.1), if_neg (fun z => q z.1)]
    · rw [ms_i (by omega), ms_i (by omega), all _ (by omega) (by omega), b3 w hw]
      rfl
    · rw [ms_i (by omega), ms_i (by omega), all _ (by omega) (by omega)]
      exact t2 w hw
    · rw [ms_i (by omega), ms_i (by omega), all _ (by omega) (by omega)]
      exact t3 s hs2
    · rw [ms_i (by omega), ms_i (by omega), all _ (by omega) (by omega)]
      exact t4 s hs2
    · rw [ms_i (by omega), ms_i (by omega), a8 x hx]
      rfl
    · rw [ms_i (by omega), ms_v]
      rfl
    · rw [ms_v]
      rfl
    · rw [ms_a (by decide), ms_a (by decide)]
      exact a9.1
    · rw [ms_a (by decide), ms_a (by decide), ms_a (by decide), ms_a (by decide)]
      exact a9.2 j p hj
    · rw [ms_a (by decide), ms_a (by decide), ms_a (by decide), ms_a (by decide), a6 161 (by decide) (by decide) (by decide) (by decide) (by decide) (by decide), a6 162 (by decide) (by decide) (by decide) (by decide) (by decide) (by decide), lb 161 (by decide) (by decide) (by decide) (by decide) (by decide) (by decide), lb 162 (by decide) (by decide) (by decide) (by decide) (by decide) (by decide)]
      exact hfl4 w hw
end MQ
