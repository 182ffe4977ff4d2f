section BN
variable {N S : Mm} {i : Nat}
theorem gvF_nn : ∀ {l : List Nat} {L : Int} {x : Nat}, (∀ k, k ∈ l → 0 ≤ N 21 k) → 0 ≤ L → 0 ≤ gvF N l L x
  | [], _, _, _, _ => Int.le_refl 0
  | a :: r, L, x, h, hL => by
    have h1 := h a List.mem_cons_self
    rw [gvF]
    split
    · omega
    · exact gvF_nn (fun k hk => h k (List.mem_cons_of_mem _ hk)) (by omega)
theorem gv_sum (hN : NC N) {L : Int} : ∀ {j : Nat}, j ≤ nK N → sm (gvF N (wkL N S i j) L) (nK N) = L - rsF N (wkL N S i j) L
  | 0, _ => by
    rw [sm_zero (f := gvF N (wkL N S i 0) L) (fun _ _ => rfl)]
    show 0 = L - L
    omega
  | j + 1, hj => by
    have ih := gv_sum hN (L := L) (j := j) (by omega)
    rw [wkL]
    split
    · have hnew : oP N j ∉ wkL N S i j := wkL_new hN (by omega)
      have := sm_upd (f := gvF N (wkL N S i j) L) (g := gvF N (wkL N S i j ++ [oP N j]) L) (n := nK N) (p := oP N j) (x := min (N 21 (oP N j)) (rsF N (wkL N S i j) L)) (hN.cp.1 j (by omega)).2 (fun x hx => by
        rw [gvF_snoc hnew]
        by_cases e : x = oP N j
        · rw [if_pos e, if_pos e, e, gvF_no hnew]
          omega
        · rw [if_neg e, if_neg e]
          omega)
      rw [this, rsF_snoc, ih]
      omega
    · exact ih
noncomputable def gS (N S : Mm) (s : Nat) : Int := sm (fun k => if aK N k = s then gv N S k else 0) (nK N)
noncomputable def dS (N S : Mm) (s : Nat) : Int := if dkF N S s = 1 then 0 else S 3 s
theorem psh_split (s : Nat) : psh N S s = gS N S s - dS N S s := by
  unfold psh gS dS
  split <;> omega
theorem gv_nn (hN : NC N) (hS : sV N S) (k : Nat) : 0 ≤ gv N S k := gvF_nn (wkL_pos hN (Nat.le_refl _)) (litI_b hN hS).1
theorem gS_nn (hN : NC N) (hS : sV N S) (s : Nat) : 0 ≤ gS N S s := sm_nn (fun k _ => by
  have := gv_nn hN hS k
  split <;> omega)
theorem dS_nn (hN : NC N) (hS : sV N S) {s : Nat} (hs : s < nN N) : 0 ≤ dS N S s := by
  have := hS.2.1 s (by have := hN.n8; omega)
  unfold dS
  split <;> omega
theorem dS_sum (hN : NC N) (hS : sV N S) : sm (fun s => if isl N S s = i then dS N S s else 0) (nN N) ≤ 16000 := by
  have h := (litI_b (i := i) (D := dkF N S) hN hS).2
  have e : sm (fun s => if isl N S s = i then dS N S s else 0) (nN N) = litI N S (dkF N S) i := sm_congr (fun s _ => by
    unfold dS
    rcases dkF_01 (N := N) (S := S) s with q | q
    · rw [q, if_neg (c := (0 : Int) = 1) (by decide)]
      by_cases e : isl N S s = i
      · rw [if_pos e, if_pos ⟨e, rfl⟩]
      · rw [if_neg e, if_neg (fun z => e z.1)]
    · rw [q, if_pos (c := (1 : Int) = 1) rfl, if_neg (c := isl N S s = i ∧ (1 : Int) = 0) (fun z => absurd z.2 (by decide))]
      split <;> rfl)
  omega
theorem gS_sum (hN : NC N) (hS : sV N S) : sm (fun s => if isl N S s = i then gS N S s else 0) (nN N) ≤ 16000 := by
  have hl := litI_b (i := i) (D := dkF N S) hN hS
  have e1 : sm (fun s => if isl N S s = i then gS N S s else 0) (nN N) = sm (fun s => sm (fun k => if isl N S s = i ∧ aK N k = s then gv N S k else 0) (nK N)) (nN N) := sm_congr (fun s _ => by
    unfold gS
    by_cases e : isl N S s = i
    · rw [if_pos e]
      exact sm_congr (fun k _ => by
        by_cases e2 : aK N k = s
        · rw [if_pos e2, if_pos ⟨e, e2⟩]
        · rw [if_neg e2, if_neg (fun z => e2 z.2)])
    · rw [if_neg e, sm_zero (fun k _ => if_neg (fun z => e z.1))])
  rw [e1, sm_swap (fun s k => if isl N S s = i ∧ aK N k = s then gv N S k else 0)]
  have e2 : sm (fun k => sm (fun s => if isl N S s = i ∧ aK N k = s then gv N S k else 0) (nN N)) (nK N) = sm (gvF N (wkL N S i (nK N)) (litI N S (dkF N S) i)) (nK N) := sm_congr (fun k hk => by
    have hka := (hN.ck k hk).1.2
    by_cases e : isl N S (aK N k) = i
    · rw [sm_congr (g := fun s => if s = aK N k then gv N S k else 0) (fun s _ => by
        by_cases e3 : s = aK N k
        · rw [if_pos e3, if_pos ⟨by rw [e3]; exact e, e3.symm⟩]
        · rw [if_neg e3, if_neg (fun z => e3 z.2.symm)]), sm_one, if_pos hka]
      unfold gv
      rw [e]
    · rw [sm_zero (fun s _ => if_neg (fun z => e (by rw [z.2]; exact z.1)))]
      rw [gvF_no (fun z => by
        obtain ⟨_, _, _, _, q⟩ := wkL_mem.mp z
        exact e q)])
  rw [e2, gv_sum hN (Nat.le_refl _)]
  have := rsF_nn' (l := wkL N S i (nK N)) (L := litI N S (dkF N S) i) (wkL_pos hN (Nat.le_refl _)) hl.1
  omega
/-- by places instead of spots -/
theorem by_pl {f : Nat → Int} (hf : ∀ s, s < nN N → 0 ≤ f s) : sm (fun r => sm (fun s => if (isl N S s = i ∧ s ≠ i) ∧ pl N S i s = r then f s else 0) (nN N)) (sz N S i) ≤ sm (fun s => if isl N S s = i then f s else 0) (nN N) := by
  rw [sm_swap (fun r s => if (isl N S s = i ∧ s ≠ i) ∧ pl N S i s = r then f s else 0)]
  refine sm_mono (fun s hs => ?_)
  have := hf s hs
  by_cases e : isl N S s = i ∧ s ≠ i
  · rw [sm_congr (g := fun r => if r = pl N S i s then f s else 0) (fun r _ => by
      by_cases e3 : r = pl N S i s
      · rw [if_pos e3, if_pos ⟨e, e3.symm⟩]
      · rw [if_neg e3, if_neg (fun z => e3 z.2.symm)]), sm_one, if_pos e.1]
    split <;> omega
  · rw [sm_zero (fun r _ => if_neg (fun z => e z.1))]
    split <;> omega
/-- numbers that are not too much in all: B above 0, B below -/
def bdB (b : Nat → Int) (n : Nat) (B : Int) : Prop := ∃ g d : Nat → Int, (∀ r, r < n → 0 ≤ g r ∧ 0 ≤ d r ∧ b r = g r - d r) ∧ sm g n ≤ B ∧ sm d n ≤ B
theorem bV_bd (hN : NC N) (hS : sV N S) : bdB (bV N S i) (sz N S i) 16000 := by
  refine ⟨fun r => sm (fun s => if (isl N S s = i ∧ s ≠ i) ∧ pl N S i s = r then gS N S s else 0) (nN N), fun r => sm (fun s => if (isl N S s = i ∧ s ≠ i) ∧ pl N S i s = r then dS N S s else 0) (nN N), fun r hr => ⟨sm_nn (fun s _ => by have := gS_nn hN hS s; split <;> omega), sm_nn (fun s hs => by have := dS_nn hN hS hs; split <;> omega), ?_⟩, Int.le_trans (by_pl (fun s _ => gS_nn hN hS s)) (gS_sum hN hS), Int.le_trans (by_pl (fun s hs => dS_nn hN hS hs)) (dS_sum hN hS)⟩
  have h := sm_add (fun s => if (isl N S s = i ∧ s ≠ i) ∧ pl N S i s = r then gS N S s else 0) (fun s => - if (isl N S s = i ∧ s ≠ i) ∧ pl N S i s = r then dS N S s else 0) (nN N)
  rw [sm_neg] at h
  have e : bV N S i r = sm (fun s => (if (isl N S s = i ∧ s ≠ i) ∧ pl N S i s = r then gS N S s else 0) + - if (isl N S s = i ∧ s ≠ i) ∧ pl N S i s = r then dS N S s else 0) (nN N) := sm_congr (fun s _ => by
    rw [psh_split]
    split <;> omega)
  rw [e, h]
  rfl
theorem bd_sub {b : Nat → Int} {n : Nat} {B : Int} (h : bdB b n B) (x : Nat → Int) (hx : ∀ r, r < n → x r = 0 ∨ x r = 1) : sm (fun r => x r * b r) n ≤ B ∧ - B ≤ sm (fun r => x r * b r) n := by
  obtain ⟨g, d, h1, h2, h3⟩ := h
  have a1 := sm_mono (f := fun r => x r * b r) (g := g) (n := n) (fun r hr => by
    have := h1 r hr
    rcases hx r hr with q | q
    · rw [q, Int.zero_mul]; omega
    · rw [q, Int.one_mul]; omega)
  have a2 := sm_mono (f := fun r => - d r) (g := fun r => x r * b r) (n := n) (fun r hr => by
    have := h1 r hr
    rcases hx r hr with q | q
    · rw [q, Int.zero_mul]; omega
    · rw [q, Int.one_mul]; omega)
  rw [sm_neg] at a2
  omega
theorem bd_wsum {b v : Nat → Int} {n : Nat} {B X : Int} (h : bdB b n B) (hv : ∀ r, r < n → 0 ≤ v r ∧ v r ≤ X) (hX : 0 ≤ X) : sm (fun r => b r * v r) n ≤ X * B ∧ -(X * B) ≤ sm (fun r => b r * v r) n := by
  obtain ⟨g, d, h1, h2, h3⟩ := h
  have a1 := sm_mono (f := fun r => b r * v r) (g := fun r => X * g r) (n := n) (fun r hr => by
    have q := h1 r hr
    have q2 := hv r hr
    rw [q.2.2, Int.sub_mul]
    have z1 := Int.mul_le_mul_of_nonneg_left q2.2 q.1
    have z2 := Int.mul_nonneg q.2.1 q2.1
    rw [Int.mul_comm X]
    omega)
  have a2 := sm_mono (f := fun r => - (X * d r)) (g := fun r => b r * v r) (n := n) (fun r hr => by
    have q := h1 r hr
    have q2 := hv r hr
    rw [q.2.2, Int.sub_mul]
    have z1 := Int.mul_le_mul_of_nonneg_left q2.2 q.2.1
    have z2 := Int.mul_nonneg q.1 q2.1
    rw [Int.mul_comm X]
    omega)
  rw [sm_neg] at a2
  rw [sm_mul] at a1 a2
  have b1 := Int.mul_le_mul_of_nonneg_left h2 hX
  have b2 := Int.mul_le_mul_of_nonneg_left h3 hX
  omega
theorem mul_bd {x y X Y : Int} (hx : - X ≤ x ∧ x ≤ X) (hy : - Y ≤ y ∧ y ≤ Y) : -(X * Y) ≤ x * y ∧ x * y ≤ X * Y := by
  have hX : 0 ≤ X := by omega
  have hY : 0 ≤ Y := by omega
  have key : ∀ {a b : Int}, 0 ≤ a → a ≤ X → 0 ≤ b → b ≤ Y → 0 ≤ a * b ∧ a * b ≤ X * Y := fun ha ha2 hb hb2 => ⟨Int.mul_nonneg ha hb, Int.mul_le_mul ha2 hb2 hb hX⟩
  rcases Int.le_total 0 x with q | q
  · rcases Int.le_total 0 y with p | p
    · have := key q hx.2 p hy.2
      omega
    · have := key (a := x) (b := -y) q hx.2 (by omega) (by omega)
      rw [Int.mul_neg] at this
      omega
  · rcases Int.le_total 0 y with p | p
    · have := key (a := -x) (b := y) (by omega) (by omega) p hy.2
      rw [Int.neg_mul] at this
      omega
    · have := key (a := -x) (b := -y) (by omega) (by omega) (by omega) (by omega)
      rw [Int.neg_mul_neg] at this
      omega
end BN
theorem pd_eq (A : Nat → Nat → Int) : ∀ p : Nat, pdD A p = pdS (fun i => A i i) p ∧ ebD A p = ebS (fun i => A i i) p
  | 0 => ⟨rfl, rfl⟩
  | p + 1 => by
    have h := pd_eq A p
    show A p p * pdD A p = A p p * pdS _ p ∧ A p p * ebD A p + pdD A p = A p p * ebS _ p + pdS _ p
    rw [h.1, h.2]
    exact ⟨rfl, rfl⟩
/-- a small net's numbers -/
def smlN (A : Nat → Nat → Int) (n : Nat) : Prop := n ≤ 7 ∧ ntM A n ∧ sm (fun i => A i i) n ≤ 84 ∧ ∀ i c, i < n → c < n → A i (20 + c) = if i = c then 1 else 0
section SML
variable {A : Nat → Nat → Int} {n p : Nat}
theorem sml_tab (h : smlN A n) (hp : p ≤ n) : (0 < det p A ∧ det p A ≤ 35831808 ∧ (p ≤ 6 → det p A ≤ 7529536)) ∧ pdD A p ≤ 35831808 ∧ (p ≤ 6 → pdD A p ≤ 7529536) ∧ ebD A p ≤ 52706752 ∧ (p ≤ 6 → ebD A p ≤ 8029668) := by
  obtain ⟨h1, h2, h3, h4⟩ := h
  have hd : ∀ i, i < n → 0 ≤ A i i := fun i hi => nt_diag h2 hi
  have hs := sm_up (a := fun i => A i i) hd (n - p) p (by omega)
  rw [show p + (n - p) = n by omega] at hs
  have e := pd_eq A p
  have t1 := pd_tab (a := fun i => A i i) (p := p) (by omega) (fun i hi => hd i (by omega)) (by omega)
  have t2 := eb_tab (a := fun i => A i i) (p := p) (by omega) (fun i hi => hd i (by omega)) (by omega)
  have hdp := det_pd (by omega) h2 hp
  have hm := (mm_all (by omega) h2 hp).1 p (Nat.le_refl p)
  rw [e.1, e.2]
  rw [e.1] at hdp
  refine ⟨⟨hm, by omega, fun q => ?_⟩, t1.1, t1.2.1, t2.1, t2.2⟩
  have := t1.2.1 q
  omega
/-- the unit columns -/
theorem sml_V (h : smlN A n) (hp : p ≤ n) {i c : Nat} (hi : i < n) (hc : c < n) : 0 ≤ gjI A p i (20 + c) ∧ gjI A p i (20 + c) ≤ max (det p A) (ebD A p) ∧ (p ≤ i → gjI A p i (20 + c) ≤ det p A) := by
  have h1 := h.1
  have v := vb_all (m := 20) (by omega) h.2.1 h.2.2.2 hp
  have hm := mm_all (by omega) h.2.1 hp
  have hD := (sml_tab h hp).1.1
  by_cases e : p ≤ c
  · rw [v.1 i c hi e hc]
    split <;> omega
  · by_cases e2 : p ≤ i
    · rw [v.2.1 i c e2 hi (by omega)]
      have a1 := hm.2.2.1 c i (by omega) e2 hi (by omega)
      have a2 := mm_row hm (i := c) (j := i) (by omega) hi (by omega)
      rw [gjI_dg (by omega)] at a2
      omega
    · have := v.2.2 i c (by omega) (by omega)
      omega
/-- a column of B in all -/
theorem sml_R (h : smlN A n) (hp : p ≤ n) {r : Nat} {B : Int} (hb : bdB (fun i => A i r) n B) (hB : 0 ≤ B) {i : Nat} (hi : i < n) : (-(max (det p A) (ebD A p) * B) ≤ gjI A p i r ∧ gjI A p i r ≤ max (det p A) (ebD A p) * B) ∧ (p ≤ i → -(det p A * B) ≤ gjI A p i r ∧ gjI A p i r ≤ det p A * B) := by
  have h1 := h.1
  have hD := (sml_tab h hp).1.1
  have e := rhs_all (m := 20) (r := r) (b := fun i => A i r) (by omega) h.2.1 h.2.2.2 (fun _ _ => rfl) hp i hi
  rw [e]
  have a1 := bd_wsum (v := fun c => gjI A p i (20 + c)) hb (X := max (det p A) (ebD A p)) (fun c hc => by
    have := sml_V h hp hi hc
    exact ⟨this.1, this.2.1⟩) (by omega)
  refine ⟨⟨a1.2, a1.1⟩, fun q => ?_⟩
  have a2 := bd_wsum (v := fun c => gjI A p i (20 + c)) hb (X := det p A) (fun c hc => by
    have := sml_V h hp hi hc
    exact ⟨this.1, this.2.2 q⟩) (by omega)
  exact ⟨a2.2, a2.1⟩
/-- what a step reckons is in range -/
theorem sml_step (h : smlN A n) (hp : p < n) {i r : Nat} (hi : i < n) (hip : i ≠ p) (hr : (p ≤ r ∧ r < n) ∨ bdB (fun i => A i r) n 16000) :
    R8 (gjI A p p p * gjI A p i r) ∧ R8 (gjI A p i p * gjI A p p r) ∧ R8 (gjI A p p p * gjI A p i r - gjI A p i p * gjI A p p r) ∧ R8 (gjI A (p + 1) i r) := by
  have h1 := h.1
  have t := sml_tab h (p := p) (by omega)
  have t2 := sml_tab h (p := p + 1) (by omega)
  have hm := mm_all (by omega) h.2.1 (p := p) (by omega)
  have hm2 := mm_all (by omega) h.2.1 (p := p + 1) (by omega)
  have hpiv : gjI A p p p = det (p + 1) A := gjI_piv (by omega)
  have hfac : -35831808 ≤ gjI A p i p ∧ gjI A p i p ≤ 0 := by
    have q1 := hm.2.2.1 i p hi (Nat.le_refl p) hp hip
    refine ⟨?_, q1⟩
    by_cases e : i < p
    · have := mm_row hm (i := i) (j := p) hi hp hip
      rw [gjI_dg e] at this
      omega
    · have q2 := hm.2.1 i p (by omega) hi (Nat.le_refl p) hp
      have := mm_row hm (i := p) (j := i) hp hi (fun z => hip z.symm)
      omega
  have hdiag : ∀ a, a < n → 0 ≤ A a a ∧ A a a ≤ 84 := fun a ha => by
    have q1 := sm_ge1 (f := fun i => A i i) ha (fun i hi => nt_diag h.2.1 hi)
    have := nt_diag h.2.1 ha
    have := h.2.2.1
    omega
  have big : ∀ {q a : Nat}, q ≤ n → mmP A n q → a < n → q ≤ r → r < n → (-3009871872 ≤ gjI A q a r ∧ gjI A q a r ≤ 3009871872) := fun {q a} hq hmq ha hq2 hr2 => by
    have hd := hdiag a ha
    have tq := (sml_tab h hq).1
    have hda : 0 ≤ gjI A q a a ∧ gjI A q a a ≤ 3009871872 := by
      by_cases e : a < q
      · rw [gjI_dg e]
        omega
      · have q1 := hmq.2.2.2.2.2 a (by omega) ha
        have q2 := hmq.2.2.2.1 a ha
        have q3 := sm_le1 (f := gjI A q a) ha (fun c hc hca => by
          by_cases e3 : q ≤ c
          · exact hmq.2.2.1 a c ha e3 hc (fun z => hca z.symm)
          · rw [gjI_lo (by omega) (fun z => hca z.symm)]
            exact Int.le_refl 0)
        have q4 := mul_bd (x := det q A) (y := A a a) (X := 35831808) (Y := 84) ⟨by omega, by omega⟩ ⟨by omega, by omega⟩
        omega
    by_cases e : a = r
    · rw [← e]
      omega
    · have q1 := hmq.2.2.1 a r ha hq2 hr2 e
      have q2 := mm_row hmq ha hr2 e
      omega
  have hcol : (-128474688000 ≤ gjI A p i r ∧ gjI A p i r ≤ 128474688000) ∧ (-120472576000 ≤ gjI A p p r ∧ gjI A p p r ≤ 120472576000) := by
    rcases hr with ⟨hr1, hr2⟩ | hr
    · have q1 := big (by omega) hm hi hr1 hr2
      have q2 := big (by omega) hm hp hr1 hr2
      omega
    · have q1 := (sml_R h (p := p) (by omega) hr (by decide) hi).1
      have q2 := (sml_R h (p := p) (by omega) hr (by decide) hp).2 (Nat.le_refl p)
      have z1 := t.1.2.2 (by omega)
      have z2 := t.2.2.2.2 (by omega)
      omega
  have m1 := mul_bd (x := gjI A p p p) (y := gjI A p i r) (X := 35831808) (Y := 128474688000) (by rw [hpiv]; omega) hcol.1
  have m2 := mul_bd (x := gjI A p i p) (y := gjI A p p r) (X := 35831808) (Y := 120472576000) (by omega) hcol.2
  have hlast : R8 (gjI A (p + 1) i r) := by
    rcases hr with ⟨hr1, hr2⟩ | hr
    · by_cases e : r = p
      · subst e
        rw [gjI_lo (by omega) hip]
        decide
      · have := big (q := p + 1) (by omega) hm2 hi (by omega) hr2
        exact ⟨by omega, by omega⟩
    · have q1 := (sml_R h (p := p + 1) (by omega) hr (by decide) hi).1
      exact ⟨by omega, by omega⟩
  exact ⟨⟨by omega, by omega⟩, ⟨by omega, by omega⟩, ⟨by omega, by omega⟩, hlast⟩
end SML
theorem mX_sml {N S : Mm} {i : Nat} (hN : NC N) (hi : i < nN N) (hr : isl N S i = i) : smlN (mX N S i) (sz N S i) := by
  have h7 := sz_7 (S := S) hN hi
  refine ⟨h7, mX_nt hN hi hr, ?_, fun r c hr2 hc => ?_⟩
  · rw [sm_congr (f := fun r => mX N S i r r) (g := fun r => mA N S i r r) (fun r hr => if_pos hr)]
    exact mA_diag hN
  · unfold mX
    rw [if_neg (by omega), if_neg (by omega)]
    by_cases e : r = c
    · rw [if_pos (by omega), if_pos e]
    · rw [if_neg (by omega), if_neg e]
