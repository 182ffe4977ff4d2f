/-! Cutting trees. -/
def cutW (S : Mm) : Nat → List Nat
  | 0 => []
  | w + 1 => if (cutW S w).length < 8 ∧ S 0 w = 0 ∧ 0 < S 2 w then cutW S w ++ [w] else cutW S w
theorem cutW_in {S : Mm} : ∀ n w : Nat, w ∈ cutW S n → w < n
  | 0, w, h => by cases h
  | n + 1, w, h => by
    rw [cutW] at h
    split at h
    · rw [List.mem_append, List.mem_singleton] at h
      rcases h with h | h
      · have := cutW_in n w h; omega
      · omega
    · have := cutW_in n w h; omega
theorem cutW_8 {S : Mm} : ∀ n : Nat, (cutW S n).length ≤ 8
  | 0 => Nat.zero_le _
  | n + 1 => by
    rw [cutW]
    split
    · rename_i e
      rw [List.length_append]
      have : ([n] : List Nat).length = 1 := rfl
      omega
    · exact cutW_8 n
theorem cutW_full {S : Mm} {n : Nat} (h : (cutW S n).length = 8) : ∀ m : Nat, cutW S (n + m) = cutW S n
  | 0 => rfl
  | m + 1 => by
    have ih := cutW_full h m
    rw [show n + (m + 1) = (n + m) + 1 from rfl, cutW, ih, if_neg (by omega)]
/-- the wires of combination j -/
def setN (L : List Nat) (j : Int) : Nat → Int
  | 0 => 0
  | k + 1 => if tb j k then bOr (setN L j k) (bShl 1 ((L.getD k 0 : Nat) : Int)) else setN L j k
def cstN (N : Mm) (L : List Nat) (j : Int) : Nat → Int
  | 0 => 0
  | k + 1 => cstN N L j k + if tb j k then N 19 (L.getD k 0) else 0
def cutS (S : Mm) (x : Int) : Mm := fun a w => if a = 2 ∧ tb x w = true then 0 else S a w
def drL (N S : Mm) : Int := sm (fun s => if S 4 s = 1 then S 3 s else 0) (nN N)
noncomputable def cvN (N S : Mm) (K : Bool → (Nat → Int) → Bool) (c : Int) (k : Nat) (j : Int) : Int := drL N (plN N (cutS S (setN (cutW S (nW N)) j (cutW S (nW N)).length)) K c k)
noncomputable def bstN (N S : Mm) (K : Bool → (Nat → Int) → Bool) (c : Int) (k : Nat) (x : Int) : Nat → Int
  | 0 => -1
  | u + 1 => @ite Int (cstN N (cutW S (nW N)) u (cutW S (nW N)).length ≤ x ∧ (bstN N S K c k x u = -1 ∨ cvN N S K c k u < cvN N S K c k (bstN N S K c k x u) ∨ (cvN N S K c k u = cvN N S K c k (bstN N S K c k x u) ∧ cstN N (cutW S (nW N)) u (cutW S (nW N)).length < cstN N (cutW S (nW N)) (bstN N S K c k x u) (cutW S (nW N)).length))) (Classical.propDecidable _) (u : Int) (bstN N S K c k x u)
theorem setN_b {N S : Mm} {j : Int} (hN : NC N) : ∀ k : Nat, k ≤ (cutW S (nW N)).length → 0 ≤ setN (cutW S (nW N)) j k ∧ setN (cutW S (nW N)) j k < (2 ^ nW N : Nat) ∧ ∀ w : Nat, tb (setN (cutW S (nW N)) j k) w = true → w < nW N
  | 0, _ => ⟨Int.le_refl _, by show (0 : Int) < _; have := Nat.two_pow_pos (nW N); omega, fun w h => by rw [setN, tb_zero] at h; cases h⟩
  | k + 1, hk => by
    have h14 := hN.w14
    have ih := setN_b (S := S) (j := j) hN k (by omega)
    rw [setN]
    have hlt : (cutW S (nW N)).getD k 0 < nW N := by
      rw [List.getD_eq_getElem?_getD, List.getElem?_eq_getElem (by omega)]
      exact cutW_in _ _ (List.getElem_mem _)
    have hp : (2 ^ nW N : Nat) ≤ 2 ^ 14 := Nat.pow_le_pow_right (by decide) h14
    have hp' : (2 ^ 14 : Nat) = 16384 := by decide
    have hbl : bShl 1 (((cutW S (nW N)).getD k 0 : Nat) : Int) = (2 ^ ((cutW S (nW N)).getD k 0) : Nat) := by rw [bL (by omega) (by omega), Int.toNat_natCast]
    have hl2 : (2 ^ ((cutW S (nW N)).getD k 0) : Nat) < 2 ^ nW N := Nat.pow_lt_pow_right (by decide) hlt
    have hz : 0 < (2 ^ ((cutW S (nW N)).getD k 0) : Nat) := Nat.two_pow_pos _
    by_cases e : tb j k = true
    · rw [if_pos e]
      have := bO_lt (n := nW N) (x := setN (cutW S (nW N)) j k) (y := bShl 1 (((cutW S (nW N)).getD k 0 : Nat) : Int)) (by omega) ih.1 ih.2.1 (by omega) (by omega)
      refine ⟨this.1, this.2, fun w hw => ?_⟩
      rw [tb_or ih.1 (by omega) (by omega) (by omega), Bool.or_eq_true, tb_pow (by omega) (by omega), Int.toNat_natCast, decide_eq_true_iff] at hw
      rcases hw with hw | hw
      · exact ih.2.2 w hw
      · omega
    · rw [if_neg e]
      exact ih
theorem setN_s {N S : Mm} {j : Int} {k : Nat} (hN : NC N) (hk : k < (cutW S (nW N)).length) (w : Nat) : tb (setN (cutW S (nW N)) j (k + 1)) w = true ↔ (tb (setN (cutW S (nW N)) j k) w = true ∨ (tb j k = true ∧ w = (cutW S (nW N)).getD k 0)) := by
  have h14 := hN.w14
  have ih := setN_b (S := S) (j := j) hN k (by omega)
  have hlt : (cutW S (nW N)).getD k 0 < nW N := by
    rw [List.getD_eq_getElem?_getD, List.getElem?_eq_getElem hk]
    exact cutW_in _ _ (List.getElem_mem _)
  have hp : (2 ^ nW N : Nat) ≤ 2 ^ 14 := Nat.pow_le_pow_right (by decide) h14
  have hp' : (2 ^ 14 : Nat) = 16384 := by decide
  have hbl : bShl 1 (((cutW S (nW N)).getD k 0 : Nat) : Int) = (2 ^ ((cutW S (nW N)).getD k 0) : Nat) := by rw [bL (by omega) (by omega), Int.toNat_natCast]
  have hl2 : (2 ^ ((cutW S (nW N)).getD k 0) : Nat) < 2 ^ nW N := Nat.pow_lt_pow_right (by decide) hlt
  have hz : 0 < (2 ^ ((cutW S (nW N)).getD k 0) : Nat) := Nat.two_pow_pos _
  rw [setN]
  by_cases e : tb j k = true
  · rw [if_pos e, tb_or ih.1 (by omega) (by omega) (by omega), Bool.or_eq_true, tb_pow (by omega) (by omega), Int.toNat_natCast, decide_eq_true_iff]
    exact ⟨fun h => h.elim Or.inl (fun h => Or.inr ⟨e, h.symm⟩), fun h => h.elim Or.inl (fun h => Or.inr h.2.symm)⟩
  · rw [if_neg e]
    exact ⟨Or.inl, fun h => h.elim id (fun h => absurd h.1 e)⟩
theorem cstN_b {N S : Mm} {j : Int} (hN : NC N) : ∀ k : Nat, k ≤ (cutW S (nW N)).length → 0 ≤ cstN N (cutW S (nW N)) j k ∧ cstN N (cutW S (nW N)) j k ≤ 1000 * k
  | 0, _ => ⟨Int.le_refl _, Int.le_refl _⟩
  | k + 1, hk => by
    have ih := cstN_b (S := S) (j := j) hN k (by omega)
    have hlt : (cutW S (nW N)).getD k 0 < nW N := by
      rw [List.getD_eq_getElem?_getD, List.getElem?_eq_getElem (by omega)]
      exact cutW_in _ _ (List.getElem_mem _)
    have := (hN.cw _ hlt).2.2.2.2.2.2
    rw [cstN]
    split <;> omega
theorem cutS_V {N S : Mm} {x : Int} (h : sV N S) : sV N (cutS S x) ∧ (cutS S x) 6 1 = S 6 1 := by
  obtain ⟨h1, h2⟩ := h
  refine ⟨⟨fun w hw => ⟨(h1 w hw).1, (h1 w hw).2.1, ?_⟩, h2⟩, rfl⟩
  unfold cutS
  split
  · omega
  · exact (h1 w hw).2.2
theorem drL_b {N S : Mm} (hN : NC N) (hS : sV N S) : 0 ≤ drL N S ∧ drL N S ≤ 16000 := by
  have h8 := hN.n8
  unfold drL
  have q1 := sm_nn (a := fun s => if S 4 s = 1 then S 3 s else 0) (n := nN N) (fun s hs => by have := hS.2.1 s (by omega); split <;> omega)
  have q2 := sm_const (f := fun s => if S 4 s = 1 then S 3 s else 0) (c := 2000) (n := nN N) (fun s hs => by have := hS.2.1 s (by omega); split <;> omega)
  omega
theorem drL_nx {N S : Mm} {K : Bool → (Nat → Int) → Bool} {c : Int} (hN : NC N) (hS : sV N S) : drL N S ≤ drL N (nx N S K c) := by
  have h8 := hN.n8
  unfold drL
  refine sm_mono (fun s hs => ?_)
  have e3 : (nx N S K c) 3 s = S 3 s := rfl
  have e4 : (nx N S K c) 4 s = dkF N S s := rfl
  have := hS.2.1 s (by omega)
  rw [e3, e4]
  unfold dkF
  by_cases e : S 4 s = 1
  · rw [if_pos e, if_pos (by rw [if_pos (Or.inl e)])]
    omega
  · rw [if_neg e]
    split <;> omega
theorem drL_pl {N S : Mm} {K : Bool → (Nat → Int) → Bool} {c : Int} (hN : NC N) (hS : sV N S) : ∀ k : Nat, S 6 1 + k ≤ 600 → drL N S ≤ drL N (plN N S K c k)
  | 0, _ => Int.le_refl _
  | k + 1, hk => by
    have ih := drL_pl (K := K) (c := c) hN hS k (by omega)
    have := drL_nx (K := K) (c := c) hN (pl_V (K := K) (c := c) hN hS k (by omega)).1
    show _ ≤ drL N (nx N (plN N S K c k) K c)
    omega
theorem drL_cut {N S : Mm} {x : Int} : drL N (cutS S x) = drL N S := rfl
theorem orN_0 {S : Mm} : orN S 0 = S := by
  funext a j
  unfold orN
  by_cases e : a = 4
  · rw [if_pos e, tb_zero, if_neg (by decide), e]
  · rw [if_neg e]
section CUT
variable {N S S1 M M0 M2 : Mm} {Ps : Nat → Mm} {l : List (Bool × Sem)} {t d m : Nat} {x c : Int}
/-- what is dark, told of a standing state -/
theorem w244d {r : Nat} {P : Int → Prop} (hN : NC N) (hS : sV N S1) (h : sC N S1 M r) (k : P (drL N S1)) : Wp (f244 r (M r 1) M) P := by
  obtain ⟨g1, g2, ⟨a1, a2, a3⟩, g4, g5⟩ := h
  refine w244 hN hS g2 a1 a2 ?_
  have : sm (fun s => if tb (M r 1) s then S1 3 s else 0) (nN N) = drL N S1 := sm_congr (fun s hs => by
    rw [a3 s]
    cases tb (M r 1) s <;> rfl)
  rw [this]
  exact k
/-- those that may be cut -/
theorem w47 (h : IV N S Ps l M) : Wp (f47 M) (fun r => r.1 = (cutW S (nW N)).length ∧ (∀ b, b ≠ 134 → r.2 b = M b) ∧ ∀ k, k < (cutW S (nW N)).length → r.2 134 k = (cutW S (nW N)).getD k 0) := by
  have h14 := h.1.1.w14
  unfold f47 f47_4
  refine wp_lp3 (fun m x y M2 => ∃ w : Nat, y = w ∧ w ≤ nW N ∧ m = nW N - w ∧ x = (cutW S w).length ∧ (∀ b, b ≠ 134 → M2 b = M b) ∧ ∀ k, k < (cutW S w).length → M2 134 k = (cutW S w).getD k 0) (nW N) (by omega) ⟨0, rfl, Nat.zero_le _, rfl, rfl, fun _ _ => rfl, fun k hk => absurd hk (Nat.not_lt_zero _)⟩ ?_
  rintro m x y M2 ⟨w, rfl, a1, a2, rfl, a4, a5⟩
  dsimp only
  unfold lb47_4
  rw [a4 3 (by decide), h.e31, a4 26 (by decide), a4 28 (by decide), Int.toNat_natCast, Int.toNat_natCast]
  have h8 := cutW_8 (S := S) w
  refine wp_ite (fun c => wp_ite (fun c2 => ?_) (fun c2 => wp_o (wp_some ?_))) (fun c => wp_o (wp_some ?_))
  · have hs := h.1.2.2.2.2.1.1 w (by omega)
    rw [hs.1, hs.2.2]
    unfold f47_55
    have next : ¬ (S 0 w = 0 ∧ 0 < S 2 w) → cutW S (w + 1) = cutW S w := fun z => by
      rw [cutW, if_neg (fun q => z q.2)]
    have skip : ¬ (S 0 w = 0 ∧ 0 < S 2 w) → Wp (gd (R4 ((w : Int) + 1)) (some (.inl (((cutW S w).length : Int), (w : Int) + 1, M2)))) (Sum.elim (up3 (fun (m : Nat) (x y : Int) (M2 : Mm) => ∃ w : Nat, y = w ∧ w ≤ nW N ∧ m = nW N - w ∧ x = (cutW S w).length ∧ (∀ b, b ≠ 134 → M2 b = M b) ∧ ∀ k, k < (cutW S w).length → M2 134 k = (cutW S w).getD k 0) m) (fun r : Int × Mm => r.1 = (cutW S (nW N)).length ∧ (∀ b, b ≠ 134 → r.2 b = M b) ∧ ∀ k, k < (cutW S (nW N)).length → r.2 134 k = (cutW S (nW N)).getD k 0)) := fun z => wp_gd (by omega) (wp_i3 (m - 1) (by omega) ⟨w + 1, by omega, by omega, by omega, by rw [next z], a4, by rw [next z]; exact a5⟩)
    refine wp_gd (by omega) (wp_ite (fun c3 => wp_ite (fun c4 => wp_gd (by omega) (wp_mlet (wp_gd (by omega) (wp_gd (by omega) (wp_i3 (m - 1) (by omega) ⟨w + 1, by omega, by omega, by omega, ?_, fun b hb => (ms_a hb).trans (a4 b hb), fun k hk => ?_⟩))))) (fun c4 => skip (fun q => c4 q.2))) (fun c3 => skip (fun q => c3 q.1)))
    · rw [cutW, if_pos ⟨by omega, c3, c4⟩, List.length_append]
      rfl
    · rw [cutW, if_pos ⟨by omega, c3, c4⟩, List.length_append] at hk
      rw [cutW, if_pos ⟨by omega, c3, c4⟩, List.getD_eq_getElem?_getD]
      have : ([w] : List Nat).length = 1 := rfl
      by_cases e : k = (cutW S w).length
      · rw [e, ms_v, List.getElem?_append_right (Nat.le_refl _), Nat.sub_self]
        rfl
      · rw [ms_i e, a5 k (by omega), List.getElem?_append_left (by omega), List.getD_eq_getElem?_getD]
  · have e := cutW_full (S := S) (n := w) (by omega) (nW N - w)
    rw [show w + (nW N - w) = nW N by omega] at e
    rw [e]
    exact ⟨rfl, a4, a5⟩
  · rw [show w = nW N by omega] at a5 ⊢
    exact ⟨rfl, a4, a5⟩
/-- a combination tried, the first object -/
theorem w44 {j k : Int} (h : IV N S Ps l M0) (ht : iTxt l t d M0) (f0 : ∀ b, b ≠ 134 → (b < 73 ∨ 97 < b) → b ≠ t + 6 → M b = M0 b) (hW : ∀ k, k < (cutW S (nW N)).length → M 134 k = (cutW S (nW N)).getD k 0) (hj : 0 ≤ j ∧ j < 256) (hk : 1 ≤ k ∧ k ≤ 30) :
    Wp (f44 j (cutW S (nW N)).length k M) (fun r => r.1 = cvN N S (kOf l) (M0 3 3) k.toNat j ∧ (∀ b, b ≠ 134 → (b < 73 ∨ 97 < b) → b ≠ t + 6 → r.2 b = M0 b) ∧ r.2 134 = M 134) := by
  have hnw := h.nw
  have h14 := h.1.1.w14
  have ht4 : t = 4 ∨ t = 135 := by have := ht.1; omega
  have h8 := cutW_8 (S := S) (nW N)
  have hS61 : S 6 1 ≤ 499 ∧ 0 ≤ S 6 1 := ⟨h.1.2.2.2.2.2.2.2.1.2, h.1.2.1.2.2.2.2.2.2.2.1⟩
  unfold f44
  have sc : sC N S M 24 := h.1.2.2.2.2.1.to (fun b q1 q2 => f0 b (by omega) (by omega) (by omega))
  refine wp_bind (w219 (by decide) sc (fun M1 a1 a2 a3 => ?_))
  unfold f44_14
  refine wp_lp2 (fun n y M2 => ∃ i : Nat, y = i ∧ i ≤ (cutW S (nW N)).length ∧ n = (cutW S (nW N)).length - i ∧ (∀ b, b ≠ 78 → M2 b = M1 b) ∧ ∀ w, w < 14 → M2 78 w = if tb (setN (cutW S (nW N)) j i) w = true then 0 else S 2 w) (cutW S (nW N)).length (by omega) ⟨0, rfl, by omega, rfl, fun _ _ => rfl, fun w hw => by rw [setN, tb_zero, if_neg (by decide)]; exact (a2.1 w hw).2.2⟩ ?_
  rintro n y M2 ⟨i, rfl, b1, b2, b3, b4⟩
  dsimp only
  unfold lb44_14
  rw [bT hj.1 (by omega) (by omega) (by omega), Int.toNat_natCast]
  refine wp_ite (fun c => ?_) (fun c => wp_o ?_)
  · have hi : i < (cutW S (nW N)).length := by omega
    have hw : M2 134 i = (cutW S (nW N)).getD i 0 := by rw [b3 134 (by decide), a1 134 (by omega)]; exact hW i hi
    have hlt : (cutW S (nW N)).getD i 0 < nW N := by
      rw [List.getD_eq_getElem?_getD, List.getElem?_eq_getElem hi]
      exact cutW_in _ _ (List.getElem_mem _)
    rw [hw, Int.toNat_natCast]
    unfold f44_49
    have es := setN_s (S := S) (j := j) (k := i) h.1.1 hi
    by_cases e : tb j i = true
    · rw [if_pos e]
      refine wp_pos rfl (wp_gd (by omega) (wp_gd (by omega) (wp_mlet (wp_gd (by omega) (wp_i2 (n - 1) (by omega) ⟨i + 1, by omega, by omega, by omega, fun b hb => (ms_a hb).trans (b3 b hb), fun w hw => ?_⟩)))))
      rw [ms_at, b4 w hw]
      by_cases e2 : w = (cutW S (nW N)).getD i 0
      · rw [if_pos e2, if_pos ((es w).mpr (Or.inr ⟨e, e2⟩))]
      · rw [if_neg e2]
        by_cases e3 : tb (setN (cutW S (nW N)) j i) w = true
        · rw [if_pos e3, if_pos ((es w).mpr (Or.inl e3))]
        · rw [if_neg e3, if_neg (fun z => ((es w).mp z).elim e3 (fun q => e2 q.2))]
    · rw [if_neg e]
      refine wp_neg (by decide) (wp_gd (by omega) (wp_i2 (n - 1) (by omega) ⟨i + 1, by omega, by omega, by omega, b3, fun w hw => ?_⟩))
      rw [b4 w hw]
      by_cases e3 : tb (setN (cutW S (nW N)) j i) w = true
      · rw [if_pos e3, if_pos ((es w).mpr (Or.inl e3))]
      · rw [if_neg e3, if_neg (fun z => ((es w).mp z).elim e3 (fun q => e q.1))]
  · rw [show i = (cutW S (nW N)).length by omega] at b4
    have hcv : cvN N S (kOf l) (M0 3 3) k.toNat j = drL N (plN N (cutS S (setN (cutW S (nW N)) j (cutW S (nW N)).length)) (kOf l) (M0 3 3) k.toNat) := rfl
    rw [hcv]
    generalize setN (cutW S (nW N)) j (cutW S (nW N)).length = X at b4
    have p0 : plC N (cutS S X) M2 := by
      obtain ⟨g1, g2, g3, g4, g5⟩ := a2
      refine ⟨⟨fun w hw => ⟨?_, ?_, ?_⟩, fun i hi => ?_, ?_, ?_, ?_⟩, fun z => ?_⟩
      · rw [b3 76 (by decide)]; exact (g1 w hw).1
      · rw [b3 77 (by decide)]; exact (g1 w hw).2.1
      · rw [b4 w hw]
        show _ = if 2 = 2 ∧ tb X w = true then 0 else S 2 w
        by_cases e3 : tb X w = true
        · rw [if_pos e3, if_pos ⟨rfl, e3⟩]
        · rw [if_neg e3, if_neg (fun z => e3 z.2)]
      · rw [b3 75 (by decide)]; exact g2 i hi
      · rw [b3 74 (by decide)]; exact g3
      · rw [b3 74 (by decide)]; exact g4
      · rw [b3 74 (by decide)]; exact g5
      · rw [b3 73 (by decide), a3] at z
        exact absurd z (by decide)
    have hV := cutS_V (x := X) h.1.2.1
    have m134 : M2 134 = M 134 := by rw [b3 134 (by decide), a1 134 (by omega)]
    have fm : ∀ b, b ≠ 134 → (b < 73 ∨ 97 < b) → b ≠ t + 6 → M2 b = M0 b := fun b q1 q2 q3 => by rw [b3 b (by omega), a1 b (by omega)]; exact f0 b q1 q2 q3
    -- the stand-in start, with this scratch
    have h1 : IV N S Ps l M2 := h.fp (fpP.of (fun b hb => fm b (by unfold perB at hb; omega) (by unfold perB at hb; omega) (by unfold perB at hb; omega)))
    have ht1 : iTxt l t d M2 := ht.to (by rw [fm 3 (by omega) (by omega) (by omega)]) (by rw [fm 2 (by omega) (by omega) (by omega)]) (fun b q => fm b (by omega) (by omega) (by omega)) (by rw [fm 142 (by omega) (by omega) (by omega)]) (by rw [fm 142 (by omega) (by omega) (by omega)])
    have e33 : M0 3 3 = M2 3 3 := by rw [fm 3 (by omega) (by omega) (by omega)]
    rw [e33]
    unfold f44_58
    refine wp_lp2 (fun n y M3 => ∃ u : Nat, y = u ∧ u ≤ k.toNat ∧ n = k.toNat - u ∧ frP t M2 M3 ∧ plC N (plN N (cutS S X) (kOf l) (M2 3 3) u) M3) k.toNat (by omega) ⟨0, rfl, Nat.zero_le _, rfl, fun _ _ _ => rfl, p0⟩ ?_
    clear b1 b2 c
    rintro n y M3 ⟨u, rfl, c1, c2, c3, c4⟩
    dsimp only
    unfold lb44_58
    obtain ⟨v1, v2⟩ := pl_V (K := kOf l) (c := M2 3 3) h.1.1 hV.1 u (by rw [hV.2]; omega)
    refine wp_ite (fun e => ?_) (fun e => wp_o (wp_bind (w244d h.1.1 v1 c4.1 (wp_some ⟨by rw [show k.toNat = u by omega], fun b q1 q2 q3 => (c3 b q2 q3).trans (fm b q1 q2 q3), (c3 134 (by omega) (by omega)).trans m134⟩))))
    refine wp_bind (h1.stp ht1 v1 c3 c4 (fun M4 d1 d2 _ _ _ _ _ _ => wp_gd (by omega) (wp_i2 (n - 1) (by omega) ⟨u + 1, by omega, by omega, by omega, d1, d2⟩)))
/-- a combination tried, the second object -/
theorem w162 {X k : Int} (h : IV N S Ps l M) (hX : 0 ≤ X ∧ X < (2 ^ nW N : Nat)) (hX2 : ∀ w : Nat, tb X w = true → w < nW N) (hk : 1 ≤ k ∧ k ≤ 30) :
    Wp (f162 X k M) (fun r => r.1 = drL N (plN N (cutS S X) (kOf l) (M 3 3) k.toNat) ∧ fpP M r.2 ∧ r.2 199 = M 199) := by
  have hnw := h.nw
  have h14 := h.1.1.w14
  have hp : (2 ^ nW N : Nat) ≤ 2 ^ 14 := Nat.pow_le_pow_right (by decide) h14
  have hp' : (2 ^ 14 : Nat) = 16384 := by decide
  have hS61 : S 6 1 ≤ 499 ∧ 0 ≤ S 6 1 := ⟨h.1.2.2.2.2.2.2.2.1.2, h.1.2.1.2.2.2.2.2.2.2.1⟩
  unfold f162
  rw [h.now.2.1]
  refine wp_bind (w153 h (Nat.le_refl _) (Int.le_refl 0) (by have := Nat.two_pow_pos (nN N); omega) (fun M1 a1 a2 a3 a4 => ?_))
  rw [orN_0] at a4
  have e0 : stAt S Ps (nwS S) = S := if_pos rfl
  rw [e0] at a4
  unfold f162_11
  refine wp_lp2 (fun n y M2 => ∃ i : Nat, y = i ∧ i ≤ nW N ∧ n = nW N - i ∧ (∀ b, b ≠ 144 → M2 b = M1 b) ∧ (∀ a, (a < 36316 ∨ 36330 ≤ a) → M2 144 a = M1 144 a) ∧ ∀ w, w < 14 → M2 144 (36316 + w) = if w < i ∧ tb X w = true then 0 else S 2 w) (nW N) (by omega) ⟨0, rfl, by omega, rfl, fun _ _ => rfl, fun _ _ => rfl, fun w hw => by rw [if_neg (fun z => absurd z.1 (Nat.not_lt_zero _))]; exact (a4.1 w hw).2.2⟩ ?_
  rintro n y M2 ⟨i, rfl, b1, b2, b3, b5, b4⟩
  dsimp only
  unfold lb162_11
  rw [b3 142 (by decide), a2 142 (by decide), h.m4]
  refine wp_ite (fun c => wp_bind (w118 hX.1 (by omega) (by omega) (by omega) ?_)) (fun c => wp_o ?_)
  · rw [Int.toNat_natCast, show (36316 + (i : Int)).toNat = 36316 + i by omega]
    unfold f162_38
    by_cases e : tb X i = true
    · rw [if_pos e]
      refine wp_neg (by decide) (wp_gd (by omega) (wp_gd (by omega) (wp_mlet (wp_gd (by omega) (wp_i2 (n - 1) (by omega) ⟨i + 1, by omega, by omega, by omega, fun b hb => (ms_a hb).trans (b3 b hb), fun a ha => (ms_i (by omega)).trans (b5 a ha), fun w hw => ?_⟩)))))
      rw [ms_at, b4 w hw]
      by_cases e2 : w = i
      · rw [if_pos (by omega), if_pos ⟨by omega, by rw [e2]; exact e⟩]
      · rw [if_neg (by omega)]
        by_cases e3 : w < i ∧ tb X w = true
        · rw [if_pos e3, if_pos ⟨by omega, e3.2⟩]
        · rw [if_neg e3, if_neg (fun z => e3 ⟨by omega, z.2⟩)]
    · rw [if_neg e]
      refine wp_pos rfl (wp_gd (by omega) (wp_i2 (n - 1) (by omega) ⟨i + 1, by omega, by omega, by omega, b3, b5, fun w hw => ?_⟩))
      rw [b4 w hw]
      by_cases e3 : w < i ∧ tb X w = true
      · rw [if_pos e3, if_pos ⟨by omega, e3.2⟩]
      · rw [if_neg e3, if_neg]
        rintro ⟨z1, z2⟩
        by_cases e2 : w = i
        · exact e (by rw [← e2]; exact z2)
        · exact e3 ⟨by omega, z2⟩
  · have f2 : fpP M M2 := a1.trans ⟨fun b hb => b3 b hb.2.1, fun j _ => by rw [b3 142 (by decide)], fun a ha => b5 a (by omega)⟩
    have m199 : M2 199 = M 199 := (b3 199 (by decide)).trans (a2 199 (by decide))
    have p0 : sM (cutS S X) M2 36288 := by
      obtain ⟨k1, k2, k3, k4, k5⟩ := a4
      refine ⟨fun w hw => ⟨?_, ?_, ?_⟩, fun i hi => ?_, fun i hi => ?_, ?_, ?_⟩
      · rw [b5 _ (by omega)]; exact (k1 w hw).1
      · rw [b5 _ (by omega)]; exact (k1 w hw).2.1
      · rw [show 36288 + 28 + w = 36316 + w by omega, b4 w hw]
        show _ = if 2 = 2 ∧ tb X w = true then 0 else S 2 w
        by_cases e3 : tb X w = true
        · rw [if_pos ⟨by have := hX2 w e3; omega, e3⟩, if_pos ⟨rfl, e3⟩]
        · rw [if_neg (fun z => e3 z.2), if_neg (fun z => e3 z.2)]
      · rw [b5 _ (by omega), b5 _ (by omega)]; exact k2 i hi
      · rw [b5 _ (by omega)]; exact k3 i hi
      · rw [b5 _ (by omega)]; exact k4
      · rw [b5 _ (by omega)]; exact k5
    have hc : M2 144 36357 = M 3 3 := (b5 _ (by omega)).trans a3
    have hV := cutS_V (x := X) h.1.2.1
    unfold f162_46
    refine wp_lp2 (fun n y M3 => ∃ u : Nat, y = u ∧ u ≤ k.toNat ∧ n = k.toNat - u ∧ fpP M M3 ∧ M3 199 = M 199 ∧ M3 144 36357 = M 3 3 ∧ sM (plN N (cutS S X) (kOf l) (M 3 3) u) M3 36288) k.toNat (by omega) ⟨0, rfl, Nat.zero_le _, rfl, f2, m199, hc, p0⟩ ?_
    clear b1 b2 c
    rintro n y M3 ⟨u, rfl, c1, c2, c3, c9, c4, c5⟩
    dsimp only
    unfold lb162_46
    obtain ⟨v1, v2⟩ := pl_V (K := kOf l) (c := M 3 3) h.1.1 hV.1 u (by rw [hV.2]; omega)
    refine wp_ite (fun e => ?_) (fun e => wp_o ?_)
    · refine wp_bind (h.stm v1 c3 c5 c4 (fun M4 d1 d5 d2 d3 _ _ => wp_gd (by omega) (wp_i2 (n - 1) (by omega) ⟨u + 1, by omega, by omega, by omega, d1, (d5 199 (by decide) (by decide) (by decide)).trans c9, d2, d3⟩)))
    · have g3 := h.fp c3
      refine wp_bind (w163 (z := 36288) h.1.1 v1 g3.1.2.2.2.1 (by decide) (fun s hs => (c5.2.1 s hs).1) (fun s hs => (c5.2.1 s hs).2) (wp_some ⟨?_, c3, c9⟩))
      rw [show k.toNat = u by omega]
      rfl
end CUT
