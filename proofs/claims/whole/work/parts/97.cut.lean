/-! Cutting trees. -/
def cutW (S : Mm) : Nat → List Nat
  | 0 => []
  | w + 1 => if (cutW S w).length < 8 ∧ S 0 w = 0 ∧ 0 < S 2 w then cutW S w ++ [w] else cutW S w
theorem cutW_in {S : Mm} : ∀ n w : Nat, w ∈ cutW S n → w < n
  | 0, w, h => by cases h
  | n + 1, w, h => by
    rw [cutW] at h
    split at h
    · rw [List.mem_append, List.mem_singleton] at h
      rcases h with h | h
      · have := cutW_in n w h; omega
      · omega
    · have := cutW_in n w h; omega
theorem cutW_8 {S : Mm} : ∀ n : Nat, (cutW S n).length ≤ 8
  | 0 => Nat.zero_le _
  | n + 1 => by
    rw [cutW]
    split
    · rename_i e
      rw [List.length_append]
      have : ([n] : List Nat).length = 1 := rfl
      omega
    · exact cutW_8 n
theorem cutW_full {S : Mm} {n : Nat} (h : (cutW S n).length = 8) : ∀ m : Nat, cutW S (n + m) = cutW S n
  | 0 => rfl
  | m + 1 => by
    have ih := cutW_full h m
    rw [show n + (m + 1) = (n + m) + 1 from rfl, cutW, ih, if_neg (by omega)]
/-- the wires of combination j -/
def setN (L : List Nat) (j : Int) : Nat → Int
  | 0 => 0
  | k + 1 => if tb j k then bOr (setN L j k) (bShl 1 ((L.getD k 0 : Nat) : Int)) else setN L j k
def cstN (N : Mm) (L : List Nat) (j : Int) : Nat → Int
  | 0 => 0
  | k + 1 => cstN N L j k + if tb j k then N 19 (L.getD k 0) else 0
def cutS (S : Mm) (x : Int) : Mm := fun a w => if a = 2 ∧ tb x w = true then 0 else S a w
def drL (N S : Mm) : Int := sm (fun s => if S 4 s = 1 then S 3 s else 0) (nN N)
noncomputable def cvN (N S : Mm) (K : Bool → (Nat → Int) → Bool) (c : Int) (k : Nat) (j : Int) : Int := drL N (plN N (cutS S (setN (cutW S (nW N)) j (cutW S (nW N)).length)) K c k)
noncomputable def bstN (N S : Mm) (K : Bool → (Nat → Int) → Bool) (c : Int) (k : Nat) (x : Int) : Nat → Int
  | 0 => -1
  | u + 1 => @ite Int (cstN N (cutW S (nW N)) u (cutW S (nW N)).length ≤ x ∧ (bstN N S K c k x u = -1 ∨ cvN N S K c k u < cvN N S K c k (bstN N S K c k x u) ∨ (cvN N S K c k u = cvN N S K c k (bstN N S K c k x u) ∧ cstN N (cutW S (nW N)) u (cutW S (nW N)).length < cstN N (cutW S (nW N)) (bstN N S K c k x u) (cutW S (nW N)).length))) (Classical.propDecidable _) (u : Int) (bstN N S K c k x u)
theorem setN_b {N S : Mm} {j : Int} (hN : NC N) : ∀ k : Nat, k ≤ (cutW S (nW N)).length → 0 ≤ setN (cutW S (nW N)) j k ∧ setN (cutW S (nW N)) j k < (2 ^ nW N : Nat) ∧ ∀ w : Nat, tb (setN (cutW S (nW N)) j k) w = true → w < nW N
  | 0, _ => ⟨Int.le_refl _, by show (0 : Int) < _; have := Nat.two_pow_pos (nW N); omega, fun w h => by rw [setN, tb_zero] at h; cases h⟩
  | k + 1, hk => by
    have h14 := hN.w14
    have ih := setN_b (S := S) (j := j) hN k (by omega)
    rw [setN]
    have hlt : (cutW S (nW N)).getD k 0 < nW N := by
      rw [List.getD_eq_getElem?_getD, List.getElem?_eq_getElem (by omega)]
      exact cutW_in _ _ (List.getElem_mem _)
    have hp : (2 ^ nW N : Nat) ≤ 2 ^ 14 := Nat.pow_le_pow_right (by decide) h14
    have hp' : (2 ^ 14 : Nat) = 16384 := by decide
    have hbl : bShl 1 (((cutW S (nW N)).getD k 0 : Nat) : Int) = (2 ^ ((cutW S (nW N)).getD k 0) : Nat) := by rw [bL (by omega) (by omega), Int.toNat_natCast]
    have hl2 : (2 ^ ((cutW S (nW N)).getD k 0) : Nat) < 2 ^ nW N := Nat.pow_lt_pow_right (by decide) hlt
    have hz : 0 < (2 ^ ((cutW S (nW N)).getD k 0) : Nat) := Nat.two_pow_pos _
    by_cases e : tb j k = true
    · rw [if_pos e]
      have := bO_lt (n := nW N) (x := setN (cutW S (nW N)) j k) (y := bShl 1 (((cutW S (nW N)).getD k 0 : Nat) : Int)) (by omega) ih.1 ih.2.1 (by omega) (by omega)
      refine ⟨this.1, this.2, fun w hw => ?_⟩
      rw [tb_or ih.1 (by omega) (by omega) (by omega), Bool.or_eq_true, tb_pow (by omega) (by omega), Int.toNat_natCast, decide_eq_true_iff] at hw
      rcases hw with hw | hw
      · exact ih.2.2 w hw
      · omega
    · rw [if_neg e]
      exact ih
theorem setN_s {N S : Mm} {j : Int} {k : Nat} (hN : NC N) (hk : k < (cutW S (nW N)).length) (w : Nat) : tb (setN (cutW S (nW N)) j (k + 1)) w = true ↔ (tb (setN (cutW S (nW N)) j k) w = true ∨ (tb j k = true ∧ w = (cutW S (nW N)).getD k 0)) := by
  have h14 := hN.w14
  have ih := setN_b (S := S) (j := j) hN k (by omega)
  have hlt : (cutW S (nW N)).getD k 0 < nW N := by
    rw [List.getD_eq_getElem?_getD, List.getElem?_eq_getElem hk]
    exact cutW_in _ _ (List.getElem_mem _)
  have hp : (2 ^ nW N : Nat) ≤ 2 ^ 14 := Nat.pow_le_pow_right (by decide) h14
  have hp' : (2 ^ 14 : Nat) = 16384 := by decide
  have hbl : bShl 1 (((cutW S (nW N)).getD k 0 : Nat) : Int) = (2 ^ ((cutW S (nW N)).getD k 0) : Nat) := by rw [bL (by omega) (by omega), Int.toNat_natCast]
  have hl2 : (2 ^ ((cutW S (nW N)).getD k 0) : Nat) < 2 ^ nW N := Nat.pow_lt_pow_right (by decide) hlt
  have hz : 0 < (2 ^ ((cutW S (nW N)).getD k 0) : Nat) := Nat.two_pow_pos _
  rw [setN]
  by_cases e : tb j k = true
  · rw [if_pos e, tb_or ih.1 (by omega) (by omega) (by omega), Bool.or_eq_true, tb_pow (by omega) (by omega), Int.toNat_natCast, decide_eq_true_iff]
    exact ⟨fun h => h.elim Or.inl (fun h => Or.inr ⟨e, h.symm⟩), fun h => h.elim Or.inl (fun h => Or.inr h.2.symm)⟩
  · rw [if_neg e]
    exact ⟨Or.inl, fun h => h.elim id (fun h => absurd h.1 e)⟩
theorem cstN_b {N S : Mm} {j : Int} (hN : NC N) : ∀ k : Nat, k ≤ (cutW S (nW N)).length → 0 ≤ cstN N (cutW S (nW N)) j k ∧ cstN N (cutW S (nW N)) j k ≤ 1000 * k
  | 0, _ => ⟨Int.le_refl _, Int.le_refl _⟩
  | k + 1, hk => by
    have ih := cstN_b (S := S) (j := j) hN k (by omega)
    have hlt : (cutW S (nW N)).getD k 0 < nW N := by
      rw [List.getD_eq_getElem?_getD, List.getElem?_eq_getElem (by omega)]
      exact cutW_in _ _ (List.getElem_mem _)
    have := (hN.cw _ hlt).2.2.2.2.2.2
    rw [cstN]
    split <;> omega
theorem cutS_V {N S : Mm} {x : Int} (h : sV N S) : sV N (cutS S x) ∧ (cutS S x) 6 1 = S 6 1 := by
  obtain ⟨h1, h2⟩ := h
  refine ⟨⟨fun w hw => ⟨(h1 w hw).1, (h1 w hw).2.1, ?_⟩, h2⟩, rfl⟩
  unfold cutS
  split
  · omega
  · exact (h1 w hw).2.2
theorem drL_b {N S : Mm} (hN : NC N) (hS : sV N S) : 0 ≤ drL N S ∧ drL N S ≤ 16000 := by
  have h8 := hN.n8
  unfold drL
  have q1 := sm_nn (a := fun s => if S 4 s = 1 then S 3 s else 0) (n := nN N) (fun s hs => by have := hS.2.1 s (by omega); split <;> omega)
  have q2 := sm_const (f := fun s => if S 4 s = 1 then S 3 s else 0) (c := 2000) (n := nN N) (fun s hs => by have := hS.2.1 s (by omega); split <;> omega)
  omega
theorem drL_nx {N S : Mm} {K : Bool → (Nat → Int) → Bool} {c : Int} (hN : NC N) (hS : sV N S) : drL N S ≤ drL N (nx N S K c) := by
  have h8 := hN.n8
  unfold drL
  refine sm_mono (fun s hs => ?_)
  have e3 : (nx N S K c) 3 s = S 3 s := rfl
  have e4 : (nx N S K c) 4 s = dkF N S s := rfl
  have := hS.2.1 s (by omega)
  rw [e3, e4]
  unfold dkF
  by_cases e : S 4 s = 1
  · rw [if_pos e, if_pos (by rw [if_pos (Or.inl e)])]
    omega
  · rw [if_neg e]
    split <;> omega
theorem drL_pl {N S : Mm} {K : Bool → (Nat → Int) → Bool} {c : Int} (hN : NC N) (hS : sV N S) : ∀ k : Nat, S 6 1 + k ≤ 600 → drL N S ≤ drL N (plN N S K c k)
  | 0, _ => Int.le_refl _
  | k + 1, hk => by
    have ih := drL_pl (K := K) (c := c) hN hS k (by omega)
    have := drL_nx (K := K) (c := c) hN (pl_V (K := K) (c := c) hN hS k (by omega)).1
    show _ ≤ drL N (nx N (plN N S K c k) K c)
    omega
theorem drL_cut {N S : Mm} {x : Int} : drL N (cutS S x) = drL N S := rfl
theorem orN_0 {S : Mm} : orN S 0 = S := by
  funext a j
  unfold orN
  by_cases e : a = 4
  · rw [if_pos e, tb_zero, if_neg (by decide), e]
  · rw [if_neg e]
section CUT
variable {N S S1 M M0 M2 : Mm} {Ps : Nat → Mm} {l : List (Bool × Sem)} {t d m : Nat} {x c : Int}
/-- what is dark, told of a standing state -/
theorem w244d {r : Nat} {P : Int → Prop} (hN : NC N) (hS : sV N S1) (h : sC N S1 M r) (k : P (drL N S1)) : Wp (f244 r (M r 1) M) P := by
  obtain ⟨g1, g2, ⟨a1, a2, a3⟩, g4, g5⟩ := h
  refine w244 hN hS g2 a1 a2 ?_
  have : sm (fun s => if tb (M r 1) s then S1 3 s else 0) (nN N) = drL N S1 := sm_congr (fun s hs => by
    rw [a3 s]
    cases tb (M r 1) s <;> rfl)
  rw [this]
  exact k
/-- those that may be cut -/
theorem w47 (h : IV N S Ps l M) : Wp (f47 M) (fun r => r.1 = (cutW S (nW N)).length ∧ (∀ b, b ≠ 134 → r.2 b = M b) ∧ ∀ k, k < (cutW S (nW N)).length → r.2 134 k = (cutW S (nW N)).getD k 0) := by
  have h14 := h.1.1.w14
  unfold f47 f47_4
  refine wp_lp3 (fun m x y M2 => ∃ w : Nat, y = w ∧ w ≤ nW N ∧ m = nW N - w ∧ x = (cutW S w).length ∧ (∀ b, b ≠ 134 → M2 b = M b) ∧ ∀ k, k < (cutW S w).length → M2 134 k = (cutW S w).getD k 0) (nW N) (by omega) ⟨0, rfl, Nat.zero_le _, rfl, rfl, fun _ _ => rfl, fun k hk => absurd hk (Nat.not_lt_zero _)⟩ ?_
  rintro m x y M2 ⟨w, rfl, a1, a2, rfl, a4, a5⟩
  dsimp only
  unfold lb47_4
  rw [a4 3 (by decide), h.e31, a4 26 (by decide), a4 28 (by decide), Int.toNat_natCast, Int.toNat_natCast]
  have h8 := cutW_8 (S := S) w
  refine wp_ite (fun c => wp_ite (fun c2 => ?_) (fun c2 => wp_o (wp_some ?_))) (fun c => wp_o (wp_some ?_))
  · have hs := h.1.2.2.2.2.1.1 w (by omega)
    rw [hs.1, hs.2.2]
    unfold f47_55
    have next : ¬ (S 0 w = 0 ∧ 0 < S 2 w) → cutW S (w + 1) = cutW S w := fun z => by
      rw [cutW, if_neg (fun q => z q.2)]
    have skip : ¬ (S 0 w = 0 ∧ 0 < S 2 w) → Wp (gd (R4 ((w : Int) + 1)) (some (.inl (((cutW S w).length : Int), (w : Int) + 1, M2)))) (Sum.elim (up3 (fun (m : Nat) (x y : Int) (M2 : Mm) => ∃ w : Nat, y = w ∧ w ≤ nW N ∧ m = nW N - w ∧ x = (cutW S w).length ∧ (∀ b, b ≠ 134 → M2 b = M b) ∧ ∀ k, k < (cutW S w).length → M2 134 k = (cutW S w).getD k 0) m) (fun r : Int × Mm => r.1 = (cutW S (nW N)).length ∧ (∀ b, b ≠ 134 → r.2 b = M b) ∧ ∀ k, k < (cutW S (nW N)).length → r.2 134 k = (cutW S (nW N)).getD k 0)) := fun z => wp_gd (by omega) (wp_i3 (m - 1) (by omega) ⟨w + 1, by omega, by omega, by omega, by rw [next z], a4, by rw [next z]; exact a5⟩)
    refine wp_gd (by omega) (wp_ite (fun c3 => wp_ite (fun c4 => wp_gd (by omega) (wp_mlet (wp_gd (by omega) (wp_gd (by omega) (wp_i3 (m - 1) (by omega) ⟨w + 1, by omega, by omega, by omega, ?_, fun b hb => (ms_a hb).trans (a4 b hb), fun k hk => ?_⟩))))) (fun c4 => skip (fun q => c4 q.2))) (fun c3 => skip (fun q => c3 q.1)))
    · rw [cutW, if_pos ⟨by omega, c3, c4⟩, List.length_append]
      rfl
    · rw [cutW, if_pos ⟨by omega, c3, c4⟩, List.length_append] at hk
      rw [cutW, if_pos ⟨by omega, c3, c4⟩, List.getD_eq_getElem?_getD]
      have : ([w] : List Nat).length = 1 := rfl
      by_cases e : k = (cutW S w).length
      · rw [e, ms_v, List.getElem?_append_right (Nat.le_refl _), Nat.sub_self]
        rfl
      · rw [ms_i e, a5 k (by omega), List.getElem?_append_left (by omega), List.getD_eq_getElem?_getD]
  · have e := cutW_full (S := S) (n := w) (by omega) (nW N - w)
    rw [show w + (nW N - w) = nW N by omega] at e
    rw [e]
    exact ⟨rfl, a4, a5⟩
  · rw [show w = nW N by omega] at a5 ⊢
    exact ⟨rfl, a4, a5⟩
/-- a combination tried, the first object -/
theorem w44 {j k : Int} (h : IV N S Ps l M0) (ht : iTxt l t d M0) (f0 : ∀ b, b ≠ 134 → (b < 73 ∨ 97 < b) → b ≠ t + 6 → M b = M0 b) (hW : ∀ k, k < (cutW S (nW N)).length → M 134 k = (cutW S (nW N)).getD k 0) (hj : 0 ≤ j ∧ j < 256) (hk : 1 ≤ k ∧ k ≤ 30) :
    Wp (f44 j (cutW S (nW N)).length k M) (fun r => r.1 = cvN N S (kOf l) (M0 3 3) k.toNat j ∧ (∀ b, b ≠ 134 → (b < 73 ∨ 97 < b) → b ≠ t + 6 → r.2 b = M0 b) ∧ r.2 134 = M 134) := by
  have hnw := h.nw
  have h14 := h.1.1.w14
  have ht4 : t = 4 ∨ t = 135 := by have := ht.1; omega
  have h8 := cutW_8 (S := S) (nW N)
  have hS61 : S 6 1 ≤ 499 ∧ 0 ≤ S 6 1 := ⟨h.1.2.2.2.2.2.2.2.1.2, h.1.2.1.2.2.2.2.2.2.2.1⟩
  unfold f44
  have sc : sC N S M 24 := h.1.2.2.2.2.1.to (fun b q1 q2 => f0 b (by omega) (by omega) (by omega))
  refine wp_bind (w219 (by decide) sc (fun M1 a1 a2 a3 => ?_))
  unfold f44_14
  refine wp_lp2 (fun n y M2 => ∃ i : Nat, y = i ∧ i ≤ (cutW S (nW N)).length ∧ n = (cutW S (nW N)).length - i ∧ (∀ b, b ≠ 78 → M2 b = M1 b) ∧ ∀ w, w < 14 → M2 78 w = if tb (setN (cutW S (nW N)) j i) w = true then 0 else S 2 w) (cutW S (nW N)).length (by omega) ⟨0, rfl, by omega, rfl, fun _ _ => rfl, fun w hw => by rw [setN, tb_zero, if_neg (by decide)]; exact (a2.1 w hw).2.2⟩ ?_
  rintro n y M2 ⟨i, rfl, b1, b2, b3, b4⟩
  dsimp only
  unfold lb44_14
  rw [bT hj.1 (by omega) (by omega) (by omega), Int.toNat_natCast]
  refine wp_ite (fun c => ?_) (fun c => wp_o ?_)
  · have hi : i < (cutW S (nW N)).length := by omega
    have hw : M2 134 i = (cutW S (nW N)).getD i 0 := by rw [b3 134 (by decide), a1 134 (by omega)]; exact hW i hi
    have hlt : (cutW S (nW N)).getD i 0 < nW N := by
      rw [List.getD_eq_getElem?_getD, List.getElem?_eq_getElem hi]
      exact cutW_in _ _ (List.getElem_mem _)
    rw [hw, Int.toNat_natCast]
    unfold f44_49
    have es := setN_s (S := S) (j := j) (k := i) h.1.1 hi
    by_cases e : tb j i = true
    · rw [if_pos e]
      refine wp_pos rfl (wp_gd (by omega) (wp_gd (by omega) (wp_mlet (wp_gd (by omega) (wp_i2 (n - 1) (by omega) ⟨i + 1, by omega, by omega, by omega, fun b hb => (ms_a hb).trans (b3 b hb), fun w hw => ?_⟩)))))
      rw [ms_at, b4 w hw]
      by_cases e2 : w = (cutW S (nW N)).getD i 0
      · rw [if_pos e2, if_pos ((es w).mpr (Or.inr ⟨e, e2⟩))]
      · rw [if_neg e2]
        by_cases e3 : tb (setN (cutW S (nW N)) j i) w = true
        · rw [if_pos e3, if_pos ((es w).mpr (Or.inl e3))]
        · rw [if_neg e3, if_neg (fun z => ((es w).mp z).elim e3 (fun q => e2 q.2))]
    · rw [if_neg e]
      refine wp_neg (by decide) (wp_gd (by omega) (wp_i2 (n - 1) (by omega) ⟨i + 1, by omega, by omega, by omega, b3, fun w hw => ?_⟩))
      rw [b4 w hw]
      by_cases e3 : tb (setN (cutW S (nW N)) j i) w = true
      · rw [if_pos e3, if_pos ((es w).mpr (Or.inl e3))]
      · rw [if_neg e3, if_neg (fun z => ((es w).mp z).elim e3 (fun q => e q.1))]
  · rw [show i = (cutW S (nW N)).length by omega] at b4
    have hcv : cvN N S (kOf l) (M0 3 3) k.toNat j = drL N (plN N (cutS S (setN (cutW S (nW N)) j (cutW S (nW N)).length)) (kOf l) (M0 3 3) k.toNat) := rfl
    rw [hcv]
    generalize setN (cutW S (nW N)) j (cutW S (nW N)).length = X at b4
    have p0 : plC N (cutS S X) M2 := by
      obtain ⟨g1, g2, g3, g4, g5⟩ := a2
      refine ⟨⟨fun w hw => ⟨?_, ?_, ?_⟩, fun i hi => ?_, ?_, ?_, ?_⟩, fun z => ?_⟩
      · rw [b3 76 (by decide)]; exact (g1 w hw).1
      · rw [b3 77 (by decide)]; exact (g1 w hw).2.1
      · rw [b4 w hw]
        show _ = if 2 = 2 ∧ tb X w = true then 0 else S 2 w
        by_cases e3 : tb X w = true
        · rw [if_pos e3, if_pos ⟨rfl, e3⟩]
        · rw [if_neg e3, if_neg (fun z => e3 z.2)]
      · rw [b3 75 (by decide)]; exact g2 i hi
      · rw [b3 74 (by decide)]; exact g3
      · rw [b3 74 (by decide)]; exact g4
      · rw [b3 74 (by decide)]; exact g5
      · rw [b3 73 (by decide), a3] at z
        exact absurd z (by decide)
    have hV := cutS_V (x := X) h.1.2.1
    have m134 : M2 134 = M 134 := by rw [b3 134 (by decide), a1 134 (by omega)]
    have fm : ∀ b, b ≠ 134 → (b < 73 ∨ 97 < b) → b ≠ t + 6 → M2 b = M0 b := fun b q1 q2 q3 => by rw [b3 b (by omega), a1 b (by omega)]; exact f0 b q1 q2 q3
    -- the stand-in start, with this scratch
    have h1 : IV N S Ps l M2 := h.fp (fpP.of (fun b hb => fm b (by unfold perB at hb; omega) (by unfold perB at hb; omega) (by unfold perB at hb; omega)))
    have ht1 : iTxt l t d M2 := ht.to (by rw [fm 3 (by omega) (by omega) (by omega)]) (by rw [fm 2 (by omega) (by omega) (by omega)]) (fun b q => fm b (by omega) (by omega) (by omega)) (by rw [fm 142 (by omega) (by omega) (by omega)]) (by rw [fm 142 (by omega) (by omega) (by omega)])
    have e33 : M0 3 3 = M2 3 3 := by rw [fm 3 (by omega) (by omega) (by omega)]
    rw [e33]
    unfold f44_58
    refine wp_lp2 (fun n y M3 => ∃ u : Nat, y = u ∧ u ≤ k.toNat ∧ n = k.toNat - u ∧ frP t M2 M3 ∧ plC N (plN N (cutS S X) (kOf l) (M2 3 3) u) M3) k.toNat (by omega) ⟨0, rfl, Nat.zero_le _, rfl, fun _ _ _ => rfl, p0⟩ ?_
    clear b1 b2 c
    rintro n y M3 ⟨u, rfl, c1, c2, c3, c4⟩
    dsimp only
    unfold lb44_58
    obtain ⟨v1, v2⟩ := pl_V (K := kOf l) (c := M2 3 3) h.1.1 hV.1 u (by rw [hV.2]; omega)
    refine wp_ite (fun e => ?_) (fun e => wp_o (wp_bind (w244d h.1.1 v1 c4.1 (wp_some ⟨by rw [show k.toNat = u by omega], fun b q1 q2 q3 => (c3 b q2 q3).trans (fm b q1 q2 q3), (c3 134 (by omega) (by omega)).trans m134⟩))))
    refine wp_bind (h1.stp ht1 v1 c3 c4 (fun M4 d1 d2 _ _ _ _ _ _ => wp_gd (by omega) (wp_i2 (n - 1) (by omega) ⟨u + 1, by omega, by omega, by omega, d1, d2⟩)))
/-- a combination tried, the second object -/
theorem w162 {X k : Int} (h : IV N S Ps l M) (hX : 0 ≤ X ∧ X < (2 ^ nW N : Nat)) (hX2 : ∀ w : Nat, tb X w = true → w < nW N) (hk : 1 ≤ k ∧ k ≤ 30) :
    Wp (f162 X k M) (fun r => r.1 = drL N (plN N (cutS S X) (kOf l) (M 3 3) k.toNat) ∧ fpP M r.2 ∧ r.2 199 = M 199) := by
  have hnw := h.nw
  have h14 := h.1.1.w14
  have hp : (2 ^ nW N : Nat) ≤ 2 ^ 14 := Nat.pow_le_pow_right (by decide) h14
  have hp' : (2 ^ 14 : Nat) = 16384 := by decide
  have hS61 : S 6 1 ≤ 499 ∧ 0 ≤ S 6 1 := ⟨h.1.2.2.2.2.2.2.2.1.2, h.1.2.1.2.2.2.2.2.2.2.1⟩
  unfold f162
  rw [h.now.2.1]
  refine wp_bind (w153 h (Nat.le_refl _) (Int.le_refl 0) (by have := Nat.two_pow_pos (nN N); omega) (fun M1 a1 a2 a3 a4 => ?_))
  rw [orN_0] at a4
  have e0 : stAt S Ps (nwS S) = S := if_pos rfl
  rw [e0] at a4
  unfold f162_11
  refine wp_lp2 (fun n y M2 => ∃ i : Nat, y = i ∧ i ≤ nW N ∧ n = nW N - i ∧ (∀ b, b ≠ 144 → M2 b = M1 b) ∧ (∀ a, (a < 36316 ∨ 36330 ≤ a) → M2 144 a = M1 144 a) ∧ ∀ w, w < 14 → M2 144 (36316 + w) = if w < i ∧ tb X w = true then 0 else S 2 w) (nW N) (by omega) ⟨0, rfl, by omega, rfl, fun _ _ => rfl, fun _ _ => rfl, fun w hw => by rw [if_neg (fun z => absurd z.1 (Nat.not_lt_zero _))]; exact (a4.1 w hw).2.2⟩ ?_
  rintro n y M2 ⟨i, rfl, b1, b2, b3, b5, b4⟩
  dsimp only
  unfold lb162_11
  rw [b3 142 (by decide), a2 142 (by decide), h.m4]
  refine wp_ite (fun c => wp_bind (w118 hX.1 (by omega) (by omega) (by omega) ?_)) (fun c => wp_o ?_)
  · rw [Int.toNat_natCast, show (36316 + (i : Int)).toNat = 36316 + i by omega]
    unfold f162_38
    by_cases e : tb X i = true
    · rw [if_pos e]
      refine wp_neg (by decide) (wp_gd (by omega) (wp_gd (by omega) (wp_mlet (wp_gd (by omega) (wp_i2 (n - 1) (by omega) ⟨i + 1, by omega, by omega, by omega, fun b hb => (ms_a hb).trans (b3 b hb), fun a ha => (ms_i (by omega)).trans (b5 a ha), fun w hw => ?_⟩)))))
      rw [ms_at, b4 w hw]
      by_cases e2 : w = i
      · rw [if_pos (by omega), if_pos ⟨by omega, by rw [e2]; exact e⟩]
      · rw [if_neg (by omega)]
        by_cases e3 : w < i ∧ tb X w = true
        · rw [if_pos e3, if_pos ⟨by omega, e3.2⟩]
        · rw [if_neg e3, if_neg (fun z => e3 ⟨by omega, z.2⟩)]
    · rw [if_neg e]
      refine wp_pos rfl (wp_gd (by omega) (wp_i2 (n - 1) (by omega) ⟨i + 1, by omega, by omega, by omega, b3, b5, fun w hw => ?_⟩))
      rw [b4 w hw]
      by_cases e3 : w < i ∧ tb X w = true
      · rw [if_pos e3, if_pos ⟨by omega, e3.2⟩]
      · rw [if_neg e3, if_neg]
        rintro ⟨z1, z2⟩
        by_cases e2 : w = i
        · exact e (by rw [← e2]; exact z2)
        · exact e3 ⟨by omega, z2⟩
  · have f2 : fpP M M2 := a1.trans ⟨fun b hb => b3 b hb.2.1, fun j _ => by rw [b3 142 (by decide)], fun a ha => b5 a (by omega)⟩
    have m199 : M2 199 = M 199 := (b3 199 (by decide)).trans (a2 199 (by decide))
    have p0 : sM (cutS S X) M2 36288 := by
      obtain ⟨k1, k2, k3, k4, k5⟩ := a4
      refine ⟨fun w hw => ⟨?_, ?_, ?_⟩, fun i hi => ?_, fun i hi => ?_, ?_, ?_⟩
      · rw [b5 _ (by omega)]; exact (k1 w hw).1
      · rw [b5 _ (by omega)]; exact (k1 w hw).2.1
      · rw [show 36288 + 28 + w = 36316 + w by omega, b4 w hw]
        show _ = if 2 = 2 ∧ tb X w = true then 0 else S 2 w
        by_cases e3 : tb X w = true
        · rw [if_pos ⟨by have := hX2 w e3; omega, e3⟩, if_pos ⟨rfl, e3⟩]
        · rw [if_neg (fun z => e3 z.2), if_neg (fun z => e3 z.2)]
      · rw [b5 _ (by omega), b5 _ (by omega)]; exact k2 i hi
      · rw [b5 _ (by omega)]; exact k3 i hi
      · rw [b5 _ (by omega)]; exact k4
      · rw [b5 _ (by omega)]; exact k5
    have hc : M2 144 36357 = M 3 3 := (b5 _ (by omega)).trans a3
    have hV := cutS_V (x := X) h.1.2.1
    unfold f162_46
    refine wp_lp2 (fun n y M3 => ∃ u : Nat, y = u ∧ u ≤ k.toNat ∧ n = k.toNat - u ∧ fpP M M3 ∧ M3 199 = M 199 ∧ M3 144 36357 = M 3 3 ∧ sM (plN N (cutS S X) (kOf l) (M 3 3) u) M3 36288) k.toNat (by omega) ⟨0, rfl, Nat.zero_le _, rfl, f2, m199, hc, p0⟩ ?_
    clear b1 b2 c
    rintro n y M3 ⟨u, rfl, c1, c2, c3, c9, c4, c5⟩
    dsimp only
    unfold lb162_46
    obtain ⟨v1, v2⟩ := pl_V (K := kOf l) (c := M 3 3) h.1.1 hV.1 u (by rw [hV.2]; omega)
    refine wp_ite (fun e => ?_) (fun e => wp_o ?_)
    · refine wp_bind (h.stm v1 c3 c5 c4 (fun M4 d1 d5 d2 d3 _ _ => wp_gd (by omega) (wp_i2 (n - 1) (by omega) ⟨u + 1, by omega, by omega, by omega, d1, (d5 199 (by decide) (by decide) (by decide)).trans c9, d2, d3⟩)))
    · have g3 := h.fp c3
      refine wp_bind (w163 (z := 36288) h.1.1 v1 g3.1.2.2.2.1 (by decide) (fun s hs => (c5.2.1 s hs).1) (fun s hs => (c5.2.1 s hs).2) (wp_some ⟨?_, c3, c9⟩))
      rw [show k.toNat = u by omega]
      rfl
end CUT

theorem bstN_b {N S : Mm} {K : Bool → (Nat → Int) → Bool} {c x : Int} {k : Nat} : ∀ u : Nat, bstN N S K c k x u = -1 ∨ (0 ≤ bstN N S K c k x u ∧ bstN N S K c k x u < u)
  | 0 => Or.inl rfl
  | u + 1 => by
    have ih := bstN_b (N := N) (S := S) (K := K) (c := c) (k := k) (x := x) u
    rw [bstN]
    by_cases e : cstN N (cutW S (nW N)) u (cutW S (nW N)).length ≤ x ∧ (bstN N S K c k x u = -1 ∨ cvN N S K c k u < cvN N S K c k (bstN N S K c k x u) ∨ (cvN N S K c k u = cvN N S K c k (bstN N S K c k x u) ∧ cstN N (cutW S (nW N)) u (cutW S (nW N)).length < cstN N (cutW S (nW N)) (bstN N S K c k x u) (cutW S (nW N)).length))
    · rw [if_pos e]; omega
    · rw [if_neg e]; omega
theorem cstN_0 {N : Mm} {L : List Nat} : ∀ k : Nat, cstN N L 0 k = 0
  | 0 => rfl
  | k + 1 => by rw [cstN, cstN_0 k, tb_zero]; rfl
theorem bstN_p {N S : Mm} {K : Bool → (Nat → Int) → Bool} {c x : Int} {k : Nat} (hx : 0 ≤ x) : ∀ u : Nat, 0 < u → 0 ≤ bstN N S K c k x u
  | 0, h => absurd h (Nat.lt_irrefl _)
  | 1, _ => by
    have e : bstN N S K c k x 1 = 0 := if_pos ⟨by show cstN N (cutW S (nW N)) 0 _ ≤ x; rw [cstN_0]; exact hx, Or.inl rfl⟩
    omega
  | u + 2, _ => by
    have ih := bstN_p (N := N) (S := S) (K := K) (c := c) (k := k) hx (u + 1) (by omega)
    rw [bstN]
    by_cases e : cstN N (cutW S (nW N)) ((u + 1 : Nat) : Int) (cutW S (nW N)).length ≤ x ∧ (bstN N S K c k x (u + 1) = -1 ∨ cvN N S K c k ((u + 1 : Nat) : Int) < cvN N S K c k (bstN N S K c k x (u + 1)) ∨ (cvN N S K c k ((u + 1 : Nat) : Int) = cvN N S K c k (bstN N S K c k x (u + 1)) ∧ cstN N (cutW S (nW N)) ((u + 1 : Nat) : Int) (cutW S (nW N)).length < cstN N (cutW S (nW N)) (bstN N S K c k x (u + 1)) (cutW S (nW N)).length))
    · rw [if_pos e]; omega
    · rw [if_neg e]; exact ih
section CUT2
variable {N S S1 M M0 M2 : Mm} {Ps : Nat → Mm} {l : List (Bool × Sem)} {t d m : Nat} {x c : Int}
theorem w41 {j : Int} {P : Int → Prop} (hN : NC N) (h19 : M 19 = N 19) (hW : ∀ k, k < (cutW S (nW N)).length → M 134 k = (cutW S (nW N)).getD k 0) (hj : 0 ≤ j ∧ j < 256) (k : P (cstN N (cutW S (nW N)) j (cutW S (nW N)).length)) : Wp (f41 j (cutW S (nW N)).length M) P := by
  have h14 := hN.w14
  have h8 := cutW_8 (S := S) (nW N)
  unfold f41 f41_5
  refine wp_lp2 (fun n a y => ∃ i : Nat, y = i ∧ i ≤ (cutW S (nW N)).length ∧ n = (cutW S (nW N)).length - i ∧ a = cstN N (cutW S (nW N)) j i) (cutW S (nW N)).length (by omega) ⟨0, rfl, by omega, rfl, rfl⟩ ?_
  rintro n a y ⟨i, rfl, a1, a2, a3⟩
  dsimp only
  unfold lb41_5
  rw [bT hj.1 (by omega) (by omega) (by omega), Int.toNat_natCast]
  refine wp_ite (fun c => ?_) (fun c => wp_o (wp_some (by rw [a3, show i = (cutW S (nW N)).length by omega]; exact k)))
  have hi : i < (cutW S (nW N)).length := by omega
  have hlt : (cutW S (nW N)).getD i 0 < nW N := by
    rw [List.getD_eq_getElem?_getD, List.getElem?_eq_getElem hi]
    exact cutW_in _ _ (List.getElem_mem _)
  have hc := (hN.cw _ hlt).2.2.2.2.2.2
  have b1 := cstN_b (S := S) (j := j) hN i (by omega)
  rw [hW i hi, Int.toNat_natCast, h19]
  unfold f41_39
  have es : cstN N (cutW S (nW N)) j (i + 1) = cstN N (cutW S (nW N)) j i + if tb j i then N 19 ((cutW S (nW N)).getD i 0) else 0 := rfl
  by_cases e : tb j i = true
  · rw [if_pos e] at es ⊢
    exact wp_pos rfl (wp_gd (by omega) (wp_gd (by omega) (wp_gd (by omega) (wp_gd (by omega) (wp_i2 (n - 1) (by omega) ⟨i + 1, by omega, by omega, by omega, by rw [es, a3]⟩)))))
  · rw [if_neg e] at es ⊢
    exact wp_neg (by decide) (wp_gd (by omega) (wp_i2 (n - 1) (by omega) ⟨i + 1, by omega, by omega, by omega, by rw [es, a3, Int.add_zero]⟩))
theorem w79 {j : Int} {P : Int → Prop} (hW : ∀ k, k < (cutW S (nW N)).length → M 134 k = (cutW S (nW N)).getD k 0) (hj : 0 ≤ j ∧ j < 256) (k : P (setN (cutW S (nW N)) j (cutW S (nW N)).length)) : Wp (f79 j (cutW S (nW N)).length M) P := by
  have h8 := cutW_8 (S := S) (nW N)
  unfold f79 f79_5
  refine wp_lp2 (fun n a y => ∃ i : Nat, y = i ∧ i ≤ (cutW S (nW N)).length ∧ n = (cutW S (nW N)).length - i ∧ a = setN (cutW S (nW N)) j i) (cutW S (nW N)).length (by omega) ⟨0, rfl, by omega, rfl, rfl⟩ ?_
  rintro n a y ⟨i, rfl, a1, a2, a3⟩
  dsimp only
  unfold lb79_5
  rw [bT hj.1 (by omega) (by omega) (by omega), Int.toNat_natCast]
  refine wp_ite (fun c => ?_) (fun c => wp_o (wp_some (by rw [a3, show i = (cutW S (nW N)).length by omega]; exact k)))
  have hi : i < (cutW S (nW N)).length := by omega
  rw [hW i hi]
  unfold f79_33
  by_cases e : tb j i = true
  · rw [if_pos e]
    exact wp_pos rfl (wp_gd (by omega) (wp_gd (by omega) (wp_i2 (n - 1) (by omega) ⟨i + 1, by omega, by omega, by omega, by rw [setN, if_pos e, a3]⟩)))
  · rw [if_neg e]
    exact wp_neg (by decide) (wp_gd (by omega) (wp_i2 (n - 1) (by omega) ⟨i + 1, by omega, by omega, by omega, by rw [setN, if_neg e, a3]⟩))
theorem cvN_b {k : Nat} {j : Int} {K : Bool → (Nat → Int) → Bool} (hN : NC N) (hS : sV N S) (hk : S 6 1 + k ≤ 600) : drL N S ≤ cvN N S K c k j ∧ cvN N S K c k j ≤ 16000 := by
  have hV := cutS_V (x := setN (cutW S (nW N)) j (cutW S (nW N)).length) hS
  have h1 := drL_pl (K := K) (c := c) hN hV.1 k (by rw [hV.2]; exact hk)
  rw [drL_cut] at h1
  have h2 := drL_b hN (pl_V (K := K) (c := c) hN hV.1 k (by rw [hV.2]; exact hk)).1
  exact ⟨h1, h2.2⟩
/-- the second object's cut -/
theorem c43m {x1 x2 x3 : Int} (h : IV N S Ps l M) (h1 : 0 ≤ x1 ∧ x1 ≤ 10000) (h2 : 1 ≤ x2 ∧ x2 ≤ 30) (h3 : 0 ≤ x3 ∧ x3 ≤ 1) {v : Int}
    (hv : v = if x3 = 0 then setN (cutW S (nW N)) (bstN N S (kOf l) (M 3 3) x2.toNat x1 (2 ^ (cutW S (nW N)).length)) (cutW S (nW N)).length else cvN N S (kOf l) (M 3 3) x2.toNat (bstN N S (kOf l) (M 3 3) x2.toNat x1 (2 ^ (cutW S (nW N)).length))) : JJ v (f99 x1 x2 x3 M) := by
  have hnw := h.nw
  have h14 := h.1.1.w14
  have hS61 : S 6 1 ≤ 499 ∧ 0 ≤ S 6 1 := ⟨h.1.2.2.2.2.2.2.2.1.2, h.1.2.1.2.2.2.2.2.2.2.1⟩
  have cvb : ∀ j, drL N S ≤ cvN N S (kOf l) (M 3 3) x2.toNat j ∧ cvN N S (kOf l) (M 3 3) x2.toNat j ≤ 16000 := fun j => cvN_b h.1.1 h.1.2.1 (by omega)
  have drb := drL_b h.1.1 h.1.2.1
  generalize hbF : bstN N S (kOf l) (M 3 3) x2.toNat x1 = bF at hv
  have Bp : ∀ u : Nat, 0 < u → 0 ≤ bF u := fun u hu => by rw [← hbF]; exact bstN_p h1.1 u hu
  have Bb : ∀ u : Nat, bF u = -1 ∨ (0 ≤ bF u ∧ bF u < u) := fun u => by rw [← hbF]; exact bstN_b u
  have Bs : ∀ u : Nat, (cstN N (cutW S (nW N)) u (cutW S (nW N)).length ≤ x1 ∧ (bF u = -1 ∨ cvN N S (kOf l) (M 3 3) x2.toNat u < cvN N S (kOf l) (M 3 3) x2.toNat (bF u) ∨ (cvN N S (kOf l) (M 3 3) x2.toNat u = cvN N S (kOf l) (M 3 3) x2.toNat (bF u) ∧ cstN N (cutW S (nW N)) u (cutW S (nW N)).length < cstN N (cutW S (nW N)) (bF u) (cutW S (nW N)).length)) → bF (u + 1) = u) ∧
      (¬ (cstN N (cutW S (nW N)) u (cutW S (nW N)).length ≤ x1 ∧ (bF u = -1 ∨ cvN N S (kOf l) (M 3 3) x2.toNat u < cvN N S (kOf l) (M 3 3) x2.toNat (bF u) ∨ (cvN N S (kOf l) (M 3 3) x2.toNat u = cvN N S (kOf l) (M 3 3) x2.toNat (bF u) ∧ cstN N (cutW S (nW N)) u (cutW S (nW N)).length < cstN N (cutW S (nW N)) (bF u) (cutW S (nW N)).length))) → bF (u + 1) = bF u) := fun u => by
    rw [← hbF]
    exact ⟨fun e => by rw [bstN, if_pos e], fun e => by rw [bstN, if_neg e]⟩
  have B0 : bF 0 = -1 := by rw [← hbF]; rfl
  clear hbF
  have hcv : ∀ j, cvN N S (kOf l) (M 3 3) x2.toNat j = drL N (plN N (cutS S (setN (cutW S (nW N)) j (cutW S (nW N)).length)) (kOf l) (M 3 3) x2.toNat) := fun j => rfl
  generalize hcF : cvN N S (kOf l) (M 3 3) x2.toNat = cF at hv cvb Bs hcv
  clear hcF
  unfold f99
  refine wp_bind (w143 ?_)
  rw [if_pos h1]
  refine wp_neg (by decide) (wp_bind (w127 ?_))
  rw [if_pos h2]
  refine wp_neg (by decide) (wp_bind (w143 ?_))
  rw [if_pos h3]
  refine wp_neg (by decide) ?_
  have h8 := cutW_8 (S := S) (nW N)
  -- the choosing
  have main : ∀ M1 : Mm, (∀ b, b ≠ 199 → M1 b = M b) → (∀ k, k < (cutW S (nW N)).length → M1 199 k = (cutW S (nW N)).getD k 0) → Wp (f99_100 x1 x2 x3 (cutW S (nW N)).length M1) (fun r => r.1 = v ∧ GI r.2) := fun M1 a1 a2 => by
    have f1 : fpP M M1 := fpP.of (fun b hb => a1 b (by unfold perB at hb; omega))
    have pp := Nat.two_pow_pos (cutW S (nW N)).length
    have pl8 : (2 ^ (cutW S (nW N)).length : Nat) ≤ 2 ^ 8 := Nat.pow_le_pow_right (by decide) h8
    have p8' : (2 ^ 8 : Nat) = 256 := by decide
    unfold f99_100 f99_112
    let I : Nat → Int → Int → Int → Int → Mm → Prop := fun n z cs ld u M2 => ∃ j : Nat, u = j ∧ j ≤ 2 ^ (cutW S (nW N)).length ∧ n = 2 ^ (cutW S (nW N)).length - j ∧ fpP M M2 ∧ (∀ k, k < (cutW S (nW N)).length → M2 199 k = (cutW S (nW N)).getD k 0) ∧ ((bF j = -1 ∧ z = -1) ∨ (0 ≤ bF j ∧ z = setN (cutW S (nW N)) (bF j) (cutW S (nW N)).length ∧ cs = cstN N (cutW S (nW N)) (bF j) (cutW S (nW N)).length ∧ ld = cF (bF j)))
    refine wp_lp5 I (2 ^ (cutW S (nW N)).length) (by omega) ⟨0, rfl, by omega, rfl, f1, a2, Or.inl ⟨B0, rfl⟩⟩ ?_
    rintro n z cs ld u M2 ⟨j, rfl, b1, b2, b3, b4, b5⟩
    dsimp only
    unfold lb99_112
    rw [bL (by omega) (by omega), Int.toNat_natCast]
    refine wp_ite (fun c => ?_) (fun c => wp_o ?_)
    · have g2 := h.fp b3
      unfold f99_130
      refine wp_lp3 (fun n2 st co y => ∃ i : Nat, y = i ∧ i ≤ (cutW S (nW N)).length ∧ n2 = (cutW S (nW N)).length - i ∧ st = setN (cutW S (nW N)) j i ∧ co = cstN N (cutW S (nW N)) j i) (cutW S (nW N)).length (by omega) ⟨0, rfl, by omega, rfl, rfl, rfl⟩ ?_
      rintro n2 st co y ⟨i, rfl, d1, d2, d3, d4⟩
      dsimp only
      unfold lb99_130
      refine wp_ite (fun c2 => wp_bind (w118 (by omega) (by omega) (by omega) (by omega) ?_)) (fun c2 => wp_o ?_)
      · have hi : i < (cutW S (nW N)).length := by omega
        have hlt : (cutW S (nW N)).getD i 0 < nW N := by
          rw [List.getD_eq_getElem?_getD, List.getElem?_eq_getElem hi]
          exact cutW_in _ _ (List.getElem_mem _)
        have hc := (h.1.1.cw _ hlt).2.2.2.2.2.2
        have cb := cstN_b (S := S) (j := (j : Int)) h.1.1 i (by omega)
        have m152 : M2 152 ((cutW S (nW N)).getD i 0) = N 19 ((cutW S (nW N)).getD i 0) := (g2.1.2.2.2.1.2.2.2.2.1 _ hlt).2.2.2.2.2
        have es : cstN N (cutW S (nW N)) j (i + 1) = cstN N (cutW S (nW N)) j i + if tb j i then N 19 ((cutW S (nW N)).getD i 0) else 0 := rfl
        rw [Int.toNat_natCast, b4 i hi, Int.toNat_natCast, m152]
        unfold f99_181
        by_cases e : tb (j : Int) i = true
        · rw [if_pos e] at es ⊢
          exact wp_neg (by decide) (wp_gd (by omega) (wp_gd (by omega) (wp_gd (by omega) (wp_gd (by omega) (wp_i3 (n2 - 1) (by omega) ⟨i + 1, by omega, by omega, by omega, by rw [setN, if_pos e, d3], by rw [es, d4]⟩)))))
        · rw [if_neg e] at es ⊢
          exact wp_pos rfl (wp_gd (by omega) (wp_i3 (n2 - 1) (by omega) ⟨i + 1, by omega, by omega, by omega, by rw [setN, if_neg e, d3], by rw [es, d4, Int.add_zero]⟩))
      · rw [show i = (cutW S (nW N)).length by omega] at d3 d4
        have bsj := Bs j
        have skip : ∀ M3 : Mm, fpP M M3 → M3 199 = M2 199 → bF (j + 1) = bF j → Wp (f99_249 x1 x2 x3 (cutW S (nW N)).length z cs ld j M3) (Sum.elim (up5 I n) (fun r => r.1 = v ∧ GI r.2)) := fun M3 f3 e3 eb => by
          unfold f99_249
          refine wp_gd (by omega) (wp_i5 (n - 1) (by omega) ⟨j + 1, by omega, by omega, by omega, f3, by rw [e3]; exact b4, by rw [eb]; exact b5⟩)
        have take : ∀ (M3 : Mm) (w : Int), fpP M M3 → M3 199 = M2 199 → bF (j + 1) = j → w = cF j → Wp (f99_237 x1 x2 x3 (cutW S (nW N)).length j st co w M3) (Sum.elim (up5 I n) (fun r => r.1 = v ∧ GI r.2)) := fun M3 w f3 e3 eb ew => by
          unfold f99_237 f99_249
          refine wp_gd (by omega) (wp_i5 (n - 1) (by omega) ⟨j + 1, by omega, by omega, by omega, f3, by rw [e3]; exact b4, Or.inr ?_⟩)
          rw [eb]
          exact ⟨by omega, d3, d4, ew⟩
        refine wp_ite (fun c3 => skip M2 b3 rfl (bsj.2 (fun q => by omega))) (fun c3 => ?_)
        have sb := setN_b (S := S) (j := (j : Int)) h.1.1 (cutW S (nW N)).length (Nat.le_refl _)
        refine wp_obnd (wpW (w162 (X := st) (k := x2) g2 (by rw [d3]; exact ⟨sb.1, sb.2.1⟩) (by rw [d3]; exact sb.2.2) h2) (fun r2 hr2 => ?_))
        obtain ⟨w, M3⟩ := r2
        obtain ⟨o1, o2, o3⟩ := hr2
        dsimp only at o1 o2 o3 ⊢
        have f3 := b3.trans o2
        have ew : w = cF j := by rw [o1, hcv j, d3, b3.1 3 (by unfold perB; omega)]
        have zb : 0 ≤ bF j → 0 ≤ z := fun q => by
          rcases b5 with b5 | b5
          · omega
          · have sb2 := setN_b (S := S) (j := bF j) h.1.1 (cutW S (nW N)).length (Nat.le_refl _)
            omega
        refine wp_ite (fun c4 => take M3 w f3 o3 (bsj.1 ⟨by omega, Or.inl (by rcases b5 with b5 | b5; exact b5.1; have := zb b5.1; omega)⟩) ew) (fun c4 => ?_)
        rcases b5 with b5 | b5
        · exact absurd b5.2 c4
        · obtain ⟨y1, y2, y3, y4⟩ := b5
          refine wp_ite (fun c5 => skip M3 f3 o3 (bsj.2 (fun q => ?_))) (fun c5 => wp_ite (fun c6 => wp_ite (fun c7 => take M3 w f3 o3 (bsj.1 ⟨by omega, Or.inr (Or.inr ⟨by omega, by omega⟩)⟩) ew) (fun c7 => skip M3 f3 o3 (bsj.2 (fun q => ?_)))) (fun c6 => take M3 w f3 o3 (bsj.1 ⟨by omega, Or.inr (Or.inl (by omega))⟩) ew))
          · omega
          · omega
    · have ej : j = 2 ^ (cutW S (nW N)).length := by omega
      have y0 := Bp j (by omega)
      rcases b5 with b5 | ⟨y1, y2, y3, y4⟩
      · omega
      · rw [ej] at y2 y4
        have := cvb (bF (2 ^ (cutW S (nW N)).length))
        refine wp_ite (fun c3 => wp_some ⟨?_, (h.fp b3).G⟩) (fun c3 => wp_gd (by omega) (wp_some ⟨?_, (h.fp b3).G⟩))
        · rw [hv, if_pos c3]
          exact y2
        · rw [hv, if_neg c3]
          exact y4
  unfold f99_37
  refine wp_lp3 (fun m x y M2 => ∃ w : Nat, y = w ∧ w ≤ nW N ∧ m = nW N - w ∧ x = ((cutW S w).length : Int) ∧ (∀ b, b ≠ 199 → M2 b = M b) ∧ ∀ k, k < (cutW S w).length → M2 199 k = (cutW S w).getD k 0) (nW N) (by omega) ⟨0, rfl, Nat.zero_le _, rfl, rfl, fun _ _ => rfl, fun k hk => absurd hk (Nat.not_lt_zero _)⟩ ?_
  rintro m x y M2 ⟨w, rfl, a1, a2, rfl, a4, a5⟩
  dsimp only
  unfold lb99_37
  rw [a4 142 (by decide), h.m4, a4 144 (by decide), show (36000 + (w : Int)).toNat = 36000 + w by omega, show (36028 + (w : Int)).toNat = 36028 + w by omega, Int.toNat_natCast]
  have h8' := cutW_8 (S := S) w
  refine wp_ite (fun c => wp_ite (fun c2 => ?_) (fun c2 => wp_o ?_)) (fun c => wp_o ?_)
  · have hs := h.1.2.2.2.2.2.1.1 w (by omega)
    have hs2 : M 144 (36028 + w) = S 2 w := hs.2.2
    have hv2 := (h.1.2.1.1 w (by omega)).2.2
    rw [hs.1, hs2]
    unfold f99_94
    have next : ¬ (S 0 w = 0 ∧ 0 < S 2 w) → cutW S (w + 1) = cutW S w := fun z => by
      rw [cutW, if_neg (fun q => z q.2)]
    refine wp_gd (by omega) (wp_gd (by omega) (wp_ite (fun c3 => wp_gd (by omega) (wp_gd (by omega) (wp_ite (fun c4 => ?_) (fun c4 => wp_gd (by omega) (wp_mlet (wp_gd (by omega) (wp_gd (by omega) (wp_i3 (m - 1) (by omega) ⟨w + 1, by omega, by omega, by omega, ?_, fun b hb => (ms_a hb).trans (a4 b hb), fun k hk => ?_⟩)))))))) (fun c3 => ?_)))
    · exact wp_gd (by omega) (wp_i3 (m - 1) (by omega) ⟨w + 1, by omega, by omega, by omega, by rw [next (by omega)], a4, by rw [next (by omega)]; exact a5⟩)
    · rw [cutW, if_pos ⟨by omega, c3, by omega⟩, List.length_append]
      rfl
    · rw [cutW, if_pos ⟨by omega, c3, by omega⟩, List.length_append] at hk
      rw [cutW, if_pos ⟨by omega, c3, by omega⟩, List.getD_eq_getElem?_getD]
      have : ([w] : List Nat).length = 1 := rfl
      by_cases e : k = (cutW S w).length
      · rw [e, ms_v, List.getElem?_append_right (Nat.le_refl _), Nat.sub_self]
        rfl
      · rw [ms_i e, a5 k (by omega), List.getElem?_append_left (by omega), List.getD_eq_getElem?_getD]
    · exact wp_gd (by omega) (wp_i3 (m - 1) (by omega) ⟨w + 1, by omega, by omega, by omega, by rw [next (by omega)], a4, by rw [next (by omega)]; exact a5⟩)
  · have e := cutW_full (S := S) (n := w) (by omega) (nW N - w)
    rw [show w + (nW N - w) = nW N by omega] at e
    rw [← e] at a5 ⊢
    exact main M2 a4 a5
  · rw [show w = nW N by omega] at a5 ⊢
    exact main M2 a4 a5
theorem c43 {x1 x2 x3 : Int} (h : IV N S Ps l M) : Wp (f43 x1 x2 x3 M) (fun r => JJ r.1 (f99 x1 x2 x3 r.2)) := by
  have bad : ¬ ((0 ≤ x1 ∧ x1 ≤ 10000) ∧ (1 ≤ x2 ∧ x2 ≤ 30) ∧ (0 ≤ x3 ∧ x3 ≤ 1)) → Wp (some ((-1 : Int), M)) (fun r => JJ r.1 (f99 x1 x2 x3 r.2)) := fun z => by
    refine wp_some ?_
    show JJ (-1) (f99 x1 x2 x3 M)
    unfold f99
    refine wp_bind (w143 ?_)
    by_cases h1 : 0 ≤ x1 ∧ x1 ≤ 10000
    · rw [if_pos h1]
      refine wp_neg (by decide) (wp_bind (w127 ?_))
      by_cases h2 : 1 ≤ x2 ∧ x2 ≤ 30
      · rw [if_pos h2]
        refine wp_neg (by decide) (wp_bind (w143 ?_))
        rw [if_neg (fun h3 => z ⟨h1, h2, h3⟩)]
        exact wp_pos rfl (wp_some ⟨rfl, h.G⟩)
      · rw [if_neg h2]
        exact wp_pos rfl (wp_some ⟨rfl, h.G⟩)
    · rw [if_neg h1]
      exact wp_pos rfl (wp_some ⟨rfl, h.G⟩)
  unfold f43
  refine wp_bind (w80 ?_)
  by_cases h1 : 0 ≤ x1 ∧ x1 ≤ 10000
  · rw [if_pos h1]
    refine wp_neg (by decide) (wp_bind (w80 ?_))
    by_cases h2 : 1 ≤ x2 ∧ x2 ≤ 30
    · rw [if_pos h2]
      refine wp_neg (by decide) (wp_bind (w80 ?_))
      by_cases h3 : 0 ≤ x3 ∧ x3 ≤ 1
      · rw [if_pos h3]
        refine wp_neg (by decide) (wp_obnd ?_)
        have hnw := h.nw
        have h14 := h.1.1.w14
        have hS61 : S 6 1 ≤ 499 ∧ 0 ≤ S 6 1 := ⟨h.1.2.2.2.2.2.2.2.1.2, h.1.2.1.2.2.2.2.2.2.2.1⟩
        have cvb : ∀ j, drL N S ≤ cvN N S (kOf l) (M 3 3) x2.toNat j ∧ cvN N S (kOf l) (M 3 3) x2.toNat j ≤ 16000 := fun j => cvN_b h.1.1 h.1.2.1 (by omega)
        have drb := drL_b h.1.1 h.1.2.1
        have h8 := cutW_8 (S := S) (nW N)
        obtain ⟨t, d, ht⟩ := h.2.2.1
        have ht4 : t = 4 ∨ t = 135 := by have := ht.1; omega
        have fin : ∀ (v : Int) (M1 : Mm), fpP M M1 → (v = if x3 = 0 then setN (cutW S (nW N)) (bstN N S (kOf l) (M 3 3) x2.toNat x1 (2 ^ (cutW S (nW N)).length)) (cutW S (nW N)).length else cvN N S (kOf l) (M 3 3) x2.toNat (bstN N S (kOf l) (M 3 3) x2.toNat x1 (2 ^ (cutW S (nW N)).length))) → JJ v (f99 x1 x2 x3 M1) := fun v M1 f1 hv => by
          refine c43m (h.fp f1) h1 h2 h3 ?_
          rw [f1.1 3 (by unfold perB; omega)]
          exact hv
        generalize hbF : bstN N S (kOf l) (M 3 3) x2.toNat x1 = bF at fin
        have Bp : ∀ u : Nat, 0 < u → 0 ≤ bF u := fun u hu => by rw [← hbF]; exact bstN_p h1.1 u hu
        have Bb : ∀ u : Nat, bF u = -1 ∨ (0 ≤ bF u ∧ bF u < u) := fun u => by rw [← hbF]; exact bstN_b u
        have Bs : ∀ u : Nat, (cstN N (cutW S (nW N)) u (cutW S (nW N)).length ≤ x1 ∧ (bF u = -1 ∨ cvN N S (kOf l) (M 3 3) x2.toNat u < cvN N S (kOf l) (M 3 3) x2.toNat (bF u) ∨ (cvN N S (kOf l) (M 3 3) x2.toNat u = cvN N S (kOf l) (M 3 3) x2.toNat (bF u) ∧ cstN N (cutW S (nW N)) u (cutW S (nW N)).length < cstN N (cutW S (nW N)) (bF u) (cutW S (nW N)).length)) → bF (u + 1) = u) ∧
            (¬ (cstN N (cutW S (nW N)) u (cutW S (nW N)).length ≤ x1 ∧ (bF u = -1 ∨ cvN N S (kOf l) (M 3 3) x2.toNat u < cvN N S (kOf l) (M 3 3) x2.toNat (bF u) ∨ (cvN N S (kOf l) (M 3 3) x2.toNat u = cvN N S (kOf l) (M 3 3) x2.toNat (bF u) ∧ cstN N (cutW S (nW N)) u (cutW S (nW N)).length < cstN N (cutW S (nW N)) (bF u) (cutW S (nW N)).length))) → bF (u + 1) = bF u) := fun u => by
          rw [← hbF]
          exact ⟨fun e => by rw [bstN, if_pos e], fun e => by rw [bstN, if_neg e]⟩
        have B0 : bF 0 = -1 := by rw [← hbF]; rfl
        clear hbF
        have pp := Nat.two_pow_pos (cutW S (nW N)).length
        have pl8 : (2 ^ (cutW S (nW N)).length : Nat) ≤ 2 ^ 8 := Nat.pow_le_pow_right (by decide) h8
        have p8' : (2 ^ 8 : Nat) = 256 := by decide
        unfold f34
        refine wp_obnd (wpW (w47 h) (fun r2 hr2 => ?_))
        obtain ⟨v1, M1⟩ := r2
        obtain ⟨o1, o2, o3⟩ := hr2
        dsimp only at o1 o2 o3 ⊢
        rw [o1]
        refine wp_bind (w244d h.1.1 h.1.2.1 (h.1.2.2.2.2.1.to (fun b q1 q2 => o2 b (by omega))) ?_)
        unfold f34_34
        let I : Nat → Int → Int → Int → Int → Mm → Prop := fun n z ld cs u M2 => ∃ j : Nat, u = j ∧ j ≤ 2 ^ (cutW S (nW N)).length ∧ n = 2 ^ (cutW S (nW N)).length - j ∧ (∀ b, b ≠ 134 → (b < 73 ∨ 97 < b) → b ≠ t + 6 → M2 b = M b) ∧ (∀ k, k < (cutW S (nW N)).length → M2 134 k = (cutW S (nW N)).getD k 0) ∧ ((bF j = -1 ∧ ld = -1) ∨ (0 ≤ bF j ∧ z = bF j ∧ cs = cstN N (cutW S (nW N)) (bF j) (cutW S (nW N)).length ∧ ld = cvN N S (kOf l) (M 3 3) x2.toNat (bF j)))
        refine wp_lp5 I (2 ^ (cutW S (nW N)).length) (by omega) ⟨0, rfl, by omega, rfl, fun b q1 q2 q3 => o2 b q1, o3, Or.inl ⟨B0, rfl⟩⟩ ?_
        rintro n z ld cs u M2 ⟨j, rfl, b1, b2, b3, b4, b5⟩
        dsimp only
        unfold lb34_34
        rw [bL (by omega) (by omega), Int.toNat_natCast]
        have f2 : fpP M M2 := fpP.of (fun b hb => b3 b (by unfold perB at hb; omega) (by unfold perB at hb; omega) (by unfold perB at hb; omega))
        refine wp_ite (fun c => ?_) (fun c => wp_o ?_)
        · have g2 := h.fp f2
          have bsj := Bs j
          have cvj := cvb j
          refine wp_bind (w41 (j := (j : Int)) h.1.1 (g2.1.2.2.1.2 19 (by decide) (by decide)) b4 (by omega) ?_)
          have skip : ∀ M3 : Mm, (∀ b, b ≠ 134 → (b < 73 ∨ 97 < b) → b ≠ t + 6 → M3 b = M b) → M3 134 = M2 134 → bF (j + 1) = bF j → Wp (f34_138 x1 x2 x3 (cutW S (nW N)).length (drL N S) z ld cs j M3) (Sum.elim (up5 I n) (fun r => Wp (some (r.1, r.2)) (fun r => JJ r.1 (f99 x1 x2 x3 r.2)))) := fun M3 f3 e3 eb => by
            unfold f34_138
            refine wp_gd (by omega) (wp_i5 (n - 1) (by omega) ⟨j + 1, by omega, by omega, by omega, f3, by rw [e3]; exact b4, by rw [eb]; exact b5⟩)
          have take : ∀ (M3 : Mm) (w : Int), (∀ b, b ≠ 134 → (b < 73 ∨ 97 < b) → b ≠ t + 6 → M3 b = M b) → M3 134 = M2 134 → bF (j + 1) = j → w = cvN N S (kOf l) (M 3 3) x2.toNat j → Wp (f34_126 x1 x2 x3 (cutW S (nW N)).length (drL N S) j (cstN N (cutW S (nW N)) j (cutW S (nW N)).length) w M3) (Sum.elim (up5 I n) (fun r => Wp (some (r.1, r.2)) (fun r => JJ r.1 (f99 x1 x2 x3 r.2)))) := fun M3 w f3 e3 eb ew => by
            unfold f34_126 f34_138
            refine wp_gd (by omega) (wp_i5 (n - 1) (by omega) ⟨j + 1, by omega, by omega, by omega, f3, by rw [e3]; exact b4, Or.inr ?_⟩)
            rw [eb]
            exact ⟨by omega, rfl, rfl, ew⟩
          have tryit : cstN N (cutW S (nW N)) j (cutW S (nW N)).length ≤ x1 → Wp (f34_80 x1 x2 x3 (cutW S (nW N)).length (drL N S) z ld cs j (cstN N (cutW S (nW N)) j (cutW S (nW N)).length) 0 M2) (Sum.elim (up5 I n) (fun r => Wp (some (r.1, r.2)) (fun r => JJ r.1 (f99 x1 x2 x3 r.2)))) := fun hc => by
            unfold f34_80
            refine wp_pos rfl (wp_obnd (wpW (w44 (j := (j : Int)) (k := x2) h ht b3 b4 (by omega) h2) (fun r2 hr2 => ?_)))
            obtain ⟨w, M3⟩ := r2
            obtain ⟨p1, p2, p3⟩ := hr2
            dsimp only at p1 p2 p3 ⊢
            refine wp_ite (fun c4 => take M3 w p2 p3 (bsj.1 ⟨hc, Or.inl (by rcases b5 with b5 | b5; exact b5.1; have := cvb (bF j); omega)⟩) p1) (fun c4 => ?_)
            rcases b5 with b5 | b5
            · exact absurd b5.2 c4
            · obtain ⟨y1, y2, y3, y4⟩ := b5
              refine wp_ite (fun c5 => take M3 w p2 p3 (bsj.1 ⟨hc, Or.inr (Or.inl (by omega))⟩) p1) (fun c5 => wp_ite (fun c6 => wp_ite (fun c7 => take M3 w p2 p3 (bsj.1 ⟨hc, Or.inr (Or.inr ⟨by omega, by omega⟩)⟩) p1) (fun c7 => skip M3 p2 p3 (bsj.2 (fun q => ?_)))) (fun c6 => skip M3 p2 p3 (bsj.2 (fun q => ?_))))
              · omega
              · omega
          have first : Wp (f34_71 x1 x2 x3 (cutW S (nW N)).length (drL N S) z ld cs j (cstN N (cutW S (nW N)) j (cutW S (nW N)).length) M2) (Sum.elim (up5 I n) (fun r => Wp (some (r.1, r.2)) (fun r => JJ r.1 (f99 x1 x2 x3 r.2)))) := by
            unfold f34_71
            exact wp_ite (fun c3 => skip M2 b3 rfl (bsj.2 (fun q => by omega))) (fun c3 => tryit (by omega))
          refine wp_ite (fun c2 => wp_ite (fun c3 => first) (fun c3 => wp_ite (fun c4 => skip M2 b3 rfl (bsj.2 (fun q => by omega))) (fun c4 => ?_))) (fun c2 => first)
          unfold f34_80
          refine wp_neg (by decide) (skip M2 b3 rfl (bsj.2 (fun q => ?_)))
          rcases b5 with b5 | b5
          · omega
          · omega
        · have ej : j = 2 ^ (cutW S (nW N)).length := by omega
          have y0 := Bp j (by omega)
          have yb := Bb j
          rcases b5 with b5 | ⟨y1, y2, y3, y4⟩
          · omega
          · rw [ej] at y2 y4 yb y0
            rw [y2]
            refine wp_ite (fun c3 => wp_bind (w79 (N := N) (S := S) b4 (by omega) (wp_some (wp_some (fin _ M2 f2 ?_))))) (fun c3 => wp_some (wp_some (fin _ M2 f2 ?_)))
            · rw [if_pos c3]
            · rw [if_neg c3]
              exact y4
      · rw [if_neg h3]
        exact wp_pos rfl (bad (fun z => h3 z.2.2))
    · rw [if_neg h2]
      exact wp_pos rfl (bad (fun z => h2 z.2.1))
  · rw [if_neg h1]
    exact wp_pos rfl (bad (fun z => h1 z.1))
end CUT2
