/-! Sums. -/
def sm (f : Nat → Int) : Nat → Int
  | 0 => 0
  | n + 1 => sm f n + f n
theorem sm_congr {f g : Nat → Int} : ∀ {n : Nat}, (∀ i, i < n → f i = g i) → sm f n = sm g n
  | 0, _ => rfl
  | n + 1, h => by
    show sm f n + f n = sm g n + g n
    rw [sm_congr (fun i hi => h i (by omega)), h n (by omega)]
theorem sm_add (f g : Nat → Int) : ∀ n : Nat, sm (fun i => f i + g i) n = sm f n + sm g n
  | 0 => rfl
  | n + 1 => by
    show sm _ n + _ = (sm f n + f n) + (sm g n + g n)
    rw [sm_add f g n]
    show sm f n + sm g n + (f n + g n) = _
    omega
theorem sm_mul (c : Int) (f : Nat → Int) : ∀ n : Nat, sm (fun i => c * f i) n = c * sm f n
  | 0 => (Int.mul_zero c).symm
  | n + 1 => by
    show sm _ n + _ = c * (sm f n + f n)
    rw [sm_mul c f n, Int.mul_add]
theorem sm_zero : ∀ {n : Nat} {f : Nat → Int}, (∀ i, i < n → f i = 0) → sm f n = 0
  | 0, _, _ => rfl
  | n + 1, f, h => by
    show sm f n + f n = 0
    rw [sm_zero (fun i hi => h i (by omega)), h n (by omega)]
    rfl
theorem sm_neg (f : Nat → Int) (n : Nat) : sm (fun i => - f i) n = - sm f n := by
  have := sm_mul (-1) f n
  rw [show (fun i => - f i) = fun i => -1 * f i from funext fun i => by omega, this]
  omega
theorem sm_swap (F : Nat → Nat → Int) (m : Nat) : ∀ n : Nat, sm (fun i => sm (F i) m) n = sm (fun j => sm (fun i => F i j) n) m
  | 0 => (sm_zero (fun i _ => rfl)).symm
  | n + 1 => by
    show sm (fun i => sm (F i) m) n + sm (F n) m = sm (fun j => sm (fun i => F i j) n + F n j) m
    rw [sm_swap F m n, sm_add]
theorem sm_tri (F : Nat → Nat → Int) : ∀ n : Nat, sm (fun j => sm (F j) n) (n + 1) = sm (fun j => sm (fun l => F j l + F l (j - 1)) j) (n + 1)
  | 0 => rfl
  | n + 1 => by
    have h := sm_tri F n
    have e1 : sm (fun j => sm (F j) (n + 1)) (n + 2) = sm (fun j => sm (F j) n) (n + 1) + sm (fun j => F j n) (n + 1) + sm (F (n + 1)) (n + 1) := by
      show sm (fun j => sm (F j) n + F j n) (n + 1) + sm (F (n + 1)) (n + 1) = _
      rw [sm_add]
    have e2 : sm (fun j => sm (fun l => F j l + F l (j - 1)) j) (n + 2) = sm (fun j => sm (fun l => F j l + F l (j - 1)) j) (n + 1) + (sm (F (n + 1)) (n + 1) + sm (fun j => F j n) (n + 1)) := by
      show _ + sm (fun l => F (n + 1) l + F l (n + 1 - 1)) (n + 1) = _
      rw [sm_add]
      rfl
    rw [e1, e2, h]
    omega
/-! Determinants. -/
def skp (j i : Nat) : Nat := if i < j then i else i + 1
theorem skp_lt {j i n : Nat} (h : i < n) : skp j i < n + 1 := by unfold skp; split <;> omega
def sgn (n : Nat) : Int := if n % 2 = 0 then 1 else -1
theorem sgn_add (a b : Nat) : sgn (a + b) = sgn a * sgn b := by
  unfold sgn
  by_cases h : a % 2 = 0 <;> by_cases g : b % 2 = 0
  · rw [if_pos h, if_pos g, if_pos (by omega)]; rfl
  · rw [if_pos h, if_neg g, if_neg (by omega)]; rfl
  · rw [if_neg h, if_pos g, if_neg (by omega)]; rfl
  · rw [if_neg h, if_neg g, if_pos (by omega)]; rfl
theorem sgn_succ (a : Nat) : sgn (a + 1) = - sgn a := by rw [sgn_add]; show _ * (-1 : Int) = _; omega
theorem sgn_self (a : Nat) : sgn (a + a) = 1 := if_pos (by omega)
def det : Nat → (Nat → Nat → Int) → Int
  | 0, _ => 1
  | n + 1, A => sm (fun j => sgn (n + j) * A n j * det n (fun i c => A i (skp j c))) (n + 1)
theorem det_congr : ∀ {n : Nat} {A B : Nat → Nat → Int}, (∀ i j, i < n → j < n → A i j = B i j) → det n A = det n B
  | 0, _, _, _ => rfl
  | n + 1, A, B, h => by
    refine sm_congr (fun j hj => ?_)
    rw [h n j (by omega) hj, det_congr (fun i c hi hc => h i (skp j c) (by omega) (skp_lt hc))]
/-- a row put in the place of another -/
def rp (A : Nat → Nat → Int) (r : Nat) (u : Nat → Int) : Nat → Nat → Int := fun i j => if i = r then u j else A i j
theorem rp_at {A : Nat → Nat → Int} {r : Nat} {u : Nat → Int} : rp A r u r = u := funext fun _ => if_pos rfl
theorem rp_ne {A : Nat → Nat → Int} {r i : Nat} {u : Nat → Int} (h : i ≠ r) : rp A r u i = A i := funext fun _ => if_neg h
theorem det_last {n : Nat} {A : Nat → Nat → Int} (u : Nat → Int) : det (n + 1) (rp A n u) = sm (fun j => sgn (n + j) * u j * det n (fun i c => A i (skp j c))) (n + 1) := by
  refine sm_congr (fun j hj => ?_)
  rw [rp_at, det_congr (B := fun i c => A i (skp j c)) (fun i c hi hc => by rw [rp_ne (by omega)])]
theorem det_lin {n : Nat} {A : Nat → Nat → Int} (s t : Int) (u v : Nat → Int) : det (n + 1) (rp A n (fun j => s * u j + t * v j)) = s * det (n + 1) (rp A n u) + t * det (n + 1) (rp A n v) := by
  rw [det_last, det_last, det_last, ← sm_mul, ← sm_mul, ← sm_add]
  refine sm_congr (fun j hj => ?_)
  simp only [Int.mul_add, Int.add_mul, Int.mul_assoc, Int.mul_left_comm]
def sw (n : Nat) (A : Nat → Nat → Int) : Nat → Nat → Int := fun i j => if i = n then A (n + 1) j else if i = n + 1 then A n j else A i j
theorem det_two {n : Nat} (A : Nat → Nat → Int) : det (n + 2) A = sm (fun j => sm (fun l => sgn (n + 1 + j) * sgn (n + l) * (A (n + 1) j * A n l - A (n + 1) l * A n j) * det n (fun i c => A i (skp j (skp l c)))) j) (n + 2) := by
  have e1 : det (n + 2) A = sm (fun j => sm (fun l => sgn (n + 1 + j) * A (n + 1) j * (sgn (n + l) * A n (skp j l) * det n (fun i c => A i (skp j (skp l c))))) (n + 1)) (n + 2) := by
    refine sm_congr (fun j hj => ?_)
    rw [sm_mul]
    rfl
  rw [e1, sm_tri]
  refine sm_congr (fun j hj => ?_)
  refine sm_congr (fun l hl => ?_)
  have h1 : skp j l = l := if_pos hl
  have h2 : skp l (j - 1) = j := by unfold skp; rw [if_neg (by omega)]; omega
  have h3 : (fun (i c : Nat) => A i (skp l (skp (j - 1) c))) = fun i c => A i (skp j (skp l c)) := by
    funext i c
    congr 1
    unfold skp
    repeat' split
    all_goals omega
  have h4 : sgn (n + 1 + l) * sgn (n + (j - 1)) = - (sgn (n + 1 + j) * sgn (n + l)) := by
    rw [← sgn_add, ← sgn_add, show n + 1 + j + (n + l) = n + 1 + l + (n + (j - 1)) + 1 by omega, sgn_succ, Int.neg_neg]
  show sgn (n + 1 + j) * A (n + 1) j * (sgn (n + l) * A n (skp j l) * det n (fun i c => A i (skp j (skp l c)))) + sgn (n + 1 + l) * A (n + 1) l * (sgn (n + (j - 1)) * A n (skp l (j - 1)) * det n (fun i c => A i (skp l (skp (j - 1) c)))) = _
  rw [h1, h2, h3]
  have e5 : sgn (n + 1 + l) * A (n + 1) l * (sgn (n + (j - 1)) * A n j * det n (fun i c => A i (skp j (skp l c)))) = (sgn (n + 1 + l) * sgn (n + (j - 1))) * (A (n + 1) l * A n j * det n (fun i c => A i (skp j (skp l c)))) := by
    simp only [Int.mul_assoc, Int.mul_left_comm, Int.mul_comm]
  rw [e5, h4]
  simp only [Int.mul_sub, Int.sub_mul, Int.neg_mul, Int.mul_neg, Int.mul_assoc, Int.mul_left_comm, Int.mul_comm]
  omega
theorem det_sw {n : Nat} (A : Nat → Nat → Int) : det (n + 2) (sw n A) = - det (n + 2) A := by
  rw [det_two, det_two, ← sm_neg]
  refine sm_congr (fun j hj => ?_)
  rw [← sm_neg]
  refine sm_congr (fun l hl => ?_)
  have h1 : sw n A (n + 1) = A n := by
    funext j
    unfold sw
    rw [if_neg (by omega), if_pos rfl]
  have h2 : sw n A n = A (n + 1) := funext fun j => if_pos rfl
  rw [h1, h2, det_congr (B := fun i c => A i (skp j (skp l c))) (fun i c hi hc => by unfold sw; rw [if_neg (by omega), if_neg (by omega)])]
  rw [← Int.neg_mul, ← Int.mul_neg]
  congr 2
  rw [Int.mul_comm (A n j), Int.mul_comm (A n l)]
  omega
theorem det_same : ∀ {n k : Nat} {A : Nat → Nat → Int}, k < n → (∀ j, j ≤ n → A k j = A n j) → det (n + 1) A = 0
  | 0, k, A, hk, _ => by omega
  | n + 1, k, A, hk, h => by
    by_cases e : k = n
    · subst e
      have h1 := det_sw (n := k) A
      have h2 : det (k + 2) (sw k A) = det (k + 2) A := by
        refine det_congr (fun i j hi hj => ?_)
        unfold sw
        split
        · rename_i q
          rw [q, h j (by omega)]
        · split
          · rename_i q q2
            rw [q2, h j (by omega)]
          · rfl
      show det (k + 2) A = 0
      omega
    · have h1 := det_sw (n := n) A
      have h2 : det (n + 2) (sw n A) = 0 := by
        refine sm_zero (fun j hj => ?_)
        rw [det_same (n := n) (k := k) (by omega) (fun c hc => ?_), Int.mul_zero]
        show sw n A k (skp j c) = sw n A n (skp j c)
        unfold sw
        rw [if_neg e, if_neg (by omega), if_pos rfl]
        exact h _ (by have := skp_lt (j := j) (i := c) (n := n + 1) (by omega); omega)
      show det (n + 2) A = 0
      omega
/-- a last row may take any multiples of the rows before it -/
theorem det_comb {n : Nat} {A : Nat → Nat → Int} (s : Int) (r : Nat → Int) (c : Nat → Int) : ∀ m : Nat, m ≤ n → det (n + 1) (rp A n (fun j => s * r j - sm (fun k => c k * A k j) m)) = s * det (n + 1) (rp A n r)
  | 0, _ => by
    have := det_lin (n := n) (A := A) s 0 r r
    rw [show (fun j => s * r j - sm (fun k => c k * A k j) 0) = fun j => s * r j + 0 * r j from funext fun j => by show s * r j - 0 = _; omega, this]
    omega
  | m + 1, h => by
    have h1 := det_comb (n := n) (A := A) s r c m (by omega)
    have h2 := det_lin (n := n) (A := A) 1 (- c m) (fun j => s * r j - sm (fun k => c k * A k j) m) (A m)
    have h3 : det (n + 1) (rp A n (A m)) = 0 := det_same (k := m) (by omega) (fun j hj => by rw [rp_at, rp_ne (by omega)])
    rw [show (fun j => s * r j - sm (fun k => c k * A k j) (m + 1)) = fun j => 1 * (s * r j - sm (fun k => c k * A k j) m) + - c m * A m j from funext fun j => by show s * r j - (_ + c m * A m j) = _; rw [Int.neg_mul]; omega, h2, h3, h1]
    omega

/-! Bordered minors: Sylvester's identity. -/
def bmA (A : Nat → Nat → Int) (p i j : Nat) : Nat → Nat → Int := fun r c => A (if r < p then r else i) (if c < p then c else j)
def bm (A : Nat → Nat → Int) (p i j : Nat) : Int := det (p + 1) (bmA A p i j)
theorem bm_zero (A : Nat → Nat → Int) (i j : Nat) : bm A 0 i j = A i j := by
  show 0 + 1 * A i j * 1 = A i j
  omega
theorem bm_diag (A : Nat → Nat → Int) (p : Nat) : bm A p p p = det (p + 1) A := det_congr (fun i j hi hj => by
  unfold bmA
  rw [show (if i < p then i else p) = i by split <;> omega, show (if j < p then j else p) = j by split <;> omega])
def bmP (A : Nat → Nat → Int) (p : Nat) : Prop := ∀ i, (∀ j, j < p → bm A p i j = 0) ∧ ∃ s : Int, s ≠ 0 ∧ ∃ c : Nat → Int, ∀ j, s * bm A p i j = s * det p A * A i j - sm (fun k => c k * A k j) p
theorem mul_ne0 {a b : Int} (ha : a ≠ 0) (hb : b ≠ 0) : a * b ≠ 0 := fun h => by
  rcases Int.mul_eq_zero.mp h with h | h
  · exact ha h
  · exact hb h
theorem syl_of {A : Nat → Nat → Int} {p : Nat} (hD : det p A ≠ 0) (hP : bmP A p) (i j : Nat) : det p A * bm A (p + 1) i j = det (p + 1) A * bm A p i j - bm A p i p * bm A p p j := by
  obtain ⟨zi, si, hsi, ci, hi⟩ := hP i
  obtain ⟨zp, sp, hsp, cp, hp⟩ := hP p
  let q : Nat → Nat := fun c => if c < p + 1 then c else j
  let B := bmA A (p + 1) i j
  have hB : ∀ k, k < p → ∀ c, B k c = A k (q c) := fun k hk c => by
    show A (if k < p + 1 then k else i) _ = _
    rw [if_pos (by omega)]
  have e1 : det (p + 2) (rp B (p + 1) (fun c => si * bm A p i (q c))) = si * det p A * det (p + 2) B := by
    have h := det_comb (n := p + 1) (A := B) (si * det p A) (fun c => A i (q c)) ci p (by omega)
    have h2 : (fun c => si * det p A * A i (q c) - sm (fun k => ci k * B k c) p) = fun c => si * bm A p i (q c) := by
      funext c
      rw [hi (q c), sm_congr (g := fun k => ci k * A k (q c)) (fun k hk => by rw [hB k hk c])]
    rw [h2] at h
    rw [h]
    congr 1
    refine det_congr (fun r c hr hc => ?_)
    by_cases e : r = p + 1
    · subst e
      rw [rp_at]
      show _ = A (if p + 1 < p + 1 then _ else i) _
      rw [if_neg (by omega)]
    · rw [rp_ne e]
  have e2 := det_sw (n := p) (rp B (p + 1) (fun c => si * bm A p i (q c)))
  let B2 := sw p (rp B (p + 1) (fun c => si * bm A p i (q c)))
  have hB2 : ∀ k, k < p → ∀ c, B2 k c = A k (q c) := fun k hk c => by
    show sw p _ k c = _
    unfold sw
    rw [if_neg (by omega), if_neg (by omega), rp_ne (by omega)]
    exact hB k hk c
  have e3 : det (p + 2) (rp B2 (p + 1) (fun c => sp * bm A p p (q c))) = sp * det p A * det (p + 2) B2 := by
    have h := det_comb (n := p + 1) (A := B2) (sp * det p A) (fun c => A p (q c)) cp p (by omega)
    have h2 : (fun c => sp * det p A * A p (q c) - sm (fun k => cp k * B2 k c) p) = fun c => sp * bm A p p (q c) := by
      funext c
      rw [hp (q c), sm_congr (g := fun k => cp k * A k (q c)) (fun k hk => by rw [hB2 k hk c])]
    rw [h2] at h
    rw [h]
    congr 1
    refine det_congr (fun r c hr hc => ?_)
    by_cases e : r = p + 1
    · subst e
      rw [rp_at]
      show _ = sw p _ (p + 1) c
      unfold sw
      rw [if_neg (by omega), if_pos rfl, rp_ne (by omega)]
      show _ = A (if p < p + 1 then p else i) _
      rw [if_pos (by omega)]
    · rw [rp_ne e]
  have r0 : rp B2 (p + 1) (fun c => sp * bm A p p (q c)) (p + 1) = fun c => sp * bm A p p (q c) := rp_at
  have r1 : rp B2 (p + 1) (fun c => sp * bm A p p (q c)) p = fun c => si * bm A p i (q c) := by
    rw [rp_ne (by omega)]
    show sw p _ p = _
    funext c
    unfold sw
    rw [if_pos rfl, rp_at]
  have e4 : det (p + 2) (rp B2 (p + 1) (fun c => sp * bm A p p (q c))) = (sp * bm A p p j * (si * bm A p i p) - sp * bm A p p p * (si * bm A p i j)) * det p A := by
    rw [det_two, r0, r1]
    have qp : q p = p := if_pos (by omega)
    have qj : q (p + 1) = j := if_neg (by omega)
    have ql : ∀ l, l < p → q l = l := fun l hl => if_pos (by omega)
    show sm _ (p + 1) + sm _ (p + 1) = _
    rw [sm_zero (n := p + 1) (fun x hx => ?_)]
    · show 0 + (sm _ p + _) = _
      rw [sm_zero (n := p) (fun l hl => ?_)]
      · show 0 + (0 + sgn (p + 1 + (p + 1)) * sgn (p + p) * (sp * bm A p p (q (p + 1)) * (si * bm A p i (q p)) - sp * bm A p p (q p) * (si * bm A p i (q (p + 1)))) * _) = _
        rw [sgn_self, sgn_self, qp, qj, Int.zero_add, Int.zero_add, Int.one_mul, Int.one_mul]
        congr 1
        refine det_congr (fun r c hr hc => ?_)
        have ec : skp (p + 1) (skp p c) = c := by
          unfold skp
          rw [if_pos hc, if_pos (by omega)]
        rw [ec, rp_ne (by omega), hB2 r hr c, ql c hc]
      · dsimp only
        rw [ql l hl, zi l hl, zp l hl]
        simp only [Int.mul_zero, Int.zero_mul, Int.sub_zero]
    · refine sm_zero (fun l hl => ?_)
      dsimp only
      rw [ql l (by omega), zi l (by omega), zp l (by omega)]
      simp only [Int.mul_zero, Int.zero_mul, Int.sub_zero]
  have e5 : det (p + 2) B2 = -(si * det p A * det (p + 2) B) := by
    rw [← e1]
    exact e2
  rw [e3, e5, bm_diag] at e4
  have hc : sp * si * det p A ≠ 0 := mul_ne0 (mul_ne0 hsp hsi) hD
  refine Int.eq_of_mul_eq_mul_left hc ?_
  show sp * si * det p A * (det p A * det (p + 2) B) = _
  have e6 := congrArg (fun x => - x) e4
  have l1 : -(sp * det p A * -(si * det p A * det (p + 2) B)) = sp * si * det p A * (det p A * det (p + 2) B) := by
    simp only [Int.mul_neg, Int.neg_neg, Int.mul_assoc, Int.mul_left_comm, Int.mul_comm]
  have l2 : -((sp * bm A p p j * (si * bm A p i p) - sp * det (p + 1) A * (si * bm A p i j)) * det p A) = sp * si * det p A * (det (p + 1) A * bm A p i j - bm A p i p * bm A p p j) := by
    simp only [Int.mul_sub, Int.sub_mul, Int.mul_assoc, Int.mul_left_comm, Int.mul_comm]
    omega
  rw [← l1, ← l2]
  exact e6
theorem bmP_zero (A : Nat → Nat → Int) : bmP A 0 := fun i => ⟨fun j hj => by omega, 1, by decide, fun _ => 0, fun j => by
  rw [bm_zero]
  show 1 * A i j = 1 * 1 * A i j - 0
  omega⟩
theorem bmP_succ {A : Nat → Nat → Int} {p : Nat} (hD : det p A ≠ 0) (hP : bmP A p) : bmP A (p + 1) := fun i => by
  have hs := syl_of hD hP i
  obtain ⟨zi, si, hsi, ci, hi⟩ := hP i
  obtain ⟨zp, sp, hsp, cp, hp⟩ := hP p
  refine ⟨fun j hj => ?_, si * sp * det p A, mul_ne0 (mul_ne0 hsi hsp) hD, fun k => if k = p then bm A p i p * si * (sp * det p A) else det (p + 1) A * sp * ci k - bm A p i p * si * cp k, fun j => ?_⟩
  · have h := hs j
    have h2 : det p A * bm A (p + 1) i j = det p A * 0 := by
      rw [h, Int.mul_zero]
      by_cases e : j = p
      · subst e
        rw [bm_diag, Int.mul_comm]
        omega
      · rw [zi j (by omega), zp j (by omega)]
        simp only [Int.mul_zero, Int.sub_zero]
    exact Int.eq_of_mul_eq_mul_left hD h2
  · have h := hs j
    show _ = _ - (sm _ p + (if p = p then _ else _) * A p j)
    rw [if_pos rfl]
    rw [sm_congr (n := p) (g := fun k => det (p + 1) A * sp * (ci k * A k j) + - (bm A p i p * si) * (cp k * A k j)) (fun k hk => by
      dsimp only
      rw [if_neg (by omega), Int.sub_mul]
      simp only [Int.neg_mul, Int.mul_assoc]
      omega), sm_add, sm_mul, sm_mul]
    have a1 : sm (fun k => ci k * A k j) p = si * det p A * A i j - si * bm A p i j := by have := hi j; omega
    have a2 : sm (fun k => cp k * A k j) p = sp * det p A * A p j - sp * bm A p p j := by have := hp j; omega
    rw [a1, a2]
    have h3 : si * sp * det p A * bm A (p + 1) i j = si * sp * (det p A * bm A (p + 1) i j) := by rw [Int.mul_assoc]
    rw [h3, h]
    simp only [Int.mul_sub, Int.sub_mul, Int.neg_mul, Int.mul_neg, Int.mul_assoc, Int.mul_left_comm, Int.mul_comm]
    omega
theorem bmP_all {A : Nat → Nat → Int} : ∀ {p : Nat}, (∀ q, q < p → det q A ≠ 0) → bmP A p
  | 0, _ => bmP_zero A
  | p + 1, h => bmP_succ (h p (by omega)) (bmP_all (fun q hq => h q (by omega)))
/-- Sylvester's identity for bordered minors -/
theorem syl {A : Nat → Nat → Int} {p : Nat} (h : ∀ q, q ≤ p → det q A ≠ 0) (i j : Nat) : det p A * bm A (p + 1) i j = det (p + 1) A * bm A p i j - bm A p i p * bm A p p j :=
  syl_of (h p (by omega)) (bmP_all (fun q hq => h q (by omega))) i j
theorem bm_low {A : Nat → Nat → Int} {p : Nat} (h : ∀ q, q < p → det q A ≠ 0) (i j : Nat) (hj : j < p) : bm A p i j = 0 := ((bmP_all h) i).1 j hj

/-! Elimination without fractions. -/
def exM (A : Nat → Nat → Int) : Nat → Nat → Int := fun i j => if i < 16 then A i j else if j = i - 16 then -1 else 0
def gjS (D : Int) (p : Nat) (R : Nat → Nat → Int) : Nat → Nat → Int := fun i j => if i = p then R i j else Int.tdiv (R p p * R i j - R i p * R p j) D
/-- what stands after p steps -/
def gjI (A : Nat → Nat → Int) (p : Nat) : Nat → Nat → Int := fun i j => if j < p then (if i = j then det p A else 0) else bm (exM A) p (if i < p then 16 + i else i) j
theorem det_exM {A : Nat → Nat → Int} {p : Nat} (hp : p ≤ 16) : det p (exM A) = det p A := det_congr (fun i j hi hj => if_pos (by omega))
theorem gjI_zero {A : Nat → Nat → Int} {i j : Nat} (hi : i < 16) : gjI A 0 i j = A i j := by
  unfold gjI
  rw [if_neg (by omega), if_neg (by omega), bm_zero]
  exact if_pos hi
theorem bm_unit {A : Nat → Nat → Int} {p j : Nat} (hp : p < 16) (hj : p ≤ j) : bm (exM A) p (16 + p) j = if j = p then - det p A else 0 := by
  show sm _ (p + 1) = _
  show sm _ p + _ = _
  rw [sm_zero (fun c hc => ?_)]
  · show 0 + sgn (p + p) * (exM A (if p < p then p else 16 + p) (if p < p then p else j)) * det p (fun i c => bmA (exM A) p (16 + p) j i (skp p c)) = _
    rw [sgn_self, if_neg (by omega), if_neg (by omega)]
    have e : det p (fun i c => bmA (exM A) p (16 + p) j i (skp p c)) = det p A := by
      rw [← det_exM (A := A) (p := p) (by omega)]
      refine det_congr (fun i c hi hc => ?_)
      show exM A (if i < p then i else 16 + p) (if skp p c < p then skp p c else j) = _
      rw [if_pos hi, show skp p c = c from if_pos hc, if_pos hc]
    rw [e]
    have e2 : exM A (16 + p) j = if j = p then -1 else 0 := by
      unfold exM
      rw [if_neg (by omega), show 16 + p - 16 = p by omega]
    rw [e2]
    split <;> omega
  · show sgn (p + c) * (exM A (if p < p then p else 16 + p) (if c < p then c else j)) * _ = 0
    rw [if_neg (by omega), if_pos hc]
    have e2 : exM A (16 + p) c = 0 := by
      unfold exM
      rw [if_neg (by omega), if_neg (by omega)]
    rw [e2, Int.mul_zero, Int.zero_mul]
theorem gjI_piv {A : Nat → Nat → Int} {p : Nat} (hp : p < 16) : gjI A p p p = det (p + 1) A := by
  unfold gjI
  rw [if_neg (by omega), if_neg (by omega), bm_diag, det_exM (by omega)]
/-- a step divides exactly -/
theorem gjI_step {A : Nat → Nat → Int} {p : Nat} (hp : p < 16) (hD : ∀ q, q ≤ p → det q A ≠ 0) {i j : Nat} (hi : i < 16) (hip : i ≠ p) : det p A * gjI A (p + 1) i j = gjI A p p p * gjI A p i j - gjI A p i p * gjI A p p j := by
  have hD2 : ∀ q, q ≤ p → det q (exM A) ≠ 0 := fun q hq => by rw [det_exM (by omega)]; exact hD q hq
  rw [gjI_piv hp]
  by_cases h1 : j < p
  · have e1 : gjI A p p j = 0 := by
      unfold gjI
      rw [if_pos h1, if_neg (by omega)]
    rw [e1, Int.mul_zero, Int.sub_zero]
    unfold gjI
    rw [if_pos (by omega), if_pos h1]
    split
    · exact Int.mul_comm _ _
    · rw [Int.mul_zero, Int.mul_zero]
  · by_cases h2 : j = p
    · subst h2
      have e1 : gjI A (j + 1) i j = 0 := by
        unfold gjI
        rw [if_pos (by omega), if_neg hip]
      rw [e1, gjI_piv hp, Int.mul_comm (det (j + 1) A)]
      omega
    · have e1 : gjI A (p + 1) i j = bm (exM A) (p + 1) (if i < p then 16 + i else i) j := by
        unfold gjI
        rw [if_neg (by omega)]
        congr 1
        split <;> split <;> omega
      have e2 : gjI A p i j = bm (exM A) p (if i < p then 16 + i else i) j := if_neg h1
      have e3 : gjI A p i p = bm (exM A) p (if i < p then 16 + i else i) p := if_neg (by omega)
      have e4 : gjI A p p j = bm (exM A) p p j := by
        unfold gjI
        rw [if_neg h1, if_neg (by omega)]
      rw [e1, e2, e3, e4, ← det_exM (A := A) (p := p) (by omega), ← det_exM (A := A) (p := p + 1) (by omega)]
      exact syl hD2 _ _
theorem gjI_row {A : Nat → Nat → Int} {p : Nat} (hp : p < 16) (hD : ∀ q, q ≤ p → det q A ≠ 0) (j : Nat) : gjI A (p + 1) p j = gjI A p p j := by
  have hD2 : ∀ q, q ≤ p → det q (exM A) ≠ 0 := fun q hq => by rw [det_exM (by omega)]; exact hD q hq
  by_cases h1 : j < p
  · unfold gjI
    rw [if_pos (by omega), if_pos h1, if_neg (by omega), if_neg (by omega)]
  · by_cases h2 : j = p
    · subst h2
      rw [gjI_piv hp]
      unfold gjI
      rw [if_pos (by omega), if_pos rfl]
    · unfold gjI
      rw [if_neg (by omega), if_neg h1, if_pos (by omega), if_neg (by omega)]
      refine Int.eq_of_mul_eq_mul_left (hD2 p (by omega)) ?_
      rw [syl hD2, bm_unit hp (by omega), bm_unit hp (by omega), if_neg h2, if_pos rfl, det_exM (A := A) (p := p) (by omega)]
      rw [Int.mul_zero, Int.neg_mul]
      omega
theorem gjI_next {A : Nat → Nat → Int} {p : Nat} (hp : p < 16) (hD : ∀ q, q ≤ p → det q A ≠ 0) {i : Nat} (hi : i < 16) (j : Nat) : gjS (det p A) p (gjI A p) i j = gjI A (p + 1) i j := by
  unfold gjS
  by_cases h : i = p
  · rw [if_pos h, h]
    exact (gjI_row hp hD j).symm
  · rw [if_neg h, ← gjI_step hp hD hi h]
    exact Int.mul_tdiv_cancel_left _ (hD p (by omega))

/-! Matrices of nets: signs and sizes while eliminating. -/
theorem sg_le {a b : Int} (ha : 0 < a) (h : a * b ≤ 0) : b ≤ 0 := by
  rcases Int.lt_or_le 0 b with q | q
  · have := Int.mul_pos ha q
    omega
  · exact q
theorem sg_lt {a b : Int} (ha : 0 < a) (h : a * b < 0) : b < 0 := by
  rcases Int.lt_or_le b 0 with q | q
  · exact q
  · have := Int.mul_nonneg (Int.le_of_lt ha) q
    omega
theorem sg_ge {a b : Int} (ha : 0 < a) (h : 0 ≤ a * b) : 0 ≤ b := by
  have := sg_le ha (b := -b) (by rw [Int.mul_neg]; omega)
  omega
theorem sg_gt {a b : Int} (ha : 0 < a) (h : 0 < a * b) : 0 < b := by
  have := sg_lt ha (b := -b) (by rw [Int.mul_neg]; omega)
  omega
theorem sg_cmp {a b c : Int} (ha : 0 < a) (h : a * b ≤ a * c) : b ≤ c := by
  have := sg_le ha (b := b - c) (by rw [Int.mul_sub]; omega)
  omega
theorem mnp {a b : Int} (ha : a ≤ 0) (hb : 0 ≤ b) : a * b ≤ 0 := by
  have := Int.mul_nonneg (a := -a) (b := b) (by omega) hb
  rw [Int.neg_mul] at this
  omega
theorem mpn {a b : Int} (ha : 0 ≤ a) (hb : b ≤ 0) : a * b ≤ 0 := by
  rw [Int.mul_comm]
  exact mnp hb ha
theorem mnn {a b : Int} (ha : a ≤ 0) (hb : b ≤ 0) : 0 ≤ a * b := by
  have := Int.mul_nonneg (a := -a) (b := -b) (by omega) (by omega)
  rw [Int.neg_mul_neg] at this
  exact this
theorem mnn' {a b : Int} (ha : a < 0) (hb : b < 0) : 0 < a * b := by
  have := Int.mul_pos (a := -a) (b := -b) (by omega) (by omega)
  rw [Int.neg_mul_neg] at this
  exact this
theorem sm_mono {f g : Nat → Int} : ∀ {n : Nat}, (∀ i, i < n → f i ≤ g i) → sm f n ≤ sm g n
  | 0, _ => Int.le_refl 0
  | n + 1, h => by
    have h1 := sm_mono (f := f) (g := g) (fun i hi => h i (by omega) : ∀ i, i < n → f i ≤ g i)
    have h2 := h n (by omega)
    show sm f n + f n ≤ sm g n + g n
    omega
theorem sm_one (p : Nat) (x : Int) : ∀ n : Nat, sm (fun i => if i = p then x else 0) n = if p < n then x else 0
  | 0 => rfl
  | n + 1 => by
    show sm _ n + (if n = p then x else 0) = _
    rw [sm_one p x n]
    by_cases h : n = p
    · rw [if_pos h, if_neg (by omega), if_pos (by omega)]
      omega
    · rw [if_neg h]
      by_cases g : p < n
      · rw [if_pos g, if_pos (by omega)]
        omega
      · rw [if_neg g, if_neg (by omega)]
        omega
theorem sm_le1 {f : Nat → Int} {n p : Nat} (hp : p < n) (h : ∀ i, i < n → i ≠ p → f i ≤ 0) : sm f n ≤ f p := by
  have h1 := sm_mono (f := f) (g := fun i => if i = p then f p else 0) (n := n) (fun i hi => by
    split
    · rename_i e
      rw [e]
      exact Int.le_refl _
    · rename_i e
      exact h i hi e)
  rw [sm_one, if_pos hp] at h1
  exact h1
theorem sm_le2 {f : Nat → Int} {n p q : Nat} (hp : p < n) (hq : q < n) (hpq : p ≠ q) (h : ∀ i, i < n → i ≠ p → f i ≤ 0) : sm f n ≤ f p + f q := by
  have h1 := sm_mono (f := f) (g := fun i => (if i = p then f p else 0) + (if i = q then f q else 0)) (n := n) (fun i hi => by
    by_cases e : i = p
    · subst e
      rw [if_pos rfl, if_neg hpq]
      omega
    · rw [if_neg e]
      by_cases e2 : i = q
      · subst e2
        rw [if_pos rfl]
        omega
      · rw [if_neg e2]
        have := h i hi e
        omega)
  rw [sm_add, sm_one, sm_one, if_pos hp, if_pos hq] at h1
  exact h1
/-- the matrix of a net: like ways both ways, nothing but ways off the middle, and all hangs together with what lies outside -/
def ntM (A : Nat → Nat → Int) (n : Nat) : Prop := (∀ i j, i < n → j < n → A i j = A j i) ∧ (∀ i j, i < n → j < n → i ≠ j → A i j ≤ 0) ∧ (∀ i, i < n → 0 ≤ sm (A i) n) ∧
  (∀ T : Nat → Prop, (∃ i, i < n ∧ T i) → ∃ i, i < n ∧ T i ∧ (0 < sm (A i) n ∨ ∃ j, j < n ∧ ¬ T j ∧ A i j < 0))
def mmP (A : Nat → Nat → Int) (n p : Nat) : Prop := (∀ q, q ≤ p → 0 < det q A) ∧ (∀ i j, p ≤ i → i < n → p ≤ j → j < n → gjI A p i j = gjI A p j i) ∧ (∀ i j, i < n → p ≤ j → j < n → i ≠ j → gjI A p i j ≤ 0) ∧ (∀ i, i < n → 0 ≤ sm (gjI A p i) n) ∧
  (∀ T : Nat → Prop, (∃ i, p ≤ i ∧ i < n ∧ T i) → ∃ i, p ≤ i ∧ i < n ∧ T i ∧ (0 < sm (gjI A p i) n ∨ ∃ j, p ≤ j ∧ j < n ∧ ¬ T j ∧ gjI A p i j < 0)) ∧ (∀ i, p ≤ i → i < n → gjI A p i i ≤ det p A * A i i)
theorem gjI_lo {A : Nat → Nat → Int} {p i j : Nat} (hj : j < p) (h : i ≠ j) : gjI A p i j = 0 := by
  unfold gjI
  rw [if_pos hj, if_neg h]
theorem gjI_dg {A : Nat → Nat → Int} {p i : Nat} (hj : i < p) : gjI A p i i = det p A := by
  unfold gjI
  rw [if_pos hj, if_pos rfl]
theorem mm_zero {A : Nat → Nat → Int} {n : Nat} (hn : n ≤ 16) (h : ntM A n) : mmP A n 0 := by
  obtain ⟨h1, h2, h3, h4⟩ := h
  have e : ∀ i j, i < n → gjI A 0 i j = A i j := fun i j hi => gjI_zero (by omega)
  have es : ∀ i, i < n → sm (gjI A 0 i) n = sm (A i) n := fun i hi => sm_congr (fun j hj => e i j hi)
  refine ⟨fun q hq => ?_, fun i j _ hi _ hj => ?_, fun i j hi _ hj hij => ?_, fun i hi => ?_, fun T hT => ?_, fun i _ hi => ?_⟩
  · have : q = 0 := by omega
    subst this
    show (0 : Int) < 1
    decide
  · rw [e i j hi, e j i hj]
    exact h1 i j hi hj
  · rw [e i j hi]
    exact h2 i j hi hj hij
  · rw [es i hi]
    exact h3 i hi
  · obtain ⟨i, _, hi, ht⟩ := hT
    obtain ⟨i, hi, ht, hh⟩ := h4 T ⟨i, hi, ht⟩
    refine ⟨i, by omega, hi, ht, ?_⟩
    rw [es i hi]
    rcases hh with hh | ⟨j, hj, ht2, hh⟩
    · exact Or.inl hh
    · exact Or.inr ⟨j, by omega, hj, ht2, by rw [e i j hi]; exact hh⟩
  · rw [e i i hi]
    show _ ≤ 1 * A i i
    omega
section MM
variable {A : Nat → Nat → Int} {n p : Nat}
theorem mm_row (h : mmP A n p) {i j : Nat} (hi : i < n) (hj : j < n) (hij : i ≠ j) : - gjI A p i j ≤ gjI A p i i := by
  have h1 := h.2.2.2.1 i hi
  have h2 := sm_le2 (f := gjI A p i) hi hj hij (fun c hc hci => by
    by_cases q : p ≤ c
    · exact h.2.2.1 i c hi q hc (fun e => hci e.symm)
    · rw [gjI_lo (by omega) (fun e => hci e.symm)]
      exact Int.le_refl 0)
  omega
theorem mm_piv (h : mmP A n p) (hp : p < n) : 0 < gjI A p p p := by
  have h1 := h.2.2.2.1 p hp
  obtain ⟨i, hi1, hi2, ht, hh⟩ := h.2.2.2.2.1 (fun i => i = p) ⟨p, by omega, hp, rfl⟩
  subst ht
  have hle : ∀ c, c < n → c ≠ i → gjI A i i c ≤ 0 := fun c hc hci => by
    by_cases q : i ≤ c
    · exact h.2.2.1 i c hp q hc (fun e => hci e.symm)
    · rw [gjI_lo (by omega) (fun e => hci e.symm)]
      exact Int.le_refl 0
  rcases hh with hh | ⟨j, hj1, hj2, hne, hh⟩
  · have := sm_le1 (f := gjI A i i) hp hle
    omega
  · have := sm_le2 (f := gjI A i i) hp hj2 (fun e => hne e.symm) hle
    omega
theorem mm_succ (hn : n ≤ 16) (h : mmP A n p) (hp : p < n) : mmP A n (p + 1) := by
  have hpiv := mm_piv h hp
  have hD : ∀ q, q ≤ p → det q A ≠ 0 := fun q hq => by have := h.1 q hq; omega
  have hDp := h.1 p (by omega)
  have hs : ∀ {i j : Nat}, i < n → i ≠ p → det p A * gjI A (p + 1) i j = gjI A p p p * gjI A p i j - gjI A p i p * gjI A p p j := fun hi hip => gjI_step (by omega) hD (by omega) hip
  have hr : ∀ j, gjI A (p + 1) p j = gjI A p p j := gjI_row (by omega) hD
  have hso : ∀ i, i < n → i ≠ p → det p A * sm (gjI A (p + 1) i) n = gjI A p p p * sm (gjI A p i) n - gjI A p i p * sm (gjI A p p) n := fun i hi hip => by
    rw [← sm_mul, ← sm_mul, ← sm_mul]
    have := sm_add (fun j => gjI A p p p * gjI A p i j) (fun j => - (gjI A p i p * gjI A p p j)) n
    rw [sm_neg] at this
    rw [sm_congr (g := fun j => gjI A p p p * gjI A p i j + - (gjI A p i p * gjI A p p j)) (fun j hj => by rw [hs hi hip]; omega), this]
    omega
  have hneg : ∀ i, i < n → i ≠ p → gjI A p i p ≤ 0 := fun i hi hip => h.2.2.1 i p hi (by omega) hp hip
  have hnegp : ∀ j, p < j → j < n → gjI A p p j ≤ 0 := fun j hj hjn => h.2.2.1 p j hp (by omega) hjn (by omega)
  have hrp := h.2.2.2.1 p hp
  refine ⟨fun q hq => ?_, fun i j hi1 hi hj1 hj => ?_, fun i j hi hj1 hj hij => ?_, fun i hi => ?_, fun T hT => ?_, fun i hi1 hi => ?_⟩
  · by_cases e : q ≤ p
    · exact h.1 q e
    · have : q = p + 1 := by omega
      subst this
      rw [← gjI_piv (by omega)]
      exact hpiv
  · refine Int.eq_of_mul_eq_mul_left (by omega : det p A ≠ 0) ?_
    rw [hs hi (by omega), hs hj (by omega), h.2.1 i j (by omega) hi (by omega) hj, h.2.1 i p (by omega) hi (by omega) hp, h.2.1 p j (by omega) hp (by omega) hj, Int.mul_comm (gjI A p p i)]
  · by_cases e : i = p
    · subst e
      rw [hr]
      exact hnegp j (by omega) hj
    · refine sg_le hDp ?_
      rw [hs hi e]
      have a1 := mpn (Int.le_of_lt hpiv) (h.2.2.1 i j hi (by omega) hj hij)
      have a2 := mnn (hneg i hi e) (hnegp j (by omega) hj)
      omega
  · by_cases e : i = p
    · subst e
      rw [sm_congr (g := gjI A i i) (fun j hj => hr j)]
      exact hrp
    · refine sg_ge hDp ?_
      rw [hso i hi e]
      have a1 := Int.mul_nonneg (Int.le_of_lt hpiv) (h.2.2.2.1 i hi)
      have a2 := mnp (hneg i hi e) hrp
      omega
  · obtain ⟨i0, hi01, hi0, ht0⟩ := hT
    have hc := h.2.2.2.2.1
    have key : ∀ i, p < i → i < n → T i → (0 < sm (gjI A p i) n ∨ ∃ j, p < j ∧ j < n ∧ ¬ T j ∧ gjI A p i j < 0) → ∃ i, p + 1 ≤ i ∧ i < n ∧ T i ∧ (0 < sm (gjI A (p + 1) i) n ∨ ∃ j, p + 1 ≤ j ∧ j < n ∧ ¬ T j ∧ gjI A (p + 1) i j < 0) := fun i hi1 hi ht hh => by
      refine ⟨i, by omega, hi, ht, ?_⟩
      rcases hh with hh | ⟨j, hj1, hj, hne, hh⟩
      · refine Or.inl (sg_gt hDp ?_)
        rw [hso i hi (by omega)]
        have a1 := Int.mul_pos hpiv hh
        have a2 := mnp (hneg i hi (by omega)) hrp
        omega
      · refine Or.inr ⟨j, by omega, hj, hne, sg_lt hDp ?_⟩
        rw [hs hi (by omega)]
        have a1 := Int.mul_neg_of_pos_of_neg hpiv hh
        have a2 := mnn (hneg i hi (by omega)) (hnegp j (by omega) hj)
        omega
    by_cases hTp : T p
    · obtain ⟨i, hi1, hi, ht, hh⟩ := hc (fun i => T i ∧ p < i) ⟨i0, by omega, hi0, ht0, by omega⟩
      rcases hh with hh | ⟨j, hj1, hj, hne, hh⟩
      · exact key i ht.2 hi ht.1 (Or.inl hh)
      · by_cases ej : j = p
        · subst ej
          obtain ⟨k, hk1, hk, hkt, hkk⟩ := hc T ⟨i0, by omega, hi0, ht0⟩
          by_cases ek : k = j
          · subst ek
            refine ⟨i, by omega, hi, ht.1, ?_⟩
            rcases hkk with hkk | ⟨l, hl1, hl, hlt, hll⟩
            · refine Or.inl (sg_gt hDp ?_)
              rw [hso i hi (by omega)]
              have a1 := Int.mul_nonneg (Int.le_of_lt hpiv) (h.2.2.2.1 i hi)
              have a2 := Int.mul_neg_of_neg_of_pos hh hkk
              omega
            · have hlk : k ≠ l := fun e => hlt (e ▸ hkt)
              refine Or.inr ⟨l, by omega, hl, hlt, sg_lt hDp ?_⟩
              rw [hs hi (by omega)]
              have hil : i ≠ l := fun e => hlt (e ▸ ht.1)
              have a1 := mpn (Int.le_of_lt hpiv) (h.2.2.1 i l hi (by omega) hl hil)
              have a2 := mnn' hh hll
              omega
          · refine key k (by omega) hk hkt ?_
            rcases hkk with hkk | ⟨l, hl1, hl, hlt, hll⟩
            · exact Or.inl hkk
            · exact Or.inr ⟨l, by have : l ≠ j := fun e => hlt (e ▸ hTp); omega, hl, hlt, hll⟩
        · exact key i ht.2 hi ht.1 (Or.inr ⟨j, by omega, hj, fun q => hne ⟨q, by omega⟩, hh⟩)
    · obtain ⟨i, hi1, hi, ht, hh⟩ := hc T ⟨i0, by omega, hi0, ht0⟩
      have hip : i ≠ p := fun e => hTp (e ▸ ht)
      rcases hh with hh | ⟨j, hj1, hj, hne, hh⟩
      · exact key i (by omega) hi ht (Or.inl hh)
      · by_cases ej : j = p
        · subst ej
          obtain ⟨k, hk1, hk, hkt, hkk⟩ := hc (fun c => T c ∨ c = j) ⟨i, by omega, hi, Or.inl ht⟩
          by_cases ek : k = j
          · subst ek
            refine ⟨i, by omega, hi, ht, ?_⟩
            rcases hkk with hkk | ⟨l, hl1, hl, hlt, hll⟩
            · refine Or.inl (sg_gt hDp ?_)
              rw [hso i hi hip]
              have a1 := Int.mul_nonneg (Int.le_of_lt hpiv) (h.2.2.2.1 i hi)
              have a2 := Int.mul_neg_of_neg_of_pos hh hkk
              omega
            · have hlt1 : ¬ T l := fun q => hlt (Or.inl q)
              have hlk : l ≠ k := fun q => hlt (Or.inr q)
              refine Or.inr ⟨l, by omega, hl, hlt1, sg_lt hDp ?_⟩
              rw [hs hi hip]
              have hil : i ≠ l := fun e => hlt1 (e ▸ ht)
              have a1 := mpn (Int.le_of_lt hpiv) (h.2.2.1 i l hi (by omega) hl hil)
              have a2 := mnn' hh hll
              omega
          · have hkT : T k := by
              rcases hkt with q | q
              · exact q
              · exact (ek q).elim
            refine key k (by omega) hk hkT ?_
            rcases hkk with hkk | ⟨l, hl1, hl, hlt, hll⟩
            · exact Or.inl hkk
            · exact Or.inr ⟨l, by have : l ≠ j := fun e => hlt (Or.inr e); omega, hl, fun q => hlt (Or.inl q), hll⟩
        · exact key i (by omega) hi ht (Or.inr ⟨j, by omega, hj, hne, hh⟩)
  · refine sg_cmp hDp ?_
    rw [hs hi (by omega), ← gjI_piv (by omega)]
    have a1 := mnn (hneg i hi (by omega)) (hnegp i (by omega) hi)
    have a2 := Int.mul_le_mul_of_nonneg_left (h.2.2.2.2.2 i (by omega) hi) (Int.le_of_lt hpiv)
    have a3 : gjI A p p p * (det p A * A i i) = det p A * (gjI A p p p * A i i) := Int.mul_left_comm _ _ _
    omega
theorem mm_all (hn : n ≤ 16) (h : ntM A n) : ∀ {p : Nat}, p ≤ n → mmP A n p
  | 0, _ => mm_zero hn h
  | p + 1, hp => mm_succ hn (mm_all hn h (by omega)) (by omega)
end MM

/-! The unit columns, and how large all comes to be. -/
def pdD (A : Nat → Nat → Int) : Nat → Int
  | 0 => 1
  | p + 1 => A p p * pdD A p
def ebD (A : Nat → Nat → Int) : Nat → Int
  | 0 => 0
  | p + 1 => A p p * ebD A p + pdD A p
section VB
variable {A : Nat → Nat → Int} {n p m : Nat}
theorem pd_pos (hA : ∀ i, i < n → 0 ≤ A i i) : ∀ {p : Nat}, p ≤ n → 0 ≤ pdD A p ∧ 0 ≤ ebD A p
  | 0, _ => ⟨(by show (0 : Int) ≤ 1; decide), Int.le_refl 0⟩
  | p + 1, hp => by
    have h := pd_pos hA (p := p) (by omega)
    have h1 := Int.mul_nonneg (hA p (by omega)) h.1
    have h2 := Int.mul_nonneg (hA p (by omega)) h.2
    exact ⟨h1, by show 0 ≤ A p p * ebD A p + pdD A p; omega⟩
theorem nt_diag (h : ntM A n) {i : Nat} (hi : i < n) : 0 ≤ A i i := by
  have h1 := h.2.2.1 i hi
  have h2 := sm_le1 (f := A i) hi (fun c hc hci => h.2.1 i c hi hc (fun e => hci e.symm))
  omega
theorem det_pd (hn : n ≤ 16) (h : ntM A n) : ∀ {p : Nat}, p ≤ n → det p A ≤ pdD A p
  | 0, _ => Int.le_refl 1
  | p + 1, hp => by
    have h1 := det_pd hn h (p := p) (by omega)
    have hm := mm_all hn h (p := p) (by omega)
    have h2 := hm.2.2.2.2.2 p (by omega) (by omega)
    rw [gjI_piv (by omega)] at h2
    have h3 := Int.mul_le_mul_of_nonneg_left h1 (nt_diag h (i := p) (by omega))
    show _ ≤ A p p * pdD A p
    rw [Int.mul_comm] at h2
    omega
/-- what the unit columns come to be -/
def vbP (A : Nat → Nat → Int) (n m p : Nat) : Prop := (∀ i c, i < n → p ≤ c → c < n → gjI A p i (m + c) = if i = c then det p A else 0) ∧ (∀ i c, p ≤ i → i < n → c < p → gjI A p i (m + c) = - gjI A p c i) ∧ (∀ i c, i < p → c < p → 0 ≤ gjI A p i (m + c) ∧ gjI A p i (m + c) ≤ ebD A p)
theorem vb_zero (hn : n ≤ 16) (hu : ∀ i c, i < n → c < n → A i (m + c) = if i = c then 1 else 0) : vbP A n m 0 := by
  refine ⟨fun i c hi _ hc => ?_, fun i c _ _ hc => by omega, fun i c hi _ => by omega⟩
  rw [gjI_zero (by omega), hu i c hi hc]
  rfl
theorem vb_succ (hn : n ≤ 16) (h : ntM A n) (hp : p < n) (v : vbP A n m p) : vbP A n m (p + 1) := by
  have hm := mm_all hn h (p := p) (by omega)
  have hpiv := mm_piv hm hp
  have hD : ∀ q, q ≤ p → det q A ≠ 0 := fun q hq => by have := hm.1 q hq; omega
  have hDp := hm.1 p (by omega)
  have hs : ∀ {i j : Nat}, i < n → i ≠ p → det p A * gjI A (p + 1) i j = gjI A p p p * gjI A p i j - gjI A p i p * gjI A p p j := fun hi hip => gjI_step (by omega) hD (by omega) hip
  have hr : ∀ j, gjI A (p + 1) p j = gjI A p p j := gjI_row (by omega) hD
  have hpd := det_pd hn h (p := p) (by omega)
  have hpo := pd_pos (A := A) (n := n) (fun i hi => nt_diag h hi) (p := p) (by omega)
  have hAp := nt_diag h hp
  have hrow : ∀ c, c < p → 0 ≤ - gjI A p c p ∧ - gjI A p c p ≤ det p A := fun c hc => by
    have h1 := hm.2.2.1 c p (by omega) (by omega) hp (by omega)
    have h2 := mm_row hm (i := c) (j := p) (by omega) hp (by omega)
    rw [gjI_dg hc] at h2
    omega
  have hvp : ∀ c, c < p → gjI A p p (m + c) = - gjI A p c p := fun c hc => v.2.1 p c (by omega) hp hc
  have hvpp : gjI A p p (m + p) = det p A := by rw [v.1 p p hp (by omega) hp, if_pos rfl]
  refine ⟨fun i c hi hc1 hc => ?_, fun i c hi1 hi hc => ?_, fun i c hi hc => ?_⟩
  · by_cases e : i = p
    · subst e
      rw [hr, v.1 i c hi (by omega) hc, if_neg (by omega), if_neg (by omega)]
    · refine Int.eq_of_mul_eq_mul_left (by omega : det p A ≠ 0) ?_
      rw [hs hi e, v.1 p c hp (by omega) hc, if_neg (by omega), v.1 i c hi (by omega) hc, Int.mul_zero, Int.sub_zero, gjI_piv (by omega)]
      split
      · exact Int.mul_comm _ _
      · rw [Int.mul_zero, Int.mul_zero]
  · refine Int.eq_of_mul_eq_mul_left (by omega : det p A ≠ 0) ?_
    have hsy : gjI A p i p = gjI A p p i := hm.2.1 i p (by omega) hi (by omega) hp
    by_cases e : c = p
    · subst e
      rw [hs hi (by omega), hr, hvpp, v.1 i c hi (by omega) hp, if_neg (by omega), Int.mul_zero, hsy, Int.mul_comm (gjI A c c i), Int.mul_neg]
      omega
    · rw [hs hi (by omega), Int.mul_neg, hs (by omega : c < n) e, v.2.1 i c (by omega) hi (by omega), hvp c (by omega), hsy, Int.mul_neg, Int.mul_neg, Int.mul_comm (gjI A p p i)]
      omega
  · have heb : ebD A (p + 1) = A p p * ebD A p + pdD A p := rfl
    have hab := Int.mul_nonneg hAp hpo.2
    by_cases ei : i = p
    · subst ei
      rw [hr]
      by_cases ec : c = i
      · subst ec
        rw [hvpp]
        omega
      · rw [hvp c (by omega)]
        have := hrow c (by omega)
        omega
    · by_cases ec : c = p
      · subst ec
        have h1 : gjI A (c + 1) i (m + c) = - gjI A c i c := by
          refine Int.eq_of_mul_eq_mul_left (by omega : det c A ≠ 0) ?_
          rw [hs (by omega) ei, hvpp, v.1 i c (by omega) (by omega) hp, if_neg ei, Int.mul_zero, Int.mul_comm (gjI A c i c), Int.mul_neg]
          omega
        rw [h1]
        have := hrow i (by omega)
        omega
      · have hi' : i < p := by omega
        have hc' : c < p := by omega
        have h1 := hs (i := i) (j := m + c) (by omega) ei
        rw [hvp c hc'] at h1
        have b1 := hrow i hi'
        have b2 := hrow c hc'
        have b3 := v.2.2 i c hi' hc'
        have q1 := Int.mul_nonneg (Int.le_of_lt hpiv) b3.1
        have q2 := Int.mul_nonneg b1.1 b2.1
        have q3 := Int.mul_le_mul_of_nonneg_left b3.2 (Int.le_of_lt hpiv)
        have q4 := Int.mul_le_mul_of_nonneg_left b2.2 b1.1
        have q5 := Int.mul_le_mul_of_nonneg_right b1.2 (Int.le_of_lt hDp)
        have q6 := Int.mul_le_mul_of_nonneg_right (hm.2.2.2.2.2 p (by omega) hp) hpo.2
        have q7 : det p A * A p p * ebD A p = det p A * (A p p * ebD A p) := Int.mul_assoc _ _ _
        have q8 : gjI A p i p * - gjI A p c p = - (- gjI A p i p * - gjI A p c p) := by
          rw [Int.neg_mul]
          omega
        rw [q8] at h1
        refine ⟨sg_ge hDp (by omega), sg_cmp hDp ?_⟩
        rw [heb, Int.mul_add, h1]
        have q9 := Int.mul_le_mul_of_nonneg_left hpd (Int.le_of_lt hDp)
        omega
theorem vb_all (hn : n ≤ 16) (h : ntM A n) (hu : ∀ i c, i < n → c < n → A i (m + c) = if i = c then 1 else 0) : ∀ {p : Nat}, p ≤ n → vbP A n m p
  | 0, _ => vb_zero hn hu
  | p + 1, hp => vb_succ hn h (by omega) (vb_all hn h hu (by omega))
/-- a column that is a sum of unit columns -/
theorem rhs_all (hn : n ≤ 16) (h : ntM A n) {r : Nat} {b : Nat → Int} (hu : ∀ i c, i < n → c < n → A i (m + c) = if i = c then 1 else 0) (hb : ∀ i, i < n → A i r = b i) : ∀ {p : Nat}, p ≤ n → ∀ i, i < n → gjI A p i r = sm (fun c => b c * gjI A p i (m + c)) n
  | 0, _, i, hi => by
    rw [gjI_zero (by omega), hb i hi]
    rw [sm_congr (g := fun c => if c = i then b i else 0) (fun c hc => by
      rw [gjI_zero (by omega), hu i c hi hc]
      by_cases e : i = c
      · rw [if_pos e, if_pos e.symm, e, Int.mul_one]
      · rw [if_neg e, if_neg (fun q => e q.symm), Int.mul_zero]), sm_one, if_pos hi]
  | p + 1, hp, i, hi => by
    have ih := rhs_all hn h hu hb (p := p) (by omega)
    have hm := mm_all hn h (p := p) (by omega)
    have hD : ∀ q, q ≤ p → det q A ≠ 0 := fun q hq => by have := hm.1 q hq; omega
    by_cases e : i = p
    · subst e
      rw [gjI_row (by omega) hD, ih i hi]
      exact sm_congr (fun c hc => by rw [gjI_row (by omega) hD])
    · refine Int.eq_of_mul_eq_mul_left (hD p (by omega)) ?_
      rw [gjI_step (by omega) hD (by omega) e, ← sm_mul, ih i hi, ih p (by omega), ← sm_mul, ← sm_mul]
      have q := sm_add (fun c => det p A * (b c * gjI A (p + 1) i (m + c))) (fun c => gjI A p i p * (b c * gjI A p p (m + c))) n
      have q2 : sm (fun c => det p A * (b c * gjI A (p + 1) i (m + c)) + gjI A p i p * (b c * gjI A p p (m + c))) n = sm (fun c => gjI A p p p * (b c * gjI A p i (m + c))) n := sm_congr (fun c hc => by
        have q3 := gjI_step (A := A) (p := p) (i := i) (j := m + c) (by omega) hD (by omega) e
        rw [Int.mul_left_comm (det p A), q3, Int.mul_sub, Int.mul_left_comm (b c) (gjI A p p p), Int.mul_left_comm (b c) (gjI A p i p)]
        omega)
      omega
end VB

/-! Products of few numbers. -/
def pw (x : Int) : Nat → Int
  | 0 => 1
  | n + 1 => x * pw x n
theorem pw_nn {x : Int} (h : 0 ≤ x) : ∀ n : Nat, 0 ≤ pw x n
  | 0 => by show (0 : Int) ≤ 1; decide
  | n + 1 => Int.mul_nonneg h (pw_nn h n)
theorem pw_pos {x : Int} (h : 0 < x) : ∀ n : Nat, 0 < pw x n
  | 0 => by show (0 : Int) < 1; decide
  | n + 1 => Int.mul_pos h (pw_pos h n)
theorem pw_mul (x y : Int) : ∀ n : Nat, pw (x * y) n = pw x n * pw y n
  | 0 => rfl
  | n + 1 => by
    show x * y * pw (x * y) n = x * pw x n * (y * pw y n)
    rw [pw_mul x y n]
    simp only [Int.mul_assoc, Int.mul_left_comm]
theorem pw_mono {x y : Int} (h : 0 ≤ x) (g : x ≤ y) : ∀ n : Nat, pw x n ≤ pw y n
  | 0 => Int.le_refl 1
  | n + 1 => by
    have h1 := Int.mul_le_mul_of_nonneg_left (pw_mono h g n) h
    have h2 := Int.mul_le_mul_of_nonneg_right g (pw_nn (Int.le_trans h g) n)
    show x * pw x n ≤ y * pw y n
    omega
theorem pw_tang {y u : Int} (hy : 0 ≤ y) (hu : 0 ≤ u) : ∀ n : Nat, ((n : Int) + 1) * (pw u n * y) ≤ pw y (n + 1) + n * pw u (n + 1)
  | 0 => by
    show ((0 : Nat) + 1 : Int) * (1 * y) ≤ y * 1 + (0 : Nat) * (u * 1)
    omega
  | n + 1 => by
    have h := pw_tang hy hu n
    have h1 := Int.mul_le_mul_of_nonneg_left h hy
    have h2 := Int.mul_nonneg (Int.mul_nonneg (by omega : 0 ≤ (n : Int) + 1) (pw_nn hu n)) (by
      rcases Int.le_total 0 (y - u) with q | q
      · exact Int.mul_nonneg q q
      · have := Int.mul_nonneg (a := -(y - u)) (b := -(y - u)) (by omega) (by omega)
        rw [Int.neg_mul_neg] at this
        exact this : 0 ≤ (y - u) * (y - u))
    have e1 : pw y (n + 1 + 1) = y * pw y (n + 1) := rfl
    have e2 : pw u (n + 1 + 1) = u * (u * pw u n) := rfl
    have e3 : pw u (n + 1) = u * pw u n := rfl
    rw [e3] at h1
    rw [e1, e2, e3]
    have c : ((n + 1 : Nat) : Int) = n + 1 := rfl
    rw [c]
    simp only [Int.mul_sub, Int.sub_mul, Int.mul_add, Int.add_mul, Int.one_mul, Int.mul_assoc, Int.mul_left_comm, Int.mul_comm] at h1 h2 ⊢
    omega
def pdS (a : Nat → Int) : Nat → Int
  | 0 => 1
  | p + 1 => a p * pdS a p
def ebS (a : Nat → Int) : Nat → Int
  | 0 => 0
  | p + 1 => a p * ebS a p + pdS a p
theorem sm_nn {a : Nat → Int} : ∀ {n : Nat}, (∀ i, i < n → 0 ≤ a i) → 0 ≤ sm a n
  | 0, _ => Int.le_refl 0
  | n + 1, h => by
    have h1 := sm_nn (a := a) (n := n) (fun i hi => h i (by omega))
    have h2 := h n (by omega)
    show 0 ≤ sm a n + a n
    omega
theorem pdS_nn {a : Nat → Int} : ∀ {n : Nat}, (∀ i, i < n → 0 ≤ a i) → 0 ≤ pdS a n
  | 0, _ => by show (0 : Int) ≤ 1; decide
  | n + 1, h => Int.mul_nonneg (h n (by omega)) (pdS_nn (fun i hi => h i (by omega)))
theorem amgm {a : Nat → Int} : ∀ {p : Nat}, (∀ i, i < p → 0 ≤ a i) → pdS a p * pw p p ≤ pw (sm a p) p
  | 0, _ => Int.le_refl 1
  | p + 1, h => by
    have ih := amgm (a := a) (p := p) (fun i hi => h i (by omega))
    have hS := sm_nn (a := a) (n := p) (fun i hi => h i (by omega))
    have hx := h p (by omega)
    have hP := pdS_nn (a := a) (n := p) (fun i hi => h i (by omega))
    show a p * pdS a p * pw ((p : Int) + 1) (p + 1) ≤ pw (sm a p + a p) (p + 1)
    rcases Nat.eq_zero_or_pos p with e | e
    · subst e
      show a 0 * 1 * ((((0 : Nat) : Int) + 1) * 1) ≤ (0 + a 0) * 1
      omega
    · have hp : (0 : Int) < p := by omega
      have t := pw_tang (y := p * (sm a p + a p)) (u := (p + 1) * sm a p) (Int.mul_nonneg (by omega) (by omega)) (Int.mul_nonneg (by omega) hS) p
      have e1 : pw (((p : Int) + 1) * sm a p) p = pw ((p : Int) + 1) p * pw (sm a p) p := pw_mul _ _ _
      have e2 : pw (((p : Int) + 1) * sm a p) (p + 1) = (p + 1) * sm a p * pw (((p : Int) + 1) * sm a p) p := rfl
      have e3 : pw ((p : Int) * (sm a p + a p)) (p + 1) = pw (p : Int) (p + 1) * pw (sm a p + a p) (p + 1) := pw_mul _ _ _
      rw [e2, e3, e1] at t
      have t2 : (p : Int) * (pw ((p : Int) + 1) (p + 1) * (pw (sm a p) p * a p)) ≤ p * (pw (p : Int) p * pw (sm a p + a p) (p + 1)) := by
        have e4 : pw ((p : Int) + 1) (p + 1) = (p + 1) * pw ((p : Int) + 1) p := rfl
        have e5 : pw (p : Int) (p + 1) = p * pw (p : Int) p := rfl
        rw [e5] at t
        rw [e4]
        simp only [Int.mul_add, Int.add_mul, Int.one_mul, Int.mul_one, Int.mul_assoc, Int.mul_left_comm, Int.mul_comm] at t ⊢
        omega
      have t3 := sg_cmp hp t2
      have q1 := Int.mul_le_mul_of_nonneg_left ih (Int.mul_nonneg hx (pw_nn (x := (p : Int) + 1) (by omega) (p + 1)))
      refine sg_cmp (pw_pos hp p) ?_
      simp only [Int.mul_assoc, Int.mul_left_comm, Int.mul_comm] at t3 q1 ⊢
      omega
theorem sm_skp (a : Nat → Int) (k : Nat) : ∀ p : Nat, k ≤ p → sm (fun i => a (skp k i)) p + a k = sm a (p + 1)
  | 0, h => by
    have : k = 0 := by omega
    subst this
    rfl
  | p + 1, h => by
    by_cases e : k = p + 1
    · subst e
      show _ = sm a (p + 1) + a (p + 1)
      rw [sm_congr (g := a) (fun i hi => by rw [show skp (p + 1) i = i from if_pos hi])]
    · have h1 := sm_skp a k p (by omega)
      show sm _ p + a (skp k p) + a k = sm a (p + 1) + a (p + 1)
      rw [show skp k p = p + 1 from if_neg (by omega)]
      omega
theorem pdS_congr {a b : Nat → Int} : ∀ {n : Nat}, (∀ i, i < n → a i = b i) → pdS a n = pdS b n
  | 0, _ => rfl
  | n + 1, h => by
    show a n * pdS a n = b n * pdS b n
    rw [h n (by omega), pdS_congr (fun i hi => h i (by omega))]
theorem ebS_sum (a : Nat → Int) : ∀ p : Nat, ebS a (p + 1) = sm (fun k => pdS (fun i => a (skp k i)) p) (p + 1)
  | 0 => by
    show a 0 * 0 + 1 = 0 + 1
    omega
  | p + 1 => by
    show a (p + 1) * ebS a (p + 1) + pdS a (p + 1) = sm _ (p + 1) + pdS (fun i => a (skp (p + 1) i)) (p + 1)
    rw [ebS_sum a p, ← sm_mul, pdS_congr (a := fun i => a (skp (p + 1) i)) (b := a) (fun i hi => by rw [show skp (p + 1) i = i from if_pos hi])]
    congr 1
    refine sm_congr (fun k hk => ?_)
    show _ = a (skp k p) * _
    rw [show skp k p = p + 1 from if_neg (by omega)]
theorem sm_up {a : Nat → Int} {n : Nat} (h : ∀ i, i < n → 0 ≤ a i) : ∀ m p : Nat, p + m ≤ n → sm a p ≤ sm a (p + m)
  | 0, p, _ => Int.le_refl _
  | m + 1, p, hp => by
    have h1 := sm_up h m p (by omega)
    have h2 := h (p + m) (by omega)
    show _ ≤ sm a (p + m) + a (p + m)
    omega
theorem sm_const {f : Nat → Int} {c : Int} : ∀ {n : Nat}, (∀ i, i < n → f i ≤ c) → sm f n ≤ n * c
  | 0, _ => by show (0 : Int) ≤ (0 : Nat) * c; omega
  | n + 1, h => by
    have h1 := sm_const (f := f) (c := c) (n := n) (fun i hi => h i (by omega))
    have h2 := h n (by omega)
    show sm f n + f n ≤ ((n : Int) + 1) * c
    rw [Int.add_mul]
    omega
theorem pd_num {a : Nat → Int} {p : Nat} (h : ∀ i, i < p → 0 ≤ a i) (hs : sm a p ≤ 84) : pdS a p * pw p p ≤ pw 84 p := Int.le_trans (amgm h) (pw_mono (sm_nn h) hs p)
theorem pd_tab {a : Nat → Int} {p : Nat} (hp : p ≤ 7) (h : ∀ i, i < p → 0 ≤ a i) (hs : sm a p ≤ 84) : pdS a p ≤ 35831808 ∧ (p ≤ 6 → pdS a p ≤ 7529536) ∧ (p ≤ 5 → pdS a p ≤ 1338278) := by
  have h1 := pd_num h hs
  have h2 : p = 0 ∨ p = 1 ∨ p = 2 ∨ p = 3 ∨ p = 4 ∨ p = 5 ∨ p = 6 ∨ p = 7 := by omega
  rcases h2 with rfl | rfl | rfl | rfl | rfl | rfl | rfl | rfl
  all_goals simp only [pw] at h1
  all_goals omega
theorem eb_tab {a : Nat → Int} {p : Nat} (hp : p ≤ 7) (h : ∀ i, i < p → 0 ≤ a i) (hs : sm a p ≤ 84) : ebS a p ≤ 52706752 ∧ (p ≤ 6 → ebS a p ≤ 8029668) := by
  match p, hp, h, hs with
  | 0, _, _, _ => exact ⟨by show (0 : Int) ≤ _; decide, fun _ => by show (0 : Int) ≤ _; decide⟩
  | p + 1, hp, h, hs =>
    rw [ebS_sum]
    have hk : ∀ k, k < p + 1 → pdS (fun i => a (skp k i)) p ≤ 7529536 ∧ (p ≤ 5 → pdS (fun i => a (skp k i)) p ≤ 1338278) := fun k hk => by
      have h1 := sm_skp a k p (by omega)
      have h2 := h k hk
      have := pd_tab (a := fun i => a (skp k i)) (p := p) (by omega) (fun i hi => h _ (skp_lt hi)) (by omega)
      exact ⟨this.2.1 (by omega), this.2.2⟩
    have h1 := sm_const (fun k hk' => (hk k hk').1)
    refine ⟨by omega, fun hp6 => ?_⟩
    have h2 := sm_const (fun k hk' => (hk k hk').2 (by omega))
    omega

/-! How much runs along a way. -/
section FL
variable {A : Nat → Nat → Int} {n m r : Nat} {b : Nat → Int}
def vbY (A : Nat → Nat → Int) (m p : Nat) : Prop := ∀ i c, i < p → c < p → gjI A p i (m + c) = gjI A p c (m + i)
theorem vb_sym (hn : n ≤ 16) (h : ntM A n) (hu : ∀ i c, i < n → c < n → A i (m + c) = if i = c then 1 else 0) : ∀ {p : Nat}, p ≤ n → vbY A m p
  | 0, _ => fun i c hi _ => by omega
  | p + 1, hp => by
    have ih := vb_sym hn h hu (p := p) (by omega)
    have v := vb_all hn h hu (p := p) (by omega)
    have hm := mm_all hn h (p := p) (by omega)
    have hD : ∀ q, q ≤ p → det q A ≠ 0 := fun q hq => by have := hm.1 q hq; omega
    have hs : ∀ {i j : Nat}, i < n → i ≠ p → det p A * gjI A (p + 1) i j = gjI A p p p * gjI A p i j - gjI A p i p * gjI A p p j := fun hi hip => gjI_step (by omega) hD (by omega) hip
    have hr : ∀ j, gjI A (p + 1) p j = gjI A p p j := gjI_row (by omega) hD
    have h1 : ∀ c, c < p → gjI A (p + 1) p (m + c) = gjI A (p + 1) c (m + p) := fun c hc => by
      rw [hr, v.2.1 p c (by omega) (by omega) hc]
      refine Int.eq_of_mul_eq_mul_left (hD p (by omega)) ?_
      rw [hs (by omega) (by omega), v.1 c p (by omega) (by omega) (by omega), if_neg (by omega), v.1 p p (by omega) (by omega) (by omega), if_pos rfl, Int.mul_zero, Int.mul_neg, Int.mul_comm (det p A)]
      omega
    intro i c hi hc
    by_cases ei : i = p
    · subst ei
      by_cases ec : c = i
      · subst ec
        rfl
      · exact h1 c (by omega)
    · by_cases ec : c = p
      · subst ec
        exact (h1 i (by omega)).symm
      · refine Int.eq_of_mul_eq_mul_left (hD p (by omega)) ?_
        rw [hs (by omega) ei, hs (by omega) ec, ih i c (by omega) (by omega), v.2.1 p c (by omega) (by omega) (by omega), v.2.1 p i (by omega) (by omega) (by omega), Int.mul_neg, Int.mul_neg, Int.mul_comm (gjI A p i p)]
/-- the heights solve the net -/
theorem net_solve (hn : n ≤ 16) (h : ntM A n) (hu : ∀ i c, i < n → c < n → A i (m + c) = if i = c then 1 else 0) (hb : ∀ i, i < n → A i r = b i) {i : Nat} (hi : i < n) : sm (fun j => A i j * gjI A n j r) n = det n A * b i := by
  have h1 : sm (fun j => A i j * gjI A n j r) n = sm (fun j => sm (fun c => b c * (A i j * gjI A n j (m + c))) n) n := sm_congr (fun j hj => by
    rw [rhs_all hn h hu hb (p := n) (by omega) j hj, ← sm_mul]
    exact sm_congr (fun c hc => Int.mul_left_comm _ _ _))
  rw [h1, sm_swap (fun j c => b c * (A i j * gjI A n j (m + c)))]
  rw [sm_congr (g := fun c => if c = i then det n A * b i else 0) (fun c hc => by
    rw [sm_mul, sm_congr (g := fun j => A j i * gjI A n c (m + j)) (fun j hj => by rw [h.1 i j hi hj, vb_sym hn h hu (p := n) (by omega) j c hj hc])]
    have h2 := rhs_all hn h (r := i) (b := fun j => A j i) hu (fun _ _ => rfl) (p := n) (by omega) c hc
    rw [← h2]
    by_cases e : c = i
    · subst e
      rw [if_pos rfl, gjI_dg hc, Int.mul_comm]
    · rw [if_neg e, gjI_lo hi e, Int.mul_zero]), sm_one, if_pos hi]
theorem sm_anti {g : Nat → Nat → Int} (h : ∀ i j, i < n → j < n → g i j = - g j i) : sm (fun i => sm (g i) n) n = 0 := by
  have h1 := sm_swap g n n
  have h2 : sm (fun j => sm (fun i => g i j) n) n = - sm (fun i => sm (g i) n) n := by
    rw [← sm_neg]
    exact sm_congr (fun j hj => by
      rw [← sm_neg]
      exact sm_congr (fun i hi => h i j hi hj))
  omega
theorem sm_ge1 {f : Nat → Int} {p : Nat} (hp : p < n) (h : ∀ i, i < n → 0 ≤ f i) : f p ≤ sm f n := by
  have h1 := sm_mono (f := fun i => if i = p then f p else 0) (g := f) (n := n) (fun i hi => by
    split
    · rename_i e
      rw [e]
      exact Int.le_refl _
    · exact h i hi)
  rw [sm_one, if_pos hp] at h1
  exact h1
theorem net_cut {H : Nat → Int} {D : Int} (h : ntM A n) (hs : ∀ i, i < n → sm (fun j => A i j * H j) n = D * b i) {t : Int} (ht : 0 ≤ t) : sm (fun i => (if t < H i then 1 else 0) * (H i * sm (A i) n)) n + sm (fun i => sm (fun j => (if t < H i then 1 else 0) * (1 - if t < H j then 1 else 0) * (- A i j * (H i - H j))) n) n = D * sm (fun i => (if t < H i then 1 else 0) * b i) n := by
  have e1 : ∀ i, i < n → (if t < H i then (1 : Int) else 0) * (H i * sm (A i) n) + sm (fun j => (if t < H i then 1 else 0) * (- A i j * (H i - H j))) n = D * ((if t < H i then 1 else 0) * b i) := fun i hi => by
    rw [sm_mul, ← Int.mul_add, ← sm_mul, ← sm_add]
    rw [sm_congr (g := fun j => A i j * H j) (fun j hj => by
      simp only [Int.mul_sub, Int.neg_mul, Int.mul_comm (H i)]
      omega), hs i hi]
    exact Int.mul_left_comm _ _ _
  rw [← sm_mul, ← sm_congr e1, sm_add]
  congr 1
  have e2 := sm_anti (n := n) (g := fun i j => (if t < H i then 1 else 0) * (if t < H j then 1 else 0) * (- A i j * (H i - H j))) (fun i j hi hj => by
    rw [h.1 i j hi hj, Int.mul_comm (if t < H i then (1 : Int) else 0), ← Int.mul_neg, ← Int.mul_neg]
    congr 2
    omega)
  have e3 := sm_add (fun i => sm (fun j => (if t < H i then 1 else 0) * (1 - if t < H j then 1 else 0) * (- A i j * (H i - H j))) n) (fun i => sm (fun j => (if t < H i then 1 else 0) * (if t < H j then 1 else 0) * (- A i j * (H i - H j))) n) n
  rw [e2] at e3
  rw [← sm_congr (fun i hi => rfl : ∀ i, i < n → _ = _)] at e3
  rw [Int.add_zero] at e3
  rw [← e3]
  refine sm_congr (fun i hi => ?_)
  rw [← sm_add]
  refine sm_congr (fun j hj => ?_)
  rw [← Int.add_mul, ← Int.mul_add]
  rw [show (1 - if t < H j then (1 : Int) else 0) + (if t < H j then 1 else 0) = 1 by omega, Int.mul_one]
theorem net_flow0 {H : Nat → Int} {D B : Int} (h : ntM A n) (hD : 0 ≤ D) (hs : ∀ i, i < n → sm (fun j => A i j * H j) n = D * b i) (hB : ∀ x : Nat → Int, (∀ i, i < n → x i = 0 ∨ x i = 1) → sm (fun i => x i * b i) n ≤ B) {a : Nat} (ha : a < n) (hpos : 0 < H a) : H a * sm (A a) n ≤ D * B ∧ ∀ c, c < n → H c < H a → - A a c * (H a - H c) ≤ D * B := by
  have hc := net_cut h hs (t := H a - 1) (by omega)
  have hb := hB (fun i => if H a - 1 < H i then 1 else 0) (fun i _ => by split; exact Or.inr rfl; exact Or.inl rfl)
  have hb2 := Int.mul_le_mul_of_nonneg_left hb hD
  have n1 : ∀ i, i < n → 0 ≤ (if H a - 1 < H i then (1 : Int) else 0) * (H i * sm (A i) n) := fun i hi => by
    split
    · rw [Int.one_mul]
      exact Int.mul_nonneg (by omega) (h.2.2.1 i hi)
    · rw [Int.zero_mul]
      exact Int.le_refl 0
  have n2 : ∀ i j, i < n → j < n → 0 ≤ (if H a - 1 < H i then (1 : Int) else 0) * (1 - if H a - 1 < H j then 1 else 0) * (- A i j * (H i - H j)) := fun i j hi hj => by
    by_cases e1 : H a - 1 < H i
    · rw [if_pos e1]
      by_cases e2 : H a - 1 < H j
      · rw [if_pos e2, Int.sub_self, Int.mul_zero, Int.zero_mul]
        exact Int.le_refl 0
      · rw [if_neg e2]
        have : i ≠ j := fun e => e2 (e ▸ e1)
        have := h.2.1 i j hi hj this
        have := Int.mul_nonneg (a := - A i j) (b := H i - H j) (by omega) (by omega)
        show 0 ≤ 1 * (1 - 0) * _
        omega
    · rw [if_neg e1, Int.zero_mul, Int.zero_mul]
      exact Int.le_refl 0
  have s1 := sm_nn n1
  have s2 := sm_nn (a := fun i => sm (fun j => (if H a - 1 < H i then (1 : Int) else 0) * (1 - if H a - 1 < H j then 1 else 0) * (- A i j * (H i - H j))) n) (n := n) (fun i hi => sm_nn (fun j hj => n2 i j hi hj))
  have g1 := sm_ge1 ha n1
  have g2 := sm_ge1 (f := fun i => sm (fun j => (if H a - 1 < H i then (1 : Int) else 0) * (1 - if H a - 1 < H j then 1 else 0) * (- A i j * (H i - H j))) n) ha (fun i hi => sm_nn (fun j hj => n2 i j hi hj))
  rw [if_pos (by omega)] at g1
  refine ⟨by omega, fun c hc2 hlt => ?_⟩
  let F : Nat → Int := fun j => (if H a - 1 < H a then (1 : Int) else 0) * (1 - if H a - 1 < H j then 1 else 0) * (- A a j * (H a - H j))
  have g3 : F c ≤ sm F n := sm_ge1 (f := F) hc2 (fun j hj => n2 a j ha hj)
  have g4 : F c = - A a c * (H a - H c) := by
    show (if H a - 1 < H a then (1 : Int) else 0) * (1 - if H a - 1 < H c then 1 else 0) * (- A a c * (H a - H c)) = _
    rw [if_pos (by omega), if_neg (by omega)]
    show (1 : Int) * _ = _
    rw [Int.one_mul]
  have g5 : sm F n ≤ sm (fun i => sm (fun j => (if H a - 1 < H i then (1 : Int) else 0) * (1 - if H a - 1 < H j then 1 else 0) * (- A i j * (H i - H j))) n) n := g2
  omega
/-- no way carries more than all that goes in -/
theorem net_flow {H : Nat → Int} {D B : Int} (h : ntM A n) (hD : 0 ≤ D) (hs : ∀ i, i < n → sm (fun j => A i j * H j) n = D * b i) (hB : ∀ x : Nat → Int, (∀ i, i < n → x i = 0 ∨ x i = 1) → sm (fun i => x i * b i) n ≤ B ∧ - B ≤ sm (fun i => x i * b i) n) (hB0 : 0 ≤ B) : (∀ i, i < n → H i * sm (A i) n ≤ D * B ∧ -(D * B) ≤ H i * sm (A i) n) ∧ ∀ i j, i < n → j < n → i ≠ j → - A i j * (H i - H j) ≤ D * B := by
  have hDB := Int.mul_nonneg hD hB0
  have p1 : ∀ {a : Nat}, a < n → 0 < H a → H a * sm (A a) n ≤ D * B ∧ ∀ c, c < n → H c < H a → - A a c * (H a - H c) ≤ D * B := fun ha hp => net_flow0 h hD hs (fun x hx => (hB x hx).1) ha hp
  have p2 : ∀ {a : Nat}, a < n → 0 < - H a → - H a * sm (A a) n ≤ D * B ∧ ∀ c, c < n → - H c < - H a → - A a c * (- H a - - H c) ≤ D * B := fun ha hp => net_flow0 (H := fun i => - H i) (b := fun i => - b i) h hD (fun i hi => by
    have := hs i hi
    rw [sm_congr (g := fun j => - (A i j * H j)) (fun j hj => Int.mul_neg _ _), sm_neg, this, Int.mul_neg]) (fun x hx => by
    have := (hB x hx).2
    rw [sm_congr (g := fun i => - (x i * b i)) (fun j hj => Int.mul_neg _ _), sm_neg]
    omega) ha hp
  refine ⟨fun i hi => ?_, fun i j hi hj hij => ?_⟩
  · have hr := h.2.2.1 i hi
    rcases Int.lt_trichotomy (H i) 0 with q | q | q
    · have := (p2 hi (by omega)).1
      have q2 := mnp (Int.le_of_lt q) hr
      rw [Int.neg_mul] at this
      omega
    · rw [q, Int.zero_mul]
      omega
    · have := (p1 hi q).1
      have q2 := Int.mul_nonneg (Int.le_of_lt q) hr
      omega
  · have ho := h.2.1 i j hi hj hij
    rcases Int.lt_or_le (H j) (H i) with q | q
    · rcases Int.lt_or_le 0 (H i) with q2 | q2
      · exact (p1 hi q2).2 j hj q
      · have := (p2 hj (by omega)).2 i hi (by omega)
        rw [h.1 i j hi hj]
        have e : - H j - - H i = H i - H j := by omega
        rw [e] at this
        exact this
    · have := mpn (a := - A i j) (b := H i - H j) (by omega) (by omega)
      omega
end FL

/-! What hangs together: the lowest of each whole. -/
def gClo (n : Nat) (J : Nat → Nat → Prop) (T : Nat → Prop) : Prop := ∀ a b, a < n → b < n → J a b → T a → T b
def gLow (n : Nat) (J : Nat → Nat → Prop) (L : Nat → Nat) : Prop := (∀ i, i < n → L i ≤ i) ∧ ∀ T : Nat → Prop, gClo n J T → ∀ i, i < n → T i → T (L i)
def gLab (n : Nat) (J : Nat → Nat → Prop) (L : Nat → Nat) : Prop := gLow n J L ∧ ∀ a b, a < n → b < n → J a b → L a = L b
def sN (L : Nat → Nat) : Nat → Nat
  | 0 => 0
  | n + 1 => sN L n + L n
theorem sN_le {L K : Nat → Nat} : ∀ {n : Nat}, (∀ i, i < n → L i ≤ K i) → sN L n ≤ sN K n
  | 0, _ => Nat.le_refl 0
  | n + 1, h => by
    have h1 := sN_le (L := L) (K := K) (n := n) (fun i hi => h i (by omega))
    have h2 := h n (by omega)
    show sN L n + L n ≤ sN K n + K n
    omega
theorem sN_lt {L K : Nat → Nat} : ∀ {n j : Nat}, (∀ i, i < n → L i ≤ K i) → j < n → L j < K j → sN L n < sN K n
  | 0, _, _, hj, _ => by omega
  | n + 1, j, h, hj, hl => by
    have h2 := h n (by omega)
    show sN L n + L n < sN K n + K n
    by_cases e : j = n
    · subst e
      have h1 := sN_le (L := L) (K := K) (n := j) (fun i hi => h i (by omega))
      omega
    · have h1 := sN_lt (L := L) (K := K) (n := n) (j := j) (fun i hi => h i (by omega)) (by omega) hl
      omega
section GR
variable {n : Nat} {J : Nat → Nat → Prop} {L G K : Nat → Nat}
theorem gLab_same (hJ : ∀ a b, J a b → J b a) (hG : gLab n J G) : ∀ i, i < n → gClo n J (fun j => G j = G i) := fun i _ a b ha hb hab h => by
  rw [← h]
  exact (hG.2 a b ha hb hab).symm
theorem gLab_le (hJ : ∀ a b, J a b → J b a) (hG : gLab n J G) (hL : gLow n J L) {i : Nat} (hi : i < n) : G i ≤ L i := by
  have h1 : G (L i) = G i := hL.2 _ (gLab_same hJ hG i hi) i hi rfl
  have h2 := hL.1 i hi
  have h3 := hG.1.1 (L i) (by omega)
  omega
theorem gLab_uniq (hJ : ∀ a b, J a b → J b a) (hG : gLab n J G) (hL : gLab n J L) {i : Nat} (hi : i < n) : L i = G i :=
  Nat.le_antisymm (gLab_le hJ hL hG.1 hi) (gLab_le hJ hG hL.1 hi)
theorem gLab_idem (hJ : ∀ a b, J a b → J b a) (hG : gLab n J G) {i : Nat} (hi : i < n) : G (G i) = G i := hG.1.2 _ (gLab_same hJ hG i hi) i hi rfl
theorem gLow_id : gLow n J (fun i => i) := ⟨fun i _ => Nat.le_refl i, fun _ _ _ _ h => h⟩
theorem gLow_rel (hJ : ∀ a b, J a b → J b a) (hL : gLow n J L) {a b : Nat} (ha : a < n) (hb : b < n) (hab : J a b) (hK : ∀ i, i < n → K i = if i = a ∨ i = b then min (L a) (L b) else L i) : gLow n J K := by
  refine ⟨fun i hi => ?_, fun T hT i hi ht => ?_⟩
  · rw [hK i hi]
    have h1 := hL.1 a ha
    have h2 := hL.1 b hb
    have h3 := hL.1 i hi
    split
    · rename_i q
      rcases q with q | q
      · rw [q]; omega
      · rw [q]; omega
    · exact h3
  · rw [hK i hi]
    split
    · rename_i q
      have hTa : T a := by
        rcases q with q | q
        · rw [← q]; exact ht
        · exact hT b a hb ha (hJ a b hab) (q ▸ ht)
      have hTb : T b := hT a b ha hb hab hTa
      have h1 := hL.2 T hT a ha hTa
      have h2 := hL.2 T hT b hb hTb
      rcases Nat.le_total (L a) (L b) with e | e
      · rw [Nat.min_eq_left e]; exact h1
      · rw [Nat.min_eq_right e]; exact h2
    · exact hL.2 T hT i hi ht
theorem gLab_ex0 (hJ : ∀ a b, J a b → J b a) : ∀ (s : Nat) (L : Nat → Nat), gLow n J L → sN L n ≤ s → ∃ G, gLab n J G := by
  intro s
  induction s with
  | zero =>
    intro L hL hs
    refine ⟨L, hL, fun a b ha hb _ => ?_⟩
    rcases Nat.eq_zero_or_pos (L a) with h1 | h1
    · rcases Nat.eq_zero_or_pos (L b) with h2 | h2
      · omega
      · have := sN_lt (L := fun _ => 0) (K := L) (n := n) (j := b) (fun i _ => Nat.zero_le _) hb h2
        omega
    · have := sN_lt (L := fun _ => 0) (K := L) (n := n) (j := a) (fun i _ => Nat.zero_le _) ha h1
      omega
  | succ s ih =>
    intro L hL hs
    by_cases h : ∀ a b, a < n → b < n → J a b → L a = L b
    · exact ⟨L, hL, h⟩
    · have ⟨a, h⟩ := Classical.not_forall.mp h
      have ⟨b, h⟩ := Classical.not_forall.mp h
      have ⟨ha, h⟩ := Classical.not_forall.mp h
      have ⟨hb, h⟩ := Classical.not_forall.mp h
      have ⟨hab, h⟩ := Classical.not_forall.mp h
      refine ih (fun i => if i = a ∨ i = b then min (L a) (L b) else L i) (gLow_rel hJ hL ha hb hab (fun i _ => rfl)) ?_
      have hle : ∀ i, i < n → (if i = a ∨ i = b then min (L a) (L b) else L i) ≤ L i := fun i _ => by
        split
        · rename_i q
          rcases q with q | q
          · rw [q]; omega
          · rw [q]; omega
        · exact Nat.le_refl _
      rcases Nat.lt_or_gt_of_ne h with q | q
      · have := sN_lt (j := b) hle hb (by rw [if_pos (Or.inr rfl)]; omega)
        omega
      · have := sN_lt (j := a) hle ha (by rw [if_pos (Or.inl rfl)]; omega)
        omega
theorem gLab_ex (hJ : ∀ a b, J a b → J b a) : ∃ G, gLab n J G := gLab_ex0 hJ _ _ gLow_id (Nat.le_refl _)
/-- one round over all ways -/
def gPass (n : Nat) (J : Nat → Nat → Prop) (L K : Nat → Nat) : Prop := gLow n J K ∧ (∀ i, i < n → K i ≤ L i) ∧ ∀ a b, a < n → b < n → J a b → K a ≤ L b
def gCnt (L G : Nat → Nat) (n : Nat) : Nat := sN (fun i => if L i = G i then 0 else 1) n
theorem gCnt_le (L G : Nat → Nat) : ∀ n : Nat, gCnt L G n ≤ n
  | 0 => Nat.le_refl 0
  | n + 1 => by
    have h := gCnt_le L G n
    show gCnt L G n + (if L n = G n then 0 else 1) ≤ n + 1
    split <;> omega
theorem gCnt_zero {L G : Nat → Nat} {n : Nat} (h : gCnt L G n = 0) : ∀ i, i < n → L i = G i := fun i hi => by
  by_cases e : L i = G i
  · exact e
  · have := sN_lt (L := fun _ => 0) (K := fun i => if L i = G i then 0 else 1) (n := n) (j := i) (fun i _ => Nat.zero_le _) hi (by rw [if_neg e]; omega)
    unfold gCnt at h
    omega
theorem gPass_cnt (hJ : ∀ a b, J a b → J b a) (hG : gLab n J G) (hL : gLow n J L) (hK : gPass n J L K) (h : 0 < gCnt L G n) : gCnt K G n < gCnt L G n := by
  obtain ⟨k1, k2, k3⟩ := hK
  have hmono : ∀ i, i < n → (if K i = G i then 0 else 1) ≤ (if L i = G i then 0 else 1) := fun i hi => by
    by_cases e : L i = G i
    · have h1 := k2 i hi
      have h2 := gLab_le hJ hG k1 hi
      rw [if_pos (by omega)]
      exact Nat.zero_le _
    · rw [if_neg e]
      split <;> omega
  by_cases hx : ∃ a b, a < n ∧ b < n ∧ J a b ∧ L a = G a ∧ L b ≠ G b
  · obtain ⟨a, b, ha, hb, hab, e1, e2⟩ := hx
    refine sN_lt (j := b) hmono hb ?_
    have h1 := k3 b a hb ha (hJ a b hab)
    have h2 := gLab_le hJ hG k1 hb
    have h3 := hG.2 a b ha hb hab
    rw [if_pos (by omega), if_neg e2]
    omega
  · exfalso
    have hcl : gClo n J (fun j => L j ≠ G j) := fun a b ha hb hab h1 h2 => hx ⟨b, a, hb, ha, hJ a b hab, h2, h1⟩
    have hall : ∀ i, i < n → L i = G i := fun i hi => by
      by_cases e : L i = G i
      · exact e
      · exfalso
        have h1 := hG.1.2 _ hcl i hi e
        have hgi := hG.1.1 i hi
        have h2 := hL.1 (G i) (by omega)
        have h3 := gLab_le hJ hG hL (i := G i) (by omega)
        have h4 := gLab_idem hJ hG hi
        exact h1 (by omega)
    have : gCnt L G n ≤ sN (fun _ => 0) n := sN_le (fun i hi => by rw [if_pos (hall i hi)]; omega)
    have h0 : ∀ m : Nat, sN (fun _ => 0) m = 0 := fun m => by
      induction m with
      | zero => rfl
      | succ m ih => show sN _ m + 0 = 0; omega
    rw [h0] at this
    omega
end GR
