/-! Asking the second object's codes: a machine with a stack of (refused, value). -/
abbrev Vs : Type := List (Bool × Int)
noncomputable def wrk (c x y : Int) : Int := if c = 37 then (if y = 0 then 0 else w8 (Int.tmod x y)) else if c = 42 then w8 (x * y) else if c = 43 then w8 (x + y) else if c = 45 then w8 (x - y) else if c = 47 then (if y = 0 then 0 else w8 (Int.tdiv x y)) else if c = 60 then (if x < y then 1 else 0) else if c = 62 then (if y < x then 1 else 0) else if x = y then 1 else 0
noncomputable def dsF (c : Int) (a b : Bool × Int) : Bool × Int := if c = 38 then (if a.1 = false ∧ a.2 = 1 then b else a) else if c = 124 then (if a.1 = false ∧ a.2 = 0 then b else a) else (a.1 || b.1 || (decide (c = 47 ∨ c = 37) && decide (b.2 = 0)), wrk c a.2 b.2)
theorem dsF_38 {a b : Bool × Int} : dsF 38 a b = if a.1 = false ∧ a.2 = 1 then b else a := if_pos rfl
theorem dsF_124 {a b : Bool × Int} : dsF 124 a b = if a.1 = false ∧ a.2 = 0 then b else a := (if_neg (by decide)).trans (if_pos rfl)
noncomputable def bnV (c : Int) (st : Vs) : Option Vs := match st with
  | b :: a :: k => some (dsF c a b :: k)
  | _ => none
def ntV (st : Vs) : Option Vs := match st with
  | a :: k => if a.2 = 0 ∨ a.2 = 1 then some ((a.1, 1 - a.2) :: k) else none
  | _ => none
noncomputable def e1 (C : Nat → Int × Int) (V : Int → Int) (p : Nat) (st : Vs) : Option Vs :=
  if 2 < (C p).1 then bnV (C p).1 st
  else if (C p).1 = 2 then ntV st
  else if (C p).1 = 0 then some ((false, (C p).2) :: st)
  else some ((false, V (C p).2) :: st)
noncomputable def rm (C : Nat → Int × Int) (V : Int → Int) : Nat → Nat → Vs → Option Vs
  | 0, _, s => some s
  | m + 1, p, s => (e1 C V p s).bind (rm C V m (p + 1))
def smR (f g : Nat → Int) : Vs → Prop
  | [] => True
  | x :: k => (f k.length = x.2 ∧ g k.length = (if x.1 then 1 else 0)) ∧ smR f g k
def okM (C : Nat → Int × Int) (wk : Bool) (a b : Nat) : Prop := ∀ i, a ≤ i → i < b → (C i).1 = 0 ∨ 2 ≤ (C i).1 ∨ ((C i).1 = 1 ∧ ∃ j, j < 11 ∧ (C i).2 = chrL j ∧ asks wk j = true)
section RM
variable {C C2 : Nat → Int × Int} {V : Int → Int} {a b c p : Nat} {s : Vs}
theorem rm_add : ∀ (m1 m2 p : Nat) (s : Vs), rm C V (m1 + m2) p s = (rm C V m1 p s).bind (rm C V m2 (p + m1))
  | 0, m2, p, s => by rw [Nat.zero_add]; rfl
  | m1 + 1, m2, p, s => by
    rw [show m1 + 1 + m2 = (m1 + m2) + 1 by omega, rm, rm]
    cases h : e1 C V p s with
    | none => rfl
    | some s2 =>
      show rm C V (m1 + m2) (p + 1) s2 = (rm C V m1 (p + 1) s2).bind _
      rw [rm_add m1 m2 (p + 1) s2, show p + 1 + m1 = p + (m1 + 1) by omega]
theorem rm_app (h1 : a ≤ b) (h2 : b ≤ c) : rm C V (c - a) a s = (rm C V (b - a) a s).bind (rm C V (c - b) b) := by
  rw [show c - a = (b - a) + (c - b) by omega, rm_add, show a + (b - a) = b by omega]
theorem rm_one : rm C V (p + 1 - p) p s = e1 C V p s := by
  rw [show p + 1 - p = 1 by omega, rm]
  cases e1 C V p s <;> rfl
theorem rm_cg : ∀ (m p : Nat) (s : Vs), (∀ i, p ≤ i → i < p + m → C2 i = C i) → rm C2 V m p s = rm C V m p s
  | 0, _, _, _ => rfl
  | m + 1, p, s, h => by
    have e : e1 C2 V p s = e1 C V p s := by
      unfold e1
      rw [h p (Nat.le_refl _) (by omega)]
    rw [rm, rm, e]
    congr 1
    funext s2
    exact rm_cg m (p + 1) s2 (fun i h1 h2 => h i (by omega) (by omega))
theorem smR_to {f g f2 g2 : Nat → Int} : ∀ {k : Vs}, smR f g k → (∀ i, i < k.length → f2 i = f i ∧ g2 i = g i) → smR f2 g2 k
  | [], _, _ => trivial
  | x :: k, h, hh => ⟨⟨(hh _ (Nat.lt_succ_self _)).1.trans h.1.1, (hh _ (Nat.lt_succ_self _)).2.trans h.1.2⟩, smR_to h.2 (fun i hi => hh i (Nat.lt_succ_of_lt hi))⟩
end RM
/-- what a piece of the codes leaves on the stack -/
def mG (C : Nat → Int × Int) (wk : Bool) (a b : Nat) (s : Sem) (bit : Bool) : Prop := ∀ (L : Nat → Int) (V : Int → Int) (st : Vs), (∀ j, j < 11 → asks wk j = true → V (chrL j) = L j) → ∃ x : Bool × Int, rm C V (b - a) a st = some (x :: st) ∧ s L = (if x.1 then none else some x.2) ∧ (bit = true → x.2 = 0 ∨ x.2 = 1)
section MG
variable {C C2 : Nat → Int × Int} {wk : Bool} {a b c : Nat} {s s1 s2 : Sem} {bit : Bool}
theorem mG.cg (h : mG C wk a b s bit) (hab : a ≤ b) (e : ∀ i, a ≤ i → i < b → C2 i = C i) : mG C2 wk a b s bit := fun L V st hV => by
  rw [rm_cg _ _ _ (fun i q1 q2 => e i q1 (by omega))]
  exact h L V st hV
theorem mG.no (h : mG C wk a b s bit) : mG C wk a b s false := fun L V st hV => by
  obtain ⟨x, h1, h2, _⟩ := h L V st hV
  exact ⟨x, h1, h2, fun q => by cases q⟩
theorem m_num {v : Int} (h : C a = (0, v)) : mG C wk a (a + 1) (fun _ => some v) false := fun L V st hV => by
  refine ⟨(false, v), ?_, rfl, fun q => by cases q⟩
  rw [rm_one]
  unfold e1
  rw [h]
  dsimp only
  rw [if_neg (by decide), if_neg (by decide), if_pos rfl]
theorem m_let {j : Nat} (h : C a = (1, chrL j)) (hj : j < 11) (ha : asks wk j = true) : mG C wk a (a + 1) (fun L => some (L j)) false := fun L V st hV => by
  refine ⟨(false, L j), ?_, rfl, fun q => by cases q⟩
  rw [rm_one]
  unfold e1
  rw [h]
  dsimp only
  rw [if_neg (by decide), if_neg (by decide), if_neg (by decide), hV j hj ha]
theorem m_not {w : Int} (g : mG C wk a b s true) (hab : a ≤ b) (h : C b = (2, w)) : mG C wk a (b + 1) (notS s) true := fun L V st hV => by
  obtain ⟨x, h1, h2, h3⟩ := g L V st hV
  have hx := h3 rfl
  refine ⟨(x.1, 1 - x.2), ?_, ?_, fun _ => by dsimp only; omega⟩
  · rw [rm_app (b := b) hab (by omega), h1]
    show rm C V (b + 1 - b) b (x :: st) = _
    rw [rm_one]
    unfold e1
    rw [h]
    dsimp only
    rw [if_neg (by decide), if_pos rfl]
    exact if_pos hx
  · unfold notS
    rw [h2]
    cases x.1 <;> rfl
theorem wrk_reck {op x y : Int} (ho : op = 42 ∨ op = 43 ∨ op = 45 ∨ op = 47 ∨ op = 37) (h : ¬ (y = 0 ∧ (op = 47 ∨ op = 37))) : wrk op x y = reck op x y := by
  unfold wrk reck
  rcases ho with rfl | rfl | rfl | rfl | rfl
  · exact ((if_neg (by decide)).trans (if_pos rfl)).trans (if_pos rfl).symm
  · exact ((if_neg (by decide)).trans ((if_neg (by decide)).trans (if_pos rfl))).trans ((if_neg (by decide)).trans (if_pos rfl)).symm
  · exact ((if_neg (by decide)).trans ((if_neg (by decide)).trans ((if_neg (by decide)).trans (if_pos rfl)))).trans ((if_neg (by decide)).trans ((if_neg (by decide)).trans (if_pos rfl))).symm
  · have hy : ¬ y = 0 := fun q => h ⟨q, Or.inl rfl⟩
    exact ((if_neg (by decide)).trans ((if_neg (by decide)).trans ((if_neg (by decide)).trans ((if_neg (by decide)).trans ((if_pos rfl).trans (if_neg hy)))))).trans ((if_neg (by decide)).trans ((if_neg (by decide)).trans ((if_neg (by decide)).trans (if_pos rfl)))).symm
  · have hy : ¬ y = 0 := fun q => h ⟨q, Or.inr rfl⟩
    exact ((if_pos rfl).trans (if_neg hy)).trans ((if_neg (by decide)).trans ((if_neg (by decide)).trans ((if_neg (by decide)).trans (if_neg (by decide))))).symm
theorem wrk_cmp {op x y : Int} (ho : op = 60 ∨ op = 62 ∨ op = 61) : wrk op x y = cmpV op x y := by
  unfold wrk cmpV
  rw [if_neg (by omega), if_neg (by omega), if_neg (by omega), if_neg (by omega), if_neg (by omega)]
theorem m_bin {op w : Int} {sb : Sem} {bt : Bool} {t1 t2 : Bool} (g1 : mG C wk a b s1 t1) (g2 : mG C wk b c s2 t2) (hab : a ≤ b) (hbc : b ≤ c) (h : C c = (op, w)) (ho : 2 < op)
    (hs : ∀ (L : Nat → Int) (x y : Bool × Int), s1 L = (if x.1 then none else some x.2) → s2 L = (if y.1 then none else some y.2) → (t1 = true → x.2 = 0 ∨ x.2 = 1) → (t2 = true → y.2 = 0 ∨ y.2 = 1) → sb L = (if (dsF op x y).1 then none else some (dsF op x y).2) ∧ (bt = true → (dsF op x y).2 = 0 ∨ (dsF op x y).2 = 1)) : mG C wk a (c + 1) sb bt := fun L V st hV => by
  obtain ⟨x, h1, h2, h3⟩ := g1 L V st hV
  obtain ⟨y, k1, k2, k3⟩ := g2 L V (x :: st) hV
  obtain ⟨r1, r2⟩ := hs L x y h2 k2 h3 k3
  refine ⟨dsF op x y, ?_, r1, r2⟩
  rw [rm_app (b := b) hab (by omega), h1]
  show rm C V (c + 1 - b) b (x :: st) = _
  rw [rm_app (b := c) hbc (by omega), k1]
  show rm C V (c + 1 - c) c (y :: x :: st) = _
  rw [rm_one]
  unfold e1
  rw [h]
  dsimp only
  rw [if_pos ho]
  rfl
theorem m_bop {op w : Int} (g1 : mG C wk a b s1 false) (g2 : mG C wk b c s2 false) (hab : a ≤ b) (hbc : b ≤ c) (h : C c = (op, w)) (ho : op = 42 ∨ op = 43 ∨ op = 45 ∨ op = 47 ∨ op = 37) : mG C wk a (c + 1) (bopS op s1 s2) false := by
  refine m_bin g1 g2 hab hbc h (by omega) (fun L x y e1 e2 _ _ => ⟨?_, fun q => by cases q⟩)
  have hd : dsF op x y = (x.1 || y.1 || (decide (op = 47 ∨ op = 37) && decide (y.2 = 0)), wrk op x.2 y.2) := by
    unfold dsF
    rw [if_neg (by omega), if_neg (by omega)]
  rw [hd]
  unfold bopS
  rw [e1, e2]
  cases hx : x.1 with
  | true => rfl
  | false =>
    cases hy : y.1 with
    | true => rfl
    | false =>
      show (if y.2 = 0 ∧ (op = 47 ∨ op = 37) then none else some (reck op x.2 y.2)) = if (decide (op = 47 ∨ op = 37) && decide (y.2 = 0)) = true then none else some (wrk op x.2 y.2)
      by_cases q : y.2 = 0 ∧ (op = 47 ∨ op = 37)
      · rw [if_pos q, decide_eq_true q.1, decide_eq_true q.2]
        rfl
      · rw [if_neg q, wrk_reck ho q, if_neg]
        rw [Bool.and_eq_true, decide_eq_true_iff, decide_eq_true_iff]
        exact fun z => q ⟨z.2, z.1⟩
theorem m_cmp {op w : Int} (g1 : mG C wk a b s1 false) (g2 : mG C wk b c s2 false) (hab : a ≤ b) (hbc : b ≤ c) (h : C c = (op, w)) (ho : op = 60 ∨ op = 62 ∨ op = 61) : mG C wk a (c + 1) (cmpS op s1 s2) true := by
  refine m_bin g1 g2 hab hbc h (by omega) (fun L x y e1 e2 _ _ => ?_)
  have hd : dsF op x y = (x.1 || y.1 || (decide (op = 47 ∨ op = 37) && decide (y.2 = 0)), wrk op x.2 y.2) := by
    unfold dsF
    rw [if_neg (by omega), if_neg (by omega)]
  rw [hd, decide_eq_false (by omega : ¬ (op = 47 ∨ op = 37)), Bool.false_and, Bool.or_false, wrk_cmp ho]
  refine ⟨?_, fun _ => ?_⟩
  · unfold cmpS
    rw [e1, e2]
    cases hx : x.1 with
    | true => rfl
    | false =>
      cases hy : y.1 with
      | true => rfl
      | false => rfl
  · dsimp only
    unfold cmpV
    repeat' split
    all_goals first | exact Or.inl rfl | exact Or.inr rfl
theorem m_and {w : Int} (g1 : mG C wk a b s1 true) (g2 : mG C wk b c s2 true) (hab : a ≤ b) (hbc : b ≤ c) (h : C c = (38, w)) : mG C wk a (c + 1) (andS s1 s2) true := by
  refine m_bin g1 g2 hab hbc h (by decide) (fun L x y e1 e2 t1 t2 => ?_)
  have hx := t1 rfl
  have hy := t2 rfl
  obtain ⟨xr, xv⟩ := x
  have hd : dsF 38 (xr, xv) y = if xr = false ∧ xv = 1 then y else (xr, xv) := if_pos rfl
  unfold andS
  cases xr with
  | true =>
    have e1' : s1 L = none := e1
    rw [e1', hd.trans (if_neg (fun q => by have z := q.1; cases z))]
    exact ⟨rfl, fun _ => hx⟩
  | false =>
    have e1' : s1 L = some xv := e1
    rw [e1']
    by_cases q : xv = 1
    · rw [hd.trans (if_pos ⟨rfl, q⟩)]
      refine ⟨?_, fun _ => hy⟩
      show (if xv = 1 then s2 L else some 0) = _
      rw [if_pos q, e2]
    · rw [hd.trans (if_neg (fun z => q z.2))]
      refine ⟨?_, fun _ => hx⟩
      have h0 : xv = 0 := by
        have hx' : xv = 0 ∨ xv = 1 := hx
        omega
      show (if xv = 1 then s2 L else some 0) = some xv
      rw [if_neg q, h0]
theorem m_or {w : Int} (g1 : mG C wk a b s1 true) (g2 : mG C wk b c s2 true) (hab : a ≤ b) (hbc : b ≤ c) (h : C c = (124, w)) : mG C wk a (c + 1) (orS s1 s2) true := by
  refine m_bin g1 g2 hab hbc h (by decide) (fun L x y e1 e2 t1 t2 => ?_)
  have hx := t1 rfl
  have hy := t2 rfl
  obtain ⟨xr, xv⟩ := x
  have hd : dsF 124 (xr, xv) y = if xr = false ∧ xv = 0 then y else (xr, xv) := (if_neg (by decide)).trans (if_pos rfl)
  unfold orS
  cases xr with
  | true =>
    have e1' : s1 L = none := e1
    rw [e1', hd.trans (if_neg (fun q => by have z := q.1; cases z))]
    exact ⟨rfl, fun _ => hx⟩
  | false =>
    have e1' : s1 L = some xv := e1
    have hx' : xv = 0 ∨ xv = 1 := hx
    rw [e1']
    by_cases q : xv = 0
    · rw [hd.trans (if_pos ⟨rfl, q⟩)]
      refine ⟨?_, fun _ => hy⟩
      show (if xv = 1 then some 1 else s2 L) = _
      rw [if_neg (by omega), e2]
    · rw [hd.trans (if_neg (fun z => q z.2))]
      refine ⟨?_, fun _ => hx⟩
      have h1 : xv = 1 := by omega
      show (if xv = 1 then some 1 else s2 L) = some xv
      rw [if_pos h1, h1]
end MG
section W102
variable {M : Mm}
theorem w187 {c x y : Int} {P : Int → Prop} (k : P (wrk c x y)) : Wp (f187 c x y M) P := by
  unfold f187
  unfold wrk at k
  refine wp_ite (fun d => ?_) (fun d => ?_)
  · rw [if_pos d] at k
    refine wp_ite (fun d2 => wp_some ?_) (fun d2 => wp_gd d2 (wp_some ?_))
    · rw [if_pos d2] at k
      exact k
    · rw [if_neg d2] at k
      exact k
  rw [if_neg d] at k
  refine wp_ite (fun d => wp_some ?_) (fun d => ?_)
  · rw [if_pos d] at k
    exact k
  rw [if_neg d] at k
  refine wp_ite (fun d => wp_some ?_) (fun d => ?_)
  · rw [if_pos d] at k
    exact k
  rw [if_neg d] at k
  refine wp_ite (fun d => wp_some ?_) (fun d => ?_)
  · rw [if_pos d] at k
    exact k
  rw [if_neg d] at k
  refine wp_ite (fun d => ?_) (fun d => ?_)
  · rw [if_pos d] at k
    refine wp_ite (fun d2 => wp_some ?_) (fun d2 => wp_gd d2 (wp_some ?_))
    · rw [if_pos d2] at k
      exact k
    · rw [if_neg d2] at k
      exact k
  rw [if_neg d] at k
  refine wp_ite (fun d => ?_) (fun d => ?_)
  · rw [if_pos d] at k
    refine wp_ite (fun d2 => wp_some ?_) (fun d2 => wp_some ?_)
    · rw [if_pos d2] at k
      exact k
    · rw [if_neg d2] at k
      exact k
  rw [if_neg d] at k
  refine wp_ite (fun d => ?_) (fun d => ?_)
  · rw [if_pos d] at k
    refine wp_ite (fun d2 => wp_some ?_) (fun d2 => wp_some ?_)
    · rw [if_pos d2] at k
      exact k
    · rw [if_neg d2] at k
      exact k
  rw [if_neg d] at k
  refine wp_ite (fun d2 => wp_some ?_) (fun d2 => wp_some ?_)
  · rw [if_pos d2] at k
    exact k
  · rw [if_neg d2] at k
    exact k
theorem w102 {c : Int} {i : Nat} {a b : Bool × Int} {P : Mm → Prop} (hi : i < 199) (ha : M 178 i = a.2 ∧ M 179 i = (if a.1 then 1 else 0)) (hb : M 178 (i + 1) = b.2 ∧ M 179 (i + 1) = (if b.1 then 1 else 0))
    (k : ∀ M2 : Mm, (∀ d, d ≠ 178 → d ≠ 179 → M2 d = M d) → (∀ j, j ≠ i → M2 178 j = M 178 j ∧ M2 179 j = M 179 j) → M2 178 i = (dsF c a b).2 → M2 179 i = (if (dsF c a b).1 then 1 else 0) → P M2) : Wp (f102 c (i : Int) M) P := by
  have t1 : ((i : Int) + 1).toNat = i + 1 := by omega
  have st : ∀ (v u : Int), v = (dsF c a b).2 → u = (if (dsF c a b).1 then 1 else 0) → ∀ M2 : Mm, (∀ d, d ≠ 178 → d ≠ 179 → M2 d = M d) → (∀ j, j ≠ i → M2 178 j = M 178 j ∧ M2 179 j = M 179 j) → M2 178 i = v → M2 179 i = u → P M2 := fun v u hv hu M2 q1 q2 q3 q4 => k M2 q1 q2 (q3.trans hv) (q4.trans hu)
  unfold f102
  refine wp_gd (by omega) ?_
  have jmp : (c = 38 ∨ c = 124) → Wp (f102_16 c (i : Int) ((i : Int) + 1) M) P := fun hc => by
    have same : dsF c a b = a → P M := fun q => st a.2 _ (by rw [q]) (by rw [q]) M (fun _ _ _ => rfl) (fun _ _ => ⟨rfl, rfl⟩) ha.1 ha.2
    have cpy : dsF c a b = b → Wp (f102_47 (i : Int) ((i : Int) + 1) M) P := fun q => by
      unfold f102_47
      rw [t1, Int.toNat_natCast]
      refine wp_gd (by omega) (wp_gd (by omega) (wp_mlet ?_))
      rw [ms_a (by decide : (179 : Nat) ≠ 178), hb.1, hb.2]
      refine wp_gd (by cases b.1 <;> decide) (wp_mlet (wp_some (st b.2 _ (by rw [q]) (by rw [q]) _ (fun d h1 h2 => (ms_a h2).trans (ms_a h1)) (fun j hj => ⟨(by rw [ms_a (by decide), ms_i hj]), (by rw [ms_i hj, ms_a (by decide)])⟩) (by rw [ms_a (by decide), ms_v]) ms_v)))
    unfold f102_16
    rw [Int.toNat_natCast, ha.1, ha.2]
    refine wp_gd (by omega) ?_
    cases h1 : a.1 with
    | true =>
      refine wp_neg (by decide) (wp_some (same ?_))
      rcases hc with rfl | rfl
      · exact dsF_38.trans (if_neg (fun q => by rw [h1] at q; exact absurd q.1 (by decide)))
      · exact dsF_124.trans (if_neg (fun q => by rw [h1] at q; exact absurd q.1 (by decide)))
    | false =>
      refine wp_pos rfl ?_
      rcases hc with rfl | rfl
      · exact wp_pos rfl (wp_ite (fun d => cpy (dsF_38.trans (if_pos ⟨h1, d⟩))) (fun d => wp_some (same (dsF_38.trans (if_neg (fun q => d q.2))))))
      · exact wp_neg (by decide) (wp_ite (fun d => cpy (dsF_124.trans (if_pos ⟨h1, d⟩))) (fun d => wp_some (same (dsF_124.trans (if_neg (fun q => d q.2))))))
  refine wp_ite (fun d => jmp (Or.inl d)) (fun d => wp_ite (fun d2 => jmp (Or.inr d2)) (fun d2 => ?_))
  have hds : dsF c a b = (a.1 || b.1 || (decide (c = 47 ∨ c = 37) && decide (b.2 = 0)), wrk c a.2 b.2) := by
    unfold dsF
    rw [if_neg d, if_neg d2]
  have fin : ∀ u : Int, u = (if (a.1 || b.1 || (decide (c = 47 ∨ c = 37) && decide (b.2 = 0))) = true then 1 else 0) → Wp (mlet (ms M 179 i u) fun M10 => (f187 c (M10 178 i) (M10 178 (i + 1)) M10).bind fun v => mlet (ms M10 178 i v) fun M17 => some M17) P := fun u hu => by
    refine wp_mlet ?_
    rw [ms_a (by decide : (178 : Nat) ≠ 179), ha.1, hb.1]
    refine wp_bind (w187 (wp_mlet (wp_some (st (wrk c a.2 b.2) u (by rw [hds]) (by rw [hds, hu]) _ (fun d h1 h2 => (ms_a h1).trans (ms_a h2)) (fun j hj => ⟨(by rw [ms_i hj, ms_a (by decide)]), (by rw [ms_a (by decide), ms_i hj])⟩) ms_v (by rw [ms_a (by decide), ms_v])))))
  rw [Int.toNat_natCast, t1]
  refine wp_gd (by omega) ?_
  rw [ha.2, hb.2]
  cases h1 : a.1 with
  | true =>
    refine wp_neg (by decide) (wp_mlet (wp_gd (by omega) ?_))
    exact fin 1 (by rw [h1]; rfl)
  | false =>
    refine wp_pos rfl (wp_gd (by omega) ?_)
    cases h2 : b.1 with
    | true => exact wp_neg (by decide) (fin 1 (by rw [h1, h2]; rfl))
    | false =>
      refine wp_pos rfl ?_
      rw [hb.1]
      refine wp_ite (fun d3 => wp_ite (fun d4 => fin 1 ?_) (fun d4 => fin 0 ?_)) (fun d3 => wp_ite (fun d5 => wp_ite (fun d4 => fin 1 ?_) (fun d4 => fin 0 ?_)) (fun d5 => fin 0 ?_))
      · rw [h1, h2, decide_eq_true (Or.inl d3 : c = 47 ∨ c = 37), decide_eq_true d4]; rfl
      · rw [h1, h2, decide_eq_false d4, Bool.and_false]; rfl
      · rw [h1, h2, decide_eq_true (Or.inr d5 : c = 47 ∨ c = 37), decide_eq_true d4]; rfl
      · rw [h1, h2, decide_eq_false d4, Bool.and_false]; rfl
      · rw [h1, h2, decide_eq_false (by omega : ¬ (c = 47 ∨ c = 37))]; rfl
end W102
def cm2 (M : Mm) (i : Nat) : Int × Int := (M 170 i, M 171 i)
/-- one clause of the second object -/
theorem w121 {M T : Mm} {k0 a b : Nat} {wk : Bool} {s : Sem} {z thing : Nat} {L : Nat → Int} {P : Int × Mm → Prop} (hk0 : k0 < 12) (hab : a ≤ b) (hb : b ≤ 160) (hT : ∀ d, 167 ≤ d → d ≤ 171 → M d = T d)
    (hfrom : T 168 k0 = a) (hto : T 169 k0 = b) (hG : mG (cm2 T) wk a b s true) (hok : okM (cm2 T) wk a b)
    (hV : ∀ j, asks wk j = true → ∀ M2 : Mm, (∀ c, c ≠ 178 → c ≠ 179 → M2 c = M c) → ∀ Q : Int → Prop, Q (L j) → Wp (f183 (chrL j) M2) Q)
    (k : ∀ M2 : Mm, (∀ c, c ≠ 178 → c ≠ 179 → M2 c = M c) → P (if s L = some 1 then 1 else 0, M2)) : Wp (f121 (k0 : Int) M) P := by
  let V : Int → Int := fun c => L (((List.range 11).find? (fun j => chrL j == c)).getD 0)
  have hVL : ∀ j, j < 11 → V (chrL j) = L j := fun j hj => by
    have := (by decide : ∀ j : Nat, j < 11 → ((List.range 11).find? (fun i => chrL i == chrL j)).getD 0 = j) j hj
    show L _ = L j
    rw [this]
  obtain ⟨x, g1, g2, g3⟩ := hG L V [] (fun j hj _ => hVL j hj)
  have e68 : M 168 = T 168 := hT 168 (by decide) (by decide)
  unfold f121 f121_9
  rw [Int.toNat_natCast, e68, hfrom]
  refine wp_gd (by omega) ?_
  let I : Nat → Int → Int → Mm → Prop := fun m x2 x3 M2 => ∃ (p : Nat) (st : Vs), x3 = p ∧ a ≤ p ∧ p ≤ b ∧ m = b - p ∧ x2 = st.length ∧ st.length ≤ p - a ∧ smR (M2 178) (M2 179) st ∧ (∀ c, c ≠ 178 → c ≠ 179 → M2 c = M c) ∧ rm (cm2 T) V (b - p) p st = some [x]
  refine wp_lp3 I (b - a) (by omega) ⟨a, [], rfl, Nat.le_refl _, hab, rfl, rfl, Nat.zero_le _, trivial, fun _ _ _ => rfl, g1⟩ ?_
  rintro m x2 x3 M2 ⟨p, st, rfl, h1, h2, h3, rfl, h4, h5, h6, h7⟩
  dsimp only
  unfold lb121_9
  have e169 : M2 169 = T 169 := (h6 169 (by decide) (by decide)).trans (hT 169 (by decide) (by decide))
  have e170 : M2 170 = T 170 := (h6 170 (by decide) (by decide)).trans (hT 170 (by decide) (by decide))
  have e171 : M2 171 = T 171 := (h6 171 (by decide) (by decide)).trans (hT 171 (by decide) (by decide))
  rw [Int.toNat_natCast, e169, hto]
  refine wp_gd (by omega) (wp_ite (fun d => ?_) (fun d => ?_))
  · have hpb : p < b := by omega
    rw [rm_app (b := p + 1) (by omega) (by omega), rm_one] at h7
    have hc1 : (cm2 T p).1 = T 170 p := rfl
    have hc2 : (cm2 T p).2 = T 171 p := rfl
    have next : ∀ (M3 : Mm) (st2 : Vs) (y : Int), y = st2.length → st2.length ≤ p + 1 - a → smR (M3 178) (M3 179) st2 → (∀ c, c ≠ 178 → c ≠ 179 → M3 c = M c) → e1 (cm2 T) V p st = some st2 → Wp (f121_124 (k0 : Int) y (p : Int) M3) (Sum.elim (up3 I m) P) := fun M3 st2 y q0 q1 q2 q3 q4 => by
      unfold f121_124
      refine wp_gd (by omega) (wp_i3 (m - 1) (by omega) ⟨p + 1, st2, by omega, by omega, by omega, by omega, q0, q1, q2, q3, ?_⟩)
      rw [q4] at h7
      exact h7
    have he : e1 (cm2 T) V p st = if 2 < T 170 p then bnV (T 170 p) st
  else if T 170 p = 2 then ntV st
  else if T 170 p = 0 then some ((false, T 171 p) :: st)
  else some ((false, V (T 171 p)) :: st) := rfl
    have hsome : ∃ st2, e1 (cm2 T) V p st = some st2 := by
      cases q : e1 (cm2 T) V p st with
      | none => rw [q] at h7; cases h7
      | some st2 => exact ⟨st2, rfl⟩
    refine wp_gd (by omega) ?_
    rw [Int.toNat_natCast, e170]
    refine wp_ite (fun d2 => ?_) (fun d2 => wp_ite (fun d3 => ?_) (fun d3 => ?_))
    · rw [if_pos d2] at he
      obtain ⟨v, u, st2, rfl⟩ : ∃ v u st2, st = v :: u :: st2 := by
        cases st with
        | nil =>
          obtain ⟨_, hs⟩ := hsome
          rw [he] at hs
          cases hs
        | cons x st =>
          cases st with
          | nil =>
            obtain ⟨_, hs⟩ := hsome
            rw [he] at hs
            cases hs
          | cons y st => exact ⟨x, y, st, rfl⟩
      · have hl : ((v :: u :: st2).length : Int) = st2.length + 2 := by rw [List.length_cons, List.length_cons]; omega
        rw [List.length_cons, List.length_cons] at h4
        rw [hl]
        refine wp_gd (by omega) (wp_gd (by omega) ?_)
        rw [show (st2.length : Int) + 2 + -1 - 1 = (st2.length : Int) by omega]
        refine wp_bind (w102 (a := u) (b := v) (by omega) h5.2.1 h5.1 (fun M3 q1 q2 q3 q4 => ?_))
        refine next M3 (dsF (T 170 p) u v :: st2) _ (by rw [List.length_cons]; omega) (by rw [List.length_cons]; omega) ⟨⟨q3, q4⟩, smR_to h5.2.2 (fun i hi => q2 i (by omega))⟩ (fun c h1 h2 => (q1 c h1 h2).trans (h6 c h1 h2)) he
    · rw [if_neg d2, if_pos d3] at he
      obtain ⟨u, st2, rfl⟩ : ∃ u st2, st = u :: st2 := by
        cases st with
        | nil =>
          obtain ⟨_, hs⟩ := hsome
          rw [he] at hs
          cases hs
        | cons y st => exact ⟨y, st, rfl⟩
      · have hl : ((u :: st2).length : Int) = st2.length + 1 := by rw [List.length_cons]; omega
        rw [List.length_cons] at h4
        have he' : e1 (cm2 T) V p (u :: st2) = if u.2 = 0 ∨ u.2 = 1 then some ((u.1, 1 - u.2) :: st2) else none := he
        have hu : u.2 = 0 ∨ u.2 = 1 := by
          by_cases q : u.2 = 0 ∨ u.2 = 1
          · exact q
          · obtain ⟨_, hs⟩ := hsome
            rw [he', if_neg q] at hs
            cases hs
        rw [if_pos hu] at he'
        rw [hl]
        have t1 : ((st2.length : Int) + 1 - 1).toNat = st2.length := by omega
        rw [t1, h5.1.1]
        refine wp_gd (by omega) (wp_gd (by omega) (wp_gd (by omega) (wp_mlet ?_)))
        refine next _ ((u.1, 1 - u.2) :: st2) _ (by rw [List.length_cons]; omega) (by rw [List.length_cons]; omega) ⟨⟨ms_v, by rw [ms_a (by decide)]; exact h5.1.2⟩, smR_to h5.2 (fun i hi => ⟨ms_i (by omega), by rw [ms_a (by decide)]⟩)⟩ (fun c h1 h2 => (ms_a h1).trans (h6 c h1 h2)) he'
    · rw [if_neg d2, if_neg d3] at he
      refine wp_gd (by omega) (wp_mlet ?_)
      rw [Int.toNat_natCast, ms_a (by decide : (170 : Nat) ≠ 179), e170, ms_a (by decide : (171 : Nat) ≠ 179), e171]
      have push : ∀ v : Int, smR (ms (ms M2 179 st.length 0) 178 st.length v 178) (ms (ms M2 179 st.length 0) 178 st.length v 179) ((false, v) :: st) := fun v => ⟨⟨ms_v, by rw [ms_a (by decide), ms_v]; rfl⟩, smR_to h5 (fun i hi => ⟨by rw [ms_i (by omega), ms_a (by decide)], by rw [ms_a (by decide), ms_i (by omega)]⟩)⟩
      refine wp_ite (fun d4 => ?_) (fun d4 => ?_)
      · rw [if_pos d4] at he
        refine wp_mlet (wp_gd (by omega) (next _ ((false, T 171 p) :: st) _ (by rw [List.length_cons]; omega) (by rw [List.length_cons]; omega) (push _) (fun c h1 h2 => (ms_a h1).trans ((ms_a h2).trans (h6 c h1 h2))) he))
      · rw [if_neg d4] at he
        rcases hok p h1 hpb with d5 | d5 | ⟨_, j, hj, hj2, hj3⟩
        · exact (d4 d5).elim
        · rw [hc1] at d5
          omega
        · rw [hc2] at hj2
          rw [hj2, hVL j hj] at he
          rw [hj2]
          refine wp_bind (hV j hj3 _ (fun c h1 h2 => (ms_a h2).trans (h6 c h1 h2)) _ (wp_mlet (wp_gd (by omega) (next _ ((false, L j) :: st) _ (by rw [List.length_cons]; omega) (by rw [List.length_cons]; omega) (push _) (fun c h1 h2 => (ms_a h1).trans ((ms_a h2).trans (h6 c h1 h2))) he))))
  · have e : p = b := by omega
    subst e
    rw [Nat.sub_self] at h7
    have e2 : st = [x] := by
      have : some st = some [x] := h7
      injection this
    subst e2
    refine wp_o ?_
    have h51 : M2 178 0 = x.2 := h5.1.1
    have h52 : M2 179 0 = (if x.1 then 1 else 0) := h5.1.2
    rw [h52, h51]
    have hk := k M2 h6
    rw [g2] at hk
    cases hx : x.1 with
    | true =>
      rw [hx] at hk
      exact wp_neg (by decide) (wp_some hk)
    | false =>
      rw [hx] at hk
      refine wp_pos rfl (wp_ite (fun d2 => wp_some ?_) (fun d2 => wp_some ?_))
      · rw [d2] at hk
        exact hk
      · rw [if_neg (fun q => d2 (by injection q))] at hk
        exact hk
/-- the clauses l stand in the codes of memory T -/
def txW (l : List (Bool × Sem)) (T : Mm) : Prop := T 142 6 = l.length ∧ l.length ≤ 12 ∧ ∃ e : Nat → Nat, ∀ (j : Nat) (x : Bool × Sem), l[j]? = some x → e j ≤ e (j + 1) ∧ e (j + 1) ≤ 160 ∧ T 167 j = (if x.1 then 111 else 116) ∧ T 168 j = e j ∧ T 169 j = e (j + 1) ∧ okM (cm2 T) x.1 (e j) (e (j + 1)) ∧ mG (cm2 T) x.1 (e j) (e (j + 1)) x.2 true
theorem txW_M {l : List (Bool × Sem)} {T : Mm} (hV : txW l T) : txM (kOf l) T := fun M h6 hT b z thing L P hq k => by
  obtain ⟨v0, v1, e, v3⟩ := hV
  unfold f122
  refine wp_mlet (wp_mlet (wp_gd (by cases b <;> decide) (wp_mlet ?_)))
  have g54 : ms (ms (ms M 142 54 (z : Int)) 142 55 (thing : Int)) 142 56 (if b = true then 0 else 1) 142 54 = z := by rw [ms_i (by decide), ms_i (by decide), ms_v]
  have g55 : ms (ms (ms M 142 54 (z : Int)) 142 55 (thing : Int)) 142 56 (if b = true then 0 else 1) 142 55 = thing := by rw [ms_i (by decide), ms_v]
  have g56 : ms (ms (ms M 142 54 (z : Int)) 142 55 (thing : Int)) 142 56 (if b = true then 0 else 1) 142 56 = (if b = true then 0 else 1) := ms_v
  have gi : ∀ i, i ≠ 54 → i ≠ 55 → i ≠ 56 → ms (ms (ms M 142 54 (z : Int)) 142 55 (thing : Int)) 142 56 (if b = true then 0 else 1) 142 i = M 142 i := fun i h1 h2 h3 => by rw [ms_i h3, ms_i h2, ms_i h1]
  have ga : ∀ c, c ≠ 142 → ms (ms (ms M 142 54 (z : Int)) 142 55 (thing : Int)) 142 56 (if b = true then 0 else 1) c = M c := fun c hc => by rw [ms_a hc, ms_a hc, ms_a hc]
  generalize ms (ms (ms M 142 54 (z : Int)) 142 55 (thing : Int)) 142 56 (if b = true then 0 else 1) = M0 at g54 g55 g56 gi ga ⊢
  have fin : ∀ (M2 : Mm) (v : Int), (∀ c, c ≠ 178 → c ≠ 179 → M2 c = M0 c) → v = (if kOf l b L then 1 else 0) → P (v, M2) := fun M2 v q1 q2 => by
    rw [q2]
    exact k M2 (fun c h1 h2 h3 => (q1 c h2 h3).trans (ga c h1)) (fun i h1 h2 h3 => by rw [q1 142 (by decide) (by decide)]; exact gi i h1 h2 h3)
  unfold f122_18
  let I : Nat → Int → Mm → Prop := fun m y M2 => ∃ j : Nat, y = j ∧ j ≤ l.length ∧ m = l.length - j ∧ (∀ c, c ≠ 178 → c ≠ 179 → M2 c = M0 c) ∧ kOf (l.take j) b L = false
  refine wp_lp2 I l.length (by omega) ⟨0, rfl, Nat.zero_le _, rfl, fun _ _ _ => rfl, rfl⟩ ?_
  rintro m y M2 ⟨j, rfl, h1, h2, h3, h4⟩
  dsimp only
  unfold lb122_18
  have e6 : M2 142 6 = l.length := by rw [h3 142 (by decide) (by decide), gi 6 (by decide) (by decide) (by decide), h6]; exact v0
  have eT : ∀ d, 167 ≤ d → d ≤ 171 → M2 d = T d := fun d q1 q2 => (h3 d (by omega) (by omega)).trans ((ga d (by omega)).trans (hT d q1 q2))
  rw [e6]
  refine wp_ite (fun d => ?_) (fun d => wp_o (wp_some (fin M2 0 h3 ?_)))
  · have hj : j < l.length := by omega
    obtain ⟨x, hx⟩ : ∃ x, l[j]? = some x := ⟨l[j], List.getElem?_eq_getElem hj⟩
    obtain ⟨a1, a2, a3, a4, a5, a6, a7⟩ := v3 j x hx
    have htk : l.take (j + 1) = l.take j ++ [x] := by rw [List.take_add_one, hx]; rfl
    have hk1 : kOf (l.take (j + 1)) b L = (x.1 == b && x.2 L == some 1) := by
      unfold kOf at h4 ⊢
      rw [htk, List.any_append, h4, List.any_cons, List.any_nil, Bool.or_false, Bool.false_or]
    have next : ∀ M3 : Mm, (∀ c, c ≠ 178 → c ≠ 179 → M3 c = M0 c) → (x.1 == b && x.2 L == some 1) = false → Wp (f122_59 (if b = true then 0 else 1) (j : Int) M3) (Sum.elim (up2 I m) P) := fun M3 q1 q2 => by
      unfold f122_59
      exact wp_gd (by omega) (wp_i2 (m - 1) (by omega) ⟨j + 1, by omega, by omega, by omega, q1, hk1.trans q2⟩)
    have ask : x.1 = b → Wp (f122_48 (if b = true then 0 else 1) (j : Int) M2) (Sum.elim (up2 I m) P) := fun hxb => by
      unfold f122_48
      refine wp_obnd (w121 (T := T) (L := L) (wk := x.1) (s := x.2) (z := z) (thing := thing) (by omega) a1 a2 eT a4 a5 a7 a6 (fun i hi M3 q1 Q hQ => ?_) (fun M3 q1 => ?_))
      · rw [hxb] at hi
        have q2 : ∀ c, c ≠ 178 → c ≠ 179 → M3 c = M0 c := fun c h1 h2 => (q1 c h1 h2).trans (h3 c h1 h2)
        exact hq i (asks_rel hi) M3 (fun c h1 h2 h3 => (q2 c h2 h3).trans (ga c h1)) (fun i h1 h2 h3 => by rw [q2 142 (by decide) (by decide)]; exact gi i h1 h2 h3) (by rw [q2 142 (by decide) (by decide)]; exact g54) (by rw [q2 142 (by decide) (by decide)]; exact g55) (by rw [q2 142 (by decide) (by decide)]; exact g56) Q hQ
      · have q2 : ∀ c, c ≠ 178 → c ≠ 179 → M3 c = M0 c := fun c h1 h2 => (q1 c h1 h2).trans (h3 c h1 h2)
        have hbe : (x.1 == b) = true := by rw [beq_iff_eq]; exact hxb
        by_cases q : x.2 L = some 1
        · rw [if_pos q]
          refine wp_neg (show ¬ (1 : Int) = 0 by decide) (wp_o (wp_some (fin M3 1 q2 ?_)))
          have hk : kOf l b L = true := by
            unfold kOf
            rw [List.any_eq_true]
            refine ⟨x, List.mem_of_getElem? hx, ?_⟩
            rw [hbe, q]
            rfl
          rw [hk]
          rfl
        · rw [if_neg q]
          refine wp_pos rfl (next M3 q2 ?_)
          rw [show (x.2 L == some 1) = false by rw [beq_eq_false_iff_ne]; exact q, Bool.and_false]
    have skp : x.1 ≠ b → Wp (f122_59 (if b = true then 0 else 1) (j : Int) M2) (Sum.elim (up2 I m) P) := fun hxb => next M2 h3 (by
      rw [show (x.1 == b) = false by rw [beq_eq_false_iff_ne]; exact hxb]
      rfl)
    refine wp_gd (by omega) ?_
    rw [Int.toNat_natCast, eT 167 (by decide) (by decide), a3]
    cases b with
    | true =>
      refine wp_pos rfl ?_
      cases hx1 : x.1 with
      | true => exact wp_pos rfl (ask hx1)
      | false => exact wp_neg (by decide) (skp (by rw [hx1]; decide))
    | false =>
      refine wp_neg (by decide) ?_
      cases hx1 : x.1 with
      | true => exact wp_neg (by decide) (skp (by rw [hx1]; decide))
      | false => exact wp_pos rfl (ask hx1)
  · have e : j = l.length := by omega
    rw [e, List.take_length] at h4
    rw [h4]
    rfl
