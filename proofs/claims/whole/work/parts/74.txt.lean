/-! What a text of rules says: read with at most six open at once. -/
abbrev Sem := (Nat → Int) → Option Int
abbrev Rs := Int ⊕ (Nat × Sem)
def flt (k : Int) (p : Nat) : Rs := .inl (-1000 * k - p)
def sb (r : Rs) (k : Nat → Sem → Rs) : Rs := match r with | .inl e => .inl e | .inr x => k x.1 x.2
def tms (c : Int) : Bool := c == 42 || c == 47 || c == 37
def pls (c : Int) : Bool := c == 43 || c == 45
def cps (c : Int) : Bool := c == 60 || c == 62 || c == 61
def dgt (c : Int) : Bool := decide (48 ≤ c) && decide (c ≤ 57)
def asks (wk : Bool) (j : Nat) : Bool := decide (j < 6) || (decide (j < 9) && !wk) || (decide (9 ≤ j) && decide (j < 11) && wk)
def ltr (wk : Bool) (c : Int) : Option Nat := (List.range 11).find? (fun j => chrL j == c && asks wk j)
noncomputable def reck (c x y : Int) : Int := if c = 42 then w8 (x * y) else if c = 43 then w8 (x + y) else if c = 45 then w8 (x - y) else if c = 47 then w8 (Int.tdiv x y) else w8 (Int.tmod x y)
def cmpV (c x y : Int) : Int := if c = 60 then (if x < y then 1 else 0) else if c = 62 then (if y < x then 1 else 0) else if x = y then 1 else 0
noncomputable def bopS (c : Int) (a b : Sem) : Sem := fun L => (a L).bind fun x => (b L).bind fun y => if y = 0 ∧ (c = 47 ∨ c = 37) then none else some (reck c x y)
def cmpS (c : Int) (a b : Sem) : Sem := fun L => (a L).bind fun x => (b L).bind fun y => some (cmpV c x y)
def notS (a : Sem) : Sem := fun L => (a L).bind fun x => some (1 - x)
def andS (a b : Sem) : Sem := fun L => (a L).bind fun x => if x = 1 then b L else some 0
def orS (a b : Sem) : Sem := fun L => (a L).bind fun x => if x = 1 then some 1 else b L
def zS : Sem := fun _ => some 0
section RD
variable (B : Nat → Int) (n : Nat) (wk : Bool)
def pkN (p : Nat) : Int := if p < n then B p else -1
def dgs : Nat → Nat → Int → Nat × Int
  | 0, p, v => (p, v)
  | k + 1, p, v => if dgt (pkN B n p) then dgs k (p + 1) (v * 10 + pkN B n p - 48) else (p, v)
def numP (p : Nat) : Rs := if dgt (pkN B n (dgs B n 6 p 0).1) then flt 2 (dgs B n 6 p 0).1 else .inr ((dgs B n 6 p 0).1, fun _ => some (dgs B n 6 p 0).2)
def facP (low : Option (Nat → Rs)) (p : Nat) : Rs :=
  if pkN B n p = 91 then (match low with
    | none => flt 5 p
    | some f => sb (f (p + 1)) fun q s => if pkN B n q = 93 then .inr (q + 1, s) else flt 1 q)
  else if dgt (pkN B n p) then numP B n p
  else match ltr wk (pkN B n p) with
    | some j => .inr (p + 1, fun L => some (L j))
    | none => flt 1 p
noncomputable def sumL (fac : Nat → Rs) : Nat → Nat → Int → Sem → Int → Sem → Rs
  | 0, p, _, _, _, _ => flt 1 p
  | k + 1, p, t, sT, a, sA => sb (fac p) fun q s =>
    if tms (pkN B n q) then sumL fac k (q + 1) (pkN B n q) (if t = 0 then s else bopS t sT s) a sA
    else if pls (pkN B n q) then sumL fac k (q + 1) 0 zS (pkN B n q) (if a = 0 then (if t = 0 then s else bopS t sT s) else bopS a sA (if t = 0 then s else bopS t sT s))
    else .inr (q, if a = 0 then (if t = 0 then s else bopS t sT s) else bopS a sA (if t = 0 then s else bopS t sT s))
noncomputable def sumD : Nat → Nat → Rs
  | 0, p => sumL B n (facP B n wk none) n p 0 zS 0 zS
  | d + 1, p => sumL B n (facP B n wk (some (sumD d))) n p 0 zS 0 zS
def cmpP (sum : Nat → Rs) (p : Nat) : Rs := sb (sum p) fun q s => if cps (pkN B n q) then sb (sum (q + 1)) (fun q2 s2 => .inr (q2, cmpS (pkN B n q) s s2)) else flt 1 q
def condL (pc : Nat → Rs) : Nat → Nat → Bool → Sem → Bool → Sem → Rs
  | 0, p, _, _, _, _ => flt 1 p
  | k + 1, p, ha, sA, ho, sO => sb (pc p) fun q s =>
    if pkN B n q = 38 then condL pc k (q + 1) true (if ha then andS sA s else s) ho sO
    else if pkN B n q = 124 then condL pc k (q + 1) false zS true (if ho then orS sO (if ha then andS sA s else s) else if ha then andS sA s else s)
    else .inr (q, if ho then orS sO (if ha then andS sA s else s) else if ha then andS sA s else s)
noncomputable def pieceD : Nat → Nat → Rs
  | 0, p => if pkN B n p = 40 ∨ pkN B n p = 33 then flt 5 p else cmpP B n (sumD B n wk 0) p
  | d + 1, p => if pkN B n p = 40 then sb (condL B n (pieceD d) n (p + 1) false zS false zS) (fun q s => if pkN B n q = 41 then .inr (q + 1, s) else flt 1 q)
    else if pkN B n p = 33 then sb (pieceD d (p + 1)) (fun q s => .inr (q, notS s))
    else cmpP B n (sumD B n wk (d + 1)) p
noncomputable def condD (d p : Nat) : Rs := condL B n (pieceD B n wk d) n p false zS false zS
end RD
noncomputable def clsL (B : Nat → Int) (n : Nat) : Nat → Nat → List (Bool × Sem) → Int ⊕ List (Bool × Sem)
  | 0, _, _ => .inl 0
  | k + 1, p, l =>
    if pkN B n p = 116 ∨ pkN B n p = 111 then (
      if 12 ≤ l.length then .inl (-4000 - p)
      else if pkN B n (p + 1) = 40 then (match condD B n (decide (pkN B n p = 111)) 5 (p + 2) with
        | .inl e => .inl e
        | .inr x => if pkN B n x.1 = 41 then (
            if x.1 + 1 = n then .inr (l ++ [(decide (pkN B n p = 111), x.2)])
            else if pkN B n (x.1 + 1) = 59 then clsL B n k (x.1 + 2) (l ++ [(decide (pkN B n p = 111), x.2)])
            else .inl (-1000 - (x.1 + 1 : Nat)))
          else .inl (-1000 - (x.1 : Nat)))
      else .inl (-1000 - (p + 1 : Nat)))
    else .inl (-1000 - p)
/-- what the clauses read say of a thing -/
def kOf (l : List (Bool × Sem)) (b : Bool) (L : Nat → Int) : Bool := l.any (fun x => x.1 == b && x.2 L == some 1)
/-! What is read: it goes on, it stays within, it asks only what may be asked. -/
def extS (wk : Bool) (s : Sem) : Prop := ∀ L L2 : Nat → Int, (∀ j, asks wk j = true → L j = L2 j) → s L = s L2
def bitS (s : Sem) : Prop := ∀ L x, s L = some x → x = 0 ∨ x = 1
def okR (n : Nat) (wk : Bool) (p : Nat) (r : Rs) : Prop := (∀ e, r = .inl e → -6000 ≤ e ∧ e ≤ -1000) ∧ ∀ q s, r = .inr (q, s) → p < q ∧ q ≤ n ∧ extS wk s
def okB (n : Nat) (wk : Bool) (p : Nat) (r : Rs) : Prop := okR n wk p r ∧ ∀ q s, r = .inr (q, s) → bitS s
section OK
variable {B : Nat → Int} {n p : Nat} {wk : Bool} {r : Rs}
theorem ext_bop {c : Int} {a b : Sem} (ha : extS wk a) (hb : extS wk b) : extS wk (bopS c a b) := fun L L2 h => by unfold bopS; rw [ha L L2 h, hb L L2 h]
theorem ext_cmp {c : Int} {a b : Sem} (ha : extS wk a) (hb : extS wk b) : extS wk (cmpS c a b) := fun L L2 h => by unfold cmpS; rw [ha L L2 h, hb L L2 h]
theorem ext_and {a b : Sem} (ha : extS wk a) (hb : extS wk b) : extS wk (andS a b) := fun L L2 h => by unfold andS; rw [ha L L2 h, hb L L2 h]
theorem ext_or {a b : Sem} (ha : extS wk a) (hb : extS wk b) : extS wk (orS a b) := fun L L2 h => by unfold orS; rw [ha L L2 h, hb L L2 h]
theorem ext_not {a : Sem} (ha : extS wk a) : extS wk (notS a) := fun L L2 h => by unfold notS; rw [ha L L2 h]
theorem ext_z : extS wk zS := fun _ _ _ => rfl
theorem ext_if {c : Prop} [Decidable c] {a b : Sem} (ha : extS wk a) (hb : extS wk b) : extS wk (if c then a else b) := by split <;> assumption
theorem ok_flt {k : Int} (hk : 1 ≤ k ∧ k ≤ 5) (hp : p ≤ 999) {p0 : Nat} : okR n wk p0 (flt k p) := ⟨fun e h => by
  have h2 : -1000 * k - (p : Int) = e := by injection h
  omega, fun q s h => by cases h⟩
theorem ok_inr {q : Nat} {s : Sem} (h1 : p < q) (h2 : q ≤ n) (h3 : extS wk s) : okR n wk p (.inr (q, s)) := ⟨fun e h => by (cases h), fun q s h => by
  cases h
  exact ⟨h1, h2, h3⟩⟩
theorem ok_sb {k : Nat → Sem → Rs} {p2 : Nat} (h : okR n wk p2 r) (hk : ∀ q s, r = .inr (q, s) → p2 < q → q ≤ n → extS wk s → okR n wk p (k q s)) : okR n wk p (sb r k) := by
  cases r with
  | inl e => exact ⟨fun e2 h2 => h.1 e2 h2, fun q s h2 => by cases h2⟩
  | inr x =>
    obtain ⟨a, b, c⟩ := h.2 x.1 x.2 rfl
    exact hk x.1 x.2 rfl a b c
theorem ok_to {p2 : Nat} (h : okR n wk p2 r) (hp : p ≤ p2) : okR n wk p r := ⟨h.1, fun q s h2 => by
  have := h.2 q s h2
  exact ⟨by omega, this.2⟩⟩
theorem pkI_ {c : Int} (h : pkN B n p = c) (hc : c ≠ -1) : p < n := by
  unfold pkN at h
  split at h
  · assumption
  · exact (hc h.symm).elim
theorem pk_ne (h : pkN B n p ≠ -1) : p < n := by
  unfold pkN at h
  split at h
  · assumption
  · exact (h rfl).elim
theorem pk_dgt (h : dgt (pkN B n p) = true) : p < n := pk_ne (fun q => by
  rw [q] at h
  exact absurd h (by decide))
theorem dgs_b : ∀ (k p : Nat) (v : Int), p ≤ n → p ≤ (dgs B n k p v).1 ∧ (dgs B n k p v).1 ≤ n
  | 0, p, v, h => ⟨Nat.le_refl _, h⟩
  | k + 1, p, v, h => by
    rw [dgs]
    split
    · rename_i c
      have := pk_dgt c
      have := dgs_b k (p + 1) (v * 10 + pkN B n p - 48) (by omega)
      omega
    · exact ⟨Nat.le_refl _, h⟩
theorem ltr_ok {c : Int} {j : Nat} (h : ltr wk c = some j) : j < 11 ∧ chrL j = c ∧ asks wk j = true := by
  have h1 := List.find?_some h
  have h2 := List.mem_of_find?_eq_some h
  rw [Bool.and_eq_true, beq_iff_eq] at h1
  exact ⟨List.mem_range.mp h2, h1.1, h1.2⟩
theorem ok_fac {low : Option (Nat → Rs)} (hn : n ≤ 160) (hp : p ≤ n) (hl : ∀ f, low = some f → ∀ p, p ≤ n → okR n wk p (f p)) : okR n wk p (facP B n wk low p) := by
  unfold facP
  split
  · rename_i c
    have hlt := pkI_ c (by decide)
    split
    · exact ok_flt (by decide) (by omega)
    · rename_i f
      refine ok_sb (hl f rfl (p + 1) (by omega)) (fun q s _ h1 h2 h3 => ?_)
      split
      · rename_i c2
        have := pkI_ c2 (by decide)
        exact ok_inr (by omega) (by omega) h3
      · exact ok_flt (by decide) (by omega)
  · split
    · rename_i c
      have hlt := pk_dgt c
      have h1 := dgs_b (B := B) (n := n) 6 p 0 (by omega)
      unfold numP
      split
      · exact ok_flt (by decide) (by omega)
      · refine ok_inr ?_ h1.2 (fun _ _ _ => rfl)
        rw [dgs, if_pos c]
        have := dgs_b (B := B) (n := n) 5 (p + 1) (0 * 10 + pkN B n p - 48) (by omega)
        omega
    · split
      · rename_i j hj
        have hlj := ltr_ok hj
        have hlt : p < n := pk_ne (fun q => by
          exact (by decide : ∀ j : Nat, j < 11 → chrL j ≠ -1) j hlj.1 (hlj.2.1.trans q))
        exact ok_inr (by omega) (by omega) (fun L L2 h => by rw [h j hlj.2.2])
      · exact ok_flt (by decide) (by omega)
theorem tms_in (h : tms (pkN B n p) = true) : p < n := pk_ne (fun q => by
  rw [q] at h
  exact absurd h (by decide))
theorem pls_in (h : pls (pkN B n p) = true) : p < n := pk_ne (fun q => by
  rw [q] at h
  exact absurd h (by decide))
theorem cps_in (h : cps (pkN B n p) = true) : p < n := pk_ne (fun q => by
  rw [q] at h
  exact absurd h (by decide))
theorem ok_sumL {fac : Nat → Rs} (hn : n ≤ 160) (hf : ∀ p, p ≤ n → okR n wk p (fac p)) : ∀ (k p : Nat) (t : Int) (sT : Sem) (a : Int) (sA : Sem), p ≤ n → extS wk sT → extS wk sA → okR n wk p (sumL B n fac k p t sT a sA)
  | 0, p, _, _, _, _, hp, _, _ => ok_flt (by decide) (by omega)
  | k + 1, p, t, sT, a, sA, hp, h1, h2 => by
    rw [sumL]
    refine ok_sb (hf p hp) (fun q s _ g1 g2 g3 => ?_)
    have e1 : extS wk (if t = 0 then s else bopS t sT s) := ext_if g3 (ext_bop h1 g3)
    have e2 : extS wk (if a = 0 then (if t = 0 then s else bopS t sT s) else bopS a sA (if t = 0 then s else bopS t sT s)) := ext_if e1 (ext_bop h2 e1)
    split
    · rename_i c
      have := tms_in c
      exact ok_to (ok_sumL hn hf k (q + 1) _ _ _ _ (by omega) e1 h2) (by omega)
    · split
      · rename_i c
        have := pls_in c
        exact ok_to (ok_sumL hn hf k (q + 1) _ _ _ _ (by omega) ext_z e2) (by omega)
      · exact ok_inr g1 g2 e2
theorem ok_sumD (hn : n ≤ 160) : ∀ (d p : Nat), p ≤ n → okR n wk p (sumD B n wk d p)
  | 0, p, hp => ok_sumL hn (fun p hp => ok_fac hn hp (fun f h => by cases h)) n p 0 zS 0 zS hp ext_z ext_z
  | d + 1, p, hp => ok_sumL hn (fun p hp => ok_fac hn hp (fun f h p hp => by
    cases h
    exact ok_sumD hn d p hp)) n p 0 zS 0 zS hp ext_z ext_z
theorem bit_cmp {c : Int} {a b : Sem} : bitS (cmpS c a b) := fun L x h => by
  unfold cmpS at h
  cases ha : a L with
  | none => rw [ha] at h; cases h
  | some x1 =>
    cases hb : b L with
    | none => rw [ha, hb] at h; cases h
    | some y1 =>
      rw [ha, hb] at h
      have h2 : cmpV c x1 y1 = x := by injection h
      rw [← h2]
      unfold cmpV
      repeat' split
      all_goals first | exact Or.inl rfl | exact Or.inr rfl
theorem bit_not {a : Sem} (h : bitS a) : bitS (notS a) := fun L x hx => by
  unfold notS at hx
  cases ha : a L with
  | none => rw [ha] at hx; cases hx
  | some x1 =>
    rw [ha] at hx
    have h2 : 1 - x1 = x := by injection hx
    have := h L x1 ha
    omega
theorem bit_and {a b : Sem} (hb : bitS b) : bitS (andS a b) := fun L x hx => by
  unfold andS at hx
  cases ha : a L with
  | none => rw [ha] at hx; cases hx
  | some x1 =>
    rw [ha] at hx
    have hx2 : (if x1 = 1 then b L else some 0) = some x := hx
    split at hx2
    · exact hb L x hx2
    · left
      injection hx2 with h2
      exact h2.symm
theorem bit_or {a b : Sem} (hb : bitS b) : bitS (orS a b) := fun L x hx => by
  unfold orS at hx
  cases ha : a L with
  | none => rw [ha] at hx; cases hx
  | some x1 =>
    rw [ha] at hx
    have hx2 : (if x1 = 1 then some 1 else b L) = some x := hx
    split at hx2
    · right
      injection hx2 with h2
      exact h2.symm
    · exact hb L x hx2
theorem bit_z : bitS zS := fun L x h => by
  left
  have h2 : (0 : Int) = x := by injection h
  exact h2.symm
theorem bit_if {c : Prop} [Decidable c] {a b : Sem} (ha : bitS a) (hb : bitS b) : bitS (if c then a else b) := by split <;> assumption
theorem okb_flt {k : Int} (hk : 1 ≤ k ∧ k ≤ 5) (hp : p ≤ 999) {p0 : Nat} : okB n wk p0 (flt k p) := ⟨ok_flt hk hp, fun q s h => by cases h⟩
theorem okb_inr {q : Nat} {s : Sem} (h1 : p < q) (h2 : q ≤ n) (h3 : extS wk s) (h4 : bitS s) : okB n wk p (.inr (q, s)) := ⟨ok_inr h1 h2 h3, fun q s h => by
  cases h
  exact h4⟩
theorem okb_sb {k : Nat → Sem → Rs} {p2 : Nat} (h : okR n wk p2 r) (hk : ∀ q s, r = .inr (q, s) → p2 < q → q ≤ n → extS wk s → okB n wk p (k q s)) : okB n wk p (sb r k) := by
  cases r with
  | inl e => exact ⟨⟨fun e2 h2 => h.1 e2 h2, fun q s h2 => by cases h2⟩, fun q s h2 => by cases h2⟩
  | inr x =>
    obtain ⟨a, b, c⟩ := h.2 x.1 x.2 rfl
    exact hk x.1 x.2 rfl a b c
theorem okb_to {p2 : Nat} (h : okB n wk p2 r) (hp : p ≤ p2) : okB n wk p r := ⟨ok_to h.1 hp, h.2⟩
theorem ok_cmp {sum : Nat → Rs} (hn : n ≤ 160) (hf : ∀ p, p ≤ n → okR n wk p (sum p)) (hp : p ≤ n) : okB n wk p (cmpP B n sum p) := by
  unfold cmpP
  refine okb_sb (hf p hp) (fun q s _ g1 g2 g3 => ?_)
  split
  · rename_i c
    have := cps_in c
    exact okb_sb (hf (q + 1) (by omega)) (fun q2 s2 _ k1 k2 k3 => okb_inr (by omega) k2 (ext_cmp g3 k3) bit_cmp)
  · exact okb_flt (by decide) (by omega)
theorem ok_condL {pc : Nat → Rs} (hn : n ≤ 160) (hf : ∀ p, p ≤ n → okB n wk p (pc p)) : ∀ (k p : Nat) (ha : Bool) (sA : Sem) (ho : Bool) (sO : Sem), p ≤ n → extS wk sA → extS wk sO → okB n wk p (condL B n pc k p ha sA ho sO)
  | 0, p, _, _, _, _, hp, _, _ => okb_flt (by decide) (by omega)
  | k + 1, p, ha, sA, ho, sO, hp, h1, h2 => by
    rw [condL]
    refine okb_sb (hf p hp).1 (fun q s hr g1 g2 g3 => ?_)
    have g4 := (hf p hp).2 q s hr
    have e1 : extS wk (if ha then andS sA s else s) := ext_if (ext_and h1 g3) g3
    have b1 : bitS (if ha then andS sA s else s) := bit_if (bit_and g4) g4
    have e2 : extS wk (if ho then orS sO (if ha then andS sA s else s) else if ha then andS sA s else s) := ext_if (ext_or h2 e1) e1
    have b2 : bitS (if ho then orS sO (if ha then andS sA s else s) else if ha then andS sA s else s) := bit_if (bit_or b1) b1
    split
    · rename_i c
      have := pkI_ c (by decide)
      exact okb_to (ok_condL hn hf k (q + 1) _ _ _ _ (by omega) e1 h2) (by omega)
    · split
      · rename_i c
        have := pkI_ c (by decide)
        exact okb_to (ok_condL hn hf k (q + 1) _ _ _ _ (by omega) ext_z e2) (by omega)
      · exact okb_inr g1 g2 e2 b2
theorem ok_pieceD (hn : n ≤ 160) : ∀ (d p : Nat), p ≤ n → okB n wk p (pieceD B n wk d p)
  | 0, p, hp => by
    rw [pieceD]
    split
    · exact okb_flt (by decide) (by omega)
    · exact ok_cmp hn (ok_sumD hn 0) hp
  | d + 1, p, hp => by
    rw [pieceD]
    split
    · rename_i c
      have := pkI_ c (by decide)
      have hc := ok_condL (B := B) hn (ok_pieceD hn d) n (p + 1) false zS false zS (by omega) ext_z ext_z
      refine okb_sb hc.1 (fun q s hr g1 g2 g3 => ?_)
      split
      · rename_i c2
        have := pkI_ c2 (by decide)
        exact okb_inr (by omega) (by omega) g3 (hc.2 q s hr)
      · exact okb_flt (by decide) (by omega)
    · split
      · rename_i c
        have := pkI_ c (by decide)
        have hc := ok_pieceD hn d (p + 1) (by omega)
        exact okb_sb hc.1 (fun q s hr g1 g2 g3 => okb_inr (by omega) g2 (ext_not g3) (bit_not (hc.2 q s hr)))
      · exact ok_cmp hn (ok_sumD hn (d + 1)) hp
theorem ok_condD (hn : n ≤ 160) {d : Nat} (hp : p ≤ n) : okB n wk p (condD B n wk d p) := ok_condL hn (ok_pieceD hn d) n p false zS false zS hp ext_z ext_z
theorem asks_rel {b : Bool} {j : Nat} (h : asks b j = true) : relL b j := by
  unfold asks at h
  unfold relL
  rw [Bool.or_eq_true, Bool.or_eq_true, Bool.and_eq_true, Bool.and_eq_true, Bool.and_eq_true, decide_eq_true_iff, decide_eq_true_iff, decide_eq_true_iff, decide_eq_true_iff, Bool.not_eq_true'] at h
  rcases h with (h | ⟨h1, h2⟩) | ⟨⟨h1, h2⟩, h3⟩
  · exact Or.inl h
  · exact Or.inr (Or.inl ⟨h2, by omega⟩)
  · exact Or.inr (Or.inr ⟨h3, by omega, by omega⟩)
/-- what a list of clauses asks -/
theorem kOf_g {l : List (Bool × Sem)} (h : ∀ x, x ∈ l → extS x.1 x.2) : kCg (kOf l) := fun b L L2 hL => by
  unfold kOf
  induction l with
  | nil => rfl
  | cons x l ih =>
    rw [List.any_cons, List.any_cons, ih (fun y hy => h y (List.mem_cons_of_mem _ hy))]
    congr 1
    by_cases e : x.1 = b
    · rw [h x List.mem_cons_self L L2 (fun j hj => hL j (asks_rel (e ▸ hj)))]
    · rw [show (x.1 == b) = false by rw [beq_eq_false_iff_ne]; exact e]
      rfl
theorem ok_clsL (hn : n ≤ 160) : ∀ (k p : Nat) (l : List (Bool × Sem)), p ≤ n → l.length + k = 13 → l.length ≤ 12 → (∀ x, x ∈ l → extS x.1 x.2) → (∀ e, clsL B n k p l = .inl e → (-6000 ≤ e ∧ e ≤ -1000)) ∧ ∀ l2, clsL B n k p l = .inr l2 → l2.length ≤ 12 ∧ ∀ x, x ∈ l2 → extS x.1 x.2
  | 0, p, l, hp, hk, hk2, hl => by omega
  | k + 1, p, l, hp, hk, hk2, hl => by
    rw [clsL]
    have fl : ∀ x : Nat, x ≤ n + 1 → ∀ r : Int ⊕ List (Bool × Sem), r = .inl (-1000 - (x : Int)) → (∀ e, r = .inl e → (-6000 ≤ e ∧ e ≤ -1000)) ∧ ∀ l2, r = .inr l2 → l2.length ≤ 12 ∧ ∀ x, x ∈ l2 → extS x.1 x.2 := fun x hx r hr => by
      subst hr
      refine ⟨fun e h => ?_, fun l2 h => by cases h⟩
      have h2 : -1000 - (x : Int) = e := by injection h
      omega
    split
    · split
      · refine ⟨fun e h => ?_, fun l2 h => by cases h⟩
        have h2 : -4000 - (p : Int) = e := by injection h
        omega
      · split
        · rename_i c
          have hp2 := pkI_ c (by decide)
          have hc := (ok_condD (B := B) (wk := decide (pkN B n p = 111)) (d := 5) hn (show p + 2 ≤ n by omega)).1
          split
          · rename_i e he
            refine ⟨fun e2 h => ?_, fun l2 h => by cases h⟩
            have h2 : e = e2 := by injection h
            rw [← h2]
            exact hc.1 e he
          · rename_i x hx
            obtain ⟨g1, g2, g3⟩ := hc.2 x.1 x.2 hx
            have hl2 : ∀ y, y ∈ l ++ [(decide (pkN B n p = 111), x.2)] → extS y.1 y.2 := fun y hy => by
              rcases List.mem_append.mp hy with q | q
              · exact hl y q
              · rw [List.mem_singleton.mp q]
                exact g3
            have hlen : (l ++ [(decide (pkN B n p = 111), x.2)]).length = l.length + 1 := by rw [List.length_append]; rfl
            split
            · rename_i c2
              have := pkI_ c2 (by decide)
              split
              · refine ⟨fun e h => (by cases h), fun l2 h => ?_⟩
                injection h with h2
                rw [← h2, hlen]
                exact ⟨by omega, hl2⟩
              · split
                · rename_i c3
                  have := pkI_ c3 (by decide)
                  exact ok_clsL hn k (x.1 + 2) (l ++ [(decide (pkN B n p = 111), x.2)]) (by omega) (by omega) (by omega) hl2
                · exact fl _ (by omega) _ rfl
            · exact fl _ (by omega) _ rfl
        · exact fl _ (by omega) _ rfl
    · exact fl _ (by omega) _ rfl
end OK
