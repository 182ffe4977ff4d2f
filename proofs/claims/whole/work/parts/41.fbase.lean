/-! What the functions of the methods are written in. -/
def obnd {α : Type} (o : Option (Int × Mm)) (f : Int → Mm → Option α) : Option α := o.bind fun r => f r.1 r.2
def oinr {σ τ : Type} (o : Option τ) : Option (σ ⊕ τ) := o.map Sum.inr
theorem Wp.oc {α : Type} {P : α → Prop} {o : Option (Int × Mm)} {f : Int → Mm → Option α} (h : Wp (obnd o f) P) : Wp o (fun r => Wp (f r.1 r.2) P) := Wp.obind h
theorem Wp.oinr {σ τ : Type} {E : σ → Prop} {P : τ → Prop} {o : Option τ} (h : Wp (oinr o) (Sum.elim E P)) : Wp o P := by
  obtain ⟨r, e, h2⟩ := h
  match o, e with
  | .some a, e => cases e; exact ⟨a, rfl, h2⟩
theorem nz_st {n s : Nat} (h : isSt n s) (j : Nat) : ¬ s + j = 0 ∧ ¬ s + j ≤ 2 := ⟨by omega, by omega⟩
theorem nz_sg {s : Nat} (h : isSg s) (j : Nat) : ¬ s + j = 0 ∧ ¬ s + j ≤ 2 := ⟨by omega, by omega⟩
theorem nz_tx {s : Nat} (h : isTx s) (j : Nat) : ¬ s + j = 0 ∧ ¬ s + j ≤ 2 := ⟨by omega, by omega⟩
theorem lkD {a o k d e : Int} {r : List (Int × Int)} (h : ¬ k = a) (hr : Op.lookupswitch.offset r d k = e) : Op.lookupswitch.offset ((a, o) :: r) d k = e := (if_neg (fun q => h q.symm)).trans hr
theorem i4_ofNat (n : Nat) : Int32.ofNat n = Int32.ofInt (n : Int) := rfl
def recK : Nat → Nat
  | 0 => 13
  | 1 => 24
  | 2 => 28
  | _ => 15
section FB
variable {X : Nat × Nat × qC} {d k ρ pc : Nat} {ls : qL} {st : List Value} {M M2 : Mm} {Q : Int → Mm → Prop}
theorem mE_M (e : M = M2) (kk : mE X d k ρ pc ls st M2 Q) : mE X d k ρ pc ls st M Q := e ▸ kk
theorem mE_arraylengthJ {a n t : Nat} {x : Int} {rs : List Nat} (h1 : qcd k pc = some (.arraylength, 1)) (ha : Ok X a (1, t, n, rs)) (hx : Int32.ofNat n = Int32.ofInt x) (kk : mE X d k ρ (pc + 1) ls (.int (Int32.ofInt x) :: st) M Q) : mE X d k ρ pc ls (.ref a :: st) M Q :=
  mE_of (fun h q hR e => qe_arraylength h1 (hR.at ha) (hx ▸ e)) kk
theorem mE_aastore {a n s : Nat} {i : Int} {rs : List Nat} (h1 : qcd k pc = some (.aastore, 1)) (ha : Ok X a (2, 5, n, rs)) (hi : R4 i) (hx : 0 ≤ i ∧ i < n) (hs : isSt X.1 s) (hr : R4 (s : Int)) (kk : mE X d k ρ (pc + 1) ls st (ms M a i.toNat (s : Int)) Q) : mE X d k ρ pc ls (.ref s :: .int (Int32.ofInt i) :: .ref a :: st) M Q :=
  mE_st (fun h => qset h a (.inl (5, n, .inr (.inr (.inr (.inr (va_up (fun j => if M a j = 0 then none else some (M a j).toNat) i.toNat (some s)))))))) (fun h hR => by
    refine hR.up ha (fun b hb j => ms_ne hb j) ?_ (fun j => ?_) (fun _ j => ?_)
    · show Sum.inl (5, n, _) = _
      congr 3
      refine congrArg _ (congrArg _ (congrArg _ (congrArg _ (funext fun j => ?_))))
      unfold va_up
      by_cases e : j = i.toNat
      · have e2 : ms M a i.toNat (s : Int) a j = (s : Int) := if_pos ⟨rfl, e⟩
        have hs2 : ¬ (s : Int) = 0 := by omega
        rw [e2, if_pos e, if_neg hs2, Int.toNat_natCast]
      · have e2 : ms M a i.toNat (s : Int) a j = M a j := if_neg (fun q => e q.2)
        rw [e2, if_neg e]
    · unfold ms
      split
      · exact hr.to8
      · exact hR.r8 a j
    · unfold ms
      split
      · exact hr
      · exact hR.r4' ha (by decide : (2 : Nat) ≠ 1) j) (fun h q hR e => qe_aastore h1 (hR.at (ok_st0 hs)) (hR.at ha) (ixq hi hx) (by rw [i4_nat hi]; exact e)) kk
end FB
