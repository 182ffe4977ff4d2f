/-! Programs on memory: what an answer comes to; loops; the bytecode's steps on memory. -/
def Wp {α : Type} (o : Option α) (P : α → Prop) : Prop := ∃ r, o = some r ∧ P r
def gd {α : Type} (p : Prop) [Decidable p] (o : Option α) : Option α := if p then o else none
theorem fuelX : ∃ n : Nat, n = 100000 := ⟨_, rfl⟩
noncomputable def fuelN : Nat := Classical.choose fuelX
theorem fuelE : fuelN = 100000 := Classical.choose_spec fuelX
def iter {σ τ : Type} (f : σ → Option (σ ⊕ τ)) : Nat → σ → Option τ
  | 0, _ => none
  | n + 1, s => match f s with
    | none => none
    | some (.inl t) => iter f n t
    | some (.inr r) => some r
noncomputable def lp {σ τ : Type} (f : σ → Option (σ ⊕ τ)) (s : σ) : Option τ := iter f fuelN s
section WW
variable {α β σ τ : Type} {P : α → Prop} {Q : β → Prop} {o : Option α}
theorem Wp.osome {r : α} (h : Wp (some r) P) : P r := by
  obtain ⟨r2, e, h2⟩ := h
  cases e
  exact h2
theorem Wp.onone (h : Wp none P) : False := by
  obtain ⟨r2, e, h2⟩ := h
  cases e
theorem Wp.ogd {p : Prop} {hp : Decidable p} (h : Wp (gd p o) P) : p ∧ Wp o P := by
  unfold gd at h
  by_cases c : p
  · rw [if_pos c] at h
    exact ⟨c, h⟩
  · rw [if_neg c] at h
    exact h.onone.elim
theorem Wp.pos {p : Prop} {hp : Decidable p} {o2 : Option α} (c : p) (h : Wp (if p then o else o2) P) : Wp o P := by
  rw [if_pos c] at h
  exact h
theorem Wp.neg {p : Prop} {hp : Decidable p} {o2 : Option α} (c : ¬ p) (h : Wp (if p then o2 else o) P) : Wp o P := by
  rw [if_neg c] at h
  exact h
theorem Wp.obind {f : α → Option β} (h : Wp (o.bind f) Q) : Wp o (fun r => Wp (f r) Q) := by
  obtain ⟨r, e, h2⟩ := h
  match o, e with
  | .some a, e => exact ⟨a, rfl, r, e, h2⟩
theorem Wp.omap {f : α → β} (h : Wp (o.map f) Q) : Wp o (fun r => Q (f r)) := by
  obtain ⟨r, e, h2⟩ := h
  match o, e with
  | .some a, e => exact ⟨a, rfl, by cases e; exact h2⟩
theorem Wp.mono {P2 : α → Prop} (h : Wp o P) (hh : ∀ r, P r → P2 r) : Wp o P2 := by
  obtain ⟨r, e, h2⟩ := h
  exact ⟨r, e, hh r h2⟩
theorem Wp.oiter {f : σ → Option (σ ⊕ τ)} {E : σ → Prop} {P : τ → Prop} (hb : ∀ s, Wp (f s) (Sum.elim E P) → E s) : ∀ (n : Nat) (s : σ), Wp (iter f n s) P → E s
  | 0, s, h => h.onone.elim
  | n + 1, s, h => by
    refine hb s ?_
    obtain ⟨r, e, h2⟩ := h
    rw [iter] at e
    match hf : f s, e with
    | .some (.inl t), e => exact ⟨.inl t, rfl, Wp.oiter hb n t ⟨r, e, h2⟩⟩
    | .some (.inr u), e =>
      cases e
      exact ⟨.inr r, rfl, h2⟩
theorem Wp.olp {f : σ → Option (σ ⊕ τ)} {E : σ → Prop} {P : τ → Prop} {s : σ} (h : Wp (lp f s) P) (hb : ∀ s, Wp (f s) (Sum.elim E P) → E s) : E s := Wp.oiter hb _ _ h
end WW
/-- the kinds of answers: 0 none, 1 int, 2 long, 3 a reference (0: null) -/
def rvv (ρ : Nat) (v : Int) : Option Value := if ρ = 1 then some (.int (Int32.ofInt v)) else if ρ = 2 then some (.long (Int64.ofInt v)) else if ρ = 3 then some (if v = 0 then .null else .ref v.toNat) else none
def rok (ρ : Nat) (v : Int) : Prop := if ρ = 1 then R4 v else if ρ = 2 then R8 v else if ρ = 3 then 0 ≤ v else True
def mE (X : Nat × Nat × qC) (d k ρ pc : Nat) (ls : qL) (st : List Value) (M : Mm) (Q : Int → Mm → Prop) : Prop := ∀ h, Rep X M h → ∃ v M2 h2, qE d k pc ls st h (rvv ρ v, h2) ∧ Rep X M2 h2 ∧ rok ρ v ∧ Q v M2
def mC (X : Nat × Nat × qC) (d k ρ : Nat) (as : List Value) (M : Mm) (Q : Int → Mm → Prop) : Prop := ∀ h, Rep X M h → ∃ v M2 h2, qCall d k as h (rvv ρ v, h2) ∧ Rep X M2 h2 ∧ rok ρ v ∧ Q v M2
section ME
variable {X : Nat × Nat × qC} {d k ρ pc pc2 z c0 : Nat} {ls ls2 : qL} {st st2 : List Value} {M M2 : Mm} {Q : Int → Mm → Prop}
theorem mE_of (hs : ∀ h q, Rep X M h → qE d k pc2 ls2 st2 h q → qE d k pc ls st h q) (kk : mE X d k ρ pc2 ls2 st2 M Q) : mE X d k ρ pc ls st M Q := fun h hR => by
  obtain ⟨v, M3, h3, e, r⟩ := kk h hR
  exact ⟨v, M3, h3, hs h _ hR e, r⟩
theorem mE_st (g : qH → qH) (hg : ∀ h, Rep X M h → Rep X M2 (g h)) (hs : ∀ h q, Rep X M h → qE d k pc2 ls2 st2 (g h) q → qE d k pc ls st h q) (kk : mE X d k ρ pc2 ls2 st2 M2 Q) : mE X d k ρ pc ls st M Q := fun h hR => by
  obtain ⟨v, M3, h3, e, r⟩ := kk _ (hg h hR)
  exact ⟨v, M3, h3, hs h _ hR e, r⟩
theorem mE_know {p : Prop} (hp : ∀ h, Rep X M h → p) (kk : p → mE X d k ρ pc ls st M Q) : mE X d k ρ pc ls st M Q := fun h hR => kk (hp h hR) h hR
theorem mC_of {as : List Value} {l : qL} (he : qent k as = some l) (kk : mE X d k ρ 0 l [] M Q) : mC X (d + 1) k ρ as M Q := fun h hR => by
  obtain ⟨v, M3, h3, e, r⟩ := kk h hR
  exact ⟨v, M3, h3, qcall_of he e, r⟩
theorem mC.mono {as : List Value} {Q2 : Int → Mm → Prop} (hc : mC X d k ρ as M Q) (hh : ∀ v M2, Q v M2 → Q2 v M2) : mC X d k ρ as M Q2 := fun h hR => by
  obtain ⟨v, M3, h3, e, e2, e3, e4⟩ := hc h hR
  exact ⟨v, M3, h3, e, e2, e3, hh _ _ e4⟩
theorem mE_n0 (kk : M 0 0 = X.1 → mE X d k ρ pc ls st M Q) : mE X d k ρ pc ls st M Q := mE_know (fun _ hR => hR.n0) kk
theorem mE_iconst {w : Int} (h1 : qcd k pc = some (.iconst w, 1)) (kk : mE X d k ρ (pc + 1) ls (.int (Int32.ofInt w) :: st) M Q) : mE X d k ρ pc ls st M Q :=
  mE_of (fun h q hR e => qe_iconst h1 rfl e) kk
theorem mE_bipush {w x : Int} (h1 : qcd k pc = some (.bipush w, 2)) (hv : (Int8.ofInt w).toInt32 = Int32.ofInt x) (kk : mE X d k ρ (pc + 2) ls (.int (Int32.ofInt x) :: st) M Q) : mE X d k ρ pc ls st M Q :=
  mE_of (fun h q hR e => qe_bipush h1 hv e) kk
theorem mE_sipush {w x : Int} (h1 : qcd k pc = some (.sipush w, 3)) (hv : (Int16.ofInt w).toInt32 = Int32.ofInt x) (kk : mE X d k ρ (pc + 3) ls (.int (Int32.ofInt x) :: st) M Q) : mE X d k ρ pc ls st M Q :=
  mE_of (fun h q hR e => qe_sipush h1 hv e) kk
theorem mE_lconst {w : Fin 2} {x : Int} (h1 : qcd k pc = some (.lconst w, 1)) (hv : Int64.ofNat (w : Nat) = Int64.ofInt x) (kk : mE X d k ρ (pc + 1) ls (.long (Int64.ofInt x) :: st) M Q) : mE X d k ρ pc ls st M Q :=
  mE_of (fun h q hR e => qe_lconst h1 hv e) kk
theorem mE_ldc {w p : Nat} {x : Int} {y : Int32} (h1 : qcd k pc = some (.ldc w, 2)) (ho : qown k = c0) (hv : qI_ c0 w = some (y, p)) (hy : y = Int32.ofInt x) (kk : mE X d k ρ (pc + 2) ls (.int (Int32.ofInt x) :: st) M Q) : mE X d k ρ pc ls st M Q :=
  mE_of (fun h q hR e => qe_ldc h1 ho hv (hy ▸ e)) kk
theorem mE_ldc_w {w p : Nat} {x : Int} {y : Int32} (h1 : qcd k pc = some (.ldc_w w, 3)) (ho : qown k = c0) (hv : qI_ c0 w = some (y, p)) (hy : y = Int32.ofInt x) (kk : mE X d k ρ (pc + 3) ls (.int (Int32.ofInt x) :: st) M Q) : mE X d k ρ pc ls st M Q :=
  mE_of (fun h q hR e => qe_ldc_w h1 ho hv (hy ▸ e)) kk
theorem mE_ldc2_w {w p : Nat} {x : Int} {y : Int64} (h1 : qcd k pc = some (.ldc2_w w, 3)) (ho : qown k = c0) (hv : qJ_ c0 w = some (y, p)) (hy : y = Int64.ofInt x) (kk : mE X d k ρ (pc + 3) ls (.long (Int64.ofInt x) :: st) M Q) : mE X d k ρ pc ls st M Q :=
  mE_of (fun h q hR e => qe_ldc2_w h1 ho hv (hy ▸ e)) kk
theorem mE_null (h1 : qcd k pc = some (.aconst_null, 1)) (kk : mE X d k ρ (pc + 1) ls (.null :: st) M Q) : mE X d k ρ pc ls st M Q :=
  mE_of (fun h q hR e => qe_null h1 e) kk
theorem mE_iload_n {w : Fin 4} {x : Int32} (h1 : qcd k pc = some (.iload_n w, 1)) (hl : ls[(w : Nat)]? = some (some (.int x))) (kk : mE X d k ρ (pc + 1) ls (.int x :: st) M Q) : mE X d k ρ pc ls st M Q :=
  mE_of (fun h q hR e => qe_iload_n h1 hl e) kk
theorem mE_iload {w : Nat} {x : Int32} (h1 : qcd k pc = some (.iload w, 2)) (hl : ls[(w : Nat)]? = some (some (.int x))) (kk : mE X d k ρ (pc + 2) ls (.int x :: st) M Q) : mE X d k ρ pc ls st M Q :=
  mE_of (fun h q hR e => qe_iload h1 hl e) kk
theorem mE_istore_n {w : Fin 4} {x : Int32} (h1 : qcd k pc = some (.istore_n w, 1)) (hi : (w : Nat) < ls.length) (hp : qput1 ls w (.int x) = ls2) (kk : mE X d k ρ (pc + 1) ls2 st M Q) : mE X d k ρ pc ls (.int x :: st) M Q :=
  mE_of (fun h q hR e => qe_istore_n h1 hi hp e) kk
theorem mE_istore {w : Nat} {x : Int32} (h1 : qcd k pc = some (.istore w, 2)) (hi : (w : Nat) < ls.length) (hp : qput1 ls w (.int x) = ls2) (kk : mE X d k ρ (pc + 2) ls2 st M Q) : mE X d k ρ pc ls (.int x :: st) M Q :=
  mE_of (fun h q hR e => qe_istore h1 hi hp e) kk
theorem mE_lload_n {w : Fin 4} {x : Int64} (h1 : qcd k pc = some (.lload_n w, 1)) (hl : ls[(w : Nat)]? = some (some (.long x))) (kk : mE X d k ρ (pc + 1) ls (.long x :: st) M Q) : mE X d k ρ pc ls st M Q :=
  mE_of (fun h q hR e => qe_lload_n h1 hl e) kk
theorem mE_lload {w : Nat} {x : Int64} (h1 : qcd k pc = some (.lload w, 2)) (hl : ls[(w : Nat)]? = some (some (.long x))) (kk : mE X d k ρ (pc + 2) ls (.long x :: st) M Q) : mE X d k ρ pc ls st M Q :=
  mE_of (fun h q hR e => qe_lload h1 hl e) kk
theorem mE_lstore_n {w : Fin 4} {x : Int64} (h1 : qcd k pc = some (.lstore_n w, 1)) (hi : (w : Nat) + 1 < ls.length) (hp : qput2 ls w (.long x) = ls2) (kk : mE X d k ρ (pc + 1) ls2 st M Q) : mE X d k ρ pc ls (.long x :: st) M Q :=
  mE_of (fun h q hR e => qe_lstore_n h1 hi hp e) kk
theorem mE_lstore {w : Nat} {x : Int64} (h1 : qcd k pc = some (.lstore w, 2)) (hi : (w : Nat) + 1 < ls.length) (hp : qput2 ls w (.long x) = ls2) (kk : mE X d k ρ (pc + 2) ls2 st M Q) : mE X d k ρ pc ls (.long x :: st) M Q :=
  mE_of (fun h q hR e => qe_lstore h1 hi hp e) kk
theorem mE_aload_n {w : Fin 4} {x : Nat} (h1 : qcd k pc = some (.aload_n w, 1)) (hl : ls[(w : Nat)]? = some (some (.ref x))) (kk : mE X d k ρ (pc + 1) ls (.ref x :: st) M Q) : mE X d k ρ pc ls st M Q :=
  mE_of (fun h q hR e => qe_aload_n h1 hl e) kk
theorem mE_aload {w : Nat} {x : Nat} (h1 : qcd k pc = some (.aload w, 2)) (hl : ls[(w : Nat)]? = some (some (.ref x))) (kk : mE X d k ρ (pc + 2) ls (.ref x :: st) M Q) : mE X d k ρ pc ls st M Q :=
  mE_of (fun h q hR e => qe_aload h1 hl e) kk
theorem mE_astore_n {w : Fin 4} {x : Nat} (h1 : qcd k pc = some (.astore_n w, 1)) (hi : (w : Nat) < ls.length) (hp : qput1 ls w (.ref x) = ls2) (kk : mE X d k ρ (pc + 1) ls2 st M Q) : mE X d k ρ pc ls (.ref x :: st) M Q :=
  mE_of (fun h q hR e => qe_astore_n h1 hi hp e) kk
theorem mE_astore {w : Nat} {x : Nat} (h1 : qcd k pc = some (.astore w, 2)) (hi : (w : Nat) < ls.length) (hp : qput1 ls w (.ref x) = ls2) (kk : mE X d k ρ (pc + 2) ls2 st M Q) : mE X d k ρ pc ls (.ref x :: st) M Q :=
  mE_of (fun h q hR e => qe_astore h1 hi hp e) kk
theorem mE_aload_nN {w : Fin 4} (h1 : qcd k pc = some (.aload_n w, 1)) (hl : ls[(w : Nat)]? = some (some .null)) (kk : mE X d k ρ (pc + 1) ls (.null :: st) M Q) : mE X d k ρ pc ls st M Q :=
  mE_of (fun h q hR e => qe_aload_nN h1 hl e) kk
theorem mE_aloadN {w : Nat} (h1 : qcd k pc = some (.aload w, 2)) (hl : ls[(w : Nat)]? = some (some .null)) (kk : mE X d k ρ (pc + 2) ls (.null :: st) M Q) : mE X d k ρ pc ls st M Q :=
  mE_of (fun h q hR e => qe_aloadN h1 hl e) kk
theorem mE_astore_nN {w : Fin 4} (h1 : qcd k pc = some (.astore_n w, 1)) (hi : (w : Nat) < ls.length) (hp : qput1 ls w .null = ls2) (kk : mE X d k ρ (pc + 1) ls2 st M Q) : mE X d k ρ pc ls (.null :: st) M Q :=
  mE_of (fun h q hR e => qe_astore_nN h1 hi hp e) kk
theorem mE_astoreN {w : Nat} (h1 : qcd k pc = some (.astore w, 2)) (hi : (w : Nat) < ls.length) (hp : qput1 ls w .null = ls2) (kk : mE X d k ρ (pc + 2) ls2 st M Q) : mE X d k ρ pc ls (.null :: st) M Q :=
  mE_of (fun h q hR e => qe_astoreN h1 hi hp e) kk
theorem i4_div {x y : Int} (hx : R4 x) (hy : R4 y) : Int32.ofInt x / Int32.ofInt y = Int32.ofInt (x.tdiv y) := by
  rw [← Int32.toInt_inj, Int32.toInt_div, i4_toInt hx, i4_toInt hy, Int32.toInt_ofInt]
theorem i8_div {x y : Int} (hx : R8 x) (hy : R8 y) : Int64.ofInt x / Int64.ofInt y = Int64.ofInt (x.tdiv y) := by
  rw [← Int64.toInt_inj, Int64.toInt_div, i8_toInt hx, i8_toInt hy, Int64.toInt_ofInt]
theorem i4_rem {x y : Int} (hx : R4 x) (hy : R4 y) : Int32.ofInt x - Int32.ofInt x / Int32.ofInt y * Int32.ofInt y = Int32.ofInt (x.tmod y) := by
  rw [i4_div hx hy, ← Int32.ofInt_mul, ← Int32.ofInt_sub, Int.tmod_def, Int.mul_comm]
theorem i8_rem {x y : Int} (hx : R8 x) (hy : R8 y) : Int64.ofInt x - Int64.ofInt x / Int64.ofInt y * Int64.ofInt y = Int64.ofInt (x.tmod y) := by
  rw [i8_div hx hy, ← Int64.ofInt_mul, ← Int64.ofInt_sub, Int.tmod_def, Int.mul_comm]
theorem i4_ne0 {y : Int} (hy : R4 y) (h : ¬ y = 0) : ¬ Int32.ofInt y = 0 := fun q => h ((i4_eq hy (by decide)).mp q)
theorem i8_ne0 {y : Int} (hy : R8 y) (h : ¬ y = 0) : ¬ Int64.ofInt y = 0 := fun q => h ((i8_eq hy (by decide)).mp q)
theorem mE_iadd {x y : Int} (h1 : qcd k pc = some (.iadd, 1)) (kk : mE X d k ρ (pc + 1) ls (.int (Int32.ofInt (x + y)) :: st) M Q) : mE X d k ρ pc ls (.int (Int32.ofInt y) :: .int (Int32.ofInt x) :: st) M Q :=
  mE_of (fun h q hR e => qe_iadd h1 (by rw [← Int32.ofInt_add]; exact e)) kk
theorem mE_isub {x y : Int} (h1 : qcd k pc = some (.isub, 1)) (kk : mE X d k ρ (pc + 1) ls (.int (Int32.ofInt (x - y)) :: st) M Q) : mE X d k ρ pc ls (.int (Int32.ofInt y) :: .int (Int32.ofInt x) :: st) M Q :=
  mE_of (fun h q hR e => qe_isub h1 (by rw [← Int32.ofInt_sub]; exact e)) kk
theorem mE_imul {x y : Int} (h1 : qcd k pc = some (.imul, 1)) (kk : mE X d k ρ (pc + 1) ls (.int (Int32.ofInt (x * y)) :: st) M Q) : mE X d k ρ pc ls (.int (Int32.ofInt y) :: .int (Int32.ofInt x) :: st) M Q :=
  mE_of (fun h q hR e => qe_imul h1 (by rw [← Int32.ofInt_mul]; exact e)) kk
theorem mE_idiv {x y : Int} (h1 : qcd k pc = some (.idiv, 1)) (hx : R4 x) (hy : R4 y) (h0 : ¬ y = 0) (kk : mE X d k ρ (pc + 1) ls (.int (Int32.ofInt (x.tdiv y)) :: st) M Q) : mE X d k ρ pc ls (.int (Int32.ofInt y) :: .int (Int32.ofInt x) :: st) M Q :=
  mE_of (fun h q hR e => qe_idiv h1 (i4_ne0 hy h0) (by rw [i4_div hx hy]; exact e)) kk
theorem mE_irem {x y : Int} (h1 : qcd k pc = some (.irem, 1)) (hx : R4 x) (hy : R4 y) (h0 : ¬ y = 0) (kk : mE X d k ρ (pc + 1) ls (.int (Int32.ofInt (x.tmod y)) :: st) M Q) : mE X d k ρ pc ls (.int (Int32.ofInt y) :: .int (Int32.ofInt x) :: st) M Q :=
  mE_of (fun h q hR e => qe_irem h1 (i4_ne0 hy h0) (by rw [i4_rem hx hy]; exact e)) kk
theorem mE_ineg {x : Int} (h1 : qcd k pc = some (.ineg, 1)) (kk : mE X d k ρ (pc + 1) ls (.int (Int32.ofInt (-x)) :: st) M Q) : mE X d k ρ pc ls (.int (Int32.ofInt x) :: st) M Q :=
  mE_of (fun h q hR e => qe_ineg h1 (by rw [← Int32.ofInt_neg]; exact e)) kk
theorem mE_ladd {x y : Int} (h1 : qcd k pc = some (.ladd, 1)) (kk : mE X d k ρ (pc + 1) ls (.long (Int64.ofInt (x + y)) :: st) M Q) : mE X d k ρ pc ls (.long (Int64.ofInt y) :: .long (Int64.ofInt x) :: st) M Q :=
  mE_of (fun h q hR e => qe_ladd h1 (by rw [← Int64.ofInt_add]; exact e)) kk
theorem mE_lsub {x y : Int} (h1 : qcd k pc = some (.lsub, 1)) (kk : mE X d k ρ (pc + 1) ls (.long (Int64.ofInt (x - y)) :: st) M Q) : mE X d k ρ pc ls (.long (Int64.ofInt y) :: .long (Int64.ofInt x) :: st) M Q :=
  mE_of (fun h q hR e => qe_lsub h1 (by rw [← Int64.ofInt_sub]; exact e)) kk
theorem mE_lmul {x y : Int} (h1 : qcd k pc = some (.lmul, 1)) (kk : mE X d k ρ (pc + 1) ls (.long (Int64.ofInt (x * y)) :: st) M Q) : mE X d k ρ pc ls (.long (Int64.ofInt y) :: .long (Int64.ofInt x) :: st) M Q :=
  mE_of (fun h q hR e => qe_lmul h1 (by rw [← Int64.ofInt_mul]; exact e)) kk
theorem mE_ldiv {x y : Int} (h1 : qcd k pc = some (.ldiv, 1)) (hx : R8 x) (hy : R8 y) (h0 : ¬ y = 0) (kk : mE X d k ρ (pc + 1) ls (.long (Int64.ofInt (x.tdiv y)) :: st) M Q) : mE X d k ρ pc ls (.long (Int64.ofInt y) :: .long (Int64.ofInt x) :: st) M Q :=
  mE_of (fun h q hR e => qe_ldiv h1 (i8_ne0 hy h0) (by rw [i8_div hx hy]; exact e)) kk
theorem mE_lrem {x y : Int} (h1 : qcd k pc = some (.lrem, 1)) (hx : R8 x) (hy : R8 y) (h0 : ¬ y = 0) (kk : mE X d k ρ (pc + 1) ls (.long (Int64.ofInt (x.tmod y)) :: st) M Q) : mE X d k ρ pc ls (.long (Int64.ofInt y) :: .long (Int64.ofInt x) :: st) M Q :=
  mE_of (fun h q hR e => qe_lrem h1 (i8_ne0 hy h0) (by rw [i8_rem hx hy]; exact e)) kk
theorem mE_lneg {x : Int} (h1 : qcd k pc = some (.lneg, 1)) (kk : mE X d k ρ (pc + 1) ls (.long (Int64.ofInt (-x)) :: st) M Q) : mE X d k ρ pc ls (.long (Int64.ofInt x) :: st) M Q :=
  mE_of (fun h q hR e => qe_lneg h1 (by rw [← Int64.ofInt_neg]; exact e)) kk
theorem mE_iand {x y : Int} (h1 : qcd k pc = some (.iand, 1)) (kk : mE X d k ρ (pc + 1) ls (.int (Int32.ofInt (bAnd x y)) :: st) M Q) : mE X d k ρ pc ls (.int (Int32.ofInt y) :: .int (Int32.ofInt x) :: st) M Q :=
  mE_of (fun h q hR e => qe_iand h1 (by unfold bAnd at e; rw [Int32.ofInt_toInt] at e; exact e)) kk
theorem mE_ior {x y : Int} (h1 : qcd k pc = some (.ior, 1)) (kk : mE X d k ρ (pc + 1) ls (.int (Int32.ofInt (bOr x y)) :: st) M Q) : mE X d k ρ pc ls (.int (Int32.ofInt y) :: .int (Int32.ofInt x) :: st) M Q :=
  mE_of (fun h q hR e => qe_ior h1 (by unfold bOr at e; rw [Int32.ofInt_toInt] at e; exact e)) kk
theorem mE_ixor {x y : Int} (h1 : qcd k pc = some (.ixor, 1)) (kk : mE X d k ρ (pc + 1) ls (.int (Int32.ofInt (bXor x y)) :: st) M Q) : mE X d k ρ pc ls (.int (Int32.ofInt y) :: .int (Int32.ofInt x) :: st) M Q :=
  mE_of (fun h q hR e => qe_ixor h1 (by unfold bXor at e; rw [Int32.ofInt_toInt] at e; exact e)) kk
theorem mE_ishl {x y : Int} (h1 : qcd k pc = some (.ishl, 1)) (kk : mE X d k ρ (pc + 1) ls (.int (Int32.ofInt (bShl x y)) :: st) M Q) : mE X d k ρ pc ls (.int (Int32.ofInt y) :: .int (Int32.ofInt x) :: st) M Q :=
  mE_of (fun h q hR e => qe_ishl h1 (by unfold bShl at e; rw [Int32.ofInt_toInt] at e; exact e)) kk
theorem mE_ishr {x y : Int} (h1 : qcd k pc = some (.ishr, 1)) (kk : mE X d k ρ (pc + 1) ls (.int (Int32.ofInt (bShr x y)) :: st) M Q) : mE X d k ρ pc ls (.int (Int32.ofInt y) :: .int (Int32.ofInt x) :: st) M Q :=
  mE_of (fun h q hR e => qe_ishr h1 (by unfold bShr at e; rw [Int32.ofInt_toInt] at e; exact e)) kk
theorem mE_iushr {x y : Int} (h1 : qcd k pc = some (.iushr, 1)) (kk : mE X d k ρ (pc + 1) ls (.int (Int32.ofInt (bUshr x y)) :: st) M Q) : mE X d k ρ pc ls (.int (Int32.ofInt y) :: .int (Int32.ofInt x) :: st) M Q :=
  mE_of (fun h q hR e => qe_iushr h1 (by unfold bUshr at e; rw [Int32.ofInt_toInt] at e; exact e)) kk
theorem mE_iaddW {x y : Int} (h1 : qcd k pc = some (.iadd, 1)) (kk : mE X d k ρ (pc + 1) ls (.int (Int32.ofInt (w4 (x + y))) :: st) M Q) : mE X d k ρ pc ls (.int (Int32.ofInt y) :: .int (Int32.ofInt x) :: st) M Q :=
  mE_of (fun h q hR e => qe_iadd h1 (by unfold w4 at e; rw [Int32.ofInt_toInt, Int32.ofInt_add] at e; exact e)) kk
theorem mE_isubW {x y : Int} (h1 : qcd k pc = some (.isub, 1)) (kk : mE X d k ρ (pc + 1) ls (.int (Int32.ofInt (w4 (x - y))) :: st) M Q) : mE X d k ρ pc ls (.int (Int32.ofInt y) :: .int (Int32.ofInt x) :: st) M Q :=
  mE_of (fun h q hR e => qe_isub h1 (by unfold w4 at e; rw [Int32.ofInt_toInt, Int32.ofInt_sub] at e; exact e)) kk
theorem mE_imulW {x y : Int} (h1 : qcd k pc = some (.imul, 1)) (kk : mE X d k ρ (pc + 1) ls (.int (Int32.ofInt (w4 (x * y))) :: st) M Q) : mE X d k ρ pc ls (.int (Int32.ofInt y) :: .int (Int32.ofInt x) :: st) M Q :=
  mE_of (fun h q hR e => qe_imul h1 (by unfold w4 at e; rw [Int32.ofInt_toInt, Int32.ofInt_mul] at e; exact e)) kk
theorem mE_idivW {x y : Int} (h1 : qcd k pc = some (.idiv, 1)) (hx : R4 x) (hy : R4 y) (h0 : ¬ y = 0) (kk : mE X d k ρ (pc + 1) ls (.int (Int32.ofInt (w4 (x.tdiv y))) :: st) M Q) : mE X d k ρ pc ls (.int (Int32.ofInt y) :: .int (Int32.ofInt x) :: st) M Q :=
  mE_of (fun h q hR e => qe_idiv h1 (i4_ne0 hy h0) (by rw [i4_div hx hy]; unfold w4 at e; rw [Int32.ofInt_toInt] at e; exact e)) kk
theorem mE_iremW {x y : Int} (h1 : qcd k pc = some (.irem, 1)) (hx : R4 x) (hy : R4 y) (h0 : ¬ y = 0) (kk : mE X d k ρ (pc + 1) ls (.int (Int32.ofInt (w4 (x.tmod y))) :: st) M Q) : mE X d k ρ pc ls (.int (Int32.ofInt y) :: .int (Int32.ofInt x) :: st) M Q :=
  mE_of (fun h q hR e => qe_irem h1 (i4_ne0 hy h0) (by rw [i4_rem hx hy]; unfold w4 at e; rw [Int32.ofInt_toInt] at e; exact e)) kk
theorem mE_laddW {x y : Int} (h1 : qcd k pc = some (.ladd, 1)) (kk : mE X d k ρ (pc + 1) ls (.long (Int64.ofInt (w8 (x + y))) :: st) M Q) : mE X d k ρ pc ls (.long (Int64.ofInt y) :: .long (Int64.ofInt x) :: st) M Q :=
  mE_of (fun h q hR e => qe_ladd h1 (by unfold w8 at e; rw [Int64.ofInt_toInt, Int64.ofInt_add] at e; exact e)) kk
theorem mE_lsubW {x y : Int} (h1 : qcd k pc = some (.lsub, 1)) (kk : mE X d k ρ (pc + 1) ls (.long (Int64.ofInt (w8 (x - y))) :: st) M Q) : mE X d k ρ pc ls (.long (Int64.ofInt y) :: .long (Int64.ofInt x) :: st) M Q :=
  mE_of (fun h q hR e => qe_lsub h1 (by unfold w8 at e; rw [Int64.ofInt_toInt, Int64.ofInt_sub] at e; exact e)) kk
theorem mE_lmulW {x y : Int} (h1 : qcd k pc = some (.lmul, 1)) (kk : mE X d k ρ (pc + 1) ls (.long (Int64.ofInt (w8 (x * y))) :: st) M Q) : mE X d k ρ pc ls (.long (Int64.ofInt y) :: .long (Int64.ofInt x) :: st) M Q :=
  mE_of (fun h q hR e => qe_lmul h1 (by unfold w8 at e; rw [Int64.ofInt_toInt, Int64.ofInt_mul] at e; exact e)) kk
theorem mE_ldivW {x y : Int} (h1 : qcd k pc = some (.ldiv, 1)) (hx : R8 x) (hy : R8 y) (h0 : ¬ y = 0) (kk : mE X d k ρ (pc + 1) ls (.long (Int64.ofInt (w8 (x.tdiv y))) :: st) M Q) : mE X d k ρ pc ls (.long (Int64.ofInt y) :: .long (Int64.ofInt x) :: st) M Q :=
  mE_of (fun h q hR e => qe_ldiv h1 (i8_ne0 hy h0) (by rw [i8_div hx hy]; unfold w8 at e; rw [Int64.ofInt_toInt] at e; exact e)) kk
theorem mE_lremW {x y : Int} (h1 : qcd k pc = some (.lrem, 1)) (hx : R8 x) (hy : R8 y) (h0 : ¬ y = 0) (kk : mE X d k ρ (pc + 1) ls (.long (Int64.ofInt (w8 (x.tmod y))) :: st) M Q) : mE X d k ρ pc ls (.long (Int64.ofInt y) :: .long (Int64.ofInt x) :: st) M Q :=
  mE_of (fun h q hR e => qe_lrem h1 (i8_ne0 hy h0) (by rw [i8_rem hx hy]; unfold w8 at e; rw [Int64.ofInt_toInt] at e; exact e)) kk
theorem r4_01 {x : Int} (h : x = 0 ∨ x = 1) : R4 x := by rcases h with rfl | rfl <;> decide
theorem r4_w4 (x : Int) : R4 (w4 x) := r4_toInt _
theorem r8_w8 (x : Int) : R8 (w8 x) := r8_toInt _
theorem r4_and (x y : Int) : R4 (bAnd x y) := r4_toInt _
theorem r4_or (x y : Int) : R4 (bOr x y) := r4_toInt _
theorem r4_xor (x y : Int) : R4 (bXor x y) := r4_toInt _
theorem r4_shl (x y : Int) : R4 (bShl x y) := r4_toInt _
theorem r4_shr (x y : Int) : R4 (bShr x y) := r4_toInt _
theorem r4_ushr (x y : Int) : R4 (bUshr x y) := r4_toInt _
theorem r4_byte (x : Int) : R4 (bByte x) := r4_toInt _
theorem i48 {x : Int} (hx : R4 x) : (Int32.ofInt x).toInt64 = Int64.ofInt x := by rw [← Int64.toInt_inj, Int32.toInt_toInt64, i4_toInt hx, i8_toInt hx.to8]
theorem i84 {x : Int} (hx : R4 x) : (Int64.ofInt x).toInt32 = Int32.ofInt x := by
  rw [← Int32.toInt_inj, Int64.toInt_toInt32, i8_toInt hx.to8, Int32.toInt_ofInt]
theorem mE_i2l {x : Int} (h1 : qcd k pc = some (.i2l, 1)) (hx : R4 x) (kk : mE X d k ρ (pc + 1) ls (.long (Int64.ofInt x) :: st) M Q) : mE X d k ρ pc ls (.int (Int32.ofInt x) :: st) M Q :=
  mE_of (fun h q hR e => qe_i2l h1 (by rw [i48 hx]; exact e)) kk
theorem mE_l2i {x : Int} (h1 : qcd k pc = some (.l2i, 1)) (hx : R4 x) (kk : mE X d k ρ (pc + 1) ls (.int (Int32.ofInt x) :: st) M Q) : mE X d k ρ pc ls (.long (Int64.ofInt x) :: st) M Q :=
  mE_of (fun h q hR e => qe_l2i h1 (by rw [i84 hx]; exact e)) kk
theorem mE_i2b {x : Int} (h1 : qcd k pc = some (.i2b, 1)) (kk : mE X d k ρ (pc + 1) ls (.int (Int32.ofInt (bByte x)) :: st) M Q) : mE X d k ρ pc ls (.int (Int32.ofInt x) :: st) M Q :=
  mE_of (fun h q hR e => qe_i2b h1 (by unfold bByte at e; rw [Int32.ofInt_toInt] at e; exact e)) kk
theorem mE_iinc {w : Nat} {u x : Int} (h1 : qcd k pc = some (.iinc w u, 3)) (hl : ls[w]? = some (some (.int (Int32.ofInt x)))) (hi : w < ls.length) (hp : qput1 ls w (.int (Int32.ofInt (x + u))) = ls2) (kk : mE X d k ρ (pc + 3) ls2 st M Q) : mE X d k ρ pc ls st M Q :=
  mE_of (fun h q hR e => qe_iinc h1 hl hi (Int32.ofInt_add x u).symm hp e) kk
theorem mE_dup {x : Value} (h1 : qcd k pc = some (.dup, 1)) (hc : x.category = 1) (kk : mE X d k ρ (pc + 1) ls (x :: x :: st) M Q) : mE X d k ρ pc ls (x :: st) M Q :=
  mE_of (fun h q hR e => qe_dup h1 hc e) kk
theorem mE_dup2_2 {x : Value} (h1 : qcd k pc = some (.dup2, 1)) (hc : x.category = 2) (kk : mE X d k ρ (pc + 1) ls (x :: x :: st) M Q) : mE X d k ρ pc ls (x :: st) M Q :=
  mE_of (fun h q hR e => qe_dup2_2 h1 hc e) kk
theorem mE_dup2 {x y : Value} (h1 : qcd k pc = some (.dup2, 1)) (hc : ¬ x.category = 2) (hy : y.category = 1) (kk : mE X d k ρ (pc + 1) ls (x :: y :: x :: y :: st) M Q) : mE X d k ρ pc ls (x :: y :: st) M Q :=
  mE_of (fun h q hR e => qe_dup2 h1 hc hy e) kk
theorem mE_goto {w : Int} {t : Nat} (h1 : qcd k pc = some (.goto w, 3)) (ht : (pc : Int) + w = (t : Int)) (kk : mE X d k ρ t ls st M Q) : mE X d k ρ pc ls st M Q :=
  mE_of (fun h q hR e => qe_goto h1 ht e) kk
theorem mE_icmp_eq_T {w : Int} {t : Nat} {x y : Int} (h1 : qcd k pc = some (.if_icmp .eq w, 3)) (ht : (pc : Int) + w = (t : Int)) (hx : R4 x) (hy : R4 y) (c : x = y) (kk : mE X d k ρ t ls st M Q) : mE X d k ρ pc ls (.int (Int32.ofInt y) :: .int (Int32.ofInt x) :: st) M Q :=
  mE_of (fun h q hR e => qe_icmp_eq_T h1 ht ((i4_eq hx hy).mpr c) e) kk
theorem mE_icmp_eq_F {w : Int} {t : Nat} {x y : Int} (h1 : qcd k pc = some (.if_icmp .eq w, 3)) (ht : (pc : Int) + w = (t : Int)) (hx : R4 x) (hy : R4 y) (c : ¬ (x = y)) (kk : mE X d k ρ (pc + 3) ls st M Q) : mE X d k ρ pc ls (.int (Int32.ofInt y) :: .int (Int32.ofInt x) :: st) M Q :=
  mE_of (fun h q hR e => qe_icmp_eq_F h1 ht (fun q => c ((i4_eq hx hy).mp q)) e) kk
theorem mE_if_eq_T {w : Int} {t : Nat} {x : Int} (h1 : qcd k pc = some (.ifCond .eq w, 3)) (ht : (pc : Int) + w = (t : Int)) (hx : R4 x) (c : x = 0) (kk : mE X d k ρ t ls st M Q) : mE X d k ρ pc ls (.int (Int32.ofInt x) :: st) M Q :=
  mE_of (fun h q hR e => by have hy : R4 0 := (by decide); exact qe_if_eq_T h1 ht ((i4_eq hx hy).mpr c) e) kk
theorem mE_if_eq_F {w : Int} {t : Nat} {x : Int} (h1 : qcd k pc = some (.ifCond .eq w, 3)) (ht : (pc : Int) + w = (t : Int)) (hx : R4 x) (c : ¬ (x = 0)) (kk : mE X d k ρ (pc + 3) ls st M Q) : mE X d k ρ pc ls (.int (Int32.ofInt x) :: st) M Q :=
  mE_of (fun h q hR e => by have hy : R4 0 := (by decide); exact qe_if_eq_F h1 ht (fun q => c ((i4_eq hx hy).mp q)) e) kk
theorem mE_icmp_ne_T {w : Int} {t : Nat} {x y : Int} (h1 : qcd k pc = some (.if_icmp .ne w, 3)) (ht : (pc : Int) + w = (t : Int)) (hx : R4 x) (hy : R4 y) (c : ¬ (x = y)) (kk : mE X d k ρ t ls st M Q) : mE X d k ρ pc ls (.int (Int32.ofInt y) :: .int (Int32.ofInt x) :: st) M Q :=
  mE_of (fun h q hR e => qe_icmp_ne_T h1 ht (fun q => c ((i4_eq hx hy).mp q)) e) kk
theorem mE_icmp_ne_F {w : Int} {t : Nat} {x y : Int} (h1 : qcd k pc = some (.if_icmp .ne w, 3)) (ht : (pc : Int) + w = (t : Int)) (hx : R4 x) (hy : R4 y) (c : x = y) (kk : mE X d k ρ (pc + 3) ls st M Q) : mE X d k ρ pc ls (.int (Int32.ofInt y) :: .int (Int32.ofInt x) :: st) M Q :=
  mE_of (fun h q hR e => qe_icmp_ne_F h1 ht ((i4_eq hx hy).mpr c) e) kk
theorem mE_if_ne_T {w : Int} {t : Nat} {x : Int} (h1 : qcd k pc = some (.ifCond .ne w, 3)) (ht : (pc : Int) + w = (t : Int)) (hx : R4 x) (c : ¬ (x = 0)) (kk : mE X d k ρ t ls st M Q) : mE X d k ρ pc ls (.int (Int32.ofInt x) :: st) M Q :=
  mE_of (fun h q hR e => by have hy : R4 0 := (by decide); exact qe_if_ne_T h1 ht (fun q => c ((i4_eq hx hy).mp q)) e) kk
theorem mE_if_ne_F {w : Int} {t : Nat} {x : Int} (h1 : qcd k pc = some (.ifCond .ne w, 3)) (ht : (pc : Int) + w = (t : Int)) (hx : R4 x) (c : x = 0) (kk : mE X d k ρ (pc + 3) ls st M Q) : mE X d k ρ pc ls (.int (Int32.ofInt x) :: st) M Q :=
  mE_of (fun h q hR e => by have hy : R4 0 := (by decide); exact qe_if_ne_F h1 ht ((i4_eq hx hy).mpr c) e) kk
theorem mE_icmp_lt_T {w : Int} {t : Nat} {x y : Int} (h1 : qcd k pc = some (.if_icmp .lt w, 3)) (ht : (pc : Int) + w = (t : Int)) (hx : R4 x) (hy : R4 y) (c : x < y) (kk : mE X d k ρ t ls st M Q) : mE X d k ρ pc ls (.int (Int32.ofInt y) :: .int (Int32.ofInt x) :: st) M Q :=
  mE_of (fun h q hR e => qe_icmp_lt_T h1 ht ((i4_lt hx hy).mpr c) e) kk
theorem mE_icmp_lt_F {w : Int} {t : Nat} {x y : Int} (h1 : qcd k pc = some (.if_icmp .lt w, 3)) (ht : (pc : Int) + w = (t : Int)) (hx : R4 x) (hy : R4 y) (c : ¬ (x < y)) (kk : mE X d k ρ (pc + 3) ls st M Q) : mE X d k ρ pc ls (.int (Int32.ofInt y) :: .int (Int32.ofInt x) :: st) M Q :=
  mE_of (fun h q hR e => qe_icmp_lt_F h1 ht (fun q => c ((i4_lt hx hy).mp q)) e) kk
theorem mE_if_lt_T {w : Int} {t : Nat} {x : Int} (h1 : qcd k pc = some (.ifCond .lt w, 3)) (ht : (pc : Int) + w = (t : Int)) (hx : R4 x) (c : x < 0) (kk : mE X d k ρ t ls st M Q) : mE X d k ρ pc ls (.int (Int32.ofInt x) :: st) M Q :=
  mE_of (fun h q hR e => by have hy : R4 0 := (by decide); exact qe_if_lt_T h1 ht ((i4_lt hx hy).mpr c) e) kk
theorem mE_if_lt_F {w : Int} {t : Nat} {x : Int} (h1 : qcd k pc = some (.ifCond .lt w, 3)) (ht : (pc : Int) + w = (t : Int)) (hx : R4 x) (c : ¬ (x < 0)) (kk : mE X d k ρ (pc + 3) ls st M Q) : mE X d k ρ pc ls (.int (Int32.ofInt x) :: st) M Q :=
  mE_of (fun h q hR e => by have hy : R4 0 := (by decide); exact qe_if_lt_F h1 ht (fun q => c ((i4_lt hx hy).mp q)) e) kk
theorem mE_icmp_ge_T {w : Int} {t : Nat} {x y : Int} (h1 : qcd k pc = some (.if_icmp .ge w, 3)) (ht : (pc : Int) + w = (t : Int)) (hx : R4 x) (hy : R4 y) (c : ¬ (x < y)) (kk : mE X d k ρ t ls st M Q) : mE X d k ρ pc ls (.int (Int32.ofInt y) :: .int (Int32.ofInt x) :: st) M Q :=
  mE_of (fun h q hR e => qe_icmp_ge_T h1 ht ((i4_le hy hx).mpr (by omega)) e) kk
theorem mE_icmp_ge_F {w : Int} {t : Nat} {x y : Int} (h1 : qcd k pc = some (.if_icmp .ge w, 3)) (ht : (pc : Int) + w = (t : Int)) (hx : R4 x) (hy : R4 y) (c : x < y) (kk : mE X d k ρ (pc + 3) ls st M Q) : mE X d k ρ pc ls (.int (Int32.ofInt y) :: .int (Int32.ofInt x) :: st) M Q :=
  mE_of (fun h q hR e => qe_icmp_ge_F h1 ht (fun q => by have := (i4_le hy hx).mp q; omega) e) kk
theorem mE_if_ge_T {w : Int} {t : Nat} {x : Int} (h1 : qcd k pc = some (.ifCond .ge w, 3)) (ht : (pc : Int) + w = (t : Int)) (hx : R4 x) (c : ¬ (x < 0)) (kk : mE X d k ρ t ls st M Q) : mE X d k ρ pc ls (.int (Int32.ofInt x) :: st) M Q :=
  mE_of (fun h q hR e => by have hy : R4 0 := (by decide); exact qe_if_ge_T h1 ht ((i4_le hy hx).mpr (by omega)) e) kk
theorem mE_if_ge_F {w : Int} {t : Nat} {x : Int} (h1 : qcd k pc = some (.ifCond .ge w, 3)) (ht : (pc : Int) + w = (t : Int)) (hx : R4 x) (c : x < 0) (kk : mE X d k ρ (pc + 3) ls st M Q) : mE X d k ρ pc ls (.int (Int32.ofInt x) :: st) M Q :=
  mE_of (fun h q hR e => by have hy : R4 0 := (by decide); exact qe_if_ge_F h1 ht (fun q => by have := (i4_le hy hx).mp q; omega) e) kk
theorem mE_icmp_gt_T {w : Int} {t : Nat} {x y : Int} (h1 : qcd k pc = some (.if_icmp .gt w, 3)) (ht : (pc : Int) + w = (t : Int)) (hx : R4 x) (hy : R4 y) (c : y < x) (kk : mE X d k ρ t ls st M Q) : mE X d k ρ pc ls (.int (Int32.ofInt y) :: .int (Int32.ofInt x) :: st) M Q :=
  mE_of (fun h q hR e => qe_icmp_gt_T h1 ht ((i4_lt hy hx).mpr c) e) kk
theorem mE_icmp_gt_F {w : Int} {t : Nat} {x y : Int} (h1 : qcd k pc = some (.if_icmp .gt w, 3)) (ht : (pc : Int) + w = (t : Int)) (hx : R4 x) (hy : R4 y) (c : ¬ (y < x)) (kk : mE X d k ρ (pc + 3) ls st M Q) : mE X d k ρ pc ls (.int (Int32.ofInt y) :: .int (Int32.ofInt x) :: st) M Q :=
  mE_of (fun h q hR e => qe_icmp_gt_F h1 ht (fun q => c ((i4_lt hy hx).mp q)) e) kk
theorem mE_if_gt_T {w : Int} {t : Nat} {x : Int} (h1 : qcd k pc = some (.ifCond .gt w, 3)) (ht : (pc : Int) + w = (t : Int)) (hx : R4 x) (c : 0 < x) (kk : mE X d k ρ t ls st M Q) : mE X d k ρ pc ls (.int (Int32.ofInt x) :: st) M Q :=
  mE_of (fun h q hR e => by have hy : R4 0 := (by decide); exact qe_if_gt_T h1 ht ((i4_lt hy hx).mpr c) e) kk
theorem mE_if_gt_F {w : Int} {t : Nat} {x : Int} (h1 : qcd k pc = some (.ifCond .gt w, 3)) (ht : (pc : Int) + w = (t : Int)) (hx : R4 x) (c : ¬ (0 < x)) (kk : mE X d k ρ (pc + 3) ls st M Q) : mE X d k ρ pc ls (.int (Int32.ofInt x) :: st) M Q :=
  mE_of (fun h q hR e => by have hy : R4 0 := (by decide); exact qe_if_gt_F h1 ht (fun q => c ((i4_lt hy hx).mp q)) e) kk
theorem mE_icmp_le_T {w : Int} {t : Nat} {x y : Int} (h1 : qcd k pc = some (.if_icmp .le w, 3)) (ht : (pc : Int) + w = (t : Int)) (hx : R4 x) (hy : R4 y) (c : ¬ (y < x)) (kk : mE X d k ρ t ls st M Q) : mE X d k ρ pc ls (.int (Int32.ofInt y) :: .int (Int32.ofInt x) :: st) M Q :=
  mE_of (fun h q hR e => qe_icmp_le_T h1 ht ((i4_le hx hy).mpr (by omega)) e) kk
theorem mE_icmp_le_F {w : Int} {t : Nat} {x y : Int} (h1 : qcd k pc = some (.if_icmp .le w, 3)) (ht : (pc : Int) + w = (t : Int)) (hx : R4 x) (hy : R4 y) (c : y < x) (kk : mE X d k ρ (pc + 3) ls st M Q) : mE X d k ρ pc ls (.int (Int32.ofInt y) :: .int (Int32.ofInt x) :: st) M Q :=
  mE_of (fun h q hR e => qe_icmp_le_F h1 ht (fun q => by have := (i4_le hx hy).mp q; omega) e) kk
theorem mE_if_le_T {w : Int} {t : Nat} {x : Int} (h1 : qcd k pc = some (.ifCond .le w, 3)) (ht : (pc : Int) + w = (t : Int)) (hx : R4 x) (c : ¬ (0 < x)) (kk : mE X d k ρ t ls st M Q) : mE X d k ρ pc ls (.int (Int32.ofInt x) :: st) M Q :=
  mE_of (fun h q hR e => by have hy : R4 0 := (by decide); exact qe_if_le_T h1 ht ((i4_le hx hy).mpr (by omega)) e) kk
theorem mE_if_le_F {w : Int} {t : Nat} {x : Int} (h1 : qcd k pc = some (.ifCond .le w, 3)) (ht : (pc : Int) + w = (t : Int)) (hx : R4 x) (c : 0 < x) (kk : mE X d k ρ (pc + 3) ls st M Q) : mE X d k ρ pc ls (.int (Int32.ofInt x) :: st) M Q :=
  mE_of (fun h q hR e => by have hy : R4 0 := (by decide); exact qe_if_le_F h1 ht (fun q => by have := (i4_le hx hy).mp q; omega) e) kk
theorem lg_lt {x y : Int} (hx : R8 x) (hy : R8 y) : (lg_cmp (Int64.ofInt x) (Int64.ofInt y) < 0) ↔ x < y := (lg_cmp_lt _ _).trans (i8_lt hx hy)
theorem lg_gt {x y : Int} (hx : R8 x) (hy : R8 y) : (0 < lg_cmp (Int64.ofInt x) (Int64.ofInt y)) ↔ y < x := (lg_cmp_gt _ _).trans (i8_lt hy hx)
theorem lg_eq {x y : Int} (hx : R8 x) (hy : R8 y) : (lg_cmp (Int64.ofInt x) (Int64.ofInt y) = 0) ↔ x = y := (lg_cmp_eq _ _).trans (i8_eq hx hy)
theorem lg_not {a : Int32} : (0 ≤ a) ↔ ¬ a < 0 := by rw [Int32.le_iff_toInt_le, Int32.lt_iff_toInt_lt]; omega
theorem lg_not2 {a : Int32} : (a ≤ 0) ↔ ¬ 0 < a := by rw [Int32.le_iff_toInt_le, Int32.lt_iff_toInt_lt]; omega
theorem mE_lcmp_eq_T {w : Int} {t : Nat} {x y : Int} (h0 : qcd k pc = some (.lcmp, 1)) (h1 : qcd k (pc + 1) = some (.ifCond .eq w, 3)) (ht : ((pc + 1 : Nat) : Int) + w = (t : Int)) (hx : R8 x) (hy : R8 y) (c : x = y) (kk : mE X d k ρ t ls st M Q) : mE X d k ρ pc ls (.long (Int64.ofInt y) :: .long (Int64.ofInt x) :: st) M Q :=
  mE_of (fun h q hR e => qe_lcmp h0 (qe_if_eq_T h1 ht ((lg_eq hx hy).mpr c) e)) kk
theorem mE_lcmp_eq_F {w : Int} {t : Nat} {x y : Int} (h0 : qcd k pc = some (.lcmp, 1)) (h1 : qcd k (pc + 1) = some (.ifCond .eq w, 3)) (ht : ((pc + 1 : Nat) : Int) + w = (t : Int)) (hx : R8 x) (hy : R8 y) (c : ¬ (x = y)) (kk : mE X d k ρ (pc + 4) ls st M Q) : mE X d k ρ pc ls (.long (Int64.ofInt y) :: .long (Int64.ofInt x) :: st) M Q :=
  mE_of (fun h q hR e => qe_lcmp h0 (qe_if_eq_F h1 ht (fun q => c ((lg_eq hx hy).mp q)) e)) kk
theorem mE_lcmp_ne_T {w : Int} {t : Nat} {x y : Int} (h0 : qcd k pc = some (.lcmp, 1)) (h1 : qcd k (pc + 1) = some (.ifCond .ne w, 3)) (ht : ((pc + 1 : Nat) : Int) + w = (t : Int)) (hx : R8 x) (hy : R8 y) (c : ¬ (x = y)) (kk : mE X d k ρ t ls st M Q) : mE X d k ρ pc ls (.long (Int64.ofInt y) :: .long (Int64.ofInt x) :: st) M Q :=
  mE_of (fun h q hR e => qe_lcmp h0 (qe_if_ne_T h1 ht (fun q => c ((lg_eq hx hy).mp q)) e)) kk
theorem mE_lcmp_ne_F {w : Int} {t : Nat} {x y : Int} (h0 : qcd k pc = some (.lcmp, 1)) (h1 : qcd k (pc + 1) = some (.ifCond .ne w, 3)) (ht : ((pc + 1 : Nat) : Int) + w = (t : Int)) (hx : R8 x) (hy : R8 y) (c : x = y) (kk : mE X d k ρ (pc + 4) ls st M Q) : mE X d k ρ pc ls (.long (Int64.ofInt y) :: .long (Int64.ofInt x) :: st) M Q :=
  mE_of (fun h q hR e => qe_lcmp h0 (qe_if_ne_F h1 ht ((lg_eq hx hy).mpr c) e)) kk
theorem mE_lcmp_lt_T {w : Int} {t : Nat} {x y : Int} (h0 : qcd k pc = some (.lcmp, 1)) (h1 : qcd k (pc + 1) = some (.ifCond .lt w, 3)) (ht : ((pc + 1 : Nat) : Int) + w = (t : Int)) (hx : R8 x) (hy : R8 y) (c : x < y) (kk : mE X d k ρ t ls st M Q) : mE X d k ρ pc ls (.long (Int64.ofInt y) :: .long (Int64.ofInt x) :: st) M Q :=
  mE_of (fun h q hR e => qe_lcmp h0 (qe_if_lt_T h1 ht ((lg_lt hx hy).mpr c) e)) kk
theorem mE_lcmp_lt_F {w : Int} {t : Nat} {x y : Int} (h0 : qcd k pc = some (.lcmp, 1)) (h1 : qcd k (pc + 1) = some (.ifCond .lt w, 3)) (ht : ((pc + 1 : Nat) : Int) + w = (t : Int)) (hx : R8 x) (hy : R8 y) (c : ¬ (x < y)) (kk : mE X d k ρ (pc + 4) ls st M Q) : mE X d k ρ pc ls (.long (Int64.ofInt y) :: .long (Int64.ofInt x) :: st) M Q :=
  mE_of (fun h q hR e => qe_lcmp h0 (qe_if_lt_F h1 ht (fun q => c ((lg_lt hx hy).mp q)) e)) kk
theorem mE_lcmp_ge_T {w : Int} {t : Nat} {x y : Int} (h0 : qcd k pc = some (.lcmp, 1)) (h1 : qcd k (pc + 1) = some (.ifCond .ge w, 3)) (ht : ((pc + 1 : Nat) : Int) + w = (t : Int)) (hx : R8 x) (hy : R8 y) (c : ¬ (x < y)) (kk : mE X d k ρ t ls st M Q) : mE X d k ρ pc ls (.long (Int64.ofInt y) :: .long (Int64.ofInt x) :: st) M Q :=
  mE_of (fun h q hR e => qe_lcmp h0 (qe_if_ge_T h1 ht (lg_not.mpr fun q => c ((lg_lt hx hy).mp q)) e)) kk
theorem mE_lcmp_ge_F {w : Int} {t : Nat} {x y : Int} (h0 : qcd k pc = some (.lcmp, 1)) (h1 : qcd k (pc + 1) = some (.ifCond .ge w, 3)) (ht : ((pc + 1 : Nat) : Int) + w = (t : Int)) (hx : R8 x) (hy : R8 y) (c : x < y) (kk : mE X d k ρ (pc + 4) ls st M Q) : mE X d k ρ pc ls (.long (Int64.ofInt y) :: .long (Int64.ofInt x) :: st) M Q :=
  mE_of (fun h q hR e => qe_lcmp h0 (qe_if_ge_F h1 ht (fun q => lg_not.mp q ((lg_lt hx hy).mpr c)) e)) kk
theorem mE_lcmp_gt_T {w : Int} {t : Nat} {x y : Int} (h0 : qcd k pc = some (.lcmp, 1)) (h1 : qcd k (pc + 1) = some (.ifCond .gt w, 3)) (ht : ((pc + 1 : Nat) : Int) + w = (t : Int)) (hx : R8 x) (hy : R8 y) (c : y < x) (kk : mE X d k ρ t ls st M Q) : mE X d k ρ pc ls (.long (Int64.ofInt y) :: .long (Int64.ofInt x) :: st) M Q :=
  mE_of (fun h q hR e => qe_lcmp h0 (qe_if_gt_T h1 ht ((lg_gt hx hy).mpr c) e)) kk
theorem mE_lcmp_gt_F {w : Int} {t : Nat} {x y : Int} (h0 : qcd k pc = some (.lcmp, 1)) (h1 : qcd k (pc + 1) = some (.ifCond .gt w, 3)) (ht : ((pc + 1 : Nat) : Int) + w = (t : Int)) (hx : R8 x) (hy : R8 y) (c : ¬ (y < x)) (kk : mE X d k ρ (pc + 4) ls st M Q) : mE X d k ρ pc ls (.long (Int64.ofInt y) :: .long (Int64.ofInt x) :: st) M Q :=
  mE_of (fun h q hR e => qe_lcmp h0 (qe_if_gt_F h1 ht (fun q => c ((lg_gt hx hy).mp q)) e)) kk
theorem mE_lcmp_le_T {w : Int} {t : Nat} {x y : Int} (h0 : qcd k pc = some (.lcmp, 1)) (h1 : qcd k (pc + 1) = some (.ifCond .le w, 3)) (ht : ((pc + 1 : Nat) : Int) + w = (t : Int)) (hx : R8 x) (hy : R8 y) (c : ¬ (y < x)) (kk : mE X d k ρ t ls st M Q) : mE X d k ρ pc ls (.long (Int64.ofInt y) :: .long (Int64.ofInt x) :: st) M Q :=
  mE_of (fun h q hR e => qe_lcmp h0 (qe_if_le_T h1 ht (lg_not2.mpr fun q => c ((lg_gt hx hy).mp q)) e)) kk
theorem mE_lcmp_le_F {w : Int} {t : Nat} {x y : Int} (h0 : qcd k pc = some (.lcmp, 1)) (h1 : qcd k (pc + 1) = some (.ifCond .le w, 3)) (ht : ((pc + 1 : Nat) : Int) + w = (t : Int)) (hx : R8 x) (hy : R8 y) (c : y < x) (kk : mE X d k ρ (pc + 4) ls st M Q) : mE X d k ρ pc ls (.long (Int64.ofInt y) :: .long (Int64.ofInt x) :: st) M Q :=
  mE_of (fun h q hR e => qe_lcmp h0 (qe_if_le_F h1 ht (fun q => lg_not2.mp q ((lg_gt hx hy).mpr c)) e)) kk
theorem mE_ifnull_T {w : Int} {t : Nat} (h1 : qcd k pc = some (.ifnull w, 3)) (ht : (pc : Int) + w = (t : Int)) (kk : mE X d k ρ t ls st M Q) : mE X d k ρ pc ls (.null :: st) M Q :=
  mE_of (fun h q hR e => qe_ifnull_T h1 ht e) kk
theorem mE_ifnull_F {w : Int} {x : Nat} (h1 : qcd k pc = some (.ifnull w, 3)) (kk : mE X d k ρ (pc + 3) ls st M Q) : mE X d k ρ pc ls (.ref x :: st) M Q :=
  mE_of (fun h q hR e => qe_ifnull_F h1 e) kk
theorem mE_ifnonnull_T {w : Int} {t x : Nat} (h1 : qcd k pc = some (.ifnonnull w, 3)) (ht : (pc : Int) + w = (t : Int)) (kk : mE X d k ρ t ls st M Q) : mE X d k ρ pc ls (.ref x :: st) M Q :=
  mE_of (fun h q hR e => qe_ifnonnull_T h1 ht e) kk
theorem mE_ifnonnull_F {w : Int} (h1 : qcd k pc = some (.ifnonnull w, 3)) (kk : mE X d k ρ (pc + 3) ls st M Q) : mE X d k ρ pc ls (.null :: st) M Q :=
  mE_of (fun h q hR e => qe_ifnonnull_F h1 e) kk
theorem mE_table {dflt lo hi off : Int} {offs : Array Int} {t : Nat} {x u : Int} (h1 : qcd k pc = some (.tableswitch dflt lo hi offs, z)) (hx : R4 x) (c : x = u) (a1 : ¬ (u < lo ∨ hi < u)) (a2 : offs[(u - lo).toNat]? = some off) (ht : (pc : Int) + off = (t : Int)) (kk : mE X d k ρ t ls st M Q) : mE X d k ρ pc ls (.int (Int32.ofInt x) :: st) M Q :=
  mE_of (fun h q hR e => by subst c; exact qe_table h1 (by rw [i4_toInt hx]; exact a1) (by rw [i4_toInt hx]; exact a2) ht e) kk
theorem mE_tableD {dflt lo hi : Int} {offs : Array Int} {t : Nat} {x : Int} (h1 : qcd k pc = some (.tableswitch dflt lo hi offs, z)) (hx : R4 x) (a1 : x < lo ∨ hi < x) (ht : (pc : Int) + dflt = (t : Int)) (kk : mE X d k ρ t ls st M Q) : mE X d k ρ pc ls (.int (Int32.ofInt x) :: st) M Q :=
  mE_of (fun h q hR e => qe_tableD h1 (by rw [i4_toInt hx]; exact a1) ht e) kk
theorem mE_lookup {dflt off : Int} {ps : Array (Int × Int)} {t : Nat} {x u : Int} (h1 : qcd k pc = some (.lookupswitch dflt ps, z)) (hx : R4 x) (c : x = u) (a1 : (ps.toList.zip (ps.toList.drop 1)).all (fun (a, next) => a.1 < next.1) = true) (a2 : Op.lookupswitch.offset ps.toList dflt u = off) (ht : (pc : Int) + off = (t : Int)) (kk : mE X d k ρ t ls st M Q) : mE X d k ρ pc ls (.int (Int32.ofInt x) :: st) M Q :=
  mE_of (fun h q hR e => by subst c; exact qe_lookup h1 a1 (by rw [i4_toInt hx]; exact a2) ht e) kk
theorem mE_lookupD {dflt : Int} {ps : Array (Int × Int)} {t : Nat} {x : Int} (h1 : qcd k pc = some (.lookupswitch dflt ps, z)) (hx : R4 x) (a1 : (ps.toList.zip (ps.toList.drop 1)).all (fun (a, next) => a.1 < next.1) = true) (a2 : Op.lookupswitch.offset ps.toList dflt x = dflt) (ht : (pc : Int) + dflt = (t : Int)) (kk : mE X d k ρ t ls st M Q) : mE X d k ρ pc ls (.int (Int32.ofInt x) :: st) M Q :=
  mE_of (fun h q hR e => qe_lookup h1 a1 (by rw [i4_toInt hx]; exact a2) ht e) kk
theorem mE_getI {w a c j p m : Nat} {b : Bool} {rs : List Nat} (h1 : qcd k pc = some (.getfield w, 3)) (ho : qown k = c0) (hF : qF_ c0 w = some (c, j, p, b)) (ha : Ok X a (5, c, m, rs)) (hj : rs[j]? = some 0) (kk : R4 (M a j) → mE X d k ρ (pc + 3) ls (.int (Int32.ofInt (M a j)) :: st) M Q) : mE X d k ρ pc ls (.ref a :: st) M Q :=
  mE_know (fun h hR => hR.r4' ha (by decide : (5 : Nat) ≠ 1) j) fun hr => mE_of (fun h q hR e => qe_getfield h1 ho hF (hR.at ha) ((mflds_get rs 0 j hj).trans (by rw [Nat.zero_add]; rfl)) e) (kk hr)
theorem mE_getA {w a c j p m : Nat} {b : Bool} {rs : List Nat} (h1 : qcd k pc = some (.getfield w, 3)) (ho : qown k = c0) (hF : qF_ c0 w = some (c, j, p, b)) (ha : Ok X a (5, c, m, rs)) {r : Nat} (hj : rs[j]? = some r) (hr : ¬ r = 0 ∧ ¬ r ≤ 2) (kk : mE X d k ρ (pc + 3) ls (.ref r :: st) M Q) : mE X d k ρ pc ls (.ref a :: st) M Q :=
  mE_of (fun h q hR e => qe_getfield h1 ho hF (hR.at ha) ((mflds_get rs 0 j hj).trans (by unfold mfld; rw [if_neg hr.1, if_neg hr.2])) e) kk
theorem mE_getT {w a c j p m : Nat} {b : Bool} {rs : List Nat} (h1 : qcd k pc = some (.getfield w, 3)) (ho : qown k = c0) (hF : qF_ c0 w = some (c, j, p, b)) (ha : Ok X a (5, c, m, rs)) {r : Nat} (hj : rs[j]? = some r) (hr : ¬ r = 0 ∧ r ≤ 2) (kk : mE X d k ρ (pc + 3) ls (.ref (M a j).toNat :: st) M Q) : mE X d k ρ pc ls (.ref a :: st) M Q :=
  mE_of (fun h q hR e => qe_getfield h1 ho hF (hR.at ha) ((mflds_get rs 0 j hj).trans (by unfold mfld; rw [if_neg hr.1, if_pos hr.2, Nat.zero_add])) e) kk
theorem mE_putI {w a c j p m : Nat} {b : Bool} {rs : List Nat} (h1 : qcd k pc = some (.putfield w, 3)) (ho : qown k = c0) (hF : qF_ c0 w = some (c, j, p, b)) (hz : qfin c j = false) (ha : Ok X a (5, c, m, rs)) (hl : j < rs.length) {x : Int} (hj : rs[j]? = some 0) (hx : R4 x) (hf : qfit (qty c j) (.int (Int32.ofInt x)) = true) (kk : mE X d k ρ (pc + 3) ls st (ms M a j x) Q) : mE X d k ρ pc ls (.int (Int32.ofInt x) :: .ref a :: st) M Q :=
  mE_st (fun h => qset h a (.inr (c, (mflds M a 0 rs).set j (.int (Int32.ofInt x))))) (fun h hR => hR.fldI ha hj mfld_int hx) (fun h q hR e => qe_putfield h1 ho hF hz (hR.at ha) (by rw [mflds_len]; exact hl) hf e) kk
theorem mE_putT {w a c j p m : Nat} {b : Bool} {rs : List Nat} (h1 : qcd k pc = some (.putfield w, 3)) (ho : qown k = c0) (hF : qF_ c0 w = some (c, j, p, b)) (hz : qfin c j = false) (ha : Ok X a (5, c, m, rs)) (hl : j < rs.length) {x r : Nat} (hj : rs[j]? = some r) (hr : ¬ r = 0 ∧ r ≤ 2) (hx : isTx x) (hf : qfit (qty c j) (.ref x) = true) (kk : mE X d k ρ (pc + 3) ls st (ms M a j (x : Int)) Q) : mE X d k ρ pc ls (.ref x :: .ref a :: st) M Q :=
  mE_st (fun h => qset h a (.inr (c, (mflds M a 0 rs).set j (.ref x)))) (fun h hR => hR.fldI ha hj (fun N e => by unfold mfld; rw [if_neg hr.1, if_pos hr.2, e, Int.toNat_natCast]) (by rcases hx with rfl | rfl <;> decide)) (fun h q hR e => qe_putfield h1 ho hF hz (hR.at ha) (by rw [mflds_len]; exact hl) hf e) kk
theorem ixq {i : Int} {n : Nat} (hi : R4 i) (hx : 0 ≤ i ∧ i < n) : 0 ≤ (Int32.ofInt i).toInt ∧ (Int32.ofInt i).toInt < n := by rw [i4_toInt hi]; exact hx
theorem mE_iaload {a n : Nat} {i : Int} {rs : List Nat} (h1 : qcd k pc = some (.iaload, 1)) (ha : Ok X a (0, 0, n, rs)) (hi : R4 i) (hx : 0 ≤ i ∧ i < n) (kk : R4 (M a i.toNat) → mE X d k ρ (pc + 1) ls (.int (Int32.ofInt (M a i.toNat)) :: st) M Q) : mE X d k ρ pc ls (.int (Int32.ofInt i) :: .ref a :: st) M Q :=
  mE_know (fun h hR => hR.r4' ha (by decide : (0 : Nat) ≠ 1) i.toNat) fun hr => mE_of (fun h q hR e => qe_iaload h1 (hR.at ha) (ixq hi hx) (by rw [i4_nat hi]; exact e)) (kk hr)
theorem mE_zaload {a n : Nat} {i : Int} {rs : List Nat} (h1 : qcd k pc = some (.baload, 1)) (ha : Ok X a (0, 1, n, rs)) (hi : R4 i) (hx : 0 ≤ i ∧ i < n) (kk : R4 (M a i.toNat) → mE X d k ρ (pc + 1) ls (.int (Int32.ofInt (M a i.toNat)) :: st) M Q) : mE X d k ρ pc ls (.int (Int32.ofInt i) :: .ref a :: st) M Q :=
  mE_know (fun h hR => hR.r4' ha (by decide : (0 : Nat) ≠ 1) i.toNat) fun hr => mE_of (fun h q hR e => qe_zaload h1 (hR.at ha) (ixq hi hx) (by rw [i4_nat hi]; exact e)) (kk hr)
theorem mE_baload {a n : Nat} {i : Int} {rs : List Nat} (h1 : qcd k pc = some (.baload, 1)) (ha : Ok X a (0, 3, n, rs)) (hi : R4 i) (hx : 0 ≤ i ∧ i < n) (kk : R4 (M a i.toNat) → mE X d k ρ (pc + 1) ls (.int (Int32.ofInt (M a i.toNat)) :: st) M Q) : mE X d k ρ pc ls (.int (Int32.ofInt i) :: .ref a :: st) M Q :=
  mE_know (fun h hR => hR.r4' ha (by decide : (0 : Nat) ≠ 1) i.toNat) fun hr => mE_of (fun h q hR e => qe_baload h1 (hR.at ha) (ixq hi hx) (by rw [i4_nat hi]; exact e)) (kk hr)
theorem mE_laload {a n : Nat} {i : Int} {rs : List Nat} (h1 : qcd k pc = some (.laload, 1)) (ha : Ok X a (1, 2, n, rs)) (hi : R4 i) (hx : 0 ≤ i ∧ i < n) (kk : R8 (M a i.toNat) → mE X d k ρ (pc + 1) ls (.long (Int64.ofInt (M a i.toNat)) :: st) M Q) : mE X d k ρ pc ls (.int (Int32.ofInt i) :: .ref a :: st) M Q :=
  mE_know (fun h hR => hR.r8 a i.toNat) fun hr => mE_of (fun h q hR e => qe_laload h1 (hR.at ha) (ixq hi hx) (by rw [i4_nat hi]; exact e)) (kk hr)
def vSg (i : Int) : Int := (qSg i.toNat).toInt
theorem mE_caload {i : Int} (h1 : qcd k pc = some (.caload, 1)) (hi : R4 i) (hx : 0 ≤ i ∧ i < (11 : Nat)) (kk : R4 (vSg i) → mE X d k ρ (pc + 1) ls (.int (Int32.ofInt (vSg i)) :: st) M Q) : mE X d k ρ pc ls (.int (Int32.ofInt i) :: .ref 1 :: st) M Q :=
  mE_of (fun h q hR e => qe_caload h1 hR.signs (ixq hi hx) (by rw [i4_nat hi]; unfold vSg at e; rw [Int32.ofInt_toInt] at e; exact e)) (kk (r4_toInt _))
theorem mE_signs (h1 : qcd k pc = some (.getstatic 107, 3)) (ho : qown k = 10) (kk : mE X d k ρ (pc + 3) ls (.ref 1 :: st) M Q) : mE X d k ρ pc ls st M Q :=
  mE_of (fun h q hR e => qe_signs h1 ho e) kk
theorem mE_aaload3 {a n t b : Nat} {i : Int} {rs : List Nat} (h1 : qcd k pc = some (.aaload, 1)) (ha : Ok X a (3, t, n, b :: rs)) (ht : t = 5 ∨ t = 6 ∨ t = 7) (hi : R4 i) (hx : 0 ≤ i ∧ i < n) (kk : mE X d k ρ (pc + 1) ls (.ref (b + i.toNat) :: st) M Q) : mE X d k ρ pc ls (.int (Int32.ofInt i) :: .ref a :: st) M Q :=
  mE_of (fun h q hR e => qe_aaload h1 (hR.at ha) (ixq hi hx) ht (by rw [i4_nat hi]; exact if_pos (by omega)) e) kk
theorem mE_aaload2 {a n t : Nat} {i : Int} {rs : List Nat} (h1 : qcd k pc = some (.aaload, 1)) (ha : Ok X a (2, t, n, rs)) (ht : t = 5 ∨ t = 6 ∨ t = 7) (hi : R4 i) (hx : 0 ≤ i ∧ i < n) (h0 : ¬ M a i.toNat = 0) (kk : mE X d k ρ (pc + 1) ls (.ref (M a i.toNat).toNat :: st) M Q) : mE X d k ρ pc ls (.int (Int32.ofInt i) :: .ref a :: st) M Q :=
  mE_of (fun h q hR e => qe_aaload h1 (hR.at ha) (ixq hi hx) ht (by rw [i4_nat hi]; exact if_neg h0) e) kk
theorem mE_iastore {a n : Nat} {i x : Int} {rs : List Nat} (h1 : qcd k pc = some (.iastore, 1)) (ha : Ok X a (0, 0, n, rs)) (hi : R4 i) (hx : 0 ≤ i ∧ i < n) (hx9 : R4 x) (kk : mE X d k ρ (pc + 1) ls st (ms M a i.toNat x) Q) : mE X d k ρ pc ls (.int (Int32.ofInt x) :: .int (Int32.ofInt i) :: .ref a :: st) M Q :=
  mE_st (fun h => qset h a (.inl (0, n, .inl (upd (fun i => Int32.ofInt (M a i)) i.toNat (Int32.ofInt x))))) (fun h hR => hR.arrI ha hx9) (fun h q hR e => qe_iastore h1 (hR.at ha) (ixq hi hx) (by rw [i4_nat hi]; exact e)) kk
theorem mE_zastore {a n : Nat} {i x : Int} {rs : List Nat} (h1 : qcd k pc = some (.bastore, 1)) (ha : Ok X a (0, 1, n, rs)) (hi : R4 i) (hx : 0 ≤ i ∧ i < n) (h01 : x = 0 ∨ x = 1) (kk : mE X d k ρ (pc + 1) ls st (ms M a i.toNat x) Q) : mE X d k ρ pc ls (.int (Int32.ofInt x) :: .int (Int32.ofInt i) :: .ref a :: st) M Q :=
  mE_st (fun h => qset h a (.inl (1, n, .inl (upd (fun i => Int32.ofInt (M a i)) i.toNat (Int32.ofInt x))))) (fun h hR => hR.arrI ha (by rcases h01 with rfl | rfl <;> decide)) (fun h q hR e => qe_zastore h1 (hR.at ha) (ixq hi hx) (by rcases h01 with rfl | rfl; exact Or.inl rfl; exact Or.inr rfl) (by rw [i4_nat hi]; exact e)) kk
theorem mE_bastore {a n : Nat} {i x : Int} {rs : List Nat} (h1 : qcd k pc = some (.bastore, 1)) (ha : Ok X a (0, 3, n, rs)) (hi : R4 i) (hx : 0 ≤ i ∧ i < n) (kk : mE X d k ρ (pc + 1) ls st (ms M a i.toNat (bByte x)) Q) : mE X d k ρ pc ls (.int (Int32.ofInt x) :: .int (Int32.ofInt i) :: .ref a :: st) M Q :=
  mE_st (fun h => qset h a (.inl (3, n, .inl (upd (fun i => Int32.ofInt (M a i)) i.toNat (Int32.ofInt (bByte x)))))) (fun h hR => hR.arrI ha (r4_byte x)) (fun h q hR e => qe_bastore h1 (hR.at ha) (ixq hi hx) (by rw [i4_nat hi]; unfold bByte at e; rw [Int32.ofInt_toInt] at e; exact e)) kk
theorem mE_lastore {a n : Nat} {i x : Int} {rs : List Nat} (h1 : qcd k pc = some (.lastore, 1)) (ha : Ok X a (1, 2, n, rs)) (hi : R4 i) (hx : 0 ≤ i ∧ i < n) (hx9 : R8 x) (kk : mE X d k ρ (pc + 1) ls st (ms M a i.toNat x) Q) : mE X d k ρ pc ls (.long (Int64.ofInt x) :: .int (Int32.ofInt i) :: .ref a :: st) M Q :=
  mE_st (fun h => qset h a (.inl (2, n, .inr (.inl (vp_updL (fun i => Int64.ofInt (M a i)) i.toNat (Int64.ofInt x)))))) (fun h hR => hR.arrJ ha hx9) (fun h q hR e => qe_lastore h1 (hR.at ha) (ixq hi hx) (by rw [i4_nat hi]; exact e)) kk
theorem mE_arraylength {a n t : Nat} {x : Int} {rs : List Nat} (h1 : qcd k pc = some (.arraylength, 1)) (ha : Ok X a (0, t, n, rs)) (hx : Int32.ofNat n = Int32.ofInt x) (kk : mE X d k ρ (pc + 1) ls (.int (Int32.ofInt x) :: st) M Q) : mE X d k ρ pc ls (.ref a :: st) M Q :=
  mE_of (fun h q hR e => qe_arraylength h1 (hR.at ha) (hx ▸ e)) kk
theorem mE_static {w k2 n p1 p2 p3 p4 ρ2 : Nat} {as r : List Value} {Q2 : Int → Mm → Prop} (h1 : qcd k pc = some (.invokestatic w, 3)) (ho : qown k = c0) (hw : ¬ ((c0 = 10 ∧ w = 42) ∨ (c0 = 8 ∧ w = 37))) (hK : qK_ c0 w = some (k2, n, 1, p1, p2, p3, p4)) (ht : (st.take n).reverse = as) (hl : as.length = n) (hd : st.drop n = r) (h8 : qcat r ≤ 8) (hc : mC X d k2 ρ2 as M Q2) (kk : ∀ v M2, rok ρ2 v → Q2 v M2 → mE X d k ρ (pc + 3) ls ((rvv ρ2 v).toList ++ r) M2 Q) : mE X d k ρ pc ls st M Q := fun h hR => by
  obtain ⟨v, M3, h3, e, e2, e3, e4⟩ := hc h hR
  obtain ⟨v5, M5, h5, f, g⟩ := kk v M3 e3 e4 h3 e2
  exact ⟨v5, M5, h5, qe_static h1 ho hw hK ht hl hd h8 e f, g⟩
theorem mE_virtual {w k2 n p1 p2 p3 p4 b ρ2 : Nat} {as r : List Value} {Q2 : Int → Mm → Prop} {D2 : Nat} {rs : List Nat} (h1 : qcd k pc = some (.invokevirtual w, 3)) (ho : qown k = c0) (hK : qK_ c0 w = some (k2, n, 0, p1, p2, p3, p4)) (ht : (st.take n).reverse = as) (hl : as.length = n) (hd : st.drop n = .ref b :: r) (hb : Ok X b (5, qown k2, D2, rs)) (h8 : qcat r ≤ 8) (hc : mC X d k2 ρ2 (.ref b :: as) M Q2) (kk : ∀ v M2, rok ρ2 v → Q2 v M2 → mE X d k ρ (pc + 3) ls ((rvv ρ2 v).toList ++ r) M2 Q) : mE X d k ρ pc ls st M Q := fun h hR => by
  obtain ⟨v, M3, h3, e, e2, e3, e4⟩ := hc h hR
  obtain ⟨v5, M5, h5, f, g⟩ := kk v M3 e3 e4 h3 e2
  exact ⟨v5, M5, h5, qe_virtual h1 ho hK ht hl hd (hR.at hb) h8 e f, g⟩
theorem mE_special {w k2 n p1 p2 p3 p4 b ρ2 : Nat} {as r : List Value} {Q2 : Int → Mm → Prop} {kind : Nat} (h1 : qcd k pc = some (.invokespecial w, 3)) (ho : qown k = c0) (hw : ¬ (qO.getD c0 (0, 0)).1 = w) (hK : qK_ c0 w = some (k2, n, kind, p1, p2, p3, p4)) (ht : (st.take n).reverse = as) (hl : as.length = n ∧ (kind = 2 ∨ kind = 3)) (hd : st.drop n = .ref b :: r) (h8 : qcat r ≤ 8) (hc : mC X d k2 ρ2 (.ref b :: as) M Q2) (kk : ∀ v M2, rok ρ2 v → Q2 v M2 → mE X d k ρ (pc + 3) ls ((rvv ρ2 v).toList ++ r) M2 Q) : mE X d k ρ pc ls st M Q := fun h hR => by
  obtain ⟨v, M3, h3, e, e2, e3, e4⟩ := hc h hR
  obtain ⟨v5, M5, h5, f, g⟩ := kk v M3 e3 e4 h3 e2
  exact ⟨v5, M5, h5, qe_special h1 ho hw hK ht hl hd h8 e f, g⟩
theorem mE_copy {w a a0 n0 n1 : Nat} {m dp sp : Int} {rs0 rs1 : List Nat} (h1 : qcd k pc = some (.invokestatic w, 3)) (hw : (qown k = 10 ∧ w = 42) ∨ (qown k = 8 ∧ w = 37)) (ha0 : Ok X a0 (0, 0, n0, rs0)) (ha : Ok X a (0, 0, n1, rs1)) (h4 : R4 sp ∧ R4 dp ∧ R4 m) (hh : a0 ≠ a ∧ 0 ≤ sp ∧ 0 ≤ dp ∧ 0 ≤ m ∧ sp + m ≤ n0 ∧ dp + m ≤ n1) (hd : 0 < d) (h8 : qcat st ≤ 8) (kk : mE X d k ρ (pc + 3) ls st (cpym M a0 sp.toNat a dp.toNat m.toNat) Q) : mE X d k ρ pc ls (.int (Int32.ofInt m) :: .int (Int32.ofInt dp) :: .ref a :: .int (Int32.ofInt sp) :: .ref a0 :: st) M Q :=
  mE_st (fun h => qset h a (.inl (0, n1, .inl (fun j => Int32.ofInt (cpym M a0 sp.toNat a dp.toNat m.toNat a j))))) (fun h hR => hR.up ha (fun b hb i => if_neg (fun q => hb q.1)) rfl (fun j => by split; exact (hR.r4' ha0 (by decide : (0 : Nat) ≠ 1) _).to8; exact hR.r8 a j) (fun _ j => by split; exact hR.r4' ha0 (by decide : (0 : Nat) ≠ 1) _; exact hR.r4' ha (by decide : (0 : Nat) ≠ 1) j)) (fun h q hR e => qe_copy h1 hw (hR.at ha0) (hR.at ha) (by rw [i4_toInt h4.1, i4_toInt h4.2.1, i4_toInt h4.2.2]; exact ⟨hh.1, hh.2.1, hh.2.2.1, hh.2.2.2.1, hh.2.2.2.2.1, hh.2.2.2.2.2, hd, h8⟩) (by
    rw [i4_nat h4.1, i4_nat h4.2.1, i4_nat h4.2.2]
    have e9 : va_cpy (fun i => Int32.ofInt (M a0 i)) (fun i => Int32.ofInt (M a i)) sp.toNat dp.toNat m.toNat = fun j => Int32.ofInt (cpym M a0 sp.toNat a dp.toNat m.toNat a j) := by
      funext j
      unfold va_cpy cpym
      by_cases c : dp.toNat ≤ j ∧ j < dp.toNat + m.toNat
      · rw [if_pos c, if_pos ⟨rfl, c⟩]
      · rw [if_neg c, if_neg (fun q => c q.2)]
    rw [e9]
    exact e)) kk
theorem mE_ret {v : Int} (hs : ∀ h, qE d k pc ls st h (rvv ρ v, h)) (hr : rok ρ v) (hq : Q v M) : mE X d k ρ pc ls st M Q := fun h hR => ⟨v, M, h, hs h, hR, hr, hq⟩
theorem mE_iret {x : Int} (h1 : qcd k pc = some (.ireturn, 1)) (hr : qrt k = some .int) (hx : R4 x) (hq : Q x M) : mE X d k 1 pc ls [.int (Int32.ofInt x)] M Q := mE_ret (fun h => qe_iret h1 hr) hx hq
theorem mE_zret {x : Int} (h1 : qcd k pc = some (.ireturn, 1)) (hr : qrt k = some .boolean) (hx : x = 0 ∨ x = 1) (hq : Q x M) : mE X d k 1 pc ls [.int (Int32.ofInt x)] M Q := mE_ret (fun h => qe_zret h1 hr (by rcases hx with rfl | rfl; exact Or.inl rfl; exact Or.inr rfl)) (r4_01 hx) hq
theorem mE_lret {x : Int} (h1 : qcd k pc = some (.lreturn, 1)) (hr : qrt k = some .long) (hx : R8 x) (hq : Q x M) : mE X d k 2 pc ls [.long (Int64.ofInt x)] M Q := mE_ret (fun h => qe_lret h1 hr) hx hq
theorem mE_aret {x : Nat} {C : String} (h1 : qcd k pc = some (.areturn, 1)) (hr : qrt k = some (.object C)) (hx : ¬ (x : Int) = 0) (hq : Q (x : Int) M) : mE X d k 3 pc ls [.ref x] M Q := mE_ret (v := (x : Int)) (fun h => by
  have e : rvv 3 (x : Int) = some (.ref x) := by
    show some (if (x : Int) = 0 then Value.null else .ref (x : Int).toNat) = _
    rw [if_neg hx, Int.toNat_natCast]
  rw [e]
  exact qe_aret h1 hr) (Int.natCast_nonneg x) hq
theorem mE_aretN {C : String} (h1 : qcd k pc = some (.areturn, 1)) (hr : qrt k = some (.object C)) (hq : Q 0 M) : mE X d k 3 pc ls [.null] M Q := mE_ret (v := 0) (fun h => qe_aretN h1 hr) (Int.le_refl 0) hq
theorem mE_vret (h1 : qcd k pc = some (.return_, 1)) (hr : qrt k = none) (hq : Q 0 M) : mE X d k 0 pc ls [] M Q := mE_ret (v := 0) (fun h => qe_vret h1 hr) trivial hq
theorem mE_static0 {w k2 n p1 p2 p3 p4 : Nat} {as r : List Value} {Q2 : Int → Mm → Prop} (h1 : qcd k pc = some (.invokestatic w, 3)) (ho : qown k = c0) (hw : ¬ ((c0 = 10 ∧ w = 42) ∨ (c0 = 8 ∧ w = 37))) (hK : qK_ c0 w = some (k2, n, 1, p1, p2, p3, p4)) (ht : (st.take n).reverse = as) (hl : as.length = n) (hd : st.drop n = r) (h8 : qcat r ≤ 8) (hc : mC X d k2 0 as M Q2) (kk : ∀ v M2, Q2 v M2 → mE X d k ρ (pc + 3) ls r M2 Q) : mE X d k ρ pc ls st M Q :=
  mE_static h1 ho hw hK ht hl hd h8 hc (fun v M2 h1 h2 => kk v M2 h2)
theorem mE_virtual0 {w k2 n p1 p2 p3 p4 b : Nat} {as r : List Value} {Q2 : Int → Mm → Prop} {c2 D2 : Nat} {rs : List Nat} (h1 : qcd k pc = some (.invokevirtual w, 3)) (ho : qown k = c0) (hK : qK_ c0 w = some (k2, n, 0, p1, p2, p3, p4)) (ho2 : qown k2 = c2) (ht : (st.take n).reverse = as) (hl : as.length = n) (hd : st.drop n = .ref b :: r) (hb : Ok X b (5, c2, D2, rs)) (h8 : qcat r ≤ 8) (hc : mC X d k2 0 (.ref b :: as) M Q2) (kk : ∀ v M2, Q2 v M2 → mE X d k ρ (pc + 3) ls r M2 Q) : mE X d k ρ pc ls st M Q :=
  mE_virtual h1 ho hK ht hl hd (ho2 ▸ hb) h8 hc (fun v M2 h1 h2 => kk v M2 h2)
theorem mE_static1 {w k2 n p1 p2 p3 p4 : Nat} {as r : List Value} {Q2 : Int → Mm → Prop} (h1 : qcd k pc = some (.invokestatic w, 3)) (ho : qown k = c0) (hw : ¬ ((c0 = 10 ∧ w = 42) ∨ (c0 = 8 ∧ w = 37))) (hK : qK_ c0 w = some (k2, n, 1, p1, p2, p3, p4)) (ht : (st.take n).reverse = as) (hl : as.length = n) (hd : st.drop n = r) (h8 : qcat r ≤ 8) (hc : mC X d k2 1 as M Q2) (kk : ∀ v M2, R4 v → Q2 v M2 → mE X d k ρ (pc + 3) ls (.int (Int32.ofInt v) :: r) M2 Q) : mE X d k ρ pc ls st M Q :=
  mE_static h1 ho hw hK ht hl hd h8 hc (fun v M2 h1 h2 => kk v M2 h1 h2)
theorem mE_virtual1 {w k2 n p1 p2 p3 p4 b : Nat} {as r : List Value} {Q2 : Int → Mm → Prop} {c2 D2 : Nat} {rs : List Nat} (h1 : qcd k pc = some (.invokevirtual w, 3)) (ho : qown k = c0) (hK : qK_ c0 w = some (k2, n, 0, p1, p2, p3, p4)) (ho2 : qown k2 = c2) (ht : (st.take n).reverse = as) (hl : as.length = n) (hd : st.drop n = .ref b :: r) (hb : Ok X b (5, c2, D2, rs)) (h8 : qcat r ≤ 8) (hc : mC X d k2 1 (.ref b :: as) M Q2) (kk : ∀ v M2, R4 v → Q2 v M2 → mE X d k ρ (pc + 3) ls (.int (Int32.ofInt v) :: r) M2 Q) : mE X d k ρ pc ls st M Q :=
  mE_virtual h1 ho hK ht hl hd (ho2 ▸ hb) h8 hc (fun v M2 h1 h2 => kk v M2 h1 h2)
theorem mE_static2 {w k2 n p1 p2 p3 p4 : Nat} {as r : List Value} {Q2 : Int → Mm → Prop} (h1 : qcd k pc = some (.invokestatic w, 3)) (ho : qown k = c0) (hw : ¬ ((c0 = 10 ∧ w = 42) ∨ (c0 = 8 ∧ w = 37))) (hK : qK_ c0 w = some (k2, n, 1, p1, p2, p3, p4)) (ht : (st.take n).reverse = as) (hl : as.length = n) (hd : st.drop n = r) (h8 : qcat r ≤ 8) (hc : mC X d k2 2 as M Q2) (kk : ∀ v M2, R8 v → Q2 v M2 → mE X d k ρ (pc + 3) ls (.long (Int64.ofInt v) :: r) M2 Q) : mE X d k ρ pc ls st M Q :=
  mE_static h1 ho hw hK ht hl hd h8 hc (fun v M2 h1 h2 => kk v M2 h1 h2)
theorem mE_virtual2 {w k2 n p1 p2 p3 p4 b : Nat} {as r : List Value} {Q2 : Int → Mm → Prop} {c2 D2 : Nat} {rs : List Nat} (h1 : qcd k pc = some (.invokevirtual w, 3)) (ho : qown k = c0) (hK : qK_ c0 w = some (k2, n, 0, p1, p2, p3, p4)) (ho2 : qown k2 = c2) (ht : (st.take n).reverse = as) (hl : as.length = n) (hd : st.drop n = .ref b :: r) (hb : Ok X b (5, c2, D2, rs)) (h8 : qcat r ≤ 8) (hc : mC X d k2 2 (.ref b :: as) M Q2) (kk : ∀ v M2, R8 v → Q2 v M2 → mE X d k ρ (pc + 3) ls (.long (Int64.ofInt v) :: r) M2 Q) : mE X d k ρ pc ls st M Q :=
  mE_virtual h1 ho hK ht hl hd (ho2 ▸ hb) h8 hc (fun v M2 h1 h2 => kk v M2 h1 h2)
theorem mE_static3 {w k2 n p1 p2 p3 p4 : Nat} {as r : List Value} {Q2 : Int → Mm → Prop} (h1 : qcd k pc = some (.invokestatic w, 3)) (ho : qown k = c0) (hw : ¬ ((c0 = 10 ∧ w = 42) ∨ (c0 = 8 ∧ w = 37))) (hK : qK_ c0 w = some (k2, n, 1, p1, p2, p3, p4)) (ht : (st.take n).reverse = as) (hl : as.length = n) (hd : st.drop n = r) (h8 : qcat r ≤ 8) (hc : mC X d k2 3 as M Q2) (kk : ∀ v M2, 0 ≤ v → Q2 v M2 → mE X d k ρ (pc + 3) ls ((if v = 0 then .null else .ref v.toNat) :: r) M2 Q) : mE X d k ρ pc ls st M Q :=
  mE_static h1 ho hw hK ht hl hd h8 hc (fun v M2 h1 h2 => kk v M2 h1 h2)
theorem mE_virtual3 {w k2 n p1 p2 p3 p4 b : Nat} {as r : List Value} {Q2 : Int → Mm → Prop} {c2 D2 : Nat} {rs : List Nat} (h1 : qcd k pc = some (.invokevirtual w, 3)) (ho : qown k = c0) (hK : qK_ c0 w = some (k2, n, 0, p1, p2, p3, p4)) (ho2 : qown k2 = c2) (ht : (st.take n).reverse = as) (hl : as.length = n) (hd : st.drop n = .ref b :: r) (hb : Ok X b (5, c2, D2, rs)) (h8 : qcat r ≤ 8) (hc : mC X d k2 3 (.ref b :: as) M Q2) (kk : ∀ v M2, 0 ≤ v → Q2 v M2 → mE X d k ρ (pc + 3) ls ((if v = 0 then .null else .ref v.toNat) :: r) M2 Q) : mE X d k ρ pc ls st M Q :=
  mE_virtual h1 ho hK ht hl hd (ho2 ▸ hb) h8 hc (fun v M2 h1 h2 => kk v M2 h1 h2)
def mlet {α : Type} (e : Mm) (f : Mm → Option α) : Option α := f e
theorem Wp.mlet {α : Type} {P : α → Prop} {e : Mm} {f : Mm → Option α} (h : Wp (mlet e f) P) : ∃ M2, e = M2 ∧ Wp (f M2) P := ⟨e, rfl, h⟩
theorem n0_st {s : Nat} (h : M 0 0 = X.1) (g : isSt (M 0 0).toNat s) : isSt X.1 s := by
  rw [h, Int.toNat_natCast] at g
  exact g
theorem fit01 {x : Int} (h : x = 0 ∨ x = 1) : decide (Int32.ofInt x = 0 ∨ Int32.ofInt x = 1) = true := by rcases h with rfl | rfl <;> rfl
end ME
