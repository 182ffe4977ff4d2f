/-! The net N (cells 3 and 11 to 23 of the first object), a state S: rows 0 is, 1 warmth, 2 tree, 3 load, 4 dark, 5 runs, 6 went and minute. -/
def nN (N : Mm) : Nat := (N 3 0).toNat
def nW (N : Mm) : Nat := (N 3 1).toNat
def nK (N : Mm) : Nat := (N 3 2).toNat
def eA (N : Mm) (w : Nat) : Nat := (N 14 w).toNat
def eB (N : Mm) (w : Nat) : Nat := (N 15 w).toNat
def aK (N : Mm) (k : Nat) : Nat := (N 20 k).toNat
def oR (N : Mm) (j : Nat) : Nat := (N 13 j).toNat
def oP (N : Mm) (j : Nat) : Nat := (N 23 j).toNat
def befR (N : Mm) (s t : Nat) : Prop := N 12 t < N 12 s ∨ (N 12 s = N 12 t ∧ s < t)
def befP (N : Mm) (k l : Nat) : Prop := N 22 k < N 22 l ∨ (N 22 k = N 22 l ∧ k < l)
def NCs (N : Mm) : Prop := ∀ i, i < nN N → 0 ≤ N 11 i ∧ N 11 i ≤ 3 ∧ 0 ≤ N 12 i ∧ N 12 i ≤ 9
def NCw (N : Mm) : Prop := ∀ w, w < nW N → (N 14 w = eA N w ∧ eA N w < nN N) ∧ (N 15 w = eB N w ∧ eB N w < nN N) ∧ eA N w ≠ eB N w ∧ (1 ≤ N 16 w ∧ N 16 w ≤ 3) ∧ (1 ≤ N 17 w ∧ N 17 w ≤ 5000) ∧ (1 ≤ N 18 w ∧ N 18 w ≤ 100000) ∧ (1 ≤ N 19 w ∧ N 19 w ≤ 1000)
def NCk (N : Mm) : Prop := ∀ k, k < nK N → (N 20 k = aK N k ∧ aK N k < nN N) ∧ (1 ≤ N 21 k ∧ N 21 k ≤ 5000) ∧ (0 ≤ N 22 k ∧ N 22 k ≤ 99)
def NCr (N : Mm) : Prop := (∀ j, j < nN N → N 13 j = oR N j ∧ oR N j < nN N) ∧ (∀ i j, i < j → j < nN N → befR N (oR N i) (oR N j)) ∧ ∀ s, s < nN N → ∃ j, j < nN N ∧ oR N j = s
def NCp (N : Mm) : Prop := (∀ j, j < nK N → N 23 j = oP N j ∧ oP N j < nK N) ∧ (∀ i j, i < j → j < nK N → befP N (oP N i) (oP N j)) ∧ ∀ s, s < nK N → ∃ j, j < nK N ∧ oP N j = s
/-- the net is a net -/
def NC (N : Mm) : Prop := (N 3 0 = nN N ∧ nN N ≤ 8) ∧ (N 3 1 = nW N ∧ nW N ≤ 14) ∧ (N 3 2 = nK N ∧ nK N ≤ 9) ∧ NCs N ∧ NCw N ∧ NCk N ∧ NCr N ∧ NCp N
/-- memory M has the net N in the first object -/
def nCl (N M : Mm) : Prop := M 3 = N 3 ∧ ∀ b, 11 ≤ b → b ≤ 23 → M b = N b
/-- and in the second -/
def nMd (N M : Mm) : Prop := M 142 3 = N 3 0 ∧ M 142 4 = N 3 1 ∧ M 142 5 = N 3 2 ∧ (∀ i, i < nN N → M 145 i = N 11 i ∧ M 146 i = N 12 i) ∧
  (∀ w, w < nW N → M 147 w = N 14 w ∧ M 148 w = N 15 w ∧ M 149 w = N 16 w ∧ M 150 w = N 17 w ∧ M 151 w = N 18 w ∧ M 152 w = N 19 w) ∧ (∀ k, k < nK N → M 153 k = N 20 k ∧ M 154 k = N 21 k ∧ M 155 k = N 22 k)
section NCS
variable {N M M2 : Mm}
theorem NC.n (h : NC N) : N 3 0 = nN N := h.1.1
theorem NC.n8 (h : NC N) : nN N ≤ 8 := h.1.2
theorem NC.w (h : NC N) : N 3 1 = nW N := h.2.1.1
theorem NC.w14 (h : NC N) : nW N ≤ 14 := h.2.1.2
theorem NC.k (h : NC N) : N 3 2 = nK N := h.2.2.1.1
theorem NC.k9 (h : NC N) : nK N ≤ 9 := h.2.2.1.2
theorem NC.cs (h : NC N) : NCs N := h.2.2.2.1
theorem NC.cw (h : NC N) : NCw N := h.2.2.2.2.1
theorem NC.ck (h : NC N) : NCk N := h.2.2.2.2.2.1
theorem NC.cr (h : NC N) : NCr N := h.2.2.2.2.2.2.1
theorem NC.cp (h : NC N) : NCp N := h.2.2.2.2.2.2.2
theorem nCl.r (h : nCl N M) {b : Nat} (h1 : 11 ≤ b) (h2 : b ≤ 23) : M b = N b := h.2 b h1 h2
theorem nCl.to (h : nCl N M) (h3 : M2 3 = M 3) (hb : ∀ b, 11 ≤ b → b ≤ 23 → M2 b = M b) : nCl N M2 := ⟨h3.trans h.1, fun b h1 h2 => (hb b h1 h2).trans (h.2 b h1 h2)⟩
theorem nMd.to (h : nMd N M) (h1 : M2 142 3 = M 142 3) (h2 : M2 142 4 = M 142 4) (h3 : M2 142 5 = M 142 5) (hb : ∀ b, 145 ≤ b → b ≤ 155 → M2 b = M b) : nMd N M2 := by
  unfold nMd
  rw [h1, h2, h3, hb 145 (by decide) (by decide), hb 146 (by decide) (by decide), hb 147 (by decide) (by decide), hb 148 (by decide) (by decide), hb 149 (by decide) (by decide), hb 150 (by decide) (by decide), hb 151 (by decide) (by decide), hb 152 (by decide) (by decide), hb 153 (by decide) (by decide), hb 154 (by decide) (by decide), hb 155 (by decide) (by decide)]
  exact h
end NCS
/-- a state of the first object, at cell s -/
def sC (N S M : Mm) (s : Nat) : Prop := (∀ w, w < 14 → M (s + 2) w = S 0 w ∧ M (s + 3) w = S 1 w ∧ M (s + 4) w = S 2 w) ∧ (∀ i, i < 8 → M (s + 1) i = S 3 i) ∧
  (0 ≤ M s 1 ∧ M s 1 < (2 ^ nN N : Nat) ∧ ∀ i, S 4 i = if tb (M s 1) i then 1 else 0) ∧ (0 ≤ M s 2 ∧ M s 2 < (2 ^ nK N : Nat) ∧ ∀ k, S 5 k = if tb (M s 2) k then 1 else 0) ∧ M s 3 = S 6 0 ∧ M s 0 = S 6 1
/-- a state of the second object, at place z -/
def sM (S M : Mm) (z : Nat) : Prop := (∀ w, w < 14 → M 144 (z + w) = S 0 w ∧ M 144 (z + 14 + w) = S 1 w ∧ M 144 (z + 28 + w) = S 2 w) ∧ (∀ i, i < 8 → M 144 (z + 59 + i) = S 3 i ∧ M 144 (z + 51 + i) = S 4 i) ∧
  (∀ k, k < 9 → M 144 (z + 42 + k) = S 5 k) ∧ M 144 (z + 67) = S 6 0 ∧ M 144 (z + 68) = S 6 1
/-- the state is a state -/
def sV (N S : Mm) : Prop := (∀ w, w < 14 → (0 ≤ S 0 w ∧ S 0 w ≤ 3) ∧ (0 ≤ S 1 w ∧ S 1 w ≤ 1000000) ∧ 0 ≤ S 2 w ∧ S 2 w ≤ 100000) ∧ (∀ i, i < 8 → 0 ≤ S 3 i ∧ S 3 i ≤ 2000) ∧
  (∀ i, S 4 i = 0 ∨ S 4 i = 1) ∧ (∀ i, nN N ≤ i → S 4 i = 0) ∧ (∀ k, S 5 k = 0 ∨ S 5 k = 1) ∧ (∀ k, nK N ≤ k → S 5 k = 0) ∧ (0 ≤ S 6 0 ∧ S 6 0 ≤ 28) ∧ 0 ≤ S 6 1 ∧ S 6 1 ≤ 600
/-- as it stands: what hangs together -/
def onJ (N S : Mm) : Nat → Nat → Prop := jn (nW N) (eA N) (eB N) (fun w => S 0 w = 0)
noncomputable def isl (N S : Mm) : Nat → Nat := Classical.choose (gLab_ex (n := nN N) (J := onJ N S) jn_sym)
theorem isl_lab (N S : Mm) : gLab (nN N) (onJ N S) (isl N S) := Classical.choose_spec (gLab_ex (n := nN N) (J := onJ N S) jn_sym)
theorem isl_le {N S : Mm} {i : Nat} (h : i < nN N) : isl N S i ≤ i := (isl_lab N S).1.1 i h
theorem isl_lt {N S : Mm} {i : Nat} (h : i < nN N) : isl N S i < nN N := Nat.lt_of_le_of_lt (isl_le h) h
theorem isl_idem {N S : Mm} {i : Nat} (h : i < nN N) : isl N S (isl N S i) = isl N S i := gLab_idem jn_sym (isl_lab N S) h
theorem isl_on {N S : Mm} {w : Nat} (hN : NC N) (h : w < nW N) (hu : S 0 w = 0) : isl N S (eA N w) = isl N S (eB N w) := (isl_lab N S).2 _ _ (hN.cw w h).1.2 (hN.cw w h).2.1.2 ⟨w, h, hu, Or.inl ⟨rfl, rfl⟩⟩
/-- the most that an island's works give -/
noncomputable def mostI (N S : Mm) (i : Nat) : Int := sm (fun k => if S 5 k = 1 ∧ isl N S (aK N k) = i then N 21 k else 0) (nK N)
/-- an island's loads, by what is dark -/
noncomputable def litI (N S : Mm) (D : Nat → Int) (i : Nat) : Int := sm (fun s => if isl N S s = i ∧ D s = 0 then S 3 s else 0) (nN N)
/-- what may be shed of an island, in its order, of the first j places -/
noncomputable def shL (N S : Mm) (i : Nat) : Nat → List Nat
  | 0 => []
  | j + 1 => if isl N S (oR N j) = i ∧ S 4 (oR N j) = 0 ∧ 0 < S 3 (oR N j) then oR N j :: shL N S i j else shL N S i j
def shF (S : Mm) (most : Int) : List Nat → Int → List Nat
  | [], _ => []
  | s :: r, L => if most < L then s :: shF S most r (L - S 3 s) else []
noncomputable def fall (N S : Mm) (i : Nat) : List Nat := shF S (mostI N S i) (shL N S i (nN N)) (litI N S (S 4) i)
noncomputable def falls (N S : Mm) : Nat → List Nat
  | 0 => []
  | i + 1 => if isl N S i = i then falls N S i ++ fall N S i else falls N S i
/-- what is dark then -/
noncomputable def dkF (N S : Mm) (s : Nat) : Int := if S 4 s = 1 ∨ s ∈ fall N S (isl N S s) then 1 else 0
/-- an island's running works by their price -/
noncomputable def wkL (N S : Mm) (i : Nat) : Nat → List Nat
  | 0 => []
  | j + 1 => if S 5 (oP N j) = 1 ∧ isl N S (aK N (oP N j)) = i then wkL N S i j ++ [oP N j] else wkL N S i j
def rsF (N : Mm) : List Nat → Int → Int
  | [], L => L
  | k :: r, L => rsF N r (L - min (N 21 k) L)
def gvF (N : Mm) : List Nat → Int → Nat → Int
  | [], _, _ => 0
  | k :: r, L, x => if x = k then min (N 21 k) L else gvF N r (L - min (N 21 k) L) x
noncomputable def gv (N S : Mm) (k : Nat) : Int := gvF N (wkL N S (isl N S (aK N k)) (nK N)) (litI N S (dkF N S) (isl N S (aK N k))) k
noncomputable def psh (N S : Mm) (s : Nat) : Int := (if dkF N S s = 1 then 0 else - S 3 s) + sm (fun k => if aK N k = s then gv N S k else 0) (nK N)

section PERM
variable {N S : Mm} {i : Nat}
theorem befR_irr (a : Nat) : ¬ befR N a a := fun h => by
  rcases h with h | h <;> omega
theorem befP_irr (a : Nat) : ¬ befP N a a := fun h => by
  rcases h with h | h <;> omega
theorem oR_inj (h : NC N) {a b : Nat} (ha : a < nN N) (hb : b < nN N) (e : oR N a = oR N b) : a = b := by
  rcases Nat.lt_trichotomy a b with q | q | q
  · have := h.cr.2.1 a b q hb
    rw [e] at this
    exact (befR_irr _ this).elim
  · exact q
  · have := h.cr.2.1 b a q ha
    rw [e] at this
    exact (befR_irr _ this).elim
theorem oP_inj (h : NC N) {a b : Nat} (ha : a < nK N) (hb : b < nK N) (e : oP N a = oP N b) : a = b := by
  rcases Nat.lt_trichotomy a b with q | q | q
  · have := h.cp.2.1 a b q hb
    rw [e] at this
    exact (befP_irr _ this).elim
  · exact q
  · have := h.cp.2.1 b a q ha
    rw [e] at this
    exact (befP_irr _ this).elim
theorem shF_no {most L : Int} (h : ¬ most < L) : ∀ l : List Nat, shF S most l L = []
  | [] => rfl
  | _ :: _ => if_neg h
theorem shL_mem : ∀ {j s : Nat}, s ∈ shL N S i j → isl N S s = i ∧ S 4 s = 0 ∧ 0 < S 3 s ∧ ∃ p, p < j ∧ s = oR N p
  | 0, s, h => by cases h
  | j + 1, s, h => by
    rw [shL] at h
    split at h
    · rename_i c
      rcases List.mem_cons.mp h with h | h
      · subst h
        exact ⟨c.1, c.2.1, c.2.2, j, by omega, rfl⟩
      · obtain ⟨h1, h2, h3, p, h4, h5⟩ := shL_mem h
        exact ⟨h1, h2, h3, p, by omega, h5⟩
    · obtain ⟨h1, h2, h3, p, h4, h5⟩ := shL_mem h
      exact ⟨h1, h2, h3, p, by omega, h5⟩
theorem shF_mem {most : Int} : ∀ {l : List Nat} {L : Int} {s : Nat}, s ∈ shF S most l L → s ∈ l
  | [], L, s, h => by cases h
  | a :: r, L, s, h => by
    rw [shF] at h
    split at h
    · rcases List.mem_cons.mp h with h | h
      · exact h ▸ List.mem_cons_self
      · exact List.mem_cons_of_mem _ (shF_mem h)
    · cases h
theorem fall_mem {s : Nat} (h : s ∈ fall N S i) : isl N S s = i ∧ S 4 s = 0 ∧ 0 < S 3 s ∧ ∃ p, p < nN N ∧ s = oR N p := shL_mem (shF_mem h)
theorem dkF_01 (s : Nat) : dkF N S s = 0 ∨ dkF N S s = 1 := by
  unfold dkF
  split
  · exact Or.inr rfl
  · exact Or.inl rfl
theorem wkL_mem : ∀ {j k : Nat}, k ∈ wkL N S i j ↔ ∃ p, p < j ∧ k = oP N p ∧ S 5 k = 1 ∧ isl N S (aK N k) = i
  | 0, k => Iff.intro (fun h => by cases h) (fun h => by obtain ⟨p, h, _⟩ := h; omega)
  | j + 1, k => by
    rw [wkL]
    split
    · rename_i c
      rw [List.mem_append, List.mem_singleton, wkL_mem]
      constructor
      · rintro (⟨p, h1, h2⟩ | h)
        · exact ⟨p, by omega, h2⟩
        · subst h
          exact ⟨j, by omega, rfl, c⟩
      · rintro ⟨p, h1, h2, h3⟩
        by_cases e : p = j
        · subst e
          exact Or.inr h2
        · exact Or.inl ⟨p, by omega, h2, h3⟩
    · rename_i c
      rw [wkL_mem]
      constructor
      · rintro ⟨p, h1, h2⟩
        exact ⟨p, by omega, h2⟩
      · rintro ⟨p, h1, h2, h3⟩
        by_cases e : p = j
        · subst e
          subst h2
          exact (c h3).elim
        · exact ⟨p, by omega, h2, h3⟩
theorem gvF_no {l : List Nat} {k : Nat} : ∀ {L : Int}, k ∉ l → gvF N l L k = 0 := by
  induction l with
  | nil => intro L _; rfl
  | cons a r ih =>
    intro L h
    rw [gvF, if_neg (fun (e : k = a) => h (by rw [e]; exact List.mem_cons_self))]
    exact ih (fun q => h (List.mem_cons_of_mem _ q))
theorem gvF_snoc {k x : Nat} : ∀ {l : List Nat} {L : Int}, k ∉ l → gvF N (l ++ [k]) L x = if x = k then min (N 21 k) (rsF N l L) else gvF N l L x
  | [], L, _ => rfl
  | a :: r, L, h => by
    have ha : k ≠ a := fun (e : k = a) => h (by rw [e]; exact List.mem_cons_self)
    show (if x = a then _ else gvF N (r ++ [k]) _ x) = if x = k then min (N 21 k) (rsF N r (L - min (N 21 a) L)) else if x = a then _ else gvF N r _ x
    rw [gvF_snoc (fun q => h (List.mem_cons_of_mem _ q))]
    by_cases e : x = a
    · rw [if_pos e, if_neg (fun (q : x = k) => ha (q.symm.trans e)), if_pos e]
    · rw [if_neg e, if_neg e]
theorem rsF_snoc {k : Nat} : ∀ {l : List Nat} {L : Int}, rsF N (l ++ [k]) L = rsF N l L - min (N 21 k) (rsF N l L)
  | [], L => rfl
  | a :: r, L => rsF_snoc (l := r)
theorem rsF_nn (h : ∀ k, 0 ≤ N 21 k) : ∀ {l : List Nat} {L : Int}, 0 ≤ L → 0 ≤ rsF N l L ∧ rsF N l L ≤ L
  | [], L, hL => ⟨hL, Int.le_refl L⟩
  | a :: r, L, hL => by
    have h1 := h a
    have := rsF_nn h (l := r) (L := L - min (N 21 a) L) (by omega)
    show 0 ≤ rsF N r _ ∧ rsF N r _ ≤ L
    omega
theorem rsF_nn' : ∀ {l : List Nat} {L : Int}, (∀ k, k ∈ l → 0 ≤ N 21 k) → 0 ≤ L → 0 ≤ rsF N l L ∧ rsF N l L ≤ L
  | [], L, _, hL => ⟨hL, Int.le_refl L⟩
  | a :: r, L, h, hL => by
    have h1 := h a List.mem_cons_self
    have := rsF_nn' (l := r) (L := L - min (N 21 a) L) (fun k hk => h k (List.mem_cons_of_mem _ hk)) (by omega)
    show 0 ≤ rsF N r _ ∧ rsF N r _ ≤ L
    omega
theorem wkL_pos (h : NC N) {j : Nat} (hj : j ≤ nK N) : ∀ k, k ∈ wkL N S i j → 0 ≤ N 21 k := fun k hk => by
  obtain ⟨p, h1, h2, _⟩ := wkL_mem.mp hk
  have h3 := (h.cp.1 p (by omega)).2
  have := (h.ck k (h2 ▸ h3)).2.1
  omega
theorem wkL_new (h : NC N) {j : Nat} (hj : j < nK N) : oP N j ∉ wkL N S i j := fun hk => by
  obtain ⟨p, h1, h2, _⟩ := wkL_mem.mp hk
  have := oP_inj h hj (by omega) h2
  omega
theorem mostI_b (h : NC N) : 0 ≤ mostI N S i ∧ mostI N S i ≤ 45000 := by
  have h1 := sm_nn (a := fun k => if S 5 k = 1 ∧ isl N S (aK N k) = i then N 21 k else 0) (n := nK N) (fun k hk => by
    have := (h.ck k hk).2.1
    split <;> omega)
  have h2 := sm_const (f := fun k => if S 5 k = 1 ∧ isl N S (aK N k) = i then N 21 k else 0) (c := 5000) (n := nK N) (fun k hk => by
    have := (h.ck k hk).2.1
    split <;> omega)
  have := h.k9
  unfold mostI
  omega
theorem litI_b (h : NC N) (hS : sV N S) {D : Nat → Int} : 0 ≤ litI N S D i ∧ litI N S D i ≤ 16000 := by
  have h0 := h.n8
  have h1 := sm_nn (a := fun s => if isl N S s = i ∧ D s = 0 then S 3 s else 0) (n := nN N) (fun k hk => by
    have := hS.2.1 k (by omega)
    split <;> omega)
  have h2 := sm_const (f := fun s => if isl N S s = i ∧ D s = 0 then S 3 s else 0) (c := 2000) (n := nN N) (fun k hk => by
    have := hS.2.1 k (by omega)
    split <;> omega)
  unfold litI
  omega
end PERM
theorem sm_upd {f g : Nat → Int} {n p : Nat} {x : Int} (hp : p < n) (h : ∀ i, i < n → g i = f i + if i = p then x else 0) : sm g n = sm f n + x := by
  rw [sm_congr h, sm_add, sm_one, if_pos hp]
