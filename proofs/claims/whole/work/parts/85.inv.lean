/-! What holds between two calls. -/
def nwS (S : Mm) : Nat := (S 6 1).toNat
def iNet (N S M : Mm) : Prop := NC N ∧ sV N S ∧ nCl N M ∧ nMd N M ∧ sC N S M 24 ∧ sM S M 36000 ∧ (∀ w, nW N ≤ w → w < 14 → M 152 w = 1) ∧ (M 142 2 = S 6 1 ∧ S 6 1 ≤ 499) ∧ M 3 3 = M 144 36069 ∧ 0 ≤ M 3 3 ∧ M 3 3 ≤ 1000
def iPast (N : Mm) (n : Nat) (Ps : Nat → Mm) (M : Mm) : Prop := M 0 0 = n ∧ ∀ m, m < n → sV N (Ps m) ∧ Ps m 6 1 = m ∧ M 29 m = (200 + 5 * m : Nat) ∧ sC N (Ps m) M (200 + 5 * m) ∧ sM (Ps m) M (72 * m) ∧ M 30 m = M 182 m
def iTxt (l : List (Bool × Sem)) (t d : Nat) (M : Mm) : Prop := (t = 4 ∧ d = 135 ∨ t = 135 ∧ d = 4) ∧ M 3 4 = t ∧ M 2 13 = d ∧ txV l M t ∧ (M d 5 = 0 ∨ M d 5 = 1) ∧ (M t 5 = 0 ∨ M t 5 = 1) ∧ txW l M ∧ M 142 52 = 0
def kdN (N : Mm) (k : Int) : Nat := if k = 0 then nN N else if k = 3 then nK N else nW N
def iEv (N : Mm) (n ev : Nat) (M : Mm) : Prop := M 98 0 = ev ∧ M 142 7 = ev ∧ ev ≤ 400 ∧ ∀ j, j < ev → M 99 j = M 185 j ∧ M 100 j = M 186 j ∧ M 101 j = M 187 j ∧ (0 ≤ M 185 j ∧ M 185 j ≤ 3) ∧ (0 ≤ M 186 j ∧ M 186 j < kdN N (M 185 j)) ∧ ∃ m : Nat, m < n ∧ M 187 j = m
def shw (N : Mm) (k w : Nat) : Prop := N 11 (eA N w) = k ∨ N 11 (eB N w) = k
/-- minute m was otherwise than minute t, on screen k -/
def dff (N M : Mm) (k t m : Nat) : Prop := ∃ w, w < nW N ∧ shw N k w ∧ (M 184 (14 * m + w) ≠ M 184 (14 * t + w) ∨ M 183 (14 * m + w) ≠ M 183 (14 * t + w))
def sgP (N M : Mm) (k t s0 n : Nat) (x : Int) : Prop := (x = -1 ∧ ∀ m, s0 ≤ m → m < n → ¬ dff N M k t m) ∨ ∃ m0 : Nat, x = m0 ∧ s0 ≤ m0 ∧ m0 < n ∧ dff N M k t m0 ∧ ∀ m, s0 ≤ m → m < m0 → ¬ dff N M k t m
def iScr (N : Mm) (n : Nat) (M : Mm) : Prop := (∀ m w, m < n → w < nW N → M 184 (14 * m + w) = 0 ∨ M 184 (14 * m + w) = 1) ∧ ∀ k, k < 4 → (M 103 k = M 188 k ∧ (M 188 k = 0 ∨ M 188 k = 1)) ∧ M 104 k = M 190 k ∧
  (M 190 k = -1 ∨ ∃ t : Nat, t < n ∧ M 190 k = t ∧ (0 ≤ M 106 k ∧ M 106 k < 16384) ∧ ∀ w, w < nW N → (if tb (M 106 k) w then 1 else 0) = M 184 (14 * t + w) ∧ M (108 + k) w = M 183 (14 * t + w)) ∧
  (M 188 k = 0 → M 105 k = -1) ∧ (M 188 k = 1 → ∃ s0 : Nat, M 189 k = s0 ∧ s0 ≤ n ∧ (M 190 k = -1 → M 105 k = -1) ∧ ∀ t : Nat, M 190 k = t → sgP N M k t s0 n (M 105 k))
def iClk (r b : Nat) (M : Mm) : Prop := M 112 0 = r ∧ M 142 8 = r ∧ r ≤ 40 ∧ M 112 1 = b ∧ M 142 9 = b ∧ b ≤ 100 ∧ (∀ k, k < 4 → M 113 k = M 191 k ∧ M 114 k = M 192 k ∧ -100 ≤ M 191 k ∧ M 191 k ≤ M 192 k ∧ M 192 k ≤ 100) ∧
  (∀ i, i < r → M 115 i = M 193 i ∧ M 116 i = M 194 i ∧ (0 ≤ M 193 i ∧ M 193 i ≤ 3) ∧ 0 ≤ M 194 i ∧ M 194 i ≤ 9999) ∧ ∀ i, i < b → M 117 i = M 195 i ∧ M 118 i = M 196 i ∧ (0 ≤ M 195 i ∧ M 195 i < r) ∧ 0 ≤ M 196 i ∧ M 196 i < r
def iBeg (M : Mm) : Prop := ∀ k, k < 9 → (M 126 k = M 156 k ∧ (M 156 k = 0 ∨ M 156 k = 1)) ∧ M 127 k = M 157 k ∧ 1 ≤ M 157 k ∧ M 157 k ≤ 100
def iTap (z : Nat) (M : Mm) : Prop := M 132 0 = z ∧ M 142 1 = z ∧ z ≤ 200 ∧ ∀ i, i < z → bAnd (M 143 i) 255 = M 133 i ∧ 0 ≤ M 133 i ∧ M 133 i ≤ 255
def IV (N S : Mm) (Ps : Nat → Mm) (l : List (Bool × Sem)) (M : Mm) : Prop := iNet N S M ∧ iPast N (nwS S) Ps M ∧ (∃ t d, iTxt l t d M) ∧ (∃ ev, iEv N (nwS S) ev M) ∧ iScr N (nwS S) M ∧ (∃ r b, iClk r b M) ∧ iBeg M ∧ ∃ z, iTap z M
def GI (M : Mm) : Prop := ∃ N S Ps l, IV N S Ps l M
section IV
variable {N S M M2 : Mm} {n ev t d r b z : Nat} {Ps : Nat → Mm} {l : List (Bool × Sem)}
theorem iNet.to (h : iNet N S M) (hb : ∀ b, (b = 3 ∨ (11 ≤ b ∧ b ≤ 28) ∨ (145 ≤ b ∧ b ≤ 155)) → M2 b = M b) (hj : ∀ j, 2 ≤ j → j ≤ 5 → M2 142 j = M 142 j) (ha : ∀ a, 36000 ≤ a → a < 36072 → M2 144 a = M 144 a) : iNet N S M2 := by
  obtain ⟨h1, h2, h3, h4, h5, h6, h7, h8, h9⟩ := h
  refine ⟨h1, h2, h3.to (hb 3 (by omega)) (fun b _ _ => hb b (by omega)), h4.to (hj 3 (by decide) (by decide)) (hj 4 (by decide) (by decide)) (hj 5 (by decide) (by decide)) (fun b _ _ => hb b (by omega)), h5.to (fun b _ _ => hb b (by omega)), h6.to (fun a q1 q2 => ha a q1 (by omega)), fun w q1 q2 => by rw [hb 152 (by omega)]; exact h7 w q1 q2, by rw [hj 2 (by decide) (by decide)]; exact h8, ?_⟩
  rw [hb 3 (by omega), ha 36069 (by decide) (by decide)]
  exact h9
theorem iPast.to (h : iPast N n Ps M) (hn : n ≤ 500) (h0 : M2 0 0 = M 0 0) (hb : ∀ b, (b = 29 ∨ b = 30 ∨ b = 182 ∨ 200 ≤ b) → M2 b = M b) (ha : ∀ a, a < 36000 → M2 144 a = M 144 a) : iPast N n Ps M2 := by
  refine ⟨h0.trans h.1, fun m hm => ?_⟩
  obtain ⟨h1, h2, h3, h4, h5, h6⟩ := h.2 m hm
  refine ⟨h1, h2, ?_, h4.to (fun b _ _ => hb b (by omega)), h5.to (fun a q1 q2 => ha a (by omega)), ?_⟩
  · rw [hb 29 (by omega)]
    exact h3
  · rw [hb 30 (by omega), hb 182 (by omega)]
    exact h6
theorem txV.to (h : txV l M t) (hb : ∀ b, t ≤ b → b ≤ t + 5 → M2 b = M b) : txV l M2 t := by
  obtain ⟨h1, h2, e, h3, h4⟩ := h
  have hc : cd t M2 = cd t M := by
    funext i
    unfold cd
    rw [hb (t + 2) (by omega) (by omega), hb (t + 3) (by omega) (by omega)]
  refine ⟨by rw [hb t (by omega) (by omega)]; exact h1, h2, e, h3, fun j x hx => ?_⟩
  rw [hb (t + 4) (by omega) (by omega), hb (t + 5) (by omega) (by omega), hc]
  exact h4 j x hx
theorem txW.to (h : txW l M) (h6 : M2 142 6 = M 142 6) (hb : ∀ b, 167 ≤ b → b ≤ 171 → M2 b = M b) : txW l M2 := by
  obtain ⟨h1, h2, e, h4⟩ := h
  have hc : cm2 M2 = cm2 M := by
    funext i
    unfold cm2
    rw [hb 170 (by omega) (by omega), hb 171 (by omega) (by omega)]
  refine ⟨h6.trans h1, h2, e, fun j x hx => ?_⟩
  rw [hb 167 (by omega) (by omega), hb 168 (by omega) (by omega), hb 169 (by omega) (by omega), hc]
  exact h4 j x hx
theorem iTxt.to (h : iTxt l t d M) (h3 : M2 3 4 = M 3 4) (h2 : M2 2 13 = M 2 13) (hb : ∀ b, ((4 ≤ b ∧ b ≤ 9) ∨ (135 ≤ b ∧ b ≤ 140) ∨ (167 ≤ b ∧ b ≤ 171)) → M2 b = M b) (h6 : M2 142 6 = M 142 6) (h52 : M2 142 52 = M 142 52) : iTxt l t d M2 := by
  obtain ⟨g1, g2, g3, g4, g5, g6, g7, g8⟩ := h
  exact ⟨g1, h3.trans g2, h2.trans g3, g4.to (fun b _ _ => hb b (by omega)), by rw [hb d (by omega)]; exact g5, by rw [hb t (by omega)]; exact g6, g7.to h6 (fun b _ _ => hb b (by omega)), h52.trans g8⟩
theorem iEv.to (h : iEv N n ev M) (hb : ∀ b, ((98 ≤ b ∧ b ≤ 101) ∨ (185 ≤ b ∧ b ≤ 187)) → M2 b = M b) (h7 : M2 142 7 = M 142 7) : iEv N n ev M2 := by
  unfold iEv
  rw [hb 98 (by omega), hb 99 (by omega), hb 100 (by omega), hb 101 (by omega), hb 185 (by omega), hb 186 (by omega), hb 187 (by omega), h7]
  exact h
theorem iScr.to (h : iScr N n M) (hb : ∀ b, ((103 ≤ b ∧ b ≤ 111) ∨ (183 ≤ b ∧ b ≤ 184) ∨ (188 ≤ b ∧ b ≤ 190)) → M2 b = M b) : iScr N n M2 := by
  have e : ∀ k t m, dff N M2 k t m ↔ dff N M k t m := fun k t m => by unfold dff; rw [hb 183 (by omega), hb 184 (by omega)]
  refine ⟨fun m w q1 q2 => by rw [hb 184 (by omega)]; exact h.1 m w q1 q2, fun k hk => ?_⟩
  obtain ⟨a1, a2, a3, a4, a5⟩ := h.2 k hk
  rw [hb 103 (by omega), hb 104 (by omega), hb 105 (by omega), hb 106 (by omega), hb (108 + k) (by omega), hb 183 (by omega), hb 184 (by omega), hb 188 (by omega), hb 189 (by omega), hb 190 (by omega)]
  refine ⟨a1, a2, a3, a4, fun q => ?_⟩
  obtain ⟨s0, b1, b2, b3, b4⟩ := a5 q
  refine ⟨s0, b1, b2, b3, fun t ht => ?_⟩
  rcases b4 t ht with ⟨c1, c2⟩ | ⟨m0, c1, c2, c3, c4, c5⟩
  · exact Or.inl ⟨c1, fun m q1 q2 z => c2 m q1 q2 ((e k t m).mp z)⟩
  · exact Or.inr ⟨m0, c1, c2, c3, (e k t m0).mpr c4, fun m q1 q2 z => c5 m q1 q2 ((e k t m).mp z)⟩
theorem iClk.to (h : iClk r b M) (hb : ∀ b, ((112 ≤ b ∧ b ≤ 118) ∨ (191 ≤ b ∧ b ≤ 196)) → M2 b = M b) (h8 : M2 142 8 = M 142 8) (h9 : M2 142 9 = M 142 9) : iClk r b M2 := by
  unfold iClk
  rw [hb 112 (by omega), hb 113 (by omega), hb 114 (by omega), hb 115 (by omega), hb 116 (by omega), hb 117 (by omega), hb 118 (by omega), hb 191 (by omega), hb 192 (by omega), hb 193 (by omega), hb 194 (by omega), hb 195 (by omega), hb 196 (by omega), h8, h9]
  exact h
theorem iBeg.to (h : iBeg M) (hb : ∀ b, (b = 126 ∨ b = 127 ∨ b = 156 ∨ b = 157) → M2 b = M b) : iBeg M2 := by
  unfold iBeg
  rw [hb 126 (by omega), hb 127 (by omega), hb 156 (by omega), hb 157 (by omega)]
  exact h
theorem iTap.to (h : iTap z M) (h0 : M2 132 0 = M 132 0) (h1 : M2 142 1 = M 142 1) (hb : ∀ b, (b = 133 ∨ b = 143) → M2 b = M b) : iTap z M2 := by
  unfold iTap
  rw [h0, h1, hb 133 (by omega), hb 143 (by omega)]
  exact h
/-- the cells that last -/
def perB (b : Nat) : Prop := b ≠ 142 ∧ b ≠ 144 ∧ (b ≤ 9 ∨ (11 ≤ b ∧ b ≤ 30) ∨ (98 ≤ b ∧ b ≤ 118) ∨ (126 ≤ b ∧ b ≤ 127) ∨ (132 ≤ b ∧ b ≤ 133) ∨ (135 ≤ b ∧ b ≤ 140) ∨ b = 143 ∨ (145 ≤ b ∧ b ≤ 157) ∨ (167 ≤ b ∧ b ≤ 171) ∨ (182 ≤ b ∧ b ≤ 196) ∨ 200 ≤ b)
def fpP (M M2 : Mm) : Prop := (∀ b, perB b → M2 b = M b) ∧ (∀ j, (j ≤ 9 ∨ j = 52) → M2 142 j = M 142 j) ∧ ∀ a, a < 36072 → M2 144 a = M 144 a
theorem fpP.refl : fpP M M := ⟨fun _ _ => rfl, fun _ _ => rfl, fun _ _ => rfl⟩
theorem fpP.trans {M3 : Mm} (h : fpP M M2) (g : fpP M2 M3) : fpP M M3 := ⟨fun b hb => (g.1 b hb).trans (h.1 b hb), fun j hj => (g.2.1 j hj).trans (h.2.1 j hj), fun a ha => (g.2.2 a ha).trans (h.2.2 a ha)⟩
theorem fpP.of (h : ∀ b, (perB b ∨ b = 142 ∨ b = 144) → M2 b = M b) : fpP M M2 := ⟨fun b hb => h b (Or.inl hb), fun j _ => by rw [h 142 (by omega)], fun a _ => by rw [h 144 (by omega)]⟩
theorem IV.nw (h : IV N S Ps l M) : nwS S ≤ 499 := by
  have h1 := h.1.2.2.2.2.2.2.2.1.2
  unfold nwS
  omega
theorem IV.fp (h : IV N S Ps l M) (f : fpP M M2) : IV N S Ps l M2 := by
  have hn := h.nw
  obtain ⟨h1, h2, ⟨t, d, h3⟩, ⟨ev, h4⟩, h5, ⟨r, b, h6⟩, h7, ⟨z, h8⟩⟩ := h
  have fb : ∀ b, perB b → M2 b = M b := f.1
  unfold perB at fb
  refine ⟨h1.to (fun b hb => fb b (by omega)) (fun j _ _ => f.2.1 j (by omega)) (fun a _ _ => f.2.2 a (by omega)), h2.to (by omega) (by rw [fb 0 (by omega)]) (fun b hb => fb b (by omega)) (fun a _ => f.2.2 a (by omega)), ⟨t, d, h3.to (by rw [fb 3 (by omega)]) (by rw [fb 2 (by omega)]) (fun b hb => fb b (by omega)) (f.2.1 6 (by omega)) (f.2.1 52 (by omega))⟩, ⟨ev, h4.to (fun b hb => fb b (by omega)) (f.2.1 7 (by omega))⟩, h5.to (fun b hb => fb b (by omega)), ⟨r, b, h6.to (fun b hb => fb b (by omega)) (f.2.1 8 (by omega)) (f.2.1 9 (by omega))⟩, h7.to (fun b hb => fb b (by omega)), ⟨z, h8.to (by rw [fb 132 (by omega)]) (f.2.1 1 (by omega)) (fun b hb => fb b (by omega))⟩⟩
end IV
/-! A state's numbers told anew. -/
section UPS
variable {N S M M2 : Mm} {r i z s : Nat} {v : Int}
theorem sV.up (h : sV N S) (h0 : r = 0 → 0 ≤ v ∧ v ≤ 3) (h1 : r = 1 → 0 ≤ v ∧ v ≤ 1000000) (h2 : r = 2 → 0 ≤ v ∧ v ≤ 100000) (h3 : r = 3 → 0 ≤ v ∧ v ≤ 2000) (h4 : r = 4 → (v = 0 ∨ v = 1) ∧ i < nN N) (h5 : r = 5 → (v = 0 ∨ v = 1) ∧ i < nK N) (h6 : r ≤ 5) : sV N (ms S r i v) := by
  obtain ⟨g1, g2, g3, g4, g5, g6, g7⟩ := h
  refine ⟨fun w hw => ⟨?_, ?_, ?_⟩, fun j hj => ?_, fun j => ?_, fun j hj => ?_, fun j => ?_, fun j hj => ?_, ?_⟩
  · unfold ms
    split
    · exact h0 (by omega)
    · exact (g1 w hw).1
  · unfold ms
    split
    · exact h1 (by omega)
    · exact (g1 w hw).2.1
  · unfold ms
    split
    · exact h2 (by omega)
    · exact (g1 w hw).2.2
  · unfold ms
    split
    · exact h3 (by omega)
    · exact g2 j hj
  · unfold ms
    split
    · exact (h4 (by omega)).1
    · exact g3 j
  · unfold ms
    split
    · have := (h4 (by omega)).2
      omega
    · exact g4 j hj
  · unfold ms
    split
    · exact (h5 (by omega)).1
    · exact g5 j
  · unfold ms
    split
    · have := (h5 (by omega)).2
      omega
    · exact g6 j hj
  · rw [ms_a (by omega)]
    exact g7
def offS (r : Nat) : Nat := if r = 0 then 0 else if r = 1 then 14 else if r = 2 then 28 else if r = 3 then 59 else if r = 4 then 51 else 42
def limS (r : Nat) : Nat := if r ≤ 2 then 14 else if r ≤ 4 then 8 else 9
theorem offlim : (offS 0 = 0 ∧ offS 1 = 14 ∧ offS 2 = 28 ∧ offS 3 = 59 ∧ offS 4 = 51 ∧ offS 5 = 42) ∧ limS 0 = 14 ∧ limS 1 = 14 ∧ limS 2 = 14 ∧ limS 3 = 8 ∧ limS 4 = 8 ∧ limS 5 = 9 := by decide
theorem sM.up (h : sM S M z) (hr : r ≤ 5) (hi : i < limS r) (hv : M2 144 (z + offS r + i) = v) (hc : ∀ a, z ≤ a → a < z + 72 → a ≠ z + offS r + i → M2 144 a = M 144 a) : sM (ms S r i v) M2 z := by
  obtain ⟨g1, g2, g3, g4, g5⟩ := h
  have h6 : r = 0 ∨ r = 1 ∨ r = 2 ∨ r = 3 ∨ r = 4 ∨ r = 5 := by omega
  have key : ∀ (r2 j : Nat), r2 ≤ 5 → j < limS r2 → M 144 (z + offS r2 + j) = S r2 j → M2 144 (z + offS r2 + j) = ms S r i v r2 j := fun r2 j q1 q2 q3 => by
    have h7 : r2 = 0 ∨ r2 = 1 ∨ r2 = 2 ∨ r2 = 3 ∨ r2 = 4 ∨ r2 = 5 := by omega
    unfold ms
    by_cases e : r2 = r ∧ j = i
    · rw [if_pos e, e.1, e.2]
      exact hv
    · rw [if_neg e, ← q3]
      refine hc _ (by omega) ?_ ?_
      · rcases h7 with rfl | rfl | rfl | rfl | rfl | rfl <;> (have ol := offlim; omega)
      · rcases h6 with rfl | rfl | rfl | rfl | rfl | rfl <;> rcases h7 with rfl | rfl | rfl | rfl | rfl | rfl <;> (have ol := offlim; omega)
  refine ⟨fun w hw => ⟨key 0 w (by decide) hw (g1 w hw).1, key 1 w (by decide) hw (g1 w hw).2.1, key 2 w (by decide) hw (g1 w hw).2.2⟩, fun j hj => ⟨key 3 j (by decide) hj (g2 j hj).1, key 4 j (by decide) hj (g2 j hj).2⟩, fun k hk => key 5 k (by decide) hk (g3 k hk), ?_, ?_⟩
  · rw [ms_a (by omega), hc _ (by omega) (by omega) (by rcases h6 with rfl | rfl | rfl | rfl | rfl | rfl <;> (have ol := offlim; omega))]
    exact g4
  · rw [ms_a (by omega), hc _ (by omega) (by omega) (by rcases h6 with rfl | rfl | rfl | rfl | rfl | rfl <;> (have ol := offlim; omega))]
    exact g5
theorem sC.up (h : sC N S M s) (hr : r ≤ 2) (hv : ∀ x, x < 14 → M2 (s + 2 + r) x = if x = i then v else M (s + 2 + r) x) (hc : ∀ b, s ≤ b → b ≤ s + 4 → b ≠ s + 2 + r → M2 b = M b) : sC N (ms S r i v) M2 s := by
  obtain ⟨g1, g2, g3, g4, g5⟩ := h
  have key : ∀ (r2 j : Nat), r2 ≤ 2 → j < 14 → M (s + 2 + r2) j = S r2 j → M2 (s + 2 + r2) j = ms S r i v r2 j := fun r2 j q1 q2 q3 => by
    unfold ms
    by_cases e1 : r2 = r
    · subst e1
      rw [hv j q2]
      by_cases e2 : j = i
      · rw [if_pos e2, if_pos ⟨rfl, e2⟩]
      · rw [if_neg e2, if_neg (fun z => e2 z.2)]
        exact q3
    · rw [if_neg (fun z => e1 z.1), hc _ (by omega) (by omega) (by omega)]
      exact q3
  refine ⟨fun w hw => ⟨key 0 w (by decide) hw (g1 w hw).1, key 1 w (by decide) hw (g1 w hw).2.1, key 2 w (by decide) hw (g1 w hw).2.2⟩, fun j hj => ?_, ?_, ?_, ?_⟩
  · rw [hc _ (by omega) (by omega) (by omega), ms_a (by omega)]
    exact g2 j hj
  · rw [hc s (by omega) (by omega) (by omega)]
    refine ⟨g3.1, g3.2.1, fun x => ?_⟩
    rw [ms_a (by omega)]
    exact g3.2.2 x
  · rw [hc s (by omega) (by omega) (by omega)]
    refine ⟨g4.1, g4.2.1, fun x => ?_⟩
    rw [ms_a (by omega)]
    exact g4.2.2 x
  · rw [hc s (by omega) (by omega) (by omega), ms_a (by omega)]
    exact g5
theorem sC.up3 (h : sC N S M s) (hv : ∀ x, x < 8 → M2 (s + 1) x = if x = i then v else M (s + 1) x) (hc : ∀ b, s ≤ b → b ≤ s + 4 → b ≠ s + 1 → M2 b = M b) : sC N (ms S 3 i v) M2 s := by
  obtain ⟨g1, g2, g3, g4, g5⟩ := h
  refine ⟨fun w hw => ?_, fun j hj => ?_, ?_, ?_, ?_⟩
  · rw [hc _ (by omega) (by omega) (by omega), hc _ (by omega) (by omega) (by omega), hc _ (by omega) (by omega) (by omega), ms_a (by decide), ms_a (by decide), ms_a (by decide)]
    exact g1 w hw
  · rw [hv j hj]
    unfold ms
    by_cases e2 : j = i
    · rw [if_pos e2, if_pos ⟨rfl, e2⟩]
    · rw [if_neg e2, if_neg (fun z => e2 z.2)]
      exact g2 j hj
  · rw [hc s (by omega) (by omega) (by omega), ms_a (by decide)]
    exact g3
  · rw [hc s (by omega) (by omega) (by omega), ms_a (by decide)]
    exact g4
  · rw [hc s (by omega) (by omega) (by omega), ms_a (by decide)]
    exact g5
/-- a bit of who is dark, or runs -/
theorem sC.up45 (h : sC N S M s) (hr : r = 4 ∨ r = 5) (hb : (0 ≤ M2 s (r - 3) ∧ M2 s (r - 3) < (2 ^ (if r = 4 then nN N else nK N) : Nat)) ∧ ∀ x, (if tb (M2 s (r - 3)) x then (1 : Int) else 0) = if x = i then v else S r x) (hf : ∀ j, j ≠ r - 3 → M2 s j = M s j) (hc : ∀ b, s < b → b ≤ s + 4 → M2 b = M b) : sC N (ms S r i v) M2 s := by
  obtain ⟨g1, g2, g3, g4, g5⟩ := h
  have cell : ∀ x, ms S r i v r x = if x = i then v else S r x := fun x => by
    unfold ms
    by_cases e2 : x = i
    · rw [if_pos ⟨rfl, e2⟩, if_pos e2]
    · rw [if_neg (fun z => e2 z.2), if_neg e2]
  refine ⟨fun w hw => ?_, fun j hj => ?_, ?_, ?_, ?_⟩
  · rw [hc _ (by omega) (by omega), hc _ (by omega) (by omega), hc _ (by omega) (by omega), ms_a (by omega), ms_a (by omega), ms_a (by omega)]
    exact g1 w hw
  · rw [hc _ (by omega) (by omega), ms_a (by omega)]
    exact g2 j hj
  · rcases hr with rfl | rfl
    · exact ⟨hb.1.1, hb.1.2, fun x => by rw [cell x, ← hb.2 x]⟩
    · rw [hf 1 (by decide), ms_a (by decide)]
      exact g3
  · rcases hr with rfl | rfl
    · rw [hf 2 (by decide), ms_a (by decide)]
      exact g4
    · exact ⟨hb.1.1, hb.1.2, fun x => by rw [cell x, ← hb.2 x]⟩
  · rw [hf 3 (by omega), hf 0 (by omega), ms_a (by omega)]
    exact g5
end UPS
