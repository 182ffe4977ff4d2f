/-! Arrays of arrays, and arrays copied. -/
theorem qouter (c : ClassId) (N h0 : Nat) : ∀ i : Nat, Jvm.Free.Multi.outerC c N h0 i = arrV c N (fun j => va_rf (if j < i then some (h0 + 1 + j) else none))
  | 0 => by
    show ({ cls := c, slots := Array.replicate N .null, vm := .none } : Cell) = _
    rw [arrV_new]
    refine congrArg (arrV c N) (funext fun j => ?_)
    simp [va_rf]
  | i + 1 => by
    show (Jvm.Free.Multi.outerC c N h0 i).setSlot i (.ref (h0 + 1 + i)) = _
    rw [qouter c N h0 i, arrV_store]
    refine congrArg (arrV c N) (funext fun j => ?_)
    by_cases e : j = i
    · subst e
      simp [updV, va_rf]
    · by_cases h : j < i
      · simp [updV, e, h, Nat.lt_succ_of_lt h]
      · simp [updV, e, h, show ¬ j < i + 1 by omega]
section QM2
variable {p : Program} {l : Launch} {e : Env} {R : Room} {s : State} {m : MethodId} {args : Array Value} {below : List Frame} {meth : Method} {c : Code} {H : Heap} {locs : List Loc} {nc ns : Nat} {Q : State → Prop}
variable {cc : ByteArray} {d k pc nL : Nat} {A : Array Slot} {am : Nat → Nat} {ls : qL} {st : List Value} {h : qH} {g : Nat × qL × List Value × qH}
variable {dC : Nat → ClassId} {dI : Nat → Nat → Nat} {tc : Nat → ClassId} {base L : Nat} {xs : Nat → Int32}
theorem qs_cpy {z : Nat} (hx : p.tables.exec = Jvm.exec) (hb : c.code = cc) (hlr : qLR am ls A nL) (ham : ∀ i, am (i + 2) = base + i) (hK : qKS dC dI tc s) (hH : qHR am dC dI tc base L xs h H) (hS : va_S (fun q => base ≤ q) s.heap H locs) (hts : ∀ w ∈ qWall, w.before args s = true) (hown : s.vm.findClass (qR (qown k)) = some m.cls) (hd : decode cc pc = .ok (.invokestatic z, 3)) (hml : c.maxLocals = A.size) (hfr : d ≤ R.frames) (hlo : 41 * d ≤ R.locals) (hq : (qown k = 10 ∧ z = 42) ∨ (qown k = 8 ∧ z = 37)) (hs : qcpy k z pc ls st h d = some (.inl g)) : (∀ B H1 locs1 nc1 ns1, qLR am g.2.1 B nL → qHR am dC dI tc base L xs g.2.2.2 H1 → va_S (fun q => base ≤ q) s.heap H1 locs1 → nc1 + h.1 = nc + g.2.2.2.1 → ns1 + h.2.1 = ns + g.2.2.2.2.1 → (W p l e R s m args below meth c H1 locs1 nc1 ns1 Q (F0 m g.1 B (g.2.2.1.map (qV am))))) → (W p l e R s m args below meth c H locs nc ns Q (F0 m pc A (st.map (qV am)))) := by
  have hlink : (Cond.methodLink (qR (qown k)) z arraycopyName).before args s = true := by
    rcases hq with ⟨q1, q2⟩ | ⟨q1, q2⟩
    · subst q2
      rw [q1]
      exact hts _ qcpy_10
    · subst q2
      rw [q1]
      exact hts _ qcpy_8
  unfold qcpy at hs
  split at hs
  · rename_i n dp a sp a0 r
    split at hs
    · rename_i n0 f n1 g9 hc0 hc1
      split at hs
      · rename_i hq9
        obtain ⟨hne, b1, b2, b3, b4, b5, hd0, hr8⟩ := hq9
        simp only [qgo] at hs
        cases hs
        intro kk
        intro T hT X
        have ng : ∀ z : Int32, 0 ≤ z.toInt → ¬ z < 0 := fun z hz => by rw [Int32.lt_iff_toInt_lt, Int32.toInt_zero]; omega
        have nn : ∀ z : Int32, 0 ≤ z.toInt → z.toInt = (z.toNatClampNeg : Int) := fun z hz => by
          show z.toInt = ((z.toInt.toNat : Nat) : Int)
          omega
        have e1' := nn sp b1
        have e2' := nn dp b2
        have e3' := nn n b3
        obtain ⟨hat0, -⟩ := hH.arr ham hc0 (Nat.ne_of_beq_eq_false rfl) (Nat.ne_of_beq_eq_false rfl)
        obtain ⟨hat1, -, h2a, hba⟩ := hH.arr ham hc1 (Nat.ne_of_beq_eq_false rfl) (Nat.ne_of_beq_eq_false rfl)
        have hcc0 : H[am a0]? = some (vp_cell (tc 0) (n0, .inl f)) := hat0
        have hcc1 : H[am a]? = some (vp_cell (tc 0) (n1, .inl g9)) := hat1
        have h4 : sp.toNatClampNeg + n.toNatClampNeg ≤ n0 := by omega
        have h5 : dp.toNatClampNeg + n.toNatClampNeg ≤ n1 := by omega
        obtain ⟨-, k0, hk0, cm0, hkk0⟩ := (hK.1.2 0 _ rfl).1 n0 (fun j => .int (f j))
        obtain ⟨-, k1, hk1, cm1, hkk1⟩ := (hK.1.2 0 _ rfl).1 n1 (fun j => .int (g9 j))
        have hnw : nativeFrameWords "java/lang/System" "arraycopy" 5 ≤ 22 := by decide
        obtain ⟨vm', X', step⟩ := X.arraycopy hx hown hlink (hts _ qcpy_n) (hts _ qcpy_s) (hts _ qcpy_i) (src := am a0) (dst := am a) (cs := vp_cell (tc 0) (n0, .inl f)) (cd := vp_cell (tc 0) (n1, .inl g9)) (srcPos := sp) (destPos := dp) (n := n) (by rw [hT]; exact hcc0) (by rw [hT]; exact hcc1)
          (fun _ h => by cases h) (fun _ h => by cases h) (fun h => by cases h) (fun h => by cases h) hk0 hk1 hkk0 hkk1 (by simp [qTy, refKind]) (ng sp b1) (ng dp b2) (ng n b3)
          (by rw [e1', e3']; show ¬ _ > ((arrV (tc 0) n0 (fun j => .int (f j))).slots.size : Int); rw [arrV_size]; omega)
          (by rw [e2', e3']; show ¬ _ > ((arrV (tc 0) n1 (fun j => .int (g9 j))).slots.size : Int); rw [arrV_size]; omega)
          (fun vm₁ _ i hi => by
            have e : (vp_cell (tc 0) (n0, .inl f)).slots.getD (sp.toNatClampNeg + i) .null = .int (f (sp.toNatClampNeg + i)) := by
              show (arrV (tc 0) n0 (fun j => .int (f j))).slots.getD _ _ = _
              rw [Array.getD_eq_getD_getElem?, arrV_read _ _ (by omega)]
              rfl
            refine ⟨?_, ?_⟩
            · rw [e]
              rfl
            · rw [e]
              exact trivial)
          (g := F0 m pc A (.int n :: .int dp :: .ref (am a) :: .int sp :: .ref (am a0) :: r.map (qV am))) rfl (by rw [hml]) (rest := r.map (qV am)) rfl (by rw [hb]; exact hd) (by omega) (by show 2 * 0 + _ + _ ≤ _; rw [qcat_map]; omega)
        have e1 : copied (vp_cell (tc 0) (n0, .inl f)) (vp_cell (tc 0) (n1, .inl g9)) sp dp n = vp_cell (tc 0) (n1, .inl (va_cpy f g9 sp.toNatClampNeg dp.toNatClampNeg n.toNatClampNeg)) := va_copied (fun z => .int z) (tc 0) (tc 0) f g9 h4
        rw [e1] at X' step
        have hl : am a < H.size := (Array.getElem?_eq_some_iff.mp hcc1).1
        have hheap : ((T.setVm vm').setCell (am a) (vp_cell (tc 0) (n1, .inl (va_cpy f g9 sp.toNatClampNeg dp.toNatClampNeg n.toNatClampNeg)))).heap = H.setIfInBounds (am a) (vp_cell (tc 0) (n1, .inl (va_cpy f g9 sp.toNatClampNeg dp.toNatClampNeg n.toNatClampNeg))) := by rw [← hT]; rfl
        have oq : ∀ q : Nat, q ≠ am a → (H.setIfInBounds (am a) (vp_cell (tc 0) (n1, .inl (va_cpy f g9 sp.toNatClampNeg dp.toNatClampNeg n.toNatClampNeg))))[q]? = H[q]? := fun q hq => by simp [Array.getElem?_setIfInBounds, Ne.symm hq]
        have hset := hH.set (c1 := .inl (0, n1, .inl (va_cpy f g9 sp.toNatClampNeg dp.toNatClampNeg n.toNatClampNeg))) ham h2a hc1 (show (H.setIfInBounds (am a) (vp_cell (tc 0) (n1, .inl (va_cpy f g9 sp.toNatClampNeg dp.toNatClampNeg n.toNatClampNeg))))[am a]? = some _ by simp [Array.getElem?_setIfInBounds, hl]; rfl) (fun o ho => by cases ho; exact Nat.le_of_ble_eq_true rfl) (by simp) oq
        obtain ⟨t, a1, b1⟩ := kk A _ _ nc ns hlr hset ⟨by simp; exact hS.1, fun q g1 g2 => by
            rw [oq q (fun e => g2 (by rw [e]; exact hba))]
            exact hS.2.1 q g1 g2, fun q hq => by
            rcases List.mem_append.mp hq with h | h
            · exact hS.2.2 q h
            · obtain ⟨z, -, hz⟩ := List.mem_map.mp h
              rw [← hz]
              exact hba⟩ rfl rfl _ hheap X'
        exact ⟨t, step t a1, b1⟩
      · cases hs
    · cases hs
  · cases hs
theorem qHR.mul {k0 k1 N n : Nat} {z : vp_A} {H1 : Heap} (hH : qHR am dC dI tc base L xs h H) (ham : ∀ i, am (i + 2) = base + i) (hk1 : k1 < 8) (hk0 : k0 < 8) (hz : (n, if k0 = 0 then (.inl (fun _ => 0) : (Nat → Int32) ⊕ (Nat → Int64) ⊕ (Nat → UInt32) ⊕ (Nat → UInt64) ⊕ (Nat → Option Nat)) else .inr (.inl (fun _ => 0))) = z) (hzA : qArr am z = z) (e0 : k0 = if k1 = 6 then 0 else 2)
    (h1 : H1[H.size]? = some (vp_cell (tc k1) (N, .inr (.inr (.inr (.inr (fun i => if i < N then some (H.size + 1 + i) else none)))))))
    (h2 : ∀ j, j < N → H1[H.size + 1 + j]? = some (vp_cell (tc k0) z)) (zz : H1.size = H.size + 1 + N) (oq : ∀ q, q < H.size → H1[q]? = H[q]?) : qHR am dC dI tc base L xs (qmul h k1 N n) H1 ∧ am h.1 = H.size := by
  obtain ⟨g1, g2, g3, g4, g5⟩ := hH
  have hs : H.size = base + (h.1 - 2) := by omega
  have hr : ∀ j c9, qrow h (if k1 = 6 then 0 else 2) n N j = some c9 → (h.1 < j ∧ j < h.1 + 1 + N ∧ c9 = .inl (k0, z)) ∨ (¬ (h.1 < j ∧ j < h.1 + 1 + N) ∧ h.2.2 j = some c9) := by
    intro j c9 hj
    unfold qrow at hj
    split at hj
    · rename_i hjj
      cases hj
      rw [← e0, ← hz]
      exact Or.inl ⟨hjj.1, hjj.2, rfl⟩
    · rename_i hjj
      exact Or.inr ⟨hjj, hj⟩
  have hlow : ∀ i c9, h.2.2 i = some c9 → i < h.1 := by
    intro i c9 hi
    match i, hi with
    | 0, _ => omega
    | 1, _ => omega
    | i + 2, hi => exact (g3 i _ hi).1
  refine ⟨⟨by show 2 ≤ h.1 + 1 + N; omega, by show H1.size + 2 = base + (h.1 + 1 + N); rw [zz]; omega, fun i c hi => ?_, fun c hi => ?_, fun c hi => ?_⟩, ?_⟩
  · show i + 2 < h.1 + 1 + N ∧ _
    rcases qup_at hi with ⟨e1, e2⟩ | ⟨e1, e2⟩
    · subst e2
      have hb : base + i = H.size := by omega
      refine ⟨by omega, ?_, fun o ho => by cases ho; exact hk1⟩
      rw [hb]
      show H1[H.size]? = some (vp_cell (tc k1) (N, .inr (.inr (.inr (.inr (fun j => (if j < N then some (h.1 + 1 + j) else none).map am))))))
      have ef : (fun i => if i < N then some (H.size + 1 + i) else none) = (fun j => (if j < N then some (h.1 + 1 + j) else none).map am) := by
        funext j
        by_cases hj : j < N
        · rw [if_pos hj, if_pos hj]
          show some _ = some (am (h.1 + 1 + j))
          rw [show h.1 + 1 + j = (h.1 - 2 + 1 + j) + 2 by omega, ham]
          congr 1
          omega
        · rw [if_neg hj, if_neg hj]
          rfl
      rw [h1, ef]
    · rcases hr _ _ e2 with ⟨r1, r2, r3⟩ | ⟨r1, r2⟩
      · subst r3
        refine ⟨r2, ?_, fun o ho => by cases ho; exact hk0⟩
        have := h2 (i + 2 - (h.1 + 1)) (by omega)
        rw [show H.size + 1 + (i + 2 - (h.1 + 1)) = base + i by omega] at this
        show H1[base + i]? = some (vp_cell (tc k0) (qArr am z))
        rw [hzA]
        exact this
      · have := (g3 i _ r2).1
        exact ⟨by omega, (g3 i _ r2).2.1.kept (oq _ (by show base + i < H.size; omega)), (g3 i _ r2).2.2⟩
  · rcases qup_at hi with ⟨e1, e2⟩ | ⟨e1, e2⟩
    · omega
    · rcases hr _ _ e2 with ⟨r1, r2, r3⟩ | ⟨r1, r2⟩
      · omega
      · exact g4 _ r2
  · rcases qup_at hi with ⟨e1, e2⟩ | ⟨e1, e2⟩
    · omega
    · rcases hr _ _ e2 with ⟨r1, r2, r3⟩ | ⟨r1, r2⟩
      · omega
      · exact g5 _ r2
  · obtain ⟨j, hj⟩ : ∃ j, h.1 = j + 2 := ⟨h.1 - 2, by omega⟩
    rw [hj, ham]
    omega
theorem qs_newM {z k0 k1 : Nat} {ty : FieldType} {dv : vp_A → vp_A} (hx : p.tables.exec = Jvm.exec) (hb : c.code = cc) (hlr : qLR am ls A nL) (ham : ∀ i, am (i + 2) = base + i) (hK : qKS dC dI tc s) (hH : qHR am dC dI tc base L xs h H) (hS : va_S (fun q => base ≤ q) s.heap H locs) (hts : ∀ w ∈ qWall, w.before args s = true) (hown : s.vm.findClass (qR (qown k)) = some m.cls) (hcap : nc + g.2.2.2.1 ≤ R.cells + h.1) (hcapS : ns + g.2.2.2.2.1 ≤ R.slots + h.2.1) (hd : decode cc pc = .ok (.multianewarray z 2, 4)) (hs : qnewM ls st h (pc + 4) k1 = some (.inl g))
    (hclink : (Cond.classLink (qR (qown k)) z ("[" ++ (FieldType.array ty).toString)).before args s = true) (hover : qAOA ty s) (harr : (Cond.arrayClass ty).before args s = true)
    (hcA : s.vm.findClass ("[" ++ (FieldType.array ty).toString) = some (tc k1)) (hcC : s.vm.findClass (FieldType.array ty).toString = some (tc k0)) (hcb : componentBytes ty ≤ 8) (hdf : fits ty (defaultValue ty) = true) (hdd : (defaultValue ty).isDefault = true)
    (hk1 : k1 < 8) (hk0 : k0 < 8) (e0 : k0 = if k1 = 6 then 0 else 2) (hin : ∀ (c9 : ClassId) (M : Nat), Jvm.Free.Multi.innerC c9 M (defaultValue ty) = vp_cell c9 (M, if k0 = 0 then (.inl (fun _ => 0) : (Nat → Int32) ⊕ (Nat → Int64) ⊕ (Nat → UInt32) ⊕ (Nat → UInt64) ⊕ (Nat → Option Nat)) else .inr (.inl (fun _ => 0)))) : (∀ B H1 locs1 nc1 ns1, qLR am g.2.1 B nL → qHR am dC dI tc base L xs g.2.2.2 H1 → va_S (fun q => base ≤ q) s.heap H1 locs1 → nc1 + h.1 = nc + g.2.2.2.1 → ns1 + h.2.1 = ns + g.2.2.2.2.1 → (W p l e R s m args below meth c H1 locs1 nc1 ns1 Q (F0 m g.1 B (g.2.2.1.map (qV am))))) → (W p l e R s m args below meth c H locs nc ns Q (F0 m pc A (st.map (qV am)))) := by
  unfold qnewM at hs
  split at hs
  · rename_i n N r
    split at hs
    · rename_i hq
      obtain ⟨b1, b2, b3, b4⟩ := hq
      simp only [qgo] at hs
      cases hs
      intro kk
      intro T hT X
      have ng : ∀ z : Int32, 0 ≤ z.toInt → ¬ z < 0 := fun z hz => by rw [Int32.lt_iff_toInt_lt, Int32.toInt_zero]; omega
      have hnn : n.toNatClampNeg ≤ 60000000 := by show n.toInt.toNat ≤ 60000000; omega
      have hNN : N.toNatClampNeg ≤ 60000000 := by show N.toInt.toNat ≤ 60000000; omega
      have hc1 : nc + (h.1 + 1 + N.toNatClampNeg) ≤ R.cells + h.1 := hcap
      have hc2 : ns + (h.2.1 + N.toNatClampNeg + N.toNatClampNeg * n.toNatClampNeg) ≤ R.slots + h.2.1 := hcapS
      obtain ⟨vm₁, cA, comp, -, fA, fC, hO, -, X', step⟩ := X.multianewarray2F hx hown hclink hover harr (g := F0 m pc A (.int n :: .int N :: r.map (qV am))) rfl (by rw [hb]; exact hd) rfl (ng N b3) (ng n b1) (by omega) (Nat.le_trans (Nat.mul_le_mul hnn hcb) (Nat.le_of_ble_eq_true rfl)) (by omega) hdf hdd (by omega) (by omega)
      have ec : cA = tc k1 := Option.some.inj (fA.symm.trans hcA)
      have ed : comp = tc k0 := Option.some.inj (fC.symm.trans hcC)
      subst ec
      subst ed
      generalize hF : Jvm.Free.Multi.fill (T.setVm vm₁) (tc k1) (tc k0) N.toNatClampNeg n.toNatClampNeg (defaultValue ty) N.toNatClampNeg = F at X' step
      have hTh : (T.setVm vm₁).heap = H := hT
      obtain ⟨f1, f2, -, -⟩ := Jvm.Free.Multi.fill_facts (T.setVm vm₁) (tc k1) (tc k0) N.toNatClampNeg n.toNatClampNeg (defaultValue ty) N.toNatClampNeg
      rw [hF, hTh] at f1 f2
      have hold : ∀ x : Nat, x < H.size → F.heap[x]? = H[x]? := fun x hx => by
        have := Jvm.Free.Multi.fill_old (T.setVm vm₁) (tc k1) (tc k0) N.toNatClampNeg n.toNatClampNeg (defaultValue ty) (a := x) (by rw [hTh]; exact hx) N.toNatClampNeg
        rw [hF, hTh] at this
        exact this
      have hrow := fun j (hj : j < N.toNatClampNeg) => by
        have := Jvm.Free.Multi.fill_inner (T.setVm vm₁) (tc k1) (tc k0) N.toNatClampNeg n.toNatClampNeg (defaultValue ty) N.toNatClampNeg j hj
        rw [hF, hTh, hin] at this
        exact this
      rw [qouter] at f2
      obtain ⟨hn9, hea⟩ := hH.mul (H1 := F.heap) (N := N.toNatClampNeg) ham hk1 hk0 rfl (by split <;> rfl) e0 f2 hrow f1 hold
      have K := kk A F.heap locs (nc + 1 + N.toNatClampNeg) (ns + N.toNatClampNeg + N.toNatClampNeg * n.toNatClampNeg) hlr hn9 ⟨by rw [f1]; have := hS.1; omega, fun x h1 h2 => (hold x (Nat.lt_of_lt_of_le h1 hS.1)).trans (hS.2.1 x h1 h2), hS.2.2⟩ (by show nc + 1 + _ + h.1 = nc + (h.1 + 1 + _); omega) (by show _ = ns + (h.2.1 + _ + _); omega)
      change (W p l e R s m args below meth c F.heap locs (nc + 1 + N.toNatClampNeg) (ns + N.toNatClampNeg + N.toNatClampNeg * n.toNatClampNeg) Q (F0 m (pc + 4) A (Value.ref (am h.1) :: r.map (qV am)))) at K
      rw [hea] at K
      obtain ⟨t, a1, b1⟩ := K F rfl X'
      refine ⟨t, step t ?_, b1⟩
      have e9 : T.heap.size = H.size := by rw [hT]
      rw [e9]
      exact a1
    · cases hs
  · cases hs
theorem qs_multianewarray {z w : Nat} (hx : p.tables.exec = Jvm.exec) (hb : c.code = cc) (hlr : qLR am ls A nL) (ham : ∀ i, am (i + 2) = base + i) (hK : qKS dC dI tc s) (hH : qHR am dC dI tc base L xs h H) (hS : va_S (fun q => base ≤ q) s.heap H locs) (hts : ∀ w ∈ qWall, w.before args s = true) (hown : s.vm.findClass (qR (qown k)) = some m.cls) (hcap : nc + g.2.2.2.1 ≤ R.cells + h.1) (hcapS : ns + g.2.2.2.2.1 ≤ R.slots + h.2.1) (hd : decode cc pc = .ok (.multianewarray z w, 4)) (hs : qStep d k pc ls st h (.multianewarray z w) = some (.inl g)) : (∀ B H1 locs1 nc1 ns1, qLR am g.2.1 B nL → qHR am dC dI tc base L xs g.2.2.2 H1 → va_S (fun q => base ≤ q) s.heap H1 locs1 → nc1 + h.1 = nc + g.2.2.2.1 → ns1 + h.2.1 = ns + g.2.2.2.2.1 → (W p l e R s m args below meth c H1 locs1 nc1 ns1 Q (F0 m g.1 B (g.2.2.1.map (qV am))))) → (W p l e R s m args below meth c H locs nc ns Q (F0 m pc A (st.map (qV am)))) := by
  rcases w with _ | _ | _ | w
  · simp only [qStep] at hs
    cases hs
  · simp only [qStep] at hs
    cases hs
  · change qStep d k pc ls st h (.multianewarray z 2) = some (.inl g) at hs
    simp only [qStep] at hs
    split at hs
    · rename_i hq
      obtain ⟨q1, q2⟩ := hq
      subst q2
      exact qs_newM (k0 := 0) (k1 := 6) (ty := .int) (dv := id) hx hb hlr ham hK hH hS hts hown hcap hcapS hd hs (by rw [q1]; exact hts _ qcl_2) hK.2.2.2.2.1 (hts _ qac_int) (hK.1.2 6 _ rfl).2 (hK.1.2 0 _ rfl).2 (by decide) rfl rfl (Nat.le_of_ble_eq_true rfl) (Nat.le_of_ble_eq_true rfl) rfl (fun c9 M => arrV_new c9 M _)
    · split at hs
      · rename_i hq
        refine qs_newM (k0 := 2) (k1 := 7) (ty := .long) (dv := id) hx hb hlr ham hK hH hS hts hown hcap hcapS hd hs ?_ hK.2.2.2.2.2 (hts _ qac_long) (hK.1.2 7 _ rfl).2 (hK.1.2 2 _ rfl).2 (by decide) rfl rfl (Nat.le_of_ble_eq_true rfl) (Nat.le_of_ble_eq_true rfl) rfl (fun c9 M => arrV_new c9 M _)
        rcases hq with ⟨q1, q2⟩ | ⟨q1, q2⟩
        · subst q2
          rw [q1]
          exact hts _ qcl_6
        · subst q2
          rw [q1]
          exact hts _ qcl_7
      · cases hs
  · simp only [qStep] at hs
    cases hs
end QM2
