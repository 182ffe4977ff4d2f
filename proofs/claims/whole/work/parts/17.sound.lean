/-! The whole: every run of the pure machine is a walk of the machine. -/
theorem qdl {b : ByteArray} {pc n : Nat} {i : Instr} (hd : decode b pc = .ok (i, n)) (hlen : qlen i = 0 ∨ qlen i = n) (h0 : Nat.beq (qlen i) 0 = false) : decode b pc = .ok (i, qlen i) := by
  rcases hlen with q | q
  · rw [q] at h0
    cases h0
  · rw [q]
    exact hd
section QMA
variable {p : Program} {l : Launch} {e : Env} {R : Room} {s : State} {m : MethodId} {args : Array Value} {below : List Frame} {meth : Method} {c : Code} {H : Heap} {locs : List Loc} {nc ns : Nat} {Q : State → Prop}
variable {cc : ByteArray} {d k pc nL n : Nat} {A : Array Slot} {am : Nat → Nat} {ls : qL} {st : List Value} {h : qH} {g : Nat × qL × List Value × qH} {i : Instr}
variable {dC : Nat → ClassId} {dI : Nat → Nat → Nat} {tc : Nat → ClassId} {base L : Nat} {xs : Nat → Int32}
theorem qC1 (hH : qHR am dC dI tc base L xs h H) (hS : va_S (fun q => base ≤ q) s.heap H locs) (h1 : g.2.2.2 = h ∧ ((∀ B, qLR am g.2.1 B nL → (W p l e R s m args below meth c H locs nc ns Q (F0 m g.1 B (g.2.2.1.map (qV am))))) → (W p l e R s m args below meth c H locs nc ns Q (F0 m pc A (st.map (qV am)))))) : (∀ B H1 locs1 nc1 ns1, qLR am g.2.1 B nL → qHR am dC dI tc base L xs g.2.2.2 H1 → va_S (fun q => base ≤ q) s.heap H1 locs1 → nc1 + h.1 = nc + g.2.2.2.1 → ns1 + h.2.1 = ns + g.2.2.2.2.1 → (W p l e R s m args below meth c H1 locs1 nc1 ns1 Q (F0 m g.1 B (g.2.2.1.map (qV am))))) → (W p l e R s m args below meth c H locs nc ns Q (F0 m pc A (st.map (qV am)))) :=
  fun kk => h1.2 (fun B hB => kk B H locs nc ns hB (by rw [h1.1]; exact hH) hS (by rw [h1.1]) (by rw [h1.1]))
theorem qstepL (hx : p.tables.exec = Jvm.exec) (hb : c.code = cc) (hlr : qLR am ls A nL) (ham : ∀ i, am (i + 2) = base + i) (hK : qKS dC dI tc s) (hH : qHR am dC dI tc base L xs h H) (hS : va_S (fun q => base ≤ q) s.heap H locs) (hZ : qHS am base L xs s s.heap) (hts : ∀ w ∈ qWall, w.before args s = true) (hown : s.vm.findClass (qR (qown k)) = some m.cls) (hcap : nc + g.2.2.2.1 ≤ R.cells + h.1) (hcapS : ns + g.2.2.2.2.1 ≤ R.slots + h.2.1) (hini : qini k = true → meth.name = "<init>") (hml : c.maxLocals = A.size) (hfr : d ≤ R.frames) (hlo : 41 * d ≤ R.locals) (hd : decode cc pc = .ok (i, n)) (hlen : qlen i = 0 ∨ qlen i = n) (hs : qStep d k pc ls st h i = some (.inl g)) : (∀ B H1 locs1 nc1 ns1, qLR am g.2.1 B nL → qHR am dC dI tc base L xs g.2.2.2 H1 → va_S (fun q => base ≤ q) s.heap H1 locs1 → nc1 + h.1 = nc + g.2.2.2.1 → ns1 + h.2.1 = ns + g.2.2.2.2.1 → (W p l e R s m args below meth c H1 locs1 nc1 ns1 Q (F0 m g.1 B (g.2.2.1.map (qV am))))) → (W p l e R s m args below meth c H locs nc ns Q (F0 m pc A (st.map (qV am)))) := by
  cases i with
  | iconst z => exact qC1 hH hS (qs_iconst hx hb hlr (qdl hd hlen rfl) hs)
  | bipush z => exact qC1 hH hS (qs_bipush hx hb hlr (qdl hd hlen rfl) hs)
  | sipush z => exact qC1 hH hS (qs_sipush hx hb hlr (qdl hd hlen rfl) hs)
  | lconst z => exact qC1 hH hS (qs_lconst hx hb hlr (qdl hd hlen rfl) hs)
  | iload_n z => exact qC1 hH hS (qs_iload_n hx hb hlr (qdl hd hlen rfl) hs)
  | iload z => exact qC1 hH hS (qs_iload hx hb hlr (qdl hd hlen rfl) hs)
  | lload_n z => exact qC1 hH hS (qs_lload_n hx hb hlr (qdl hd hlen rfl) hs)
  | lload z => exact qC1 hH hS (qs_lload hx hb hlr (qdl hd hlen rfl) hs)
  | aload_n z => exact qC1 hH hS (qs_aload_n hx hb hlr (qdl hd hlen rfl) hs)
  | aload z => exact qC1 hH hS (qs_aload hx hb hlr (qdl hd hlen rfl) hs)
  | istore_n z => exact qC1 hH hS (qs_istore_n hx hb hlr (qdl hd hlen rfl) hs)
  | istore z => exact qC1 hH hS (qs_istore hx hb hlr (qdl hd hlen rfl) hs)
  | lstore_n z => exact qC1 hH hS (qs_lstore_n hx hb hlr (qdl hd hlen rfl) hs)
  | lstore z => exact qC1 hH hS (qs_lstore hx hb hlr (qdl hd hlen rfl) hs)
  | astore_n z => exact qC1 hH hS (qs_astore_n hx hb hlr (qdl hd hlen rfl) hs)
  | astore z => exact qC1 hH hS (qs_astore hx hb hlr (qdl hd hlen rfl) hs)
  | iinc z w => exact qC1 hH hS (qs_iinc hx hb hlr (qdl hd hlen rfl) hs)
  | iadd  => exact qC1 hH hS (qs_iadd hx hb hlr (qdl hd hlen rfl) hs)
  | isub  => exact qC1 hH hS (qs_isub hx hb hlr (qdl hd hlen rfl) hs)
  | imul  => exact qC1 hH hS (qs_imul hx hb hlr (qdl hd hlen rfl) hs)
  | iand  => exact qC1 hH hS (qs_iand hx hb hlr (qdl hd hlen rfl) hs)
  | ior  => exact qC1 hH hS (qs_ior hx hb hlr (qdl hd hlen rfl) hs)
  | ixor  => exact qC1 hH hS (qs_ixor hx hb hlr (qdl hd hlen rfl) hs)
  | ishl  => exact qC1 hH hS (qs_ishl hx hb hlr (qdl hd hlen rfl) hs)
  | ishr  => exact qC1 hH hS (qs_ishr hx hb hlr (qdl hd hlen rfl) hs)
  | iushr  => exact qC1 hH hS (qs_iushr hx hb hlr (qdl hd hlen rfl) hs)
  | idiv  => exact qC1 hH hS (qs_idiv hx hb hlr (qdl hd hlen rfl) hs)
  | irem  => exact qC1 hH hS (qs_irem hx hb hlr (qdl hd hlen rfl) hs)
  | ladd  => exact qC1 hH hS (qs_ladd hx hb hlr (qdl hd hlen rfl) hs)
  | lsub  => exact qC1 hH hS (qs_lsub hx hb hlr (qdl hd hlen rfl) hs)
  | lmul  => exact qC1 hH hS (qs_lmul hx hb hlr (qdl hd hlen rfl) hs)
  | lcmp  => exact qC1 hH hS (qs_lcmp hx hb hlr (qdl hd hlen rfl) hs)
  | ldiv  => exact qC1 hH hS (qs_ldiv hx hb hlr (qdl hd hlen rfl) hs)
  | lrem  => exact qC1 hH hS (qs_lrem hx hb hlr (qdl hd hlen rfl) hs)
  | ineg  => exact qC1 hH hS (qs_ineg hx hb hlr (qdl hd hlen rfl) hs)
  | lneg  => exact qC1 hH hS (qs_lneg hx hb hlr (qdl hd hlen rfl) hs)
  | i2l  => exact qC1 hH hS (qs_i2l hx hb hlr (qdl hd hlen rfl) hs)
  | i2b  => exact qC1 hH hS (qs_i2b hx hb hlr (qdl hd hlen rfl) hs)
  | l2i  => exact qC1 hH hS (qs_l2i hx hb hlr (qdl hd hlen rfl) hs)
  | dup  => exact qC1 hH hS (qs_dup hx hb hlr (qdl hd hlen rfl) hs)
  | dup2  => exact qC1 hH hS (qs_dup2 hx hb hlr (qdl hd hlen rfl) hs)
  | goto z => exact qC1 hH hS (qs_goto hx hb hlr (qdl hd hlen rfl) hs)
  | ifCond w z => exact qC1 hH hS (qs_ifCond hx hb hlr (qdl hd hlen rfl) hs)
  | if_icmp w z => exact qC1 hH hS (qs_if_icmp hx hb hlr (qdl hd hlen rfl) hs)
  | ifnull z => exact qC1 hH hS (qs_ifnull hx hb hlr (qdl hd hlen rfl) hs)
  | ifnonnull z => exact qC1 hH hS (qs_ifnonnull hx hb hlr (qdl hd hlen rfl) hs)
  | aconst_null => exact qC1 hH hS (qs_null hx hb hlr (qdl hd hlen rfl) hs)
  | tableswitch z lo hi offs => exact qC1 hH hS (qs_tableswitch hx hb hlr hd hs)
  | lookupswitch z ps => exact qC1 hH hS (qs_lookupswitch hx hb hlr hd hs)
  | ldc z => exact qC1 hH hS (qs_ldc hx hb hlr ham hK hH hS hts hown (qdl hd hlen rfl) hs)
  | ldc_w z => exact qC1 hH hS (qs_ldc_w hx hb hlr ham hK hH hS hts hown (qdl hd hlen rfl) hs)
  | ldc2_w z => exact qC1 hH hS (qs_ldc2_w hx hb hlr ham hK hH hS hts hown (qdl hd hlen rfl) hs)
  | getstatic z => exact qC1 hH hS (qs_getstatic hx hb hlr ham hK hH hS hZ hts hown (qdl hd hlen rfl) hs)
  | iaload => exact qC1 hH hS (qs_iaload hx hb hlr ham hK hH hS hZ (qdl hd hlen rfl) hs)
  | baload => exact qC1 hH hS (qs_baload hx hb hlr ham hK hH hS hZ (qdl hd hlen rfl) hs)
  | laload => exact qC1 hH hS (qs_laload hx hb hlr ham hK hH hS hZ (qdl hd hlen rfl) hs)
  | caload => exact qC1 hH hS (qs_caload hx hb hlr ham hK hH hS hZ (qdl hd hlen rfl) hs)
  | arraylength => exact qC1 hH hS (qs_arraylength hx hb hlr ham hK hH hS hZ (qdl hd hlen rfl) hs)
  | aaload => exact qC1 hH hS (qs_aaload hx hb hlr ham hK hH hS (qdl hd hlen rfl) hs)
  | getfield z => exact qC1 hH hS (qs_getfield hx hb hlr ham hK hH hS hts hown (qdl hd hlen rfl) hs)
  | iastore => exact qs_iastore hx hb hlr ham hK hH hS (qdl hd hlen rfl) hs
  | lastore => exact qs_lastore hx hb hlr ham hK hH hS (qdl hd hlen rfl) hs
  | bastore => exact qs_bastore hx hb hlr ham hK hH hS (qdl hd hlen rfl) hs
  | aastore => exact qs_aastore hx hb hlr ham hK hH hS (qdl hd hlen rfl) hs
  | putfield z => exact qs_putfield hx hb hlr ham hK hH hS hts hown hini (qdl hd hlen rfl) hs
  | new z => exact qs_new hx hb hlr ham hK hH hS hts hown hcap hcapS (qdl hd hlen rfl) hs
  | anewarray z => exact qs_anewarray hx hb hlr ham hK hH hS hts hown hcap hcapS (qdl hd hlen rfl) hs
  | multianewarray z w => exact qs_multianewarray hx hb hlr ham hK hH hS hts hown hcap hcapS (qdl hd hlen rfl) hs
  | newarray z =>
    cases z with
    | int => exact qs_newarray_int hx hb hlr ham hK hH hS hts hown hcap hcapS (qdl hd hlen rfl) hs
    | boolean => exact qs_newarray_boolean hx hb hlr ham hK hH hS hts hown hcap hcapS (qdl hd hlen rfl) hs
    | long => exact qs_newarray_long hx hb hlr ham hK hH hS hts hown hcap hcapS (qdl hd hlen rfl) hs
    | byte => exact qs_newarray_byte hx hb hlr ham hK hH hS hts hown hcap hcapS (qdl hd hlen rfl) hs
    | _ => exact absurd (show (none : Option qO_) = some (.inl g) from hs) (by intro q; cases q)
  | ireturn =>
    have hs : qend k st = some (.inl g) := hs
    unfold qend at hs
    repeat' split at hs
    all_goals cases hs
  | lreturn =>
    have hs : qendL k st = some (.inl g) := hs
    unfold qendL at hs
    repeat' split at hs
    all_goals cases hs
  | areturn =>
    have hs : qendA k st = some (.inl g) := hs
    unfold qendA at hs
    repeat' split at hs
    all_goals cases hs
  | return_ =>
    have hs : qendV k st = some (.inl g) := hs
    unfold qendV at hs
    repeat' split at hs
    all_goals cases hs
  | invokevirtual z =>
    have hs : qcallV k z pc st h = some (.inl g) := hs
    simp only [qcallV, qcall] at hs
    repeat' split at hs
    all_goals cases hs
  | invokestatic z =>
    have hs : qcallS k z pc ls st h d = some (.inl g) := hs
    unfold qcallS at hs
    split at hs
    · rename_i hq
      exact qs_cpy hx hb hlr ham hK hH hS hts hown (qdl hd hlen rfl) hml hfr hlo hq hs
    · simp only [qcall] at hs
      repeat' split at hs
      all_goals cases hs
  | invokespecial z =>
    have hs : qcallI k z pc ls st h d = some (.inl g) := hs
    unfold qcallI at hs
    split at hs
    · rename_i hz
      split at hs
      · rename_i a r hs9
        split at hs
        · rename_i hq
          obtain ⟨q1, q2, q3⟩ := hq
          simp only [qgo] at hs
          cases hs
          refine qC1 hH hS ⟨rfl, fun kk => ?_⟩
          have hl9 : Cond.methodLink (qR (qown k)) z objectInit ∈ qWall := by rw [← hz]; exact qO_spec q3
          exact W.objInit (g := F0 m pc A (.ref (am a) :: r.map (qV am))) hx hb hown (hts _ hl9) (hts _ qoi_1) (hts _ qoi_2) rfl hml.symm rfl (qdl hd hlen rfl) (by omega) (by show 2 * 0 + _ + 12 ≤ _; rw [qcat_map]; omega) (kk A hlr)
        · cases hs
      · cases hs
    · simp only [] at hs
      repeat' split at hs
      all_goals cases hs
  | _ => exact absurd (show (none : Option qO_) = some (.inl g) from hs) (by intro q; cases q)
end QMA
theorem qexec_inv {n d k pc : Nat} {ls : qL} {st : List Value} {h : qH} {q : Option Value × qH} (hq : qExec (n + 1) d k pc ls st h = some q) : ∃ i z, qcd k pc = some (i, z) ∧
    ((∃ g, qStep d k pc ls st h i = some (.inl g) ∧ qExec n d k g.1 g.2.1 g.2.2.1 g.2.2.2 = some q) ∨ (∃ v, qStep d k pc ls st h i = some (.inr (.inl v)) ∧ q = (v, h)) ∨
      ∃ k2 as r d2 l2 v h2, qStep d k pc ls st h i = some (.inr (.inr (k2, as, r))) ∧ d = d2 + 1 ∧ qent k2 as = some l2 ∧ qExec n d2 k2 0 l2 [] h = some (v, h2) ∧ qExec n d k (pc + 3) ls (v.toList ++ r) h2 = some q) := by
  unfold qExec at hq
  cases hc : qcd k pc with
  | none => rw [hc] at hq; cases hq
  | some i =>
    obtain ⟨i, z⟩ := i
    refine ⟨i, z, rfl, ?_⟩
    rw [hc] at hq
    dsimp only at hq
    cases hs : qStep d k pc ls st h i with
    | none => rw [hs] at hq; cases hq
    | some o =>
      rw [hs] at hq
      rcases o with ⟨pc2, ls2, st2, h2⟩ | v | ⟨k2, as, r⟩
      · exact Or.inl ⟨_, rfl, hq⟩
      · cases hq
        exact Or.inr (Or.inl ⟨_, rfl, rfl⟩)
      · dsimp only at hq
        cases d with
        | zero => cases hq
        | succ d2 =>
          dsimp only at hq
          cases he : qent k2 as with
          | none => rw [he] at hq; cases hq
          | some l2 =>
            rw [he] at hq
            dsimp only at hq
            cases hx : qExec n d2 k2 0 l2 [] h with
            | none => rw [hx] at hq; cases hq
            | some w =>
              obtain ⟨v, h2⟩ := w
              rw [hx] at hq
              exact Or.inr (Or.inr ⟨_, _, _, _, _, _, _, rfl, rfl, he, hx, hq⟩)
/-- what a call's step is -/
theorem qcall_kind {d k pc k2 : Nat} {ls : qL} {st as r : List Value} {h : qH} {i : Instr} (hs : qStep d k pc ls st h i = some (.inr (.inr (k2, as, r)))) :
    ∃ z, (i = .invokevirtual z ∧ ∃ n p1 p2 p3 p4 b as2 fs, qK_ (qown k) z = some (k2, n, 0, p1, p2, p3, p4) ∧ qcat r ≤ 8 ∧ as = .ref b :: as2 ∧ as2.length = n ∧ st = as2.reverse ++ .ref b :: r ∧ h.2.2 b = some (.inr (qown k2, fs))) ∨
      (i = .invokestatic z ∧ ∃ n p1 p2 p3 p4, qK_ (qown k) z = some (k2, n, 1, p1, p2, p3, p4) ∧ qcat r ≤ 8 ∧ as.length = n ∧ st = as.reverse ++ r) ∨
      (i = .invokespecial z ∧ ∃ n kind p1 p2 p3 p4 b as2, qK_ (qown k) z = some (k2, n, kind, p1, p2, p3, p4) ∧ (kind = 2 ∨ kind = 3) ∧ qcat r ≤ 8 ∧ as = .ref b :: as2 ∧ as2.length = n ∧ st = as2.reverse ++ .ref b :: r) := by
  unfold qStep at hs
  split at hs
  all_goals try (simp only [qgo, qldI, qldL, qldA, qld, qstI, qstL, qstA, qii, qll, qi_1, ql_1, qix, qend, qendL, qendA, qendV, qget, qputf, qnewA, qnewM, qto, qbr] at hs; (repeat' split at hs); (all_goals cases hs); done)
  all_goals try (cases hs; done)
  · rename_i z
    refine ⟨z, Or.inl ⟨rfl, ?_⟩⟩
    unfold qcallV at hs
    split at hs
    · rename_i k3 n3 pp hK
      obtain ⟨n, kind, p1, p2, p3, p4, e1, e2, e3 | ⟨e3, b, as2, fs, e4⟩⟩ := qcall_spec hs
      · rw [hK] at e1
        cases e1
        exact absurd e3.1 (by decide)
      · subst e3
        exact ⟨n, p1, p2, p3, p4, b, as2, fs, e1, e2, e4⟩
    · cases hs
  · rename_i z
    refine ⟨z, Or.inr (Or.inl ⟨rfl, ?_⟩)⟩
    unfold qcallS at hs
    split at hs
    · unfold qcpy at hs
      repeat' split at hs
      all_goals try simp only [qgo] at hs
      all_goals cases hs
    · split at hs
      · rename_i k3 n3 pp hK
        obtain ⟨n, kind, p1, p2, p3, p4, e1, e2, ⟨e3, e4⟩ | ⟨e3, e4⟩⟩ := qcall_spec hs
        · subst e3
          exact ⟨n, p1, p2, p3, p4, e1, e2, e4⟩
        · rw [hK] at e1
          cases e1
          exact absurd e3 (by decide)
      · cases hs
  · rename_i z
    refine ⟨z, Or.inr (Or.inr ⟨rfl, ?_⟩)⟩
    obtain ⟨n, kind, p1, p2, p3, p4, e1, e2, e3, b, as2, e4⟩ := qcallI_spec hs
    exact ⟨n, kind, p1, p2, p3, p4, b, as2, e1, e3, e2, e4⟩
theorem qOK_all : ∀ n, qOK n
  | 0 => fun d k pc ls st h r hF hq => by cases hq
  | n + 1 => by
    have IH := qOK_all n
    intro d k pc ls st h r hF hq am dC dI tc base L xs p l e R s m args below meth c Q h0 hf hcapC hcapS hend A H locs nc ns hlr hH hS hc1 hc2
    obtain ⟨i, z, hcd, hcase⟩ := qexec_inv hq
    obtain ⟨hd, hlen, hk⟩ := qcd_spec hcd
    have hf0 := hf
    obtain ⟨hx, hb, hml, hown, hts, hini, hK, hZ, hfr, hlo, ham⟩ := hf
    have hsz : A.size = qmx k := by obtain ⟨_, lv, g1, _⟩ := hlr; exact g1.1
    rcases hcase with ⟨g, hs, hq2⟩ | ⟨v, hs, hq2⟩ | ⟨k2, as, r9, d2, l2, v, h2, hs, rfl, hent, hex, hq2⟩
    · have hm := qmonoX _ _ _ _ _ _ _ _ _ hq2
      have hm1 := qmono hs
      refine qstepL hx hb hlr ham hK hH hS hZ hts hown (by omega) (by omega) hini (by rw [hml, hsz]) hfr hlo hd hlen hs (fun B H1 locs1 nc1 ns1 hB hH1 hS1 e1 e2 => ?_)
      exact IH d k _ _ _ _ r hF hq2 am dC dI tc base L xs p l e R s m args below meth c Q h0 hf0 hcapC hcapS hend B H1 locs1 nc1 ns1 hB hH1 hS1 (by omega) (by omega)
    · cases hq2
      exact hend d pc ls st i z A H locs nc ns hd hlen hs hH hS hc1 hc2
    · have hm1 := qmonoX _ _ _ _ _ _ _ _ _ hex
      have hm2 := qmonoX _ _ _ _ _ _ _ _ _ hq2
      have kk : ∀ H1 locs1, qHR am dC dI tc base L xs h2 H1 → va_S (fun q => base ≤ q) s.heap H1 locs1 → W p l e R s m args below meth c H1 locs1 (nc + (h2.1 - h.1)) (ns + (h2.2.1 - h.2.1)) Q (F0 m (pc + 3) A ((v.toList ++ r9).map (qV am))) := fun H1 locs1 hH1 hS1 =>
        IH (d2 + 1) k _ _ _ _ r hF hq2 am dC dI tc base L xs p l e R s m args below meth c Q h0 hf0 hcapC hcapS hend A H1 locs1 _ _ hlr hH1 hS1 (by omega) (by omega)
      have hRc : nc + (h2.1 - h.1) ≤ R.cells := by omega
      have hRs : ns + (h2.2.1 - h.2.1) ≤ R.slots := by omega
      obtain ⟨z9, ⟨rfl, n9, p1, p2, p3, p4, b, as2, fs, e1, e2, e3, e4, e5, e6⟩ | ⟨rfl, n9, p1, p2, p3, p4, e1, e2, e3, e4⟩ | ⟨rfl, n9, kind, p1, p2, p3, p4, b, as2, e1, e2, e3, e4, e5, e6⟩⟩ := qcall_kind hs
      · have h15 : qown k2 ≠ 15 := fun q => by have := (qK_spec e1).2.2.2.2.1 rfl; omega
        exact qgo_V (kind := 0) IH hf0 hlr hH hS hent hex hRc hRs h15 e1 e2 e3 e4 e5 e6 (qdl hd hlen rfl) kk
      · by_cases h15 : qown k2 = 15
        · exact qgo_M hf0 hlr hH hS hent hex hRc hRs h15 e1 e2 e3 e4 (qdl hd hlen rfl) kk
        · exact qgo_S (kind := 0) IH hf0 hlr hH hS hent hex hRc hRs h15 e1 e2 e3 e4 (qdl hd hlen rfl) kk
      · have h15 : qown k2 ≠ 15 := fun q => by
          have h9 := ((qK_spec e1).2.2.2.1 e2).1
          have hk2 := (qK_spec e1).2.1
          have := qrange q15_all hk2
          unfold q15 at this
          rw [q] at this
          simp only [Bool.or_eq_true, Bool.and_eq_true] at this
          rcases this with w | w
          · cases w
          · have w1 := Nat.le_of_ble_eq_true w.1
            have w2 := Nat.le_of_ble_eq_true w.2
            have : k2 = 4 ∨ k2 = 5 ∨ k2 = 6 ∨ k2 = 7 := by omega
            rcases this with rfl | rfl | rfl | rfl <;> exact absurd h9 (by decide +kernel)
        rcases e2 with rfl | rfl
        · exact qgo_I (kind := 0) IH hf0 hlr hH hS hent hex hRc hRs h15 e1 e3 e4 e5 e6 (qdl hd hlen rfl) kk
        · exact qgo_N (kind := 0) IH hf0 hlr hH hS hent hex hRc hRs h15 e1 e3 e4 e5 e6 (qdl hd hlen rfl) kk
