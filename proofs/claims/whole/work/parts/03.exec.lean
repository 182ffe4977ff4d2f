/-! A pure machine for the law's, the class's and the reference's bytecode: cells by number, answers by a function. -/
/-- pure cells: an array (kind, length, contents) or an object (class, fields) -/
abbrev qC : Type := (Nat × vp_A) ⊕ (Nat × List Value)
/-- pure heap: next number, slots made, cells -/
abbrev qH : Type := Nat × Nat × (Nat → Option qC)
abbrev qL : Type := List (Option Value)
def qm (k : Nat) : Nat × MethodName × ByteArray × Nat × Option FieldType × Nat × List (Nat × Instr × Nat) := qM.getD k (0, ⟨"", "", ""⟩, ⟨#[]⟩, 0, none, 0, [])
def qown (k : Nat) : Nat := (qm k).1
def qnm (k : Nat) : MethodName := (qm k).2.1
def qby (k : Nat) : ByteArray := (qm k).2.2.1
def qmx (k : Nat) : Nat := (qm k).2.2.2.1
def qrt (k : Nat) : Option FieldType := (qm k).2.2.2.2.1
def qcd (k pc : Nat) : Option (Instr × Nat) := (qm k).2.2.2.2.2.2.lookup pc
def qF_ (c i : Nat) : Option (Nat × Nat × Nat × Bool) := (qF.getD c []).lookup i
def qK_ (c i : Nat) : Option (Nat × Nat × Nat × Nat × Nat × Nat × Nat) := (qK.getD c []).lookup i
def qN_ (c i : Nat) : Option (Nat × Nat × Nat × Nat) := (qN.getD c []).lookup i
def qI_ (c i : Nat) : Option (Int32 × Nat) := (qI.getD c []).lookup i
def qJ_ (c i : Nat) : Option (Int64 × Nat) := (qJ.getD c []).lookup i
def qty (c j : Nat) : FieldType := (qTys.getD c []).getD j .int
def qfin (c j : Nat) : Bool := ((qCl.getD c ("", fun _ => ("", "", "", false), 0)).2.1 j).2.2.2
def qini (k : Nat) : Bool := qInit.contains k
def qup (f : Nat → Option qC) (a : Nat) (c : qC) : Nat → Option qC := fun j => if j = a then some c else f j
def qset (h : qH) (a : Nat) (c : qC) : qH := (h.1, h.2.1, qup h.2.2 a c)
def qnew (h : qH) (n : Nat) (c : qC) : qH := (h.1 + 1, h.2.1 + n, qup h.2.2 h.1 c)
def qrow (h : qH) (k n : Nat) : Nat → Nat → Option qC := fun N j => if h.1 < j ∧ j < h.1 + 1 + N then some (.inl (k, n, if k = 0 then .inl (fun _ => 0) else .inr (.inl (fun _ => 0)))) else h.2.2 j
/-- an array of N arrays of n numbers: kind 6 of kind 0, kind 7 of kind 2 -/
def qmul (h : qH) (k N n : Nat) : qH := (h.1 + 1 + N, h.2.1 + N + N * n, qup (qrow h (if k = 6 then 0 else 2) n N) h.1 (.inl (k, N, .inr (.inr (.inr (.inr (fun i => if i < N then some (h.1 + 1 + i) else none)))))))
def qkill (ls : qL) : Nat → qL
  | 0 => ls
  | j + 1 => match ls[j]? with
    | some (some v) => if v.category = 2 then ls.set j none else ls
    | _ => ls
def qput1 (ls : qL) (i : Nat) (v : Value) : qL := (qkill ls i).set i (some v)
def qput2 (ls : qL) (i : Nat) (v : Value) : qL := ((qkill ls i).set i (some v)).set (i + 1) none
def qfit (ty : FieldType) (v : Value) : Bool := match ty, v with
  | .int, .int _ => true
  | .long, .long _ => true
  | .boolean, .int x => decide (x = 0 ∨ x = 1)
  | .object _, .ref _ => true
  | .object _, .null => true
  | .array _, .ref _ => true
  | .array _, .null => true
  | _, _ => false
def qcat (r : List Value) : Nat := (r.map fun v => v.category).sum
/-- what one step comes to: the same frame further on, an end, or a call -/
abbrev qO_ : Type := (Nat × qL × List Value × qH) ⊕ ((Option Value) ⊕ (Nat × List Value × List Value))
def qgo (ls : qL) (st : List Value) (h : qH) (pc : Nat) : Option qO_ := some (.inl (pc, ls, st, h))
def qto (pc : Nat) (off : Int) (f : Nat → Option qO_) : Option qO_ := match (pc : Int) + off with
  | .ofNat t => f t
  | .negSucc _ => none
def qbr (c : ClassFile.Cond) (x y : Int32) (a b : Option qO_) : Option qO_ := match c with
  | .eq => if x = y then a else b
  | .ne => if x = y then b else a
  | .lt => if x < y then a else b
  | .ge => if y ≤ x then a else b
  | .gt => if y < x then a else b
  | .le => if x ≤ y then a else b
def qld (ls : qL) (i : Nat) (f : Value → Option qO_) : Option qO_ := match ls[i]? with
  | some (some v) => f v
  | _ => none
def qldI (ls : qL) (st : List Value) (h : qH) (i pc : Nat) : Option qO_ := qld ls i fun v => match v with
  | .int x => qgo ls (.int x :: st) h pc
  | _ => none
def qldL (ls : qL) (st : List Value) (h : qH) (i pc : Nat) : Option qO_ := qld ls i fun v => match v with
  | .long x => qgo ls (.long x :: st) h pc
  | _ => none
def qldA (ls : qL) (st : List Value) (h : qH) (i pc : Nat) : Option qO_ := qld ls i fun v => match v with
  | .ref x => qgo ls (.ref x :: st) h pc
  | .null => qgo ls (.null :: st) h pc
  | _ => none
def qstI (ls : qL) (st : List Value) (h : qH) (i pc : Nat) : Option qO_ := match st with
  | .int x :: r => if i < ls.length then qgo (qput1 ls i (.int x)) r h pc else none
  | _ => none
def qstL (ls : qL) (st : List Value) (h : qH) (i pc : Nat) : Option qO_ := match st with
  | .long x :: r => if i + 1 < ls.length then qgo (qput2 ls i (.long x)) r h pc else none
  | _ => none
def qstA (ls : qL) (st : List Value) (h : qH) (i pc : Nat) : Option qO_ := match st with
  | .ref x :: r => if i < ls.length then qgo (qput1 ls i (.ref x)) r h pc else none
  | .null :: r => if i < ls.length then qgo (qput1 ls i .null) r h pc else none
  | _ => none
def qii (st : List Value) (f : Int32 → Int32 → List Value → Option qO_) : Option qO_ := match st with
  | .int y :: .int x :: r => f x y r
  | _ => none
def qll (st : List Value) (f : Int64 → Int64 → List Value → Option qO_) : Option qO_ := match st with
  | .long y :: .long x :: r => f x y r
  | _ => none
def qi_1 (st : List Value) (f : Int32 → List Value → Option qO_) : Option qO_ := match st with
  | .int x :: r => f x r
  | _ => none
def ql_1 (st : List Value) (f : Int64 → List Value → Option qO_) : Option qO_ := match st with
  | .long x :: r => f x r
  | _ => none
/-- an array's row: its index in range -/
def qix (st : List Value) (h : qH) (f : Nat → Nat → Nat → Nat → vp_A → List Value → Option qO_) : Option qO_ := match st with
  | .int i :: .ref a :: r => match h.2.2 a with
    | some (.inl (k, n, g)) => if 0 ≤ i.toInt ∧ i.toInt < n then f a k n i.toNatClampNeg (n, g) r else none
    | _ => none
  | _ => none
def qcall (k i pc : Nat) (st : List Value) (h : qH) : Option qO_ := match qK_ (qown k) i with
  | some (k2, n, kind, _) =>
    let as := (st.take n).reverse
    if as.length = n then
      match kind with
      | 1 => if qcat (st.drop n) ≤ 8 then some (.inr (.inr (k2, as, st.drop n))) else none
      | 0 => match st.drop n with
        | .ref b :: r => match h.2.2 b with
          | some (.inr (c, _)) => if c = qown k2 ∧ qcat r ≤ 8 then some (.inr (.inr (k2, .ref b :: as, r))) else none
          | _ => none
        | _ => none
      | _ => none
    else none
  | none => none
def qcallI (k i pc : Nat) (ls : qL) (st : List Value) (h : qH) (d : Nat) : Option qO_ :=
  if (qO.getD (qown k) (0, 0)).1 = i then
    match st with
    | .ref _ :: r => if 0 < d ∧ qcat r ≤ 8 ∧ qown k < 13 then qgo ls r h (pc + 3) else none
    | _ => none
  else match qK_ (qown k) i with
  | some (k2, n, kind, _) =>
    let as := (st.take n).reverse
    if as.length = n ∧ (kind = 2 ∨ kind = 3) then
      match st.drop n with
      | .ref b :: r => if qcat r ≤ 8 then some (.inr (.inr (k2, .ref b :: as, r))) else none
      | _ => none
    else none
  | none => none
def qcpy (k i pc : Nat) (ls : qL) (st : List Value) (h : qH) (d : Nat) : Option qO_ := match st with
  | .int n :: .int dp :: .ref a :: .int sp :: .ref a0 :: r => match h.2.2 a0, h.2.2 a with
    | some (.inl (0, n0, .inl f)), some (.inl (0, n1, .inl g)) =>
      if a0 ≠ a ∧ 0 ≤ sp.toInt ∧ 0 ≤ dp.toInt ∧ 0 ≤ n.toInt ∧ sp.toInt + n.toInt ≤ n0 ∧ dp.toInt + n.toInt ≤ n1 ∧ 0 < d ∧ qcat r ≤ 8 then
        qgo ls r (qset h a (.inl (0, n1, .inl (va_cpy f g sp.toNatClampNeg dp.toNatClampNeg n.toNatClampNeg)))) (pc + 3)
      else none
    | _, _ => none
  | _ => none
def qcallS (k i pc : Nat) (ls : qL) (st : List Value) (h : qH) (d : Nat) : Option qO_ :=
  if (qown k = 10 ∧ i = 42) ∨ (qown k = 8 ∧ i = 37) then qcpy k i pc ls st h d
  else match qK_ (qown k) i with
  | some (_, _, 1, _) => qcall k i pc st h
  | _ => none
def qcallV (k i pc : Nat) (st : List Value) (h : qH) : Option qO_ := match qK_ (qown k) i with
  | some (_, _, 0, _) => qcall k i pc st h
  | _ => none
def qend (k : Nat) (st : List Value) : Option qO_ := match qrt k, st with
  | some .int, [.int x] => some (.inr (.inl (some (.int x))))
  | some .boolean, [.int x] => if x = 0 ∨ x = 1 then some (.inr (.inl (some (.int x)))) else none
  | _, _ => none
def qendL (k : Nat) (st : List Value) : Option qO_ := match qrt k, st with
  | some .long, [.long x] => some (.inr (.inl (some (.long x))))
  | _, _ => none
def qendA (k : Nat) (st : List Value) : Option qO_ := match qrt k, st with
  | some (.object _), [.ref x] => some (.inr (.inl (some (.ref x))))
  | some (.object _), [.null] => some (.inr (.inl (some .null)))
  | _, _ => none
def qendV (k : Nat) (st : List Value) : Option qO_ := match qrt k, st with
  | none, [] => some (.inr (.inl none))
  | _, _ => none
def qget (k i pc : Nat) (ls : qL) (st : List Value) (h : qH) : Option qO_ := match qF_ (qown k) i, st with
  | some (c, j, _, _), .ref a :: r => match h.2.2 a with
    | some (.inr (c2, fs)) => if c2 = c then (match fs[j]? with
      | some v => qgo ls (v :: r) h (pc + 3)
      | none => none) else none
    | _ => none
  | _, _ => none
def qputf (k i pc : Nat) (ls : qL) (st : List Value) (h : qH) : Option qO_ := match qF_ (qown k) i, st with
  | some (c, j, _, nest), v :: .ref a :: r => match h.2.2 a with
    | some (.inr (c2, fs)) => if c2 = c ∧ j < fs.length ∧ qfit (qty c j) v = true ∧ (qfin c j = false ∨ (qini k = true ∧ qown k = c ∧ nest = false)) then
        qgo ls r (qset h a (.inr (c, fs.set j v))) (pc + 3) else none
    | _ => none
  | _, _ => none
def qnewA (ls : qL) (st : List Value) (h : qH) (pc k : Nat) (f : vp_A) : Option qO_ := match st with
  | .int n :: r => if 0 ≤ n.toInt ∧ n.toInt ≤ 60000000 then qgo ls (.ref h.1 :: r) (qnew h n.toNatClampNeg (.inl (k, n.toNatClampNeg, f.2))) pc else none
  | _ => none
def qnewM (ls : qL) (st : List Value) (h : qH) (pc k : Nat) : Option qO_ := match st with
  | .int n :: .int N :: r => if 0 ≤ n.toInt ∧ n.toInt ≤ 60000000 ∧ 0 ≤ N.toInt ∧ N.toInt ≤ 60000000 then qgo ls (.ref h.1 :: r) (qmul h k N.toNatClampNeg n.toNatClampNeg) pc else none
  | _ => none
def qStep (d k pc : Nat) (ls : qL) (st : List Value) (h : qH) (i : Instr) : Option qO_ := match i with
  | .iconst n => qgo ls (.int (Int32.ofInt n) :: st) h (pc + 1)
  | .bipush n => qgo ls (.int (Int8.ofInt n).toInt32 :: st) h (pc + 2)
  | .sipush n => qgo ls (.int (Int16.ofInt n).toInt32 :: st) h (pc + 3)
  | .lconst n => qgo ls (.long (Int64.ofNat (n : Nat)) :: st) h (pc + 1)
  | .aconst_null => qgo ls (.null :: st) h (pc + 1)
  | .ldc i => match qI_ (qown k) i with
    | some (v, _) => qgo ls (.int v :: st) h (pc + 2)
    | none => none
  | .ldc_w i => match qI_ (qown k) i with
    | some (v, _) => qgo ls (.int v :: st) h (pc + 3)
    | none => none
  | .ldc2_w i => match qJ_ (qown k) i with
    | some (v, _) => qgo ls (.long v :: st) h (pc + 3)
    | none => none
  | .iload_n n => qldI ls st h n (pc + 1)
  | .iload n => qldI ls st h n (pc + 2)
  | .lload_n n => qldL ls st h n (pc + 1)
  | .lload n => qldL ls st h n (pc + 2)
  | .aload_n n => qldA ls st h n (pc + 1)
  | .aload n => qldA ls st h n (pc + 2)
  | .istore_n n => qstI ls st h n (pc + 1)
  | .istore n => qstI ls st h n (pc + 2)
  | .lstore_n n => qstL ls st h n (pc + 1)
  | .lstore n => qstL ls st h n (pc + 2)
  | .astore_n n => qstA ls st h n (pc + 1)
  | .astore n => qstA ls st h n (pc + 2)
  | .iinc j n => qld ls j fun v => match v with
    | .int x => if j < ls.length then qgo (qput1 ls j (.int (x + Int32.ofInt n))) st h (pc + 3) else none
    | _ => none
  | .iadd => qii st fun x y r => qgo ls (.int (x + y) :: r) h (pc + 1)
  | .isub => qii st fun x y r => qgo ls (.int (x - y) :: r) h (pc + 1)
  | .imul => qii st fun x y r => qgo ls (.int (x * y) :: r) h (pc + 1)
  | .iand => qii st fun x y r => qgo ls (.int (x &&& y) :: r) h (pc + 1)
  | .ior => qii st fun x y r => qgo ls (.int (x ||| y) :: r) h (pc + 1)
  | .ixor => qii st fun x y r => qgo ls (.int (x ^^^ y) :: r) h (pc + 1)
  | .idiv => qii st fun x y r => if y = 0 then none else qgo ls (.int (x / y) :: r) h (pc + 1)
  | .irem => qii st fun x y r => if y = 0 then none else qgo ls (.int (x - x / y * y) :: r) h (pc + 1)
  | .ishl => qii st fun x y r => qgo ls (.int (x <<< (y &&& 31)) :: r) h (pc + 1)
  | .ishr => qii st fun x y r => qgo ls (.int (x >>> (y &&& 31)) :: r) h (pc + 1)
  | .iushr => qii st fun x y r => qgo ls (.int (x.toUInt32 >>> (y.toUInt32 &&& Int32.toUInt32 31)).toInt32 :: r) h (pc + 1)
  | .ineg => qi_1 st fun x r => qgo ls (.int (-x) :: r) h (pc + 1)
  | .i2l => qi_1 st fun x r => qgo ls (.long x.toInt64 :: r) h (pc + 1)
  | .i2b => qi_1 st fun x r => qgo ls (.int x.toInt8.toInt32 :: r) h (pc + 1)
  | .ladd => qll st fun x y r => qgo ls (.long (x + y) :: r) h (pc + 1)
  | .lsub => qll st fun x y r => qgo ls (.long (x - y) :: r) h (pc + 1)
  | .lmul => qll st fun x y r => qgo ls (.long (x * y) :: r) h (pc + 1)
  | .ldiv => qll st fun x y r => if y = 0 then none else qgo ls (.long (x / y) :: r) h (pc + 1)
  | .lrem => qll st fun x y r => if y = 0 then none else qgo ls (.long (x - x / y * y) :: r) h (pc + 1)
  | .lcmp => qll st fun x y r => qgo ls (.int (lg_cmp x y) :: r) h (pc + 1)
  | .lneg => ql_1 st fun x r => qgo ls (.long (-x) :: r) h (pc + 1)
  | .l2i => ql_1 st fun x r => qgo ls (.int x.toInt32 :: r) h (pc + 1)
  | .dup => match st with
    | v :: r => if v.category = 1 then qgo ls (v :: v :: r) h (pc + 1) else none
    | [] => none
  | .dup2 => match st with
    | v :: r => if v.category = 2 then qgo ls (v :: v :: r) h (pc + 1) else (match r with
      | w :: r2 => if w.category = 1 then qgo ls (v :: w :: v :: w :: r2) h (pc + 1) else none
      | [] => none)
    | [] => none
  | .goto o => qto pc o (qgo ls st h)
  | .ifCond c o => qi_1 st fun x r => qto pc o fun t => qbr c x 0 (qgo ls r h t) (qgo ls r h (pc + 3))
  | .if_icmp c o => qii st fun x y r => qto pc o fun t => qbr c x y (qgo ls r h t) (qgo ls r h (pc + 3))
  | .ifnull o => match st with
    | .null :: r => qto pc o (qgo ls r h)
    | .ref _ :: r => qgo ls r h (pc + 3)
    | _ => none
  | .ifnonnull o => match st with
    | .ref _ :: r => qto pc o (qgo ls r h)
    | .null :: r => qgo ls r h (pc + 3)
    | _ => none
  | .tableswitch dflt lo hi offs => qi_1 st fun x r => if x.toInt < lo ∨ hi < x.toInt then qto pc dflt (qgo ls r h) else (match offs[(x.toInt - lo).toNat]? with
    | some o => qto pc o (qgo ls r h)
    | none => none)
  | .lookupswitch dflt ps => qi_1 st fun x r => if (ps.toList.zip (ps.toList.drop 1)).all (fun (a, next) => a.1 < next.1) = true then qto pc (Op.lookupswitch.offset ps.toList dflt x.toInt) (qgo ls r h) else none
  | .getfield i => qget k i pc ls st h
  | .putfield i => qputf k i pc ls st h
  | .getstatic i => if qown k = 10 ∧ i = 107 then qgo ls (.ref 1 :: st) h (pc + 3) else none
  | .iaload => qix st h fun _ t _ j g r => match g with
    | (_, .inl f) => if t = 0 ∨ t = 8 then qgo ls (.int (f j) :: r) h (pc + 1) else none
    | _ => none
  | .baload => qix st h fun _ t _ j g r => match g with
    | (_, .inl f) => if t = 1 ∨ t = 3 then qgo ls (.int (f j) :: r) h (pc + 1) else none
    | _ => none
  | .caload => qix st h fun _ t _ j g r => match g with
    | (_, .inl f) => if t = 9 then qgo ls (.int (f j) :: r) h (pc + 1) else none
    | _ => none
  | .laload => qix st h fun _ t _ j g r => match g with
    | (_, .inr (.inl f)) => if t = 2 then qgo ls (.long (f j) :: r) h (pc + 1) else none
    | _ => none
  | .aaload => qix st h fun _ t _ j g r => match g with
    | (_, .inr (.inr (.inr (.inr f)))) => if t = 5 ∨ t = 6 ∨ t = 7 then (match f j with
      | some x => qgo ls (.ref x :: r) h (pc + 1)
      | none => qgo ls (.null :: r) h (pc + 1)) else none
    | _ => none
  | .iastore => match st with
    | .int x :: st => qix st h fun a t n j g r => match g with
      | (_, .inl f) => if t = 0 then qgo ls r (qset h a (.inl (0, n, .inl (upd f j x)))) (pc + 1) else none
      | _ => none
    | _ => none
  | .bastore => match st with
    | .int x :: st => qix st h fun a t n j g r => match g with
      | (_, .inl f) => if t = 3 then qgo ls r (qset h a (.inl (3, n, .inl (upd f j x.toInt8.toInt32)))) (pc + 1)
        else if t = 1 ∧ (x = 0 ∨ x = 1) then qgo ls r (qset h a (.inl (1, n, .inl (upd f j x)))) (pc + 1) else none
      | _ => none
    | _ => none
  | .lastore => match st with
    | .long x :: st => qix st h fun a t n j g r => match g with
      | (_, .inr (.inl f)) => if t = 2 then qgo ls r (qset h a (.inl (2, n, .inr (.inl (vp_updL f j x))))) (pc + 1) else none
      | _ => none
    | _ => none
  | .aastore => match st with
    | .ref v :: st => (match h.2.2 v with
      | some (.inr (8, _)) => qix st h fun a t n j g r => match g with
        | (_, .inr (.inr (.inr (.inr f)))) => if t = 5 then qgo ls r (qset h a (.inl (5, n, .inr (.inr (.inr (.inr (va_up f j (some v)))))))) (pc + 1) else none
        | _ => none
      | _ => none)
    | _ => none
  | .arraylength => match st with
    | .ref a :: r => (match h.2.2 a with
      | some (.inl (_, n, _)) => qgo ls (.int (Int32.ofNat n) :: r) h (pc + 1)
      | _ => none)
    | _ => none
  | .newarray .int => qnewA ls st h (pc + 2) 0 (0, .inl fun _ => 0)
  | .newarray .boolean => qnewA ls st h (pc + 2) 1 (0, .inl fun _ => 0)
  | .newarray .long => qnewA ls st h (pc + 2) 2 (0, .inr (.inl fun _ => 0))
  | .newarray .byte => qnewA ls st h (pc + 2) 3 (0, .inl fun _ => 0)
  | .anewarray i => if qown k = 11 ∧ i = 16 then qnewA ls st h (pc + 3) 5 (0, .inr (.inr (.inr (.inr fun _ => none)))) else none
  | .multianewarray i 2 => if qown k = 2 ∧ i = 30 then qnewM ls st h (pc + 4) 6
    else if (qown k = 6 ∧ i = 25) ∨ (qown k = 7 ∧ i = 37) then qnewM ls st h (pc + 4) 7 else none
  | .new i => match qN_ (qown k) i with
    | some (c, _) => qgo ls (.ref h.1 :: st) (qnew h (qTys.getD c []).length (.inr (c, (qTys.getD c []).map defaultValue))) (pc + 3)
    | none => none
  | .invokevirtual i => qcallV k i pc st h
  | .invokestatic i => qcallS k i pc ls st h d
  | .invokespecial i => qcallI k i pc ls st h d
  | .ireturn => qend k st
  | .lreturn => qendL k st
  | .areturn => qendA k st
  | .return_ => qendV k st
  | _ => none
/-- a method's locals at its entry -/
def qent (k : Nat) (as : List Value) : Option qL :=
  let l : qL := as.flatMap fun v => if v.category = 2 then [some v, none] else [some v]
  if l.length ≤ qmx k ∧ qmx k ≤ 22 then some (l ++ List.replicate (qmx k - l.length) none) else none
/-- fuel, frames left, method, place, locals, stack, heap -/
def qExec : Nat → Nat → Nat → Nat → qL → List Value → qH → Option (Option Value × qH)
  | 0, _, _, _, _, _, _ => none
  | n + 1, d, k, pc, ls, st, h => match qcd k pc with
    | none => none
    | some (i, _) => match qStep d k pc ls st h i with
      | none => none
      | some (.inl (pc2, ls2, st2, h2)) => qExec n d k pc2 ls2 st2 h2
      | some (.inr (.inl v)) => some (v, h)
      | some (.inr (.inr (k2, as, r))) => match d with
        | 0 => none
        | d2 + 1 => match qent k2 as with
          | none => none
          | some l2 => match qExec n d2 k2 0 l2 [] h with
            | none => none
            | some (v, h2) => qExec n (d2 + 1) k (pc + 3) ls (v.toList ++ r) h2
