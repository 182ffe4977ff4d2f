/-! The tables of 02.names are what the Statement's words say. -/
def qlen : Instr → Nat
  | .bipush _ | .ldc _ | .iload _ | .lload _ | .aload _ | .istore _ | .lstore _ | .astore _ | .newarray _ => 2
  | .sipush _ | .ldc_w _ | .ldc2_w _ | .iinc _ _ | .goto _ | .ifCond _ _ | .if_icmp _ _ | .ifnull _ | .ifnonnull _ | .getfield _ | .putfield _ | .getstatic _ | .anewarray _ | .new _ | .invokevirtual _ | .invokestatic _ | .invokespecial _ => 3
  | .multianewarray _ _ => 4
  | .tableswitch _ _ _ _ | .lookupswitch _ _ => 0
  | _ => 1
def qdOk (b : ByteArray) (q : Nat × Instr × Nat) : Bool := (match decode b q.1 with
  | .ok (j, n) => decide (j = q.2.1) && Nat.beq n q.2.2
  | .error _ => false) && (Nat.beq (qlen q.2.1) 0 || Nat.beq (qlen q.2.1) q.2.2)
theorem qdOk_spec {b : ByteArray} {q : Nat × Instr × Nat} (h : qdOk b q = true) : decode b q.1 = .ok (q.2.1, q.2.2) ∧ (qlen q.2.1 = 0 ∨ qlen q.2.1 = q.2.2) := by
  unfold qdOk at h
  rw [Bool.and_eq_true, Bool.or_eq_true] at h
  obtain ⟨h1, h2⟩ := h
  refine ⟨?_, h2.imp (fun h => Nat.eq_of_beq_eq_true h) (fun h => Nat.eq_of_beq_eq_true h)⟩
  cases hd : decode b q.1 with
  | error e => rw [hd] at h1; cases h1
  | ok r =>
    obtain ⟨j, n⟩ := r
    rw [hd] at h1
    simp only [Bool.and_eq_true, decide_eq_true_eq] at h1
    rw [h1.1, Nat.eq_of_beq_eq_true h1.2]
theorem qall_app {α : Type} {f : α → Bool} {a b : List α} (h1 : a.all f = true) (h2 : b.all f = true) : (a ++ b).all f = true := by rw [List.all_append, h1, h2]; rfl
theorem qlookup {α : Type} {l : List (Nat × α)} {i : Nat} {v : α} (h : l.lookup i = some v) : (i, v) ∈ l := by
  induction l with
  | nil => cases h
  | cons q t ih =>
    obtain ⟨j, w⟩ := q
    rw [List.lookup_cons] at h
    split at h
    · rename_i e
      cases h
      rw [beq_iff_eq] at e
      subst e
      exact List.mem_cons_self
    · exact List.mem_cons_of_mem _ (ih h)
