/-! the codes are words of the Statement -/
def qcw (k : Nat) : Cond := .code (qnm k) (qby k) (qmx k) (qrt k)
def qMp (k : Nat) : Nat := (qm k).2.2.2.2.2.1
theorem qcw_1 : ((List.range 11).drop 1).all (fun k => qAt (qMp k) (qcw k)) = true := by decide +kernel
theorem qcw_11 : ((List.range 21).drop 11).all (fun k => qAt (qMp k) (qcw k)) = true := by decide +kernel
theorem qcw_21 : ((List.range 31).drop 21).all (fun k => qAt (qMp k) (qcw k)) = true := by decide +kernel
theorem qcw_31 : ((List.range 41).drop 31).all (fun k => qAt (qMp k) (qcw k)) = true := by decide +kernel
theorem qcw_41 : ((List.range 51).drop 41).all (fun k => qAt (qMp k) (qcw k)) = true := by decide +kernel
theorem qcw_51 : ((List.range 61).drop 51).all (fun k => qAt (qMp k) (qcw k)) = true := by decide +kernel
theorem qcw_61 : ((List.range 71).drop 61).all (fun k => qAt (qMp k) (qcw k)) = true := by decide +kernel
theorem qcw_71 : ((List.range 81).drop 71).all (fun k => qAt (qMp k) (qcw k)) = true := by decide +kernel
theorem qcw_81 : ((List.range 91).drop 81).all (fun k => qAt (qMp k) (qcw k)) = true := by decide +kernel
theorem qcw_91 : ((List.range 101).drop 91).all (fun k => qAt (qMp k) (qcw k)) = true := by decide +kernel
theorem qcw_101 : ((List.range 111).drop 101).all (fun k => qAt (qMp k) (qcw k)) = true := by decide +kernel
theorem qcw_111 : ((List.range 121).drop 111).all (fun k => qAt (qMp k) (qcw k)) = true := by decide +kernel
theorem qcw_121 : ((List.range 131).drop 121).all (fun k => qAt (qMp k) (qcw k)) = true := by decide +kernel
theorem qcw_131 : ((List.range 141).drop 131).all (fun k => qAt (qMp k) (qcw k)) = true := by decide +kernel
theorem qcw_141 : ((List.range 151).drop 141).all (fun k => qAt (qMp k) (qcw k)) = true := by decide +kernel
theorem qcw_151 : ((List.range 161).drop 151).all (fun k => qAt (qMp k) (qcw k)) = true := by decide +kernel
theorem qcw_161 : ((List.range 171).drop 161).all (fun k => qAt (qMp k) (qcw k)) = true := by decide +kernel
theorem qcw_171 : ((List.range 181).drop 171).all (fun k => qAt (qMp k) (qcw k)) = true := by decide +kernel
theorem qcw_181 : ((List.range 191).drop 181).all (fun k => qAt (qMp k) (qcw k)) = true := by decide +kernel
theorem qcw_191 : ((List.range 201).drop 191).all (fun k => qAt (qMp k) (qcw k)) = true := by decide +kernel
theorem qcw_201 : ((List.range 211).drop 201).all (fun k => qAt (qMp k) (qcw k)) = true := by decide +kernel
theorem qcw_211 : ((List.range 221).drop 211).all (fun k => qAt (qMp k) (qcw k)) = true := by decide +kernel
theorem qcw_221 : ((List.range 231).drop 221).all (fun k => qAt (qMp k) (qcw k)) = true := by decide +kernel
theorem qcw_231 : ((List.range 241).drop 231).all (fun k => qAt (qMp k) (qcw k)) = true := by decide +kernel
theorem qcw_241 : ((List.range 251).drop 241).all (fun k => qAt (qMp k) (qcw k)) = true := by decide +kernel
theorem qcw_in : ∀ k, 0 < k → k < 251 → qcw k ∈ qWall := fun k h1 h2 => by
  have key : ∀ a b : Nat, ((List.range b).drop a).all (fun k => qAt (qMp k) (qcw k)) = true → a ≤ k → k < b → qcw k ∈ qWall := fun a b hb h3 h4 => by
    have hm : k ∈ (List.range b).drop a := by
      rw [List.mem_iff_getElem?]
      refine ⟨k - a, ?_⟩
      rw [List.getElem?_drop, List.getElem?_range (by omega)]
      congr 1
      omega
    exact qwall_in (qAt_spec (List.all_eq_true.mp hb k hm)) rfl
  by_cases c1 : k < 11
  · exact key _ _ qcw_1 (by omega) c1
  by_cases c11 : k < 21
  · exact key _ _ qcw_11 (by omega) c11
  by_cases c21 : k < 31
  · exact key _ _ qcw_21 (by omega) c21
  by_cases c31 : k < 41
  · exact key _ _ qcw_31 (by omega) c31
  by_cases c41 : k < 51
  · exact key _ _ qcw_41 (by omega) c41
  by_cases c51 : k < 61
  · exact key _ _ qcw_51 (by omega) c51
  by_cases c61 : k < 71
  · exact key _ _ qcw_61 (by omega) c61
  by_cases c71 : k < 81
  · exact key _ _ qcw_71 (by omega) c71
  by_cases c81 : k < 91
  · exact key _ _ qcw_81 (by omega) c81
  by_cases c91 : k < 101
  · exact key _ _ qcw_91 (by omega) c91
  by_cases c101 : k < 111
  · exact key _ _ qcw_101 (by omega) c101
  by_cases c111 : k < 121
  · exact key _ _ qcw_111 (by omega) c111
  by_cases c121 : k < 131
  · exact key _ _ qcw_121 (by omega) c121
  by_cases c131 : k < 141
  · exact key _ _ qcw_131 (by omega) c131
  by_cases c141 : k < 151
  · exact key _ _ qcw_141 (by omega) c141
  by_cases c151 : k < 161
  · exact key _ _ qcw_151 (by omega) c151
  by_cases c161 : k < 171
  · exact key _ _ qcw_161 (by omega) c161
  by_cases c171 : k < 181
  · exact key _ _ qcw_171 (by omega) c171
  by_cases c181 : k < 191
  · exact key _ _ qcw_181 (by omega) c181
  by_cases c191 : k < 201
  · exact key _ _ qcw_191 (by omega) c191
  by_cases c201 : k < 211
  · exact key _ _ qcw_201 (by omega) c201
  by_cases c211 : k < 221
  · exact key _ _ qcw_211 (by omega) c211
  by_cases c221 : k < 231
  · exact key _ _ qcw_221 (by omega) c221
  by_cases c231 : k < 241
  · exact key _ _ qcw_231 (by omega) c231
  by_cases c241 : k < 251
  · exact key _ _ qcw_241 (by omega) c241
  omega
