/-! The pure machine's heap grows; the methods' names and codes in words. -/
section QMO
variable {d k pc : Nat} {ls : qL} {st : List Value} {h : qH} {g : Nat × qL × List Value × qH}
theorem qmono_set {a : Nat} {c : qC} : h.1 ≤ (qset h a c).1 ∧ h.2.1 ≤ (qset h a c).2.1 := ⟨Nat.le_refl _, Nat.le_refl _⟩
theorem qmono_new {n : Nat} {c : qC} : h.1 ≤ (qnew h n c).1 ∧ h.2.1 ≤ (qnew h n c).2.1 := ⟨Nat.le_succ _, Nat.le_add_right _ _⟩
theorem qmono_mul {a b n : Nat} : h.1 ≤ (qmul h a b n).1 ∧ h.2.1 ≤ (qmul h a b n).2.1 := by
  refine ⟨?_, ?_⟩
  · show h.1 ≤ h.1 + 1 + b
    omega
  · show h.2.1 ≤ h.2.1 + b + b * n
    omega
theorem qmono_id : h.1 ≤ h.1 ∧ h.2.1 ≤ h.2.1 := ⟨Nat.le_refl _, Nat.le_refl _⟩
set_option maxHeartbeats 4000000 in
theorem qmono {i : Instr} (hs : qStep d k pc ls st h i = some (.inl g)) : h.1 ≤ g.2.2.2.1 ∧ h.2.1 ≤ g.2.2.2.2.1 := by
  unfold qStep at hs
  split at hs
  all_goals try simp only [qgo, qldI, qldL, qldA, qld, qstI, qstL, qstA, qii, qll, qi_1, ql_1, qix, qcallV, qcallS, qcallI, qcpy, qcall, qend, qendL, qendA, qendV, qget, qputf, qnewA, qnewM, qto, qbr] at hs
  all_goals (repeat' split at hs)
  all_goals first
    | (cases hs; done)
    | (cases hs; exact qmono_id)
    | (cases hs; exact qmono_set)
    | (cases hs; exact qmono_new)
    | (cases hs; exact qmono_mul)
theorem qmonoX : ∀ (n d k pc : Nat) (ls : qL) (st : List Value) (h : qH) (r : Option Value) (hF : qH), qExec n d k pc ls st h = some (r, hF) → h.1 ≤ hF.1 ∧ h.2.1 ≤ hF.2.1
  | 0, d, k, pc, ls, st, h, r, hF, hq => by cases hq
  | n + 1, d, k, pc, ls, st, h, r, hF, hq => by
    unfold qExec at hq
    split at hq
    · cases hq
    · split at hq
      · cases hq
      · rename_i hs
        have h1 := qmono hs
        have h2 := qmonoX n _ _ _ _ _ _ _ _ hq
        exact ⟨Nat.le_trans h1.1 h2.1, Nat.le_trans h1.2 h2.2⟩
      · cases hq
        exact qmono_id
      · split at hq
        · cases hq
        · split at hq
          · cases hq
          · split at hq
            · cases hq
            · rename_i hx2
              have h1 := qmonoX n _ _ _ _ _ _ _ _ hx2
              have h2 := qmonoX n _ _ _ _ _ _ _ _ hq
              exact ⟨Nat.le_trans h1.1 h2.1, Nat.le_trans h1.2 h2.2⟩
/-- more fuel, the same -/
theorem qfuel : ∀ (n d k pc : Nat) (ls : qL) (st : List Value) (h : qH) (q : Option Value × qH), qExec n d k pc ls st h = some q → qExec (n + 1) d k pc ls st h = some q
  | 0, d, k, pc, ls, st, h, q, hq => by cases hq
  | n + 1, d, k, pc, ls, st, h, q, hq => by
    unfold qExec at hq
    unfold qExec
    cases hc : qcd k pc with
    | none => rw [hc] at hq; cases hq
    | some i =>
      obtain ⟨i, z⟩ := i
      rw [hc] at hq
      dsimp only at hq ⊢
      cases hs : qStep d k pc ls st h i with
      | none => rw [hs] at hq; cases hq
      | some o =>
        rw [hs] at hq
        rcases o with ⟨pc2, ls2, st2, h2⟩ | v | ⟨k2, as, r⟩
        · dsimp only at hq ⊢
          exact qfuel n _ _ _ _ _ _ _ hq
        · exact hq
        · dsimp only at hq ⊢
          cases d with
          | zero => cases hq
          | succ d2 =>
            dsimp only at hq ⊢
            cases he : qent k2 as with
            | none => rw [he] at hq; cases hq
            | some l2 =>
              rw [he] at hq
              dsimp only at hq ⊢
              cases hx : qExec n d2 k2 0 l2 [] h with
              | none => rw [hx] at hq; cases hq
              | some w =>
                obtain ⟨v, h2⟩ := w
                rw [hx] at hq
                rw [qfuel n _ _ _ _ _ _ _ hx]
                dsimp only at hq ⊢
                exact qfuel n _ _ _ _ _ _ _ hq
theorem qfuelA (j n d k pc : Nat) (ls : qL) (st : List Value) (h : qH) (q : Option Value × qH) (hq : qExec n d k pc ls st h = some q) : qExec (n + j) d k pc ls st h = some q := by
  induction j with
  | zero => exact hq
  | succ j ih => exact qfuel _ _ _ _ _ _ _ _ ih
end QMO

/-- a method's class, its name, its entry -/
def qmOk (k : Nat) : Bool := decide ((qnm k).cls = qR (qown k)) && (Nat.beq (qown k) 15 || plainName (qnm k).cls) && (!qini k || decide ((qnm k).name = "<init>")) && decide ((qnm k).cls ≠ "java/lang/invoke/MethodHandle") && decide ((qnm k).cls ≠ "java/lang/invoke/VarHandle")
theorem qmOk_all : (List.range 251).all qmOk = true := by decide +kernel
/-- a call's entry: how many arguments, what an <init> is -/
def qKe (e : Nat × Nat × Nat × Nat × Nat × Nat × Nat × Nat) : Bool := Nat.blt 0 e.2.1 && Nat.blt e.2.1 251 && decide ((parseMethodDescriptor (qnm e.2.1).desc).map (fun d => d.parameters.length) = some e.2.2.1) && (!(Nat.beq e.2.2.2.1 2 || Nat.beq e.2.2.2.1 3) || (decide ((qnm e.2.1).name = "<init>") && decide (qrt e.2.1 = none))) && (!(Nat.beq e.2.2.2.1 0) || Nat.blt (qown e.2.1) 13)
theorem qKe_all : (List.range 17).all (fun c => (qK.getD c []).all qKe) = true := by decide +kernel
theorem qK_len {c : Nat} {x : Nat × Nat × Nat × Nat × Nat × Nat × Nat × Nat} (h : x ∈ qK.getD c []) : c < 17 := Nat.lt_of_not_le fun q => by
  rw [List.getD_eq_getElem?_getD, List.getElem?_eq_none (show qK.length ≤ c from q)] at h
  cases h
theorem qoi_1 : Cond.instanceMethod objectInit ∈ qWall := qwall_in (p := 136) (qAt_spec (by decide +kernel)) rfl
theorem qoi_2 : Cond.code objectInit ⟨#[0xb1]⟩ 1 none ∈ qWall := qwall_in (p := 137) (qAt_spec (by decide +kernel)) rfl
theorem qcd_ok : (List.range 251).all (fun k => (qm k).2.2.2.2.2.2.all (qdOk (qby k))) = true := by
  refine List.all_eq_true.mpr fun k hk => ?_
  have hk := List.mem_range.mp hk
  match k, hk with
  | 0, _ => exact qd0
  | 1, _ => exact qd1
  | 2, _ => exact qd2
  | 3, _ => exact qd3
  | 4, _ => exact qd4
  | 5, _ => exact qd5
  | 6, _ => exact qd6
  | 7, _ => exact qd7
  | 8, _ => exact qd8
  | 9, _ => exact qd9
  | 10, _ => exact qd10
  | 11, _ => exact qd11
  | 12, _ => exact qd12
  | 13, _ => exact qd13
  | 14, _ => exact qd14
  | 15, _ => exact qd15
  | 16, _ => exact qd16
  | 17, _ => exact qd17
  | 18, _ => exact qd18
  | 19, _ => exact qd19
  | 20, _ => exact qd20
  | 21, _ => exact qd21
  | 22, _ => exact qd22
  | 23, _ => exact qd23
  | 24, _ => exact qd24
  | 25, _ => exact qd25
  | 26, _ => exact qd26
  | 27, _ => exact qd27
  | 28, _ => exact qd28
  | 29, _ => exact qd29
  | 30, _ => exact qd30
  | 31, _ => exact qd31
  | 32, _ => exact qd32
  | 33, _ => exact qd33
  | 34, _ => exact qd34
  | 35, _ => exact qd35
  | 36, _ => exact qd36
  | 37, _ => exact qd37
  | 38, _ => exact qd38
  | 39, _ => exact qd39
  | 40, _ => exact qd40
  | 41, _ => exact qd41
  | 42, _ => exact qd42
  | 43, _ => exact qd43
  | 44, _ => exact qd44
  | 45, _ => exact qd45
  | 46, _ => exact qd46
  | 47, _ => exact qd47
  | 48, _ => exact qd48
  | 49, _ => exact qd49
  | 50, _ => exact qd50
  | 51, _ => exact qd51
  | 52, _ => exact qd52
  | 53, _ => exact qd53
  | 54, _ => exact qd54
  | 55, _ => exact qd55
  | 56, _ => exact qd56
  | 57, _ => exact qd57
  | 58, _ => exact qd58
  | 59, _ => exact qd59
  | 60, _ => exact qd60
  | 61, _ => exact qd61
  | 62, _ => exact qd62
  | 63, _ => exact qd63
  | 64, _ => exact qd64
  | 65, _ => exact qd65
  | 66, _ => exact qd66
  | 67, _ => exact qd67
  | 68, _ => exact qd68
  | 69, _ => exact qd69
  | 70, _ => exact qd70
  | 71, _ => exact qd71
  | 72, _ => exact qd72
  | 73, _ => exact qd73
  | 74, _ => exact qd74
  | 75, _ => exact qd75
  | 76, _ => exact qd76
  | 77, _ => exact qd77
  | 78, _ => exact qd78
  | 79, _ => exact qd79
  | 80, _ => exact qd80
  | 81, _ => exact qd81
  | 82, _ => exact qd82
  | 83, _ => exact qd83
  | 84, _ => exact qd84
  | 85, _ => exact qd85
  | 86, _ => exact qd86
  | 87, _ => exact qd87
  | 88, _ => exact qd88
  | 89, _ => exact qd89
  | 90, _ => exact qd90
  | 91, _ => exact qd91
  | 92, _ => exact qd92
  | 93, _ => exact qd93
  | 94, _ => exact qd94
  | 95, _ => exact qd95
  | 96, _ => exact qd96
  | 97, _ => exact qd97
  | 98, _ => exact qd98
  | 99, _ => exact qd99
  | 100, _ => exact qd100
  | 101, _ => exact qd101
  | 102, _ => exact qd102
  | 103, _ => exact qd103
  | 104, _ => exact qd104
  | 105, _ => exact qd105
  | 106, _ => exact qd106
  | 107, _ => exact qd107
  | 108, _ => exact qd108
  | 109, _ => exact qd109
  | 110, _ => exact qd110
  | 111, _ => exact qd111
  | 112, _ => exact qd112
  | 113, _ => exact qd113
  | 114, _ => exact qd114
  | 115, _ => exact qd115
  | 116, _ => exact qd116
  | 117, _ => exact qd117
  | 118, _ => exact qd118
  | 119, _ => exact qd119
  | 120, _ => exact qd120
  | 121, _ => exact qd121
  | 122, _ => exact qd122
  | 123, _ => exact qd123
  | 124, _ => exact qd124
  | 125, _ => exact qd125
  | 126, _ => exact qd126
  | 127, _ => exact qd127
  | 128, _ => exact qd128
  | 129, _ => exact qd129
  | 130, _ => exact qd130
  | 131, _ => exact qd131
  | 132, _ => exact qd132
  | 133, _ => exact qd133
  | 134, _ => exact qd134
  | 135, _ => exact qd135
  | 136, _ => exact qd136
  | 137, _ => exact qd137
  | 138, _ => exact qd138
  | 139, _ => exact qd139
  | 140, _ => exact qd140
  | 141, _ => exact qd141
  | 142, _ => exact qd142
  | 143, _ => exact qd143
  | 144, _ => exact qd144
  | 145, _ => exact qd145
  | 146, _ => exact qd146
  | 147, _ => exact qd147
  | 148, _ => exact qd148
  | 149, _ => exact qd149
  | 150, _ => exact qd150
  | 151, _ => exact qd151
  | 152, _ => exact qd152
  | 153, _ => exact qd153
  | 154, _ => exact qd154
  | 155, _ => exact qd155
  | 156, _ => exact qd156
  | 157, _ => exact qd157
  | 158, _ => exact qd158
  | 159, _ => exact qd159
  | 160, _ => exact qd160
  | 161, _ => exact qd161
  | 162, _ => exact qd162
  | 163, _ => exact qd163
  | 164, _ => exact qd164
  | 165, _ => exact qd165
  | 166, _ => exact qd166
  | 167, _ => exact qd167
  | 168, _ => exact qd168
  | 169, _ => exact qd169
  | 170, _ => exact qd170
  | 171, _ => exact qd171
  | 172, _ => exact qd172
  | 173, _ => exact qd173
  | 174, _ => exact qd174
  | 175, _ => exact qd175
  | 176, _ => exact qd176
  | 177, _ => exact qd177
  | 178, _ => exact qd178
  | 179, _ => exact qd179
  | 180, _ => exact qd180
  | 181, _ => exact qd181
  | 182, _ => exact qd182
  | 183, _ => exact qd183
  | 184, _ => exact qd184
  | 185, _ => exact qd185
  | 186, _ => exact qd186
  | 187, _ => exact qd187
  | 188, _ => exact qd188
  | 189, _ => exact qd189
  | 190, _ => exact qd190
  | 191, _ => exact qd191
  | 192, _ => exact qd192
  | 193, _ => exact qd193
  | 194, _ => exact qd194
  | 195, _ => exact qd195
  | 196, _ => exact qd196
  | 197, _ => exact qd197
  | 198, _ => exact qd198
  | 199, _ => exact qd199
  | 200, _ => exact qd200
  | 201, _ => exact qd201
  | 202, _ => exact qd202
  | 203, _ => exact qd203
  | 204, _ => exact qd204
  | 205, _ => exact qd205
  | 206, _ => exact qd206
  | 207, _ => exact qd207
  | 208, _ => exact qd208
  | 209, _ => exact qd209
  | 210, _ => exact qd210
  | 211, _ => exact qd211
  | 212, _ => exact qd212
  | 213, _ => exact qd213
  | 214, _ => exact qd214
  | 215, _ => exact qd215
  | 216, _ => exact qd216
  | 217, _ => exact qd217
  | 218, _ => exact qd218
  | 219, _ => exact qd219
  | 220, _ => exact qd220
  | 221, _ => exact qd221
  | 222, _ => exact qd222
  | 223, _ => exact qd223
  | 224, _ => exact qd224
  | 225, _ => exact qd225
  | 226, _ => exact qd226
  | 227, _ => exact qd227
  | 228, _ => exact qd228
  | 229, _ => exact qd229
  | 230, _ => exact qd230
  | 231, _ => exact qd231
  | 232, _ => exact qd232
  | 233, _ => exact qd233
  | 234, _ => exact qd234
  | 235, _ => exact qd235
  | 236, _ => exact qd236
  | 237, _ => exact qd237
  | 238, _ => exact qd238
  | 239, _ => exact qd239
  | 240, _ => exact qd240
  | 241, _ => exact qd241
  | 242, _ => exact qd242
  | 243, _ => exact qd243
  | 244, _ => exact qd244
  | 245, _ => exact qd245
  | 246, _ => exact qd246
  | 247, _ => exact qd247
  | 248, _ => exact qd248
  | 249, _ => exact qd249
  | 250, _ => exact qd250
  | n + 251, h => exact absurd h (by omega)
theorem qM_len : qM.length = 251 := by decide +kernel
theorem qcd_spec {k pc n : Nat} {i : Instr} (h : qcd k pc = some (i, n)) : decode (qby k) pc = .ok (i, n) ∧ (qlen i = 0 ∨ qlen i = n) ∧ k < 251 := by
  have hm := qlookup h
  have hk : k < 251 := Nat.lt_of_not_le fun q => by
    have e : qm k = (0, ⟨"", "", ""⟩, ⟨#[]⟩, 0, none, 0, []) := by
      unfold qm
      rw [List.getD_eq_getElem?_getD, List.getElem?_eq_none (by rw [qM_len]; exact q)]
      rfl
    rw [e] at hm
    cases hm
  have := List.all_eq_true.mp (qrange qcd_ok hk) _ hm
  have := qdOk_spec this
  exact ⟨this.1, this.2, hk⟩
