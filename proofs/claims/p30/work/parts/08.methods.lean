/-! all rows, one theorem; the methods' own words (kernel) -/
set_option maxRecDepth 100000 in
theorem am_rows_ok : ∀ k c, am_nth am_code k = some c → am_all k c 0 c = true := by
  intro k c h
  match k, h with
  | 0, h => cases (show some am_c0 = some c from h); exact am_ok0
  | 1, h => cases (show some am_c1 = some c from h); exact am_ok1
  | 2, h => cases (show some am_c2 = some c from h); exact am_ok2
  | 3, h => cases (show some am_c3 = some c from h); exact am_ok3
  | 4, h => cases (show some am_c4 = some c from h); exact am_ok4
  | 5, h => cases (show some am_c5 = some c from h); exact am_ok5
  | 6, h => cases (show some am_c6 = some c from h); exact am_ok6
  | 7, h => cases (show some am_c7 = some c from h); exact am_ok7
  | 8, h => cases (show some am_c8 = some c from h); exact am_ok8
  | 9, h => cases (show some am_c9 = some c from h); exact am_ok9
  | 10, h => cases (show some am_c10 = some c from h); exact am_ok10
  | 11, h => cases (show some am_c11 = some c from h); exact am_ok11
  | 12, h => cases (show some am_c12 = some c from h); exact am_ok12
  | 13, h => cases (show some am_c13 = some c from h); exact am_ok13
  | 14, h => cases (show some am_c14 = some c from h); exact am_ok14
  | 15, h => cases (show some am_c15 = some c from h); exact am_ok15
  | 16, h => cases (show some am_c16 = some c from h); exact am_ok16
  | 17, h => cases (show some am_c17 = some c from h); exact am_ok17
  | 18, h => cases (show some am_c18 = some c from h); exact am_ok18
  | 19, h => cases (show some am_c19 = some c from h); exact am_ok19
  | 20, h => cases (show some am_c20 = some c from h); exact am_ok20
  | 21, h => cases (show some am_c21 = some c from h); exact am_ok21
  | 22, h => cases (show some am_c22 = some c from h); exact am_ok22
  | 23, h => cases (show some am_c23 = some c from h); exact am_ok23
  | 24, h => cases (show some am_c24 = some c from h); exact am_ok24
  | 25, h => cases (show some am_c25 = some c from h); exact am_ok25
  | 26, h => cases (show some am_c26 = some c from h); exact am_ok26
  | 27, h => cases (show some am_c27 = some c from h); exact am_ok27
  | 28, h => cases (show some am_c28 = some c from h); exact am_ok28
  | 29, h => cases (show some am_c29 = some c from h); exact am_ok29
  | 30, h => cases (show some am_c30 = some c from h); exact am_ok30
  | 31, h => cases (show some am_c31 = some c from h); exact am_ok31
  | 32, h => cases (show some am_c32 = some c from h); exact am_ok32
  | 33, h => cases (show some am_c33 = some c from h); exact am_ok33
  | 34, h => cases (show some am_c34 = some c from h); exact am_ok34
  | 35, h => cases (show some am_c35 = some c from h); exact am_ok35
  | 36, h => cases (show some am_c36 = some c from h); exact am_ok36
  | 37, h => cases (show some am_c37 = some c from h); exact am_ok37
  | 38, h => cases (show some am_c38 = some c from h); exact am_ok38
  | 39, h => cases (show some am_c39 = some c from h); exact am_ok39
  | 40, h => cases (show some am_c40 = some c from h); exact am_ok40
  | 41, h => cases (show some am_c41 = some c from h); exact am_ok41
  | 42, h => cases (show some am_c42 = some c from h); exact am_ok42
  | 43, h => cases (show some am_c43 = some c from h); exact am_ok43
  | 44, h => cases (show some am_c44 = some c from h); exact am_ok44
  | 45, h => cases (show some am_c45 = some c from h); exact am_ok45
  | 46, h => cases (show some am_c46 = some c from h); exact am_ok46
  | 47, h => cases (show some am_c47 = some c from h); exact am_ok47
  | 48, h => cases (show some am_c48 = some c from h); exact am_ok48
  | 49, h => cases (show some am_c49 = some c from h); exact am_ok49
  | 50, h => cases (show some am_c50 = some c from h); exact am_ok50
  | 51, h => cases (show some am_c51 = some c from h); exact am_ok51
  | 52, h => cases (show some am_c52 = some c from h); exact am_ok52
  | 53, h => cases (show some am_c53 = some c from h); exact am_ok53
  | 54, h => cases (show some am_c54 = some c from h); exact am_ok54
  | 55, h => cases (show some am_c55 = some c from h); exact am_ok55
  | 56, h => cases (show some am_c56 = some c from h); exact am_ok56
  | 57, h => cases (show some am_c57 = some c from h); exact am_ok57
  | 58, h => cases (show some am_c58 = some c from h); exact am_ok58
  | 59, h => cases (show some am_c59 = some c from h); exact am_ok59
  | 60, h => cases (show some am_c60 = some c from h); exact am_ok60
  | 61, h => cases (show some am_c61 = some c from h); exact am_ok61
  | 62, h => cases (show some am_c62 = some c from h); exact am_ok62
  | 63, h => cases (show some am_c63 = some c from h); exact am_ok63
  | 64, h => cases (show some am_c64 = some c from h); exact am_ok64
  | 65, h => cases (show some am_c65 = some c from h); exact am_ok65
  | 66, h => cases (show some am_c66 = some c from h); exact am_ok66
  | 67, h => cases (show some am_c67 = some c from h); exact am_ok67
  | 68, h => cases (show some am_c68 = some c from h); exact am_ok68
  | 69, h => cases (show some am_c69 = some c from h); exact am_ok69
  | 70, h => cases (show some am_c70 = some c from h); exact am_ok70
  | 71, h => cases (show some am_c71 = some c from h); exact am_ok71
  | 72, h => cases (show some am_c72 = some c from h); exact am_ok72
  | 73, h => cases (show some am_c73 = some c from h); exact am_ok73
  | 74, h => cases (show some am_c74 = some c from h); exact am_ok74
  | 75, h => cases (show some am_c75 = some c from h); exact am_ok75
  | 76, h => cases (show some am_c76 = some c from h); exact am_ok76
  | 77, h => cases (show some am_c77 = some c from h); exact am_ok77
  | 78, h => cases (show some am_c78 = some c from h); exact am_ok78
  | 79, h => cases (show some am_c79 = some c from h); exact am_ok79
  | 80, h => cases (show some am_c80 = some c from h); exact am_ok80
  | 81, h => cases (show some am_c81 = some c from h); exact am_ok81
  | 82, h => cases (show some am_c82 = some c from h); exact am_ok82
  | 83, h => cases (show some am_c83 = some c from h); exact am_ok83
  | 84, h => cases (show some am_c84 = some c from h); exact am_ok84
  | 85, h => cases (show some am_c85 = some c from h); exact am_ok85
  | 86, h => cases (show some am_c86 = some c from h); exact am_ok86
  | 87, h => cases (show some am_c87 = some c from h); exact am_ok87
  | 88, h => cases (show some am_c88 = some c from h); exact am_ok88
  | 89, h => cases (show some am_c89 = some c from h); exact am_ok89
  | 90, h => cases (show some am_c90 = some c from h); exact am_ok90
  | 91, h => cases (show some am_c91 = some c from h); exact am_ok91
  | 92, h => cases (show some am_c92 = some c from h); exact am_ok92
  | 93, h => cases (show some am_c93 = some c from h); exact am_ok93
  | 94, h => cases (show some am_c94 = some c from h); exact am_ok94
  | 95, h => cases (show some am_c95 = some c from h); exact am_ok95
  | 96, h => cases (show some am_c96 = some c from h); exact am_ok96
  | 97, h => cases (show some am_c97 = some c from h); exact am_ok97
  | 98, h => cases (show some am_c98 = some c from h); exact am_ok98
  | 99, h => cases (show some am_c99 = some c from h); exact am_ok99
  | 100, h => cases (show some am_c100 = some c from h); exact am_ok100
  | 101, h => cases (show some am_c101 = some c from h); exact am_ok101
  | 102, h => cases (show some am_c102 = some c from h); exact am_ok102
  | 103, h => cases (show some am_c103 = some c from h); exact am_ok103
  | 104, h => cases (show some am_c104 = some c from h); exact am_ok104
  | 105, h => cases (show some am_c105 = some c from h); exact am_ok105
  | 106, h => cases (show some am_c106 = some c from h); exact am_ok106
  | 107, h => cases (show some am_c107 = some c from h); exact am_ok107
  | 108, h => cases (show some am_c108 = some c from h); exact am_ok108
  | 109, h => cases (show some am_c109 = some c from h); exact am_ok109
  | 110, h => cases (show some am_c110 = some c from h); exact am_ok110
  | 111, h => cases (show some am_c111 = some c from h); exact am_ok111
  | 112, h => cases (show some am_c112 = some c from h); exact am_ok112
  | 113, h => cases (show some am_c113 = some c from h); exact am_ok113
  | 114, h => cases (show some am_c114 = some c from h); exact am_ok114
  | 115, h => cases (show some am_c115 = some c from h); exact am_ok115
  | 116, h => cases (show some am_c116 = some c from h); exact am_ok116
  | 117, h => cases (show some am_c117 = some c from h); exact am_ok117
  | 118, h => cases (show some am_c118 = some c from h); exact am_ok118
  | 119, h => cases (show some am_c119 = some c from h); exact am_ok119
  | 120, h => cases (show some am_c120 = some c from h); exact am_ok120
  | 121, h => cases (show some am_c121 = some c from h); exact am_ok121
  | 122, h => cases (show some am_c122 = some c from h); exact am_ok122
  | 123, h => cases (show some am_c123 = some c from h); exact am_ok123
  | 124, h => cases (show some am_c124 = some c from h); exact am_ok124
  | 125, h => cases (show some am_c125 = some c from h); exact am_ok125
  | 126, h => cases (show some am_c126 = some c from h); exact am_ok126
  | 127, h => cases (show some am_c127 = some c from h); exact am_ok127
  | 128, h => cases (show some am_c128 = some c from h); exact am_ok128
  | 129, h => cases (show some am_c129 = some c from h); exact am_ok129
  | 130, h => cases (show some am_c130 = some c from h); exact am_ok130
  | 131, h => cases (show some am_c131 = some c from h); exact am_ok131
  | 132, h => cases (show some am_c132 = some c from h); exact am_ok132
  | 133, h => cases (show some am_c133 = some c from h); exact am_ok133
  | 134, h => cases (show some am_c134 = some c from h); exact am_ok134
  | 135, h => cases (show some am_c135 = some c from h); exact am_ok135
  | 136, h => cases (show some am_c136 = some c from h); exact am_ok136
  | 137, h => cases (show some am_c137 = some c from h); exact am_ok137
  | 138, h => cases (show some am_c138 = some c from h); exact am_ok138
  | 139, h => cases (show some am_c139 = some c from h); exact am_ok139
  | 140, h => cases (show some am_c140 = some c from h); exact am_ok140
  | 141, h => cases (show some am_c141 = some c from h); exact am_ok141
  | 142, h => cases (show some am_c142 = some c from h); exact am_ok142
  | 143, h => cases (show some am_c143 = some c from h); exact am_ok143
  | 144, h => cases (show some am_c144 = some c from h); exact am_ok144
  | 145, h => cases (show some am_c145 = some c from h); exact am_ok145
  | 146, h => cases (show some am_c146 = some c from h); exact am_ok146
  | 147, h => cases (show some am_c147 = some c from h); exact am_ok147
  | 148, h => cases (show some am_c148 = some c from h); exact am_ok148
  | 149, h => cases (show some am_c149 = some c from h); exact am_ok149
  | 150, h => cases (show some am_c150 = some c from h); exact am_ok150
  | 151, h => cases (show some am_c151 = some c from h); exact am_ok151
  | 152, h => cases (show some am_c152 = some c from h); exact am_ok152
  | 153, h => cases (show some am_c153 = some c from h); exact am_ok153
  | 154, h => cases (show some am_c154 = some c from h); exact am_ok154
  | 155, h => cases (show some am_c155 = some c from h); exact am_ok155
  | 156, h => cases (show some am_c156 = some c from h); exact am_ok156
  | 157, h => cases (show some am_c157 = some c from h); exact am_ok157
  | 158, h => cases (show some am_c158 = some c from h); exact am_ok158
  | 159, h => cases (show some am_c159 = some c from h); exact am_ok159
  | 160, h => cases (show some am_c160 = some c from h); exact am_ok160
  | 161, h => cases (show some am_c161 = some c from h); exact am_ok161
  | 162, h => cases (show some am_c162 = some c from h); exact am_ok162
  | 163, h => cases (show some am_c163 = some c from h); exact am_ok163
  | 164, h => cases (show some am_c164 = some c from h); exact am_ok164
  | 165, h => cases (show some am_c165 = some c from h); exact am_ok165
  | 166, h => cases (show some am_c166 = some c from h); exact am_ok166
  | 167, h => cases (show some am_c167 = some c from h); exact am_ok167
  | 168, h => cases (show some am_c168 = some c from h); exact am_ok168
  | 169, h => cases (show some am_c169 = some c from h); exact am_ok169
  | 170, h => cases (show some am_c170 = some c from h); exact am_ok170
  | 171, h => cases (show some am_c171 = some c from h); exact am_ok171
  | 172, h => cases (show some am_c172 = some c from h); exact am_ok172
  | 173, h => cases (show some am_c173 = some c from h); exact am_ok173
  | 174, h => cases (show some am_c174 = some c from h); exact am_ok174
  | 175, h => cases (show some am_c175 = some c from h); exact am_ok175
  | 176, h => cases (show some am_c176 = some c from h); exact am_ok176
  | 177, h => cases (show some am_c177 = some c from h); exact am_ok177
  | 178, h => cases (show some am_c178 = some c from h); exact am_ok178
  | 179, h => cases (show some am_c179 = some c from h); exact am_ok179
  | 180, h => cases (show some am_c180 = some c from h); exact am_ok180
  | k + 181, h => cases (show (none : Option (List am_Row)) = some c from h)
theorem am_all_at {k : Nat} {c : List am_Row} : ∀ {l : List am_Row} {i0 i : Nat} {r : am_Row}, am_all k c i0 l = true → am_nth l i = some r → am_rowOK k c (i0 + i) r = true
  | [], _, _, _, _, h => by cases h
  | _ :: _, _, 0, _, h, h2 => by
    cases h2
    exact (Bool.and_eq_true _ _ ▸ h).1
  | _ :: _, i0, i + 1, _, h, h2 => by
    have h3 := am_all_at (Bool.and_eq_true _ _ ▸ h).2 (show am_nth _ i = some _ from h2)
    rwa [show i0 + 1 + i = i0 + (i + 1) by omega] at h3
/-- what the kernel checked of a row -/
theorem am_row_at {k ip : Nat} {r : am_Row} (h : am_row k ip = some r) : ∃ c, am_nth am_code k = some c ∧ am_nth c ip = some r ∧ am_rowOK k c ip r = true := by
  unfold am_row at h
  cases hc : am_nth am_code k with
  | none => rw [hc] at h; cases h
  | some c =>
    rw [hc] at h
    refine ⟨c, rfl, h, ?_⟩
    have h2 := am_all_at (am_rows_ok k c hc) h
    rwa [Nat.zero_add] at h2
theorem am_pcl_eq {k : Nat} {c : List am_Row} (h : am_nth am_code k = some c) (i : Nat) : am_pcl c i = am_pc k i := by
  unfold am_pcl am_pc am_row
  simp only [h]
  cases am_nth c i <;> rfl
theorem am_mem {α : Type} : ∀ {l : List α} {i : Nat} {w : α}, am_nth l i = some w → w ∈ l
  | [], _, _, h => by cases h
  | _ :: _, 0, _, h => by cases h; exact List.mem_cons_self
  | _ :: l, i + 1, _, h => List.mem_cons_of_mem _ (am_mem (show am_nth l i = some _ from h))
/-- the words that every method's contract stands on -/
def am_good : List Jvm.Cond := lw_tbl.filter goodWord
theorem am_good_of {i : Nat} {w : Jvm.Cond} (h : am_nth lw_tbl i = some w) (hg : goodWord w = true) : w ∈ am_good := List.mem_filter.mpr ⟨am_mem h, hg⟩
theorem am_good_in : GoodIn am_good am_good := fun w h => ⟨h, good_of_word (List.mem_filter.mp h).2⟩
def am_mOK (k : Nat) : Bool :=
  decide (plainName (am_y k).cls = true) && (decide ((am_y k).cls = am_cn (am_own k)) && (decide (am_own k < 7 ∧ (am_st k = false → am_own k < 6))
  && (decide ((parseMethodDescriptor (am_y k).desc).map (fun d => d.parameters.length) = some (am_na k))
  && (decide ((am_y k).cls ≠ "java/lang/invoke/MethodHandle" ∧ (am_y k).cls ≠ "java/lang/invoke/VarHandle")
  && (match am_nth am_mpl k with
    | some (_, p2, p3) => decide (am_nth lw_tbl p2 = some (if am_st k = true then Jvm.Cond.static (am_y k) else Jvm.Cond.instanceMethod (am_y k)))
        && ((am_st k || am_in k) || decide (am_nth lw_tbl p3 = some (Jvm.Cond.selects (am_y k).cls (am_y k) (am_y k))))
    | none => false)
  && (decide (am_in k = true → (am_y k).name = "<init>") && true)))))
def am_upto (f : Nat → Bool) : Nat → Bool
  | 0 => true
  | n + 1 => f n && am_upto f n
theorem am_upto_at {f : Nat → Bool} : ∀ {n k : Nat}, am_upto f n = true → k < n → f k = true
  | 0, _, _, h => absurd h (Nat.not_lt_zero _)
  | n + 1, k, h, hk => by
    have h2 := Bool.and_eq_true _ _ ▸ h
    rcases Nat.lt_or_ge k n with q | q
    · exact am_upto_at h2.2 q
    · rw [show k = n by omega]; exact h2.1
theorem am_ms_ok : am_upto am_mOK 180 = true := by decide +kernel
theorem am_init_ok : ∀ ci, ci < 7 → am_nth lw_tbl ((am_nth am_ipl ci).getD 0) = some (Jvm.Cond.initialized (am_cn ci)) := by decide +kernel
def am_codeW (k : Nat) : Jvm.Cond := Jvm.Cond.code (am_y k) (am_b k) (am_L k) (am_ret k)
def am_pcd (k : Nat) : Nat := match am_nth am_mpl k with | some p => p.1 | none => 0
set_option maxRecDepth 1000000 in
theorem am_cd0 : am_nth lw_tbl (am_pcd 0) = some (am_codeW 0) := by rfl
set_option maxRecDepth 1000000 in
theorem am_cd1 : am_nth lw_tbl (am_pcd 1) = some (am_codeW 1) := by rfl
set_option maxRecDepth 1000000 in
theorem am_cd2 : am_nth lw_tbl (am_pcd 2) = some (am_codeW 2) := by rfl
set_option maxRecDepth 1000000 in
theorem am_cd3 : am_nth lw_tbl (am_pcd 3) = some (am_codeW 3) := by rfl
set_option maxRecDepth 1000000 in
theorem am_cd4 : am_nth lw_tbl (am_pcd 4) = some (am_codeW 4) := by rfl
set_option maxRecDepth 1000000 in
theorem am_cd5 : am_nth lw_tbl (am_pcd 5) = some (am_codeW 5) := by rfl
set_option maxRecDepth 1000000 in
theorem am_cd6 : am_nth lw_tbl (am_pcd 6) = some (am_codeW 6) := by rfl
set_option maxRecDepth 1000000 in
theorem am_cd7 : am_nth lw_tbl (am_pcd 7) = some (am_codeW 7) := by rfl
set_option maxRecDepth 1000000 in
theorem am_cd8 : am_nth lw_tbl (am_pcd 8) = some (am_codeW 8) := by rfl
set_option maxRecDepth 1000000 in
theorem am_cd9 : am_nth lw_tbl (am_pcd 9) = some (am_codeW 9) := by rfl
set_option maxRecDepth 1000000 in
theorem am_cd10 : am_nth lw_tbl (am_pcd 10) = some (am_codeW 10) := by rfl
set_option maxRecDepth 1000000 in
theorem am_cd11 : am_nth lw_tbl (am_pcd 11) = some (am_codeW 11) := by rfl
set_option maxRecDepth 1000000 in
theorem am_cd12 : am_nth lw_tbl (am_pcd 12) = some (am_codeW 12) := by rfl
set_option maxRecDepth 1000000 in
theorem am_cd13 : am_nth lw_tbl (am_pcd 13) = some (am_codeW 13) := by rfl
set_option maxRecDepth 1000000 in
theorem am_cd14 : am_nth lw_tbl (am_pcd 14) = some (am_codeW 14) := by rfl
set_option maxRecDepth 1000000 in
theorem am_cd15 : am_nth lw_tbl (am_pcd 15) = some (am_codeW 15) := by rfl
set_option maxRecDepth 1000000 in
theorem am_cd16 : am_nth lw_tbl (am_pcd 16) = some (am_codeW 16) := by rfl
set_option maxRecDepth 1000000 in
theorem am_cd17 : am_nth lw_tbl (am_pcd 17) = some (am_codeW 17) := by rfl
set_option maxRecDepth 1000000 in
theorem am_cd18 : am_nth lw_tbl (am_pcd 18) = some (am_codeW 18) := by rfl
set_option maxRecDepth 1000000 in
theorem am_cd19 : am_nth lw_tbl (am_pcd 19) = some (am_codeW 19) := by rfl
set_option maxRecDepth 1000000 in
theorem am_cd20 : am_nth lw_tbl (am_pcd 20) = some (am_codeW 20) := by rfl
set_option maxRecDepth 1000000 in
theorem am_cd21 : am_nth lw_tbl (am_pcd 21) = some (am_codeW 21) := by rfl
set_option maxRecDepth 1000000 in
theorem am_cd22 : am_nth lw_tbl (am_pcd 22) = some (am_codeW 22) := by rfl
set_option maxRecDepth 1000000 in
theorem am_cd23 : am_nth lw_tbl (am_pcd 23) = some (am_codeW 23) := by rfl
set_option maxRecDepth 1000000 in
theorem am_cd24 : am_nth lw_tbl (am_pcd 24) = some (am_codeW 24) := by rfl
set_option maxRecDepth 1000000 in
theorem am_cd25 : am_nth lw_tbl (am_pcd 25) = some (am_codeW 25) := by rfl
set_option maxRecDepth 1000000 in
theorem am_cd26 : am_nth lw_tbl (am_pcd 26) = some (am_codeW 26) := by rfl
set_option maxRecDepth 1000000 in
theorem am_cd27 : am_nth lw_tbl (am_pcd 27) = some (am_codeW 27) := by rfl
set_option maxRecDepth 1000000 in
theorem am_cd28 : am_nth lw_tbl (am_pcd 28) = some (am_codeW 28) := by rfl
set_option maxRecDepth 1000000 in
theorem am_cd29 : am_nth lw_tbl (am_pcd 29) = some (am_codeW 29) := by rfl
set_option maxRecDepth 1000000 in
theorem am_cd30 : am_nth lw_tbl (am_pcd 30) = some (am_codeW 30) := by rfl
set_option maxRecDepth 1000000 in
theorem am_cd31 : am_nth lw_tbl (am_pcd 31) = some (am_codeW 31) := by rfl
set_option maxRecDepth 1000000 in
theorem am_cd32 : am_nth lw_tbl (am_pcd 32) = some (am_codeW 32) := by rfl
set_option maxRecDepth 1000000 in
theorem am_cd33 : am_nth lw_tbl (am_pcd 33) = some (am_codeW 33) := by rfl
set_option maxRecDepth 1000000 in
theorem am_cd34 : am_nth lw_tbl (am_pcd 34) = some (am_codeW 34) := by rfl
set_option maxRecDepth 1000000 in
theorem am_cd35 : am_nth lw_tbl (am_pcd 35) = some (am_codeW 35) := by rfl
set_option maxRecDepth 1000000 in
theorem am_cd36 : am_nth lw_tbl (am_pcd 36) = some (am_codeW 36) := by rfl
set_option maxRecDepth 1000000 in
theorem am_cd37 : am_nth lw_tbl (am_pcd 37) = some (am_codeW 37) := by rfl
set_option maxRecDepth 1000000 in
theorem am_cd38 : am_nth lw_tbl (am_pcd 38) = some (am_codeW 38) := by rfl
set_option maxRecDepth 1000000 in
theorem am_cd39 : am_nth lw_tbl (am_pcd 39) = some (am_codeW 39) := by rfl
set_option maxRecDepth 1000000 in
theorem am_cd40 : am_nth lw_tbl (am_pcd 40) = some (am_codeW 40) := by rfl
set_option maxRecDepth 1000000 in
theorem am_cd41 : am_nth lw_tbl (am_pcd 41) = some (am_codeW 41) := by rfl
set_option maxRecDepth 1000000 in
theorem am_cd42 : am_nth lw_tbl (am_pcd 42) = some (am_codeW 42) := by rfl
set_option maxRecDepth 1000000 in
theorem am_cd43 : am_nth lw_tbl (am_pcd 43) = some (am_codeW 43) := by rfl
set_option maxRecDepth 1000000 in
theorem am_cd44 : am_nth lw_tbl (am_pcd 44) = some (am_codeW 44) := by rfl
set_option maxRecDepth 1000000 in
theorem am_cd45 : am_nth lw_tbl (am_pcd 45) = some (am_codeW 45) := by rfl
set_option maxRecDepth 1000000 in
theorem am_cd46 : am_nth lw_tbl (am_pcd 46) = some (am_codeW 46) := by rfl
set_option maxRecDepth 1000000 in
theorem am_cd47 : am_nth lw_tbl (am_pcd 47) = some (am_codeW 47) := by rfl
set_option maxRecDepth 1000000 in
theorem am_cd48 : am_nth lw_tbl (am_pcd 48) = some (am_codeW 48) := by rfl
set_option maxRecDepth 1000000 in
theorem am_cd49 : am_nth lw_tbl (am_pcd 49) = some (am_codeW 49) := by rfl
set_option maxRecDepth 1000000 in
theorem am_cd50 : am_nth lw_tbl (am_pcd 50) = some (am_codeW 50) := by rfl
set_option maxRecDepth 1000000 in
theorem am_cd51 : am_nth lw_tbl (am_pcd 51) = some (am_codeW 51) := by rfl
set_option maxRecDepth 1000000 in
theorem am_cd52 : am_nth lw_tbl (am_pcd 52) = some (am_codeW 52) := by rfl
set_option maxRecDepth 1000000 in
theorem am_cd53 : am_nth lw_tbl (am_pcd 53) = some (am_codeW 53) := by rfl
set_option maxRecDepth 1000000 in
theorem am_cd54 : am_nth lw_tbl (am_pcd 54) = some (am_codeW 54) := by rfl
set_option maxRecDepth 1000000 in
theorem am_cd55 : am_nth lw_tbl (am_pcd 55) = some (am_codeW 55) := by rfl
set_option maxRecDepth 1000000 in
theorem am_cd56 : am_nth lw_tbl (am_pcd 56) = some (am_codeW 56) := by rfl
set_option maxRecDepth 1000000 in
theorem am_cd57 : am_nth lw_tbl (am_pcd 57) = some (am_codeW 57) := by rfl
set_option maxRecDepth 1000000 in
theorem am_cd58 : am_nth lw_tbl (am_pcd 58) = some (am_codeW 58) := by rfl
set_option maxRecDepth 1000000 in
theorem am_cd59 : am_nth lw_tbl (am_pcd 59) = some (am_codeW 59) := by rfl
set_option maxRecDepth 1000000 in
theorem am_cd60 : am_nth lw_tbl (am_pcd 60) = some (am_codeW 60) := by rfl
set_option maxRecDepth 1000000 in
theorem am_cd61 : am_nth lw_tbl (am_pcd 61) = some (am_codeW 61) := by rfl
set_option maxRecDepth 1000000 in
theorem am_cd62 : am_nth lw_tbl (am_pcd 62) = some (am_codeW 62) := by rfl
set_option maxRecDepth 1000000 in
theorem am_cd63 : am_nth lw_tbl (am_pcd 63) = some (am_codeW 63) := by rfl
set_option maxRecDepth 1000000 in
theorem am_cd64 : am_nth lw_tbl (am_pcd 64) = some (am_codeW 64) := by rfl
set_option maxRecDepth 1000000 in
theorem am_cd65 : am_nth lw_tbl (am_pcd 65) = some (am_codeW 65) := by rfl
set_option maxRecDepth 1000000 in
theorem am_cd66 : am_nth lw_tbl (am_pcd 66) = some (am_codeW 66) := by rfl
set_option maxRecDepth 1000000 in
theorem am_cd67 : am_nth lw_tbl (am_pcd 67) = some (am_codeW 67) := by rfl
set_option maxRecDepth 1000000 in
theorem am_cd68 : am_nth lw_tbl (am_pcd 68) = some (am_codeW 68) := by rfl
set_option maxRecDepth 1000000 in
theorem am_cd69 : am_nth lw_tbl (am_pcd 69) = some (am_codeW 69) := by rfl
set_option maxRecDepth 1000000 in
theorem am_cd70 : am_nth lw_tbl (am_pcd 70) = some (am_codeW 70) := by rfl
set_option maxRecDepth 1000000 in
theorem am_cd71 : am_nth lw_tbl (am_pcd 71) = some (am_codeW 71) := by rfl
set_option maxRecDepth 1000000 in
theorem am_cd72 : am_nth lw_tbl (am_pcd 72) = some (am_codeW 72) := by rfl
set_option maxRecDepth 1000000 in
theorem am_cd73 : am_nth lw_tbl (am_pcd 73) = some (am_codeW 73) := by rfl
set_option maxRecDepth 1000000 in
theorem am_cd74 : am_nth lw_tbl (am_pcd 74) = some (am_codeW 74) := by rfl
set_option maxRecDepth 1000000 in
theorem am_cd75 : am_nth lw_tbl (am_pcd 75) = some (am_codeW 75) := by rfl
set_option maxRecDepth 1000000 in
theorem am_cd76 : am_nth lw_tbl (am_pcd 76) = some (am_codeW 76) := by rfl
set_option maxRecDepth 1000000 in
theorem am_cd77 : am_nth lw_tbl (am_pcd 77) = some (am_codeW 77) := by rfl
set_option maxRecDepth 1000000 in
theorem am_cd78 : am_nth lw_tbl (am_pcd 78) = some (am_codeW 78) := by rfl
set_option maxRecDepth 1000000 in
theorem am_cd79 : am_nth lw_tbl (am_pcd 79) = some (am_codeW 79) := by rfl
set_option maxRecDepth 1000000 in
theorem am_cd80 : am_nth lw_tbl (am_pcd 80) = some (am_codeW 80) := by rfl
set_option maxRecDepth 1000000 in
theorem am_cd81 : am_nth lw_tbl (am_pcd 81) = some (am_codeW 81) := by rfl
set_option maxRecDepth 1000000 in
theorem am_cd82 : am_nth lw_tbl (am_pcd 82) = some (am_codeW 82) := by rfl
set_option maxRecDepth 1000000 in
theorem am_cd83 : am_nth lw_tbl (am_pcd 83) = some (am_codeW 83) := by rfl
set_option maxRecDepth 1000000 in
theorem am_cd84 : am_nth lw_tbl (am_pcd 84) = some (am_codeW 84) := by rfl
set_option maxRecDepth 1000000 in
theorem am_cd85 : am_nth lw_tbl (am_pcd 85) = some (am_codeW 85) := by rfl
set_option maxRecDepth 1000000 in
theorem am_cd86 : am_nth lw_tbl (am_pcd 86) = some (am_codeW 86) := by rfl
set_option maxRecDepth 1000000 in
theorem am_cd87 : am_nth lw_tbl (am_pcd 87) = some (am_codeW 87) := by rfl
set_option maxRecDepth 1000000 in
theorem am_cd88 : am_nth lw_tbl (am_pcd 88) = some (am_codeW 88) := by rfl
set_option maxRecDepth 1000000 in
theorem am_cd89 : am_nth lw_tbl (am_pcd 89) = some (am_codeW 89) := by rfl
set_option maxRecDepth 1000000 in
theorem am_cd90 : am_nth lw_tbl (am_pcd 90) = some (am_codeW 90) := by rfl
set_option maxRecDepth 1000000 in
theorem am_cd91 : am_nth lw_tbl (am_pcd 91) = some (am_codeW 91) := by rfl
set_option maxRecDepth 1000000 in
theorem am_cd92 : am_nth lw_tbl (am_pcd 92) = some (am_codeW 92) := by rfl
set_option maxRecDepth 1000000 in
theorem am_cd93 : am_nth lw_tbl (am_pcd 93) = some (am_codeW 93) := by rfl
set_option maxRecDepth 1000000 in
theorem am_cd94 : am_nth lw_tbl (am_pcd 94) = some (am_codeW 94) := by rfl
set_option maxRecDepth 1000000 in
theorem am_cd95 : am_nth lw_tbl (am_pcd 95) = some (am_codeW 95) := by rfl
set_option maxRecDepth 1000000 in
theorem am_cd96 : am_nth lw_tbl (am_pcd 96) = some (am_codeW 96) := by rfl
set_option maxRecDepth 1000000 in
theorem am_cd97 : am_nth lw_tbl (am_pcd 97) = some (am_codeW 97) := by rfl
set_option maxRecDepth 1000000 in
theorem am_cd98 : am_nth lw_tbl (am_pcd 98) = some (am_codeW 98) := by rfl
set_option maxRecDepth 1000000 in
theorem am_cd99 : am_nth lw_tbl (am_pcd 99) = some (am_codeW 99) := by rfl
set_option maxRecDepth 1000000 in
theorem am_cd100 : am_nth lw_tbl (am_pcd 100) = some (am_codeW 100) := by rfl
set_option maxRecDepth 1000000 in
theorem am_cd101 : am_nth lw_tbl (am_pcd 101) = some (am_codeW 101) := by rfl
set_option maxRecDepth 1000000 in
theorem am_cd102 : am_nth lw_tbl (am_pcd 102) = some (am_codeW 102) := by rfl
set_option maxRecDepth 1000000 in
theorem am_cd103 : am_nth lw_tbl (am_pcd 103) = some (am_codeW 103) := by rfl
set_option maxRecDepth 1000000 in
theorem am_cd104 : am_nth lw_tbl (am_pcd 104) = some (am_codeW 104) := by rfl
set_option maxRecDepth 1000000 in
theorem am_cd105 : am_nth lw_tbl (am_pcd 105) = some (am_codeW 105) := by rfl
set_option maxRecDepth 1000000 in
theorem am_cd106 : am_nth lw_tbl (am_pcd 106) = some (am_codeW 106) := by rfl
set_option maxRecDepth 1000000 in
theorem am_cd107 : am_nth lw_tbl (am_pcd 107) = some (am_codeW 107) := by rfl
set_option maxRecDepth 1000000 in
theorem am_cd108 : am_nth lw_tbl (am_pcd 108) = some (am_codeW 108) := by rfl
set_option maxRecDepth 1000000 in
theorem am_cd109 : am_nth lw_tbl (am_pcd 109) = some (am_codeW 109) := by rfl
set_option maxRecDepth 1000000 in
theorem am_cd110 : am_nth lw_tbl (am_pcd 110) = some (am_codeW 110) := by rfl
set_option maxRecDepth 1000000 in
theorem am_cd111 : am_nth lw_tbl (am_pcd 111) = some (am_codeW 111) := by rfl
set_option maxRecDepth 1000000 in
theorem am_cd112 : am_nth lw_tbl (am_pcd 112) = some (am_codeW 112) := by rfl
set_option maxRecDepth 1000000 in
theorem am_cd113 : am_nth lw_tbl (am_pcd 113) = some (am_codeW 113) := by rfl
set_option maxRecDepth 1000000 in
theorem am_cd114 : am_nth lw_tbl (am_pcd 114) = some (am_codeW 114) := by rfl
set_option maxRecDepth 1000000 in
theorem am_cd115 : am_nth lw_tbl (am_pcd 115) = some (am_codeW 115) := by rfl
set_option maxRecDepth 1000000 in
theorem am_cd116 : am_nth lw_tbl (am_pcd 116) = some (am_codeW 116) := by rfl
set_option maxRecDepth 1000000 in
theorem am_cd117 : am_nth lw_tbl (am_pcd 117) = some (am_codeW 117) := by rfl
set_option maxRecDepth 1000000 in
theorem am_cd118 : am_nth lw_tbl (am_pcd 118) = some (am_codeW 118) := by rfl
set_option maxRecDepth 1000000 in
theorem am_cd119 : am_nth lw_tbl (am_pcd 119) = some (am_codeW 119) := by rfl
set_option maxRecDepth 1000000 in
theorem am_cd120 : am_nth lw_tbl (am_pcd 120) = some (am_codeW 120) := by rfl
set_option maxRecDepth 1000000 in
theorem am_cd121 : am_nth lw_tbl (am_pcd 121) = some (am_codeW 121) := by rfl
set_option maxRecDepth 1000000 in
theorem am_cd122 : am_nth lw_tbl (am_pcd 122) = some (am_codeW 122) := by rfl
set_option maxRecDepth 1000000 in
theorem am_cd123 : am_nth lw_tbl (am_pcd 123) = some (am_codeW 123) := by rfl
set_option maxRecDepth 1000000 in
theorem am_cd124 : am_nth lw_tbl (am_pcd 124) = some (am_codeW 124) := by rfl
set_option maxRecDepth 1000000 in
theorem am_cd125 : am_nth lw_tbl (am_pcd 125) = some (am_codeW 125) := by rfl
set_option maxRecDepth 1000000 in
theorem am_cd126 : am_nth lw_tbl (am_pcd 126) = some (am_codeW 126) := by rfl
set_option maxRecDepth 1000000 in
theorem am_cd127 : am_nth lw_tbl (am_pcd 127) = some (am_codeW 127) := by rfl
set_option maxRecDepth 1000000 in
theorem am_cd128 : am_nth lw_tbl (am_pcd 128) = some (am_codeW 128) := by rfl
set_option maxRecDepth 1000000 in
theorem am_cd129 : am_nth lw_tbl (am_pcd 129) = some (am_codeW 129) := by rfl
set_option maxRecDepth 1000000 in
theorem am_cd130 : am_nth lw_tbl (am_pcd 130) = some (am_codeW 130) := by rfl
set_option maxRecDepth 1000000 in
theorem am_cd131 : am_nth lw_tbl (am_pcd 131) = some (am_codeW 131) := by rfl
set_option maxRecDepth 1000000 in
theorem am_cd132 : am_nth lw_tbl (am_pcd 132) = some (am_codeW 132) := by rfl
set_option maxRecDepth 1000000 in
theorem am_cd133 : am_nth lw_tbl (am_pcd 133) = some (am_codeW 133) := by rfl
set_option maxRecDepth 1000000 in
theorem am_cd134 : am_nth lw_tbl (am_pcd 134) = some (am_codeW 134) := by rfl
set_option maxRecDepth 1000000 in
theorem am_cd135 : am_nth lw_tbl (am_pcd 135) = some (am_codeW 135) := by rfl
set_option maxRecDepth 1000000 in
theorem am_cd136 : am_nth lw_tbl (am_pcd 136) = some (am_codeW 136) := by rfl
set_option maxRecDepth 1000000 in
theorem am_cd137 : am_nth lw_tbl (am_pcd 137) = some (am_codeW 137) := by rfl
set_option maxRecDepth 1000000 in
theorem am_cd138 : am_nth lw_tbl (am_pcd 138) = some (am_codeW 138) := by rfl
set_option maxRecDepth 1000000 in
theorem am_cd139 : am_nth lw_tbl (am_pcd 139) = some (am_codeW 139) := by rfl
set_option maxRecDepth 1000000 in
theorem am_cd140 : am_nth lw_tbl (am_pcd 140) = some (am_codeW 140) := by rfl
set_option maxRecDepth 1000000 in
theorem am_cd141 : am_nth lw_tbl (am_pcd 141) = some (am_codeW 141) := by rfl
set_option maxRecDepth 1000000 in
theorem am_cd142 : am_nth lw_tbl (am_pcd 142) = some (am_codeW 142) := by rfl
set_option maxRecDepth 1000000 in
theorem am_cd143 : am_nth lw_tbl (am_pcd 143) = some (am_codeW 143) := by rfl
set_option maxRecDepth 1000000 in
theorem am_cd144 : am_nth lw_tbl (am_pcd 144) = some (am_codeW 144) := by rfl
set_option maxRecDepth 1000000 in
theorem am_cd145 : am_nth lw_tbl (am_pcd 145) = some (am_codeW 145) := by rfl
set_option maxRecDepth 1000000 in
theorem am_cd146 : am_nth lw_tbl (am_pcd 146) = some (am_codeW 146) := by rfl
set_option maxRecDepth 1000000 in
theorem am_cd147 : am_nth lw_tbl (am_pcd 147) = some (am_codeW 147) := by rfl
set_option maxRecDepth 1000000 in
theorem am_cd148 : am_nth lw_tbl (am_pcd 148) = some (am_codeW 148) := by rfl
set_option maxRecDepth 1000000 in
theorem am_cd149 : am_nth lw_tbl (am_pcd 149) = some (am_codeW 149) := by rfl
set_option maxRecDepth 1000000 in
theorem am_cd150 : am_nth lw_tbl (am_pcd 150) = some (am_codeW 150) := by rfl
set_option maxRecDepth 1000000 in
theorem am_cd151 : am_nth lw_tbl (am_pcd 151) = some (am_codeW 151) := by rfl
set_option maxRecDepth 1000000 in
theorem am_cd152 : am_nth lw_tbl (am_pcd 152) = some (am_codeW 152) := by rfl
set_option maxRecDepth 1000000 in
theorem am_cd153 : am_nth lw_tbl (am_pcd 153) = some (am_codeW 153) := by rfl
set_option maxRecDepth 1000000 in
theorem am_cd154 : am_nth lw_tbl (am_pcd 154) = some (am_codeW 154) := by rfl
set_option maxRecDepth 1000000 in
theorem am_cd155 : am_nth lw_tbl (am_pcd 155) = some (am_codeW 155) := by rfl
set_option maxRecDepth 1000000 in
theorem am_cd156 : am_nth lw_tbl (am_pcd 156) = some (am_codeW 156) := by rfl
set_option maxRecDepth 1000000 in
theorem am_cd157 : am_nth lw_tbl (am_pcd 157) = some (am_codeW 157) := by rfl
set_option maxRecDepth 1000000 in
theorem am_cd158 : am_nth lw_tbl (am_pcd 158) = some (am_codeW 158) := by rfl
set_option maxRecDepth 1000000 in
theorem am_cd159 : am_nth lw_tbl (am_pcd 159) = some (am_codeW 159) := by rfl
set_option maxRecDepth 1000000 in
theorem am_cd160 : am_nth lw_tbl (am_pcd 160) = some (am_codeW 160) := by rfl
set_option maxRecDepth 1000000 in
theorem am_cd161 : am_nth lw_tbl (am_pcd 161) = some (am_codeW 161) := by rfl
set_option maxRecDepth 1000000 in
theorem am_cd162 : am_nth lw_tbl (am_pcd 162) = some (am_codeW 162) := by rfl
set_option maxRecDepth 1000000 in
theorem am_cd163 : am_nth lw_tbl (am_pcd 163) = some (am_codeW 163) := by rfl
set_option maxRecDepth 1000000 in
theorem am_cd164 : am_nth lw_tbl (am_pcd 164) = some (am_codeW 164) := by rfl
set_option maxRecDepth 1000000 in
theorem am_cd165 : am_nth lw_tbl (am_pcd 165) = some (am_codeW 165) := by rfl
set_option maxRecDepth 1000000 in
theorem am_cd166 : am_nth lw_tbl (am_pcd 166) = some (am_codeW 166) := by rfl
set_option maxRecDepth 1000000 in
theorem am_cd167 : am_nth lw_tbl (am_pcd 167) = some (am_codeW 167) := by rfl
set_option maxRecDepth 1000000 in
theorem am_cd168 : am_nth lw_tbl (am_pcd 168) = some (am_codeW 168) := by rfl
set_option maxRecDepth 1000000 in
theorem am_cd169 : am_nth lw_tbl (am_pcd 169) = some (am_codeW 169) := by rfl
set_option maxRecDepth 1000000 in
theorem am_cd170 : am_nth lw_tbl (am_pcd 170) = some (am_codeW 170) := by rfl
set_option maxRecDepth 1000000 in
theorem am_cd171 : am_nth lw_tbl (am_pcd 171) = some (am_codeW 171) := by rfl
set_option maxRecDepth 1000000 in
theorem am_cd172 : am_nth lw_tbl (am_pcd 172) = some (am_codeW 172) := by rfl
set_option maxRecDepth 1000000 in
theorem am_cd173 : am_nth lw_tbl (am_pcd 173) = some (am_codeW 173) := by rfl
set_option maxRecDepth 1000000 in
theorem am_cd174 : am_nth lw_tbl (am_pcd 174) = some (am_codeW 174) := by rfl
set_option maxRecDepth 1000000 in
theorem am_cd175 : am_nth lw_tbl (am_pcd 175) = some (am_codeW 175) := by rfl
set_option maxRecDepth 1000000 in
theorem am_cd176 : am_nth lw_tbl (am_pcd 176) = some (am_codeW 176) := by rfl
set_option maxRecDepth 1000000 in
theorem am_cd177 : am_nth lw_tbl (am_pcd 177) = some (am_codeW 177) := by rfl
set_option maxRecDepth 1000000 in
theorem am_cd178 : am_nth lw_tbl (am_pcd 178) = some (am_codeW 178) := by rfl
set_option maxRecDepth 1000000 in
theorem am_cd179 : am_nth lw_tbl (am_pcd 179) = some (am_codeW 179) := by rfl
theorem am_code_ok : ∀ k, k < 180 → am_nth lw_tbl (am_pcd k) = some (am_codeW k) := by
  intro k hk
  match k, hk with
  | 0, _ => exact am_cd0
  | 1, _ => exact am_cd1
  | 2, _ => exact am_cd2
  | 3, _ => exact am_cd3
  | 4, _ => exact am_cd4
  | 5, _ => exact am_cd5
  | 6, _ => exact am_cd6
  | 7, _ => exact am_cd7
  | 8, _ => exact am_cd8
  | 9, _ => exact am_cd9
  | 10, _ => exact am_cd10
  | 11, _ => exact am_cd11
  | 12, _ => exact am_cd12
  | 13, _ => exact am_cd13
  | 14, _ => exact am_cd14
  | 15, _ => exact am_cd15
  | 16, _ => exact am_cd16
  | 17, _ => exact am_cd17
  | 18, _ => exact am_cd18
  | 19, _ => exact am_cd19
  | 20, _ => exact am_cd20
  | 21, _ => exact am_cd21
  | 22, _ => exact am_cd22
  | 23, _ => exact am_cd23
  | 24, _ => exact am_cd24
  | 25, _ => exact am_cd25
  | 26, _ => exact am_cd26
  | 27, _ => exact am_cd27
  | 28, _ => exact am_cd28
  | 29, _ => exact am_cd29
  | 30, _ => exact am_cd30
  | 31, _ => exact am_cd31
  | 32, _ => exact am_cd32
  | 33, _ => exact am_cd33
  | 34, _ => exact am_cd34
  | 35, _ => exact am_cd35
  | 36, _ => exact am_cd36
  | 37, _ => exact am_cd37
  | 38, _ => exact am_cd38
  | 39, _ => exact am_cd39
  | 40, _ => exact am_cd40
  | 41, _ => exact am_cd41
  | 42, _ => exact am_cd42
  | 43, _ => exact am_cd43
  | 44, _ => exact am_cd44
  | 45, _ => exact am_cd45
  | 46, _ => exact am_cd46
  | 47, _ => exact am_cd47
  | 48, _ => exact am_cd48
  | 49, _ => exact am_cd49
  | 50, _ => exact am_cd50
  | 51, _ => exact am_cd51
  | 52, _ => exact am_cd52
  | 53, _ => exact am_cd53
  | 54, _ => exact am_cd54
  | 55, _ => exact am_cd55
  | 56, _ => exact am_cd56
  | 57, _ => exact am_cd57
  | 58, _ => exact am_cd58
  | 59, _ => exact am_cd59
  | 60, _ => exact am_cd60
  | 61, _ => exact am_cd61
  | 62, _ => exact am_cd62
  | 63, _ => exact am_cd63
  | 64, _ => exact am_cd64
  | 65, _ => exact am_cd65
  | 66, _ => exact am_cd66
  | 67, _ => exact am_cd67
  | 68, _ => exact am_cd68
  | 69, _ => exact am_cd69
  | 70, _ => exact am_cd70
  | 71, _ => exact am_cd71
  | 72, _ => exact am_cd72
  | 73, _ => exact am_cd73
  | 74, _ => exact am_cd74
  | 75, _ => exact am_cd75
  | 76, _ => exact am_cd76
  | 77, _ => exact am_cd77
  | 78, _ => exact am_cd78
  | 79, _ => exact am_cd79
  | 80, _ => exact am_cd80
  | 81, _ => exact am_cd81
  | 82, _ => exact am_cd82
  | 83, _ => exact am_cd83
  | 84, _ => exact am_cd84
  | 85, _ => exact am_cd85
  | 86, _ => exact am_cd86
  | 87, _ => exact am_cd87
  | 88, _ => exact am_cd88
  | 89, _ => exact am_cd89
  | 90, _ => exact am_cd90
  | 91, _ => exact am_cd91
  | 92, _ => exact am_cd92
  | 93, _ => exact am_cd93
  | 94, _ => exact am_cd94
  | 95, _ => exact am_cd95
  | 96, _ => exact am_cd96
  | 97, _ => exact am_cd97
  | 98, _ => exact am_cd98
  | 99, _ => exact am_cd99
  | 100, _ => exact am_cd100
  | 101, _ => exact am_cd101
  | 102, _ => exact am_cd102
  | 103, _ => exact am_cd103
  | 104, _ => exact am_cd104
  | 105, _ => exact am_cd105
  | 106, _ => exact am_cd106
  | 107, _ => exact am_cd107
  | 108, _ => exact am_cd108
  | 109, _ => exact am_cd109
  | 110, _ => exact am_cd110
  | 111, _ => exact am_cd111
  | 112, _ => exact am_cd112
  | 113, _ => exact am_cd113
  | 114, _ => exact am_cd114
  | 115, _ => exact am_cd115
  | 116, _ => exact am_cd116
  | 117, _ => exact am_cd117
  | 118, _ => exact am_cd118
  | 119, _ => exact am_cd119
  | 120, _ => exact am_cd120
  | 121, _ => exact am_cd121
  | 122, _ => exact am_cd122
  | 123, _ => exact am_cd123
  | 124, _ => exact am_cd124
  | 125, _ => exact am_cd125
  | 126, _ => exact am_cd126
  | 127, _ => exact am_cd127
  | 128, _ => exact am_cd128
  | 129, _ => exact am_cd129
  | 130, _ => exact am_cd130
  | 131, _ => exact am_cd131
  | 132, _ => exact am_cd132
  | 133, _ => exact am_cd133
  | 134, _ => exact am_cd134
  | 135, _ => exact am_cd135
  | 136, _ => exact am_cd136
  | 137, _ => exact am_cd137
  | 138, _ => exact am_cd138
  | 139, _ => exact am_cd139
  | 140, _ => exact am_cd140
  | 141, _ => exact am_cd141
  | 142, _ => exact am_cd142
  | 143, _ => exact am_cd143
  | 144, _ => exact am_cd144
  | 145, _ => exact am_cd145
  | 146, _ => exact am_cd146
  | 147, _ => exact am_cd147
  | 148, _ => exact am_cd148
  | 149, _ => exact am_cd149
  | 150, _ => exact am_cd150
  | 151, _ => exact am_cd151
  | 152, _ => exact am_cd152
  | 153, _ => exact am_cd153
  | 154, _ => exact am_cd154
  | 155, _ => exact am_cd155
  | 156, _ => exact am_cd156
  | 157, _ => exact am_cd157
  | 158, _ => exact am_cd158
  | 159, _ => exact am_cd159
  | 160, _ => exact am_cd160
  | 161, _ => exact am_cd161
  | 162, _ => exact am_cd162
  | 163, _ => exact am_cd163
  | 164, _ => exact am_cd164
  | 165, _ => exact am_cd165
  | 166, _ => exact am_cd166
  | 167, _ => exact am_cd167
  | 168, _ => exact am_cd168
  | 169, _ => exact am_cd169
  | 170, _ => exact am_cd170
  | 171, _ => exact am_cd171
  | 172, _ => exact am_cd172
  | 173, _ => exact am_cd173
  | 174, _ => exact am_cd174
  | 175, _ => exact am_cd175
  | 176, _ => exact am_cd176
  | 177, _ => exact am_cd177
  | 178, _ => exact am_cd178
  | 179, _ => exact am_cd179
  | k + 180, h => exact absurd h (by omega)
