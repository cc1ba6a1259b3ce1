/-! the steps that touch no cell -/
theorem am_bi {b : Int} (h : -128 ≤ b ∧ b ≤ 127) : (Int8.ofInt b).toInt32 = Int32.ofInt b := by
  rw [← Int32.toInt_inj, Int8.toInt_toInt32, Int8.toInt_ofInt_of_le h.1 (by omega), Int32.toInt_ofInt_of_le (by omega) (by omega)]
theorem am_si {b : Int} (h : -32768 ≤ b ∧ b ≤ 32767) : (Int16.ofInt b).toInt32 = Int32.ofInt b := by
  rw [← Int32.toInt_inj, Int16.toInt_toInt32, Int16.toInt_ofInt_of_le h.1 (by omega), Int32.toInt_ofInt_of_le (by omega) (by omega)]
theorem am_rg8 {b : Int} (h : -128 ≤ b ∧ b ≤ 127) : am_rg b := by constructor <;> omega
theorem am_rg16 {b : Int} (h : -32768 ≤ b ∧ b ≤ 32767) : am_rg b := by constructor <;> omega
theorem am_rg0 : am_rg 0 := by constructor <;> decide
theorem am_f4 {a : Nat} (h : a < 4) : ((Fin.ofNat 4 a : Fin 4) : Nat) = a := Nat.mod_eq_of_lt h
theorem am_okL {ls : am_LS} {i : Nat} {v : am_V} (h : ∀ n u, am_nth ls n = some (some u) → am_ok u) (hv : am_ok v) : ∀ n u, am_nth (am_put ls i (some v)) n = some (some u) → am_ok u := by
  intro n u hu
  rw [am_put_nth] at hu
  split at hu
  · cases hu; exact hv
  · exact h n u hu
theorem am_okL2 {ls : am_LS} {i : Nat} {x : Int64} (h : ∀ n u, am_nth ls n = some (some u) → am_ok u) : ∀ n u, am_nth (am_put (am_put ls i (some (amL x))) (i + 1) none) n = some (some u) → am_ok u := by
  intro n u hu
  rw [am_put_nth] at hu
  split at hu
  · cases hu
  · exact am_okL (v := amL x) h trivial n u hu
theorem am_lv_idx {base : Nat} {sa : Nat → Nat} {ls : am_LS} {i : Nat} {v : am_V} (hv : am_nth ls i = some (some v)) : ∃ kk : Nat, (am_lv base sa 0 ls)[kk]? = some (i, am_en base sa v) :=
  List.getElem?_of_mem (am_lv_mem.mpr ⟨i, v, by omega, hv, rfl⟩)
theorem am_ne0 {y x : Int} (hy : am_rg y) (h : 0 ≤ x ∧ 0 < y) : ¬ Int32.ofInt y = 0 := by
  intro e
  have h2 := (am_eq32 hy am_rg0).mp e
  omega
theorem am_div32 {x y : Int} (hx : am_rg x) (hy : am_rg y) (h : 0 ≤ x ∧ 0 < y) : am_rg (x / y) ∧ Int32.ofInt (x / y) = Int32.ofInt x / Int32.ofInt y := by
  have h1 : 0 ≤ x / y := Int.ediv_nonneg h.1 (by omega)
  have h2 : x / y ≤ x := Int.ediv_le_self y h.1
  refine ⟨⟨by omega, by have := hx.2; omega⟩, ?_⟩
  rw [← Int32.toInt_inj, Int32.toInt_div, am_ti hx, am_ti hy, am_ti ⟨by omega, by have := hx.2; omega⟩, Int.tdiv_eq_ediv_of_nonneg h.1]
  rw [Int.bmod_eq_of_le (by have := hx.2; simp; omega) (by have := hx.2; simp; omega)]
theorem am_rem32 {x y : Int} (hx : am_rg x) (hy : am_rg y) (h : 0 ≤ x ∧ 0 < y) : am_rg (x % y) ∧ Int32.ofInt (x % y) = Int32.ofInt x - Int32.ofInt x / Int32.ofInt y * Int32.ofInt y := by
  have h1 : 0 ≤ x % y := Int.emod_nonneg x (by omega)
  have h2 : x % y < y := Int.emod_lt_of_pos x h.2
  refine ⟨⟨by omega, by have := hy.2; omega⟩, ?_⟩
  rw [← (am_div32 hx hy h).2, ← Int32.ofInt_mul, ← Int32.ofInt_sub]
  congr 1
  have h3 := Int.emod_add_mul_ediv x y
  have h4 : x / y * y = y * (x / y) := Int.mul_comm _ _
  omega
theorem am_nlt {x y : Int32} {A : Prop} (h : x < y ↔ A) (hle : y ≤ x) : ¬ A := fun ha => by
  have h1 := h.mpr ha
  rw [Int32.lt_iff_toInt_lt] at h1
  rw [Int32.le_iff_toInt_le] at hle
  omega
theorem am_ylt {x y : Int32} {A : Prop} (h : x < y ↔ A) (hle : ¬ y ≤ x) : A := h.mp (by
  rw [Int32.le_iff_toInt_le] at hle
  rw [Int32.lt_iff_toInt_lt]
  omega)
theorem am_swof {k pc t j : Nat} {tg : List Nat} {of : List Int} (h : (tg.map (fun t => (am_pc k t : Int))) = of.map (fun o => (pc : Int) + o)) (ht : tg[j]? = some t) : of[j]? = some ((am_pc k t : Int) - pc) := by
  have h1 : (of.map (fun o => (pc : Int) + o))[j]? = some (am_pc k t : Int) := by rw [← h]; simp [ht]
  rw [List.getElem?_map] at h1
  obtain ⟨o, h2, h3⟩ := Option.map_eq_some_iff.mp h1
  rw [h2]
  congr 1
  omega
section SND1
variable {l : Launch} {base : Nat} {sa : Nat → Nat} {cs : am_CS} {D : va_G} {E : am_E}
set_option maxHeartbeats 1000000 in
theorem am_s0 : am_OpS l base sa cs D E 0 am_o0 := by
  intro k ip pc a b cp pl hrow bd ls st m Q h
  obtain ⟨⟨il, ht, hd, hn⟩, hpc, hside, hword, hjmp, hsw⟩ := am_dec hrow
  unfold am_o0 at h
  obtain rfl := Option.some.inj ht
  refine am_intro hpc ?_
  intro p e S mm args below meth c H locs cells slots lsA hI
  obtain ⟨hC, hG, hS, hB, hR, hz, hL, hkL, hkS, hc1, hc2⟩ := id hI
  obtain ⟨hx, hb, hr, hml, hown, hts, hlk, hini⟩ := id hC
  refine lv_null hx hb hd ?_
  exact am_fin h ⟨hC, hG, hS, hB, hR, hz, hL, hkL, List.forall_mem_cons.mpr ⟨trivial, hkS⟩, hc1, hc2⟩ (hn rfl) (by rfl)
set_option maxHeartbeats 1000000 in
theorem am_s1 : am_OpS l base sa cs D E 1 am_o1 := by
  intro k ip pc a b cp pl hrow bd ls st m Q h
  obtain ⟨⟨il, ht, hd, hn⟩, hpc, hside, hword, hjmp, hsw⟩ := am_dec hrow
  unfold am_o1 at h
  obtain rfl := Option.some.inj ht
  refine am_intro hpc ?_
  intro p e S mm args below meth c H locs cells slots lsA hI
  obtain ⟨hC, hG, hS, hB, hR, hz, hL, hkL, hkS, hc1, hc2⟩ := id hI
  obtain ⟨hx, hb, hr, hml, hown, hts, hlk, hini⟩ := id hC
  refine lv_iconst hx hb hd rfl ?_
  exact am_fin h.2 ⟨hC, hG, hS, hB, hR, hz, hL, hkL, List.forall_mem_cons.mpr ⟨h.1, hkS⟩, hc1, hc2⟩ (hn rfl) (by rfl)
set_option maxHeartbeats 1000000 in
theorem am_s2 : am_OpS l base sa cs D E 2 am_o2 := by
  intro k ip pc a b cp pl hrow bd ls st m Q h
  obtain ⟨⟨il, ht, hd, hn⟩, hpc, hside, hword, hjmp, hsw⟩ := am_dec hrow
  unfold am_o2 at h
  obtain rfl := Option.some.inj ht
  refine am_intro hpc ?_
  intro p e S mm args below meth c H locs cells slots lsA hI
  obtain ⟨hC, hG, hS, hB, hR, hz, hL, hkL, hkS, hc1, hc2⟩ := id hI
  obtain ⟨hx, hb, hr, hml, hown, hts, hlk, hini⟩ := id hC
  refine lv_bipush hx hb hd (am_bi h.1) ?_
  exact am_fin h.2 ⟨hC, hG, hS, hB, hR, hz, hL, hkL, List.forall_mem_cons.mpr ⟨am_rg8 h.1, hkS⟩, hc1, hc2⟩ (hn rfl) (by rfl)
set_option maxHeartbeats 1000000 in
theorem am_s3 : am_OpS l base sa cs D E 3 am_o3 := by
  intro k ip pc a b cp pl hrow bd ls st m Q h
  obtain ⟨⟨il, ht, hd, hn⟩, hpc, hside, hword, hjmp, hsw⟩ := am_dec hrow
  unfold am_o3 at h
  obtain rfl := Option.some.inj ht
  refine am_intro hpc ?_
  intro p e S mm args below meth c H locs cells slots lsA hI
  obtain ⟨hC, hG, hS, hB, hR, hz, hL, hkL, hkS, hc1, hc2⟩ := id hI
  obtain ⟨hx, hb, hr, hml, hown, hts, hlk, hini⟩ := id hC
  refine lv_sipush hx hb hd (am_si h.1) ?_
  exact am_fin h.2 ⟨hC, hG, hS, hB, hR, hz, hL, hkL, List.forall_mem_cons.mpr ⟨am_rg16 h.1, hkS⟩, hc1, hc2⟩ (hn rfl) (by rfl)
set_option maxHeartbeats 1000000 in
theorem am_s4 : am_OpS l base sa cs D E 4 am_o1 := by
  intro k ip pc a b cp pl hrow bd ls st m Q h
  obtain ⟨⟨il, ht, hd, hn⟩, hpc, hside, hword, hjmp, hsw⟩ := am_dec hrow
  unfold am_o1 at h
  have hw := am_good_of (hword _ rfl) rfl
  refine am_intro hpc ?_
  intro p e S mm args below meth c H locs cells slots lsA hI
  obtain ⟨hC, hG, hS, hB, hR, hz, hL, hkL, hkS, hc1, hc2⟩ := id hI
  obtain ⟨hx, hb, hr, hml, hown, hts, hlk, hini⟩ := id hC
  simp only [am_toI] at ht
  split at ht
  · obtain rfl := Option.some.inj ht
    exact lv_ldc hx hb hown (hts _ hw) hd (am_fin h.2 ⟨hC, hG, hS, hB, hR, hz, hL, hkL, List.forall_mem_cons.mpr ⟨h.1, hkS⟩, hc1, hc2⟩ (hn rfl) rfl)
  · obtain rfl := Option.some.inj ht
    exact lv_ldcw hx hb hown (hts _ hw) hd (am_fin h.2 ⟨hC, hG, hS, hB, hR, hz, hL, hkL, List.forall_mem_cons.mpr ⟨h.1, hkS⟩, hc1, hc2⟩ (hn rfl) rfl)
set_option maxHeartbeats 1000000 in
theorem am_s5 : am_OpS l base sa cs D E 5 am_o5 := by
  intro k ip pc a b cp pl hrow bd ls st m Q h
  obtain ⟨⟨il, ht, hd, hn⟩, hpc, hside, hword, hjmp, hsw⟩ := am_dec hrow
  unfold am_o5 at h
  obtain rfl := Option.some.inj ht
  refine am_intro hpc ?_
  intro p e S mm args below meth c H locs cells slots lsA hI
  obtain ⟨hC, hG, hS, hB, hR, hz, hL, hkL, hkS, hc1, hc2⟩ := id hI
  obtain ⟨hx, hb, hr, hml, hown, hts, hlk, hini⟩ := id hC
  refine lv_fconst0 hx hb hd ?_
  exact am_fin h ⟨hC, hG, hS, hB, hR, hz, hL, hkL, List.forall_mem_cons.mpr ⟨trivial, hkS⟩, hc1, hc2⟩ (hn rfl) (by rfl)
set_option maxHeartbeats 1000000 in
theorem am_s6 : am_OpS l base sa cs D E 6 am_o6 := by
  intro k ip pc a b cp pl hrow bd ls st m Q h
  obtain ⟨⟨il, ht, hd, hn⟩, hpc, hside, hword, hjmp, hsw⟩ := am_dec hrow
  unfold am_o6 at h
  obtain rfl := Option.some.inj ht
  refine am_intro hpc ?_
  intro p e S mm args below meth c H locs cells slots lsA hI
  obtain ⟨hC, hG, hS, hB, hR, hz, hL, hkL, hkS, hc1, hc2⟩ := id hI
  obtain ⟨hx, hb, hr, hml, hown, hts, hlk, hini⟩ := id hC
  refine lv_fconst1 hx hb hd ?_
  exact am_fin h ⟨hC, hG, hS, hB, hR, hz, hL, hkL, List.forall_mem_cons.mpr ⟨trivial, hkS⟩, hc1, hc2⟩ (hn rfl) (by rfl)
set_option maxHeartbeats 1000000 in
theorem am_s7 : am_OpS l base sa cs D E 7 am_o7 := by
  intro k ip pc a b cp pl hrow bd ls st m Q h
  obtain ⟨⟨il, ht, hd, hn⟩, hpc, hside, hword, hjmp, hsw⟩ := am_dec hrow
  unfold am_o7 at h
  obtain rfl := Option.some.inj ht
  refine am_intro hpc ?_
  intro p e S mm args below meth c H locs cells slots lsA hI
  obtain ⟨hC, hG, hS, hB, hR, hz, hL, hkL, hkS, hc1, hc2⟩ := id hI
  obtain ⟨hx, hb, hr, hml, hown, hts, hlk, hini⟩ := id hC
  refine lv_fconst2 hx hb hd ?_
  exact am_fin h ⟨hC, hG, hS, hB, hR, hz, hL, hkL, List.forall_mem_cons.mpr ⟨trivial, hkS⟩, hc1, hc2⟩ (hn rfl) (by rfl)
set_option maxHeartbeats 1000000 in
theorem am_s8 : am_OpS l base sa cs D E 8 am_o8 := by
  intro k ip pc a b cp pl hrow bd ls st m Q h
  obtain ⟨⟨il, ht, hd, hn⟩, hpc, hside, hword, hjmp, hsw⟩ := am_dec hrow
  unfold am_o8 at h
  have hw := am_good_of (hword _ rfl) rfl
  refine am_intro hpc ?_
  intro p e S mm args below meth c H locs cells slots lsA hI
  obtain ⟨hC, hG, hS, hB, hR, hz, hL, hkL, hkS, hc1, hc2⟩ := id hI
  obtain ⟨hx, hb, hr, hml, hown, hts, hlk, hini⟩ := id hC
  simp only [am_toI] at ht
  split at ht
  · obtain rfl := Option.some.inj ht
    exact lv_ldcf hx hb hown (hts _ hw) hd (am_fin h ⟨hC, hG, hS, hB, hR, hz, hL, hkL, List.forall_mem_cons.mpr ⟨trivial, hkS⟩, hc1, hc2⟩ (hn rfl) rfl)
  · obtain rfl := Option.some.inj ht
    exact am_ldcwf hx hb hown (hts _ hw) hd (am_fin h ⟨hC, hG, hS, hB, hR, hz, hL, hkL, List.forall_mem_cons.mpr ⟨trivial, hkS⟩, hc1, hc2⟩ (hn rfl) rfl)
set_option maxHeartbeats 1000000 in
theorem am_s9 : am_OpS l base sa cs D E 9 am_o9 := by
  intro k ip pc a b cp pl hrow bd ls st m Q h
  obtain ⟨⟨il, ht, hd, hn⟩, hpc, hside, hword, hjmp, hsw⟩ := am_dec hrow
  unfold am_o9 at h
  obtain rfl := Option.some.inj ht
  have hw := am_good_of (hword _ rfl) rfl
  refine am_intro hpc ?_
  intro p e S mm args below meth c H locs cells slots lsA hI
  obtain ⟨hC, hG, hS, hB, hR, hz, hL, hkL, hkS, hc1, hc2⟩ := id hI
  obtain ⟨hx, hb, hr, hml, hown, hts, hlk, hini⟩ := id hC
  exact lv_ldc2 hx hb hown (hts _ hw) hd (am_fin h ⟨hC, hG, hS, hB, hR, hz, hL, hkL, List.forall_mem_cons.mpr ⟨trivial, hkS⟩, hc1, hc2⟩ (hn rfl) rfl)
set_option maxHeartbeats 1000000 in
theorem am_s10 : am_OpS l base sa cs D E 10 am_o10 := by
  intro k ip pc a b cp pl hrow bd ls st m Q h
  obtain ⟨⟨il, ht, hd, hn⟩, hpc, hside, hword, hjmp, hsw⟩ := am_dec hrow
  unfold am_o10 at h
  split at h
  next x hv =>
    refine am_intro hpc ?_
    intro p e S mm args below meth c H locs cells slots lsA hI
    obtain ⟨hC, hG, hS, hB, hR, hz, hL, hkL, hkS, hc1, hc2⟩ := id hI
    obtain ⟨hx, hb, hr, hml, hown, hts, hlk, hini⟩ := id hC
    simp only [am_toI, am_ld4] at ht
    split at ht
    · rename_i ha
      obtain rfl := Option.some.inj ht
      exact lv_iload_n hx hb hd (am_f4 ha) (am_lv_get hL hv) (am_fin h ⟨hC, hG, hS, hB, hR, hz, hL, hkL, List.forall_mem_cons.mpr ⟨hkL a _ hv, hkS⟩, hc1, hc2⟩ (hn rfl) rfl)
    · obtain rfl := Option.some.inj ht
      exact lv_iload hx hb hd (am_lv_get hL hv) (am_fin h ⟨hC, hG, hS, hB, hR, hz, hL, hkL, List.forall_mem_cons.mpr ⟨hkL a _ hv, hkS⟩, hc1, hc2⟩ (hn rfl) rfl)
  all_goals exact h.elim
set_option maxHeartbeats 1000000 in
theorem am_s11 : am_OpS l base sa cs D E 11 am_o11 := by
  intro k ip pc a b cp pl hrow bd ls st m Q h
  obtain ⟨⟨il, ht, hd, hn⟩, hpc, hside, hword, hjmp, hsw⟩ := am_dec hrow
  unfold am_o11 at h
  split at h
  next x hv =>
    refine am_intro hpc ?_
    intro p e S mm args below meth c H locs cells slots lsA hI
    obtain ⟨hC, hG, hS, hB, hR, hz, hL, hkL, hkS, hc1, hc2⟩ := id hI
    obtain ⟨hx, hb, hr, hml, hown, hts, hlk, hini⟩ := id hC
    simp only [am_toI, am_ld4] at ht
    split at ht
    · rename_i ha
      obtain rfl := Option.some.inj ht
      exact lv_lload_n hx hb hd (am_f4 ha) (am_lv_get hL hv) (am_fin h ⟨hC, hG, hS, hB, hR, hz, hL, hkL, List.forall_mem_cons.mpr ⟨trivial, hkS⟩, hc1, hc2⟩ (hn rfl) rfl)
    · obtain rfl := Option.some.inj ht
      exact lv_lload hx hb hd (am_lv_get hL hv) (am_fin h ⟨hC, hG, hS, hB, hR, hz, hL, hkL, List.forall_mem_cons.mpr ⟨trivial, hkS⟩, hc1, hc2⟩ (hn rfl) rfl)
  all_goals exact h.elim
set_option maxHeartbeats 1000000 in
theorem am_s12 : am_OpS l base sa cs D E 12 am_o12 := by
  intro k ip pc a b cp pl hrow bd ls st m Q h
  obtain ⟨⟨il, ht, hd, hn⟩, hpc, hside, hword, hjmp, hsw⟩ := am_dec hrow
  unfold am_o12 at h
  split at h
  next x hv =>
    refine am_intro hpc ?_
    intro p e S mm args below meth c H locs cells slots lsA hI
    obtain ⟨hC, hG, hS, hB, hR, hz, hL, hkL, hkS, hc1, hc2⟩ := id hI
    obtain ⟨hx, hb, hr, hml, hown, hts, hlk, hini⟩ := id hC
    simp only [am_toI, am_ld4] at ht
    split at ht
    · rename_i ha
      obtain rfl := Option.some.inj ht
      exact lv_fload_n hx hb hd (am_f4 ha) (am_lv_get hL hv) (am_fin h ⟨hC, hG, hS, hB, hR, hz, hL, hkL, List.forall_mem_cons.mpr ⟨trivial, hkS⟩, hc1, hc2⟩ (hn rfl) rfl)
    · obtain rfl := Option.some.inj ht
      exact lv_fload hx hb hd (am_lv_get hL hv) (am_fin h ⟨hC, hG, hS, hB, hR, hz, hL, hkL, List.forall_mem_cons.mpr ⟨trivial, hkS⟩, hc1, hc2⟩ (hn rfl) rfl)
  all_goals exact h.elim
set_option maxHeartbeats 1000000 in
theorem am_s13 : am_OpS l base sa cs D E 13 am_o13 := by
  intro k ip pc a b cp pl hrow bd ls st m Q h
  obtain ⟨⟨il, ht, hd, hn⟩, hpc, hside, hword, hjmp, hsw⟩ := am_dec hrow
  unfold am_o13 at h
  split at h
  next x hv =>
    refine am_intro hpc ?_
    intro p e S mm args below meth c H locs cells slots lsA hI
    obtain ⟨hC, hG, hS, hB, hR, hz, hL, hkL, hkS, hc1, hc2⟩ := id hI
    obtain ⟨hx, hb, hr, hml, hown, hts, hlk, hini⟩ := id hC
    simp only [am_toI, am_ld4] at ht
    split at ht
    · rename_i ha
      obtain rfl := Option.some.inj ht
      cases x with
      | none => exact lv_aload_nN hx hb hd (am_f4 ha) (am_lv_get hL hv) (am_fin h ⟨hC, hG, hS, hB, hR, hz, hL, hkL, List.forall_mem_cons.mpr ⟨trivial, hkS⟩, hc1, hc2⟩ (hn rfl) rfl)
      | some x => exact lv_aload_n hx hb hd (am_f4 ha) (am_lv_get hL hv) (am_fin h ⟨hC, hG, hS, hB, hR, hz, hL, hkL, List.forall_mem_cons.mpr ⟨trivial, hkS⟩, hc1, hc2⟩ (hn rfl) rfl)
    · obtain rfl := Option.some.inj ht
      cases x with
      | none => exact lv_aloadN hx hb hd (am_lv_get hL hv) (am_fin h ⟨hC, hG, hS, hB, hR, hz, hL, hkL, List.forall_mem_cons.mpr ⟨trivial, hkS⟩, hc1, hc2⟩ (hn rfl) rfl)
      | some x => exact lv_aload hx hb hd (am_lv_get hL hv) (am_fin h ⟨hC, hG, hS, hB, hR, hz, hL, hkL, List.forall_mem_cons.mpr ⟨trivial, hkS⟩, hc1, hc2⟩ (hn rfl) rfl)
  all_goals exact h.elim
set_option maxHeartbeats 1000000 in
theorem am_s14 : am_OpS l base sa cs D E 14 am_o14 := by
  intro k ip pc a b cp pl hrow bd ls st m Q h
  obtain ⟨⟨il, ht, hd, hn⟩, hpc, hside, hword, hjmp, hsw⟩ := am_dec hrow
  unfold am_o14 at h
  split at h
  next x st =>
    split at h
    next ho =>
      refine am_intro hpc ?_
      intro p e S mm args below meth c H locs cells slots lsA hI
      obtain ⟨hC, hG, hS, hB, hR, hz, hL, hkL, hkS, hc1, hc2⟩ := id hI
      obtain ⟨hx, hb, hr, hml, hown, hts, hlk, hini⟩ := id hC
      have hxx := (List.forall_mem_cons.mp hkS).1
      have hk := (List.forall_mem_cons.mp hkS).2
      have hlt := of_decide_eq_true hside
      simp only [am_toI, am_ld4] at ht
      split at ht
      · rename_i ha
        obtain rfl := Option.some.inj ht
        exact lv_istore_n hx hb hd (am_f4 ha) hL hlt rfl (fun lsA2 hL2 => am_fin h ⟨hC, hG, hS, hB, hR, hz, am_lv_st1 (v := amI x) ho hL2, am_okL hkL hxx, hk, hc1, hc2⟩ (hn rfl) rfl)
      · obtain rfl := Option.some.inj ht
        exact lv_istore hx hb hd hL hlt rfl (fun lsA2 hL2 => am_fin h ⟨hC, hG, hS, hB, hR, hz, am_lv_st1 (v := amI x) ho hL2, am_okL hkL hxx, hk, hc1, hc2⟩ (hn rfl) rfl)
    all_goals exact h.elim
  all_goals exact h.elim
set_option maxHeartbeats 1000000 in
theorem am_s15 : am_OpS l base sa cs D E 15 am_o15 := by
  intro k ip pc a b cp pl hrow bd ls st m Q h
  obtain ⟨⟨il, ht, hd, hn⟩, hpc, hside, hword, hjmp, hsw⟩ := am_dec hrow
  unfold am_o15 at h
  split at h
  next x st =>
    split at h
    next ho =>
      refine am_intro hpc ?_
      intro p e S mm args below meth c H locs cells slots lsA hI
      obtain ⟨hC, hG, hS, hB, hR, hz, hL, hkL, hkS, hc1, hc2⟩ := id hI
      obtain ⟨hx, hb, hr, hml, hown, hts, hlk, hini⟩ := id hC
      have hxx := (List.forall_mem_cons.mp hkS).1
      have hk := (List.forall_mem_cons.mp hkS).2
      have hlt := of_decide_eq_true hside
      simp only [am_toI, am_ld4] at ht
      split at ht
      · rename_i ha
        obtain rfl := Option.some.inj ht
        exact lv_lstore_n hx hb hd (am_f4 ha) hL hlt rfl (fun lsA2 hL2 => am_fin h ⟨hC, hG, hS, hB, hR, hz, am_lv_st2 ho hL2, am_okL2 hkL, hk, hc1, hc2⟩ (hn rfl) rfl)
      · obtain rfl := Option.some.inj ht
        exact lv_lstore hx hb hd hL hlt rfl (fun lsA2 hL2 => am_fin h ⟨hC, hG, hS, hB, hR, hz, am_lv_st2 ho hL2, am_okL2 hkL, hk, hc1, hc2⟩ (hn rfl) rfl)
    all_goals exact h.elim
  all_goals exact h.elim
set_option maxHeartbeats 1000000 in
theorem am_s16 : am_OpS l base sa cs D E 16 am_o16 := by
  intro k ip pc a b cp pl hrow bd ls st m Q h
  obtain ⟨⟨il, ht, hd, hn⟩, hpc, hside, hword, hjmp, hsw⟩ := am_dec hrow
  unfold am_o16 at h
  split at h
  next x st =>
    split at h
    next ho =>
      refine am_intro hpc ?_
      intro p e S mm args below meth c H locs cells slots lsA hI
      obtain ⟨hC, hG, hS, hB, hR, hz, hL, hkL, hkS, hc1, hc2⟩ := id hI
      obtain ⟨hx, hb, hr, hml, hown, hts, hlk, hini⟩ := id hC
      have hxx := (List.forall_mem_cons.mp hkS).1
      have hk := (List.forall_mem_cons.mp hkS).2
      have hlt := of_decide_eq_true hside
      simp only [am_toI, am_ld4] at ht
      split at ht
      · rename_i ha
        obtain rfl := Option.some.inj ht
        exact lv_fstore_n hx hb hd (am_f4 ha) hL hlt rfl (fun lsA2 hL2 => am_fin h ⟨hC, hG, hS, hB, hR, hz, am_lv_st1 (v := amF x) ho hL2, am_okL hkL trivial, hk, hc1, hc2⟩ (hn rfl) rfl)
      · obtain rfl := Option.some.inj ht
        exact lv_fstore hx hb hd hL hlt rfl (fun lsA2 hL2 => am_fin h ⟨hC, hG, hS, hB, hR, hz, am_lv_st1 (v := amF x) ho hL2, am_okL hkL trivial, hk, hc1, hc2⟩ (hn rfl) rfl)
    all_goals exact h.elim
  all_goals exact h.elim
set_option maxHeartbeats 1000000 in
theorem am_s17 : am_OpS l base sa cs D E 17 am_o17 := by
  intro k ip pc a b cp pl hrow bd ls st m Q h
  obtain ⟨⟨il, ht, hd, hn⟩, hpc, hside, hword, hjmp, hsw⟩ := am_dec hrow
  unfold am_o17 at h
  split at h
  next x st =>
    split at h
    next ho =>
      refine am_intro hpc ?_
      intro p e S mm args below meth c H locs cells slots lsA hI
      obtain ⟨hC, hG, hS, hB, hR, hz, hL, hkL, hkS, hc1, hc2⟩ := id hI
      obtain ⟨hx, hb, hr, hml, hown, hts, hlk, hini⟩ := id hC
      have hxx := (List.forall_mem_cons.mp hkS).1
      have hk := (List.forall_mem_cons.mp hkS).2
      have hlt := of_decide_eq_true hside
      simp only [am_toI, am_ld4] at ht
      split at ht
      · rename_i ha
        obtain rfl := Option.some.inj ht
        cases x with
        | none => exact lv_astore_nN hx hb hd (am_f4 ha) hL hlt rfl (fun lsA2 hL2 => am_fin h ⟨hC, hG, hS, hB, hR, hz, am_lv_st1 (v := amN) ho hL2, am_okL hkL trivial, hk, hc1, hc2⟩ (hn rfl) rfl)
        | some x => exact lv_astore_n hx hb hd (am_f4 ha) hL hlt rfl (fun lsA2 hL2 => am_fin h ⟨hC, hG, hS, hB, hR, hz, am_lv_st1 (v := amR x) ho hL2, am_okL hkL trivial, hk, hc1, hc2⟩ (hn rfl) rfl)
      · obtain rfl := Option.some.inj ht
        cases x with
        | none => exact lv_astoreN hx hb hd hL hlt rfl (fun lsA2 hL2 => am_fin h ⟨hC, hG, hS, hB, hR, hz, am_lv_st1 (v := amN) ho hL2, am_okL hkL trivial, hk, hc1, hc2⟩ (hn rfl) rfl)
        | some x => exact lv_astore hx hb hd hL hlt rfl (fun lsA2 hL2 => am_fin h ⟨hC, hG, hS, hB, hR, hz, am_lv_st1 (v := amR x) ho hL2, am_okL hkL trivial, hk, hc1, hc2⟩ (hn rfl) rfl)
    all_goals exact h.elim
  all_goals exact h.elim
set_option maxHeartbeats 1000000 in
theorem am_s18 : am_OpS l base sa cs D E 18 am_o18 := by
  intro k ip pc a b cp pl hrow bd ls st m Q h
  obtain ⟨⟨il, ht, hd, hn⟩, hpc, hside, hword, hjmp, hsw⟩ := am_dec hrow
  unfold am_o18 at h
  obtain rfl := Option.some.inj ht
  split at h
  next x hv =>
    split at h
    next ho =>
      refine am_intro hpc ?_
      intro p e S mm args below meth c H locs cells slots lsA hI
      obtain ⟨hC, hG, hS, hB, hR, hz, hL, hkL, hkS, hc1, hc2⟩ := id hI
      obtain ⟨hx, hb, hr, hml, hown, hts, hlk, hini⟩ := id hC
      have hlt := of_decide_eq_true hside
      obtain ⟨kk, hkk⟩ := am_lv_idx (base := base) (sa := sa) hv
      exact lv_iinc hx hb hd hL hkk (Int32.ofInt_add ..).symm hlt rfl (fun lsA2 hL2 => am_fin h.2 ⟨hC, hG, hS, hB, hR, hz, am_lv_st1 (v := amI (x + b)) ho hL2, am_okL hkL h.1, hkS, hc1, hc2⟩ (hn rfl) rfl)
    all_goals exact h.elim
  all_goals exact h.elim
set_option maxHeartbeats 1000000 in
theorem am_s19 : am_OpS l base sa cs D E 19 am_o19 := by
  intro k ip pc a b cp pl hrow bd ls st m Q h
  obtain ⟨⟨il, ht, hd, hn⟩, hpc, hside, hword, hjmp, hsw⟩ := am_dec hrow
  unfold am_o19 at h
  obtain rfl := Option.some.inj ht
  split at h
  next y x st =>
    refine am_intro hpc ?_
    intro p e S mm args below meth c H locs cells slots lsA hI
    obtain ⟨hC, hG, hS, hB, hR, hz, hL, hkL, hkS, hc1, hc2⟩ := id hI
    obtain ⟨hx, hb, hr, hml, hown, hts, hlk, hini⟩ := id hC
    have vy := (List.forall_mem_cons.mp hkS).1
    have hk0 := (List.forall_mem_cons.mp hkS).2
    have vx := (List.forall_mem_cons.mp hk0).1
    have hk1 := (List.forall_mem_cons.mp hk0).2
    refine lv_iadd hx hb hd ?_
    exact am_fin h.2 ⟨hC, hG, hS, hB, hR, hz, hL, hkL, List.forall_mem_cons.mpr ⟨h.1, hk1⟩, hc1, hc2⟩ (hn rfl) (by simp [am_en, Int32.ofInt_add])
  all_goals exact h.elim
set_option maxHeartbeats 1000000 in
theorem am_s20 : am_OpS l base sa cs D E 20 am_o20 := by
  intro k ip pc a b cp pl hrow bd ls st m Q h
  obtain ⟨⟨il, ht, hd, hn⟩, hpc, hside, hword, hjmp, hsw⟩ := am_dec hrow
  unfold am_o20 at h
  obtain rfl := Option.some.inj ht
  split at h
  next y x st =>
    refine am_intro hpc ?_
    intro p e S mm args below meth c H locs cells slots lsA hI
    obtain ⟨hC, hG, hS, hB, hR, hz, hL, hkL, hkS, hc1, hc2⟩ := id hI
    obtain ⟨hx, hb, hr, hml, hown, hts, hlk, hini⟩ := id hC
    have vy := (List.forall_mem_cons.mp hkS).1
    have hk0 := (List.forall_mem_cons.mp hkS).2
    have vx := (List.forall_mem_cons.mp hk0).1
    have hk1 := (List.forall_mem_cons.mp hk0).2
    refine lv_isub hx hb hd ?_
    exact am_fin h.2 ⟨hC, hG, hS, hB, hR, hz, hL, hkL, List.forall_mem_cons.mpr ⟨h.1, hk1⟩, hc1, hc2⟩ (hn rfl) (by simp [am_en, Int32.ofInt_sub])
  all_goals exact h.elim
set_option maxHeartbeats 1000000 in
theorem am_s21 : am_OpS l base sa cs D E 21 am_o21 := by
  intro k ip pc a b cp pl hrow bd ls st m Q h
  obtain ⟨⟨il, ht, hd, hn⟩, hpc, hside, hword, hjmp, hsw⟩ := am_dec hrow
  unfold am_o21 at h
  obtain rfl := Option.some.inj ht
  split at h
  next y x st =>
    refine am_intro hpc ?_
    intro p e S mm args below meth c H locs cells slots lsA hI
    obtain ⟨hC, hG, hS, hB, hR, hz, hL, hkL, hkS, hc1, hc2⟩ := id hI
    obtain ⟨hx, hb, hr, hml, hown, hts, hlk, hini⟩ := id hC
    have vy := (List.forall_mem_cons.mp hkS).1
    have hk0 := (List.forall_mem_cons.mp hkS).2
    have vx := (List.forall_mem_cons.mp hk0).1
    have hk1 := (List.forall_mem_cons.mp hk0).2
    refine lv_imul hx hb hd ?_
    exact am_fin h.2 ⟨hC, hG, hS, hB, hR, hz, hL, hkL, List.forall_mem_cons.mpr ⟨h.1, hk1⟩, hc1, hc2⟩ (hn rfl) (by simp [am_en, Int32.ofInt_mul])
  all_goals exact h.elim
set_option maxHeartbeats 1000000 in
theorem am_s22 : am_OpS l base sa cs D E 22 am_o22 := by
  intro k ip pc a b cp pl hrow bd ls st m Q h
  obtain ⟨⟨il, ht, hd, hn⟩, hpc, hside, hword, hjmp, hsw⟩ := am_dec hrow
  unfold am_o22 at h
  obtain rfl := Option.some.inj ht
  split at h
  next y x st =>
    refine am_intro hpc ?_
    intro p e S mm args below meth c H locs cells slots lsA hI
    obtain ⟨hC, hG, hS, hB, hR, hz, hL, hkL, hkS, hc1, hc2⟩ := id hI
    obtain ⟨hx, hb, hr, hml, hown, hts, hlk, hini⟩ := id hC
    have vy := (List.forall_mem_cons.mp hkS).1
    have hk0 := (List.forall_mem_cons.mp hkS).2
    have vx := (List.forall_mem_cons.mp hk0).1
    have hk1 := (List.forall_mem_cons.mp hk0).2
    refine lv_idiv hx hb hd (am_ne0 vy h.1) ?_
    exact am_fin h.2 ⟨hC, hG, hS, hB, hR, hz, hL, hkL, List.forall_mem_cons.mpr ⟨(am_div32 vx vy h.1).1, hk1⟩, hc1, hc2⟩ (hn rfl) (by simp only [List.map_cons, am_en, (am_div32 vx vy h.1).2])
  all_goals exact h.elim
set_option maxHeartbeats 1000000 in
theorem am_s23 : am_OpS l base sa cs D E 23 am_o23 := by
  intro k ip pc a b cp pl hrow bd ls st m Q h
  obtain ⟨⟨il, ht, hd, hn⟩, hpc, hside, hword, hjmp, hsw⟩ := am_dec hrow
  unfold am_o23 at h
  obtain rfl := Option.some.inj ht
  split at h
  next y x st =>
    refine am_intro hpc ?_
    intro p e S mm args below meth c H locs cells slots lsA hI
    obtain ⟨hC, hG, hS, hB, hR, hz, hL, hkL, hkS, hc1, hc2⟩ := id hI
    obtain ⟨hx, hb, hr, hml, hown, hts, hlk, hini⟩ := id hC
    have vy := (List.forall_mem_cons.mp hkS).1
    have hk0 := (List.forall_mem_cons.mp hkS).2
    have vx := (List.forall_mem_cons.mp hk0).1
    have hk1 := (List.forall_mem_cons.mp hk0).2
    refine lv_irem hx hb hd (am_ne0 vy h.1) ?_
    exact am_fin h.2 ⟨hC, hG, hS, hB, hR, hz, hL, hkL, List.forall_mem_cons.mpr ⟨(am_rem32 vx vy h.1).1, hk1⟩, hc1, hc2⟩ (hn rfl) (by simp only [List.map_cons, am_en, (am_rem32 vx vy h.1).2])
  all_goals exact h.elim
set_option maxHeartbeats 1000000 in
theorem am_s24 : am_OpS l base sa cs D E 24 am_o24 := by
  intro k ip pc a b cp pl hrow bd ls st m Q h
  obtain ⟨⟨il, ht, hd, hn⟩, hpc, hside, hword, hjmp, hsw⟩ := am_dec hrow
  unfold am_o24 at h
  obtain rfl := Option.some.inj ht
  split at h
  next x st =>
    refine am_intro hpc ?_
    intro p e S mm args below meth c H locs cells slots lsA hI
    obtain ⟨hC, hG, hS, hB, hR, hz, hL, hkL, hkS, hc1, hc2⟩ := id hI
    obtain ⟨hx, hb, hr, hml, hown, hts, hlk, hini⟩ := id hC
    have vx := (List.forall_mem_cons.mp hkS).1
    have hk0 := (List.forall_mem_cons.mp hkS).2
    refine lv_ineg hx hb hd ?_
    exact am_fin h.2 ⟨hC, hG, hS, hB, hR, hz, hL, hkL, List.forall_mem_cons.mpr ⟨h.1, hk0⟩, hc1, hc2⟩ (hn rfl) (by simp [am_en, Int32.ofInt_neg])
  all_goals exact h.elim
set_option maxHeartbeats 1000000 in
theorem am_s25 : am_OpS l base sa cs D E 25 am_o25 := by
  intro k ip pc a b cp pl hrow bd ls st m Q h
  obtain ⟨⟨il, ht, hd, hn⟩, hpc, hside, hword, hjmp, hsw⟩ := am_dec hrow
  unfold am_o25 at h
  obtain rfl := Option.some.inj ht
  split at h
  next y x st =>
    refine am_intro hpc ?_
    intro p e S mm args below meth c H locs cells slots lsA hI
    obtain ⟨hC, hG, hS, hB, hR, hz, hL, hkL, hkS, hc1, hc2⟩ := id hI
    obtain ⟨hx, hb, hr, hml, hown, hts, hlk, hini⟩ := id hC
    have vy := (List.forall_mem_cons.mp hkS).1
    have hk0 := (List.forall_mem_cons.mp hkS).2
    have vx := (List.forall_mem_cons.mp hk0).1
    have hk1 := (List.forall_mem_cons.mp hk0).2
    refine lv_iand hx hb hd ?_
    exact am_fin h ⟨hC, hG, hS, hB, hR, hz, hL, hkL, List.forall_mem_cons.mpr ⟨am_rg32 _, hk1⟩, hc1, hc2⟩ (hn rfl) (by simp [am_en, am_and, am_ofTi])
  all_goals exact h.elim
set_option maxHeartbeats 1000000 in
theorem am_s26 : am_OpS l base sa cs D E 26 am_o26 := by
  intro k ip pc a b cp pl hrow bd ls st m Q h
  obtain ⟨⟨il, ht, hd, hn⟩, hpc, hside, hword, hjmp, hsw⟩ := am_dec hrow
  unfold am_o26 at h
  obtain rfl := Option.some.inj ht
  split at h
  next y x st =>
    refine am_intro hpc ?_
    intro p e S mm args below meth c H locs cells slots lsA hI
    obtain ⟨hC, hG, hS, hB, hR, hz, hL, hkL, hkS, hc1, hc2⟩ := id hI
    obtain ⟨hx, hb, hr, hml, hown, hts, hlk, hini⟩ := id hC
    have vy := (List.forall_mem_cons.mp hkS).1
    have hk0 := (List.forall_mem_cons.mp hkS).2
    have vx := (List.forall_mem_cons.mp hk0).1
    have hk1 := (List.forall_mem_cons.mp hk0).2
    refine lv_ior hx hb hd ?_
    exact am_fin h ⟨hC, hG, hS, hB, hR, hz, hL, hkL, List.forall_mem_cons.mpr ⟨am_rg32 _, hk1⟩, hc1, hc2⟩ (hn rfl) (by simp [am_en, am_or, am_ofTi])
  all_goals exact h.elim
set_option maxHeartbeats 1000000 in
theorem am_s27 : am_OpS l base sa cs D E 27 am_o27 := by
  intro k ip pc a b cp pl hrow bd ls st m Q h
  obtain ⟨⟨il, ht, hd, hn⟩, hpc, hside, hword, hjmp, hsw⟩ := am_dec hrow
  unfold am_o27 at h
  obtain rfl := Option.some.inj ht
  split at h
  next y x st =>
    refine am_intro hpc ?_
    intro p e S mm args below meth c H locs cells slots lsA hI
    obtain ⟨hC, hG, hS, hB, hR, hz, hL, hkL, hkS, hc1, hc2⟩ := id hI
    obtain ⟨hx, hb, hr, hml, hown, hts, hlk, hini⟩ := id hC
    have vy := (List.forall_mem_cons.mp hkS).1
    have hk0 := (List.forall_mem_cons.mp hkS).2
    have vx := (List.forall_mem_cons.mp hk0).1
    have hk1 := (List.forall_mem_cons.mp hk0).2
    refine lv_ishl hx hb hd ?_
    exact am_fin h ⟨hC, hG, hS, hB, hR, hz, hL, hkL, List.forall_mem_cons.mpr ⟨am_rg32 _, hk1⟩, hc1, hc2⟩ (hn rfl) (by simp [am_en, am_shl, am_ofTi])
  all_goals exact h.elim
theorem am_s90 : am_OpS l base sa cs D E 90 am_o90 := by
  intro k ip pc a b cp pl hrow bd ls st m Q h
  obtain ⟨⟨il, ht, hd, hn⟩, hpc, hside, hword, hjmp, hsw⟩ := am_dec hrow
  unfold am_o90 at h
  obtain rfl := Option.some.inj ht
  split at h
  next y x st =>
    refine am_intro hpc ?_
    intro p e S mm args below meth c H locs cells slots lsA hI
    obtain ⟨hC, hG, hS, hB, hR, hz, hL, hkL, hkS, hc1, hc2⟩ := id hI
    obtain ⟨hx, hb, hr, hml, hown, hts, hlk, hini⟩ := id hC
    have vy := (List.forall_mem_cons.mp hkS).1
    have hk0 := (List.forall_mem_cons.mp hkS).2
    have vx := (List.forall_mem_cons.mp hk0).1
    have hk1 := (List.forall_mem_cons.mp hk0).2
    refine lv_ishr hx hb hd ?_
    exact am_fin h ⟨hC, hG, hS, hB, hR, hz, hL, hkL, List.forall_mem_cons.mpr ⟨am_rg32 _, hk1⟩, hc1, hc2⟩ (hn rfl) (by simp [am_en, am_shr, am_ofTi])
  all_goals exact h.elim
set_option maxHeartbeats 1000000 in
theorem am_s28 : am_OpS l base sa cs D E 28 am_o28 := by
  intro k ip pc a b cp pl hrow bd ls st m Q h
  obtain ⟨⟨il, ht, hd, hn⟩, hpc, hside, hword, hjmp, hsw⟩ := am_dec hrow
  unfold am_o28 at h
  obtain rfl := Option.some.inj ht
  split at h
  next x st =>
    refine am_intro hpc ?_
    intro p e S mm args below meth c H locs cells slots lsA hI
    obtain ⟨hC, hG, hS, hB, hR, hz, hL, hkL, hkS, hc1, hc2⟩ := id hI
    obtain ⟨hx, hb, hr, hml, hown, hts, hlk, hini⟩ := id hC
    have vx := (List.forall_mem_cons.mp hkS).1
    have hk0 := (List.forall_mem_cons.mp hkS).2
    refine lv_i2b hx hb hd rfl ?_
    exact am_fin h ⟨hC, hG, hS, hB, hR, hz, hL, hkL, List.forall_mem_cons.mpr ⟨am_rg32 _, hk0⟩, hc1, hc2⟩ (hn rfl) (by simp only [List.map_cons, am_en, am_i2b, am_ofTi])
  all_goals exact h.elim
set_option maxHeartbeats 1000000 in
theorem am_s29 : am_OpS l base sa cs D E 29 am_o29 := by
  intro k ip pc a b cp pl hrow bd ls st m Q h
  obtain ⟨⟨il, ht, hd, hn⟩, hpc, hside, hword, hjmp, hsw⟩ := am_dec hrow
  unfold am_o29 at h
  obtain rfl := Option.some.inj ht
  split at h
  next x st =>
    refine am_intro hpc ?_
    intro p e S mm args below meth c H locs cells slots lsA hI
    obtain ⟨hC, hG, hS, hB, hR, hz, hL, hkL, hkS, hc1, hc2⟩ := id hI
    obtain ⟨hx, hb, hr, hml, hown, hts, hlk, hini⟩ := id hC
    have vx := (List.forall_mem_cons.mp hkS).1
    have hk0 := (List.forall_mem_cons.mp hkS).2
    refine lv_i2l hx hb hd rfl ?_
    exact am_fin h ⟨hC, hG, hS, hB, hR, hz, hL, hkL, List.forall_mem_cons.mpr ⟨trivial, hk0⟩, hc1, hc2⟩ (hn rfl) (by rfl)
  all_goals exact h.elim
set_option maxHeartbeats 1000000 in
theorem am_s30 : am_OpS l base sa cs D E 30 am_o30 := by
  intro k ip pc a b cp pl hrow bd ls st m Q h
  obtain ⟨⟨il, ht, hd, hn⟩, hpc, hside, hword, hjmp, hsw⟩ := am_dec hrow
  unfold am_o30 at h
  obtain rfl := Option.some.inj ht
  split at h
  next x st =>
    refine am_intro hpc ?_
    intro p e S mm args below meth c H locs cells slots lsA hI
    obtain ⟨hC, hG, hS, hB, hR, hz, hL, hkL, hkS, hc1, hc2⟩ := id hI
    obtain ⟨hx, hb, hr, hml, hown, hts, hlk, hini⟩ := id hC
    have vx := (List.forall_mem_cons.mp hkS).1
    have hk0 := (List.forall_mem_cons.mp hkS).2
    refine lv_i2f hx hb hd ?_
    exact am_fin h ⟨hC, hG, hS, hB, hR, hz, hL, hkL, List.forall_mem_cons.mpr ⟨trivial, hk0⟩, hc1, hc2⟩ (hn rfl) (by rfl)
  all_goals exact h.elim
set_option maxHeartbeats 1000000 in
theorem am_s31 : am_OpS l base sa cs D E 31 am_o31 := by
  intro k ip pc a b cp pl hrow bd ls st m Q h
  obtain ⟨⟨il, ht, hd, hn⟩, hpc, hside, hword, hjmp, hsw⟩ := am_dec hrow
  unfold am_o31 at h
  obtain rfl := Option.some.inj ht
  split at h
  next x st =>
    refine am_intro hpc ?_
    intro p e S mm args below meth c H locs cells slots lsA hI
    obtain ⟨hC, hG, hS, hB, hR, hz, hL, hkL, hkS, hc1, hc2⟩ := id hI
    obtain ⟨hx, hb, hr, hml, hown, hts, hlk, hini⟩ := id hC
    have vx := (List.forall_mem_cons.mp hkS).1
    have hk0 := (List.forall_mem_cons.mp hkS).2
    refine lv_f2i hx hb hd ?_
    exact am_fin h ⟨hC, hG, hS, hB, hR, hz, hL, hkL, List.forall_mem_cons.mpr ⟨am_rg32 _, hk0⟩, hc1, hc2⟩ (hn rfl) (by simp [am_en, am_f2i, am_ofTi])
  all_goals exact h.elim
set_option maxHeartbeats 1000000 in
theorem am_s32 : am_OpS l base sa cs D E 32 am_o32 := by
  intro k ip pc a b cp pl hrow bd ls st m Q h
  obtain ⟨⟨il, ht, hd, hn⟩, hpc, hside, hword, hjmp, hsw⟩ := am_dec hrow
  unfold am_o32 at h
  obtain rfl := Option.some.inj ht
  split at h
  next y x st =>
    refine am_intro hpc ?_
    intro p e S mm args below meth c H locs cells slots lsA hI
    obtain ⟨hC, hG, hS, hB, hR, hz, hL, hkL, hkS, hc1, hc2⟩ := id hI
    obtain ⟨hx, hb, hr, hml, hown, hts, hlk, hini⟩ := id hC
    have vy := (List.forall_mem_cons.mp hkS).1
    have hk0 := (List.forall_mem_cons.mp hkS).2
    have vx := (List.forall_mem_cons.mp hk0).1
    have hk1 := (List.forall_mem_cons.mp hk0).2
    refine lv_ladd hx hb hd ?_
    exact am_fin h ⟨hC, hG, hS, hB, hR, hz, hL, hkL, List.forall_mem_cons.mpr ⟨trivial, hk1⟩, hc1, hc2⟩ (hn rfl) (by rfl)
  all_goals exact h.elim
set_option maxHeartbeats 1000000 in
theorem am_s33 : am_OpS l base sa cs D E 33 am_o33 := by
  intro k ip pc a b cp pl hrow bd ls st m Q h
  obtain ⟨⟨il, ht, hd, hn⟩, hpc, hside, hword, hjmp, hsw⟩ := am_dec hrow
  unfold am_o33 at h
  obtain rfl := Option.some.inj ht
  split at h
  next y x st =>
    refine am_intro hpc ?_
    intro p e S mm args below meth c H locs cells slots lsA hI
    obtain ⟨hC, hG, hS, hB, hR, hz, hL, hkL, hkS, hc1, hc2⟩ := id hI
    obtain ⟨hx, hb, hr, hml, hown, hts, hlk, hini⟩ := id hC
    have vy := (List.forall_mem_cons.mp hkS).1
    have hk0 := (List.forall_mem_cons.mp hkS).2
    have vx := (List.forall_mem_cons.mp hk0).1
    have hk1 := (List.forall_mem_cons.mp hk0).2
    refine lv_lmul hx hb hd ?_
    exact am_fin h ⟨hC, hG, hS, hB, hR, hz, hL, hkL, List.forall_mem_cons.mpr ⟨trivial, hk1⟩, hc1, hc2⟩ (hn rfl) (by rfl)
  all_goals exact h.elim
set_option maxHeartbeats 1000000 in
theorem am_s34 : am_OpS l base sa cs D E 34 am_o34 := by
  intro k ip pc a b cp pl hrow bd ls st m Q h
  obtain ⟨⟨il, ht, hd, hn⟩, hpc, hside, hword, hjmp, hsw⟩ := am_dec hrow
  unfold am_o34 at h
  obtain rfl := Option.some.inj ht
  split at h
  next y x st =>
    refine am_intro hpc ?_
    intro p e S mm args below meth c H locs cells slots lsA hI
    obtain ⟨hC, hG, hS, hB, hR, hz, hL, hkL, hkS, hc1, hc2⟩ := id hI
    obtain ⟨hx, hb, hr, hml, hown, hts, hlk, hini⟩ := id hC
    have vy := (List.forall_mem_cons.mp hkS).1
    have hk0 := (List.forall_mem_cons.mp hkS).2
    have vx := (List.forall_mem_cons.mp hk0).1
    have hk1 := (List.forall_mem_cons.mp hk0).2
    refine W.lcmp hx hb hd ?_
    exact am_fin h ⟨hC, hG, hS, hB, hR, hz, hL, hkL, List.forall_mem_cons.mpr ⟨am_rg32 _, hk1⟩, hc1, hc2⟩ (hn rfl) (by simp [am_en, am_lcm, am_ofTi])
  all_goals exact h.elim
set_option maxHeartbeats 1000000 in
theorem am_s35 : am_OpS l base sa cs D E 35 am_o35 := by
  intro k ip pc a b cp pl hrow bd ls st m Q h
  obtain ⟨⟨il, ht, hd, hn⟩, hpc, hside, hword, hjmp, hsw⟩ := am_dec hrow
  unfold am_o35 at h
  obtain rfl := Option.some.inj ht
  split at h
  next y x st =>
    refine am_intro hpc ?_
    intro p e S mm args below meth c H locs cells slots lsA hI
    obtain ⟨hC, hG, hS, hB, hR, hz, hL, hkL, hkS, hc1, hc2⟩ := id hI
    obtain ⟨hx, hb, hr, hml, hown, hts, hlk, hini⟩ := id hC
    have vy := (List.forall_mem_cons.mp hkS).1
    have hk0 := (List.forall_mem_cons.mp hkS).2
    have vx := (List.forall_mem_cons.mp hk0).1
    have hk1 := (List.forall_mem_cons.mp hk0).2
    refine lv_fmul hx hb hd h.1 ?_
    exact am_fin h.2 ⟨hC, hG, hS, hB, hR, hz, hL, hkL, List.forall_mem_cons.mpr ⟨trivial, hk1⟩, hc1, hc2⟩ (hn rfl) (by rfl)
  all_goals exact h.elim
set_option maxHeartbeats 1000000 in
theorem am_s36 : am_OpS l base sa cs D E 36 am_o36 := by
  intro k ip pc a b cp pl hrow bd ls st m Q h
  obtain ⟨⟨il, ht, hd, hn⟩, hpc, hside, hword, hjmp, hsw⟩ := am_dec hrow
  unfold am_o36 at h
  obtain rfl := Option.some.inj ht
  split at h
  next y x st =>
    refine am_intro hpc ?_
    intro p e S mm args below meth c H locs cells slots lsA hI
    obtain ⟨hC, hG, hS, hB, hR, hz, hL, hkL, hkS, hc1, hc2⟩ := id hI
    obtain ⟨hx, hb, hr, hml, hown, hts, hlk, hini⟩ := id hC
    have vy := (List.forall_mem_cons.mp hkS).1
    have hk0 := (List.forall_mem_cons.mp hkS).2
    have vx := (List.forall_mem_cons.mp hk0).1
    have hk1 := (List.forall_mem_cons.mp hk0).2
    refine lv_fdiv hx hb hd h.1 ?_
    exact am_fin h.2 ⟨hC, hG, hS, hB, hR, hz, hL, hkL, List.forall_mem_cons.mpr ⟨trivial, hk1⟩, hc1, hc2⟩ (hn rfl) (by rfl)
  all_goals exact h.elim
set_option maxHeartbeats 1000000 in
theorem am_s37 : am_OpS l base sa cs D E 37 am_o37 := by
  intro k ip pc a b cp pl hrow bd ls st m Q h
  obtain ⟨⟨il, ht, hd, hn⟩, hpc, hside, hword, hjmp, hsw⟩ := am_dec hrow
  unfold am_o37 at h
  obtain rfl := Option.some.inj ht
  split at h
  next y x st =>
    refine am_intro hpc ?_
    intro p e S mm args below meth c H locs cells slots lsA hI
    obtain ⟨hC, hG, hS, hB, hR, hz, hL, hkL, hkS, hc1, hc2⟩ := id hI
    obtain ⟨hx, hb, hr, hml, hown, hts, hlk, hini⟩ := id hC
    have vy := (List.forall_mem_cons.mp hkS).1
    have hk0 := (List.forall_mem_cons.mp hkS).2
    have vx := (List.forall_mem_cons.mp hk0).1
    have hk1 := (List.forall_mem_cons.mp hk0).2
    refine lv_fsub hx hb hd h.1 ?_
    exact am_fin h.2 ⟨hC, hG, hS, hB, hR, hz, hL, hkL, List.forall_mem_cons.mpr ⟨trivial, hk1⟩, hc1, hc2⟩ (hn rfl) (by rfl)
  all_goals exact h.elim
set_option maxHeartbeats 1000000 in
theorem am_s38 : am_OpS l base sa cs D E 38 am_o38 := by
  intro k ip pc a b cp pl hrow bd ls st m Q h
  obtain ⟨⟨il, ht, hd, hn⟩, hpc, hside, hword, hjmp, hsw⟩ := am_dec hrow
  unfold am_o38 at h
  split at h
  next y x st =>
    refine am_intro hpc ?_
    intro p e S mm args below meth c H locs cells slots lsA hI
    obtain ⟨hC, hG, hS, hB, hR, hz, hL, hkL, hkS, hc1, hc2⟩ := id hI
    obtain ⟨hx, hb, hr, hml, hown, hts, hlk, hini⟩ := id hC
    have hk1 := (List.forall_mem_cons.mp (List.forall_mem_cons.mp hkS).2).2
    simp only [am_toI] at ht
    split at ht
    · rename_i ha
      obtain rfl := Option.some.inj ht
      refine lv_fcmp hx hb hd ?_
      exact am_fin h ⟨hC, hG, hS, hB, hR, hz, hL, hkL, List.forall_mem_cons.mpr ⟨am_rg32 _, hk1⟩, hc1, hc2⟩ (hn rfl) (by simp [am_en, am_fcm, am_ofTi, ha])
    · rename_i ha
      obtain rfl := Option.some.inj ht
      refine lv_fcmp hx hb hd ?_
      exact am_fin h ⟨hC, hG, hS, hB, hR, hz, hL, hkL, List.forall_mem_cons.mpr ⟨am_rg32 _, hk1⟩, hc1, hc2⟩ (hn rfl) (by simp [am_en, am_fcm, am_ofTi, ha])
  all_goals exact h.elim
set_option maxHeartbeats 1000000 in
theorem am_s39 : am_OpS l base sa cs D E 39 am_o39 := by
  intro k ip pc a b cp pl hrow bd ls st m Q h
  obtain ⟨⟨il, ht, hd, hn⟩, hpc, hside, hword, hjmp, hsw⟩ := am_dec hrow
  unfold am_o39 at h
  obtain rfl := Option.some.inj ht
  refine am_intro hpc ?_
  intro p e S mm args below meth c H locs cells slots lsA hI
  obtain ⟨hC, hG, hS, hB, hR, hz, hL, hkL, hkS, hc1, hc2⟩ := id hI
  obtain ⟨hx, hb, hr, hml, hown, hts, hlk, hini⟩ := id hC
  exact lv_goto hx hb hd (hjmp (by decide)) (am_fin h ⟨hC, hG, hS, hB, hR, hz, hL, hkL, hkS, hc1, hc2⟩ rfl rfl)
set_option maxHeartbeats 1000000 in
theorem am_s40 : am_OpS l base sa cs D E 40 am_o40 := by
  intro k ip pc a b cp pl hrow bd ls st m Q h
  obtain ⟨⟨il, ht, hd, hn⟩, hpc, hside, hword, hjmp, hsw⟩ := am_dec hrow
  unfold am_o40 at h
  obtain rfl := Option.some.inj ht
  split at h
  next x st =>
    refine am_intro hpc ?_
    intro p e S mm args below meth c H locs cells slots lsA hI
    obtain ⟨hC, hG, hS, hB, hR, hz, hL, hkL, hkS, hc1, hc2⟩ := id hI
    obtain ⟨hx, hb, hr, hml, hown, hts, hlk, hini⟩ := id hC
    have vx := (List.forall_mem_cons.mp hkS).1
    have hk := (List.forall_mem_cons.mp hkS).2
    exact lv_if_eq hx hb hd (hjmp (by decide)) (fun cc => am_fin (h.1 ((am_eq32 vx am_rg0).mp cc)) ⟨hC, hG, hS, hB, hR, hz, hL, hkL, hk, hc1, hc2⟩ rfl rfl) (fun cc => am_fin (h.2 (fun z => cc ((am_eq32 vx am_rg0).mpr z))) ⟨hC, hG, hS, hB, hR, hz, hL, hkL, hk, hc1, hc2⟩ (hn rfl) rfl)
  all_goals exact h.elim
set_option maxHeartbeats 1000000 in
theorem am_s41 : am_OpS l base sa cs D E 41 am_o41 := by
  intro k ip pc a b cp pl hrow bd ls st m Q h
  obtain ⟨⟨il, ht, hd, hn⟩, hpc, hside, hword, hjmp, hsw⟩ := am_dec hrow
  unfold am_o41 at h
  obtain rfl := Option.some.inj ht
  split at h
  next x st =>
    refine am_intro hpc ?_
    intro p e S mm args below meth c H locs cells slots lsA hI
    obtain ⟨hC, hG, hS, hB, hR, hz, hL, hkL, hkS, hc1, hc2⟩ := id hI
    obtain ⟨hx, hb, hr, hml, hown, hts, hlk, hini⟩ := id hC
    have vx := (List.forall_mem_cons.mp hkS).1
    have hk := (List.forall_mem_cons.mp hkS).2
    exact lv_if_ne hx hb hd (hjmp (by decide)) (fun cc => am_fin (h.2 (fun z => cc ((am_eq32 vx am_rg0).mpr z))) ⟨hC, hG, hS, hB, hR, hz, hL, hkL, hk, hc1, hc2⟩ rfl rfl) (fun cc => am_fin (h.1 ((am_eq32 vx am_rg0).mp cc)) ⟨hC, hG, hS, hB, hR, hz, hL, hkL, hk, hc1, hc2⟩ (hn rfl) rfl)
  all_goals exact h.elim
set_option maxHeartbeats 1000000 in
theorem am_s42 : am_OpS l base sa cs D E 42 am_o42 := by
  intro k ip pc a b cp pl hrow bd ls st m Q h
  obtain ⟨⟨il, ht, hd, hn⟩, hpc, hside, hword, hjmp, hsw⟩ := am_dec hrow
  unfold am_o42 at h
  obtain rfl := Option.some.inj ht
  split at h
  next x st =>
    refine am_intro hpc ?_
    intro p e S mm args below meth c H locs cells slots lsA hI
    obtain ⟨hC, hG, hS, hB, hR, hz, hL, hkL, hkS, hc1, hc2⟩ := id hI
    obtain ⟨hx, hb, hr, hml, hown, hts, hlk, hini⟩ := id hC
    have vx := (List.forall_mem_cons.mp hkS).1
    have hk := (List.forall_mem_cons.mp hkS).2
    exact lv_if_lt hx hb hd (hjmp (by decide)) (fun cc => am_fin (h.1 ((am_lt32 vx am_rg0).mp cc)) ⟨hC, hG, hS, hB, hR, hz, hL, hkL, hk, hc1, hc2⟩ rfl rfl) (fun cc => am_fin (h.2 (fun z => cc ((am_lt32 vx am_rg0).mpr z))) ⟨hC, hG, hS, hB, hR, hz, hL, hkL, hk, hc1, hc2⟩ (hn rfl) rfl)
  all_goals exact h.elim
set_option maxHeartbeats 1000000 in
theorem am_s43 : am_OpS l base sa cs D E 43 am_o43 := by
  intro k ip pc a b cp pl hrow bd ls st m Q h
  obtain ⟨⟨il, ht, hd, hn⟩, hpc, hside, hword, hjmp, hsw⟩ := am_dec hrow
  unfold am_o43 at h
  obtain rfl := Option.some.inj ht
  split at h
  next x st =>
    refine am_intro hpc ?_
    intro p e S mm args below meth c H locs cells slots lsA hI
    obtain ⟨hC, hG, hS, hB, hR, hz, hL, hkL, hkS, hc1, hc2⟩ := id hI
    obtain ⟨hx, hb, hr, hml, hown, hts, hlk, hini⟩ := id hC
    have vx := (List.forall_mem_cons.mp hkS).1
    have hk := (List.forall_mem_cons.mp hkS).2
    exact lv_if_ge hx hb hd (hjmp (by decide)) (fun cc => am_fin (h.2 (am_nlt (am_lt32 vx am_rg0) cc)) ⟨hC, hG, hS, hB, hR, hz, hL, hkL, hk, hc1, hc2⟩ rfl rfl) (fun cc => am_fin (h.1 (am_ylt (am_lt32 vx am_rg0) cc)) ⟨hC, hG, hS, hB, hR, hz, hL, hkL, hk, hc1, hc2⟩ (hn rfl) rfl)
  all_goals exact h.elim
set_option maxHeartbeats 1000000 in
theorem am_s44 : am_OpS l base sa cs D E 44 am_o44 := by
  intro k ip pc a b cp pl hrow bd ls st m Q h
  obtain ⟨⟨il, ht, hd, hn⟩, hpc, hside, hword, hjmp, hsw⟩ := am_dec hrow
  unfold am_o44 at h
  obtain rfl := Option.some.inj ht
  split at h
  next x st =>
    refine am_intro hpc ?_
    intro p e S mm args below meth c H locs cells slots lsA hI
    obtain ⟨hC, hG, hS, hB, hR, hz, hL, hkL, hkS, hc1, hc2⟩ := id hI
    obtain ⟨hx, hb, hr, hml, hown, hts, hlk, hini⟩ := id hC
    have vx := (List.forall_mem_cons.mp hkS).1
    have hk := (List.forall_mem_cons.mp hkS).2
    exact lv_if_gt hx hb hd (hjmp (by decide)) (fun cc => am_fin (h.1 ((am_lt32 am_rg0 vx).mp cc)) ⟨hC, hG, hS, hB, hR, hz, hL, hkL, hk, hc1, hc2⟩ rfl rfl) (fun cc => am_fin (h.2 (fun z => cc ((am_lt32 am_rg0 vx).mpr z))) ⟨hC, hG, hS, hB, hR, hz, hL, hkL, hk, hc1, hc2⟩ (hn rfl) rfl)
  all_goals exact h.elim
set_option maxHeartbeats 1000000 in
theorem am_s45 : am_OpS l base sa cs D E 45 am_o45 := by
  intro k ip pc a b cp pl hrow bd ls st m Q h
  obtain ⟨⟨il, ht, hd, hn⟩, hpc, hside, hword, hjmp, hsw⟩ := am_dec hrow
  unfold am_o45 at h
  obtain rfl := Option.some.inj ht
  split at h
  next x st =>
    refine am_intro hpc ?_
    intro p e S mm args below meth c H locs cells slots lsA hI
    obtain ⟨hC, hG, hS, hB, hR, hz, hL, hkL, hkS, hc1, hc2⟩ := id hI
    obtain ⟨hx, hb, hr, hml, hown, hts, hlk, hini⟩ := id hC
    have vx := (List.forall_mem_cons.mp hkS).1
    have hk := (List.forall_mem_cons.mp hkS).2
    exact lv_if_le hx hb hd (hjmp (by decide)) (fun cc => am_fin (h.2 (am_nlt (am_lt32 am_rg0 vx) cc)) ⟨hC, hG, hS, hB, hR, hz, hL, hkL, hk, hc1, hc2⟩ rfl rfl) (fun cc => am_fin (h.1 (am_ylt (am_lt32 am_rg0 vx) cc)) ⟨hC, hG, hS, hB, hR, hz, hL, hkL, hk, hc1, hc2⟩ (hn rfl) rfl)
  all_goals exact h.elim
set_option maxHeartbeats 1000000 in
theorem am_s46 : am_OpS l base sa cs D E 46 am_o46 := by
  intro k ip pc a b cp pl hrow bd ls st m Q h
  obtain ⟨⟨il, ht, hd, hn⟩, hpc, hside, hword, hjmp, hsw⟩ := am_dec hrow
  unfold am_o46 at h
  obtain rfl := Option.some.inj ht
  split at h
  next y x st =>
    refine am_intro hpc ?_
    intro p e S mm args below meth c H locs cells slots lsA hI
    obtain ⟨hC, hG, hS, hB, hR, hz, hL, hkL, hkS, hc1, hc2⟩ := id hI
    obtain ⟨hx, hb, hr, hml, hown, hts, hlk, hini⟩ := id hC
    have vy := (List.forall_mem_cons.mp hkS).1
    have vx := (List.forall_mem_cons.mp (List.forall_mem_cons.mp hkS).2).1
    have hk := (List.forall_mem_cons.mp (List.forall_mem_cons.mp hkS).2).2
    exact lv_icmp_eq hx hb hd (hjmp (by decide)) (fun cc => am_fin (h.1 ((am_eq32 vx vy).mp cc)) ⟨hC, hG, hS, hB, hR, hz, hL, hkL, hk, hc1, hc2⟩ rfl rfl) (fun cc => am_fin (h.2 (fun z => cc ((am_eq32 vx vy).mpr z))) ⟨hC, hG, hS, hB, hR, hz, hL, hkL, hk, hc1, hc2⟩ (hn rfl) rfl)
  all_goals exact h.elim
set_option maxHeartbeats 1000000 in
theorem am_s47 : am_OpS l base sa cs D E 47 am_o47 := by
  intro k ip pc a b cp pl hrow bd ls st m Q h
  obtain ⟨⟨il, ht, hd, hn⟩, hpc, hside, hword, hjmp, hsw⟩ := am_dec hrow
  unfold am_o47 at h
  obtain rfl := Option.some.inj ht
  split at h
  next y x st =>
    refine am_intro hpc ?_
    intro p e S mm args below meth c H locs cells slots lsA hI
    obtain ⟨hC, hG, hS, hB, hR, hz, hL, hkL, hkS, hc1, hc2⟩ := id hI
    obtain ⟨hx, hb, hr, hml, hown, hts, hlk, hini⟩ := id hC
    have vy := (List.forall_mem_cons.mp hkS).1
    have vx := (List.forall_mem_cons.mp (List.forall_mem_cons.mp hkS).2).1
    have hk := (List.forall_mem_cons.mp (List.forall_mem_cons.mp hkS).2).2
    exact lv_icmp_ne hx hb hd (hjmp (by decide)) (fun cc => am_fin (h.2 (fun z => cc ((am_eq32 vx vy).mpr z))) ⟨hC, hG, hS, hB, hR, hz, hL, hkL, hk, hc1, hc2⟩ rfl rfl) (fun cc => am_fin (h.1 ((am_eq32 vx vy).mp cc)) ⟨hC, hG, hS, hB, hR, hz, hL, hkL, hk, hc1, hc2⟩ (hn rfl) rfl)
  all_goals exact h.elim
set_option maxHeartbeats 1000000 in
theorem am_s48 : am_OpS l base sa cs D E 48 am_o48 := by
  intro k ip pc a b cp pl hrow bd ls st m Q h
  obtain ⟨⟨il, ht, hd, hn⟩, hpc, hside, hword, hjmp, hsw⟩ := am_dec hrow
  unfold am_o48 at h
  obtain rfl := Option.some.inj ht
  split at h
  next y x st =>
    refine am_intro hpc ?_
    intro p e S mm args below meth c H locs cells slots lsA hI
    obtain ⟨hC, hG, hS, hB, hR, hz, hL, hkL, hkS, hc1, hc2⟩ := id hI
    obtain ⟨hx, hb, hr, hml, hown, hts, hlk, hini⟩ := id hC
    have vy := (List.forall_mem_cons.mp hkS).1
    have vx := (List.forall_mem_cons.mp (List.forall_mem_cons.mp hkS).2).1
    have hk := (List.forall_mem_cons.mp (List.forall_mem_cons.mp hkS).2).2
    exact lv_icmp_lt hx hb hd (hjmp (by decide)) (fun cc => am_fin (h.1 ((am_lt32 vx vy).mp cc)) ⟨hC, hG, hS, hB, hR, hz, hL, hkL, hk, hc1, hc2⟩ rfl rfl) (fun cc => am_fin (h.2 (fun z => cc ((am_lt32 vx vy).mpr z))) ⟨hC, hG, hS, hB, hR, hz, hL, hkL, hk, hc1, hc2⟩ (hn rfl) rfl)
  all_goals exact h.elim
set_option maxHeartbeats 1000000 in
theorem am_s49 : am_OpS l base sa cs D E 49 am_o49 := by
  intro k ip pc a b cp pl hrow bd ls st m Q h
  obtain ⟨⟨il, ht, hd, hn⟩, hpc, hside, hword, hjmp, hsw⟩ := am_dec hrow
  unfold am_o49 at h
  obtain rfl := Option.some.inj ht
  split at h
  next y x st =>
    refine am_intro hpc ?_
    intro p e S mm args below meth c H locs cells slots lsA hI
    obtain ⟨hC, hG, hS, hB, hR, hz, hL, hkL, hkS, hc1, hc2⟩ := id hI
    obtain ⟨hx, hb, hr, hml, hown, hts, hlk, hini⟩ := id hC
    have vy := (List.forall_mem_cons.mp hkS).1
    have vx := (List.forall_mem_cons.mp (List.forall_mem_cons.mp hkS).2).1
    have hk := (List.forall_mem_cons.mp (List.forall_mem_cons.mp hkS).2).2
    exact lv_icmp_ge hx hb hd (hjmp (by decide)) (fun cc => am_fin (h.2 (am_nlt (am_lt32 vx vy) cc)) ⟨hC, hG, hS, hB, hR, hz, hL, hkL, hk, hc1, hc2⟩ rfl rfl) (fun cc => am_fin (h.1 (am_ylt (am_lt32 vx vy) cc)) ⟨hC, hG, hS, hB, hR, hz, hL, hkL, hk, hc1, hc2⟩ (hn rfl) rfl)
  all_goals exact h.elim
set_option maxHeartbeats 1000000 in
theorem am_s50 : am_OpS l base sa cs D E 50 am_o50 := by
  intro k ip pc a b cp pl hrow bd ls st m Q h
  obtain ⟨⟨il, ht, hd, hn⟩, hpc, hside, hword, hjmp, hsw⟩ := am_dec hrow
  unfold am_o50 at h
  obtain rfl := Option.some.inj ht
  split at h
  next y x st =>
    refine am_intro hpc ?_
    intro p e S mm args below meth c H locs cells slots lsA hI
    obtain ⟨hC, hG, hS, hB, hR, hz, hL, hkL, hkS, hc1, hc2⟩ := id hI
    obtain ⟨hx, hb, hr, hml, hown, hts, hlk, hini⟩ := id hC
    have vy := (List.forall_mem_cons.mp hkS).1
    have vx := (List.forall_mem_cons.mp (List.forall_mem_cons.mp hkS).2).1
    have hk := (List.forall_mem_cons.mp (List.forall_mem_cons.mp hkS).2).2
    exact lv_icmp_gt hx hb hd (hjmp (by decide)) (fun cc => am_fin (h.1 ((am_lt32 vy vx).mp cc)) ⟨hC, hG, hS, hB, hR, hz, hL, hkL, hk, hc1, hc2⟩ rfl rfl) (fun cc => am_fin (h.2 (fun z => cc ((am_lt32 vy vx).mpr z))) ⟨hC, hG, hS, hB, hR, hz, hL, hkL, hk, hc1, hc2⟩ (hn rfl) rfl)
  all_goals exact h.elim
set_option maxHeartbeats 1000000 in
theorem am_s51 : am_OpS l base sa cs D E 51 am_o51 := by
  intro k ip pc a b cp pl hrow bd ls st m Q h
  obtain ⟨⟨il, ht, hd, hn⟩, hpc, hside, hword, hjmp, hsw⟩ := am_dec hrow
  unfold am_o51 at h
  obtain rfl := Option.some.inj ht
  split at h
  next y x st =>
    refine am_intro hpc ?_
    intro p e S mm args below meth c H locs cells slots lsA hI
    obtain ⟨hC, hG, hS, hB, hR, hz, hL, hkL, hkS, hc1, hc2⟩ := id hI
    obtain ⟨hx, hb, hr, hml, hown, hts, hlk, hini⟩ := id hC
    have vy := (List.forall_mem_cons.mp hkS).1
    have vx := (List.forall_mem_cons.mp (List.forall_mem_cons.mp hkS).2).1
    have hk := (List.forall_mem_cons.mp (List.forall_mem_cons.mp hkS).2).2
    exact lv_icmp_le hx hb hd (hjmp (by decide)) (fun cc => am_fin (h.2 (am_nlt (am_lt32 vy vx) cc)) ⟨hC, hG, hS, hB, hR, hz, hL, hkL, hk, hc1, hc2⟩ rfl rfl) (fun cc => am_fin (h.1 (am_ylt (am_lt32 vy vx) cc)) ⟨hC, hG, hS, hB, hR, hz, hL, hkL, hk, hc1, hc2⟩ (hn rfl) rfl)
  all_goals exact h.elim
set_option maxHeartbeats 1000000 in
theorem am_s52 : am_OpS l base sa cs D E 52 am_o52 := by
  intro k ip pc a b cp pl hrow bd ls st m Q h
  obtain ⟨⟨il, ht, hd, hn⟩, hpc, hside, hword, hjmp, hsw⟩ := am_dec hrow
  unfold am_o52 at h
  obtain rfl := Option.some.inj ht
  split at h
  next r st =>
    split at h
    · refine am_intro hpc ?_
      intro p e S mm args below meth c H locs cells slots lsA hI
      obtain ⟨hC, hG, hS, hB, hR, hz, hL, hkL, hkS, hc1, hc2⟩ := id hI
      obtain ⟨hx, hb, hr, hml, hown, hts, hlk, hini⟩ := id hC
      have hk := (List.forall_mem_cons.mp hkS).2
      exact lv_ifnullN hx hb hd (hjmp (by decide)) (am_fin h ⟨hC, hG, hS, hB, hR, hz, hL, hkL, hk, hc1, hc2⟩ rfl rfl)
    · refine am_intro hpc ?_
      intro p e S mm args below meth c H locs cells slots lsA hI
      obtain ⟨hC, hG, hS, hB, hR, hz, hL, hkL, hkS, hc1, hc2⟩ := id hI
      obtain ⟨hx, hb, hr, hml, hown, hts, hlk, hini⟩ := id hC
      have hk := (List.forall_mem_cons.mp hkS).2
      exact lv_ifnull hx hb hd (am_fin h ⟨hC, hG, hS, hB, hR, hz, hL, hkL, hk, hc1, hc2⟩ (hn rfl) rfl)
  all_goals exact h.elim
set_option maxHeartbeats 1000000 in
theorem am_s53 : am_OpS l base sa cs D E 53 am_o53 := by
  intro k ip pc a b cp pl hrow bd ls st m Q h
  obtain ⟨⟨il, ht, hd, hn⟩, hpc, hside, hword, hjmp, hsw⟩ := am_dec hrow
  unfold am_o53 at h
  obtain rfl := Option.some.inj ht
  split at h
  next r st =>
    split at h
    · refine am_intro hpc ?_
      intro p e S mm args below meth c H locs cells slots lsA hI
      obtain ⟨hC, hG, hS, hB, hR, hz, hL, hkL, hkS, hc1, hc2⟩ := id hI
      obtain ⟨hx, hb, hr, hml, hown, hts, hlk, hini⟩ := id hC
      have hk := (List.forall_mem_cons.mp hkS).2
      exact lv_ifnonnullN hx hb hd (am_fin h ⟨hC, hG, hS, hB, hR, hz, hL, hkL, hk, hc1, hc2⟩ (hn rfl) rfl)
    · refine am_intro hpc ?_
      intro p e S mm args below meth c H locs cells slots lsA hI
      obtain ⟨hC, hG, hS, hB, hR, hz, hL, hkL, hkS, hc1, hc2⟩ := id hI
      obtain ⟨hx, hb, hr, hml, hown, hts, hlk, hini⟩ := id hC
      have hk := (List.forall_mem_cons.mp hkS).2
      exact lv_ifnonnull hx hb hd (hjmp (by decide)) (am_fin h ⟨hC, hG, hS, hB, hR, hz, hL, hkL, hk, hc1, hc2⟩ rfl rfl)
  all_goals exact h.elim
set_option maxHeartbeats 1000000 in
theorem am_s54 : am_OpS l base sa cs D E 54 am_o54 := by
  intro k ip pc a b cp pl hrow bd ls st m Q h
  obtain ⟨⟨il, ht, hd, hn⟩, hpc, hside, hword, hjmp, hsw⟩ := am_dec hrow
  unfold am_o54 at h
  split at h
  next x st =>
    refine am_intro hpc ?_
    intro p e S mm args below meth c H locs cells slots lsA hI
    obtain ⟨hC, hG, hS, hB, hR, hz, hL, hkL, hkS, hc1, hc2⟩ := id hI
    obtain ⟨hx, hb, hr, hml, hown, hts, hlk, hini⟩ := id hC
    have vx := (List.forall_mem_cons.mp hkS).1
    have hk := (List.forall_mem_cons.mp hkS).2
    obtain ⟨lo, tg, d, of, dd, ln, e1, e2, e3, e4⟩ := hsw rfl
    simp only [am_toI, e1] at ht
    obtain rfl := Option.some.inj ht
    simp only [am_swt, e1] at h
    by_cases hlo : lo ≤ x
    · rw [if_pos hlo] at h
      cases hj : am_nth tg (x - lo).toNat with
      | none =>
        simp only [hj] at h
        have hj2 : tg.length ≤ (x - lo).toNat := by
          rw [am_nth_eq] at hj
          exact List.getElem?_eq_none_iff.mp hj
        exact lv_tableOut hx hb hd (Or.inr (by rw [am_ti vx]; omega)) e4 (am_fin h ⟨hC, hG, hS, hB, hR, hz, hL, hkL, hk, hc1, hc2⟩ rfl rfl)
      | some t =>
        simp only [hj] at h
        have hj2 : (x - lo).toNat < tg.length := by
          rw [am_nth_eq] at hj
          exact (List.getElem?_eq_some_iff.mp hj).1
        have hof : of[(x - lo).toNat]? = some ((am_pc k t : Int) - pc) := am_swof e3 (by rw [← am_nth_eq]; exact hj)
        exact lv_tableIn (off := (am_pc k t : Int) - pc) (tgt := am_pc k t) hx hb hd (by rw [am_ti vx]; omega) (by rw [am_ti vx]; omega) (by rw [am_ti vx]; simpa using hof) (by omega) (am_fin h ⟨hC, hG, hS, hB, hR, hz, hL, hkL, hk, hc1, hc2⟩ rfl rfl)
    · rw [if_neg hlo] at h
      exact lv_tableOut hx hb hd (Or.inl (by rw [am_ti vx]; omega)) e4 (am_fin h ⟨hC, hG, hS, hB, hR, hz, hL, hkL, hk, hc1, hc2⟩ rfl rfl)
  all_goals exact h.elim
end SND1
