/-! ends, and what is made -/
section SND5
variable {l : Launch} {base : Nat} {sa : Nat → Nat} {cs : am_CS} {D : va_G} {E : am_E}

/-- behind what is made: the new cell is the next one, and the heap grew by one -/
theorem am_made {m m' : am_M} {t n q0 : Nat} {e0 : va_E} {H H1 : Heap} {S : State} {cells : Nat} (hR : am_RP base sa cs D m H) (hz : H.size = S.heap.size + cells) (hlen : m.1.length < 999) (h1 : m'.1 = m.1 ++ [(t, n)])
    (hP1 : va_P D am_Cl (am_ws base sa cs m ++ [(q0, e0)]) H1) (hD1 : va_D (am_A base) (am_ws base sa cs m ++ [(q0, e0)])) (he : am_cell base sa cs m' m.1.length = e0) (ho : ∀ j, j < m.1.length → am_cell base sa cs m' j = am_cell base sa cs m j)
    (hrg : ∀ a i, am_rg (m'.2.1 a i)) (hz1 : H1.size ≤ S.heap.size + (cells + 1)) : q0 = base + m.1.length ∧ am_RP base sa cs D m' H1 ∧ H1.size = S.heap.size + (cells + 1) := by
  have hl : (am_ws base sa cs m).length = m.1.length := am_ws_len
  have hlast : (am_ws base sa cs m ++ [(q0, e0)])[m.1.length]? = some (q0, e0) := by
    rw [List.getElem?_append_right (by omega), hl, Nat.sub_self]
    rfl
  have hlt : q0 < H1.size := (hP1 _ _ hlast).lt
  have hge : base ≤ q0 := hD1.2 _ _ hlast
  have hR0 := hR.1
  have hq : q0 = base + m.1.length := by
    by_cases hx : q0 < base + m.1.length
    · have hj : q0 - base < m.1.length := by omega
      have h4 : (am_ws base sa cs m ++ [(q0, e0)])[q0 - base]? = some (base + (q0 - base), am_cell base sa cs m (q0 - base)) := by
        rw [List.getElem?_append_left (by omega), am_ws_at hj]
      have h5 := hD1.1 _ _ _ _ h4 hlast (by show base + (q0 - base) = q0; omega)
      omega
    · omega
  subst hq
  have hws := am_ws_app (base := base) (sa := sa) (cs := cs) h1 he ho
  rw [hws] at hP1
  have hl2 : m'.1.length = m.1.length + 1 := by rw [h1]; simp
  exact ⟨rfl, ⟨by omega, by omega, hP1, hrg⟩, by omega⟩
theorem am_mk_cell {m : am_M} {t n : Nat} : ∀ j, j < m.1.length → am_cell base sa cs (am_mk m t n) j = am_cell base sa cs m j := by
  intro j hj
  unfold am_cell am_mk
  simp only [am_nth_eq]
  rw [List.getElem?_append_left hj, am_clr_ne (by omega), am_clr_ne (by omega), am_clr_ne (by omega)]
theorem am_mk_new {m : am_M} {t n : Nat} : am_cell base sa cs (am_mk m t n) m.1.length = am_cf base sa cs t n (fun _ => 0) (fun _ => 0) (fun _ => none) := by
  unfold am_cell am_mk
  simp only [am_nth_eq]
  rw [List.getElem?_append_right (Nat.le_refl _), Nat.sub_self, am_clr_eq, am_clr_eq, am_clr_eq]
  rfl
theorem am_mk_rg {m : am_M} {t n : Nat} (h : ∀ a i, am_rg (m.2.1 a i)) : ∀ a i, am_rg ((am_mk m t n).2.1 a i) := by
  intro a i
  show am_rg (am_clr m.2.1 m.1.length 0 a i)
  unfold am_clr
  split
  · exact am_rg0
  · exact h a i
set_option maxHeartbeats 1000000 in
theorem am_s76 : am_OpS l base sa cs D E 76 am_o76 := by
  intro k ip pc a b cp pl hrow bd ls st m Q h
  obtain ⟨⟨il, ht, hd, hn⟩, hpc, hside, hword, hjmp, hsw⟩ := am_dec hrow
  unfold am_o76 at h
  obtain rfl := Option.some.inj ht
  have hsd := of_decide_eq_true hside
  have hw := am_good_of (hword _ rfl) rfl
  split at h
  next q st =>
    split at h
    next hcat =>
      refine am_intro hpc ?_
      intro p e S mm args below meth c H locs cells slots lsA hI
      obtain ⟨hC, hG, hS, hB, hR, hz, hL, hkL, hkS, hc1, hc2⟩ := id hI
      obtain ⟨hx, hb, hr, hml, hown, hts, hlk, hini⟩ := id hC
      have hk := (List.forall_mem_cons.mp hkS).2
      have g3 : am_cats st ≤ 8 := Nat.ble_eq.mp hcat
      refine W.objInit hx hb hown (hts _ hw) (hts _ (am_good_of am_x0 rfl)) (hts _ (am_good_of am_x1 rfl)) rfl (hL.1.trans hml.symm) (rest := st.map (am_en base sa)) rfl hd hsd.1 ?_ ?_
      · have h8 : 2 * (F0 mm pc lsA (st.map (am_en base sa))).monitorRoom + (((st.map (am_en base sa))).map fun v => v.category).sum ≤ 8 := lv_room (by rw [am_cats_map]; exact g3)
        have h9 := hsd.2
        show 2 * (F0 mm pc lsA (st.map (am_en base sa))).monitorRoom + (((st.map (am_en base sa))).map fun v => v.category).sum + 12 ≤ am_lo k
        omega
      · exact am_fin h ⟨hC, hG, hS, hB, hR, hz, hL, hkL, hk, hc1, hc2⟩ (hn rfl) rfl
    all_goals exact h.elim
  all_goals exact h.elim
set_option maxHeartbeats 1000000 in
theorem am_s77 : am_OpS l base sa cs D E 77 am_o77 := by
  intro k ip pc a b cp pl hrow bd ls st m Q h
  obtain ⟨⟨il, ht, hd, hn⟩, hpc, hside, hword, hjmp, hsw⟩ := am_dec hrow
  unfold am_o77 at h
  obtain rfl := Option.some.inj ht
  have hsd := of_decide_eq_true hside
  have hw := am_good_of (hword _ rfl) rfl
  split at h
  next y x st =>
    split at h
    next hcat =>
      refine am_intro hpc ?_
      intro p e S mm args below meth c H locs cells slots lsA hI
      obtain ⟨hC, hG, hS, hB, hR, hz, hL, hkL, hkS, hc1, hc2⟩ := id hI
      obtain ⟨hx, hb, hr, hml, hown, hts, hlk, hini⟩ := id hC
      have vy : am_rg y := (List.forall_mem_cons.mp hkS).1
      have vx : am_rg x := (List.forall_mem_cons.mp (List.forall_mem_cons.mp hkS).2).1
      have hk := (List.forall_mem_cons.mp (List.forall_mem_cons.mp hkS).2).2
      have g3 : am_cats st ≤ 8 := Nat.ble_eq.mp hcat
      have hc1' : cells + bd.1 = am_b1 k := hc1
      have hc2' : slots + bd.2 ≤ am_b2 k := hc2
      refine va_mmin hx hb (hml.trans hL.1.symm) hown (hts _ hw) (hts _ (am_good_of am_x2 rfl)) (hts _ (am_good_of am_x6 rfl)) (hts _ (am_good_of am_x3 rfl)) hsd.1 ?_ ?_ ?_ hd ?_
      · rw [am_cats_map]
        have h9 := hsd.2
        show am_cats st + 13 ≤ am_lo k
        omega
      · show cells ≤ am_b1 k
        omega
      · show slots ≤ am_b2 k
        omega
      · have hok : am_rg (if y < x then y else x) := by split <;> assumption
        refine am_fin h ⟨hC, hG, hS, hB, hR, hz, hL, hkL, List.forall_mem_cons.mpr ⟨hok, hk⟩, hc1, hc2⟩ (hn rfl) ?_
        show Value.int (Int32.ofInt (if y < x then y else x)) :: _ = _
        congr 2
        by_cases hh : y < x
        · rw [if_pos hh, if_pos ((am_lt32 vy vx).mpr hh)]
        · rw [if_neg hh, if_neg (fun z => hh ((am_lt32 vy vx).mp z))]
    all_goals exact h.elim
  all_goals exact h.elim
set_option maxHeartbeats 1000000 in
theorem am_s78 : am_OpS l base sa cs D E 78 am_o78 := by
  intro k ip pc a b cp pl hrow bd ls st m Q h
  obtain ⟨⟨il, ht, hd, hn⟩, hpc, hside, hword, hjmp, hsw⟩ := am_dec hrow
  unfold am_o78 at h
  obtain rfl := Option.some.inj ht
  have hsd := of_decide_eq_true hside
  have hw := am_good_of (hword _ rfl) rfl
  split at h
  next y x st =>
    split at h
    next hcat =>
      refine am_intro hpc ?_
      intro p e S mm args below meth c H locs cells slots lsA hI
      obtain ⟨hC, hG, hS, hB, hR, hz, hL, hkL, hkS, hc1, hc2⟩ := id hI
      obtain ⟨hx, hb, hr, hml, hown, hts, hlk, hini⟩ := id hC
      have vy : am_rg y := (List.forall_mem_cons.mp hkS).1
      have vx : am_rg x := (List.forall_mem_cons.mp (List.forall_mem_cons.mp hkS).2).1
      have hk := (List.forall_mem_cons.mp (List.forall_mem_cons.mp hkS).2).2
      have g3 : am_cats st ≤ 8 := Nat.ble_eq.mp hcat
      have hc1' : cells + bd.1 = am_b1 k := hc1
      have hc2' : slots + bd.2 ≤ am_b2 k := hc2
      refine va_mmax hx hb (hml.trans hL.1.symm) hown (hts _ hw) (hts _ (am_good_of am_x4 rfl)) (hts _ (am_good_of am_x6 rfl)) (hts _ (am_good_of am_x5 rfl)) hsd.1 ?_ ?_ ?_ hd ?_
      · rw [am_cats_map]
        have h9 := hsd.2
        show am_cats st + 13 ≤ am_lo k
        omega
      · show cells ≤ am_b1 k
        omega
      · show slots ≤ am_b2 k
        omega
      · have hok : am_rg (if x < y then y else x) := by split <;> assumption
        refine am_fin h ⟨hC, hG, hS, hB, hR, hz, hL, hkL, List.forall_mem_cons.mpr ⟨hok, hk⟩, hc1, hc2⟩ (hn rfl) ?_
        show Value.int (Int32.ofInt (if x < y then y else x)) :: _ = _
        congr 2
        by_cases hh : x < y
        · rw [if_pos hh, if_pos ((am_lt32 vx vy).mpr hh)]
        · rw [if_neg hh, if_neg (fun z => hh ((am_lt32 vx vy).mp z))]
    all_goals exact h.elim
  all_goals exact h.elim
set_option maxHeartbeats 1000000 in
theorem am_s79 : am_OpS l base sa cs D E 79 am_o79 := by
  intro k ip pc a b cp pl hrow bd ls st m Q h
  obtain ⟨⟨il, ht, hd, hn⟩, hpc, hside, hword, hjmp, hsw⟩ := am_dec hrow
  unfold am_o79 at h
  obtain rfl := Option.some.inj ht
  have hsd := of_decide_eq_true hside
  split at h
  next x =>
    split at h
    next hbd =>
      refine am_intro hpc ?_
      intro p e S mm args below meth c H locs cells slots lsA hI
      obtain ⟨hC, hG, hS, hB, hR, hz, hL, hkL, hkS, hc1, hc2⟩ := id hI
      obtain ⟨hx, hb, hr, hml, hown, hts, hlk, hini⟩ := id hC
      have hbd0 : bd.1 = 0 := Nat.eq_of_beq_eq_true hbd
      have hc1' : cells + bd.1 = am_b1 k := hc1
      have hc2' : slots + bd.2 ≤ am_b2 k := hc2
      have vx : am_rg x := (List.forall_mem_cons.mp hkS).1
      refine W.widen (k := am_b1 k) (n := am_b2 k) (by omega) (by omega) ?_
      exact W.iret hx hb (hr.trans hsd) (fun t ht _ => ⟨⟨some (amI x), m, rfl, fun v hv => (by cases hv; exact vx), h.2, by rw [ht]; exact hR, fun _ => by rw [ht]; omega⟩, hS.F ht⟩) hS.2.2 hd hlk
    all_goals exact h.elim
  all_goals exact h.elim
set_option maxHeartbeats 1000000 in
theorem am_s80 : am_OpS l base sa cs D E 80 am_o80 := by
  intro k ip pc a b cp pl hrow bd ls st m Q h
  obtain ⟨⟨il, ht, hd, hn⟩, hpc, hside, hword, hjmp, hsw⟩ := am_dec hrow
  unfold am_o80 at h
  obtain rfl := Option.some.inj ht
  have hsd := of_decide_eq_true hside
  split at h
  next x =>
    split at h
    next hbd =>
      refine am_intro hpc ?_
      intro p e S mm args below meth c H locs cells slots lsA hI
      obtain ⟨hC, hG, hS, hB, hR, hz, hL, hkL, hkS, hc1, hc2⟩ := id hI
      obtain ⟨hx, hb, hr, hml, hown, hts, hlk, hini⟩ := id hC
      have hbd0 : bd.1 = 0 := Nat.eq_of_beq_eq_true hbd
      have hc1' : cells + bd.1 = am_b1 k := hc1
      have hc2' : slots + bd.2 ≤ am_b2 k := hc2
      refine W.widen (k := am_b1 k) (n := am_b2 k) (by omega) (by omega) ?_
      exact W.lret hx hb (hr.trans hsd) (fun t ht _ => ⟨⟨some (amL x), m, rfl, fun v hv => (by cases hv; trivial), h.2, by rw [ht]; exact hR, fun _ => by rw [ht]; omega⟩, hS.F ht⟩) hS.2.2 hd hlk
    all_goals exact h.elim
  all_goals exact h.elim
set_option maxHeartbeats 1000000 in
theorem am_s81 : am_OpS l base sa cs D E 81 am_o81 := by
  intro k ip pc a b cp pl hrow bd ls st m Q h
  obtain ⟨⟨il, ht, hd, hn⟩, hpc, hside, hword, hjmp, hsw⟩ := am_dec hrow
  unfold am_o81 at h
  obtain rfl := Option.some.inj ht
  have hsd := of_decide_eq_true hside
  split at h
  next x =>
    split at h
    next hbd =>
      refine am_intro hpc ?_
      intro p e S mm args below meth c H locs cells slots lsA hI
      obtain ⟨hC, hG, hS, hB, hR, hz, hL, hkL, hkS, hc1, hc2⟩ := id hI
      obtain ⟨hx, hb, hr, hml, hown, hts, hlk, hini⟩ := id hC
      have hbd0 : bd.1 = 0 := Nat.eq_of_beq_eq_true hbd
      have hc1' : cells + bd.1 = am_b1 k := hc1
      have hc2' : slots + bd.2 ≤ am_b2 k := hc2
      refine W.widen (k := am_b1 k) (n := am_b2 k) (by omega) (by omega) ?_
      exact W.fret hx hb (hr.trans hsd) (fun t ht _ => ⟨⟨some (amF x), m, rfl, fun v hv => (by cases hv; trivial), h.2, by rw [ht]; exact hR, fun _ => by rw [ht]; omega⟩, hS.F ht⟩) hS.2.2 hd hlk
    all_goals exact h.elim
  all_goals exact h.elim
set_option maxHeartbeats 1000000 in
theorem am_s82 : am_OpS l base sa cs D E 82 am_o82 := by
  intro k ip pc a b cp pl hrow bd ls st m Q h
  obtain ⟨⟨il, ht, hd, hn⟩, hpc, hside, hword, hjmp, hsw⟩ := am_dec hrow
  unfold am_o82 at h
  obtain rfl := Option.some.inj ht
  have hsd := of_decide_eq_true hside
  split at h
  next r =>
    split at h
    next hbd =>
      refine am_intro hpc ?_
      intro p e S mm args below meth c H locs cells slots lsA hI
      obtain ⟨hC, hG, hS, hB, hR, hz, hL, hkL, hkS, hc1, hc2⟩ := id hI
      obtain ⟨hx, hb, hr, hml, hown, hts, hlk, hini⟩ := id hC
      have hbd0 : bd.1 = 0 := Nat.eq_of_beq_eq_true hbd
      have hc1' : cells + bd.1 = am_b1 k := hc1
      have hc2' : slots + bd.2 ≤ am_b2 k := hc2
      refine W.widen (k := am_b1 k) (n := am_b2 k) (by omega) (by omega) ?_
      exact W.aret hx hb (hr.trans hsd) (Or.inl ⟨_, rfl⟩) (va_rf_or _) (fun t ht _ => ⟨⟨some (amA r), m, rfl, fun v hv => (by cases hv; trivial), h.2, by rw [ht]; exact hR, fun _ => by rw [ht]; omega⟩, hS.F ht⟩) hS.2.2 hd hlk
    all_goals exact h.elim
  all_goals exact h.elim
set_option maxHeartbeats 1000000 in
theorem am_s83 : am_OpS l base sa cs D E 83 am_o83 := by
  intro k ip pc a b cp pl hrow bd ls st m Q h
  obtain ⟨⟨il, ht, hd, hn⟩, hpc, hside, hword, hjmp, hsw⟩ := am_dec hrow
  unfold am_o83 at h
  obtain rfl := Option.some.inj ht
  have hsd := of_decide_eq_true hside
  split at h
  next =>
    split at h
    next hbd =>
      refine am_intro hpc ?_
      intro p e S mm args below meth c H locs cells slots lsA hI
      obtain ⟨hC, hG, hS, hB, hR, hz, hL, hkL, hkS, hc1, hc2⟩ := id hI
      obtain ⟨hx, hb, hr, hml, hown, hts, hlk, hini⟩ := id hC
      have hbd0 : bd.1 = 0 := Nat.eq_of_beq_eq_true hbd
      have hc1' : cells + bd.1 = am_b1 k := hc1
      have hc2' : slots + bd.2 ≤ am_b2 k := hc2
      refine W.widen (k := am_b1 k) (n := am_b2 k) (by omega) (by omega) ?_
      exact W.vret hx hb (hr.trans hsd) (fun t ht _ => ⟨⟨none, m, rfl, fun v hv => (by cases hv), h.2, by rw [ht]; exact hR, fun _ => by rw [ht]; omega⟩, hS.F ht⟩) hS.2.2 hd hlk
    all_goals exact h.elim
  all_goals exact h.elim
set_option maxHeartbeats 1000000 in
theorem am_s84 : am_OpS l base sa cs D E 84 am_o84 := by
  intro k ip pc a b cp pl hrow bd ls st m Q h
  obtain ⟨⟨il, ht, hd, hn⟩, hpc, hside, hword, hjmp, hsw⟩ := am_dec hrow
  unfold am_o84 at h
  obtain rfl := Option.some.inj ht
  have hsd := of_decide_eq_true hside
  split at h
  next x =>
    split at h
    next hbd =>
      refine am_intro hpc ?_
      intro p e S mm args below meth c H locs cells slots lsA hI
      obtain ⟨hC, hG, hS, hB, hR, hz, hL, hkL, hkS, hc1, hc2⟩ := id hI
      obtain ⟨hx, hb, hr, hml, hown, hts, hlk, hini⟩ := id hC
      have hbd0 : bd.1 = 0 := Nat.eq_of_beq_eq_true hbd
      have hc1' : cells + bd.1 = am_b1 k := hc1
      have hc2' : slots + bd.2 ≤ am_b2 k := hc2
      have vx : am_rg x := (List.forall_mem_cons.mp hkS).1
      refine W.widen (k := am_b1 k) (n := am_b2 k) (by omega) (by omega) ?_
      exact W.zret hx hb (hr.trans hsd) (am_nz h.1).1 (fun t ht _ => ⟨⟨some (amI x), m, rfl, fun v hv => (by cases hv; exact vx), h.2, by rw [ht]; exact hR, fun _ => by rw [ht]; omega⟩, hS.F ht⟩) hS.2.2 hd hlk
    all_goals exact h.elim
  all_goals exact h.elim
set_option maxHeartbeats 1000000 in
theorem am_s89 : am_OpS l base sa cs D E 89 am_o89 := by
  intro k ip pc a b cp pl hrow bd ls st m Q h
  obtain ⟨⟨il, ht, hd, hn⟩, hpc, hside, hword, hjmp, hsw⟩ := am_dec hrow
  unfold am_o89 at h
  obtain rfl := Option.some.inj ht
  have hsd := of_decide_eq_true hside
  split at h
  next x =>
    refine am_intro hpc ?_
    intro p e S mm args below meth c H locs cells slots lsA hI
    obtain ⟨hC, hG, hS, hB, hR, hz, hL, hkL, hkS, hc1, hc2⟩ := id hI
    obtain ⟨hx, hb, hr, hml, hown, hts, hlk, hini⟩ := id hC
    have hc1' : cells + bd.1 = am_b1 k := hc1
    have hc2' : slots + bd.2 ≤ am_b2 k := hc2
    have vx : am_rg x := (List.forall_mem_cons.mp hkS).1
    refine W.widen (k := am_b1 k) (n := am_b2 k) (by omega) (by omega) ?_
    exact W.zret hx hb (hr.trans hsd.1) (am_nz h.1).1 (fun t ht _ => ⟨⟨some (amI x), m, rfl, fun v hv => (by cases hv; exact vx), h.2, by rw [ht]; exact hR, fun hh => absurd hsd.2 (by omega)⟩, hS.F ht⟩) hS.2.2 hd hlk
  all_goals exact h.elim
set_option maxHeartbeats 1000000 in
theorem am_s87 : am_OpS l base sa cs D E 87 am_o87 := by
  intro k ip pc a b cp pl hrow bd ls st m Q h
  obtain ⟨⟨il, ht, hd, hn⟩, hpc, hside, hword, hjmp, hsw⟩ := am_dec hrow
  unfold am_o87 at h
  obtain rfl := Option.some.inj ht
  have hsd := of_decide_eq_true hside
  have hw := am_good_of (hword _ rfl) rfl
  split at h
  next hfit =>
    simp only [Bool.and_eq_true, Nat.ble_eq, Nat.blt_eq] at hfit
    refine am_intro hpc ?_
    intro p e S mm args below meth c H locs cells slots lsA hI
    obtain ⟨hC, hG, hS, hB, hR, hz, hL, hkL, hkS, hc1, hc2⟩ := id hI
    obtain ⟨hx, hb, hr, hml, hown, hts, hlk, hini⟩ := id hC
    have hc1' : cells + bd.1 = am_b1 k := hc1
    have hc2' : slots + bd.2 ≤ am_b2 k := hc2
    refine va_new hx hb hts (am_lay_in hsd) (am_tyf a) (am_tyok a hsd) hown (hts _ hw) (hts _ (am_inst_in hsd)) (hts _ (am_init_in (by omega))) hG.1 hR.2.2.1 am_ws_D hS (fun q hq => Nat.le_trans hB hq) (am_Cl_at a hsd)
      (fs := (List.range (am_N a)).map (fun j => am_fd base sa (am_fk a j) 0 none)) ?_ ?_ ?_ hd (fun q0 H1 hP1 hD1 hS1 => ?_)
    · intro j hj
      rw [am_dflt a hsd j hj]
      show _ = ((List.range (am_N a)).map (fun j => am_fd base sa (am_fk a j) 0 none)).getD j .null
      rw [List.getD_eq_getElem?_getD, am_fld_at hj]
      rfl
    · show cells + 1 ≤ am_b1 k
      omega
    · show slots + am_N a ≤ am_b2 k
      omega
    · refine am_W_siz fun hz1 => ?_
      obtain ⟨hq, hR1, hz2⟩ := am_made (m' := am_mk m a 0) (t := a) (n := 0) hR hz hfit.2.2 rfl hP1 hD1 (by rw [am_mk_new, am_cf_obj hsd]) am_mk_cell (am_mk_rg hR.2.2.2) hz1
      subst hq
      refine am_fin h ⟨hC, hG, hS1, hB, hR1, hz2, hL, hkL, List.forall_mem_cons.mpr ⟨trivial, hkS⟩, ?_, ?_⟩ (hn rfl) ?_
      · show cells + 1 + (bd.1 - 1) = am_b1 k
        omega
      · show slots + am_N a + (bd.2 - am_N a) ≤ am_b2 k
        omega
      · show va_rf (some (am_ra base sa m.1.length)) :: _ = _
        rw [am_ra_lt (by omega)]
        rfl
  all_goals exact h.elim
set_option maxHeartbeats 1000000 in
theorem am_s88 : am_OpS l base sa cs D E 88 am_o88 := by
  intro k ip pc a b cp pl hrow bd ls st m Q h
  obtain ⟨⟨il, ht, hd, hn⟩, hpc, hside, hword, hjmp, hsw⟩ := am_dec hrow
  unfold am_o88 at h
  split at h
  next n st =>
    split at h
    next hfit =>
      simp only [Bool.and_eq_true, Nat.ble_eq, Nat.blt_eq] at hfit
      refine am_intro hpc ?_
      intro p e S mm args below meth c H locs cells slots lsA hI
      obtain ⟨hC, hG, hS, hB, hR, hz, hL, hkL, hkS, hc1, hc2⟩ := id hI
      obtain ⟨hx, hb, hr, hml, hown, hts, hlk, hini⟩ := id hC
      have hc1' : cells + bd.1 = am_b1 k := hc1
      have hc2' : slots + bd.2 ≤ am_b2 k := hc2
      have vn : am_rg n := (List.forall_mem_cons.mp hkS).1
      have hk := (List.forall_mem_cons.mp hkS).2
      have hn0 : ¬ Int32.ofInt n < 0 := fun z => by
        have h5 := (am_lt32 vn am_rg0).mp z
        have h6 := h.1.1
        omega
      have hcl := am_clN vn
      have h7 := h.1.2
      have ha3 : a = 0 ∨ a = 1 ∨ a = 2 := by have := hfit.2.2.2; omega
      rcases ha3 with rfl | rfl | rfl
      · obtain rfl := Option.some.inj ht
        have hbytes : n.toNat * componentBytes (.int : FieldType) ≤ 536870912 := by
          show n.toNat * 4 ≤ 536870912
          omega
        refine va_newa (atype := .int) hx hb (hts _ (am_good_of am_x7 rfl)) (ty := .int) rfl hG.1 hR.2.2.1 am_ws_D hS (fun q hq => Nat.le_trans hB hq) (N' := n.toNat) (a0 := (n.toNat, .inl (fun _ => 0))) (fun _ => rfl) hn0 hcl hbytes ?_ ?_ hd (fun q0 cA H1 hK1 hP1 hD1 hS1 => ?_)
        · show cells + 1 ≤ am_b1 k
          omega
        · show slots + n.toNat ≤ am_b2 k
          omega
        · have hcA : cA = cs.1 := by
            have e1 := (hK1.2 4 _ rfl).2
            have e2 := (hG.1.2 0 _ rfl).2
            exact Option.some.inj (e1.symm.trans e2)
          subst hcA
          refine am_W_siz fun hz1 => ?_
          obtain ⟨hq, hR1, hz2⟩ := am_made (m' := am_mk m (10 + 0) n.toNat) (t := 10 + 0) (n := n.toNat) hR hz hfit.2.2.1 rfl hP1 hD1 (by rw [am_mk_new]; rfl) am_mk_cell (am_mk_rg hR.2.2.2) hz1
          subst hq
          refine am_fin h.2 ⟨hC, hG, hS1, hB, hR1, hz2, hL, hkL, List.forall_mem_cons.mpr ⟨trivial, hk⟩, ?_, ?_⟩ (hn rfl) ?_
          · show cells + 1 + (bd.1 - 1) = am_b1 k
            omega
          · show slots + n.toNat + (bd.2 - n.toNat) ≤ am_b2 k
            omega
          · show va_rf (some (am_ra base sa m.1.length)) :: _ = _
            rw [am_ra_lt (by omega)]
            rfl
      · obtain rfl := Option.some.inj ht
        have hbytes : n.toNat * componentBytes (.int : FieldType) ≤ 536870912 := by
          show n.toNat * 4 ≤ 536870912
          omega
        refine va_newa (atype := .int) hx hb (hts _ (am_good_of am_x8 rfl)) (ty := .int) rfl hG.1 hR.2.2.1 am_ws_D hS (fun q hq => Nat.le_trans hB hq) (N' := n.toNat) (a0 := (n.toNat, .inl (fun _ => 0))) (fun _ => rfl) hn0 hcl hbytes ?_ ?_ hd (fun q0 cA H1 hK1 hP1 hD1 hS1 => ?_)
        · show cells + 1 ≤ am_b1 k
          omega
        · show slots + n.toNat ≤ am_b2 k
          omega
        · have hcA : cA = cs.2.1 := by
            have e1 := (hK1.2 4 _ rfl).2
            have e2 := (hG.1.2 1 _ rfl).2
            exact Option.some.inj (e1.symm.trans e2)
          subst hcA
          refine am_W_siz fun hz1 => ?_
          obtain ⟨hq, hR1, hz2⟩ := am_made (m' := am_mk m (10 + 1) n.toNat) (t := 10 + 1) (n := n.toNat) hR hz hfit.2.2.1 rfl hP1 hD1 (by rw [am_mk_new]; rfl) am_mk_cell (am_mk_rg hR.2.2.2) hz1
          subst hq
          refine am_fin h.2 ⟨hC, hG, hS1, hB, hR1, hz2, hL, hkL, List.forall_mem_cons.mpr ⟨trivial, hk⟩, ?_, ?_⟩ (hn rfl) ?_
          · show cells + 1 + (bd.1 - 1) = am_b1 k
            omega
          · show slots + n.toNat + (bd.2 - n.toNat) ≤ am_b2 k
            omega
          · show va_rf (some (am_ra base sa m.1.length)) :: _ = _
            rw [am_ra_lt (by omega)]
            rfl
      · obtain rfl := Option.some.inj ht
        have hbytes : n.toNat * componentBytes (.float : FieldType) ≤ 536870912 := by
          show n.toNat * 4 ≤ 536870912
          omega
        refine va_newa (atype := .float) hx hb (hts _ (am_good_of am_x9 rfl)) (ty := .float) rfl hG.1 hR.2.2.1 am_ws_D hS (fun q hq => Nat.le_trans hB hq) (N' := n.toNat) (a0 := (n.toNat, .inr (.inr (.inl (fun _ => 0))))) (fun _ => rfl) hn0 hcl hbytes ?_ ?_ hd (fun q0 cA H1 hK1 hP1 hD1 hS1 => ?_)
        · show cells + 1 ≤ am_b1 k
          omega
        · show slots + n.toNat ≤ am_b2 k
          omega
        · have hcA : cA = cs.2.2.1 := by
            have e1 := (hK1.2 4 _ rfl).2
            have e2 := (hG.1.2 2 _ rfl).2
            exact Option.some.inj (e1.symm.trans e2)
          subst hcA
          refine am_W_siz fun hz1 => ?_
          obtain ⟨hq, hR1, hz2⟩ := am_made (m' := am_mk m (10 + 2) n.toNat) (t := 10 + 2) (n := n.toNat) hR hz hfit.2.2.1 rfl hP1 hD1 (by rw [am_mk_new]; rfl) am_mk_cell (am_mk_rg hR.2.2.2) hz1
          subst hq
          refine am_fin h.2 ⟨hC, hG, hS1, hB, hR1, hz2, hL, hkL, List.forall_mem_cons.mpr ⟨trivial, hk⟩, ?_, ?_⟩ (hn rfl) ?_
          · show cells + 1 + (bd.1 - 1) = am_b1 k
            omega
          · show slots + n.toNat + (bd.2 - n.toNat) ≤ am_b2 k
            omega
          · show va_rf (some (am_ra base sa m.1.length)) :: _ = _
            rw [am_ra_lt (by omega)]
            rfl
    all_goals exact h.elim
  all_goals exact h.elim
set_option maxHeartbeats 1000000 in
theorem am_s91 : am_OpS l base sa cs D E 91 am_o91 := by
  intro k ip pc a b cp pl hrow bd ls st m Q h
  obtain ⟨⟨il, ht, hd, hn⟩, hpc, hside, hword, hjmp, hsw⟩ := am_dec hrow
  unfold am_o91 at h
  obtain rfl := Option.some.inj ht
  have hsd := of_decide_eq_true hside
  have hw := am_good_of (hword _ rfl) rfl
  split at h
  next n st =>
    split at h
    next hfit =>
      simp only [Bool.and_eq_true, Nat.ble_eq, Nat.blt_eq] at hfit
      refine am_intro hpc ?_
      intro p e S mm args below meth c H locs cells slots lsA hI
      obtain ⟨hC, hG, hS, hB, hR, hz, hL, hkL, hkS, hc1, hc2⟩ := id hI
      obtain ⟨hx, hb, hr, hml, hown, hts, hlk, hini⟩ := id hC
      have hc1' : cells + bd.1 = am_b1 k := hc1
      have hc2' : slots + bd.2 ≤ am_b2 k := hc2
      have vn : am_rg n := (List.forall_mem_cons.mp hkS).1
      have hk := (List.forall_mem_cons.mp hkS).2
      have hn0 : ¬ Int32.ofInt n < 0 := fun z => by
        have h5 := (am_lt32 vn am_rg0).mp z
        have h6 := h.1.1
        omega
      have hcl := am_clN vn
      have h7 := h.1.2
      subst hsd
      refine va_newq hx hb hown (hts _ hw) hG.2.2.1 hG.1 hR.2.2.1 am_ws_D hS (fun q hq => Nat.le_trans hB hq) (N' := n.toNat) hn0 hcl (by omega) ?_ ?_ hd (fun q0 cA H1 hK1 hP1 hD1 hS1 => ?_)
      · show cells + 1 ≤ am_b1 k
        omega
      · show slots + n.toNat ≤ am_b2 k
        omega
      · have hcA : cA = cs.2.2.2 := by
          obtain ⟨_, _, _, _, _, e1⟩ := (hK1.2 4 _ rfl).2
          obtain ⟨_, _, _, _, _, e2⟩ := (hG.1.2 3 _ rfl).2
          exact Option.some.inj (e1.symm.trans e2)
        subst hcA
        refine am_W_siz fun hz1 => ?_
        obtain ⟨hq, hR1, hz2⟩ := am_made (m' := am_mk m 13 n.toNat) (t := 13) (n := n.toNat) hR hz hfit.2.2 rfl hP1 hD1 (by rw [am_mk_new]; rfl) am_mk_cell (am_mk_rg hR.2.2.2) hz1
        subst hq
        refine am_fin h.2 ⟨hC, hG, hS1, hB, hR1, hz2, hL, hkL, List.forall_mem_cons.mpr ⟨trivial, hk⟩, ?_, ?_⟩ (hn rfl) ?_
        · show cells + 1 + (bd.1 - 1) = am_b1 k
          omega
        · show slots + n.toNat + (bd.2 - n.toNat) ≤ am_b2 k
          omega
        · show va_rf (some (am_ra base sa m.1.length)) :: _ = _
          rw [am_ra_lt (by omega)]
          rfl
    all_goals exact h.elim
  all_goals exact h.elim
/-- every operation is sound -/
theorem am_ops_ok (hE : am_EO E) : ∀ n f, am_nth am_ops n = some f → am_OpS l base sa cs D E n f := by
  intro n f h
  match n, h with
  | 0, h => cases (show some am_o0 = some f from h); exact am_s0
  | 1, h => cases (show some am_o1 = some f from h); exact am_s1
  | 2, h => cases (show some am_o2 = some f from h); exact am_s2
  | 3, h => cases (show some am_o3 = some f from h); exact am_s3
  | 4, h => cases (show some am_o1 = some f from h); exact am_s4
  | 5, h => cases (show some am_o5 = some f from h); exact am_s5
  | 6, h => cases (show some am_o6 = some f from h); exact am_s6
  | 7, h => cases (show some am_o7 = some f from h); exact am_s7
  | 8, h => cases (show some am_o8 = some f from h); exact am_s8
  | 9, h => cases (show some am_o9 = some f from h); exact am_s9
  | 10, h => cases (show some am_o10 = some f from h); exact am_s10
  | 11, h => cases (show some am_o11 = some f from h); exact am_s11
  | 12, h => cases (show some am_o12 = some f from h); exact am_s12
  | 13, h => cases (show some am_o13 = some f from h); exact am_s13
  | 14, h => cases (show some am_o14 = some f from h); exact am_s14
  | 15, h => cases (show some am_o15 = some f from h); exact am_s15
  | 16, h => cases (show some am_o16 = some f from h); exact am_s16
  | 17, h => cases (show some am_o17 = some f from h); exact am_s17
  | 18, h => cases (show some am_o18 = some f from h); exact am_s18
  | 19, h => cases (show some am_o19 = some f from h); exact am_s19
  | 20, h => cases (show some am_o20 = some f from h); exact am_s20
  | 21, h => cases (show some am_o21 = some f from h); exact am_s21
  | 22, h => cases (show some am_o22 = some f from h); exact am_s22
  | 23, h => cases (show some am_o23 = some f from h); exact am_s23
  | 24, h => cases (show some am_o24 = some f from h); exact am_s24
  | 25, h => cases (show some am_o25 = some f from h); exact am_s25
  | 26, h => cases (show some am_o26 = some f from h); exact am_s26
  | 27, h => cases (show some am_o27 = some f from h); exact am_s27
  | 28, h => cases (show some am_o28 = some f from h); exact am_s28
  | 29, h => cases (show some am_o29 = some f from h); exact am_s29
  | 30, h => cases (show some am_o30 = some f from h); exact am_s30
  | 31, h => cases (show some am_o31 = some f from h); exact am_s31
  | 32, h => cases (show some am_o32 = some f from h); exact am_s32
  | 33, h => cases (show some am_o33 = some f from h); exact am_s33
  | 34, h => cases (show some am_o34 = some f from h); exact am_s34
  | 35, h => cases (show some am_o35 = some f from h); exact am_s35
  | 36, h => cases (show some am_o36 = some f from h); exact am_s36
  | 37, h => cases (show some am_o37 = some f from h); exact am_s37
  | 38, h => cases (show some am_o38 = some f from h); exact am_s38
  | 39, h => cases (show some am_o39 = some f from h); exact am_s39
  | 40, h => cases (show some am_o40 = some f from h); exact am_s40
  | 41, h => cases (show some am_o41 = some f from h); exact am_s41
  | 42, h => cases (show some am_o42 = some f from h); exact am_s42
  | 43, h => cases (show some am_o43 = some f from h); exact am_s43
  | 44, h => cases (show some am_o44 = some f from h); exact am_s44
  | 45, h => cases (show some am_o45 = some f from h); exact am_s45
  | 46, h => cases (show some am_o46 = some f from h); exact am_s46
  | 47, h => cases (show some am_o47 = some f from h); exact am_s47
  | 48, h => cases (show some am_o48 = some f from h); exact am_s48
  | 49, h => cases (show some am_o49 = some f from h); exact am_s49
  | 50, h => cases (show some am_o50 = some f from h); exact am_s50
  | 51, h => cases (show some am_o51 = some f from h); exact am_s51
  | 52, h => cases (show some am_o52 = some f from h); exact am_s52
  | 53, h => cases (show some am_o53 = some f from h); exact am_s53
  | 54, h => cases (show some am_o54 = some f from h); exact am_s54
  | 55, h => cases (show some am_o55 = some f from h); exact am_s55
  | 56, h => cases (show some am_o55 = some f from h); exact am_s56
  | 57, h => cases (show some am_o57 = some f from h); exact am_s57
  | 58, h => cases (show some am_o57 = some f from h); exact am_s58
  | 59, h => cases (show some am_o59 = some f from h); exact am_s59
  | 60, h => cases (show some am_o60 = some f from h); exact am_s60
  | 61, h => cases (show some am_o61 = some f from h); exact am_s61 hE
  | 62, h => cases (show some am_o62 = some f from h); exact am_s62
  | 63, h => cases (show some am_oF = some f from h); exact fun _ _ _ _ _ _ _ _ _ _ _ _ _ h => h.elim
  | 64, h => cases (show some am_oF = some f from h); exact fun _ _ _ _ _ _ _ _ _ _ _ _ _ h => h.elim
  | 65, h => cases (show some am_o65 = some f from h); exact am_s65
  | 66, h => cases (show some am_o66 = some f from h); exact am_s66
  | 67, h => cases (show some am_o67 = some f from h); exact am_s67
  | 68, h => cases (show some am_o68 = some f from h); exact am_s68
  | 69, h => cases (show some am_o69 = some f from h); exact am_s69
  | 70, h => cases (show some am_o70 = some f from h); exact am_s70
  | 71, h => cases (show some am_o70 = some f from h); exact am_s71
  | 72, h => cases (show some am_o72 = some f from h); exact am_s72
  | 73, h => cases (show some am_o72 = some f from h); exact am_s73
  | 74, h => cases (show some am_o74 = some f from h); exact am_s74
  | 75, h => cases (show some am_o74 = some f from h); exact am_s75
  | 76, h => cases (show some am_o76 = some f from h); exact am_s76
  | 77, h => cases (show some am_o77 = some f from h); exact am_s77
  | 78, h => cases (show some am_o78 = some f from h); exact am_s78
  | 79, h => cases (show some am_o79 = some f from h); exact am_s79
  | 80, h => cases (show some am_o80 = some f from h); exact am_s80
  | 81, h => cases (show some am_o81 = some f from h); exact am_s81
  | 82, h => cases (show some am_o82 = some f from h); exact am_s82
  | 83, h => cases (show some am_o83 = some f from h); exact am_s83
  | 84, h => cases (show some am_o84 = some f from h); exact am_s84
  | 85, h => cases (show some am_o85 = some f from h); exact am_s85
  | 86, h => cases (show some am_o86 = some f from h); exact am_s86
  | 87, h => cases (show some am_o87 = some f from h); exact am_s87
  | 88, h => cases (show some am_o88 = some f from h); exact am_s88
  | 89, h => cases (show some am_o89 = some f from h); exact am_s89
  | 90, h => cases (show some am_o90 = some f from h); exact am_s90
  | 91, h => cases (show some am_o91 = some f from h); exact am_s91
  | n + 92, h => cases (show (none : Option am_O) = some f from h)
theorem am_ref_nth : ∀ {l l2 : am_LS} {n : Nat} {v : am_V}, am_ref l l2 → am_nth l n = some (some v) → am_nth l2 n = some (some v)
  | [], _, _, _, _, h => by cases h
  | none :: l, [], _, _, hr, _ => hr.elim
  | none :: l, _ :: l2, 0, _, _, h => by cases h
  | none :: l, _ :: l2, n + 1, _, hr, h => am_ref_nth (l := l) (l2 := l2) (n := n) hr h
  | some u :: l, [], _, _, hr, _ => hr.elim
  | some u :: l, w :: l2, 0, _, hr, h => by
    obtain rfl := hr.1
    exact h
  | some u :: l, w :: l2, n + 1, _, hr, h => am_ref_nth (l := l) (l2 := l2) (n := n) hr.2 h
theorem am_Sd_forg : am_forg (am_Sd l base sa cs D E) := by
  intro k ip bd ls ls2 st m Q hr h p e S mm args below meth c H locs cells slots lsA hI
  obtain ⟨hC, hG, hS, hB, hR, hz, hL, hkL, hkS, hc1, hc2⟩ := hI
  refine h p e S mm args below meth c H locs cells slots lsA ⟨hC, hG, hS, hB, hR, hz, ⟨hL.1, hL.2.1, fun q hq => hL.2.2 q ?_⟩, fun n v hv => hkL n v (am_ref_nth hr hv), hkS, hc1, hc2⟩
  obtain ⟨j, w⟩ := q
  obtain ⟨n, v, h1, h2, h3⟩ := am_lv_mem.mp hq
  exact am_lv_mem.mpr ⟨n, v, h1, am_ref_nth hr h2, h3⟩
/-- THE ABSTRACT MACHINE IS SOUND -/
theorem am_sound (hE : am_EO E) {k : Nat} {s : am_St} {Q : am_Q} (h : am_X E k s Q) : am_Sd l base sa cs D E k s Q := by
  refine h _ (am_Sd_mono l base sa cs D E) am_Sd_forg ?_
  intro k s Q hs
  unfold am_step at hs
  split at hs
  · rename_i pc op a b cp pl hrow
    split at hs
    · rename_i f hf
      exact am_ops_ok hE op f hf k s.1 pc a b cp pl hrow _ _ _ _ _ hs
    · exact hs.elim
  · exact hs.elim
end SND5
