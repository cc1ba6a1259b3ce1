/-! cells, on -/
section SND3
variable {l : Launch} {base : Nat} {sa : Nat → Nat} {cs : am_CS} {D : va_G} {E : am_E}
set_option maxHeartbeats 1000000 in
theorem am_s59 : am_OpS l base sa cs D E 59 am_o59 := by
  intro k ip pc a b cp pl hrow bd ls st m Q h
  obtain ⟨⟨il, ht, hd, hn⟩, hpc, hside, hword, hjmp, hsw⟩ := am_dec hrow
  unfold am_o59 at h
  obtain rfl := Option.some.inj ht
  have hb6 := of_decide_eq_true hside
  have hw := am_good_of (hword _ rfl) rfl
  split at h
  next r q st =>
    split at h
    next n htag =>
      split at h
      next hkd =>
        refine am_intro hpc ?_
        intro p e S mm args below meth c H locs cells slots lsA hI
        obtain ⟨hC, hG, hS, hB, hR, hz, hL, hkL, hkS, hc1, hc2⟩ := id hI
        obtain ⟨hx, hb, hr, hml, hown, hts, hlk, hini⟩ := id hC
        have hk := (List.forall_mem_cons.mp (List.forall_mem_cons.mp hkS).2).2
        have hq := (am_tag_of htag)
        have he := am_obj_at (base := base) (sa := sa) (cs := cs) htag hb6.2.1
        have hsame : ∀ y, S.fieldFound? (am_Tf a b.toNat).1 (am_Tf a b.toNat).2.1 (am_Tf a b.toNat).2.2.1 = some y → S.fieldFound? (am_cn a) (am_Tf a b.toNat).2.1 (am_Tf a b.toNat).2.2.1 = some y := fun y hy => by rw [am_decl a hb6.2.1 _ hb6.1] at hy; exact hy
        have hrf := am_isQ a hb6.2.1 _ hb6.1 hkd
        have hnar : narrow (am_tyf a b.toNat) (.ref (am_ra base sa r)) = .ref (am_ra base sa r) := by
          cases hty : am_tyf a b.toNat <;> rw [hty] at hrf <;> first | rfl | cases hrf
        have hfit : fits (am_tyf a b.toNat) (.ref (am_ra base sa r)) = true := by
          cases hty : am_tyf a b.toNat <;> rw [hty] at hrf <;> first | rfl | cases hrf
        have hset : (am_ws base sa cs m).set q (am_ra base sa q, .inr (a, ((List.range (am_N a)).map (fun j => am_fd base sa (am_fk a j) (m.2.1 q j) (m.2.2.2 q j))).set b.toNat (.ref (am_ra base sa r)))) = am_ws base sa cs (m.1, m.2.1, m.2.2.1, am_up m.2.2.2 q b.toNat (some r)) := by
          rw [am_ra_lt hq.1]
          refine am_ws_set rfl hq.2.2 ?_ (am_cell_ne rfl (fun _ _ => rfl) (fun _ _ => rfl) (fun j hj => am_up_ne hj))
          rw [am_cell_of (m := (m.1, m.2.1, m.2.2.1, am_up m.2.2.2 q b.toNat (some r))) hq.2.1, am_cf_obj hb6.2.1]
          congr 2
          refine (am_fset ?_ ?_).symm
          · show am_fd base sa _ _ (am_up m.2.2.2 q b.toNat (some r) q b.toNat) = _
            rw [am_up_eq, hkd]
            simp [am_fd, va_rf]
          · intro j hj
            show am_fd base sa _ _ (am_up m.2.2.2 q b.toNat (some r) q j) = _
            rw [am_up_eq]
            simp [hj]
        refine va_putF hx hb hts (am_lay_in hb6.2.1) (am_tyf a) (am_tyok a hb6.2.1) (am_nmok a hb6.2.1) hown hG.1 hR.2.2.1 am_ws_D hS q he (am_Cl_at a hb6.2.1) b.toNat hb6.1 (hts _ hw) hsame hb6.2.2.1 (hini hb6.2.2.2.2) (by rw [hb6.2.2.2.1]; exact am_decl a hb6.2.1 _ hb6.1) (am_tyok a hb6.2.1 _ hb6.1) hnar hfit (by simp [hb6.1]) hd (fun H1 locs1 hP1 _ hS1 => ?_)
        have hP1 : va_P D am_Cl (am_ws base sa cs (m.1, m.2.1, m.2.2.1, am_up m.2.2.2 q b.toNat (some r))) H1 := by
          rw [← hset]
          exact hP1
        refine am_W_siz fun hz1 => ?_
        obtain ⟨hR1, hz2⟩ := am_wrote (m' := (m.1, m.2.1, m.2.2.1, am_up m.2.2.2 q b.toNat (some r))) hR hz rfl hq.2.2 hP1 hR.2.2.2 hz1
        exact am_fin h ⟨hC, hG, hS1, hB, hR1, hz2, hL, hkL, hk, hc1, hc2⟩ (hn rfl) rfl
      all_goals exact h.elim
    all_goals exact h.elim
  all_goals exact h.elim
set_option maxHeartbeats 1000000 in
theorem am_s60 : am_OpS l base sa cs D E 60 am_o60 := by
  intro k ip pc a b cp pl hrow bd ls st m Q h
  obtain ⟨⟨il, ht, hd, hn⟩, hpc, hside, hword, hjmp, hsw⟩ := am_dec hrow
  unfold am_o60 at h
  obtain rfl := Option.some.inj ht
  have ha := of_decide_eq_true hside
  have hw := am_good_of (hword _ rfl) rfl
  refine am_intro hpc ?_
  intro p e S mm args below meth c H locs cells slots lsA hI
  obtain ⟨hC, hG, hS, hB, hR, hz, hL, hkL, hkS, hc1, hc2⟩ := id hI
  obtain ⟨hx, hb, hr, hml, hown, hts, hlk, hini⟩ := id hC
  have hk2 : ∀ v ∈ amR (1000 + a) :: st, am_ok v := List.forall_mem_cons.mpr ⟨trivial, hkS⟩
  have hsa : am_ra base sa (1000 + a) = sa a := by
    unfold am_ra
    rw [if_neg (by omega), Nat.add_sub_cancel_left]
  have kk := am_fin (p := p) (e := e) (S := S) (mm := mm) (args := args) (below := below) (meth := meth) (c := c) (H := H) (locs := locs) (cells := cells) (slots := slots) (lsA := lsA) h ⟨hC, hG, hS, hB, hR, hz, hL, hkL, hk2, hc1, hc2⟩ (hn rfl) rfl
  have hen : am_en base sa (amR (1000 + a)) = .ref (sa a) := by rw [← hsa]; rfl
  rw [List.map_cons, hen] at kk
  have ha2 : a = 0 ∨ a = 1 := by omega
  rcases ha2 with rfl | rfl
  · exact va_gets hx hb hG.2.2.2.2.1 hS hown (hts _ hw) (fun _ hy => hy) hd kk
  · exact va_gets hx hb hG.2.2.2.2.2 hS hown (hts _ hw) (fun _ hy => hy) hd kk
theorem am_arr_of {m : am_M} {q n : Nat} {f : Nat → Int} (h : am_arr E m q = some (n, f)) : (am_tag m q 10 = some n ∧ f = m.2.1 q) ∨ (1000 ≤ q ∧ q - 1000 < 3 ∧ (E (q - 1000)) = (n, f)) := by
  unfold am_arr at h
  unfold am_tag
  split at h
  · rename_i h1
    split at h
    · rename_i t n2 h2
      try simp only [h1, h2]
      split at h
      · rename_i h3
        cases h
        refine Or.inl ⟨?_, rfl⟩
        try simp only [h3]
      · cases h
    · cases h
  · rename_i h1
    split at h
    · rename_i h2
      refine Or.inr ⟨?_, by simpa using h2, Option.some.inj h⟩
      have h9 : ¬ q < 1000 := fun hh => by
        rw [Nat.blt_eq.mpr hh] at h1
        cases h1
      omega
    · cases h
set_option maxHeartbeats 1000000 in
theorem am_s61 (hE : am_EO E) : am_OpS l base sa cs D E 61 am_o61 := by
  intro k ip pc a b cp pl hrow bd ls st m Q h
  obtain ⟨⟨il, ht, hd, hn⟩, hpc, hside, hword, hjmp, hsw⟩ := am_dec hrow
  unfold am_o61 at h
  obtain rfl := Option.some.inj ht
  split at h
  next j q st =>
    split at h
    next n f harr =>
      refine am_intro hpc ?_
      intro p e S mm args below meth c H locs cells slots lsA hI
      obtain ⟨hC, hG, hS, hB, hR, hz, hL, hkL, hkS, hc1, hc2⟩ := id hI
      obtain ⟨hx, hb, hr, hml, hown, hts, hlk, hini⟩ := id hC
      have vj : am_rg j := (List.forall_mem_cons.mp hkS).1
      have hk := (List.forall_mem_cons.mp (List.forall_mem_cons.mp hkS).2).2
      have hcl := am_clN vj
      rcases am_arr_of harr with ⟨htag, rfl⟩ | ⟨q1, q2, q3⟩
      · have he := am_arr_at (base := base) (sa := sa) (cs := cs) htag
        refine va_iald hx hb hG.1 hR.2.2.1 q 0 he rfl ((am_vin vj).mpr h.1) hd ?_
        rw [hcl]
        exact am_fin h.2 ⟨hC, hG, hS, hB, hR, hz, hL, hkL, List.forall_mem_cons.mpr ⟨hR.2.2.2 _ _, hk⟩, hc1, hc2⟩ (hn rfl) rfl
      · have hT := hG.2.2.2.1 _ q2
        have hra : am_ra base sa q = sa (q - 1000) := by
          unfold am_ra
          rw [if_neg (by omega)]
        rw [q3] at hT
        have hen : am_en base sa (Sum.inr (Sum.inl (some q))) = .ref (sa (q - 1000)) := by rw [← hra]; rfl
        rw [List.map_cons, List.map_cons, hen]
        have hok : am_rg (f j.toNat) := by
          have h5 := (hE _ q2).2 j.toNat
          rw [q3] at h5
          exact h5
        refine va_ti hx hb hT hS ((am_vin vj).mpr h.1) rfl hd ?_
        rw [hcl]
        exact am_fin h.2 ⟨hC, hG, hS, hB, hR, hz, hL, hkL, List.forall_mem_cons.mpr ⟨hok, hk⟩, hc1, hc2⟩ (hn rfl) rfl
    all_goals exact h.elim
  all_goals exact h.elim
set_option maxHeartbeats 1000000 in
theorem am_s65 : am_OpS l base sa cs D E 65 am_o65 := by
  intro k ip pc a b cp pl hrow bd ls st m Q h
  obtain ⟨⟨il, ht, hd, hn⟩, hpc, hside, hword, hjmp, hsw⟩ := am_dec hrow
  unfold am_o65 at h
  obtain rfl := Option.some.inj ht
  split at h
  next j q st =>
    split at h
    next n htag =>
      refine am_intro hpc ?_
      intro p e S mm args below meth c H locs cells slots lsA hI
      obtain ⟨hC, hG, hS, hB, hR, hz, hL, hkL, hkS, hc1, hc2⟩ := id hI
      obtain ⟨hx, hb, hr, hml, hown, hts, hlk, hini⟩ := id hC
      have vj : am_rg j := (List.forall_mem_cons.mp hkS).1
      have hk := (List.forall_mem_cons.mp (List.forall_mem_cons.mp hkS).2).2
      have hcl := am_clN vj
      have he := am_arf_at (base := base) (sa := sa) (cs := cs) htag
      refine va_fald hx hb hG.1 hR.2.2.1 q 2 he rfl ((am_vin vj).mpr h.1) hd ?_
      rw [hcl]
      exact am_fin h.2 ⟨hC, hG, hS, hB, hR, hz, hL, hkL, List.forall_mem_cons.mpr ⟨trivial, hk⟩, hc1, hc2⟩ (hn rfl) rfl
    all_goals exact h.elim
  all_goals exact h.elim
set_option maxHeartbeats 1000000 in
theorem am_s68 : am_OpS l base sa cs D E 68 am_o68 := by
  intro k ip pc a b cp pl hrow bd ls st m Q h
  obtain ⟨⟨il, ht, hd, hn⟩, hpc, hside, hword, hjmp, hsw⟩ := am_dec hrow
  unfold am_o68 at h
  obtain rfl := Option.some.inj ht
  split at h
  next j q st =>
    split at h
    next n htag =>
      refine am_intro hpc ?_
      intro p e S mm args below meth c H locs cells slots lsA hI
      obtain ⟨hC, hG, hS, hB, hR, hz, hL, hkL, hkS, hc1, hc2⟩ := id hI
      obtain ⟨hx, hb, hr, hml, hown, hts, hlk, hini⟩ := id hC
      have vj : am_rg j := (List.forall_mem_cons.mp hkS).1
      have hk := (List.forall_mem_cons.mp (List.forall_mem_cons.mp hkS).2).2
      have hcl := am_clN vj
      have he := am_arq_at (base := base) (sa := sa) (cs := cs) htag
      refine va_aldq hx hb hG.1 hR.2.2.1 q 3 he rfl ((am_vin vj).mpr h.1) hd ?_
      rw [hcl]
      exact am_fin h.2 ⟨hC, hG, hS, hB, hR, hz, hL, hkL, List.forall_mem_cons.mpr ⟨trivial, hk⟩, hc1, hc2⟩ (hn rfl) rfl
    all_goals exact h.elim
  all_goals exact h.elim
set_option maxHeartbeats 1000000 in
theorem am_s62 : am_OpS l base sa cs D E 62 am_o62 := by
  intro k ip pc a b cp pl hrow bd ls st m Q h
  obtain ⟨⟨il, ht, hd, hn⟩, hpc, hside, hword, hjmp, hsw⟩ := am_dec hrow
  unfold am_o62 at h
  obtain rfl := Option.some.inj ht
  split at h
  next x j q st =>
    split at h
    next n htag =>
      refine am_intro hpc ?_
      intro p e S mm args below meth c H locs cells slots lsA hI
      obtain ⟨hC, hG, hS, hB, hR, hz, hL, hkL, hkS, hc1, hc2⟩ := id hI
      obtain ⟨hx, hb, hr, hml, hown, hts, hlk, hini⟩ := id hC
      have vx := (List.forall_mem_cons.mp hkS).1
      have vj : am_rg j := (List.forall_mem_cons.mp (List.forall_mem_cons.mp hkS).2).1
      have hk := (List.forall_mem_cons.mp (List.forall_mem_cons.mp (List.forall_mem_cons.mp hkS).2).2).2
      have hcl := am_clN vj
      have hq := am_tag_of htag
      have he := am_arr_at (base := base) (sa := sa) (cs := cs) htag
      refine va_iast hx hb hG.1 hR.2.2.1 am_ws_D hS q 0 he rfl ((am_vin vj).mpr h.1) hd (fun H1 locs1 hP1 _ hS1 => ?_)
      rw [hcl] at hP1
      have hset : (am_ws base sa cs m).set q (am_ra base sa q, .inl (cs.1, n, .inl (upd (fun j => Int32.ofInt (m.2.1 q j)) j.toNat (Int32.ofInt x)))) = am_ws base sa cs (m.1, am_up m.2.1 q j.toNat x, m.2.2.1, m.2.2.2) := by
        rw [am_ra_lt hq.1]
        refine am_ws_set rfl hq.2.2 ?_ (am_cell_ne rfl (fun j hj => by first | rfl | exact am_up_ne hj) (fun j hj => by first | rfl | exact am_up_ne hj) (fun j hj => by first | rfl | exact am_up_ne hj))
        rw [am_cell_of (m := (m.1, am_up m.2.1 q j.toNat x, m.2.2.1, m.2.2.2)) hq.2.1]
        show am_cf _ _ _ _ _ _ _ _ = _
        unfold am_cf
        simp only [am_up_eq]
        simp
        funext i
        by_cases hi : i = j.toNat
        · simp [hi, upd, vf_upd]
        · simp [hi, upd, vf_upd]
      rw [hset] at hP1
      refine am_W_siz fun hz1 => ?_
      obtain ⟨hR1, hz2⟩ := am_wrote (m' := (m.1, am_up m.2.1 q j.toNat x, m.2.2.1, m.2.2.2)) hR hz rfl hq.2.2 hP1 (am_rg_up hR.2.2.2 vx) hz1
      exact am_fin h.2 ⟨hC, hG, hS1, hB, hR1, hz2, hL, hkL, hk, hc1, hc2⟩ (hn rfl) rfl
    all_goals exact h.elim
  all_goals exact h.elim
set_option maxHeartbeats 1000000 in
theorem am_s66 : am_OpS l base sa cs D E 66 am_o66 := by
  intro k ip pc a b cp pl hrow bd ls st m Q h
  obtain ⟨⟨il, ht, hd, hn⟩, hpc, hside, hword, hjmp, hsw⟩ := am_dec hrow
  unfold am_o66 at h
  obtain rfl := Option.some.inj ht
  split at h
  next x j q st =>
    split at h
    next n htag =>
      refine am_intro hpc ?_
      intro p e S mm args below meth c H locs cells slots lsA hI
      obtain ⟨hC, hG, hS, hB, hR, hz, hL, hkL, hkS, hc1, hc2⟩ := id hI
      obtain ⟨hx, hb, hr, hml, hown, hts, hlk, hini⟩ := id hC
      have vx := (List.forall_mem_cons.mp hkS).1
      have vj : am_rg j := (List.forall_mem_cons.mp (List.forall_mem_cons.mp hkS).2).1
      have hk := (List.forall_mem_cons.mp (List.forall_mem_cons.mp (List.forall_mem_cons.mp hkS).2).2).2
      have hcl := am_clN vj
      have hq := am_tag_of htag
      have he := am_arf_at (base := base) (sa := sa) (cs := cs) htag
      refine va_fast hx hb hG.1 hR.2.2.1 am_ws_D hS q 2 he rfl ((am_vin vj).mpr h.1) hd (fun H1 locs1 hP1 _ hS1 => ?_)
      rw [hcl] at hP1
      have hset : (am_ws base sa cs m).set q (am_ra base sa q, .inl (cs.2.2.1, n, .inr (.inr (.inl (vf_upd (m.2.2.1 q) j.toNat x))))) = am_ws base sa cs (m.1, m.2.1, am_up m.2.2.1 q j.toNat x, m.2.2.2) := by
        rw [am_ra_lt hq.1]
        refine am_ws_set rfl hq.2.2 ?_ (am_cell_ne rfl (fun j hj => by first | rfl | exact am_up_ne hj) (fun j hj => by first | rfl | exact am_up_ne hj) (fun j hj => by first | rfl | exact am_up_ne hj))
        rw [am_cell_of (m := (m.1, m.2.1, am_up m.2.2.1 q j.toNat x, m.2.2.2)) hq.2.1]
        show am_cf _ _ _ _ _ _ _ _ = _
        unfold am_cf
        simp only [am_up_eq]
        simp
        funext i
        by_cases hi : i = j.toNat
        · simp [hi, upd, vf_upd]
        · simp [hi, upd, vf_upd]
      rw [hset] at hP1
      refine am_W_siz fun hz1 => ?_
      obtain ⟨hR1, hz2⟩ := am_wrote (m' := (m.1, m.2.1, am_up m.2.2.1 q j.toNat x, m.2.2.2)) hR hz rfl hq.2.2 hP1 hR.2.2.2 hz1
      exact am_fin h.2 ⟨hC, hG, hS1, hB, hR1, hz2, hL, hkL, hk, hc1, hc2⟩ (hn rfl) rfl
    all_goals exact h.elim
  all_goals exact h.elim
theorem am_alen_of {m : am_M} {q n : Nat} (h : am_alen E m q = some n) : (∃ t, 10 ≤ t ∧ t ≤ 13 ∧ am_tag m q t = some n) ∨ (1000 ≤ q ∧ q - 1000 < 3 ∧ (E (q - 1000)).1 = n) := by
  unfold am_alen at h
  split at h
  · rename_i h1
    split at h
    · rename_i t n2 h2
      split at h
      · rename_i h3
        cases h
        simp only [Bool.and_eq_true, Nat.ble_eq] at h3
        refine Or.inl ⟨t, h3.1, h3.2, ?_⟩
        unfold am_tag
        simp [h1, h2]
      · cases h
    · cases h
  · rename_i h1
    split at h
    · rename_i h2
      refine Or.inr ⟨?_, by simpa using h2, Option.some.inj h⟩
      have h9 : ¬ q < 1000 := fun hh => by
        rw [Nat.blt_eq.mpr hh] at h1
        cases h1
      omega
    · cases h
set_option maxHeartbeats 1000000 in
theorem am_s67 : am_OpS l base sa cs D E 67 am_o67 := by
  intro k ip pc a b cp pl hrow bd ls st m Q h
  obtain ⟨⟨il, ht, hd, hn⟩, hpc, hside, hword, hjmp, hsw⟩ := am_dec hrow
  unfold am_o67 at h
  obtain rfl := Option.some.inj ht
  split at h
  next q st =>
    split at h
    next n halen =>
      refine am_intro hpc ?_
      intro p e S mm args below meth c H locs cells slots lsA hI
      obtain ⟨hC, hG, hS, hB, hR, hz, hL, hkL, hkS, hc1, hc2⟩ := id hI
      obtain ⟨hx, hb, hr, hml, hown, hts, hlk, hini⟩ := id hC
      have hk := (List.forall_mem_cons.mp hkS).2
      have hok : am_rg (n : Int) := ⟨by omega, by have := h.1; omega⟩
      have kk := am_fin (p := p) (e := e) (S := S) (mm := mm) (args := args) (below := below) (meth := meth) (c := c) (H := H) (locs := locs) (cells := cells) (slots := slots) (lsA := lsA) h.2 ⟨hC, hG, hS, hB, hR, hz, hL, hkL, List.forall_mem_cons.mpr ⟨hok, hk⟩, hc1, hc2⟩ (hn rfl) rfl
      have hval : Int32.ofNat n = Int32.ofInt (n : Int) := by first | rfl | exact (Int32.ofInt_natCast n).symm | simp [Int32.ofInt, Int32.ofNat]
      rcases am_alen_of halen with ⟨t, t1, t2, htag⟩ | ⟨q1, q2, q3⟩
      · have ht4 : t = 10 ∨ t = 11 ∨ t = 12 ∨ t = 13 := by omega
        rcases ht4 with rfl | rfl | rfl | rfl
        · exact va_alen hx hb hG.1 hR.2.2.1 q 0 (am_arr_at (base := base) (sa := sa) (cs := cs) htag) (ty := .int) rfl hval hd kk
        · exact va_alen hx hb hG.1 hR.2.2.1 q 1 (am_arz_at (base := base) (sa := sa) (cs := cs) htag) (ty := .int) rfl hval hd kk
        · exact va_alen hx hb hG.1 hR.2.2.1 q 2 (am_arf_at (base := base) (sa := sa) (cs := cs) htag) (ty := .float) rfl hval hd kk
        · exact va_alen hx hb hG.1 hR.2.2.1 q 3 (am_arq_at (base := base) (sa := sa) (cs := cs) htag) (ty := .object "BeatWords$Sheet") rfl hval hd kk
      · have hT := hG.2.2.2.1 _ q2
        have hra : am_ra base sa q = sa (q - 1000) := by
          unfold am_ra
          rw [if_neg (by omega)]
        have hen : am_en base sa (Sum.inr (Sum.inl (some q))) = .ref (sa (q - 1000)) := by rw [← hra]; rfl
        rw [List.map_cons, hen]
        exact va_tlen hx hb hT hS (by rw [q3]; exact hval) hd kk
    all_goals exact h.elim
  all_goals exact h.elim
set_option maxHeartbeats 1000000 in
theorem am_s69 : am_OpS l base sa cs D E 69 am_o69 := by
  intro k ip pc a b cp pl hrow bd ls st m Q h
  obtain ⟨⟨il, ht, hd, hn⟩, hpc, hside, hword, hjmp, hsw⟩ := am_dec hrow
  unfold am_o69 at h
  obtain rfl := Option.some.inj ht
  split at h
  next r j q st =>
    split at h
    next n htag =>
      split at h
      next n2 htagr =>
        refine am_intro hpc ?_
        intro p e S mm args below meth c H locs cells slots lsA hI
        obtain ⟨hC, hG, hS, hB, hR, hz, hL, hkL, hkS, hc1, hc2⟩ := id hI
        obtain ⟨hx, hb, hr, hml, hown, hts, hlk, hini⟩ := id hC
        have vj : am_rg j := (List.forall_mem_cons.mp (List.forall_mem_cons.mp hkS).2).1
        have hk := (List.forall_mem_cons.mp (List.forall_mem_cons.mp (List.forall_mem_cons.mp hkS).2).2).2
        have hcl := am_clN vj
        have hq := am_tag_of htag
        have he := am_arq_at (base := base) (sa := sa) (cs := cs) htag
        have her := am_obj_at (base := base) (sa := sa) (cs := cs) htagr (by omega)
        refine va_astq hx hb hG.1 hR.2.2.1 am_ws_D hS q 3 r 2 he rfl her (am_Cl_at 2 (by omega)) ((am_vin vj).mpr h.1) hd (fun H1 locs1 hP1 _ hS1 => ?_)
        rw [hcl] at hP1
        have hset : (am_ws base sa cs m).set q (am_ra base sa q, .inl (cs.2.2.2, n, .inr (.inr (.inr (.inr (va_up (fun j => (m.2.2.2 q j).map (am_ra base sa)) j.toNat (some (am_ra base sa r)))))))) = am_ws base sa cs (m.1, m.2.1, m.2.2.1, am_up m.2.2.2 q j.toNat (some r)) := by
          rw [am_ra_lt hq.1]
          refine am_ws_set rfl hq.2.2 ?_ (am_cell_ne rfl (fun _ _ => rfl) (fun _ _ => rfl) (fun j hj => am_up_ne hj))
          rw [am_cell_of (m := (m.1, m.2.1, m.2.2.1, am_up m.2.2.2 q j.toNat (some r))) hq.2.1]
          show am_cf _ _ _ _ _ _ _ _ = _
          unfold am_cf
          simp only [am_up_eq]
          simp
          funext i
          by_cases hi : i = j.toNat
          · simp [hi, va_up]
          · simp [hi, va_up]
        rw [hset] at hP1
        refine am_W_siz fun hz1 => ?_
        obtain ⟨hR1, hz2⟩ := am_wrote (m' := (m.1, m.2.1, m.2.2.1, am_up m.2.2.2 q j.toNat (some r))) hR hz rfl hq.2.2 hP1 hR.2.2.2 hz1
        exact am_fin h.2 ⟨hC, hG, hS1, hB, hR1, hz2, hL, hkL, hk, hc1, hc2⟩ (hn rfl) rfl
      all_goals exact h.elim
    all_goals exact h.elim
  all_goals exact h.elim
set_option maxHeartbeats 1000000 in
theorem am_s85 : am_OpS l base sa cs D E 85 am_o85 := by
  intro k ip pc a b cp pl hrow bd ls st m Q h
  obtain ⟨⟨il, ht, hd, hn⟩, hpc, hside, hword, hjmp, hsw⟩ := am_dec hrow
  unfold am_o85 at h
  obtain rfl := Option.some.inj ht
  split at h
  next v st =>
    split at h
    next hcat =>
      refine am_intro hpc ?_
      intro p e S mm args below meth c H locs cells slots lsA hI
      obtain ⟨hC, hG, hS, hB, hR, hz, hL, hkL, hkS, hc1, hc2⟩ := id hI
      obtain ⟨hx, hb, hr, hml, hown, hts, hlk, hini⟩ := id hC
      have hv := (List.forall_mem_cons.mp hkS).1
      have hk := (List.forall_mem_cons.mp hkS).2
      have hc : (am_en base sa v).category = 1 := by rw [am_en_cat]; exact Nat.eq_of_beq_eq_true hcat
      exact lv_dup hx hb hd hc (am_fin h ⟨hC, hG, hS, hB, hR, hz, hL, hkL, List.forall_mem_cons.mpr ⟨hv, List.forall_mem_cons.mpr ⟨hv, hk⟩⟩, hc1, hc2⟩ (hn rfl) rfl)
    all_goals exact h.elim
  all_goals exact h.elim
set_option maxHeartbeats 1000000 in
theorem am_s86 : am_OpS l base sa cs D E 86 am_o86 := by
  intro k ip pc a b cp pl hrow bd ls st m Q h
  obtain ⟨⟨il, ht, hd, hn⟩, hpc, hside, hword, hjmp, hsw⟩ := am_dec hrow
  unfold am_o86 at h
  obtain rfl := Option.some.inj ht
  split at h
  next v st =>
    split at h
    next hcat =>
      refine am_intro hpc ?_
      intro p e S mm args below meth c H locs cells slots lsA hI
      obtain ⟨hC, hG, hS, hB, hR, hz, hL, hkL, hkS, hc1, hc2⟩ := id hI
      obtain ⟨hx, hb, hr, hml, hown, hts, hlk, hini⟩ := id hC
      have hv := (List.forall_mem_cons.mp hkS).1
      have hk := (List.forall_mem_cons.mp hkS).2
      have hc : (am_en base sa v).category = 1 := by rw [am_en_cat]; exact Nat.eq_of_beq_eq_true hcat
      exact lv_pop hx hb hd hc (am_fin h ⟨hC, hG, hS, hB, hR, hz, hL, hkL, hk, hc1, hc2⟩ (hn rfl) rfl)
    all_goals exact h.elim
  all_goals exact h.elim
end SND3
