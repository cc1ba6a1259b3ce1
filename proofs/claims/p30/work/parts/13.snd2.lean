def am_lpl : List (List Nat) := [[118, 120, 122, 124, 126, 128, 130, 132, 134, 136, 138, 140], [69, 71, 73, 75], [207, 209, 211, 213, 215], [168, 170, 172, 174, 176, 178, 180, 182, 184, 186, 188], [236, 238, 240, 242, 244, 246, 248, 250, 252, 254, 256, 258, 260, 262, 264, 266, 268], [207, 209, 211, 213, 215]]
def am_inl : List Nat := [82, 58, 199, 144, 50, 199]
def am_xpl : List Nat := [55, 56, 296, 297, 394, 395, 48, 78, 78, 218]
/-! facts of the classes and of the JDK's two methods (kernel) -/
theorem am_lay_ok : am_upto (fun ci => am_upto (fun j => decide (am_nth lw_tbl ((am_nth ((am_nth am_lpl ci).getD []) j).getD 0) = some (u_lay (am_cn ci) (am_Tf ci) j))) (am_N ci)) 6 = true := by decide +kernel
theorem am_lay_in {ci : Nat} (h : ci < 6) : ∀ w ∈ u_ws (am_cn ci) (am_Tf ci) (am_N ci), w ∈ am_good := by
  intro w hw
  obtain ⟨j, hj, rfl⟩ := List.mem_map.mp hw
  have h1 := am_upto_at am_lay_ok h
  have h2 := of_decide_eq_true (am_upto_at h1 (List.mem_range.mp hj))
  refine am_good_of h2 ?_
  unfold u_lay
  split <;> rfl
theorem am_inl_ok : am_upto (fun ci => decide (am_nth lw_tbl ((am_nth am_inl ci).getD 0) = some (Jvm.Cond.instantiable (am_cn ci) (am_N ci)))) 6 = true := by decide +kernel
theorem am_inst_in {ci : Nat} (h : ci < 6) : Jvm.Cond.instantiable (am_cn ci) (am_N ci) ∈ am_good := am_good_of (of_decide_eq_true (am_upto_at am_inl_ok h)) rfl
theorem am_init_in {ci : Nat} (h : ci < 7) : Jvm.Cond.initialized (am_cn ci) ∈ am_good := am_good_of (am_init_ok ci h) rfl
theorem am_decl : ∀ ci, ci < 6 → ∀ k, k < am_N ci → (am_Tf ci k).1 = am_cn ci := by decide +kernel
theorem am_isI : ∀ ci, ci < 6 → ∀ k, k < am_N ci → am_fk ci k = 0 → am_tyf ci k = .int := by decide +kernel
theorem am_isZ : ∀ ci, ci < 6 → ∀ k, k < am_N ci → am_fk ci k = 2 → am_tyf ci k = .boolean := by decide +kernel
def am_isref : FieldType → Bool
  | .array _ => true
  | .object _ => true
  | _ => false
theorem am_isQ : ∀ ci, ci < 6 → ∀ k, k < am_N ci → am_fk ci k = 1 → am_isref (am_tyf ci k) = true := by decide +kernel
theorem am_dflt : ∀ ci, ci < 6 → ∀ k, k < am_N ci → defaultValue (am_tyf ci k) = if am_fk ci k = 1 then .null else .int 0 := by decide +kernel
theorem am_tyok (ci : Nat) (h : ci < 6) : ∀ k, k < am_N ci → parseFieldDescriptor (am_Tf ci k).2.2.1 = some (am_tyf ci k) := by
  match ci, h with
  | 0, _ => exact am_tyok0
  | 1, _ => exact am_tyok1
  | 2, _ => exact am_tyok2
  | 3, _ => exact am_tyok3
  | 4, _ => exact am_tyok4
  | 5, _ => exact am_tyok5
theorem am_nmok (ci : Nat) (h : ci < 6) : ∀ a, a < am_N ci → ∀ b, b < am_N ci → a ≠ b → (am_Tf ci a).2.1 ≠ (am_Tf ci b).2.1 := by
  match ci, h with
  | 0, _ => exact am_nm0
  | 1, _ => exact am_nm1
  | 2, _ => exact am_nm2
  | 3, _ => exact am_nm3
  | 4, _ => exact am_nm4
  | 5, _ => exact am_nm5
theorem am_Cl_at (ci : Nat) (h : ci < 6) : am_Cl[ci]? = some (am_cn ci, am_Tf ci, am_N ci) := by
  match ci, h with
  | 0, _ => rfl
  | 1, _ => rfl
  | 2, _ => rfl
  | 3, _ => rfl
  | 4, _ => rfl
  | 5, _ => rfl
def am_xw (i : Nat) : Nat := (am_nth am_xpl i).getD 0
theorem am_x0 : am_nth lw_tbl (am_xw 0) = some (.instanceMethod Lib.objectInit) := by decide +kernel
theorem am_x1 : am_nth lw_tbl (am_xw 1) = some (.code Lib.objectInit ⟨#[0xb1]⟩ 1 none) := by decide +kernel
theorem am_x2 : am_nth lw_tbl (am_xw 2) = some (.static Lib.Math.min.name) := by decide +kernel
theorem am_x3 : am_nth lw_tbl (am_xw 3) = some (.code Lib.Math.min.name Lib.Math.min.code 2 (some .int)) := by decide +kernel
theorem am_x4 : am_nth lw_tbl (am_xw 4) = some (.static Lib.Math.max.name) := by decide +kernel
theorem am_x5 : am_nth lw_tbl (am_xw 5) = some (.code Lib.Math.max.name Lib.Math.max.code 2 (some .int)) := by decide +kernel
theorem am_x6 : am_nth lw_tbl (am_xw 6) = some (.initialized "java/lang/Math") := by decide +kernel
theorem am_x7 : am_nth lw_tbl (am_xw 7) = some (.arrayClass .int) := by decide +kernel
theorem am_x8 : am_nth lw_tbl (am_xw 8) = some (.arrayClass .int) := by decide +kernel
theorem am_x9 : am_nth lw_tbl (am_xw 9) = some (.arrayClass .float) := by decide +kernel
theorem am_pc0 : am_upto (fun k => decide (am_pc k 0 = 0)) 181 = true := by decide +kernel
/-! the steps that read and write cells -/
section SND2
variable {l : Launch} {base : Nat} {sa : Nat → Nat} {cs : am_CS} {D : va_G} {E : am_E}
theorem am_cf_obj {t n : Nat} {gi : Nat → Int} {gf : Nat → UInt32} {gr : Nat → Option Nat} (h : t < 6) : am_cf base sa cs t n gi gf gr = .inr (t, (List.range (am_N t)).map (fun j => am_fd base sa (am_fk t j) (gi j) (gr j))) := by
  unfold am_cf
  rw [if_neg (by omega), if_neg (by omega), if_neg (by omega), if_neg (by omega)]
theorem am_obj_at {m : am_M} {q t n : Nat} (ht : am_tag m q t = some n) (h : t < 6) : (am_ws base sa cs m)[q]? = some (am_ra base sa q, .inr (t, (List.range (am_N t)).map (fun j => am_fd base sa (am_fk t j) (m.2.1 q j) (m.2.2.2 q j)))) := by
  obtain ⟨h1, h2, h3⟩ := am_tag_of ht
  rw [am_ws_at h3, am_cell_of h2, am_cf_obj h, am_ra_lt h1]
theorem am_arr_at {m : am_M} {q n : Nat} (ht : am_tag m q 10 = some n) : (am_ws base sa cs m)[q]? = some (am_ra base sa q, .inl (cs.1, n, .inl (fun j => Int32.ofInt (m.2.1 q j)))) := by
  obtain ⟨h1, h2, h3⟩ := am_tag_of ht
  rw [am_ws_at h3, am_cell_of h2, am_ra_lt h1]
  rfl
theorem am_arz_at {m : am_M} {q n : Nat} (ht : am_tag m q 11 = some n) : (am_ws base sa cs m)[q]? = some (am_ra base sa q, .inl (cs.2.1, n, .inl (fun j => Int32.ofInt (m.2.1 q j)))) := by
  obtain ⟨h1, h2, h3⟩ := am_tag_of ht
  rw [am_ws_at h3, am_cell_of h2, am_ra_lt h1]
  rfl
theorem am_arf_at {m : am_M} {q n : Nat} (ht : am_tag m q 12 = some n) : (am_ws base sa cs m)[q]? = some (am_ra base sa q, .inl (cs.2.2.1, n, .inr (.inr (.inl (m.2.2.1 q))))) := by
  obtain ⟨h1, h2, h3⟩ := am_tag_of ht
  rw [am_ws_at h3, am_cell_of h2, am_ra_lt h1]
  rfl
theorem am_arq_at {m : am_M} {q n : Nat} (ht : am_tag m q 13 = some n) : (am_ws base sa cs m)[q]? = some (am_ra base sa q, .inl (cs.2.2.2, n, .inr (.inr (.inr (.inr (fun j => (m.2.2.2 q j).map (am_ra base sa))))))) := by
  obtain ⟨h1, h2, h3⟩ := am_tag_of ht
  rw [am_ws_at h3, am_cell_of h2, am_ra_lt h1]
  rfl
theorem am_fld_at {t k : Nat} {f : Nat → Value} (h : k < am_N t) : ((List.range (am_N t)).map f)[k]? = some (f k) := by simp [h]
theorem am_fset {N k : Nat} {f g : Nat → Value} {v : Value} (hk : g k = v) (ho : ∀ j, j ≠ k → g j = f j) : ((List.range N).map f).set k v = (List.range N).map g := by
  refine List.ext_getElem? fun i => ?_
  rw [List.getElem?_set]
  by_cases hi : k = i
  · subst hi
    by_cases hl : k < N
    · simp [hl, hk]
    · simp [hl]
  · rw [if_neg hi]
    by_cases hl : i < N
    · simp [hl, ho i (Ne.symm hi)]
    · simp [hl]
/-- behind a write: the heap has the size that it had -/
theorem am_wrote {m m' : am_M} {q : Nat} {H H1 : Heap} {S : State} {cells : Nat} (hR : am_RP base sa cs D m H) (hz : H.size = S.heap.size + cells) (h1 : m'.1 = m.1) (hq : q < m.1.length)
    (hP1 : va_P D am_Cl (am_ws base sa cs m') H1) (hrg : ∀ a i, am_rg (m'.2.1 a i)) (hz1 : H1.size ≤ S.heap.size + cells) : am_RP base sa cs D m' H1 ∧ H1.size = S.heap.size + cells := by
  have h2 : m.1.length - 1 < m'.1.length := by rw [h1]; omega
  have h3 := (hP1 _ _ (am_ws_at h2)).lt
  have h4 : base + (m.1.length - 1) < H1.size := h3
  have h5 := hR.1
  have h6 : H1.size = S.heap.size + cells := by omega
  exact ⟨⟨by rw [h1]; omega, by rw [h1]; exact hR.2.1, hP1, hrg⟩, h6⟩
theorem am_rg_up {g : Nat → Nat → Int} {a i : Nat} {x : Int} (h : ∀ a i, am_rg (g a i)) (hx : am_rg x) : ∀ b j, am_rg (am_up g a i x b j) := by
  intro b j
  unfold am_up
  split
  · show am_rg (if j = i then x else g a j)
    split
    · exact hx
    · exact h a j
  · exact h b j
theorem am_cell_ne {m m' : am_M} {q : Nat} (h1 : m'.1 = m.1) (hi : ∀ j, j ≠ q → m'.2.1 j = m.2.1 j) (hf : ∀ j, j ≠ q → m'.2.2.1 j = m.2.2.1 j) (hr : ∀ j, j ≠ q → m'.2.2.2 j = m.2.2.2 j) : ∀ j, j ≠ q → am_cell base sa cs m' j = am_cell base sa cs m j := by
  intro j hj
  unfold am_cell
  rw [h1, hi j hj, hf j hj, hr j hj]
theorem am_fd_q {r : Option Nat} {x : Int} : am_fd base sa 1 x r = am_en base sa (amA r) := rfl
theorem am_fd_i {k : Nat} {r : Option Nat} {x : Int} (h : k ≠ 1) : am_fd base sa k x r = am_en base sa (amI x) := by simp [am_fd, h, am_en]
theorem am_s55g {k ip pc a cp pl : Nat} {b : Int} {il : Instr × Nat} (hd : decode (am_b k) pc = .ok (.getfield cp, 3)) (hn : am_pc k (ip + 1) = pc + 3) (hpc : am_pc k ip = pc) (hb6 : b.toNat < am_N a ∧ a < 6) (nest : Bool)
    (hw : if nest = true then Jvm.Cond.fieldLinkNest (am_cn (am_own k)) cp (am_cn a) (am_Tf a b.toNat).2.1 (am_Tf a b.toNat).2.2.1 "BeatWords" ∈ am_nest else Jvm.Cond.fieldLink (am_cn (am_own k)) cp (am_cn a) (am_Tf a b.toNat).2.1 (am_Tf a b.toNat).2.2.1 ∈ am_good)
    {bd : Nat × Nat} {ls : am_LS} {st : List am_V} {m : am_M} {Q : am_Q} (h : am_run (am_Sd l base sa cs D E) k Q (am_o55 E a b ip bd ls st m)) : am_Sd l base sa cs D E k (ip, bd, ls, st, m) Q := by
  unfold am_o55 at h
  split at h
  next q st =>
    split at h
    next n htag =>
      refine am_intro hpc ?_
      intro p e S mm args below meth c H locs cells slots lsA hI
      obtain ⟨hC, hG, hS, hB, hR, hz, hL, hkL, hkS, hc1, hc2⟩ := id hI
      obtain ⟨hx, hb, hr, hml, hown, hts, hlk, hini⟩ := id hC
      have hk := (List.forall_mem_cons.mp hkS).2
      have hq := (am_tag_of htag).1
      have he := am_obj_at (base := base) (sa := sa) (cs := cs) htag hb6.2
      have hsame : ∀ y, S.fieldFound? (am_Tf a b.toNat).1 (am_Tf a b.toNat).2.1 (am_Tf a b.toNat).2.2.1 = some y → S.fieldFound? (am_cn a) (am_Tf a b.toNat).2.1 (am_Tf a b.toNat).2.2.1 = some y := fun y hy => by rw [am_decl a hb6.2 _ hb6.1] at hy; exact hy
      have kk : W p l e (am_rm k) S mm args below meth c H locs cells slots (MQ below (am_QM base sa cs D k Q) args S (am_b1 k) (am_b2 k) (am_A base)) (F0 mm (pc + 3) lsA (am_fd base sa (am_fk a b.toNat) (m.2.1 q b.toNat) (m.2.2.2 q b.toNat) :: st.map (am_en base sa))) := by
        by_cases h1 : am_fk a b.toNat = 1
        · rw [h1] at h ⊢
          exact am_fin h ⟨hC, hG, hS, hB, hR, hz, hL, hkL, List.forall_mem_cons.mpr ⟨trivial, hk⟩, hc1, hc2⟩ hn rfl
        · rw [am_fd_i h1]
          have h2 : am_Sd l base sa cs D E k (ip + 1, bd, ls, amI (m.2.1 q b.toNat) :: st, m) Q := by
            split at h
            · rename_i h3; exact absurd h3 h1
            · exact h
          exact am_fin h2 ⟨hC, hG, hS, hB, hR, hz, hL, hkL, List.forall_mem_cons.mpr ⟨hR.2.2.2 _ _, hk⟩, hc1, hc2⟩ hn rfl
      have hg : (am_ra base sa q) = am_ra base sa q := rfl
      show W p l e (am_rm k) S mm args below meth c H locs cells slots _ (F0 mm pc lsA (.ref (am_ra base sa q) :: st.map (am_en base sa)))
      cases nest with
      | false => exact va_get hx hb hts (am_lay_in hb6.2) hown hG.1 hR.2.2.1 q he (am_Cl_at a hb6.2) b.toNat hb6.1 (hts _ hw) hsame (am_fld_at hb6.1) hd kk
      | true => exact va_getN hx hb hts (am_lay_in hb6.2) hown hG.1 hR.2.2.1 q he (am_Cl_at a hb6.2) b.toNat hb6.1 (va_Nw.use rfl (hG.2.1 _ hw)) hsame (am_fld_at hb6.1) hd kk
    all_goals exact h.elim
  all_goals exact h.elim
theorem am_s55 : am_OpS l base sa cs D E 55 am_o55 := by
  intro k ip pc a b cp pl hrow bd ls st m Q h
  obtain ⟨⟨il, ht, hd, hn⟩, hpc, hside, hword, hjmp, hsw⟩ := am_dec hrow
  obtain rfl := Option.some.inj ht
  exact am_s55g (il := (.getfield cp, 3)) (pl := pl) hd (hn rfl) hpc (of_decide_eq_true hside) false (am_good_of (hword _ rfl) rfl) h
theorem am_s56 : am_OpS l base sa cs D E 56 am_o55 := by
  intro k ip pc a b cp pl hrow bd ls st m Q h
  obtain ⟨⟨il, ht, hd, hn⟩, hpc, hside, hword, hjmp, hsw⟩ := am_dec hrow
  obtain rfl := Option.some.inj ht
  exact am_s55g (il := (.getfield cp, 3)) (pl := pl) hd (hn rfl) hpc (of_decide_eq_true hside) true (am_nest_of (hword _ rfl) rfl) h
theorem am_nz {x : Int} (h : x = 0 ∨ x = 1) : narrow .boolean (.int (Int32.ofInt x)) = .int (Int32.ofInt x) ∧ fits .boolean (.int (Int32.ofInt x)) = true ∧ vp_nar .boolean (Int32.ofInt x) = Int32.ofInt x := by
  rcases h with rfl | rfl <;> decide
theorem am_s57g {k ip pc a cp pl : Nat} {b : Int} (hd : decode (am_b k) pc = .ok (.putfield cp, 3)) (hn : am_pc k (ip + 1) = pc + 3) (hpc : am_pc k ip = pc) (hb6 : b.toNat < am_N a ∧ a < 6 ∧ (am_Tf a b.toNat).2.2.2 = false) (nest : Bool)
    (hw : if nest = true then Jvm.Cond.fieldLinkNest (am_cn (am_own k)) cp (am_cn a) (am_Tf a b.toNat).2.1 (am_Tf a b.toNat).2.2.1 "BeatWords" ∈ am_nest else Jvm.Cond.fieldLink (am_cn (am_own k)) cp (am_cn a) (am_Tf a b.toNat).2.1 (am_Tf a b.toNat).2.2.1 ∈ am_good)
    {bd : Nat × Nat} {ls : am_LS} {st : List am_V} {m : am_M} {Q : am_Q} (h : am_run (am_Sd l base sa cs D E) k Q (am_o57 E a b ip bd ls st m)) : am_Sd l base sa cs D E k (ip, bd, ls, st, m) Q := by
  unfold am_o57 at h
  split at h
  next x q st =>
    split at h
    next n htag =>
      refine am_intro hpc ?_
      intro p e S mm args below meth c H locs cells slots lsA hI
      obtain ⟨hC, hG, hS, hB, hR, hz, hL, hkL, hkS, hc1, hc2⟩ := id hI
      obtain ⟨hx, hb, hr, hml, hown, hts, hlk, hini⟩ := id hC
      have vx : am_rg x := (List.forall_mem_cons.mp hkS).1
      have hk := (List.forall_mem_cons.mp (List.forall_mem_cons.mp hkS).2).2
      have hq := (am_tag_of htag)
      have he := am_obj_at (base := base) (sa := sa) (cs := cs) htag hb6.2.1
      have hsame : ∀ y, S.fieldFound? (am_Tf a b.toNat).1 (am_Tf a b.toNat).2.1 (am_Tf a b.toNat).2.2.1 = some y → S.fieldFound? (am_cn a) (am_Tf a b.toNat).2.1 (am_Tf a b.toNat).2.2.1 = some y := fun y hy => by rw [am_decl a hb6.2.1 _ hb6.1] at hy; exact hy
      have hkind : (am_fk a b.toNat ≠ 1) ∧ narrow (am_tyf a b.toNat) (.int (Int32.ofInt x)) = .int (Int32.ofInt x) ∧ fits (am_tyf a b.toNat) (.int (Int32.ofInt x)) = true ∧ am_Sd l base sa cs D E k (ip + 1, bd, ls, st, (m.1, am_up m.2.1 q b.toNat x, m.2.2.1, m.2.2.2)) Q := by
        split at h
        · rename_i h1
          have h2 := am_isI a hb6.2.1 _ hb6.1 h1
          exact ⟨by omega, by rw [h2]; rfl, by rw [h2]; rfl, h⟩
        · rename_i h1
          have h2 := am_isZ a hb6.2.1 _ hb6.1 h1
          exact ⟨by omega, by rw [h2]; exact (am_nz h.1).1, by rw [h2]; exact (am_nz h.1).2.1, h.2⟩
        · exact h.elim
      obtain ⟨hk1, hnar, hfit, hnext⟩ := hkind
      have hset : (am_ws base sa cs m).set q (am_ra base sa q, .inr (a, ((List.range (am_N a)).map (fun j => am_fd base sa (am_fk a j) (m.2.1 q j) (m.2.2.2 q j))).set b.toNat (.int (Int32.ofInt x)))) = am_ws base sa cs (m.1, am_up m.2.1 q b.toNat x, m.2.2.1, m.2.2.2) := by
        rw [am_ra_lt hq.1]
        refine am_ws_set rfl hq.2.2 ?_ (am_cell_ne rfl (fun j hj => am_up_ne hj) (fun _ _ => rfl) (fun _ _ => rfl))
        rw [am_cell_of (m := (m.1, am_up m.2.1 q b.toNat x, m.2.2.1, m.2.2.2)) hq.2.1, am_cf_obj hb6.2.1]
        congr 2
        refine (am_fset ?_ ?_).symm
        · show am_fd base sa _ (am_up m.2.1 q b.toNat x q b.toNat) _ = _
          rw [am_up_eq, am_fd_i hk1]
          simp [am_en]
        · intro j hj
          show am_fd base sa _ (am_up m.2.1 q b.toNat x q j) _ = _
          rw [am_up_eq]
          simp [hj]
      have kk : ∀ (H1 : Heap) (locs1 : List Loc), va_P D am_Cl ((am_ws base sa cs m).set q (am_ra base sa q, .inr (a, ((List.range (am_N a)).map (fun j => am_fd base sa (am_fk a j) (m.2.1 q j) (m.2.2.2 q j))).set b.toNat (.int (Int32.ofInt x))))) H1 → va_D (am_A base) ((am_ws base sa cs m).set q (am_ra base sa q, .inr (a, ((List.range (am_N a)).map (fun j => am_fd base sa (am_fk a j) (m.2.1 q j) (m.2.2.2 q j))).set b.toNat (.int (Int32.ofInt x))))) → va_S (am_A base) S.heap H1 locs1 →
          W p l e (am_rm k) S mm args below meth c H1 locs1 cells slots (MQ below (am_QM base sa cs D k Q) args S (am_b1 k) (am_b2 k) (am_A base)) (F0 mm (pc + 3) lsA (st.map (am_en base sa))) := by
        intro H1 locs1 hP1 _ hS1
        rw [hset] at hP1
        refine am_W_siz fun hz1 => ?_
        obtain ⟨hR1, hz2⟩ := am_wrote (m' := (m.1, am_up m.2.1 q b.toNat x, m.2.2.1, m.2.2.2)) hR hz rfl hq.2.2 hP1 (am_rg_up hR.2.2.2 vx) hz1
        exact am_fin hnext ⟨hC, hG, hS1, hB, hR1, hz2, hL, hkL, hk, hc1, hc2⟩ hn rfl
      show W p l e (am_rm k) S mm args below meth c H locs cells slots _ (F0 mm pc lsA (.int (Int32.ofInt x) :: .ref (am_ra base sa q) :: st.map (am_en base sa)))
      cases nest with
      | false => exact va_put hx hb hts (am_lay_in hb6.2.1) (am_tyf a) (am_tyok a hb6.2.1) (am_nmok a hb6.2.1) hown hG.1 hR.2.2.1 am_ws_D hS q he (am_Cl_at a hb6.2.1) b.toNat hb6.1 (hts _ hw) hsame hb6.2.2 (am_tyok a hb6.2.1 _ hb6.1) hnar hfit (by simp [hb6.1]) hd kk
      | true => exact va_putN hx hb hts (am_lay_in hb6.2.1) (am_tyf a) (am_tyok a hb6.2.1) (am_nmok a hb6.2.1) hown hG.1 hR.2.2.1 am_ws_D hS q he (am_Cl_at a hb6.2.1) b.toNat hb6.1 (va_Nw.use rfl (hG.2.1 _ hw)) hsame hb6.2.2 (am_tyok a hb6.2.1 _ hb6.1) hnar hfit (by simp [hb6.1]) hd kk
    all_goals exact h.elim
  all_goals exact h.elim
theorem am_s57 : am_OpS l base sa cs D E 57 am_o57 := by
  intro k ip pc a b cp pl hrow bd ls st m Q h
  obtain ⟨⟨il, ht, hd, hn⟩, hpc, hside, hword, hjmp, hsw⟩ := am_dec hrow
  obtain rfl := Option.some.inj ht
  exact am_s57g (pl := pl) hd (hn rfl) hpc (of_decide_eq_true hside) false (am_good_of (hword _ rfl) rfl) h
theorem am_s58 : am_OpS l base sa cs D E 58 am_o57 := by
  intro k ip pc a b cp pl hrow bd ls st m Q h
  obtain ⟨⟨il, ht, hd, hn⟩, hpc, hside, hword, hjmp, hsw⟩ := am_dec hrow
  obtain rfl := Option.some.inj ht
  exact am_s57g (pl := pl) hd (hn rfl) hpc (of_decide_eq_true hside) true (am_nest_of (hword _ rfl) rfl) h
end SND2
