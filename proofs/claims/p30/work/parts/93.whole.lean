/-! the claim (begun from the starting text of the walk) -/
/-! THE CLAIM OUT OF ONE WALK OF THE LAW'S BODY. Your part is whole_start (and what it stands on); all else here is the same for every law, but numbers. -/
def R_law : String := "BeatWordsLaw"
def lw_P (b : Addr) (xs : List Int32) (args : Array Value) (s : State) : Prop := args = #[.ref b] ∧ s.IntsAt b xs ∧ xs.length ≤ 260 ∧ (Jvm.Cond.and given_1 narrow_1).before args s = true
/-- what a walk over the start with the record d0 says of its end, said of the start itself -/
theorem lw_closed {s t : State} {o : Outcome} {d0 : Drawn} {L : List Loc} {k n : Nat} (hd0 : s.drawn.sameBut d0 lw_cs) (hv : ∃ v, o = .returned v) (hW : (s.setDrawn d0).WarmedH t.vm) (hs : (s.setDrawn d0).sameButNew ({ t with vm := s.vm } : State) L k n) : State.butDraws s t lw_cs (fun t1 => Framed s o t1 L k n) := by
  have h2 : t.drawn = d0 := congrArg State.drawn hs.1
  refine ⟨⟨hv, hW, State.sameButNew.setDrawn hs s.drawn⟩, ?_, by decide⟩
  rw [h2]
  exact hd0
def lw_Q (_ : Array Value) (s : State) (o : Outcome) (t : State) : Prop := o = .returned (some (.int 1)) ∧ State.butDraws s t lw_cs (fun t1 => Framed s o t1 [] 600000 7302249)
def lw_Z (below : List Frame) (a : Array Value) (s : State) : State → Prop := fun t => ∃ o, t.status = .running ∧ Ended t below o ∧ lw_Q a s o t
/-- the law's own end, with 1 on the stack, nothing written that was there before, its room as the claim has it; d0: the record of draws at this point (at the entry s.drawn: begin with 'refine W.base ?_' and 'have hd0 := Drawn.sameBut.refl s.drawn lw_cs') -/
theorem lw_ret {p : Program} {l : Launch} {e : Env} {s : State} {m : MethodId} {below : List Frame} {meth : Method} {c : Code} {b : Nat} {d0 : Drawn} (hd0 : s.drawn.sameBut d0 lw_cs) (hx : p.tables.exec = Jvm.exec) (hb : c.code = code) (hr : meth.sig.returnType = ret) (hlocks : meth.locks = false) {pc : Nat} {H : Heap} {ls : Array Slot} (hdg : decode code pc = .ok (.ireturn, 1)) : W p l e room_1 (s.setDrawn d0) m #[Value.ref b] below meth c H [] 600000 7302249 (lw_Z below #[Value.ref b] s) (F0 m pc ls [.int 1]) := by
  intro T hT X
  obtain ⟨fs, hret, hrun, hended, hW, hframe⟩ := X.leave (v := some (.int 1)) (hlocks := hlocks) (fun h => by rw [hr] at h; cases h)
  have hmeth' : T.vm.method? m = some meth := X.method'
  refine ⟨T.setFrames fs, ?_, .returned (some (.int 1)), hrun, hended, rfl, lw_closed hd0 ⟨_, rfl⟩ hW hframe⟩
  jvm_step X.here [X.here.top, hx, hb, hdg, hmeth', hr, ret, narrow_b1]
  (try refine ⟨rfl, ?_⟩); (try refine ⟨rfl, ?_⟩)
  first | (intro acts; rw [hret _ acts rfl rfl rfl]) | rw [hret _ _ rfl rfl rfl]
  exact Steps.refl _
/-- what holds at the law's entry: the machine, the code, the tables' words (any of lw_tbl by 'hts w (by decide +kernel)'), the script of L ints xs at the cell b, what the Statement gives of the start (any of its parts by flat_of_before) -/
def lw_At (p : Program) (s : State) (m : MethodId) (meth : Method) (c : Code) (b L : Nat) (xs : Nat → Int32) : Prop :=
  p.tables.exec = Jvm.exec ∧ c.code = code ∧ meth.sig.returnType = ret ∧ c.maxLocals = 19 ∧ s.vm.findClass R_law = some m.cls ∧ (∀ w ∈ lw_tbl, w.before #[Value.ref b] s = true) ∧ va_X b L xs s s.heap ∧ b < s.heap.size ∧ meth.locks = false ∧ (Jvm.Cond.and given_1 narrow_1).before #[Value.ref b] s = true
/-! the entry: what the start gives, said of the abstract machine -/
section ENTRY
def leastF : Nat → Int := fun i => if i = 1 then 1 else 0
def mostF : Nat → Int := fun i => match am_nth ([1, 2, 2, 2, 2, 1, 1, 2, 3] : List Int) i with
  | some v => v
  | none => 0
def EL (L : Nat) (xs : Nat → Int32) : am_E := fun j => if j = 0 then (9, leastF) else if j = 1 then (9, mostF) else (L, fun i => (xs i).toInt)
def saL (t0 t1 b : Nat) : Nat → Nat := fun j => if j = 0 then t0 else if j = 1 then t1 else b
theorem EL_W {L : Nat} {xs : Nat → Int32} : EW (EL L xs) := by
  refine ⟨rfl, rfl, fun i _ => rfl, ?_⟩
  show mostF 0 = 1 ∧ mostF 1 = 2 ∧ mostF 2 = 2 ∧ mostF 3 = 2 ∧ mostF 4 = 2 ∧ mostF 5 = 1 ∧ mostF 6 = 1 ∧ mostF 7 = 2 ∧ mostF 8 = 3
  exact ⟨rfl, rfl, rfl, rfl, rfl, rfl, rfl, rfl, rfl⟩
theorem mostF_rg (i : Nat) : am_rg (mostF i) := by
  by_cases h : i < 9
  · have h2 : ∀ i < 9, -2147483648 ≤ mostF i ∧ mostF i ≤ 2147483647 := by decide +kernel
    exact h2 i h
  · have h2 : mostF i = 0 := by
      unfold mostF
      rw [nth_far _ (show ([1, 2, 2, 2, 2, 1, 1, 2, 3] : List Int).length ≤ i from by show 9 ≤ i; omega)]
    rw [h2]; exact ⟨by decide, by decide⟩
theorem EL_O {L : Nat} {xs : Nat → Int32} (hL : L ≤ 260) : am_EO (EL L xs) := by
  intro j hj
  match j, hj with
  | 0, _ =>
    refine ⟨by show 9 < 2147483648; omega, fun i => ?_⟩
    show am_rg (if i = 1 then 1 else 0)
    split <;> exact ⟨by decide, by decide⟩
  | 1, _ => exact ⟨by show 9 < 2147483648; omega, fun i => mostF_rg i⟩
  | 2, _ => exact ⟨by show L < 2147483648; omega, fun i => am_rg32 _⟩
abbrev tmL : Jvm.Term := .static "BeatWords" "LEAST_WAYS" "[I"
abbrev tmM : Jvm.Term := .static "BeatWords" "MOST_WAYS" "[I"
theorem wl_L : ∀ j < 9, Jvm.Cond.eq (.elem tmL (.int (Int32.ofNat j))) (.int (Int32.ofInt (leastF j))) ∈ flatC (Jvm.Cond.and given_1 narrow_1) := by decide +kernel
theorem wl_M : ∀ j < 9, Jvm.Cond.eq (.elem tmM (.int (Int32.ofNat j))) (.int (Int32.ofInt (mostF j))) ∈ flatC (Jvm.Cond.and given_1 narrow_1) := by decide +kernel
theorem wl_lz : Jvm.Cond.laysStatic "BeatWords" "LEAST_WAYS" "[I" ∈ lw_tbl ∧ Jvm.Cond.laysStatic "BeatWords" "MOST_WAYS" "[I" ∈ lw_tbl ∧ Jvm.Cond.initialized "BeatWords" ∈ lw_tbl ∧ Jvm.Cond.arrayOver (.object "BeatWords$Sheet") ∈ lw_tbl := by
  refine ⟨by decide +kernel, by decide +kernel, by decide +kernel, by decide +kernel⟩
theorem ent_tab {args : Array Value} {s : State} {tm : Jvm.Term} {f : Nat → Int} {A : Nat → Prop} (hgv : (Jvm.Cond.and given_1 narrow_1).before args s = true) (h1 : Jvm.Cond.arrayOf tm .int ∈ flatC (Jvm.Cond.and given_1 narrow_1)) (h2 : Jvm.Cond.eq (.length tm) (.int (Int32.ofNat 9)) ∈ flatC (Jvm.Cond.and given_1 narrow_1)) (h3 : ∀ j < 9, Jvm.Cond.eq (.elem tm (.int (Int32.ofNat j))) (.int (Int32.ofInt (f j))) ∈ flatC (Jvm.Cond.and given_1 narrow_1)) (hA : ∀ a : Nat, a < s.heap.size → ¬ A a) : ∃ t : Nat, tm.eval args s none [] s = some (.ref t) ∧ va_T .int t 9 (fun i => .int (Int32.ofInt (f i))) A s s.heap := by
  have hs := flat_of_before _ hgv
  exact va_Tof (by decide) (hs _ h1) (va_eqt (hs _ h2)) (fun j hj => va_eqt (hs _ (h3 j hj))) hA
theorem ent_arr {args : Array Value} {s : State} {ty : FieldType} (h : (Jvm.Cond.arrayClass ty).before args s = true) (hne : ∀ C, ty ≠ .object C) : ∃ cA, ArrOfT s cA ty ∧ va_RA s cA ty := by
  obtain ⟨c, k, comp, h1, h2, h3⟩ := Cond.arrayClass_spec h
  refine ⟨c, fun n z => ⟨fun k h => (by cases h), k, h2, comp, h3⟩, ?_⟩
  cases ty with
  | object C => exact absurd rfl (hne C)
  | _ => exact h1
theorem ent_arrO {args : Array Value} {s : State} {C : String} (h : (Jvm.Cond.arrayOver (.object C)).before args s = true) : ∃ cA, ArrOfT s cA (.object C) ∧ va_RA s cA (.object C) := by
  obtain ⟨comp, c, k, h1, h2, h3, h4, h5⟩ := Cond.arrayOver_spec h
  exact ⟨c, fun n z => ⟨fun k h => (by cases h), k, h3, comp, h4⟩, k, comp, h3, h4, h1, h5⟩
theorem ent_K {args : Array Value} {s : State} (hts : ∀ w ∈ lw_tbl, w.before args s = true) : ∃ (cs : am_CS) (D : va_G), va_K D am_Cl (am_tys cs) s := by
  have hgd : ∀ w ∈ am_good, w.before args s = true := fun w hw => hts w (List.mem_filter.mp hw).1
  have hcl : ∀ ci, ∃ cC : ClassId, ∃ iS : Nat → Nat, ci < 6 → u_Kn s (am_cn ci) (am_Tf ci) (am_N ci) cC iS := by
    intro ci
    by_cases h : ci < 6
    · obtain ⟨cC, iS, h2⟩ := u_known hgd (am_lay_in h) (hgd _ (am_inst_in h))
      exact ⟨cC, iS, fun _ => h2⟩
    · exact ⟨0, fun _ => 0, fun h2 => absurd h2 h⟩
  obtain ⟨cI, i1, i2⟩ := ent_arr (hts _ (am_mem am_x7)) (fun C h => by cases h)
  obtain ⟨cZ, z1, z2⟩ := ent_arr (hts _ (am_mem am_x8)) (fun C h => by cases h)
  obtain ⟨cF, f1, f2⟩ := ent_arr (hts _ (am_mem am_x9)) (fun C h => by cases h)
  obtain ⟨cO, o1, o2⟩ := ent_arrO (hts _ wl_lz.2.2.2)
  refine ⟨(cI, cZ, cF, cO), (fun c => Classical.choose (hcl c), fun c => Classical.choose (Classical.choose_spec (hcl c))), fun c q hq => ?_, fun k q hq => ?_⟩
  · have hc : c < 6 := (List.getElem?_eq_some_iff.mp hq).1
    rw [am_Cl_at c hc] at hq
    cases hq
    exact Classical.choose_spec (Classical.choose_spec (hcl c)) hc
  · match k, hq with
    | 0, hq => cases hq; exact ⟨i1, i2⟩
    | 1, hq => cases hq; exact ⟨z1, z2⟩
    | 2, hq => cases hq; exact ⟨f1, f2⟩
    | 3, hq => cases hq; exact ⟨o1, o2⟩
theorem ent_rm : am_rm 180 = room_1 := rfl
theorem ent_end {below : List Frame} {s t : State} {args : Array Value} {base : Nat} {sa : Nat → Nat} {cs : am_CS} {D : va_G} (hb : base = s.heap.size) (h : MQ below (am_QM base sa cs D 180 (fun r _ => r = some (amI 1))) args s 600000 7302249 (am_A base) t) : lw_Z below args s t := by
  obtain ⟨o, h1, h2, ⟨⟨r, m, q1, q2, q3, q4⟩, h4⟩, Lc, ⟨f1, f2, f3⟩, h5⟩ := h
  have ho : o = .returned (some (.int 1)) := by rw [q1, q3]; rfl
  refine ⟨o, h1, h2, ho, ?_⟩
  exact lw_closed (d0 := s.drawn) (Drawn.sameBut.refl s.drawn lw_cs) f1 f2 (State.sameButNew.drop_fresh (L := []) (J := Lc) f3 (fun q hq => by show s.heap.size ≤ q.base; rw [← hb]; exact h5 q hq))
end ENTRY
theorem whole_start {p : Program} {e : Env} {s : State} {m : MethodId} {below : List Frame} {meth : Method} {c : Code} (l : Launch) (hflags : l.flags = flags0) {b L : Nat} {xs : Nat → Int32} (hL : L ≤ 260) (C0 : lw_At p s m meth c b L xs) : W p l e room_1 s m #[Value.ref b] below meth c s.heap [] 0 0 (lw_Z below #[Value.ref b] s) (entryFrame m ([Value.ref b] : List Value).toArray 19) := by
  obtain ⟨hx, hbd, hr, hml, hown, hts, hX, hbl, hlocks, hgv⟩ := C0
  have hA : ∀ a : Nat, a < s.heap.size → ¬ am_A s.heap.size a := fun a h h2 => absurd (show s.heap.size ≤ a from h2) (Nat.not_le.mpr h)
  obtain ⟨t0, e0, T0⟩ := ent_tab (tm := tmL) (f := leastF) (A := am_A s.heap.size) hgv (by decide +kernel) (by decide +kernel) wl_L hA
  obtain ⟨t1, e1, T1⟩ := ent_tab (tm := tmM) (f := mostF) (A := am_A s.heap.size) hgv (by decide +kernel) (by decide +kernel) wl_M hA
  have Tb : va_T .int b L (fun i => .int (Int32.ofInt (xs i).toInt)) (am_A s.heap.size) s s.heap := by
    obtain ⟨scr, h1, h2, h3, h4, h5⟩ := hX
    exact ⟨scr, h1, h2, h3, Nat.le_of_eq h4.symm, by rw [h4], fun j hj => by rw [h5 j hj]; exact congrArg (fun z => some (Value.int z)) (am_ofTi (xs j)).symm, hA b hbl⟩
  have hZ0 := va_Zref (hts _ wl_lz.1) (hts _ wl_lz.2.2.1) e0 hA
  have hZ1 := va_Zref (hts _ wl_lz.2.1) (hts _ wl_lz.2.2.1) e1 hA
  obtain ⟨cs, D, hK⟩ := ent_K hts
  have hGS : am_GS s.heap.size (saL t0 t1 b) cs D (EL L xs) s s.heap := by
    refine ⟨hK, fun w hw => ?_, va_AO.of (hts _ wl_lz.2.2.2), fun j hj => ?_, hZ0, hZ1⟩
    · have hn := (List.mem_filter.mp hw).2
      have h0 := hts w (List.mem_filter.mp hw).1
      cases w with
      | fieldLinkNest a i b n d g => exact va_Nw.of rfl h0
      | methodLinkNest a i y g => exact va_Nw.of rfl h0
      | _ => cases hn
    · match j, hj with
      | 0, _ => exact T0
      | 1, _ => exact T1
      | 2, _ => exact Tb
  have hsd := am_sound (l := l) (base := s.heap.size) (sa := saL t0 t1 b) (cs := cs) (D := D) (EL_O hL) (law_all EL_W (EL_O (xs := xs) hL))
  rw [lg_entry_eq]
  have hlv := lv_entry [Value.ref b] (n := 19) (show 1 ≤ 19 from by omega)
  generalize ((lg_sl [Value.ref b] ++ List.replicate (19 - (lg_sl [Value.ref b]).length) Slot.unset).toArray) = lsA at hlv ⊢
  have hI : am_Inv s.heap.size (saL t0 t1 b) cs D (EL L xs) 180 (0, (600000, 7302249), [some (amR 1002), none, none, none, none, none, none, none, none, none, none, none, none, none, none, none, none, none, none], [], Mem 0 0 0) p s m #[Value.ref b] meth c s.heap [] 0 0 lsA := by
    refine ⟨⟨hx, hbd, hr, hml, hown, fun w hw => hts w (List.mem_filter.mp hw).1, hlocks, fun h => by cases h⟩, hGS, ⟨Nat.le_refl _, fun q _ _ => rfl, fun l h => by cases h⟩, Nat.le_refl _, ⟨rfl, Nat.zero_le _, fun k q h => ?_, fun a i => ⟨by show (-2147483648 : Int) ≤ 0; decide, by show (0 : Int) ≤ 2147483647; decide⟩⟩, rfl, hlv, fun n v h => ?_, fun v h => (by cases h), rfl, Nat.le_refl _⟩
    · cases h
    · match n, h with
      | 0, h => cases h; exact trivial
      | 1, h => cases h
      | 2, h => cases h
      | 3, h => cases h
      | 4, h => cases h
      | 5, h => cases h
      | 6, h => cases h
      | 7, h => cases h
      | 8, h => cases h
      | 9, h => cases h
      | 10, h => cases h
      | 11, h => cases h
      | 12, h => cases h
      | 13, h => cases h
      | 14, h => cases h
      | 15, h => cases h
      | 16, h => cases h
      | 17, h => cases h
      | 18, h => cases h
      | n + 19, h => cases h
  have hW := hsd p e s m #[Value.ref b] below meth c s.heap [] 0 0 lsA hI
  rw [ent_rm] at hW
  exact am_W_mono (fun t h => ent_end rfl h) hW
set_option maxHeartbeats 4000000 in
theorem lw_walk (l : Launch) (hflags : l.flags = flags0) (b : Addr) (xs : List Int32) : MetFree l x (headSpec (Jvm.Cond.code x code maxLocals ret :: tables_1) room_1) (lw_P b xs) (fun _ _ _ _ _ => True) lw_Q := by
  refine MetFree.of_bodyS (code := code) (maxLocals := maxLocals) (ret := ret) (by decide) ?_ ?_
  · intro args s m h hn
    obtain ⟨meth, c, h1, h2, h3, h4, h5, h6, -, -⟩ := Cond.code_spec hn (atoms_spec (ws := Jvm.Cond.code x code maxLocals ret :: tables_1) h _ List.mem_cons_self)
    exact ⟨meth, c, h1, h2, h3, h4, h5, h6⟩
  · intro p e s m args below meth c s₁ B hml0 hP _
    obtain ⟨rfl, hx, hbd, hgv⟩ := hP
    obtain ⟨scr, harrAt, hlist, hof, hsmall⟩ := hx
    obtain ⟨hcb, hkn, -, -⟩ := State.arrayAt?_spec harrAt
    have hown : s.vm.findClass R_law = some m.cls := findClass_of_methodNamed B.named
    have hts0 : ∀ c ∈ (Jvm.Cond.code x code maxLocals ret :: tables_1), c.before #[Value.ref b] s = true := atoms_spec (ws := Jvm.Cond.code x code maxLocals ret :: tables_1) B.pre
    have hts : ∀ w ∈ lw_tbl, w.before #[Value.ref b] s = true := k2_hts_sels lw_privs (fun w hw => hts0 w (List.mem_cons_of_mem _ hw)) lw_privs_ok
    have hml : c.maxLocals = 19 := B.maxLocals_eq (hts0 _ List.mem_cons_self)
    have X₀ : Stand p l e room_1 s m #[Value.ref b] below meth c s₁ [] 0 0 := Stand.of_body B
    have hh0 : s₁.heap = s.heap := by rw [B.state]; rfl
    have hsz : scr.slots.size = xs.length := by rw [← Array.length_toList, hlist, List.length_map]
    have hval : ∀ j : Nat, j < xs.length → scr.slots[j]? = some (.int (xs.getD j 0)) := fun j hj => by
      rw [← Array.getElem?_toList, hlist]
      simp [hj]
    have hbl : b < s.heap.size := (Array.getElem?_eq_some_iff.mp hcb).1
    have hX : va_X b xs.length (fun j => xs.getD j 0) s s.heap := ⟨scr, hcb, hof, hkn, hsz, hval⟩
    have K : W p l e room_1 s m #[Value.ref b] below meth c s₁.heap [] 0 0 (lw_Z below #[Value.ref b] s) (entryFrame m ([Value.ref b] : List Value).toArray 19) := by
      rw [hh0]
      exact whole_start l hflags hbd ⟨B.exec, B.bytes, B.returns, hml, hown, hts, hX, hbl, B.notSynchronized, hgv⟩
    obtain ⟨t, a1, o, b1, b2, b3⟩ := K s₁ rfl X₀
    exact ⟨t, o, a1, b1, b2, b3⟩
theorem lw_pre_spec {args : Array Value} {s : State} (h : (Jvm.Cond.and given_1 narrow_1).before args s = true) (hr : rest_1_c.before args s = true) : ∃ (b : Addr) (xs : List Int32), lw_P b xs args s := by
  have hs := flat_of_before _ h
  have hq := flat_of_before _ hr
  have hc : (Cond.count 1).before args s = true := hs _ (by decide +kernel)
  have harr : (Cond.arrayOf (.arg 0) .int).before args s = true := hs _ (by decide +kernel)
  have hle : (Cond.le (.length (.arg 0)) (.int 260)).before args s = true := hs _ (by decide +kernel)
  have hlen : (Cond.isInt (.length (.arg 0))).before args s = true := hq _ (by decide +kernel)
  have hall : (Cond.all (.arg 0) (.isInt (.elem (.arg 0) (.index 0)))).before args s = true := hq _ (by decide +kernel)
  obtain ⟨b, xs, hb, hx⟩ := State.ints_of_pre rfl harr hlen hall
  have hsm : xs.length < 2 ^ 31 := hx.choose_spec.2.2.2
  have hev : (Term.length (.arg 0)).eval args s none [] s = some (.int xs.length.toInt32) := hx.length_eval hb
  have hv := Cond.le_ints hev (show (Term.int 260).eval args s none [] s = some (.int 260) from rfl)
  have hd : xs.length.toInt32 ≤ 260 := by
    simpa [Cond.before, Cond.holds, hv] using hle
  have hN : xs.length ≤ 260 := (Int32.ofNat_le_ofNat hsm (by decide)).mp (show Int32.ofNat xs.length ≤ Int32.ofNat 260 from hd)
  exact ⟨b, xs, Cond.one_arg hc (show args[0]? = some (.ref b) from hb), hx, hN, h⟩
theorem lw_comes (l : Launch) (hflags : l.flags = flags0) : Comes l x (Jvm.Cond.code x code maxLocals ret :: tables_1) room_1 (fun tb e args s => Calls_1 tb e args s ∧ rest_1 tb e args s ∧ Pre_1 tb e args s)
    (fun _ _ args s o t => lw_Q args s o t) := by
  intro p e ha hc hk s m args below hf hfit hheap happ hpre
  obtain ⟨b, xs, hP⟩ := lw_pre_spec hpre.2.2 hpre.2.1
  obtain ⟨k, o, h1, h2, h3, hQ⟩ := lw_walk l hflags b xs p e ha hc hk s m args below hf ((Spec.applies_iff_loose hf).mp happ).1 hP trivial
  exact ⟨k, o, h1, h2, h3, hQ⟩
theorem lw_frame {s t : State} {o : Outcome} {args : Array Value} (h : State.butDraws s t lw_cs (fun t1 => Framed s o t1 [] 600000 7302249)) :
    State.butDraws s t [Jvm.Choice.named "NaN.bits"] (fun t1 => Framed s o t1 (fieldLocs frame_1_writes args s ++ arrayLocs frame_1_arrays args s ++ staticLocs frame_1_statics s) 600000 7302249) := h
theorem lw_limb (L : Cond) (hL : ∀ (args : Array Value) (s t : State), L.after args s (.returned (some (.int 1))) t = true) :
    ArmFor flags0 classFile x code maxLocals ret World_1 tables_1 room_1 Calls_1 rest_1 Pre_1
      (fun tb e a s o t => postC L tb e a s o t ∧ State.butDraws s t [Jvm.Choice.named "NaN.bits"] (fun t1 => Framed s o t1 (fieldLocs frame_1_writes a s ++ arrayLocs frame_1_arrays a s ++ staticLocs frame_1_statics s) 600000 7302249)) := by
  intro l hflags _ _ p e ha hc hk s m args below hf hfit hheap happ hpre
  obtain ⟨k, o, h1, h2, h3, rfl, hF⟩ := lw_comes l hflags p e ha hc hk s m args below hf hfit hheap happ hpre
  exact ⟨k, _, h1, h2, h3, hL args s _, lw_frame hF⟩
theorem i_vc : Claimed_1_1 ∧ Claimed_1_2 := ⟨lw_limb limb_1_1 (fun args s t => by simp [limb_1_1, Cond.after, Cond.holds, Cond.value]), lw_limb limb_1_2 (fun args s t => Cond.after_iff.mpr (by
  first | (rw [show limb_1_2 = Cond.eq .result (.int 1) from rfl, Cond.eq_ints (x := 1) (y := 1) rfl rfl]; simp; done) | (simp [limb_1_2, Cond.value, Term.eval]; done)))⟩
