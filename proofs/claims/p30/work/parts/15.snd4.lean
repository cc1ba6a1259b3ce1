/-! calls, ends, and what is made -/
theorem am_pop_len : ∀ (n : Nat) (acc st vs rest : List am_V), am_pop n acc st = some (vs, rest) → vs.reverse ++ rest = acc.reverse ++ st ∧ vs.length = n + acc.length
  | 0, acc, st, vs, rest, h => by
    cases h
    exact ⟨rfl, by omega⟩
  | n + 1, acc, v :: st, vs, rest, h => by
    obtain ⟨h1, h2⟩ := am_pop_len n (v :: acc) st vs rest h
    refine ⟨by rw [h1]; simp, by rw [h2]; simp; omega⟩
  | n + 1, acc, [], vs, rest, h => by cases h
theorem am_pop_of {n : Nat} {st vs rest : List am_V} (h : am_pop n [] st = some (vs, rest)) : st = vs.reverse ++ rest ∧ vs.length = n := by
  obtain ⟨h1, h2⟩ := am_pop_len n [] st vs rest h
  exact ⟨by simpa using h1.symm, by simpa using h2⟩
theorem am_mfacts {k : Nat} (hk : k < 180) : plainName (am_y k).cls = true ∧ (am_y k).cls = am_cn (am_own k) ∧ (am_own k < 7 ∧ (am_st k = false → am_own k < 6)) ∧ (parseMethodDescriptor (am_y k).desc).map (fun d => d.parameters.length) = some (am_na k)
    ∧ ((am_y k).cls ≠ "java/lang/invoke/MethodHandle" ∧ (am_y k).cls ≠ "java/lang/invoke/VarHandle") ∧ (if am_st k = true then Jvm.Cond.static (am_y k) else Jvm.Cond.instanceMethod (am_y k)) ∈ am_good
    ∧ (am_st k = false → am_in k = false → Jvm.Cond.selects (am_y k).cls (am_y k) (am_y k) ∈ am_good) ∧ (am_in k = true → (am_y k).name = "<init>") ∧ am_codeW k ∈ am_good := by
  have h := am_upto_at am_ms_ok hk
  simp only [am_mOK, Bool.and_eq_true] at h
  obtain ⟨h1, h2, h3, h4, ⟨h5, h6⟩, h7, -⟩ := h
  refine ⟨of_decide_eq_true h1, of_decide_eq_true h2, of_decide_eq_true h3, of_decide_eq_true h4, of_decide_eq_true h5, ?_, ?_, of_decide_eq_true h7, am_good_of (am_code_ok k hk) rfl⟩
  · split at h6
    · simp only [Bool.and_eq_true] at h6
      refine am_good_of (of_decide_eq_true h6.1) ?_
      split <;> rfl
    · cases h6
  · intro hs hi
    split at h6
    · simp only [Bool.and_eq_true, hs, hi, Bool.false_or] at h6
      exact am_good_of (of_decide_eq_true h6.2) rfl
    · cases h6
theorem am_wsM_good {k : Nat} (hk : k < 180) : GoodIn am_good (am_wsM k) := by
  intro w hw
  rcases List.mem_cons.mp hw with rfl | h
  · exact am_good_in _ (am_mfacts hk).2.2.2.2.2.2.2.2
  · exact am_good_in w h
theorem am_exp_in : ∀ {vs : List am_V} {n : Nat} {v : am_V}, am_nth (am_exp vs) n = some (some v) → v ∈ vs
  | [], _, _, h => by cases h
  | u :: vs, n, v, h => by
    rcases u with x | r | f | x
    · cases n with
      | zero => cases h; exact List.mem_cons_self
      | succ n => exact List.mem_cons_of_mem _ (am_exp_in (n := n) h)
    · cases n with
      | zero => cases h; exact List.mem_cons_self
      | succ n => exact List.mem_cons_of_mem _ (am_exp_in (n := n) h)
    · cases n with
      | zero => cases h; exact List.mem_cons_self
      | succ n => exact List.mem_cons_of_mem _ (am_exp_in (n := n) h)
    · cases n with
      | zero => cases h; exact List.mem_cons_self
      | succ n =>
        cases n with
        | zero => cases h
        | succ n => exact List.mem_cons_of_mem _ (am_exp_in (n := n) h)
theorem am_args_in {vs : List am_V} {k n : Nat} {v : am_V} (h : am_nth (am_args vs k) n = some (some v)) : v ∈ vs := by
  unfold am_args at h
  rw [am_nth_eq] at h
  by_cases hl : n < (am_exp vs).length
  · rw [List.getElem?_append_left hl, ← am_nth_eq] at h
    exact am_exp_in h
  · rw [List.getElem?_append_right (by omega), List.getElem?_replicate] at h
    split at h <;> cases h
section SND4
variable {l : Launch} {base : Nat} {sa : Nat → Nat} {cs : am_CS} {D : va_G} {E : am_E}
abbrev am_PcW (base : Nat) (sa : Nat → Nat) (cs : am_CS) (D : va_G) (E : am_E) (m : am_M) : State → Prop := fun U => am_GS base sa cs D E U U.heap ∧ am_RP base sa cs D m U.heap ∧ base ≤ U.heap.size
/-- a method's contract, out of the predicate at its entry -/
theorem am_met {k : Nat} (hk : k < 180) {vs : List am_V} {m : am_M} {Q : am_Q} (h : am_Sd l base sa cs D E k (0, am_bud k, am_args vs (am_L k), [], m) Q) (hok : ∀ v ∈ vs, am_ok v) (hlen : (am_exp vs).length ≤ am_L k) :
    Met l (am_y k) (am_wsM k) (am_rm k) (va_Pc (vs.map (am_en base sa)) (am_PcW base sa cs D E m)) (am_QM base sa cs D k Q) (am_b1 k) (am_b2 k) (am_A base) := by
  obtain ⟨f1, f2, f3, f4, f5, f6, f7, f8, f9⟩ := am_mfacts hk
  refine Met.ofW (cc := am_b k) (maxL := am_L k) (ret := am_ret k) f1 rfl ?_
  intro p e s mm args below meth c s₁ B hml hv
  obtain ⟨rfl, hG, hR, hB⟩ := hv
  have hts0 := atoms_spec (ws := am_wsM k) B.pre
  have hts : ∀ w ∈ am_good, w.before (vs.map (am_en base sa)).toArray s = true := fun w hw => hts0 w (List.mem_cons_of_mem _ hw)
  have hown : s.vm.findClass (am_cn (am_own k)) = some mm.cls := by rw [← f2]; exact findClass_of_methodNamed B.named
  have hnm : meth.name = (am_y k).name := (name_of_methodNamed B.named B.method).1
  have hl0 := lv_entry (vs.map (am_en base sa)) (n := am_L k) (by rw [am_exp_len]; exact hlen)
  rw [lg_entry_eq]
  generalize (lg_sl (vs.map (am_en base sa)) ++ List.replicate (am_L k - (lg_sl (vs.map (am_en base sa))).length) Slot.unset).toArray = lsA at hl0 ⊢
  have hl : lv_has lsA (am_L k) (am_lv base sa 0 (am_args vs (am_L k))) := by
    refine ⟨hl0.1, hl0.2.1, fun q hq => hl0.2.2 q ?_⟩
    obtain ⟨j, w⟩ := q
    obtain ⟨n, v, h1, h2, h3⟩ := am_lv_mem.mp hq
    have h4 := am_lv_args (base := base) (sa := sa) (i := 0) h2
    rw [h1, h3]
    exact h4
  have hpc : am_pc k 0 = 0 := of_decide_eq_true (am_upto_at am_pc0 (by omega))
  have hokL : ∀ n v, am_nth (am_args vs (am_L k)) n = some (some v) → am_ok v := by
    intro n v hv
    have h4 : v ∈ vs := am_args_in hv
    exact hok v h4
  have hW := h p e s mm _ below meth c s.heap [] 0 0 lsA ⟨⟨B.exec, B.bytes, B.returns, hml, hown, hts, B.notSynchronized, fun hi => by rw [hnm]; exact f8 hi⟩, hG, va_S.rf, hB, hR, rfl, hl, hokL, fun v hv => (List.not_mem_nil hv).elim, Nat.zero_add _, Nat.le_of_eq (Nat.zero_add _)⟩
  have hW2 : W p l e (am_rm k) s mm (vs.map (am_en base sa)).toArray below meth c s.heap [] 0 0 (MQ below (am_QM base sa cs D k Q) (vs.map (am_en base sa)).toArray s (am_b1 k) (am_b2 k) (am_A base)) (F0 mm (am_pc k 0) lsA []) := hW
  rw [hpc] at hW2
  exact hW2
section CR
variable {p : Program} {e : Env} {R : Room} {s : State} {m : MethodId} {args : Array Value} {below : List Frame} {meth : Method} {c : Code} {H : Heap} {locs : List Loc} {cells slots mc ms : Nat} {QQ : State → Prop} {pc : Nat} {ls : Array Slot} {rest st0 : List Value} {a : Array Value}
theorem am_callR {k' : Nat} (hk' : k' < 180) {Q' : am_Q} (hr : va_Run p l e R s m args below meth c H locs cells slots mc ms (F0 m pc ls st0) rest (am_QM base sa cs D k' Q' a) (am_A base)) (hS : va_S (am_A base) s.heap H locs)
    (kk : ∀ (r : Option am_V) (m' : am_M) (H1 : Heap) (locs1 : List Loc), (∀ v, r = some v → am_ok v) → Q' r m' → am_RP base sa cs D m' H1 → H1.size = H.size + am_b1 k' → va_S (am_A base) s.heap H1 locs1 → W p l e R s m args below meth c H1 locs1 (cells + mc) (slots + ms) QQ (F0 m (pc + 3) ls ((r.map (am_en base sa)).toList ++ rest))) :
    W p l e R s m args below meth c H locs cells slots QQ (F0 m pc ls st0) := by
  intro T hT X
  obtain ⟨v, st₀, t, T', L, h0, X', hL, e1, e2, ⟨⟨r, m', hv, hp, hq, hrp, hsz⟩, hz, hk⟩, st⟩ := hr T hT X
  cases hv
  rw [h0] at hz hk
  have hsz2 := hsz hk'
  rw [h0] at hsz2
  obtain ⟨t2, a1, b1⟩ := kk r m' T'.heap (locs ++ L) hp hq (by rw [e1]; exact hrp) (by rw [e1]; exact hsz2)
    ⟨Nat.le_trans hS.1 (by rw [e1]; exact hz), fun q h1 h2 => by rw [e1, hk q (Nat.lt_of_lt_of_le h1 hS.1) h2]; exact hS.2.1 q h1 h2, fun q hq2 => by
      rcases List.mem_append.mp hq2 with h | h
      · exact hS.2.2 q h
      · exact hL q h⟩ T' rfl X'
  exact ⟨t2, st t2 a1, b1⟩
end CR
theorem am_blind {vs : List am_V} {m : am_M} : FrameBlind (va_Pc (vs.map (am_en base sa)) (am_PcW base sa cs D E m)) := by
  intro a U g mk h
  obtain ⟨h1, h2, h3, h4⟩ := h
  exact ⟨h1, am_GS.same (u := U) (U := U.calling g mk a) (H := U.heap) rfl h2, h3, h4⟩
theorem am_pcW {vs : List am_V} {m : am_M} {S : State} {H : Heap} {locs : List Loc} (hG : am_GS base sa cs D E S S.heap) (hS : va_S (am_A base) S.heap H locs) (hB : base ≤ S.heap.size) (hR : am_RP base sa cs D m H) : ∀ U : State, U.heap = H → S.WarmedH U.vm → va_Pc (vs.map (am_en base sa)) (am_PcW base sa cs D E m) (vs.map (am_en base sa)).toArray U := by
  intro U hU hW
  refine ⟨rfl, ?_, by rw [hU]; exact hR, by rw [hU]; exact Nat.le_trans hB hS.1⟩
  rw [hU]
  exact hG.to hW hS.2.1
theorem am_push_map (r : Option am_V) (st : List am_V) : (am_push r st).map (am_en base sa) = (r.map (am_en base sa)).toList ++ st.map (am_en base sa) := by
  cases r <;> rfl
theorem am_okpush {r : Option am_V} {st : List am_V} (hr : ∀ v, r = some v → am_ok v) (hs : ∀ v ∈ st, am_ok v) : ∀ v ∈ am_push r st, am_ok v := by
  cases r with
  | none => exact hs
  | some u => exact List.forall_mem_cons.mpr ⟨hr u rfl, hs⟩
theorem am_fits_of {bd : Nat × Nat} {a : Nat} {st vs : List am_V} (h : am_fits bd a st vs = true) : am_b1 a ≤ bd.1 ∧ am_b2 a ≤ bd.2 ∧ am_cats st ≤ 8 ∧ (am_exp vs).length ≤ am_L a := by
  simpa [am_fits, Nat.ble_eq] using h
/-- behind a call: the invariant of the caller -/
theorem am_after {k a ip : Nat} {bd : Nat × Nat} {ls : am_LS} {st st' : List am_V} {m m' : am_M} {r : Option am_V} {p : Program} {S : State} {mm : MethodId} {args : Array Value} {meth : Method} {c : Code} {H H1 : Heap} {locs locs1 : List Loc} {cells slots : Nat} {lsA : Array Slot}
    (hI : am_Inv base sa cs D E k (ip, bd, ls, st, m) p S mm args meth c H locs cells slots lsA) (hb1 : am_b1 a ≤ bd.1) (hb2 : am_b2 a ≤ bd.2) (hr : ∀ v, r = some v → am_ok v) (hs : ∀ v ∈ st', am_ok v) (hR1 : am_RP base sa cs D m' H1) (hz1 : H1.size = H.size + am_b1 a) (hS1 : va_S (am_A base) S.heap H1 locs1) :
    am_Inv base sa cs D E k (ip + 1, (bd.1 - am_b1 a, bd.2 - am_b2 a), ls, am_push r st', m') p S mm args meth c H1 locs1 (cells + am_b1 a) (slots + am_b2 a) lsA := by
  obtain ⟨hC, hG, hS, hB, hR, hz, hL, hkL, hkS, hc1, hc2⟩ := hI
  have hc1' : cells + bd.1 = am_b1 k := hc1
  have hc2' : slots + bd.2 ≤ am_b2 k := hc2
  refine ⟨hC, hG, hS1, hB, hR1, by omega, hL, hkL, am_okpush hr hs, ?_, ?_⟩
  · show cells + am_b1 a + (bd.1 - am_b1 a) = am_b1 k
    omega
  · show slots + am_b2 a + (bd.2 - am_b2 a) ≤ am_b2 k
    omega
set_option maxHeartbeats 1000000 in
theorem am_s70 : am_OpS l base sa cs D E 70 am_o70 := by
  intro k ip pc a b cp pl hrow bd ls st m Q h
  obtain ⟨⟨il, ht, hd, hn⟩, hpc, hside, hword, hjmp, hsw⟩ := am_dec hrow
  obtain rfl := Option.some.inj ht
  unfold am_o70 at h
  have hsd := of_decide_eq_true hside
  have hw := am_good_of (hword _ rfl) rfl
  split at h
  next vs st2 hpop =>
    obtain ⟨rfl, hvl⟩ := am_pop_of hpop
    split at h
    next q st =>
      split at h
      next nn htag =>
        split at h
        next hfit =>
          refine am_intro hpc ?_
          intro p e S mm args below meth c H locs cells slots lsA hI
          obtain ⟨hC, hG, hS, hB, hR, hz, hL, hkL, hkS, hc1, hc2⟩ := id hI
          obtain ⟨hx, hb, hr, hml, hown, hts, hlk, hini⟩ := id hC
          obtain ⟨f1, f2, f3, f4, f5, f6, f7, f8, f9⟩ := am_mfacts hsd.1; have f30 := f3.1
          obtain ⟨g1, g2, g3, g4⟩ := am_fits_of hfit
          have hc1' : cells + bd.1 = am_b1 k := hc1
          have hc2' : slots + bd.2 ≤ am_b2 k := hc2
          have hCF : CallFix p mm c (am_b k) (am_L k) S args am_good (am_cn (am_own k)) := ⟨hx, hb, hml, hown, hts⟩
          have hfit2 : cells + am_b1 a ≤ (am_rm k).cells ∧ slots + am_b2 a ≤ (am_rm k).slots := ⟨by show cells + am_b1 a ≤ am_b1 k; omega, by show slots + am_b2 a ≤ am_b2 k; omega⟩
          have hcat : 2 * (F0 mm pc lsA (st.map (am_en base sa))).monitorRoom + (((st.map (am_en base sa))).map fun v => v.category).sum ≤ 8 := lv_room (by rw [am_cats_map]; exact g3)
          have hkv : ∀ v ∈ amR q :: vs, am_ok v := List.forall_mem_cons.mpr ⟨trivial, fun v hv => hkS v (List.mem_append_left _ (List.mem_reverse.mpr hv))⟩
          have hk : ∀ v ∈ st, am_ok v := fun v hv => hkS v (List.mem_append_right _ (List.mem_cons_of_mem _ hv))
          have hM := am_met (l := l) (base := base) (sa := sa) (cs := cs) (D := D) (E := E) hsd.1 h hkv g4
          rw [hsd.2.1] at f6
          simp only [Bool.false_eq_true, if_false] at f6
          have hen : am_en base sa (amR q) = .ref (am_ra base sa q) := rfl
          have hpcw := am_pcW (vs := amR q :: vs) hG hS hB hR
          have f7 := f7 hsd.2.1 hsd.2.2.1
          have hrecv := va_recv hG.1 hR.2.2.1 (am_Cl_at (am_own a) (f3.2 hsd.2.1)) (am_obj_at (base := base) (sa := sa) (cs := cs) htag (f3.2 hsd.2.1))
          have hp : PreV S H (am_y a).cls (am_ra base sa q) (va_Pc ((amR q :: vs).map (am_en base sa)) (am_PcW base sa cs D E m)) (vs.map (am_en base sa)) := ⟨am_blind, by rw [f2]; exact hrecv, hpcw⟩
          have hT : GoodIn am_good (wsV (am_cn (am_own k)) cp (am_y a).cls (am_y a) (am_wsM a)) := by
            intro w hw2
            rcases List.mem_append.mp hw2 with h3 | h3
            · refine am_good_in w ?_
              simp only [List.mem_cons, List.not_mem_nil, or_false] at h3
              rcases h3 with rfl | rfl | rfl | rfl
              · exact hw
              · exact f6
              · exact f7
              · rw [f2]; exact am_init_in (by omega)
            · exact am_wsM_good hsd.1 w h3
          have cw := cwV (R := am_rm k) (rm := am_rm a) (mc := am_b1 a) (ms := am_b2 a) (am_na a) hts hT rfl rfl rfl ⟨rfl, f5.1, f5.2, f4⟩ ⟨hsd.2.2.2.1, hsd.2.2.2.2⟩
          refine am_callR hsd.1 (va_runV hCF hM cw hp rfl (by simp [hvl]) hL.1 (by simp [hen]) hcat hd hfit2) hS (fun r m2 H1 locs1 hok2 h2 hR1 hz1 hS1 => ?_)
          exact am_fin h2 (am_after hI g1 g2 hok2 hk hR1 hz1 hS1) (hn rfl) (am_push_map r st)
        all_goals exact h.elim
      all_goals exact h.elim
    all_goals exact h.elim
  all_goals exact h.elim
set_option maxHeartbeats 1000000 in
theorem am_s71 : am_OpS l base sa cs D E 71 am_o70 := by
  intro k ip pc a b cp pl hrow bd ls st m Q h
  obtain ⟨⟨il, ht, hd, hn⟩, hpc, hside, hword, hjmp, hsw⟩ := am_dec hrow
  obtain rfl := Option.some.inj ht
  unfold am_o70 at h
  have hsd := of_decide_eq_true hside
  have hw := am_nest_of (hword _ rfl) rfl
  split at h
  next vs st2 hpop =>
    obtain ⟨rfl, hvl⟩ := am_pop_of hpop
    split at h
    next q st =>
      split at h
      next nn htag =>
        split at h
        next hfit =>
          refine am_intro hpc ?_
          intro p e S mm args below meth c H locs cells slots lsA hI
          obtain ⟨hC, hG, hS, hB, hR, hz, hL, hkL, hkS, hc1, hc2⟩ := id hI
          obtain ⟨hx, hb, hr, hml, hown, hts, hlk, hini⟩ := id hC
          obtain ⟨f1, f2, f3, f4, f5, f6, f7, f8, f9⟩ := am_mfacts hsd.1; have f30 := f3.1
          obtain ⟨g1, g2, g3, g4⟩ := am_fits_of hfit
          have hc1' : cells + bd.1 = am_b1 k := hc1
          have hc2' : slots + bd.2 ≤ am_b2 k := hc2
          have hCF : CallFix p mm c (am_b k) (am_L k) S args am_good (am_cn (am_own k)) := ⟨hx, hb, hml, hown, hts⟩
          have hfit2 : cells + am_b1 a ≤ (am_rm k).cells ∧ slots + am_b2 a ≤ (am_rm k).slots := ⟨by show cells + am_b1 a ≤ am_b1 k; omega, by show slots + am_b2 a ≤ am_b2 k; omega⟩
          have hcat : 2 * (F0 mm pc lsA (st.map (am_en base sa))).monitorRoom + (((st.map (am_en base sa))).map fun v => v.category).sum ≤ 8 := lv_room (by rw [am_cats_map]; exact g3)
          have hkv : ∀ v ∈ amR q :: vs, am_ok v := List.forall_mem_cons.mpr ⟨trivial, fun v hv => hkS v (List.mem_append_left _ (List.mem_reverse.mpr hv))⟩
          have hk : ∀ v ∈ st, am_ok v := fun v hv => hkS v (List.mem_append_right _ (List.mem_cons_of_mem _ hv))
          have hM := am_met (l := l) (base := base) (sa := sa) (cs := cs) (D := D) (E := E) hsd.1 h hkv g4
          rw [hsd.2.1] at f6
          simp only [Bool.false_eq_true, if_false] at f6
          have hen : am_en base sa (amR q) = .ref (am_ra base sa q) := rfl
          have hpcw := am_pcW (vs := amR q :: vs) hG hS hB hR
          have f7 := f7 hsd.2.1 hsd.2.2.1
          have hrecv := va_recv hG.1 hR.2.2.1 (am_Cl_at (am_own a) (f3.2 hsd.2.1)) (am_obj_at (base := base) (sa := sa) (cs := cs) htag (f3.2 hsd.2.1))
          have hp : PreV S H (am_y a).cls (am_ra base sa q) (va_Pc ((amR q :: vs).map (am_en base sa)) (am_PcW base sa cs D E m)) (vs.map (am_en base sa)) := ⟨am_blind, by rw [f2]; exact hrecv, hpcw⟩
          have cw := va_cnB (R := am_rm k) (rm := am_rm a) (mc := am_b1 a) (ms := am_b2 a) (ret := am_ret a) (am_na a) hts (am_wsM_good hsd.1) rfl rfl rfl (hG.2.1 _ hw) (by rw [f2]; exact hts _ (am_init_in (by omega))) ⟨f5.1, f5.2, f4⟩ ⟨hsd.2.2.2.1, hsd.2.2.2.2⟩
          refine am_callR hsd.1 (va_runVN hCF hM ⟨cw, hts _ f6, hts _ f7⟩ hp rfl (by simp [hvl]) hL.1 (by simp [hen]) hcat hd hfit2) hS (fun r m2 H1 locs1 hok2 h2 hR1 hz1 hS1 => ?_)
          exact am_fin h2 (am_after hI g1 g2 hok2 hk hR1 hz1 hS1) (hn rfl) (am_push_map r st)
        all_goals exact h.elim
      all_goals exact h.elim
    all_goals exact h.elim
  all_goals exact h.elim
set_option maxHeartbeats 1000000 in
theorem am_s72 : am_OpS l base sa cs D E 72 am_o72 := by
  intro k ip pc a b cp pl hrow bd ls st m Q h
  obtain ⟨⟨il, ht, hd, hn⟩, hpc, hside, hword, hjmp, hsw⟩ := am_dec hrow
  obtain rfl := Option.some.inj ht
  unfold am_o72 at h
  have hsd := of_decide_eq_true hside
  have hw := am_good_of (hword _ rfl) rfl
  split at h
  next vs st2 hpop =>
    obtain ⟨rfl, hvl⟩ := am_pop_of hpop
    split at h
    next hfit =>
      refine am_intro hpc ?_
      intro p e S mm args below meth c H locs cells slots lsA hI
      obtain ⟨hC, hG, hS, hB, hR, hz, hL, hkL, hkS, hc1, hc2⟩ := id hI
      obtain ⟨hx, hb, hr, hml, hown, hts, hlk, hini⟩ := id hC
      obtain ⟨f1, f2, f3, f4, f5, f6, f7, f8, f9⟩ := am_mfacts hsd.1; have f30 := f3.1
      obtain ⟨g1, g2, g3, g4⟩ := am_fits_of hfit
      have hc1' : cells + bd.1 = am_b1 k := hc1
      have hc2' : slots + bd.2 ≤ am_b2 k := hc2
      have hCF : CallFix p mm c (am_b k) (am_L k) S args am_good (am_cn (am_own k)) := ⟨hx, hb, hml, hown, hts⟩
      have hfit2 : cells + am_b1 a ≤ (am_rm k).cells ∧ slots + am_b2 a ≤ (am_rm k).slots := ⟨by show cells + am_b1 a ≤ am_b1 k; omega, by show slots + am_b2 a ≤ am_b2 k; omega⟩
      have hcat : 2 * (F0 mm pc lsA (st2.map (am_en base sa))).monitorRoom + (((st2.map (am_en base sa))).map fun v => v.category).sum ≤ 8 := lv_room (by rw [am_cats_map]; exact g3)
      have hkv : ∀ v ∈ vs, am_ok v := fun v hv => hkS v (List.mem_append_left _ (List.mem_reverse.mpr hv))
      have hk : ∀ v ∈ st2, am_ok v := fun v hv => hkS v (List.mem_append_right _ hv)
      have hM := am_met (l := l) (base := base) (sa := sa) (cs := cs) (D := D) (E := E) hsd.1 h hkv g4
      rw [hsd.2.1] at f6
      simp only [if_true] at f6
      have hT : GoodIn am_good (wsS (am_cn (am_own k)) cp (am_y a) (am_wsM a)) := by
        intro w hw2
        rcases List.mem_append.mp hw2 with h3 | h3
        · refine am_good_in w ?_
          simp only [List.mem_cons, List.not_mem_nil, or_false] at h3
          rcases h3 with rfl | rfl | rfl
          · exact hw
          · exact f6
          · rw [← hsd.2.2.1]; exact am_init_in (by omega)
        · exact am_wsM_good hsd.1 w h3
      have cw := cwS (R := am_rm k) (rm := am_rm a) (mc := am_b1 a) (ms := am_b2 a) (am_na a) hts hT rfl rfl rfl ⟨by rw [f2, hsd.2.2.1], f5.1, f5.2, f4⟩ ⟨hsd.2.2.2.1, hsd.2.2.2.2⟩
      refine am_callR hsd.1 (va_runS hCF hM cw ⟨am_blind, am_pcW hG hS hB hR⟩ rfl (by simp [hvl]) hL.1 (by simp) hcat hd hfit2) hS (fun r m2 H1 locs1 hok2 h2 hR1 hz1 hS1 => ?_)
      exact am_fin h2 (am_after hI g1 g2 hok2 hk hR1 hz1 hS1) (hn rfl) (am_push_map r st2)
    all_goals exact h.elim
  all_goals exact h.elim
set_option maxHeartbeats 1000000 in
theorem am_s73 : am_OpS l base sa cs D E 73 am_o72 := by
  intro k ip pc a b cp pl hrow bd ls st m Q h
  obtain ⟨⟨il, ht, hd, hn⟩, hpc, hside, hword, hjmp, hsw⟩ := am_dec hrow
  obtain rfl := Option.some.inj ht
  unfold am_o72 at h
  have hsd := of_decide_eq_true hside
  have hw := am_nest_of (hword _ rfl) rfl
  split at h
  next vs st2 hpop =>
    obtain ⟨rfl, hvl⟩ := am_pop_of hpop
    split at h
    next hfit =>
      refine am_intro hpc ?_
      intro p e S mm args below meth c H locs cells slots lsA hI
      obtain ⟨hC, hG, hS, hB, hR, hz, hL, hkL, hkS, hc1, hc2⟩ := id hI
      obtain ⟨hx, hb, hr, hml, hown, hts, hlk, hini⟩ := id hC
      obtain ⟨f1, f2, f3, f4, f5, f6, f7, f8, f9⟩ := am_mfacts hsd.1; have f30 := f3.1
      obtain ⟨g1, g2, g3, g4⟩ := am_fits_of hfit
      have hc1' : cells + bd.1 = am_b1 k := hc1
      have hc2' : slots + bd.2 ≤ am_b2 k := hc2
      have hCF : CallFix p mm c (am_b k) (am_L k) S args am_good (am_cn (am_own k)) := ⟨hx, hb, hml, hown, hts⟩
      have hfit2 : cells + am_b1 a ≤ (am_rm k).cells ∧ slots + am_b2 a ≤ (am_rm k).slots := ⟨by show cells + am_b1 a ≤ am_b1 k; omega, by show slots + am_b2 a ≤ am_b2 k; omega⟩
      have hcat : 2 * (F0 mm pc lsA (st2.map (am_en base sa))).monitorRoom + (((st2.map (am_en base sa))).map fun v => v.category).sum ≤ 8 := lv_room (by rw [am_cats_map]; exact g3)
      have hkv : ∀ v ∈ vs, am_ok v := fun v hv => hkS v (List.mem_append_left _ (List.mem_reverse.mpr hv))
      have hk : ∀ v ∈ st2, am_ok v := fun v hv => hkS v (List.mem_append_right _ hv)
      have hM := am_met (l := l) (base := base) (sa := sa) (cs := cs) (D := D) (E := E) hsd.1 h hkv g4
      rw [hsd.2.1] at f6
      simp only [if_true] at f6
      have cw := va_cnB (R := am_rm k) (rm := am_rm a) (mc := am_b1 a) (ms := am_b2 a) (ret := am_ret a) (am_na a) hts (am_wsM_good hsd.1) rfl rfl rfl (hG.2.1 _ hw) (by rw [f2]; exact hts _ (am_init_in (by omega))) ⟨f5.1, f5.2, f4⟩ ⟨hsd.2.2.1, hsd.2.2.2⟩
      refine am_callR hsd.1 (va_runSN hCF hM ⟨cw, hts _ f6, trivial⟩ ⟨am_blind, am_pcW hG hS hB hR⟩ rfl (by simp [hvl]) hL.1 (by simp) hcat hd hfit2) hS (fun r m2 H1 locs1 hok2 h2 hR1 hz1 hS1 => ?_)
      exact am_fin h2 (am_after hI g1 g2 hok2 hk hR1 hz1 hS1) (hn rfl) (am_push_map r st2)
    all_goals exact h.elim
  all_goals exact h.elim
set_option maxHeartbeats 1000000 in
theorem am_s74 : am_OpS l base sa cs D E 74 am_o74 := by
  intro k ip pc a b cp pl hrow bd ls st m Q h
  obtain ⟨⟨il, ht, hd, hn⟩, hpc, hside, hword, hjmp, hsw⟩ := am_dec hrow
  obtain rfl := Option.some.inj ht
  unfold am_o74 at h
  have hsd := of_decide_eq_true hside
  have hw := am_good_of (hword _ rfl) rfl
  split at h
  next vs st2 hpop =>
    obtain ⟨rfl, hvl⟩ := am_pop_of hpop
    split at h
    next q st =>
      split at h
      next hfit =>
        refine am_intro hpc ?_
        intro p e S mm args below meth c H locs cells slots lsA hI
        obtain ⟨hC, hG, hS, hB, hR, hz, hL, hkL, hkS, hc1, hc2⟩ := id hI
        obtain ⟨hx, hb, hr, hml, hown, hts, hlk, hini⟩ := id hC
        obtain ⟨f1, f2, f3, f4, f5, f6, f7, f8, f9⟩ := am_mfacts hsd.1; have f30 := f3.1
        obtain ⟨g1, g2, g3, g4⟩ := am_fits_of hfit
        have hc1' : cells + bd.1 = am_b1 k := hc1
        have hc2' : slots + bd.2 ≤ am_b2 k := hc2
        have hCF : CallFix p mm c (am_b k) (am_L k) S args am_good (am_cn (am_own k)) := ⟨hx, hb, hml, hown, hts⟩
        have hfit2 : cells + am_b1 a ≤ (am_rm k).cells ∧ slots + am_b2 a ≤ (am_rm k).slots := ⟨by show cells + am_b1 a ≤ am_b1 k; omega, by show slots + am_b2 a ≤ am_b2 k; omega⟩
        have hcat : 2 * (F0 mm pc lsA (st.map (am_en base sa))).monitorRoom + (((st.map (am_en base sa))).map fun v => v.category).sum ≤ 8 := lv_room (by rw [am_cats_map]; exact g3)
        have hkv : ∀ v ∈ amR q :: vs, am_ok v := List.forall_mem_cons.mpr ⟨trivial, fun v hv => hkS v (List.mem_append_left _ (List.mem_reverse.mpr hv))⟩
        have hk : ∀ v ∈ st, am_ok v := fun v hv => hkS v (List.mem_append_right _ (List.mem_cons_of_mem _ hv))
        have hM := am_met (l := l) (base := base) (sa := sa) (cs := cs) (D := D) (E := E) hsd.1 h hkv g4
        rw [hsd.2.1] at f6
        simp only [Bool.false_eq_true, if_false] at f6
        have hen : am_en base sa (amR q) = .ref (am_ra base sa q) := rfl
        have hpcw := am_pcW (vs := amR q :: vs) hG hS hB hR
        have hret : am_wsM a = Jvm.Cond.code (am_y a) (am_b a) (am_L a) none :: am_good := by rw [← hsd.2.2.2.1]; rfl
        have hp : PreS S H (va_Pc ((amR q :: vs).map (am_en base sa)) (am_PcW base sa cs D E m)) (.ref (am_ra base sa q) :: vs.map (am_en base sa)) := ⟨am_blind, hpcw⟩
        have cw := callB_of (R := am_rm k) (rm := am_rm a) (mc := am_b1 a) (ms := am_b2 a) (own := am_cn (am_own k)) (index := cp) (am_na a) hts (am_wsM_good hsd.1) hret rfl rfl (by rw [f2]; exact hts _ (am_init_in (by omega))) (hts _ hw) ⟨f5.1, f5.2, f4⟩ ⟨hsd.2.2.2.2.1, hsd.2.2.2.2.2⟩
        refine am_callR hsd.1 (va_runI hCF hM ⟨cw, f8 hsd.2.2.1, hts _ f6⟩ hp rfl (by simp [hvl]) hL.1 (by simp [hen]) hcat hd hfit2) hS (fun r m2 H1 locs1 hok2 h2 hR1 hz1 hS1 => ?_)
        exact am_fin h2 (am_after hI g1 g2 hok2 hk hR1 hz1 hS1) (hn rfl) (am_push_map r st)
      all_goals exact h.elim
    all_goals exact h.elim
  all_goals exact h.elim
set_option maxHeartbeats 1000000 in
theorem am_s75 : am_OpS l base sa cs D E 75 am_o74 := by
  intro k ip pc a b cp pl hrow bd ls st m Q h
  obtain ⟨⟨il, ht, hd, hn⟩, hpc, hside, hword, hjmp, hsw⟩ := am_dec hrow
  obtain rfl := Option.some.inj ht
  unfold am_o74 at h
  have hsd := of_decide_eq_true hside
  have hw := am_nest_of (hword _ rfl) rfl
  split at h
  next vs st2 hpop =>
    obtain ⟨rfl, hvl⟩ := am_pop_of hpop
    split at h
    next q st =>
      split at h
      next hfit =>
        refine am_intro hpc ?_
        intro p e S mm args below meth c H locs cells slots lsA hI
        obtain ⟨hC, hG, hS, hB, hR, hz, hL, hkL, hkS, hc1, hc2⟩ := id hI
        obtain ⟨hx, hb, hr, hml, hown, hts, hlk, hini⟩ := id hC
        obtain ⟨f1, f2, f3, f4, f5, f6, f7, f8, f9⟩ := am_mfacts hsd.1; have f30 := f3.1
        obtain ⟨g1, g2, g3, g4⟩ := am_fits_of hfit
        have hc1' : cells + bd.1 = am_b1 k := hc1
        have hc2' : slots + bd.2 ≤ am_b2 k := hc2
        have hCF : CallFix p mm c (am_b k) (am_L k) S args am_good (am_cn (am_own k)) := ⟨hx, hb, hml, hown, hts⟩
        have hfit2 : cells + am_b1 a ≤ (am_rm k).cells ∧ slots + am_b2 a ≤ (am_rm k).slots := ⟨by show cells + am_b1 a ≤ am_b1 k; omega, by show slots + am_b2 a ≤ am_b2 k; omega⟩
        have hcat : 2 * (F0 mm pc lsA (st.map (am_en base sa))).monitorRoom + (((st.map (am_en base sa))).map fun v => v.category).sum ≤ 8 := lv_room (by rw [am_cats_map]; exact g3)
        have hkv : ∀ v ∈ amR q :: vs, am_ok v := List.forall_mem_cons.mpr ⟨trivial, fun v hv => hkS v (List.mem_append_left _ (List.mem_reverse.mpr hv))⟩
        have hk : ∀ v ∈ st, am_ok v := fun v hv => hkS v (List.mem_append_right _ (List.mem_cons_of_mem _ hv))
        have hM := am_met (l := l) (base := base) (sa := sa) (cs := cs) (D := D) (E := E) hsd.1 h hkv g4
        rw [hsd.2.1] at f6
        simp only [Bool.false_eq_true, if_false] at f6
        have hen : am_en base sa (amR q) = .ref (am_ra base sa q) := rfl
        have hpcw := am_pcW (vs := amR q :: vs) hG hS hB hR
        have hret : am_wsM a = Jvm.Cond.code (am_y a) (am_b a) (am_L a) none :: am_good := by rw [← hsd.2.2.2.1]; rfl
        have hp : PreS S H (va_Pc ((amR q :: vs).map (am_en base sa)) (am_PcW base sa cs D E m)) (.ref (am_ra base sa q) :: vs.map (am_en base sa)) := ⟨am_blind, hpcw⟩
        have cw := va_cnB (R := am_rm k) (rm := am_rm a) (mc := am_b1 a) (ms := am_b2 a) (am_na a) hts (am_wsM_good hsd.1) hret rfl rfl (hG.2.1 _ hw) (by rw [f2]; exact hts _ (am_init_in (by omega))) ⟨f5.1, f5.2, f4⟩ ⟨hsd.2.2.2.2.1, hsd.2.2.2.2.2⟩
        refine am_callR hsd.1 (va_runIN hCF hM ⟨cw, f8 hsd.2.2.1, hts _ f6⟩ hp rfl (by simp [hvl]) hL.1 (by simp [hen]) hcat hd hfit2) hS (fun r m2 H1 locs1 hok2 h2 hR1 hz1 hS1 => ?_)
        exact am_fin h2 (am_after hI g1 g2 hok2 hk hR1 hz1 hS1) (hn rfl) (am_push_map r st)
      all_goals exact h.elim
    all_goals exact h.elim
  all_goals exact h.elim
end SND4
