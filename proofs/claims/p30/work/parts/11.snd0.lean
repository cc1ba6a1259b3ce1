/-! THE ABSTRACT MACHINE IS SOUND, the frame of it: what the abstract state stands for, and the predicate that is closed under its steps -/
def am_A (base : Nat) : Nat → Prop := fun q => base ≤ q
def am_RP (base : Nat) (sa : Nat → Nat) (cs : am_CS) (D : va_G) (m : am_M) (H : Heap) : Prop :=
  H.size = base + m.1.length ∧ m.1.length ≤ 999 ∧ va_P D am_Cl (am_ws base sa cs m) H ∧ ∀ a i, am_rg (m.2.1 a i)
def am_isNest : Jvm.Cond → Bool
  | .fieldLinkNest .. => true
  | .methodLinkNest .. => true
  | _ => false
def am_nest : List Jvm.Cond := lw_tbl.filter am_isNest
theorem am_nest_of {i : Nat} {w : Jvm.Cond} (h : am_nth lw_tbl i = some w) (hg : am_isNest w = true) : w ∈ am_nest := List.mem_filter.mpr ⟨am_mem h, hg⟩
def am_GS (base : Nat) (sa : Nat → Nat) (cs : am_CS) (D : va_G) (E : am_E) (U : State) (H : Heap) : Prop :=
  va_K D am_Cl (am_tys cs) U ∧ (∀ w ∈ am_nest, va_Nw w U) ∧ va_AO "BeatWords$Sheet" U
  ∧ (∀ j, j < 3 → va_T .int (sa j) (E j).1 (fun i => .int (Int32.ofInt ((E j).2 i))) (am_A base) U H)
  ∧ va_Z "BeatWords" "LEAST_WAYS" "[I" (.ref (sa 0)) (am_A base) U H ∧ va_Z "BeatWords" "MOST_WAYS" "[I" (.ref (sa 1)) (am_A base) U H
def am_EO (E : am_E) : Prop := ∀ j, j < 3 → (E j).1 < 2147483648 ∧ ∀ i, am_rg ((E j).2 i)
theorem am_GS.to {base : Nat} {sa : Nat → Nat} {cs : am_CS} {D : va_G} {E : am_E} {u U : State} {H H1 : Heap} (hW : u.WarmedH U.vm) (hq : ∀ a : Nat, a < H.size → ¬ am_A base a → H1[a]? = H[a]?) (h : am_GS base sa cs D E u H) : am_GS base sa cs D E U H1 := by
  obtain ⟨h1, h2, h3, h4, h5, h6⟩ := h
  refine ⟨va_K.moved hW.alike h1, fun w hw => ?_, h3.moved hW.alike, fun j hj => ((h4 j hj).moved hW.alike).kept hq, (h5.moved hW.alike).kept hq, (h6.moved hW.alike).kept hq⟩
  have hn := (List.mem_filter.mp hw).2
  have h0 := h2 w hw
  cases w with
  | fieldLinkNest a i b n d g => exact va_Nw.warmF hW h0
  | methodLinkNest a i y g => exact va_Nw.warmM hW h0
  | _ => cases hn
theorem am_GS.same {base : Nat} {sa : Nat → Nat} {cs : am_CS} {D : va_G} {E : am_E} {u U : State} {H : Heap} (hv : u.vm = U.vm) (h : am_GS base sa cs D E u H) : am_GS base sa cs D E U H := by
  have hal : u.vm.Alike U.vm := by rw [hv]; exact Vm.Alike.refl _
  obtain ⟨h1, h2, h3, h4, h5, h6⟩ := h
  refine ⟨va_K.moved hal h1, fun w hw => ?_, h3.moved hal, fun j hj => (h4 j hj).moved hal, h5.moved hal, h6.moved hal⟩
  have hn := (List.mem_filter.mp hw).2
  have h0 := h2 w hw
  cases w with
  | fieldLinkNest a i b n d g => exact va_Nw.same rfl hv h0
  | methodLinkNest a i y g => exact va_Nw.same rfl hv h0
  | _ => cases hn
def am_rm (k : Nat) : Room := { frames := am_fr k, cells := am_b1 k, slots := am_b2 k, locals := am_lo k }
def am_wsM (k : Nat) : List Jvm.Cond := Jvm.Cond.code (am_y k) (am_b k) (am_L k) (am_ret k) :: am_good
def am_QM (base : Nat) (sa : Nat → Nat) (cs : am_CS) (D : va_G) (k : Nat) (Q : am_Q) : Array Value → State → Outcome → State → Prop := fun _ st oc t =>
  (∃ (r : Option am_V) (m : am_M), oc = .returned (r.map (am_en base sa)) ∧ (∀ v, r = some v → am_ok v) ∧ Q r m ∧ am_RP base sa cs D m t.heap ∧ (k < 180 → t.heap.size = st.heap.size + am_b1 k)) ∧ va_F (am_A base) st t
def am_CX (p : Program) (S : State) (mm : MethodId) (args : Array Value) (meth : Method) (c : Code) (k : Nat) : Prop :=
  p.tables.exec = Jvm.exec ∧ c.code = am_b k ∧ meth.sig.returnType = am_ret k ∧ c.maxLocals = am_L k ∧ S.vm.findClass (am_cn (am_own k)) = some mm.cls ∧ (∀ w ∈ am_good, w.before args S = true) ∧ meth.locks = false ∧ (am_in k = true → meth.name = "<init>")
def am_Inv (base : Nat) (sa : Nat → Nat) (cs : am_CS) (D : va_G) (E : am_E) (k : Nat) (s : am_St) (p : Program) (S : State) (mm : MethodId) (args : Array Value) (meth : Method) (c : Code) (H : Heap) (locs : List Loc) (cells slots : Nat) (lsA : Array Slot) : Prop :=
  am_CX p S mm args meth c k ∧ am_GS base sa cs D E S S.heap ∧ va_S (am_A base) S.heap H locs ∧ base ≤ S.heap.size ∧ am_RP base sa cs D s.2.2.2.2 H ∧ H.size = S.heap.size + cells
  ∧ lv_has lsA (am_L k) (am_lv base sa 0 s.2.2.1) ∧ (∀ n v, am_nth s.2.2.1 n = some (some v) → am_ok v) ∧ (∀ v ∈ s.2.2.2.1, am_ok v) ∧ cells + s.2.1.1 = am_b1 k ∧ slots + s.2.1.2 ≤ am_b2 k
def am_Sd (l : Launch) (base : Nat) (sa : Nat → Nat) (cs : am_CS) (D : va_G) (E : am_E) : am_P := fun k s Q =>
  ∀ (p : Program) (e : Env) (S : State) (mm : MethodId) (args : Array Value) (below : List Frame) (meth : Method) (c : Code) (H : Heap) (locs : List Loc) (cells slots : Nat) (lsA : Array Slot),
    am_Inv base sa cs D E k s p S mm args meth c H locs cells slots lsA →
    W p l e (am_rm k) S mm args below meth c H locs cells slots (MQ below (am_QM base sa cs D k Q) args S (am_b1 k) (am_b2 k) (am_A base)) (F0 mm (am_pc k s.1) lsA (s.2.2.2.1.map (am_en base sa)))
theorem am_MQ_mono {base : Nat} {sa : Nat → Nat} {cs : am_CS} {D : va_G} {k : Nat} {Q Q' : am_Q} (hQ : ∀ r m, Q r m → Q' r m) {below : List Frame} {a : Array Value} {s : State} {mc ms : Nat} {free : Addr → Prop} {t : State} (h : MQ below (am_QM base sa cs D k Q) a s mc ms free t) : MQ below (am_QM base sa cs D k Q') a s mc ms free t := by
  obtain ⟨o, h1, h2, ⟨⟨r, m, q1, q2, q3, q4⟩, h4⟩, h5⟩ := h
  exact ⟨o, h1, h2, ⟨⟨r, m, q1, q2, hQ _ _ q3, q4⟩, h4⟩, h5⟩
section SDW
variable {p : Program} {l : Launch} {e : Env} {R : Room} {s : State} {m : MethodId} {args : Array Value} {below : List Frame} {meth : Method} {c : Code} {H : Heap} {locs : List Loc} {cells slots : Nat} {Q Q' : State → Prop}
theorem am_W_mono (hQ : ∀ t, Q t → Q' t) {g : JFrame} (h : W p l e R s m args below meth c H locs cells slots Q g) : W p l e R s m args below meth c H locs cells slots Q' g := by
  intro T hT X
  obtain ⟨t, h1, h2⟩ := h T hT X
  exact ⟨t, h1, hQ t h2⟩
theorem am_W_siz {g : JFrame} (kk : H.size ≤ s.heap.size + cells → W p l e R s m args below meth c H locs cells slots Q g) : W p l e R s m args below meth c H locs cells slots Q g :=
  fun T hT X => kk (by rw [← hT]; exact X.heapSize) T hT X
theorem am_ldcwf {cc : ByteArray} {pc : Nat} {ls : Array Slot} {rest : List Value} (hexec : p.tables.exec = Jvm.exec) (hb : c.code = cc) {own : String} {index : Nat} {v : UInt32} (hown : s.vm.findClass own = some m.cls) (hconst : (Jvm.Cond.constantFloat own index v).before args s = true) (hdg : decode cc pc = .ok (.ldc_w index, 3)) (k : W p l e R s m args below meth c H locs cells slots Q (F0 m (pc + 3) ls (.float v :: rest))) : W p l e R s m args below meth c H locs cells slots Q (F0 m pc ls rest) := by
  obtain ⟨kk, cf, hk, hcf, hcp⟩ := Cond.constantFloat_spec hown hconst
  intro T hT X
  obtain ⟨t, a, b⟩ := k T hT X
  obtain ⟨k', hk', he⟩ := X.warmed.alike.2.2 _ _ hk
  refine ⟨t, ?_, b⟩
  jvm_step X.here [hexec, hb, hdg, ldc_w.wp_float (s := T) (f := F0 m pc ls rest) X.here.top hk' (by rw [he]; exact hcf) hcp]
  exact a
end SDW
section SDC
variable {l : Launch} {base : Nat} {sa : Nat → Nat} {cs : am_CS} {D : va_G} {E : am_E}
theorem am_intro {k ip pc : Nat} {bd : Nat × Nat} {ls : am_LS} {st : List am_V} {m : am_M} {Q : am_Q} (hpc : am_pc k ip = pc)
    (h : ∀ (p : Program) (e : Env) (S : State) (mm : MethodId) (args : Array Value) (below : List Frame) (meth : Method) (c : Code) (H : Heap) (locs : List Loc) (cells slots : Nat) (lsA : Array Slot),
      am_Inv base sa cs D E k (ip, bd, ls, st, m) p S mm args meth c H locs cells slots lsA →
      W p l e (am_rm k) S mm args below meth c H locs cells slots (MQ below (am_QM base sa cs D k Q) args S (am_b1 k) (am_b2 k) (am_A base)) (F0 mm pc lsA (st.map (am_en base sa)))) : am_Sd l base sa cs D E k (ip, bd, ls, st, m) Q := by
  subst hpc
  exact h
theorem am_fin {k pc : Nat} {s : am_St} {Q : am_Q} {p : Program} {e : Env} {S : State} {mm : MethodId} {args : Array Value} {below : List Frame} {meth : Method} {c : Code} {H : Heap} {locs : List Loc} {cells slots : Nat} {lsA : Array Slot} {st : List Value}
    (hK : am_Sd l base sa cs D E k s Q) (hI : am_Inv base sa cs D E k s p S mm args meth c H locs cells slots lsA) (hp : am_pc k s.1 = pc) (hst : s.2.2.2.1.map (am_en base sa) = st) :
    W p l e (am_rm k) S mm args below meth c H locs cells slots (MQ below (am_QM base sa cs D k Q) args S (am_b1 k) (am_b2 k) (am_A base)) (F0 mm pc lsA st) := by
  subst hp
  subst hst
  exact hK p e S mm args below meth c H locs cells slots lsA hI
end SDC
theorem am_Sd_mono (l : Launch) (base : Nat) (sa : Nat → Nat) (cs : am_CS) (D : va_G) (E : am_E) : am_mono (am_Sd l base sa cs D E) :=
  fun _ _ _ _ hQ h p e S mm args below meth c H locs cells slots lsA hI => am_W_mono (fun _ => am_MQ_mono hQ) (h p e S mm args below meth c H locs cells slots lsA hI)
/-- what the kernel's check says of a row, opened -/
theorem am_dec {k ip pc op a cp pl : Nat} {b : Int} (h : am_row k ip = some (pc, op, a, b, cp, pl)) : (∃ il, am_toI op a b cp = some il ∧ decode (am_b k) pc = .ok il ∧ (am_term op = false → am_pc k (ip + 1) = pc + il.2)) ∧ am_pc k ip = pc
    ∧ am_side k op a b = true ∧ (∀ w, am_word k op a b cp = some w → am_nth lw_tbl pl = some w)
    ∧ (39 ≤ op ∧ op ≤ 53 → (pc : Int) + b = (am_pc k a : Int))
    ∧ (op = 54 → ∃ lo tg d of dd ln, am_nth am_sws a = some (lo, tg, d, of, dd, ln) ∧ tg.length = of.length ∧ (tg.map (fun t => (am_pc k t : Int))) = of.map (fun o => (pc : Int) + o) ∧ (pc : Int) + dd = (am_pc k d : Int)) := by
  obtain ⟨c, hc, hr, hok⟩ := am_row_at h
  have hp : ∀ i, am_pcl c i = am_pc k i := am_pcl_eq hc
  simp only [am_rowOK, Bool.and_eq_true] at hok
  obtain ⟨h1, h2, h3, h4, h5⟩ := hok
  refine ⟨?_, by simp [am_pc, h], h5, ?_, ?_, ?_⟩
  · cases ht : am_toI op a b cp with
    | none => rw [ht] at h1; cases h1
    | some il =>
      rw [ht] at h1
      refine ⟨il, rfl, of_decide_eq_true h1, fun hterm => ?_⟩
      rw [hterm, Bool.false_or] at h2
      have h6 := of_decide_eq_true h2
      rw [hp, am_len, ht] at h6
      exact h6
  · intro w hw
    rw [hw] at h4
    exact of_decide_eq_true h4
  · intro hr2
    unfold am_jump at h3
    rw [if_pos hr2] at h3
    have h6 := of_decide_eq_true h3
    rwa [hp] at h6
  · intro ho
    subst ho
    unfold am_jump at h3
    rw [if_neg (by omega), if_pos rfl] at h3
    cases hs : am_nth am_sws a with
    | none => rw [hs] at h3; cases h3
    | some v =>
      obtain ⟨lo, tg, d, of, dd, ln⟩ := v
      rw [hs] at h3
      have h6 := of_decide_eq_true h3
      refine ⟨lo, tg, d, of, dd, ln, rfl, h6.1, ?_, ?_⟩
      · have h7 := h6.2.1
        simp only [hp] at h7
        exact h7
      · have h7 := h6.2.2
        rwa [hp] at h7
abbrev am_OpS (l : Launch) (base : Nat) (sa : Nat → Nat) (cs : am_CS) (D : va_G) (E : am_E) (n : Nat) (f : am_O) : Prop :=
  ∀ (k ip pc a : Nat) (b : Int) (cp pl : Nat), am_row k ip = some (pc, n, a, b, cp, pl) → ∀ (bd : Nat × Nat) (ls : am_LS) (st : List am_V) (m : am_M) (Q : am_Q), am_run (am_Sd l base sa cs D E) k Q (f E a b ip bd ls st m) → am_Sd l base sa cs D E k (ip, bd, ls, st, m) Q
