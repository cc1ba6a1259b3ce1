/-! what the abstract machine's numbers stand for in the machine's heap -/
theorem am_ti {x : Int} (h : am_rg x) : (Int32.ofInt x).toInt = x := Int32.toInt_ofInt_of_le h.1 (by have := h.2; omega)
theorem am_clN {x : Int} (h : am_rg x) : (Int32.ofInt x).toNatClampNeg = x.toNat := by
  show (Int32.ofInt x).toInt.toNat = _
  rw [am_ti h]
theorem am_vin {x : Int} {n : Nat} (h : am_rg x) : vp_in (Int32.ofInt x) n ↔ 0 ≤ x ∧ x < n := by rw [vp_in_iff, am_ti h]
theorem am_lt32 {x y : Int} (hx : am_rg x) (hy : am_rg y) : Int32.ofInt x < Int32.ofInt y ↔ x < y := by
  rw [Int32.lt_iff_toInt_lt, am_ti hx, am_ti hy]
theorem am_le32 {x y : Int} (hx : am_rg x) (hy : am_rg y) : Int32.ofInt x ≤ Int32.ofInt y ↔ x ≤ y := by
  rw [Int32.le_iff_toInt_le, am_ti hx, am_ti hy]
theorem am_eq32 {x y : Int} (hx : am_rg x) (hy : am_rg y) : Int32.ofInt x = Int32.ofInt y ↔ x = y := by
  rw [← Int32.toInt_inj, am_ti hx, am_ti hy]
theorem am_ofTi (x : Int32) : Int32.ofInt x.toInt = x := Int32.ofInt_toInt x
theorem am_rg32 (x : Int32) : am_rg x.toInt := by
  have h1 := Int32.le_toInt x
  have h2 := Int32.toInt_lt x
  constructor <;> omega
theorem am_nth_eq {α : Type} : ∀ (l : List α) (i : Nat), am_nth l i = l[i]?
  | [], _ => by simp [am_nth]
  | x :: l, 0 => by simp [am_nth]
  | x :: l, i + 1 => by simp [am_nth, am_nth_eq l i]
def am_ok : am_V → Prop
  | .inl x => am_rg x
  | _ => True
def am_ra (base : Nat) (sa : Nat → Nat) (a : Nat) : Nat := if a < 1000 then base + a else sa (a - 1000)
def am_en (base : Nat) (sa : Nat → Nat) : am_V → Value
  | .inl x => .int (Int32.ofInt x)
  | .inr (.inl r) => va_rf (r.map (am_ra base sa))
  | .inr (.inr (.inl f)) => .float f
  | .inr (.inr (.inr v)) => .long v
abbrev am_CS : Type := ClassId × ClassId × ClassId × ClassId
def am_fd (base : Nat) (sa : Nat → Nat) (k : Nat) (x : Int) (r : Option Nat) : Value := if k = 1 then va_rf (r.map (am_ra base sa)) else .int (Int32.ofInt x)
def am_cf (base : Nat) (sa : Nat → Nat) (cs : am_CS) (t n : Nat) (gi : Nat → Int) (gf : Nat → UInt32) (gr : Nat → Option Nat) : va_E :=
  if t = 10 then .inl (cs.1, n, .inl (fun j => Int32.ofInt (gi j)))
  else if t = 11 then .inl (cs.2.1, n, .inl (fun j => Int32.ofInt (gi j)))
  else if t = 12 then .inl (cs.2.2.1, n, .inr (.inr (.inl gf)))
  else if t = 13 then .inl (cs.2.2.2, n, .inr (.inr (.inr (.inr (fun j => (gr j).map (am_ra base sa))))))
  else .inr (t, (List.range (am_N t)).map (fun j => am_fd base sa (am_fk t j) (gi j) (gr j)))
def am_cell (base : Nat) (sa : Nat → Nat) (cs : am_CS) (m : am_M) (q : Nat) : va_E := match am_nth m.1 q with
  | some (t, n) => am_cf base sa cs t n (m.2.1 q) (m.2.2.1 q) (m.2.2.2 q)
  | none => .inr (99, [])
def am_ws (base : Nat) (sa : Nat → Nat) (cs : am_CS) (m : am_M) : va_W := (List.range m.1.length).map (fun q => (base + q, am_cell base sa cs m q))
def am_tys (cs : am_CS) : List (ClassId × FieldType) := [(cs.1, .int), (cs.2.1, .int), (cs.2.2.1, .float), (cs.2.2.2, .object "BeatWords$Sheet")]
section REP
variable {base : Nat} {sa : Nat → Nat} {cs : am_CS} {m m' : am_M} {q : Nat}
theorem am_ws_len : (am_ws base sa cs m).length = m.1.length := by simp [am_ws]
theorem am_ws_at (hq : q < m.1.length) : (am_ws base sa cs m)[q]? = some (base + q, am_cell base sa cs m q) := by
  simp [am_ws, hq]
theorem am_ws_of {p : Nat × va_E} (h : (am_ws base sa cs m)[q]? = some p) : q < m.1.length ∧ p = (base + q, am_cell base sa cs m q) := by
  have h1 : q < m.1.length := by
    have h2 := (List.getElem?_eq_some_iff.mp h).1
    rwa [am_ws_len] at h2
  exact ⟨h1, Option.some.inj (h.symm.trans (am_ws_at h1))⟩
theorem am_ws_D : va_D (fun x => base ≤ x) (am_ws base sa cs m) := by
  refine ⟨fun i j p r h1 h2 h3 => ?_, fun i p h => ?_⟩
  · obtain ⟨-, rfl⟩ := am_ws_of h1
    obtain ⟨-, rfl⟩ := am_ws_of h2
    have h4 : base + i = base + j := h3
    omega
  · obtain ⟨-, rfl⟩ := am_ws_of h
    exact Nat.le_add_right _ _
theorem am_ws_set {e : va_E} (h1 : m'.1 = m.1) (hq : q < m.1.length) (he : am_cell base sa cs m' q = e) (ho : ∀ j, j ≠ q → am_cell base sa cs m' j = am_cell base sa cs m j) :
    (am_ws base sa cs m).set q (base + q, e) = am_ws base sa cs m' := by
  refine List.ext_getElem? fun i => ?_
  by_cases hi : i < m.1.length
  · rw [am_ws_at (m := m') (by rw [h1]; exact hi), List.getElem?_set]
    by_cases hqi : q = i
    · subst hqi
      rw [if_pos rfl, if_pos (by rw [am_ws_len]; exact hi), he]
    · rw [if_neg hqi, am_ws_at hi, ho i (Ne.symm hqi)]
  · rw [List.getElem?_eq_none (by rw [List.length_set, am_ws_len]; omega), List.getElem?_eq_none (by rw [am_ws_len, h1]; omega)]
theorem am_ws_app {e : va_E} {t n : Nat} (h1 : m'.1 = m.1 ++ [(t, n)]) (he : am_cell base sa cs m' m.1.length = e) (ho : ∀ j, j < m.1.length → am_cell base sa cs m' j = am_cell base sa cs m j) :
    am_ws base sa cs m ++ [(base + m.1.length, e)] = am_ws base sa cs m' := by
  refine List.ext_getElem? fun i => ?_
  have hl : m'.1.length = m.1.length + 1 := by rw [h1]; simp
  rcases Nat.lt_trichotomy i m.1.length with hi | hi | hi
  · rw [List.getElem?_append_left (by rw [am_ws_len]; exact hi), am_ws_at hi, am_ws_at (by omega), ho i hi]
  · subst hi
    rw [List.getElem?_append_right (by rw [am_ws_len]; exact Nat.le_refl _), am_ws_len, Nat.sub_self, am_ws_at (m := m') (by omega), he]
    rfl
  · rw [List.getElem?_eq_none (by rw [List.length_append, am_ws_len]; simp; omega), List.getElem?_eq_none (by rw [am_ws_len]; omega)]
theorem am_tag_of {t n : Nat} (h : am_tag m q t = some n) : q < 1000 ∧ am_nth m.1 q = some (t, n) ∧ q < m.1.length := by
  unfold am_tag at h
  split at h
  · rename_i h1
    split at h
    · rename_i t' n' h2
      split at h
      · rename_i h3
        have h4 : t' = t := Nat.eq_of_beq_eq_true h3
        cases h
        subst h4
        refine ⟨by simpa using h1, h2, ?_⟩
        rw [am_nth_eq] at h2
        exact (List.getElem?_eq_some_iff.mp h2).1
      · cases h
    · cases h
  · cases h
theorem am_ra_lt (h : q < 1000) : am_ra base sa q = base + q := by simp [am_ra, h]
theorem am_cell_of {t n : Nat} (h : am_nth m.1 q = some (t, n)) : am_cell base sa cs m q = am_cf base sa cs t n (m.2.1 q) (m.2.2.1 q) (m.2.2.2 q) := by
  simp [am_cell, h]
theorem am_up_ne {α : Type} {f : Nat → Nat → α} {a i b : Nat} {v : α} (h : b ≠ a) : am_up f a i v b = f b := by simp [am_up, h]
theorem am_up_eq {α : Type} {f : Nat → Nat → α} {a i : Nat} {v : α} : am_up f a i v a = fun j => if j = i then v else f a j := by simp [am_up]
theorem am_clr_ne {α : Type} {f : Nat → Nat → α} {a b : Nat} {v : α} (h : b ≠ a) : am_clr f a v b = f b := by simp [am_clr, h]
theorem am_clr_eq {α : Type} {f : Nat → Nat → α} {a : Nat} {v : α} : am_clr f a v a = fun _ => v := by simp [am_clr]
end REP
/-- the locals as the kit's rows have them -/
def am_lv (base : Nat) (sa : Nat → Nat) : Nat → am_LS → List (Nat × Value)
  | _, [] => []
  | i, some v :: l => (i, am_en base sa v) :: am_lv base sa (i + 1) l
  | i, none :: l => am_lv base sa (i + 1) l
theorem am_lv_mem {base : Nat} {sa : Nat → Nat} {j : Nat} {w : Value} : ∀ {ls : am_LS} {i : Nat}, (j, w) ∈ am_lv base sa i ls ↔ ∃ n v, j = i + n ∧ am_nth ls n = some (some v) ∧ w = am_en base sa v
  | [], i => by simp [am_lv, am_nth]
  | some u :: l, i => by
    rw [am_lv, List.mem_cons, am_lv_mem]
    constructor
    · rintro (h | ⟨n, v, h1, h2, h3⟩)
      · cases h
        exact ⟨0, u, rfl, rfl, rfl⟩
      · exact ⟨n + 1, v, by omega, h2, h3⟩
    · rintro ⟨n, v, h1, h2, h3⟩
      cases n with
      | zero =>
        cases h2
        exact Or.inl (by rw [h1, h3]; rfl)
      | succ n => exact Or.inr ⟨n, v, by omega, h2, h3⟩
  | none :: l, i => by
    rw [am_lv, am_lv_mem]
    constructor
    · rintro ⟨n, v, h1, h2, h3⟩
      exact ⟨n + 1, v, by omega, h2, h3⟩
    · rintro ⟨n, v, h1, h2, h3⟩
      cases n with
      | zero => cases h2
      | succ n => exact ⟨n, v, by omega, h2, h3⟩
theorem am_lv_get {base : Nat} {sa : Nat → Nat} {lsA : Array Slot} {nL : Nat} {ls : am_LS} {i : Nat} {v : am_V} (h : lv_has lsA nL (am_lv base sa 0 ls)) (hv : am_nth ls i = some (some v)) : lsA[i]? = some (.val (am_en base sa v)) :=
  h.2.2 (i, am_en base sa v) (am_lv_mem.mpr ⟨i, v, by omega, hv, rfl⟩)
theorem am_put_nth {v : Option am_V} : ∀ {ls : am_LS} {i j : Nat}, am_nth (am_put ls i v) j = if j = i ∧ i < ls.length then some v else am_nth ls j
  | [], _, _ => by simp [am_put, am_nth]
  | _ :: l, 0, 0 => by simp [am_put, am_nth]
  | _ :: l, 0, j + 1 => by simp [am_put, am_nth]
  | _ :: l, i + 1, 0 => by simp [am_put, am_nth]
  | _ :: l, i + 1, j + 1 => by
    have h := am_put_nth (v := v) (ls := l) (i := i) (j := j)
    simp [am_put, am_nth, h]
theorem am_put_len {v : Option am_V} : ∀ {ls : am_LS} {i : Nat}, (am_put ls i v).length = ls.length
  | [], _ => rfl
  | _ :: l, 0 => rfl
  | _ :: l, i + 1 => by simp [am_put, am_put_len]
theorem am_okp_of {ls : am_LS} {i n : Nat} {x : Int64} (h : am_okp ls i = true) (hi : n + 1 = i) (hv : am_nth ls n = some (some (amL x))) : False := by
  subst hi
  simp [am_okp, hv] at h
theorem am_en_cat {base : Nat} {sa : Nat → Nat} (v : am_V) : (am_en base sa v).category = am_cat v := by
  rcases v with x | r | f | x
  · rfl
  · cases r <;> rfl
  · rfl
  · rfl
theorem am_cats_map {base : Nat} {sa : Nat → Nat} : ∀ (st : List am_V), ((st.map (am_en base sa)).map fun v => v.category).sum = am_cats st
  | [] => rfl
  | v :: st => by
    simp only [List.map_cons, List.sum_cons, am_cats, am_en_cat, am_cats_map st]
/-- a store of a value of one slot -/
theorem am_lv_st1 {base : Nat} {sa : Nat → Nat} {lsA : Array Slot} {nL i : Nat} {ls : am_LS} {v : am_V} (ho : am_okp ls i = true) (h : lv_has lsA nL ((i, am_en base sa v) :: (am_lv base sa 0 ls).filter (fun q => !(q.1 == i) && !(q.1 + 1 == i && q.2.category == 2)))) :
    lv_has lsA nL (am_lv base sa 0 (am_put ls i (some v))) := by
  refine ⟨h.1, h.2.1, fun q hq => h.2.2 q ?_⟩
  obtain ⟨j, w⟩ := q
  obtain ⟨n, u, h1, h2, h3⟩ := am_lv_mem.mp hq
  rw [Nat.zero_add] at h1
  subst h1
  rw [am_put_nth] at h2
  split at h2
  · rename_i h4
    cases h2
    rw [h3, h4.1]
    exact List.mem_cons_self
  · rename_i h4
    have h5 : j < ls.length := by
      rw [am_nth_eq] at h2
      exact (List.getElem?_eq_some_iff.mp h2).1
    by_cases h6 : j = i
    · exact absurd ⟨h6, by omega⟩ h4
    · refine List.mem_cons_of_mem _ (List.mem_filter.mpr ⟨am_lv_mem.mpr ⟨j, u, by omega, h2, h3⟩, ?_⟩)
      simp only [Bool.and_eq_true, Bool.not_eq_true', Bool.and_eq_false_iff, beq_eq_false_iff_ne]
      refine ⟨h6, ?_⟩
      by_cases h7 : j + 1 = i
      · right
        rw [h3, am_en_cat]
        rcases u with x | r | f | x
        · simp [am_cat]
        · simp [am_cat]
        · simp [am_cat]
        · exact (am_okp_of ho h7 h2).elim
      · exact Or.inl h7
theorem am_lv_st2 {base : Nat} {sa : Nat → Nat} {lsA : Array Slot} {nL i : Nat} {ls : am_LS} {x : Int64} (ho : am_okp ls i = true) (h : lv_has lsA nL ((i, Value.long x) :: (am_lv base sa 0 ls).filter (fun q => !(q.1 == i) && (!(q.1 == i + 1) && !(q.1 + 1 == i && q.2.category == 2))))) :
    lv_has lsA nL (am_lv base sa 0 (am_put (am_put ls i (some (amL x))) (i + 1) none)) := by
  refine ⟨h.1, h.2.1, fun q hq => h.2.2 q ?_⟩
  obtain ⟨j, w⟩ := q
  obtain ⟨n, u, h1, h2, h3⟩ := am_lv_mem.mp hq
  rw [Nat.zero_add] at h1
  subst h1
  rw [am_put_nth] at h2
  split at h2
  · cases h2
  · rename_i h8
    rw [am_put_nth] at h2
    split at h2
    · rename_i h4
      cases h2
      rw [h3, h4.1]
      exact List.mem_cons_self
    · rename_i h4
      have h5 : j < ls.length := by
        rw [am_nth_eq] at h2
        exact (List.getElem?_eq_some_iff.mp h2).1
      rw [am_put_len] at h8
      have h6 : j ≠ i := fun e => h4 ⟨e, by omega⟩
      have h9 : j ≠ i + 1 := fun e => h8 ⟨e, by omega⟩
      refine List.mem_cons_of_mem _ (List.mem_filter.mpr ⟨am_lv_mem.mpr ⟨j, u, by omega, h2, h3⟩, ?_⟩)
      simp only [Bool.and_eq_true, Bool.not_eq_true', Bool.and_eq_false_iff, beq_eq_false_iff_ne]
      refine ⟨h6, h9, ?_⟩
      by_cases h7 : j + 1 = i
      · right
        rw [h3, am_en_cat]
        rcases u with x | r | f | x
        · simp [am_cat]
        · simp [am_cat]
        · simp [am_cat]
        · exact (am_okp_of ho h7 h2).elim
      · exact Or.inl h7
/-- the locals at a method's entry -/
theorem am_lv_args {base : Nat} {sa : Nat → Nat} {n j : Nat} {v : am_V} : ∀ {vs : List am_V} {i : Nat}, am_nth (am_exp vs ++ List.replicate n none) j = some (some v) → (i + j, am_en base sa v) ∈ lv_args i (vs.map (am_en base sa))
  | [], i, h => by
    simp only [am_exp, List.nil_append, am_nth_eq, List.getElem?_replicate] at h
    split at h <;> simp at h
  | u :: vs, i, h => by
    have hcase : am_cat u = 2 ∨ am_cat u = 1 := by rcases u with x | r | f | x <;> simp [am_cat]
    rcases hcase with hc | hc
    · have hu : ∃ x, u = amL x := by
        rcases u with x | r | f | x
        · simp [am_cat] at hc
        · simp [am_cat] at hc
        · simp [am_cat] at hc
        · exact ⟨x, rfl⟩
      obtain ⟨x, rfl⟩ := hu
      rw [List.map_cons, lv_args]
      cases j with
      | zero =>
        have h2 : v = amL x := by
          have h3 : some (some (amL x)) = some (some v) := h
          cases h3; rfl
        subst h2
        exact List.mem_cons_self
      | succ j =>
        cases j with
        | zero =>
          have h3 : (some none : Option (Option am_V)) = some (some v) := h
          cases h3
        | succ j =>
          refine List.mem_cons_of_mem _ ?_
          have h4 := am_lv_args (base := base) (sa := sa) (vs := vs) (i := i + 2) (j := j) h
          rw [show i + (j + 1 + 1) = i + 2 + j by omega]
          exact h4
    · have he : am_exp (u :: vs) = some u :: am_exp vs := by
        rcases u with x | r | f | x
        · rfl
        · rfl
        · rfl
        · simp [am_cat] at hc
      rw [he] at h
      rw [List.map_cons, lv_args, am_en_cat, hc, if_neg (by decide)]
      cases j with
      | zero =>
        have h3 : some (some u) = some (some v) := h
        cases h3
        exact List.mem_cons_self
      | succ j =>
        refine List.mem_cons_of_mem _ ?_
        have h4 := am_lv_args (base := base) (sa := sa) (vs := vs) (i := i + 1) (j := j) h
        rw [show i + (j + 1) = i + 1 + j by omega]
        exact h4
theorem am_exp_len {base : Nat} {sa : Nat → Nat} : ∀ (vs : List am_V), (lg_sl (vs.map (am_en base sa))).length = (am_exp vs).length
  | [] => rfl
  | u :: vs => by
    have h := am_exp_len (base := base) (sa := sa) vs
    rcases u with x | r | f | x
    · simp [lg_sl, am_exp, am_en, Value.category] at h ⊢; exact h
    · cases r
      · simp [lg_sl, am_exp, am_en, Value.category, va_rf] at h ⊢; exact h
      · simp [lg_sl, am_exp, am_en, Value.category, va_rf] at h ⊢; exact h
    · simp [lg_sl, am_exp, am_en, Value.category] at h ⊢; exact h
    · simp [lg_sl, am_exp, am_en, Value.category] at h ⊢; exact h
