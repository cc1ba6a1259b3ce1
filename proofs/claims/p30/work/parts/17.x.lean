/-! the world behind the constructors, and the steps as rows -/
def SH : List (Nat × Nat) := [(4, 0), (10, 60), (10, 9), (10, 9), (10, 60), (10, 180), (1, 0), (10, 360), (10, 6), (10, 6), (13, 4), (0, 0), (10, 30), (10, 30), (10, 30), (10, 30), (10, 30), (10, 60), (10, 60), (10, 60), (10, 60), (3, 0), (10, 60), (10, 60), (10, 60), (10, 60), (10, 60), (10, 60), (10, 30), (3, 0), (10, 60), (10, 60), (10, 60), (10, 60), (10, 60), (10, 60), (10, 30), (2, 0), (10, 60), (12, 60), (2, 0), (10, 60), (12, 60), (2, 0), (10, 60), (12, 60), (2, 0), (10, 60), (12, 60), (10, 62), (10, 9)]
def RFl : List (List (Option Nat)) := [[some 1, some 2, some 3, some 4, some 5, some 6, some 10, some 11, some 21, some 29], [], [], [], [], [], [some 7, some 8, some 9], [], [], [], [some 37, some 40, some 43, some 46], [some 12, some 13, some 14, some 15, some 16, some 17, some 18, some 19, some 20], [], [], [], [], [], [], [], [], [], [some 22, some 23, some 24, some 25, some 26, some 27, some 28], [], [], [], [], [], [], [], [some 30, some 31, some 32, some 33, some 34, some 35, some 36], [], [], [], [], [], [], [], [some 38, some 39], [], [], [some 41, some 42], [], [], [some 44, some 45], [], [], [some 47, some 48], [], [], [], []]
def RF : Nat → Nat → Option Nat := fun a i => match am_nth RFl a with
  | some l => (match am_nth l i with
    | some r => r
    | none => none)
  | none => none
abbrev GG : Type := Nat → Nat → Int
abbrev FF : Type := Nat → Nat → UInt32
abbrev mk (g : GG) (fl : FF) : am_M := (SH, g, fl, RF)
def RI (Q : Int → GG → FF → Prop) : am_Q := fun r m => ∃ x g fl, r = some (amI x) ∧ m = mk g fl ∧ Q x g fl
def RL (Q : Int64 → GG → FF → Prop) : am_Q := fun r m => ∃ x g fl, r = some (amL x) ∧ m = mk g fl ∧ Q x g fl
def RX (Q : UInt32 → GG → FF → Prop) : am_Q := fun r m => ∃ x g fl, r = some (amF x) ∧ m = mk g fl ∧ Q x g fl
def RA (Q : Option Nat → GG → FF → Prop) : am_Q := fun r m => ∃ x g fl, r = some (amA x) ∧ m = mk g fl ∧ Q x g fl
def RV (Q : GG → FF → Prop) : am_Q := fun r m => ∃ g fl, r = none ∧ m = mk g fl ∧ Q g fl
/-- method k at its entry with the arguments vs, at the world g fl -/
abbrev ent (E : am_E) (k : Nat) (vs : List am_V) (g : GG) (fl : FF) (Q : am_Q) : Prop := am_X E k (0, (0, 0), am_args vs (am_L k), [], mk g fl) Q
def cI (E : am_E) (k : Nat) (vs : List am_V) (g : GG) (fl : FF) (Q : Int → GG → FF → Prop) : Prop := ent E k vs g fl (RI Q)
def cL (E : am_E) (k : Nat) (vs : List am_V) (g : GG) (fl : FF) (Q : Int64 → GG → FF → Prop) : Prop := ent E k vs g fl (RL Q)
def cX (E : am_E) (k : Nat) (vs : List am_V) (g : GG) (fl : FF) (Q : UInt32 → GG → FF → Prop) : Prop := ent E k vs g fl (RX Q)
def cA (E : am_E) (k : Nat) (vs : List am_V) (g : GG) (fl : FF) (Q : Option Nat → GG → FF → Prop) : Prop := ent E k vs g fl (RA Q)
def cV (E : am_E) (k : Nat) (vs : List am_V) (g : GG) (fl : FF) (Q : GG → FF → Prop) : Prop := ent E k vs g fl (RV Q)
theorem cI_mono {E : am_E} {k : Nat} {vs : List am_V} {g : GG} {fl : FF} {Q Q' : Int → GG → FF → Prop} (h : cI E k vs g fl Q) (hQ : ∀ x g fl, Q x g fl → Q' x g fl) : cI E k vs g fl Q' :=
  am_X_mono E _ _ _ _ (fun _ _ ⟨x, g, fl, h1, h2, h3⟩ => ⟨x, g, fl, h1, h2, hQ _ _ _ h3⟩) h
theorem cV_mono {E : am_E} {k : Nat} {vs : List am_V} {g : GG} {fl : FF} {Q Q' : GG → FF → Prop} (h : cV E k vs g fl Q) (hQ : ∀ g fl, Q g fl → Q' g fl) : cV E k vs g fl Q' :=
  am_X_mono E _ _ _ _ (fun _ _ ⟨g, fl, h1, h2, h3⟩ => ⟨g, fl, h1, h2, hQ _ _ h3⟩) h
theorem cL_mono {E : am_E} {k : Nat} {vs : List am_V} {g : GG} {fl : FF} {Q Q' : Int64 → GG → FF → Prop} (h : cL E k vs g fl Q) (hQ : ∀ x g fl, Q x g fl → Q' x g fl) : cL E k vs g fl Q' :=
  am_X_mono E _ _ _ _ (fun _ _ ⟨x, g, fl, h1, h2, h3⟩ => ⟨x, g, fl, h1, h2, hQ _ _ _ h3⟩) h
theorem cX_mono {E : am_E} {k : Nat} {vs : List am_V} {g : GG} {fl : FF} {Q Q' : UInt32 → GG → FF → Prop} (h : cX E k vs g fl Q) (hQ : ∀ x g fl, Q x g fl → Q' x g fl) : cX E k vs g fl Q' :=
  am_X_mono E _ _ _ _ (fun _ _ ⟨x, g, fl, h1, h2, h3⟩ => ⟨x, g, fl, h1, h2, hQ _ _ _ h3⟩) h
theorem cA_mono {E : am_E} {k : Nat} {vs : List am_V} {g : GG} {fl : FF} {Q Q' : Option Nat → GG → FF → Prop} (h : cA E k vs g fl Q) (hQ : ∀ x g fl, Q x g fl → Q' x g fl) : cA E k vs g fl Q' :=
  am_X_mono E _ _ _ _ (fun _ _ ⟨x, g, fl, h1, h2, h3⟩ => ⟨x, g, fl, h1, h2, hQ _ _ _ h3⟩) h
theorem am_ref_0 : am_ref [] [] := trivial
theorem am_ref_n {w : Option am_V} {l l2 : am_LS} (h : am_ref l l2) : am_ref (none :: l) (w :: l2) := h
theorem am_ref_s {v : am_V} {l l2 : am_LS} (h : am_ref l l2) : am_ref (some v :: l) (some v :: l2) := ⟨rfl, h⟩
theorem x_forg {E : am_E} {k ip : Nat} {bd : Nat × Nat} {ls : am_LS} {st : List am_V} {m : am_M} {Q : am_Q} (ls0 : am_LS) (h : am_X E k (ip, bd, ls0, st, m) Q) (hr : am_ref ls0 ls) : am_X E k (ip, bd, ls, st, m) Q := am_X_forg E _ _ _ _ _ _ _ _ hr h
def b01 (P : Prop) [Decidable P] : Int := if P then 1 else 0
theorem b01_t {P : Prop} [Decidable P] (h : P) : b01 P = 1 := if_pos h
theorem b01_f {P : Prop} [Decidable P] (h : ¬ P) : b01 P = 0 := if_neg h
theorem b01_01 (P : Prop) [Decidable P] : b01 P = 0 ∨ b01 P = 1 := by
  by_cases h : P
  · exact Or.inr (b01_t h)
  · exact Or.inl (b01_f h)
def am_swP (P : Nat → Prop) (x : Int) (d : Nat) (lo : Int) : Int → List Nat → Prop
  | i, [] => ¬ (lo ≤ x ∧ x < i) → P d
  | i, t :: l => (x = i → P t) ∧ am_swP P x d lo (i + 1) l
theorem am_sw_cons {P : Nat → Prop} {x : Int} {d t : Nat} {lo i : Int} {l : List Nat} (h1 : x = i → P t) (h2 : am_swP P x d lo (i + 1) l) : am_swP P x d lo i (t :: l) := ⟨h1, h2⟩
theorem am_sw_nil {P : Nat → Prop} {x : Int} {d : Nat} {lo i : Int} (h : ¬ (lo ≤ x ∧ x < i) → P d) : am_swP P x d lo i [] := h
theorem am_sw_at {P : Nat → Prop} {x : Int} {d : Nat} {lo : Int} : ∀ {l : List Nat} {i : Int}, lo ≤ i → am_swP P x d lo i l → (∀ t, i ≤ x → am_nth l (x - i).toNat = some t → P t) ∧ ((¬ lo ≤ x ∨ (i ≤ x ∧ am_nth l (x - i).toNat = none)) → P d)
  | [], i, hi, h => ⟨fun t _ h2 => (by cases h2), fun h2 => h (by rcases h2 with h2 | h2 <;> omega)⟩
  | t :: l, i, hi, h => by
    obtain ⟨h3, h4⟩ := am_sw_at (l := l) (i := i + 1) (by omega) h.2
    constructor
    · intro t2 hx h5
      by_cases hxi : x = i
      · subst hxi
        rw [Int.sub_self] at h5
        cases h5
        exact h.1 rfl
      · refine h3 t2 (by omega) ?_
        rw [show (x - i).toNat = (x - (i + 1)).toNat + 1 by omega] at h5
        exact h5
    · intro h5
      refine h4 ?_
      rcases h5 with h5 | ⟨h5, h6⟩
      · exact Or.inl h5
      · refine Or.inr ⟨?_, ?_⟩
        · by_cases hxi : x = i
          · subst hxi
            rw [Int.sub_self] at h6
            cases h6
          · omega
        · by_cases hxi : x = i
          · subst hxi
            rw [Int.sub_self] at h6
            cases h6
          · rw [show (x - i).toNat = (x - (i + 1)).toNat + 1 by omega] at h6
            exact h6
theorem am_swI {P : Nat → Prop} {x : Int} {a d : Nat} {lo : Int} {tg : List Nat} {rest : List Int × Int × Nat} (hs : am_nth am_sws a = some (lo, tg, d, rest)) (h : am_swP P x d lo lo tg) : P (am_swt a x) := by
  obtain ⟨h1, h2⟩ := am_sw_at (Int.le_refl lo) h
  unfold am_swt
  simp only [hs]
  by_cases hl : lo ≤ x
  · rw [if_pos hl]
    cases hj : am_nth tg (x - lo).toNat with
    | none => exact h2 (Or.inr ⟨hl, hj⟩)
    | some t => exact h1 t hl hj
  · rw [if_neg hl]
    exact h2 (Or.inl hl)
section XR
variable {E : am_E} {k ip : Nat} {bd : Nat × Nat} {ls : am_LS} {st : List am_V} {m : am_M} {Q : am_Q} {c : List am_Row} {pc op a cp pl : Nat} {b : Int}
theorem xf {f : am_O} (hc : am_nth am_code k = some c) (hr : am_nth c ip = some (pc, op, a, b, cp, pl)) (hf : am_nth am_ops op = some f) (h : am_run (am_X E) k Q (f E a b ip bd ls st m)) : am_X E k (ip, bd, ls, st, m) Q := by
  refine am_X_fold ?_
  unfold am_step am_row
  simp only [hc, hr, hf]
  exact h
theorem x_null  (hc : am_nth am_code k = some c) (hr : am_nth c ip = some (pc, 0, a, b, cp, pl)) (h : am_X E k (ip + 1, bd, ls, amN :: st, m) Q) : am_X E k (ip, bd, ls, st, m) Q := xf hc hr rfl h
theorem x_const  (hc : am_nth am_code k = some c) (hr : am_nth c ip = some (pc, op, a, b, cp, pl)) (hf : am_nth am_ops op = some am_o1) (hg : am_rg b) (h : am_X E k (ip + 1, bd, ls, amI b :: st, m) Q) : am_X E k (ip, bd, ls, st, m) Q := xf hc hr hf ⟨hg, h⟩
theorem x_bi  (hc : am_nth am_code k = some c) (hr : am_nth c ip = some (pc, 2, a, b, cp, pl)) (hg : -128 ≤ b ∧ b ≤ 127) (h : am_X E k (ip + 1, bd, ls, amI b :: st, m) Q) : am_X E k (ip, bd, ls, st, m) Q := xf hc hr rfl ⟨hg, h⟩
theorem x_si  (hc : am_nth am_code k = some c) (hr : am_nth c ip = some (pc, 3, a, b, cp, pl)) (hg : -32768 ≤ b ∧ b ≤ 32767) (h : am_X E k (ip + 1, bd, ls, amI b :: st, m) Q) : am_X E k (ip, bd, ls, st, m) Q := xf hc hr rfl ⟨hg, h⟩
theorem x_f0  (hc : am_nth am_code k = some c) (hr : am_nth c ip = some (pc, 5, a, b, cp, pl)) (h : am_X E k (ip + 1, bd, ls, amF FP.fconst0 :: st, m) Q) : am_X E k (ip, bd, ls, st, m) Q := xf hc hr rfl h
theorem x_f1  (hc : am_nth am_code k = some c) (hr : am_nth c ip = some (pc, 6, a, b, cp, pl)) (h : am_X E k (ip + 1, bd, ls, amF FP.fconst1 :: st, m) Q) : am_X E k (ip, bd, ls, st, m) Q := xf hc hr rfl h
theorem x_f2  (hc : am_nth am_code k = some c) (hr : am_nth c ip = some (pc, 7, a, b, cp, pl)) (h : am_X E k (ip + 1, bd, ls, amF FP.fconst2 :: st, m) Q) : am_X E k (ip, bd, ls, st, m) Q := xf hc hr rfl h
theorem x_ldf  (hc : am_nth am_code k = some c) (hr : am_nth c ip = some (pc, 8, a, b, cp, pl)) (h : am_X E k (ip + 1, bd, ls, amF (UInt32.ofNat a) :: st, m) Q) : am_X E k (ip, bd, ls, st, m) Q := xf hc hr rfl h
theorem x_ldl  (hc : am_nth am_code k = some c) (hr : am_nth c ip = some (pc, 9, a, b, cp, pl)) (h : am_X E k (ip + 1, bd, ls, amL (Int64.ofInt b) :: st, m) Q) : am_X E k (ip, bd, ls, st, m) Q := xf hc hr rfl h
theorem x_il {x : Int} (hc : am_nth am_code k = some c) (hr : am_nth c ip = some (pc, 10, a, b, cp, pl)) (hl : am_nth ls a = some (some (amI x))) (h : am_X E k (ip + 1, bd, ls, amI x :: st, m) Q) : am_X E k (ip, bd, ls, st, m) Q := xf hc hr rfl (by unfold am_o10; rw [hl]; exact h)
theorem x_ll {x : Int64} (hc : am_nth am_code k = some c) (hr : am_nth c ip = some (pc, 11, a, b, cp, pl)) (hl : am_nth ls a = some (some (amL x))) (h : am_X E k (ip + 1, bd, ls, amL x :: st, m) Q) : am_X E k (ip, bd, ls, st, m) Q := xf hc hr rfl (by unfold am_o11; rw [hl]; exact h)
theorem x_fl {x : UInt32} (hc : am_nth am_code k = some c) (hr : am_nth c ip = some (pc, 12, a, b, cp, pl)) (hl : am_nth ls a = some (some (amF x))) (h : am_X E k (ip + 1, bd, ls, amF x :: st, m) Q) : am_X E k (ip, bd, ls, st, m) Q := xf hc hr rfl (by unfold am_o12; rw [hl]; exact h)
theorem x_al {x : Option Nat} (hc : am_nth am_code k = some c) (hr : am_nth c ip = some (pc, 13, a, b, cp, pl)) (hl : am_nth ls a = some (some (amA x))) (h : am_X E k (ip + 1, bd, ls, amA x :: st, m) Q) : am_X E k (ip, bd, ls, st, m) Q := xf hc hr rfl (by unfold am_o13; rw [hl]; exact h)
theorem x_is {x : Int} (ls2 : am_LS) (hc : am_nth am_code k = some c) (hr : am_nth c ip = some (pc, 14, a, b, cp, pl)) (ho : am_okp ls a = true) (hl : am_put ls a (some (amI x)) = ls2) (h : am_X E k (ip + 1, bd, ls2, st, m) Q) : am_X E k (ip, bd, ls, amI x :: st, m) Q := xf hc hr rfl (by unfold am_o14; subst hl; simp only [ho]; exact h)
theorem x_fs {x : UInt32} (ls2 : am_LS) (hc : am_nth am_code k = some c) (hr : am_nth c ip = some (pc, 16, a, b, cp, pl)) (ho : am_okp ls a = true) (hl : am_put ls a (some (amF x)) = ls2) (h : am_X E k (ip + 1, bd, ls2, st, m) Q) : am_X E k (ip, bd, ls, amF x :: st, m) Q := xf hc hr rfl (by unfold am_o16; subst hl; simp only [ho]; exact h)
theorem x_as {x : Option Nat} (ls2 : am_LS) (hc : am_nth am_code k = some c) (hr : am_nth c ip = some (pc, 17, a, b, cp, pl)) (ho : am_okp ls a = true) (hl : am_put ls a (some (amA x)) = ls2) (h : am_X E k (ip + 1, bd, ls2, st, m) Q) : am_X E k (ip, bd, ls, amA x :: st, m) Q := xf hc hr rfl (by unfold am_o17; subst hl; simp only [ho]; exact h)
theorem x_ls {x : Int64} (ls2 : am_LS) (hc : am_nth am_code k = some c) (hr : am_nth c ip = some (pc, 15, a, b, cp, pl)) (ho : am_okp ls a = true) (hl : am_put (am_put ls a (some (amL x))) (a + 1) none = ls2) (h : am_X E k (ip + 1, bd, ls2, st, m) Q) : am_X E k (ip, bd, ls, amL x :: st, m) Q := xf hc hr rfl (by unfold am_o15; subst hl; simp only [ho]; exact h)
theorem x_inc {x : Int} (ls2 : am_LS) (hc : am_nth am_code k = some c) (hr : am_nth c ip = some (pc, 18, a, b, cp, pl)) (hx : am_nth ls a = some (some (amI x))) (ho : am_okp ls a = true) (hl : am_put ls a (some (amI (x + b))) = ls2) (hg : am_rg (x + b)) (h : am_X E k (ip + 1, bd, ls2, st, m) Q) : am_X E k (ip, bd, ls, st, m) Q := xf hc hr rfl (by unfold am_o18; subst hl; rw [hx]; simp only [ho]; exact ⟨hg, h⟩)
theorem x_add {x y : Int} (hc : am_nth am_code k = some c) (hr : am_nth c ip = some (pc, 19, a, b, cp, pl)) (hg : am_rg (x + y)) (h : am_X E k (ip + 1, bd, ls, amI (x + y) :: st, m) Q) : am_X E k (ip, bd, ls, amI y :: amI x :: st, m) Q := xf hc hr rfl ⟨hg, h⟩
theorem x_sub {x y : Int} (hc : am_nth am_code k = some c) (hr : am_nth c ip = some (pc, 20, a, b, cp, pl)) (hg : am_rg (x - y)) (h : am_X E k (ip + 1, bd, ls, amI (x - y) :: st, m) Q) : am_X E k (ip, bd, ls, amI y :: amI x :: st, m) Q := xf hc hr rfl ⟨hg, h⟩
theorem x_mul {x y : Int} (hc : am_nth am_code k = some c) (hr : am_nth c ip = some (pc, 21, a, b, cp, pl)) (hg : am_rg (x * y)) (h : am_X E k (ip + 1, bd, ls, amI (x * y) :: st, m) Q) : am_X E k (ip, bd, ls, amI y :: amI x :: st, m) Q := xf hc hr rfl ⟨hg, h⟩
theorem x_div {x y : Int} (hc : am_nth am_code k = some c) (hr : am_nth c ip = some (pc, 22, a, b, cp, pl)) (hg : 0 ≤ x ∧ 0 < y) (h : am_X E k (ip + 1, bd, ls, amI (x / y) :: st, m) Q) : am_X E k (ip, bd, ls, amI y :: amI x :: st, m) Q := xf hc hr rfl ⟨hg, h⟩
theorem x_rem {x y : Int} (hc : am_nth am_code k = some c) (hr : am_nth c ip = some (pc, 23, a, b, cp, pl)) (hg : 0 ≤ x ∧ 0 < y) (h : am_X E k (ip + 1, bd, ls, amI (x % y) :: st, m) Q) : am_X E k (ip, bd, ls, amI y :: amI x :: st, m) Q := xf hc hr rfl ⟨hg, h⟩
theorem x_neg {x : Int} (hc : am_nth am_code k = some c) (hr : am_nth c ip = some (pc, 24, a, b, cp, pl)) (hg : am_rg (-x)) (h : am_X E k (ip + 1, bd, ls, amI (-x) :: st, m) Q) : am_X E k (ip, bd, ls, amI x :: st, m) Q := xf hc hr rfl ⟨hg, h⟩
theorem x_and {x y : Int} (hc : am_nth am_code k = some c) (hr : am_nth c ip = some (pc, 25, a, b, cp, pl)) (h : am_X E k (ip + 1, bd, ls, amI (am_and x y) :: st, m) Q) : am_X E k (ip, bd, ls, amI y :: amI x :: st, m) Q := xf hc hr rfl h
theorem x_or {x y : Int} (hc : am_nth am_code k = some c) (hr : am_nth c ip = some (pc, 26, a, b, cp, pl)) (h : am_X E k (ip + 1, bd, ls, amI (am_or x y) :: st, m) Q) : am_X E k (ip, bd, ls, amI y :: amI x :: st, m) Q := xf hc hr rfl h
theorem x_shl {x y : Int} (hc : am_nth am_code k = some c) (hr : am_nth c ip = some (pc, 27, a, b, cp, pl)) (h : am_X E k (ip + 1, bd, ls, amI (am_shl x y) :: st, m) Q) : am_X E k (ip, bd, ls, amI y :: amI x :: st, m) Q := xf hc hr rfl h
theorem x_shr {x y : Int} (hc : am_nth am_code k = some c) (hr : am_nth c ip = some (pc, 90, a, b, cp, pl)) (h : am_X E k (ip + 1, bd, ls, amI (am_shr x y) :: st, m) Q) : am_X E k (ip, bd, ls, amI y :: amI x :: st, m) Q := xf hc hr rfl h
theorem x_i2b {x : Int} (hc : am_nth am_code k = some c) (hr : am_nth c ip = some (pc, 28, a, b, cp, pl)) (h : am_X E k (ip + 1, bd, ls, amI (am_i2b x) :: st, m) Q) : am_X E k (ip, bd, ls, amI x :: st, m) Q := xf hc hr rfl h
theorem x_i2l {x : Int} (hc : am_nth am_code k = some c) (hr : am_nth c ip = some (pc, 29, a, b, cp, pl)) (h : am_X E k (ip + 1, bd, ls, amL (am_i2l x) :: st, m) Q) : am_X E k (ip, bd, ls, amI x :: st, m) Q := xf hc hr rfl h
theorem x_i2f {x : Int} (hc : am_nth am_code k = some c) (hr : am_nth c ip = some (pc, 30, a, b, cp, pl)) (h : am_X E k (ip + 1, bd, ls, amF (am_i2f x) :: st, m) Q) : am_X E k (ip, bd, ls, amI x :: st, m) Q := xf hc hr rfl h
theorem x_f2i {x : UInt32} (hc : am_nth am_code k = some c) (hr : am_nth c ip = some (pc, 31, a, b, cp, pl)) (h : am_X E k (ip + 1, bd, ls, amI (am_f2i x) :: st, m) Q) : am_X E k (ip, bd, ls, amF x :: st, m) Q := xf hc hr rfl h
theorem x_ladd {x y : Int64} (hc : am_nth am_code k = some c) (hr : am_nth c ip = some (pc, 32, a, b, cp, pl)) (h : am_X E k (ip + 1, bd, ls, amL (x + y) :: st, m) Q) : am_X E k (ip, bd, ls, amL y :: amL x :: st, m) Q := xf hc hr rfl h
theorem x_lmul {x y : Int64} (hc : am_nth am_code k = some c) (hr : am_nth c ip = some (pc, 33, a, b, cp, pl)) (h : am_X E k (ip + 1, bd, ls, amL (x * y) :: st, m) Q) : am_X E k (ip, bd, ls, amL y :: amL x :: st, m) Q := xf hc hr rfl h
theorem x_lcmp {x y : Int64} (hc : am_nth am_code k = some c) (hr : am_nth c ip = some (pc, 34, a, b, cp, pl)) (h : am_X E k (ip + 1, bd, ls, amI (am_lcm x y) :: st, m) Q) : am_X E k (ip, bd, ls, amL y :: amL x :: st, m) Q := xf hc hr rfl h
theorem x_fmul {x y : UInt32} (hc : am_nth am_code k = some c) (hr : am_nth c ip = some (pc, 35, a, b, cp, pl)) (hg : vf_n32 (FP.fmul x y)) (h : am_X E k (ip + 1, bd, ls, amF (FP.fmul x y) :: st, m) Q) : am_X E k (ip, bd, ls, amF y :: amF x :: st, m) Q := xf hc hr rfl ⟨hg, h⟩
theorem x_fdiv {x y : UInt32} (hc : am_nth am_code k = some c) (hr : am_nth c ip = some (pc, 36, a, b, cp, pl)) (hg : vf_n32 (FP.fdiv x y)) (h : am_X E k (ip + 1, bd, ls, amF (FP.fdiv x y) :: st, m) Q) : am_X E k (ip, bd, ls, amF y :: amF x :: st, m) Q := xf hc hr rfl ⟨hg, h⟩
theorem x_fsub {x y : UInt32} (hc : am_nth am_code k = some c) (hr : am_nth c ip = some (pc, 37, a, b, cp, pl)) (hg : vf_n32 (FP.fsub x y)) (h : am_X E k (ip + 1, bd, ls, amF (FP.fsub x y) :: st, m) Q) : am_X E k (ip, bd, ls, amF y :: amF x :: st, m) Q := xf hc hr rfl ⟨hg, h⟩
theorem x_fcmp {x y : UInt32} (opx : CmpOp) (hc : am_nth am_code k = some c) (hr : am_nth c ip = some (pc, 38, a, b, cp, pl)) (ho : (if a = 0 then CmpOp.l else CmpOp.g) = opx) (h : am_X E k (ip + 1, bd, ls, amI (am_fcm opx x y) :: st, m) Q) : am_X E k (ip, bd, ls, amF y :: amF x :: st, m) Q := xf hc hr rfl (by subst ho; exact h)
theorem x_goto  (hc : am_nth am_code k = some c) (hr : am_nth c ip = some (pc, 39, a, b, cp, pl)) (h : am_X E k (a, bd, ls, st, m) Q) : am_X E k (ip, bd, ls, st, m) Q := xf hc hr rfl h
theorem x_eq {x : Int} (hc : am_nth am_code k = some c) (hr : am_nth c ip = some (pc, 40, a, b, cp, pl)) (h1 : x = 0 → am_X E k (a, bd, ls, st, m) Q) (h2 : ¬ x = 0 → am_X E k (ip + 1, bd, ls, st, m) Q) : am_X E k (ip, bd, ls, amI x :: st, m) Q := xf hc hr rfl ⟨h1, h2⟩
theorem x_ne {x : Int} (hc : am_nth am_code k = some c) (hr : am_nth c ip = some (pc, 41, a, b, cp, pl)) (h1 : x = 0 → am_X E k (ip + 1, bd, ls, st, m) Q) (h2 : ¬ x = 0 → am_X E k (a, bd, ls, st, m) Q) : am_X E k (ip, bd, ls, amI x :: st, m) Q := xf hc hr rfl ⟨h1, h2⟩
theorem x_lt {x : Int} (hc : am_nth am_code k = some c) (hr : am_nth c ip = some (pc, 42, a, b, cp, pl)) (h1 : x < 0 → am_X E k (a, bd, ls, st, m) Q) (h2 : ¬ x < 0 → am_X E k (ip + 1, bd, ls, st, m) Q) : am_X E k (ip, bd, ls, amI x :: st, m) Q := xf hc hr rfl ⟨h1, h2⟩
theorem x_ge {x : Int} (hc : am_nth am_code k = some c) (hr : am_nth c ip = some (pc, 43, a, b, cp, pl)) (h1 : x < 0 → am_X E k (ip + 1, bd, ls, st, m) Q) (h2 : ¬ x < 0 → am_X E k (a, bd, ls, st, m) Q) : am_X E k (ip, bd, ls, amI x :: st, m) Q := xf hc hr rfl ⟨h1, h2⟩
theorem x_gt {x : Int} (hc : am_nth am_code k = some c) (hr : am_nth c ip = some (pc, 44, a, b, cp, pl)) (h1 : 0 < x → am_X E k (a, bd, ls, st, m) Q) (h2 : ¬ 0 < x → am_X E k (ip + 1, bd, ls, st, m) Q) : am_X E k (ip, bd, ls, amI x :: st, m) Q := xf hc hr rfl ⟨h1, h2⟩
theorem x_le {x : Int} (hc : am_nth am_code k = some c) (hr : am_nth c ip = some (pc, 45, a, b, cp, pl)) (h1 : 0 < x → am_X E k (ip + 1, bd, ls, st, m) Q) (h2 : ¬ 0 < x → am_X E k (a, bd, ls, st, m) Q) : am_X E k (ip, bd, ls, amI x :: st, m) Q := xf hc hr rfl ⟨h1, h2⟩
theorem x_ieq {x y : Int} (hc : am_nth am_code k = some c) (hr : am_nth c ip = some (pc, 46, a, b, cp, pl)) (h1 : x = y → am_X E k (a, bd, ls, st, m) Q) (h2 : ¬ x = y → am_X E k (ip + 1, bd, ls, st, m) Q) : am_X E k (ip, bd, ls, amI y :: amI x :: st, m) Q := xf hc hr rfl ⟨h1, h2⟩
theorem x_ine {x y : Int} (hc : am_nth am_code k = some c) (hr : am_nth c ip = some (pc, 47, a, b, cp, pl)) (h1 : x = y → am_X E k (ip + 1, bd, ls, st, m) Q) (h2 : ¬ x = y → am_X E k (a, bd, ls, st, m) Q) : am_X E k (ip, bd, ls, amI y :: amI x :: st, m) Q := xf hc hr rfl ⟨h1, h2⟩
theorem x_ilt {x y : Int} (hc : am_nth am_code k = some c) (hr : am_nth c ip = some (pc, 48, a, b, cp, pl)) (h1 : x < y → am_X E k (a, bd, ls, st, m) Q) (h2 : ¬ x < y → am_X E k (ip + 1, bd, ls, st, m) Q) : am_X E k (ip, bd, ls, amI y :: amI x :: st, m) Q := xf hc hr rfl ⟨h1, h2⟩
theorem x_ige {x y : Int} (hc : am_nth am_code k = some c) (hr : am_nth c ip = some (pc, 49, a, b, cp, pl)) (h1 : x < y → am_X E k (ip + 1, bd, ls, st, m) Q) (h2 : ¬ x < y → am_X E k (a, bd, ls, st, m) Q) : am_X E k (ip, bd, ls, amI y :: amI x :: st, m) Q := xf hc hr rfl ⟨h1, h2⟩
theorem x_igt {x y : Int} (hc : am_nth am_code k = some c) (hr : am_nth c ip = some (pc, 50, a, b, cp, pl)) (h1 : y < x → am_X E k (a, bd, ls, st, m) Q) (h2 : ¬ y < x → am_X E k (ip + 1, bd, ls, st, m) Q) : am_X E k (ip, bd, ls, amI y :: amI x :: st, m) Q := xf hc hr rfl ⟨h1, h2⟩
theorem x_ile {x y : Int} (hc : am_nth am_code k = some c) (hr : am_nth c ip = some (pc, 51, a, b, cp, pl)) (h1 : y < x → am_X E k (ip + 1, bd, ls, st, m) Q) (h2 : ¬ y < x → am_X E k (a, bd, ls, st, m) Q) : am_X E k (ip, bd, ls, amI y :: amI x :: st, m) Q := xf hc hr rfl ⟨h1, h2⟩
theorem x_nullN  (hc : am_nth am_code k = some c) (hr : am_nth c ip = some (pc, 52, a, b, cp, pl)) (h : am_X E k (a, bd, ls, st, m) Q) : am_X E k (ip, bd, ls, amN :: st, m) Q := xf hc hr rfl h
theorem x_nullR {q : Nat} (hc : am_nth am_code k = some c) (hr : am_nth c ip = some (pc, 52, a, b, cp, pl)) (h : am_X E k (ip + 1, bd, ls, st, m) Q) : am_X E k (ip, bd, ls, amR q :: st, m) Q := xf hc hr rfl h
theorem x_nnullN  (hc : am_nth am_code k = some c) (hr : am_nth c ip = some (pc, 53, a, b, cp, pl)) (h : am_X E k (ip + 1, bd, ls, st, m) Q) : am_X E k (ip, bd, ls, amN :: st, m) Q := xf hc hr rfl h
theorem x_nnullR {q : Nat} (hc : am_nth am_code k = some c) (hr : am_nth c ip = some (pc, 53, a, b, cp, pl)) (h : am_X E k (a, bd, ls, st, m) Q) : am_X E k (ip, bd, ls, amR q :: st, m) Q := xf hc hr rfl h
theorem x_sw {x : Int} (hc : am_nth am_code k = some c) (hr : am_nth c ip = some (pc, 54, a, b, cp, pl)) (h : am_X E k (am_swt a x, bd, ls, st, m) Q) : am_X E k (ip, bd, ls, amI x :: st, m) Q := xf hc hr rfl h
theorem x_getI {q n : Nat} (v : Int) (hc : am_nth am_code k = some c) (hr : am_nth c ip = some (pc, op, a, b, cp, pl)) (hf : am_nth am_ops op = some am_o55) (ht : am_tag m q a = some n) (hk : am_fk a b.toNat ≠ 1) (hv : m.2.1 q b.toNat = v) (h : am_X E k (ip + 1, bd, ls, amI v :: st, m) Q) : am_X E k (ip, bd, ls, amR q :: st, m) Q := xf hc hr hf (by unfold am_o55; simp only [ht]; subst hv; first | exact h | (split; (· rename_i h9; exact absurd h9 hk); exact h))
theorem x_getA {q n : Nat} (v : Option Nat) (hc : am_nth am_code k = some c) (hr : am_nth c ip = some (pc, op, a, b, cp, pl)) (hf : am_nth am_ops op = some am_o55) (ht : am_tag m q a = some n) (hk : am_fk a b.toNat = 1) (hv : m.2.2.2 q b.toNat = v) (h : am_X E k (ip + 1, bd, ls, amA v :: st, m) Q) : am_X E k (ip, bd, ls, amR q :: st, m) Q := xf hc hr hf (by unfold am_o55; simp only [ht]; rw [hk]; subst hv; exact h)
theorem x_gets {q : Nat} (hc : am_nth am_code k = some c) (hr : am_nth c ip = some (pc, 60, a, b, cp, pl)) (hq : 1000 + a = q) (h : am_X E k (ip + 1, bd, ls, amR q :: st, m) Q) : am_X E k (ip, bd, ls, st, m) Q := xf hc hr rfl (by subst hq; exact h)
theorem x_ial {q n : Nat} {j : Int} {f : Nat → Int} (v : Int) (hc : am_nth am_code k = some c) (hr : am_nth c ip = some (pc, 61, a, b, cp, pl)) (ht : am_arr E m q = some (n, f)) (hv : f j.toNat = v) (hj : 0 ≤ j ∧ j < n) (h : am_X E k (ip + 1, bd, ls, amI v :: st, m) Q) : am_X E k (ip, bd, ls, amI j :: amR q :: st, m) Q := xf hc hr rfl (by unfold am_o61; simp only [ht]; subst hv; exact ⟨hj, h⟩)
theorem x_fal {q n : Nat} {j : Int} (hc : am_nth am_code k = some c) (hr : am_nth c ip = some (pc, 65, a, b, cp, pl)) (ht : am_tag m q 12 = some n) (hj : 0 ≤ j ∧ j < n) (h : am_X E k (ip + 1, bd, ls, amF (m.2.2.1 q j.toNat) :: st, m) Q) : am_X E k (ip, bd, ls, amI j :: amR q :: st, m) Q := xf hc hr rfl (by unfold am_o65; simp only [ht]; exact ⟨hj, h⟩)
theorem x_len {q : Nat} (n : Nat) (hc : am_nth am_code k = some c) (hr : am_nth c ip = some (pc, 67, a, b, cp, pl)) (ht : am_alen E m q = some n) (hn : n < 2147483648) (h : am_X E k (ip + 1, bd, ls, amI n :: st, m) Q) : am_X E k (ip, bd, ls, amR q :: st, m) Q := xf hc hr rfl (by unfold am_o67; simp only [ht]; exact ⟨hn, h⟩)
theorem x_aal {q n : Nat} {j : Int} (v : Option Nat) (hc : am_nth am_code k = some c) (hr : am_nth c ip = some (pc, 68, a, b, cp, pl)) (ht : am_tag m q 13 = some n) (hv : m.2.2.2 q j.toNat = v) (hj : 0 ≤ j ∧ j < n) (h : am_X E k (ip + 1, bd, ls, amA v :: st, m) Q) : am_X E k (ip, bd, ls, amI j :: amR q :: st, m) Q := xf hc hr rfl (by unfold am_o68; simp only [ht]; subst hv; exact ⟨hj, h⟩)
theorem x_min {x y : Int} (hc : am_nth am_code k = some c) (hr : am_nth c ip = some (pc, 77, a, b, cp, pl)) (hs : Nat.ble (am_cats st) 8 = true) (h : am_X E k (ip + 1, bd, ls, amI (if y < x then y else x) :: st, m) Q) : am_X E k (ip, bd, ls, amI y :: amI x :: st, m) Q := xf hc hr rfl (by unfold am_o77; simp only [hs]; exact h)
theorem x_max {x y : Int} (hc : am_nth am_code k = some c) (hr : am_nth c ip = some (pc, 78, a, b, cp, pl)) (hs : Nat.ble (am_cats st) 8 = true) (h : am_X E k (ip + 1, bd, ls, amI (if x < y then y else x) :: st, m) Q) : am_X E k (ip, bd, ls, amI y :: amI x :: st, m) Q := xf hc hr rfl (by unfold am_o78; simp only [hs]; exact h)
theorem x_dup {v : am_V} (hc : am_nth am_code k = some c) (hr : am_nth c ip = some (pc, 85, a, b, cp, pl)) (hs : Nat.beq (am_cat v) 1 = true) (h : am_X E k (ip + 1, bd, ls, v :: v :: st, m) Q) : am_X E k (ip, bd, ls, v :: st, m) Q := xf hc hr rfl (by unfold am_o85; simp only [hs]; exact h)
theorem x_pop {v : am_V} (hc : am_nth am_code k = some c) (hr : am_nth c ip = some (pc, 86, a, b, cp, pl)) (hs : Nat.beq (am_cat v) 1 = true) (h : am_X E k (ip + 1, bd, ls, st, m) Q) : am_X E k (ip, bd, ls, v :: st, m) Q := xf hc hr rfl (by unfold am_o86; simp only [hs]; exact h)
variable {g : GG} {fl : FF}
theorem x_putI {q n : Nat} {x : Int} (fi : Nat) (hc : am_nth am_code k = some c) (hr : am_nth c ip = some (pc, op, a, b, cp, pl)) (hf : am_nth am_ops op = some am_o57) (ht : am_tag (mk g fl) q a = some n) (hk : am_fk a b.toNat = 0) (hi : b.toNat = fi) (h : ∀ g2, g2 = am_up g q fi x → am_X E k (ip + 1, bd, ls, st, mk g2 fl) Q) : am_X E k (ip, bd, ls, amI x :: amR q :: st, mk g fl) Q := xf hc hr hf (by unfold am_o57; subst hi; simp only [ht]; rw [hk]; exact h _ rfl)
theorem x_putZ {q n : Nat} {x : Int} (fi : Nat) (hc : am_nth am_code k = some c) (hr : am_nth c ip = some (pc, op, a, b, cp, pl)) (hf : am_nth am_ops op = some am_o57) (ht : am_tag (mk g fl) q a = some n) (hk : am_fk a b.toNat = 2) (hi : b.toNat = fi) (hz : x = 0 ∨ x = 1) (h : ∀ g2, g2 = am_up g q fi x → am_X E k (ip + 1, bd, ls, st, mk g2 fl) Q) : am_X E k (ip, bd, ls, amI x :: amR q :: st, mk g fl) Q := xf hc hr hf (by unfold am_o57; subst hi; simp only [ht]; rw [hk]; exact ⟨hz, h _ rfl⟩)
theorem x_ias {q n : Nat} {j x : Int} (hc : am_nth am_code k = some c) (hr : am_nth c ip = some (pc, 62, a, b, cp, pl)) (i : Nat) (ht : am_tag (mk g fl) q 10 = some n) (hi : j.toNat = i) (hj : 0 ≤ j ∧ j < n) (h : ∀ g2, g2 = am_up g q i x → am_X E k (ip + 1, bd, ls, st, mk g2 fl) Q) : am_X E k (ip, bd, ls, amI x :: amI j :: amR q :: st, mk g fl) Q := xf hc hr rfl (by unfold am_o62; subst hi; simp only [ht]; exact ⟨hj, h _ rfl⟩)
theorem x_fas {q n : Nat} {j : Int} {x : UInt32} (hc : am_nth am_code k = some c) (hr : am_nth c ip = some (pc, 66, a, b, cp, pl)) (ht : am_tag (mk g fl) q 12 = some n) (hj : 0 ≤ j ∧ j < n) (h : ∀ f2, f2 = am_up fl q j.toNat x → am_X E k (ip + 1, bd, ls, st, mk g f2) Q) : am_X E k (ip, bd, ls, amF x :: amI j :: amR q :: st, mk g fl) Q := xf hc hr rfl (by unfold am_o66; simp only [ht]; exact ⟨hj, h _ rfl⟩)
theorem x_iret {x : Int} {R : Int → GG → FF → Prop} (hc : am_nth am_code k = some c) (hr : am_nth c ip = some (pc, 79, a, b, cp, pl)) (h : R x g fl) : am_X E k (ip, (0, 0), ls, [amI x], mk g fl) (RI R) := xf hc hr rfl ⟨trivial, x, g, fl, rfl, rfl, h⟩
theorem x_zret {x : Int} {R : Int → GG → FF → Prop} (hc : am_nth am_code k = some c) (hr : am_nth c ip = some (pc, 84, a, b, cp, pl)) (hz : x = 0 ∨ x = 1) (h : R x g fl) : am_X E k (ip, (0, 0), ls, [amI x], mk g fl) (RI R) := xf hc hr rfl ⟨hz, x, g, fl, rfl, rfl, h⟩
theorem x_lret {x : Int64} {R : Int64 → GG → FF → Prop} (hc : am_nth am_code k = some c) (hr : am_nth c ip = some (pc, 80, a, b, cp, pl)) (h : R x g fl) : am_X E k (ip, (0, 0), ls, [amL x], mk g fl) (RL R) := xf hc hr rfl ⟨trivial, x, g, fl, rfl, rfl, h⟩
theorem x_fret {x : UInt32} {R : UInt32 → GG → FF → Prop} (hc : am_nth am_code k = some c) (hr : am_nth c ip = some (pc, 81, a, b, cp, pl)) (h : R x g fl) : am_X E k (ip, (0, 0), ls, [amF x], mk g fl) (RX R) := xf hc hr rfl ⟨trivial, x, g, fl, rfl, rfl, h⟩
theorem x_aret {x : Option Nat} {R : Option Nat → GG → FF → Prop} (hc : am_nth am_code k = some c) (hr : am_nth c ip = some (pc, 82, a, b, cp, pl)) (h : R x g fl) : am_X E k (ip, (0, 0), ls, [amA x], mk g fl) (RA R) := xf hc hr rfl ⟨trivial, x, g, fl, rfl, rfl, h⟩
theorem x_vret {R : GG → FF → Prop} (hc : am_nth am_code k = some c) (hr : am_nth c ip = some (pc, 83, a, b, cp, pl)) (h : R g fl) : am_X E k (ip, (0, 0), ls, [], mk g fl) (RV R) := xf hc hr rfl ⟨trivial, g, fl, rfl, rfl, h⟩
theorem x_scI {vs st2 : List am_V} (hc : am_nth am_code k = some c) (hr : am_nth c ip = some (pc, op, a, b, cp, pl)) (hf : am_nth am_ops op = some am_o72) (hp : am_pop (am_na a) [] st = some (vs, st2)) (hb : am_fits bd a st2 vs = true) (h0 : am_bud a = (0, 0))
    (h : cI E a vs g fl (fun x g fl => am_X E k (ip + 1, bd, ls, amI x :: st2, mk g fl) Q)) : am_X E k (ip, bd, ls, st, mk g fl) Q := by
  refine xf hc hr hf ?_
  unfold am_o72
  simp only [hp, hb]
  have h1 : am_b1 a = 0 := congrArg Prod.fst h0
  have h2 : am_b2 a = 0 := congrArg Prod.snd h0
  show am_X E a (0, am_bud a, _, [], _) _
  rw [h0, h1, h2]
  exact am_X_mono E _ _ _ _ (fun r m ⟨x, g, fl, h1, h2, h3⟩ => by subst h1; subst h2; exact h3) h
theorem x_vcI {q n : Nat} {vs st2 : List am_V} (hc : am_nth am_code k = some c) (hr : am_nth c ip = some (pc, op, a, b, cp, pl)) (hf : am_nth am_ops op = some am_o70) (hp : am_pop (am_na a) [] st = some (vs, amR q :: st2)) (ht : am_tag (mk g fl) q (am_own a) = some n) (hb : am_fits bd a st2 (amR q :: vs) = true) (h0 : am_bud a = (0, 0))
    (h : cI E a (amR q :: vs) g fl (fun x g fl => am_X E k (ip + 1, bd, ls, amI x :: st2, mk g fl) Q)) : am_X E k (ip, bd, ls, st, mk g fl) Q := by
  refine xf hc hr hf ?_
  unfold am_o70
  simp only [hp, ht, hb]
  have h1 : am_b1 a = 0 := congrArg Prod.fst h0
  have h2 : am_b2 a = 0 := congrArg Prod.snd h0
  show am_X E a (0, am_bud a, _, [], _) _
  rw [h0, h1, h2]
  exact am_X_mono E _ _ _ _ (fun r m ⟨x, g, fl, h1, h2, h3⟩ => by subst h1; subst h2; exact h3) h
theorem x_scL {vs st2 : List am_V} (hc : am_nth am_code k = some c) (hr : am_nth c ip = some (pc, op, a, b, cp, pl)) (hf : am_nth am_ops op = some am_o72) (hp : am_pop (am_na a) [] st = some (vs, st2)) (hb : am_fits bd a st2 vs = true) (h0 : am_bud a = (0, 0))
    (h : cL E a vs g fl (fun x g fl => am_X E k (ip + 1, bd, ls, amL x :: st2, mk g fl) Q)) : am_X E k (ip, bd, ls, st, mk g fl) Q := by
  refine xf hc hr hf ?_
  unfold am_o72
  simp only [hp, hb]
  have h1 : am_b1 a = 0 := congrArg Prod.fst h0
  have h2 : am_b2 a = 0 := congrArg Prod.snd h0
  show am_X E a (0, am_bud a, _, [], _) _
  rw [h0, h1, h2]
  exact am_X_mono E _ _ _ _ (fun r m ⟨x, g, fl, h1, h2, h3⟩ => by subst h1; subst h2; exact h3) h
theorem x_vcL {q n : Nat} {vs st2 : List am_V} (hc : am_nth am_code k = some c) (hr : am_nth c ip = some (pc, op, a, b, cp, pl)) (hf : am_nth am_ops op = some am_o70) (hp : am_pop (am_na a) [] st = some (vs, amR q :: st2)) (ht : am_tag (mk g fl) q (am_own a) = some n) (hb : am_fits bd a st2 (amR q :: vs) = true) (h0 : am_bud a = (0, 0))
    (h : cL E a (amR q :: vs) g fl (fun x g fl => am_X E k (ip + 1, bd, ls, amL x :: st2, mk g fl) Q)) : am_X E k (ip, bd, ls, st, mk g fl) Q := by
  refine xf hc hr hf ?_
  unfold am_o70
  simp only [hp, ht, hb]
  have h1 : am_b1 a = 0 := congrArg Prod.fst h0
  have h2 : am_b2 a = 0 := congrArg Prod.snd h0
  show am_X E a (0, am_bud a, _, [], _) _
  rw [h0, h1, h2]
  exact am_X_mono E _ _ _ _ (fun r m ⟨x, g, fl, h1, h2, h3⟩ => by subst h1; subst h2; exact h3) h
theorem x_scX {vs st2 : List am_V} (hc : am_nth am_code k = some c) (hr : am_nth c ip = some (pc, op, a, b, cp, pl)) (hf : am_nth am_ops op = some am_o72) (hp : am_pop (am_na a) [] st = some (vs, st2)) (hb : am_fits bd a st2 vs = true) (h0 : am_bud a = (0, 0))
    (h : cX E a vs g fl (fun x g fl => am_X E k (ip + 1, bd, ls, amF x :: st2, mk g fl) Q)) : am_X E k (ip, bd, ls, st, mk g fl) Q := by
  refine xf hc hr hf ?_
  unfold am_o72
  simp only [hp, hb]
  have h1 : am_b1 a = 0 := congrArg Prod.fst h0
  have h2 : am_b2 a = 0 := congrArg Prod.snd h0
  show am_X E a (0, am_bud a, _, [], _) _
  rw [h0, h1, h2]
  exact am_X_mono E _ _ _ _ (fun r m ⟨x, g, fl, h1, h2, h3⟩ => by subst h1; subst h2; exact h3) h
theorem x_vcX {q n : Nat} {vs st2 : List am_V} (hc : am_nth am_code k = some c) (hr : am_nth c ip = some (pc, op, a, b, cp, pl)) (hf : am_nth am_ops op = some am_o70) (hp : am_pop (am_na a) [] st = some (vs, amR q :: st2)) (ht : am_tag (mk g fl) q (am_own a) = some n) (hb : am_fits bd a st2 (amR q :: vs) = true) (h0 : am_bud a = (0, 0))
    (h : cX E a (amR q :: vs) g fl (fun x g fl => am_X E k (ip + 1, bd, ls, amF x :: st2, mk g fl) Q)) : am_X E k (ip, bd, ls, st, mk g fl) Q := by
  refine xf hc hr hf ?_
  unfold am_o70
  simp only [hp, ht, hb]
  have h1 : am_b1 a = 0 := congrArg Prod.fst h0
  have h2 : am_b2 a = 0 := congrArg Prod.snd h0
  show am_X E a (0, am_bud a, _, [], _) _
  rw [h0, h1, h2]
  exact am_X_mono E _ _ _ _ (fun r m ⟨x, g, fl, h1, h2, h3⟩ => by subst h1; subst h2; exact h3) h
theorem x_scA {vs st2 : List am_V} (hc : am_nth am_code k = some c) (hr : am_nth c ip = some (pc, op, a, b, cp, pl)) (hf : am_nth am_ops op = some am_o72) (hp : am_pop (am_na a) [] st = some (vs, st2)) (hb : am_fits bd a st2 vs = true) (h0 : am_bud a = (0, 0))
    (h : cA E a vs g fl (fun x g fl => am_X E k (ip + 1, bd, ls, amA x :: st2, mk g fl) Q)) : am_X E k (ip, bd, ls, st, mk g fl) Q := by
  refine xf hc hr hf ?_
  unfold am_o72
  simp only [hp, hb]
  have h1 : am_b1 a = 0 := congrArg Prod.fst h0
  have h2 : am_b2 a = 0 := congrArg Prod.snd h0
  show am_X E a (0, am_bud a, _, [], _) _
  rw [h0, h1, h2]
  exact am_X_mono E _ _ _ _ (fun r m ⟨x, g, fl, h1, h2, h3⟩ => by subst h1; subst h2; exact h3) h
theorem x_vcA {q n : Nat} {vs st2 : List am_V} (hc : am_nth am_code k = some c) (hr : am_nth c ip = some (pc, op, a, b, cp, pl)) (hf : am_nth am_ops op = some am_o70) (hp : am_pop (am_na a) [] st = some (vs, amR q :: st2)) (ht : am_tag (mk g fl) q (am_own a) = some n) (hb : am_fits bd a st2 (amR q :: vs) = true) (h0 : am_bud a = (0, 0))
    (h : cA E a (amR q :: vs) g fl (fun x g fl => am_X E k (ip + 1, bd, ls, amA x :: st2, mk g fl) Q)) : am_X E k (ip, bd, ls, st, mk g fl) Q := by
  refine xf hc hr hf ?_
  unfold am_o70
  simp only [hp, ht, hb]
  have h1 : am_b1 a = 0 := congrArg Prod.fst h0
  have h2 : am_b2 a = 0 := congrArg Prod.snd h0
  show am_X E a (0, am_bud a, _, [], _) _
  rw [h0, h1, h2]
  exact am_X_mono E _ _ _ _ (fun r m ⟨x, g, fl, h1, h2, h3⟩ => by subst h1; subst h2; exact h3) h
theorem x_scV {vs st2 : List am_V} (hc : am_nth am_code k = some c) (hr : am_nth c ip = some (pc, op, a, b, cp, pl)) (hf : am_nth am_ops op = some am_o72) (hp : am_pop (am_na a) [] st = some (vs, st2)) (hb : am_fits bd a st2 vs = true) (h0 : am_bud a = (0, 0))
    (h : cV E a vs g fl (fun g fl => am_X E k (ip + 1, bd, ls, st2, mk g fl) Q)) : am_X E k (ip, bd, ls, st, mk g fl) Q := by
  refine xf hc hr hf ?_
  unfold am_o72
  simp only [hp, hb]
  have h1 : am_b1 a = 0 := congrArg Prod.fst h0
  have h2 : am_b2 a = 0 := congrArg Prod.snd h0
  show am_X E a (0, am_bud a, _, [], _) _
  rw [h0, h1, h2]
  exact am_X_mono E _ _ _ _ (fun r m ⟨g, fl, h1, h2, h3⟩ => by subst h1; subst h2; exact h3) h
theorem x_vcV {q n : Nat} {vs st2 : List am_V} (hc : am_nth am_code k = some c) (hr : am_nth c ip = some (pc, op, a, b, cp, pl)) (hf : am_nth am_ops op = some am_o70) (hp : am_pop (am_na a) [] st = some (vs, amR q :: st2)) (ht : am_tag (mk g fl) q (am_own a) = some n) (hb : am_fits bd a st2 (amR q :: vs) = true) (h0 : am_bud a = (0, 0))
    (h : cV E a (amR q :: vs) g fl (fun g fl => am_X E k (ip + 1, bd, ls, st2, mk g fl) Q)) : am_X E k (ip, bd, ls, st, mk g fl) Q := by
  refine xf hc hr hf ?_
  unfold am_o70
  simp only [hp, ht, hb]
  have h1 : am_b1 a = 0 := congrArg Prod.fst h0
  have h2 : am_b2 a = 0 := congrArg Prod.snd h0
  show am_X E a (0, am_bud a, _, [], _) _
  rw [h0, h1, h2]
  exact am_X_mono E _ _ _ _ (fun r m ⟨g, fl, h1, h2, h3⟩ => by subst h1; subst h2; exact h3) h
theorem x_eqB {P : Prop} [Decidable P] (hc : am_nth am_code k = some c) (hr : am_nth c ip = some (pc, 40, a, b, cp, pl)) (h1 : P → am_X E k (ip + 1, bd, ls, st, m) Q) (h2 : ¬ P → am_X E k (a, bd, ls, st, m) Q) : am_X E k (ip, bd, ls, amI (b01 P) :: st, m) Q :=
  x_eq hc hr (fun h => h2 (fun p => by simp [b01, p] at h)) (fun h => h1 (Decidable.byContradiction fun p => h (by simp [b01, p])))
theorem x_neB {P : Prop} [Decidable P] (hc : am_nth am_code k = some c) (hr : am_nth c ip = some (pc, 41, a, b, cp, pl)) (h1 : P → am_X E k (a, bd, ls, st, m) Q) (h2 : ¬ P → am_X E k (ip + 1, bd, ls, st, m) Q) : am_X E k (ip, bd, ls, amI (b01 P) :: st, m) Q :=
  x_ne hc hr (fun h => h2 (fun p => by simp [b01, p] at h)) (fun h => h1 (Decidable.byContradiction fun p => h (by simp [b01, p])))
theorem x_b1p {P : Prop} [Decidable P] (hp : P) (h : am_X E k (ip, bd, ls, amI (b01 P) :: st, m) Q) : am_X E k (ip, bd, ls, amI 1 :: st, m) Q := by rwa [b01_t hp] at h
theorem x_b1n {P : Prop} [Decidable P] (hp : ¬ P) (h : am_X E k (ip, bd, ls, amI (b01 P) :: st, m) Q) : am_X E k (ip, bd, ls, amI 0 :: st, m) Q := by rwa [b01_f hp] at h
theorem x_b0p {P : Prop} [Decidable P] (hp : P) (h : am_X E k (ip, bd, ls, amI (b01 (¬ P)) :: st, m) Q) : am_X E k (ip, bd, ls, amI 0 :: st, m) Q := by rwa [b01_f (fun n => n hp)] at h
theorem x_b0n {P : Prop} [Decidable P] (hp : ¬ P) (h : am_X E k (ip, bd, ls, amI (b01 (¬ P)) :: st, m) Q) : am_X E k (ip, bd, ls, amI 1 :: st, m) Q := by rwa [b01_t hp] at h
theorem x_ifp {P : Prop} [Decidable P] {x y : Int} (hp : P) (h : am_X E k (ip, bd, ls, amI (if P then x else y) :: st, m) Q) : am_X E k (ip, bd, ls, amI x :: st, m) Q := by rwa [if_pos hp] at h
theorem x_ifn {P : Prop} [Decidable P] {x y : Int} (hp : ¬ P) (h : am_X E k (ip, bd, ls, amI (if P then x else y) :: st, m) Q) : am_X E k (ip, bd, ls, amI y :: st, m) Q := by rwa [if_neg hp] at h
end XR
theorem cc0 : am_nth am_code 0 = some am_c0 := by rfl
theorem cc1 : am_nth am_code 1 = some am_c1 := by rfl
theorem cc2 : am_nth am_code 2 = some am_c2 := by rfl
theorem cc3 : am_nth am_code 3 = some am_c3 := by rfl
theorem cc4 : am_nth am_code 4 = some am_c4 := by rfl
theorem cc5 : am_nth am_code 5 = some am_c5 := by rfl
theorem cc6 : am_nth am_code 6 = some am_c6 := by rfl
theorem cc7 : am_nth am_code 7 = some am_c7 := by rfl
theorem cc8 : am_nth am_code 8 = some am_c8 := by rfl
theorem cc9 : am_nth am_code 9 = some am_c9 := by rfl
theorem cc10 : am_nth am_code 10 = some am_c10 := by rfl
theorem cc11 : am_nth am_code 11 = some am_c11 := by rfl
theorem cc12 : am_nth am_code 12 = some am_c12 := by rfl
theorem cc13 : am_nth am_code 13 = some am_c13 := by rfl
theorem cc14 : am_nth am_code 14 = some am_c14 := by rfl
theorem cc15 : am_nth am_code 15 = some am_c15 := by rfl
theorem cc16 : am_nth am_code 16 = some am_c16 := by rfl
theorem cc17 : am_nth am_code 17 = some am_c17 := by rfl
theorem cc18 : am_nth am_code 18 = some am_c18 := by rfl
theorem cc19 : am_nth am_code 19 = some am_c19 := by rfl
theorem cc20 : am_nth am_code 20 = some am_c20 := by rfl
theorem cc21 : am_nth am_code 21 = some am_c21 := by rfl
theorem cc22 : am_nth am_code 22 = some am_c22 := by rfl
theorem cc23 : am_nth am_code 23 = some am_c23 := by rfl
theorem cc24 : am_nth am_code 24 = some am_c24 := by rfl
theorem cc25 : am_nth am_code 25 = some am_c25 := by rfl
theorem cc26 : am_nth am_code 26 = some am_c26 := by rfl
theorem cc27 : am_nth am_code 27 = some am_c27 := by rfl
theorem cc28 : am_nth am_code 28 = some am_c28 := by rfl
theorem cc29 : am_nth am_code 29 = some am_c29 := by rfl
theorem cc30 : am_nth am_code 30 = some am_c30 := by rfl
theorem cc31 : am_nth am_code 31 = some am_c31 := by rfl
theorem cc32 : am_nth am_code 32 = some am_c32 := by rfl
theorem cc33 : am_nth am_code 33 = some am_c33 := by rfl
theorem cc34 : am_nth am_code 34 = some am_c34 := by rfl
theorem cc35 : am_nth am_code 35 = some am_c35 := by rfl
theorem cc36 : am_nth am_code 36 = some am_c36 := by rfl
theorem cc37 : am_nth am_code 37 = some am_c37 := by rfl
theorem cc38 : am_nth am_code 38 = some am_c38 := by rfl
theorem cc39 : am_nth am_code 39 = some am_c39 := by rfl
theorem cc40 : am_nth am_code 40 = some am_c40 := by rfl
theorem cc41 : am_nth am_code 41 = some am_c41 := by rfl
theorem cc42 : am_nth am_code 42 = some am_c42 := by rfl
theorem cc43 : am_nth am_code 43 = some am_c43 := by rfl
theorem cc44 : am_nth am_code 44 = some am_c44 := by rfl
theorem cc45 : am_nth am_code 45 = some am_c45 := by rfl
theorem cc46 : am_nth am_code 46 = some am_c46 := by rfl
theorem cc47 : am_nth am_code 47 = some am_c47 := by rfl
theorem cc48 : am_nth am_code 48 = some am_c48 := by rfl
theorem cc49 : am_nth am_code 49 = some am_c49 := by rfl
theorem cc50 : am_nth am_code 50 = some am_c50 := by rfl
theorem cc51 : am_nth am_code 51 = some am_c51 := by rfl
theorem cc52 : am_nth am_code 52 = some am_c52 := by rfl
theorem cc53 : am_nth am_code 53 = some am_c53 := by rfl
theorem cc54 : am_nth am_code 54 = some am_c54 := by rfl
theorem cc55 : am_nth am_code 55 = some am_c55 := by rfl
theorem cc56 : am_nth am_code 56 = some am_c56 := by rfl
theorem cc57 : am_nth am_code 57 = some am_c57 := by rfl
theorem cc58 : am_nth am_code 58 = some am_c58 := by rfl
theorem cc59 : am_nth am_code 59 = some am_c59 := by rfl
theorem cc60 : am_nth am_code 60 = some am_c60 := by rfl
theorem cc61 : am_nth am_code 61 = some am_c61 := by rfl
theorem cc62 : am_nth am_code 62 = some am_c62 := by rfl
theorem cc63 : am_nth am_code 63 = some am_c63 := by rfl
theorem cc64 : am_nth am_code 64 = some am_c64 := by rfl
theorem cc65 : am_nth am_code 65 = some am_c65 := by rfl
theorem cc66 : am_nth am_code 66 = some am_c66 := by rfl
theorem cc67 : am_nth am_code 67 = some am_c67 := by rfl
theorem cc68 : am_nth am_code 68 = some am_c68 := by rfl
theorem cc69 : am_nth am_code 69 = some am_c69 := by rfl
theorem cc70 : am_nth am_code 70 = some am_c70 := by rfl
theorem cc71 : am_nth am_code 71 = some am_c71 := by rfl
theorem cc72 : am_nth am_code 72 = some am_c72 := by rfl
theorem cc73 : am_nth am_code 73 = some am_c73 := by rfl
theorem cc74 : am_nth am_code 74 = some am_c74 := by rfl
theorem cc75 : am_nth am_code 75 = some am_c75 := by rfl
theorem cc76 : am_nth am_code 76 = some am_c76 := by rfl
theorem cc77 : am_nth am_code 77 = some am_c77 := by rfl
theorem cc78 : am_nth am_code 78 = some am_c78 := by rfl
theorem cc79 : am_nth am_code 79 = some am_c79 := by rfl
theorem cc80 : am_nth am_code 80 = some am_c80 := by rfl
theorem cc81 : am_nth am_code 81 = some am_c81 := by rfl
theorem cc82 : am_nth am_code 82 = some am_c82 := by rfl
theorem cc83 : am_nth am_code 83 = some am_c83 := by rfl
theorem cc84 : am_nth am_code 84 = some am_c84 := by rfl
theorem cc85 : am_nth am_code 85 = some am_c85 := by rfl
theorem cc86 : am_nth am_code 86 = some am_c86 := by rfl
theorem cc87 : am_nth am_code 87 = some am_c87 := by rfl
theorem cc88 : am_nth am_code 88 = some am_c88 := by rfl
theorem cc89 : am_nth am_code 89 = some am_c89 := by rfl
theorem cc90 : am_nth am_code 90 = some am_c90 := by rfl
theorem cc91 : am_nth am_code 91 = some am_c91 := by rfl
theorem cc92 : am_nth am_code 92 = some am_c92 := by rfl
theorem cc93 : am_nth am_code 93 = some am_c93 := by rfl
theorem cc94 : am_nth am_code 94 = some am_c94 := by rfl
theorem cc95 : am_nth am_code 95 = some am_c95 := by rfl
theorem cc96 : am_nth am_code 96 = some am_c96 := by rfl
theorem cc97 : am_nth am_code 97 = some am_c97 := by rfl
theorem cc98 : am_nth am_code 98 = some am_c98 := by rfl
theorem cc99 : am_nth am_code 99 = some am_c99 := by rfl
theorem cc100 : am_nth am_code 100 = some am_c100 := by rfl
theorem cc101 : am_nth am_code 101 = some am_c101 := by rfl
theorem cc102 : am_nth am_code 102 = some am_c102 := by rfl
theorem cc103 : am_nth am_code 103 = some am_c103 := by rfl
theorem cc104 : am_nth am_code 104 = some am_c104 := by rfl
theorem cc105 : am_nth am_code 105 = some am_c105 := by rfl
theorem cc106 : am_nth am_code 106 = some am_c106 := by rfl
theorem cc107 : am_nth am_code 107 = some am_c107 := by rfl
theorem cc108 : am_nth am_code 108 = some am_c108 := by rfl
theorem cc109 : am_nth am_code 109 = some am_c109 := by rfl
theorem cc110 : am_nth am_code 110 = some am_c110 := by rfl
theorem cc111 : am_nth am_code 111 = some am_c111 := by rfl
theorem cc112 : am_nth am_code 112 = some am_c112 := by rfl
theorem cc113 : am_nth am_code 113 = some am_c113 := by rfl
theorem cc114 : am_nth am_code 114 = some am_c114 := by rfl
theorem cc115 : am_nth am_code 115 = some am_c115 := by rfl
theorem cc116 : am_nth am_code 116 = some am_c116 := by rfl
theorem cc117 : am_nth am_code 117 = some am_c117 := by rfl
theorem cc118 : am_nth am_code 118 = some am_c118 := by rfl
theorem cc119 : am_nth am_code 119 = some am_c119 := by rfl
theorem cc120 : am_nth am_code 120 = some am_c120 := by rfl
theorem cc121 : am_nth am_code 121 = some am_c121 := by rfl
theorem cc122 : am_nth am_code 122 = some am_c122 := by rfl
theorem cc123 : am_nth am_code 123 = some am_c123 := by rfl
theorem cc124 : am_nth am_code 124 = some am_c124 := by rfl
theorem cc125 : am_nth am_code 125 = some am_c125 := by rfl
theorem cc126 : am_nth am_code 126 = some am_c126 := by rfl
theorem cc127 : am_nth am_code 127 = some am_c127 := by rfl
theorem cc128 : am_nth am_code 128 = some am_c128 := by rfl
theorem cc129 : am_nth am_code 129 = some am_c129 := by rfl
theorem cc130 : am_nth am_code 130 = some am_c130 := by rfl
theorem cc131 : am_nth am_code 131 = some am_c131 := by rfl
theorem cc132 : am_nth am_code 132 = some am_c132 := by rfl
theorem cc133 : am_nth am_code 133 = some am_c133 := by rfl
theorem cc134 : am_nth am_code 134 = some am_c134 := by rfl
theorem cc135 : am_nth am_code 135 = some am_c135 := by rfl
theorem cc136 : am_nth am_code 136 = some am_c136 := by rfl
theorem cc137 : am_nth am_code 137 = some am_c137 := by rfl
theorem cc138 : am_nth am_code 138 = some am_c138 := by rfl
theorem cc139 : am_nth am_code 139 = some am_c139 := by rfl
theorem cc140 : am_nth am_code 140 = some am_c140 := by rfl
theorem cc141 : am_nth am_code 141 = some am_c141 := by rfl
theorem cc142 : am_nth am_code 142 = some am_c142 := by rfl
theorem cc143 : am_nth am_code 143 = some am_c143 := by rfl
theorem cc144 : am_nth am_code 144 = some am_c144 := by rfl
theorem cc145 : am_nth am_code 145 = some am_c145 := by rfl
theorem cc146 : am_nth am_code 146 = some am_c146 := by rfl
theorem cc147 : am_nth am_code 147 = some am_c147 := by rfl
theorem cc148 : am_nth am_code 148 = some am_c148 := by rfl
theorem cc149 : am_nth am_code 149 = some am_c149 := by rfl
theorem cc150 : am_nth am_code 150 = some am_c150 := by rfl
theorem cc151 : am_nth am_code 151 = some am_c151 := by rfl
theorem cc152 : am_nth am_code 152 = some am_c152 := by rfl
theorem cc153 : am_nth am_code 153 = some am_c153 := by rfl
theorem cc154 : am_nth am_code 154 = some am_c154 := by rfl
theorem cc155 : am_nth am_code 155 = some am_c155 := by rfl
theorem cc156 : am_nth am_code 156 = some am_c156 := by rfl
theorem cc157 : am_nth am_code 157 = some am_c157 := by rfl
theorem cc158 : am_nth am_code 158 = some am_c158 := by rfl
theorem cc159 : am_nth am_code 159 = some am_c159 := by rfl
theorem cc160 : am_nth am_code 160 = some am_c160 := by rfl
theorem cc161 : am_nth am_code 161 = some am_c161 := by rfl
theorem cc162 : am_nth am_code 162 = some am_c162 := by rfl
theorem cc163 : am_nth am_code 163 = some am_c163 := by rfl
theorem cc164 : am_nth am_code 164 = some am_c164 := by rfl
theorem cc165 : am_nth am_code 165 = some am_c165 := by rfl
theorem cc166 : am_nth am_code 166 = some am_c166 := by rfl
theorem cc167 : am_nth am_code 167 = some am_c167 := by rfl
theorem cc168 : am_nth am_code 168 = some am_c168 := by rfl
theorem cc169 : am_nth am_code 169 = some am_c169 := by rfl
theorem cc170 : am_nth am_code 170 = some am_c170 := by rfl
theorem cc171 : am_nth am_code 171 = some am_c171 := by rfl
theorem cc172 : am_nth am_code 172 = some am_c172 := by rfl
theorem cc173 : am_nth am_code 173 = some am_c173 := by rfl
theorem cc174 : am_nth am_code 174 = some am_c174 := by rfl
theorem cc175 : am_nth am_code 175 = some am_c175 := by rfl
theorem cc176 : am_nth am_code 176 = some am_c176 := by rfl
theorem cc177 : am_nth am_code 177 = some am_c177 := by rfl
theorem cc178 : am_nth am_code 178 = some am_c178 := by rfl
theorem cc179 : am_nth am_code 179 = some am_c179 := by rfl
theorem cc180 : am_nth am_code 180 = some am_c180 := by rfl
