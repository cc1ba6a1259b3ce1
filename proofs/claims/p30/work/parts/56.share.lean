/-! shares of whole numbers as floats, bit by bit -/
def shX (a b : Nat) : UInt32 := FP.fdiv (am_i2f (a : Int)) (am_i2f (b : Int))
def okN (x : UInt32) : Bool := decide (x &&& 0x7fffffff ≤ 0x7f800000)
def shM (x : UInt32) : Int := am_f2i (FP.fmul (FP.fsub x FP.fconst1) (UInt32.ofNat 1258291200))
def shG : Nat → UInt32 → Int → Option Int
  | 0, _, _ => none
  | f + 1, x, e =>
    if am_fcm .g x FP.fconst1 < 0 then (if okN (FP.fmul x FP.fconst2) = true then shG f (FP.fmul x FP.fconst2) (e + (-1)) else none)
    else if okN (FP.fsub x FP.fconst1) = true ∧ okN (FP.fmul (FP.fsub x FP.fconst1) (UInt32.ofNat 1258291200)) = true ∧ am_or (am_shl e 23) (shM x) = am_shl e 23 + shM x ∧ -2147483648 ≤ am_shl e 23 + shM x ∧ am_shl e 23 + shM x ≤ 2147483647 then some (am_shl e 23 + shM x) else none
def shOK (a b : Nat) : Bool := okN (shX a b) && (if a = 0 then decide (am_fcm .l (shX a b) FP.fconst0 = 0) else (!decide (am_fcm .l (shX a b) FP.fconst0 = 0) && (shG 8 (shX a b) 127).isSome))
def shAll (lo : Nat) : Bool := (List.range 10).all (fun i => (List.range (lo + i + 2)).all (fun a => shOK a (lo + i + 1)))
theorem sh0 : shAll 0 = true := by decide +kernel
theorem sh1 : shAll 10 = true := by decide +kernel
theorem sh2 : shAll 20 = true := by decide +kernel
theorem sh3 : shAll 30 = true := by decide +kernel
theorem sh4 : shAll 40 = true := by decide +kernel
theorem sh5 : shAll 50 = true := by decide +kernel
theorem shAll_at {lo a b : Nat} (h : shAll lo = true) (h1 : lo < b) (h2 : b ≤ lo + 10) (ha : a ≤ b) : shOK a b = true := by
  unfold shAll at h
  have h3 := List.all_eq_true.1 h (b - lo - 1) (List.mem_range.2 (by omega))
  have h4 := List.all_eq_true.1 h3 a (List.mem_range.2 (by omega))
  rw [show lo + (b - lo - 1) + 1 = b by omega] at h4
  exact h4
theorem sh_ok {a b : Nat} (h1 : 0 < b) (h2 : b ≤ 60) (ha : a ≤ b) : shOK a b = true := by
  rcases (show b ≤ 10 ∨ (10 < b ∧ b ≤ 20) ∨ (20 < b ∧ b ≤ 30) ∨ (30 < b ∧ b ≤ 40) ∨ (40 < b ∧ b ≤ 50) ∨ 50 < b by omega) with h | h | h | h | h | h
  · exact shAll_at sh0 (by omega) (by omega) ha
  · exact shAll_at sh1 (by omega) (by omega) ha
  · exact shAll_at sh2 (by omega) (by omega) ha
  · exact shAll_at sh3 (by omega) (by omega) ha
  · exact shAll_at sh4 (by omega) (by omega) ha
  · exact shAll_at sh5 (by omega) (by omega) ha
theorem okN_n {x : UInt32} (h : okN x = true) : vf_n32 x := by
  unfold okN at h
  have h2 : x &&& 0x7fffffff ≤ 0x7f800000 := of_decide_eq_true h
  exact h2
def shV (a b : Nat) : Int := if 0 < a ∧ 0 < b then (match shG 8 (shX a b) 127 with
  | some v => v
  | none => 0) else 0
