/-! floats that are no NaN -/
def magOK (k : Nat) : Prop := k % 2147483648 ≤ 2139095040
theorem nn_iff {r : UInt32} : vf_n32 r ↔ magOK r.toNat := by
  unfold vf_n32 magOK
  rw [UInt32.le_iff_toNat_le, UInt32.toNat_and, show (0x7fffffff : UInt32).toNat = 2 ^ 31 - 1 from rfl, Nat.and_two_pow_sub_one_eq_mod]
  exact Iff.rfl
theorem ofNat_mag {k : Nat} (h : magOK k) : magOK (UInt32.ofNat k).toNat := by
  rw [UInt32.toNat_ofNat']
  unfold magOK at h ⊢
  omega
theorem as_ok {s : Bool} {e t : Nat} (he : e ≤ 254) (ht : t < 8388608) : magOK (FP.Core.assemble FP.Core.b32 s e t) := by
  show ((s.toNat * 256 + e) * 8388608 + t) % 2147483648 ≤ 2139095040
  have := Bool.toNat_le s
  omega
theorem enc_fin {s : Bool} {c : Nat} {q : Int} (hc : c < 16777216) (hq : q ≤ 104) : magOK (FP.Core.encode FP.Core.b32 (.fin s c q)) := by
  show magOK (if c < 8388608 then FP.Core.assemble FP.Core.b32 s 0 c else FP.Core.assemble FP.Core.b32 s ((q - (-149)).toNat + 1) (c - 8388608))
  split
  · exact as_ok (by omega) (by omega)
  · exact as_ok (by omega) (by omega)
theorem enc_inf {s : Bool} : magOK (FP.Core.encode FP.Core.b32 (.inf s)) := by
  show ((s.toNat * 256 + 255) * 8388608 + 0) % 2147483648 ≤ 2139095040
  have := Bool.toNat_le s
  omega
theorem enc_bound {s : Bool} {c : Nat} {q : Int} (hc : c < 16777216) : magOK (FP.Core.encode FP.Core.b32 (FP.Core.bound FP.Core.b32 s c q)) := by
  show magOK (FP.Core.encode FP.Core.b32 (if q ≤ 104 then .fin s c q else .inf s))
  split
  · exact enc_fin hc (by omega)
  · exact enc_inf
theorem enc_rr {s : Bool} {num den : Nat} {e : Int} : magOK (FP.Core.encode FP.Core.b32 (FP.Core.roundRatio FP.Core.b32 s num den e)) := by
  unfold FP.Core.roundRatio
  split
  · exact enc_fin (c := 0) (q := FP.Core.b32.qmin) (by omega) (by decide)
  · unfold FP.Core.roundAt FP.Core.settle
    split
    · rename_i h
      exact enc_bound h
    · exact enc_bound (show (8388608 : Nat) < 16777216 by omega)
theorem dec_ne {k : Nat} (h : magOK k) : FP.Core.decode FP.Core.b32 k ≠ .nan := by
  intro hd
  have h1 : (if k / 8388608 % 256 = 255 then (if k % 8388608 = 0 then FP.Core.Datum.inf (FP.Core.fieldS FP.Core.b32 k) else .nan) else if k / 8388608 % 256 = 0 then .fin (FP.Core.fieldS FP.Core.b32 k) (FP.Core.fieldT FP.Core.b32 k) FP.Core.b32.qmin else .fin (FP.Core.fieldS FP.Core.b32 k) (FP.Core.b32.tails + FP.Core.fieldT FP.Core.b32 k) (FP.Core.b32.qmin + ((FP.Core.fieldE FP.Core.b32 k : Int) - 1))) = .nan := hd
  unfold magOK at h
  split at h1
  · split at h1
    · cases h1
    · omega
  · split at h1
    · cases h1
    · cases h1
theorem div_ok {x y : UInt32} {t : Bool} {d : Nat} {r : Int} (hx : vf_n32 x) (hy : FP.Core.decode FP.Core.b32 y.toNat = .fin t d r) (hd : d ≠ 0) : vf_n32 (FP.fdiv x y) := by
  rw [nn_iff] at hx ⊢
  refine ofNat_mag ?_
  unfold FP.Core.div
  rw [hy]
  have hn := dec_ne hx
  cases hc : FP.Core.decode FP.Core.b32 x.toNat with
  | nan => exact absurd hc hn
  | inf s => exact enc_inf
  | fin s c q =>
    show magOK (FP.Core.encode FP.Core.b32 (if d = 0 then (if c = 0 then .nan else .inf (s != t)) else FP.Core.roundRatio FP.Core.b32 (s != t) c d (q - r)))
    rw [if_neg hd]
    exact enc_rr
theorem mul_ok {x y : UInt32} {t : Bool} {d : Nat} {r : Int} (hx : vf_n32 x) (hy : FP.Core.decode FP.Core.b32 y.toNat = .fin t d r) (hd : d ≠ 0) : vf_n32 (FP.fmul y x) := by
  rw [nn_iff] at hx ⊢
  refine ofNat_mag ?_
  unfold FP.Core.mul
  rw [hy]
  have hn := dec_ne hx
  cases hc : FP.Core.decode FP.Core.b32 x.toNat with
  | nan => exact absurd hc hn
  | inf s =>
    show magOK (FP.Core.encode FP.Core.b32 (FP.Core.round FP.Core.b32 (if d = 0 then .nan else .inf (t != s))))
    rw [if_neg hd]
    exact enc_inf
  | fin s c q => exact enc_rr
theorem i2f_ok {v : Int} : vf_n32 (am_i2f v) := by
  rw [nn_iff]
  exact ofNat_mag enc_rr
theorem dec8 : FP.Core.decode FP.Core.b32 (UInt32.ofNat 1090519040).toNat = .fin false 8388608 (-20) := by decide +kernel
theorem i2f8 : am_i2f 8 = UInt32.ofNat 1090519040 := by decide +kernel
theorem div8_ok {v : Int} : vf_n32 (FP.fdiv (am_i2f v) (UInt32.ofNat 1090519040)) ∧ okM (FP.fdiv (am_i2f v) (UInt32.ofNat 1090519040)) :=
  ⟨div_ok i2f_ok dec8 (by decide), mul_ok (div_ok i2f_ok dec8 (by decide)) dec8 (by decide)⟩
theorem ok0 : okM FP.fconst0 := mul_ok (nn_iff.2 (show magOK (FP.fconst0).toNat from by unfold magOK; decide +kernel)) dec8 (by decide)
def wrOK (h m : Nat) : Bool := okN (FP.fdiv (am_i2f (h : Int)) (am_i2f (m : Int))) && okN (FP.fmul (UInt32.ofNat 1090519040) (FP.fdiv (am_i2f (h : Int)) (am_i2f (m : Int))))
theorem wr_all : (List.range 3).all (fun h => (List.range 4).all (fun m => wrOK h (m + 1))) = true := by decide +kernel
theorem wr_ok {h m : Nat} (hh : h ≤ 2) (hm : 1 ≤ m) (hm4 : m ≤ 4) : vf_n32 (FP.fdiv (am_i2f (h : Int)) (am_i2f (m : Int))) ∧ okM (FP.fdiv (am_i2f (h : Int)) (am_i2f (m : Int))) := by
  have h1 := List.all_eq_true.1 wr_all h (List.mem_range.2 (by omega))
  have h2 := List.all_eq_true.1 h1 (m - 1) (List.mem_range.2 (by omega))
  rw [show m - 1 + 1 = m by omega] at h2
  obtain ⟨a, b⟩ := Bool.and_eq_true_iff.mp h2
  exact ⟨okN_n a, okN_n b⟩
/-- whole numbers cut to a byte -/
theorem i2b_in {x : Int} : -128 ≤ am_i2b x ∧ am_i2b x ≤ 127 := by
  unfold am_i2b
  rw [Int8.toInt_toInt32]
  have h1 := Int8.le_toInt (Int32.ofInt x).toInt8
  have h2 := Int8.toInt_lt (Int32.ofInt x).toInt8
  omega
def i2bOK (i : Nat) : Bool := decide (am_i2b (i : Int) = i)
theorem i2b_all : (List.range 3).all (fun i => i2bOK i) = true := by decide +kernel
theorem i2b_small {h : Nat} (hh : h ≤ 2) : am_i2b (h : Int) = h := by
  have h1 := List.all_eq_true.1 i2b_all h (List.mem_range.2 (by omega))
  exact of_decide_eq_true h1
def andOK (i : Nat) : Bool := decide (am_and ((i : Int) - 128) 255 = if i < 128 then (i : Int) + 128 else (i : Int) - 128)
theorem and_all : (List.range 256).all (fun i => andOK i) = true := by decide +kernel
theorem and_ok {x : Int} (h1 : -128 ≤ x) (h2 : x ≤ 127) : am_and x 255 = if x < 0 then x + 256 else x := by
  have h3 := List.all_eq_true.1 and_all (x + 128).toNat (List.mem_range.2 (by omega))
  have h4 : am_and (((x + 128).toNat : Int) - 128) 255 = if (x + 128).toNat < 128 then ((x + 128).toNat : Int) + 128 else ((x + 128).toNat : Int) - 128 := of_decide_eq_true h3
  rw [show (((x + 128).toNat : Nat) : Int) - 128 = x by omega] at h4
  rw [h4]
  by_cases c : x < 0
  · rw [if_pos c, if_pos (by omega)]; omega
  · rw [if_neg c, if_neg (by omega)]
theorem bR_and {x : Int} (h1 : -128 ≤ x) (h2 : x ≤ 127) : bR (am_and x 255) x := by
  rw [and_ok h1 h2]
  by_cases c : x < 0
  · rw [if_pos c]; exact Or.inr ⟨⟨by omega, by omega⟩, by omega, by omega⟩
  · rw [if_neg c]; exact Or.inl rfl
/-- longs of two whole numbers -/
theorem lcm_ok {a b c : Int} (ha : 0 ≤ a ∧ a ≤ 2147483647) (hb : 0 ≤ b ∧ b ≤ 2147483647) (hc : 0 ≤ c ∧ c ≤ 2147483647) : (0 < am_lcm (am_i2l a + am_i2l b) (am_i2l c)) ↔ c < a + b := by
  have e : ∀ x : Int, 0 ≤ x ∧ x ≤ 2147483647 → (am_i2l x).toInt = x := by
    intro x hx
    unfold am_i2l
    rw [Int32.toInt_toInt64, Int32.toInt_ofInt_of_le (by omega) (by omega)]
  have es : (am_i2l a + am_i2l b).toInt = a + b := by
    rw [Int64.toInt_add, e a ha, e b hb]
    exact Int.bmod_eq_of_le (by omega) (by omega)
  unfold am_lcm lg_cmp
  by_cases h : am_i2l a + am_i2l b > am_i2l c
  · rw [if_pos h]
    have h2 : (am_i2l c).toInt < (am_i2l a + am_i2l b).toInt := Int64.lt_iff_toInt_lt.mp h
    rw [es, e c hc] at h2
    exact ⟨fun _ => h2, fun _ => by decide⟩
  · rw [if_neg h]
    have h2 : ¬ (am_i2l c).toInt < (am_i2l a + am_i2l b).toInt := fun z => h (Int64.lt_iff_toInt_lt.mpr z)
    rw [es, e c hc] at h2
    refine ⟨fun z => absurd z ?_, fun z => absurd z h2⟩
    split
    · decide
    · decide
