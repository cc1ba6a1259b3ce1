/-! the law's own leaves, and what holds between its calls -/
def cellE (E : am_E) (k : Int) : Int := if k < (E 2).1 then (E 2).2 k.toNat else 40503 * (k + 3)
def lowI (v n : Int) : Int := am_and v 2147483647 % n
theorem am_and_lo (v : Int) : 0 ≤ am_and v 2147483647 := by
  have h : (Int32.ofInt v &&& Int32.ofInt 2147483647).toBitVec.msb = false := by
    rw [Int32.toBitVec_and, BitVec.msb_and, show (Int32.ofInt 2147483647).toBitVec.msb = false from by decide, Bool.and_false]
  show 0 ≤ (Int32.ofInt v &&& Int32.ofInt 2147483647).toBitVec.toInt
  rw [BitVec.toInt_eq_toNat_of_msb h]
  exact Int.natCast_nonneg _
theorem lowI_in {v n : Int} (hn : 0 < n) : 0 ≤ lowI v n ∧ lowI v n < n := ⟨Int.emod_nonneg _ (by omega), Int.emod_lt_of_pos _ hn⟩
theorem i2l_ti {v : Int} (h : am_rg v) : (am_i2l v).toInt = v := by
  unfold am_i2l
  rw [Int32.toInt_toInt64, am_ti h]
section LAWD
variable {E : am_E} {g : GG} {fl : FF}
theorem cell_ok (hO : am_EO E) {k : Int} {Q : Int → GG → FF → Prop} (hk : 0 ≤ k ∧ k ≤ 100) (h : Q (cellE E k) g fl) : cI E 100 [amR 1002, amI k] g fl Q := by
  have hn := (hO 2 (by omega)).1
  show am_X E 100 (0, (0, 0), [some (amR 1002), some (amI k)], [], mk g fl) (RI Q)
  refine x_il cc100 rfl rfl (x_al cc100 rfl rfl (x_len (n := (E 2).1) cc100 rfl rfl hn (x_ige cc100 rfl (fun c => ?_) (fun c => ?_))))
  · rw [cellE, if_pos c] at h
    exact x_al cc100 rfl rfl (x_il cc100 rfl rfl (x_ial (v := (E 2).2 k.toNat) (n := (E 2).1) (f := (E 2).2) cc100 rfl rfl rfl (by omega) (x_goto cc100 rfl (x_iret cc100 rfl h))))
  · rw [cellE, if_neg c] at h
    exact x_const cc100 rfl rfl (by decide) (x_il cc100 rfl rfl (x_const cc100 rfl rfl (by decide) (x_add cc100 rfl (rgI (by omega) (by omega)) (x_mul cc100 rfl (rgI (by omega) (by omega)) (x_iret cc100 rfl h)))))
theorem low_ok {v m : Int} {Q : Int → GG → FF → Prop} (hm : (0 : Int) < m) (h : Q (lowI v m) g fl) : cI E 101 [amI v, amI m] g fl Q := b101 ⟨⟨am_and_lo v, hm⟩, h⟩
theorem lcm_lt {x y : Int64} : am_lcm x y < 0 ↔ x.toInt < y.toInt := by
  have h : (lg_cmp x y).toInt < 0 ↔ lg_cmp x y < 0 := by rw [Int32.lt_iff_toInt_lt]; rfl
  show (lg_cmp x y).toInt < 0 ↔ _
  rw [h, lg_cmp_lt, Int64.lt_iff_toInt_lt]
theorem lcm_gt {x y : Int64} : 0 < am_lcm x y ↔ y.toInt < x.toInt := by
  have h : 0 < (lg_cmp x y).toInt ↔ 0 < lg_cmp x y := by rw [Int32.lt_iff_toInt_lt]; rfl
  show 0 < (lg_cmp x y).toInt ↔ _
  rw [h, lg_cmp_gt, Int64.lt_iff_toInt_lt]
theorem in_ok {v z : Int} {Q : Int → GG → FF → Prop} (hv : am_rg v) (hz : am_rg z) (h : Q (b01 (-1 ≤ v ∧ v ≤ z)) g fl) : cI E 97 [amL (am_i2l v), amL (Int64.ofInt (-1)), amL (am_i2l z)] g fl Q := by
  refine b97 ⟨fun c => ?_, fun c => ?_⟩
  · rw [lcm_lt, i2l_ti hv, show (Int64.ofInt (-1)).toInt = -1 from rfl] at c
    rwa [b01_f (by omega)] at h
  · rw [lcm_lt, i2l_ti hv, show (Int64.ofInt (-1)).toInt = -1 from rfl] at c
    rwa [b01_iff (show (-1 ≤ v ∧ v ≤ z) ↔ ¬ (0 < am_lcm (am_i2l v) (am_i2l z)) by rw [lcm_gt, i2l_ti hv, i2l_ti hz]; omega)] at h
theorem y_ret {k ip : Nat} {bd : Nat × Nat} {ls : am_LS} {m : am_M} {Q : am_Q} {c : List am_Row} {pc a cp pl : Nat} {b x : Int} (hc : am_nth am_code k = some c) (hr : am_nth c ip = some (pc, 89, a, b, cp, pl)) (hx : x = 0 ∨ x = 1) (h : Q (some (amI x)) m) : am_X E k (ip, bd, ls, [amI x], m) Q := xf hc hr rfl ⟨hx, h⟩
abbrev BDL : Nat × Nat := (599949, 7299759)
variable {b : Nat → Int} {n : Nat} {w mk1 td : Nat → Int} {N : Nat} {T : Nat → List Int} {P : Nat → Int} {w0 : Nat → Int}
def LI (b : Nat → Int) (n : Nat) (w mk1 td : Nat → Int) (N : Nat) (T : Nat → List Int) (P : Nat → Int) (w0 : Nat → Int) (g : GG) : Prop := RC b n w mk1 td N T P g ∧ (∀ i, i < n → g 49 i = b i) ∧ g 49 60 = n ∧ (∀ k, k < 9 → g 50 k = w0 k)
theorem LI.of (h : RC b n w mk1 td N T P g ∧ (∀ i, i < n → g 49 i = b i) ∧ g 49 60 = n ∧ (∀ k, k < 9 → g 50 k = w0 k)) : LI b n w mk1 td N T P w0 g := h
theorem LI.kc {g' : GG} (h : LI b n w mk1 td N T P w0 g) (k : KC g g') (r : RC b n w mk1 td N T P g') : LI b n w mk1 td N T P w0 g' :=
  LI.of ⟨r, fun i hi => by rw [k 49 i (by omega) (by omega) (by omega) (by omega)]; exact h.2.1 i hi, by rw [k 49 60 (by omega) (by omega) (by omega) (by omega)]; exact h.2.2.1, fun i hi => by rw [k 50 i (by omega) (by omega) (by omega) (by omega)]; exact h.2.2.2 i hi⟩
def nearA (b : Nat → Int) (n : Nat) (w mk' td : Nat → Int) (x : Int) : Int := if 0 ≤ x ∧ x ≤ 4 then nstA (nsA b n w mk' td) x else -2
def cnt3 (b : Nat → Int) (n : Nat) (w mk' : Nat → Int) (N : Nat) (x : Int) : Int := cntA b n w mk' N 0 x
theorem cnt3_of {f x : Int} (hx : x ≠ 8) : cntA b n w mk1 N f x = cnt3 b n w mk1 N x := by
  unfold cnt3 cntA
  rw [if_neg hx, if_neg hx]
variable {v1 v2 : Int} {Q : Int → GG → FF → Prop}
theorem r_word (H : LI b n w mk1 td N T P w0 g) (h : ∀ g', LI b n w mk1 td N T P w0 g' → Q (wordA b n w mk1 v1 v2) g' fl) : cI E 6 [amR 0, amI v1, amI v2] g fl Q := wordC_ok H.1 (fun g' k r => h g' (H.kc k r))
theorem r_syll (H : LI b n w mk1 td N T P w0 g) (h : ∀ g', LI b n w mk1 td N T P w0 g' → Q (syllA b n w mk1 td v1 v2) g' fl) : cI E 7 [amR 0, amI v1, amI v2] g fl Q := syllC_ok H.1 (fun g' k r => h g' (H.kc k r))
theorem r_heard (H : LI b n w mk1 td N T P w0 g) (h : ∀ g', LI b n w mk1 td N T P w0 g' → Q (hdA b n w mk1 v1) g' fl) : cI E 12 [amR 0, amI v1] g fl Q := heardC_ok H.1 (fun g' k r => h g' (H.kc k r))
theorem r_near (H : LI b n w mk1 td N T P w0 g) (h : ∀ g', LI b n w mk1 td N T P w0 g' → Q ((nrA b n w mk1 td : Nat) : Int) g' fl) : cI E 15 [amR 0] g fl Q := nearC_ok H.1 (fun g' k r => h g' (H.kc k r))
theorem r_nearest (H : LI b n w mk1 td N T P w0 g) (h : ∀ g', LI b n w mk1 td N T P w0 g' → Q (nearA b n w mk1 td v1) g' fl) : cI E 16 [amR 0, amI v1] g fl Q := nearestC_ok H.1 (fun g' k r => h g' (H.kc k r))
theorem r_share (H : LI b n w mk1 td N T P w0 g) (h : ∀ g', LI b n w mk1 td N T P w0 g' → Q (shA b n w mk1 td v1) g' fl) : cI E 18 [amR 0, amI v1] g fl Q := shareC_ok H.1 (fun g' k r => h g' (H.kc k r))
theorem r_text (H : LI b n w mk1 td N T P w0 g) (h : ∀ g', LI b n w mk1 td N T P w0 g' → Q (textA b n w mk1 v1) g' fl) : cI E 19 [amR 0, amI v1] g fl Q := textC_ok H.1 (fun g' k r => h g' (H.kc k r))
theorem r_marked (H : LI b n w mk1 td N T P w0 g) (h : ∀ g', LI b n w mk1 td N T P w0 g' → Q (markedA b n mk1 v1) g' fl) : cI E 10 [amR 0, amI v1] g fl Q := markedC_ok H.1 (fun g' k r => h g' (H.kc k r))
theorem r_flaw (H : LI b n w mk1 td N T P w0 g) (h : ∀ g', LI b n w mk1 td N T P w0 g' → Q (flaw b n) g' fl) : cI E 4 [amR 0] g fl Q := flawC_ok H.1 (fun g' k r => h g' (H.kc k r))
theorem r_count (hx : v1 ≠ 8) (H : LI b n w mk1 td N T P w0 g) (h : ∀ g', LI b n w mk1 td N T P w0 g' → Q (cnt3 b n w mk1 N v1) g' fl) : cI E 26 [amR 0, amI v1] g fl Q := countC_ok H.1 (fun g' k r => by rw [cnt3_of hx]; exact h g' (H.kc k r))
end LAWD
