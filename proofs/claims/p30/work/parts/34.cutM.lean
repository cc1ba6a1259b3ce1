/-! the reference's words, nuclei, syllables -/
/-- the reference's rows hold the cut of b, n, w -/
abbrev MC (b : Nat → Int) (n : Nat) (w : Nat → Int) (g : GG) : Prop := (g 49 6 = Wn b n) ∧ (g 49 13 = Sn b n w) ∧ (∀ k, k < Wn b n → g 53 k = wf b n k) ∧ (∀ k, k < Wn b n → g 54 k = wt b n k) ∧ (∀ k, k ≤ Wn b n → g 55 k = fs b n w k) ∧ (∀ s, s < Sn b n w → g 56 s = wo b n w s) ∧ (∀ s, s < Sn b n w → g 57 s = frS b n w s) ∧ (∀ s, s < Sn b n w → g 58 s = toS b n w s) ∧ (∀ s, s < Sn b n w → g 59 s = nuS b n w s) ∧ (∀ s, s < Sn b n w → g 60 s = widS b n w s)
theorem MC.W {b : Nat → Int} {n : Nat} {w : Nat → Int} {g : GG} (hx_ : MC b n w g) : g 49 6 = Wn b n := hx_.1
theorem MC.S {b : Nat → Int} {n : Nat} {w : Nat → Int} {g : GG} (hx_ : MC b n w g) : g 49 13 = Sn b n w := hx_.2.1
theorem MC.wS {b : Nat → Int} {n : Nat} {w : Nat → Int} {g : GG} (hx_ : MC b n w g) : ∀ k, k < Wn b n → g 53 k = wf b n k := hx_.2.2.1
theorem MC.wE {b : Nat → Int} {n : Nat} {w : Nat → Int} {g : GG} (hx_ : MC b n w g) : ∀ k, k < Wn b n → g 54 k = wt b n k := hx_.2.2.2.1
theorem MC.wF {b : Nat → Int} {n : Nat} {w : Nat → Int} {g : GG} (hx_ : MC b n w g) : ∀ k, k ≤ Wn b n → g 55 k = fs b n w k := hx_.2.2.2.2.1
theorem MC.sW {b : Nat → Int} {n : Nat} {w : Nat → Int} {g : GG} (hx_ : MC b n w g) : ∀ s, s < Sn b n w → g 56 s = wo b n w s := hx_.2.2.2.2.2.1
theorem MC.sS {b : Nat → Int} {n : Nat} {w : Nat → Int} {g : GG} (hx_ : MC b n w g) : ∀ s, s < Sn b n w → g 57 s = frS b n w s := hx_.2.2.2.2.2.2.1
theorem MC.sE {b : Nat → Int} {n : Nat} {w : Nat → Int} {g : GG} (hx_ : MC b n w g) : ∀ s, s < Sn b n w → g 58 s = toS b n w s := hx_.2.2.2.2.2.2.2.1
theorem MC.sN {b : Nat → Int} {n : Nat} {w : Nat → Int} {g : GG} (hx_ : MC b n w g) : ∀ s, s < Sn b n w → g 59 s = nuS b n w s := hx_.2.2.2.2.2.2.2.2.1
theorem MC.sL {b : Nat → Int} {n : Nat} {w : Nat → Int} {g : GG} (hx_ : MC b n w g) : ∀ s, s < Sn b n w → g 60 s = widS b n w s := hx_.2.2.2.2.2.2.2.2.2
section CUTM2
variable {E : am_E} {g : GG} {fl : FF}
theorem toNat_eq {x : Int} {k : Nat} (h : x = k) : Int.toNat x = k := by omega
/-- the first j nuclei of the word k -/
def MwJ (b : Nat → Int) (n : Nat) (w : Nat → Int) (k B j : Nat) (g : GG) : Prop :=
  ∀ t, t < j → g 56 (B + t) = k ∧ g 59 (B + t) = npS b n w k t ∧ g 60 (B + t) = wiS b n w k t
end CUTM2
