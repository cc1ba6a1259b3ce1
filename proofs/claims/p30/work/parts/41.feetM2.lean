/-! the reference's feet of a word -/
def mfs (st : Nat → Nat) (p s : Nat) : Int := if 0 < st s then (s : Int) else if p < s ∧ st (s - 1) = 2 then ((s - 1 : Nat) : Int) else -1
/-- the reference's rows of feet of a word -/
abbrev MF (w : Nat → Int) (mo : Nat → Nat) (p z : Nat) (g : GG) : Prop := (∀ s, p ≤ s → s < p + z → g 61 s = mfs (stW mo w p (eKw w p z)) p s) ∧ (∀ s, p ≤ s → s < p + z → g 62 s = if hb w (stW mo w p (eKw w p z)) p s then 1 else 0)
theorem MF.f {w : Nat → Int} {mo : Nat → Nat} {p z : Nat} {g : GG} (hx_ : MF w mo p z g) : ∀ s, p ≤ s → s < p + z → g 61 s = mfs (stW mo w p (eKw w p z)) p s := hx_.1
theorem MF.b {w : Nat → Int} {mo : Nat → Nat} {p z : Nat} {g : GG} (hx_ : MF w mo p z g) : ∀ s, p ≤ s → s < p + z → g 62 s = if hb w (stW mo w p (eKw w p z)) p s then 1 else 0 := hx_.2
section FEETM2
variable {E : am_E} {g : GG} {fl : FF} {w : Nat → Int} {b : Nat → Int} {n : Nat}
theorem MR_id {st : Nat → Nat} {g' : GG} (h : MR w st g g') (h0 : ∀ s, st s = 0) : g' = g := by
  funext a i
  by_cases h1 : a = 61
  · subst h1; rw [h.f, if_neg (by rw [h0]; omega), if_neg (by rw [h0]; omega)]
  · by_cases h2 : a = 62
    · subst h2; rw [h.b, if_neg (by unfold hb; rw [h0 i, h0 (i - 1)]; omega)]
    · exact h.k a i h1 h2
def mAny (v4 v4' : Int) (st : Nat → Nat) : Prop := (v4' = 1 ∧ (v4 = 1 ∨ ∃ s, 0 < st s)) ∨ (v4' = 0 ∧ v4 = 0 ∧ ∀ s, st s = 0)
theorem hb_0p {st : Nat → Nat} {p e s : Nat} (hf : FS st p e) : hb w st 0 s ↔ hb w st p s := by
  have := hf.inn (s - 1)
  unfold hb
  constructor <;> rintro (⟨z1, z2 | ⟨z2, z3⟩⟩ | ⟨z1, z2⟩) <;> omega
end FEETM2
