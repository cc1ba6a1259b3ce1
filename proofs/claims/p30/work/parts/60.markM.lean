/-! the reference's mark and unmark -/
def KL (g g' : GG) : Prop := ∀ a i, ¬ (a = 49 ∧ (i = 6 ∨ i = 13 ∨ i = 19 ∨ (22 ≤ i ∧ i ≤ 26))) → ¬ (53 ≤ a ∧ a ≤ 68) → g' a i = g a i
theorem KM.kl {g g' : GG} (h : KM g g') : KL g g' := fun a i z1 z2 => h a i (by omega) (by omega) (by omega)
theorem KL.trans {g g1 g2 : GG} (h : KL g g1) (h2 : KL g1 g2) : KL g g2 := fun a i z1 z2 => by rw [h2 a i z1 z2]; exact h a i z1 z2
section MARKM
variable {E : am_E} {g : GG} {fl : FF} {b : Nat → Int} {n : Nat} {w : Nat → Int} {mk' : Nat → Int} {td : Nat → Int} {N : Nat} {T : Nat → List Int} {P : Nat → Int} {Q : Int → GG → FF → Prop}
end MARKM
