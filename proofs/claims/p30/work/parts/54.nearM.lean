/-! the reference's counts, NEAR, NEAREST -/
def KM (g g' : GG) : Prop := ∀ a i, ¬ (a = 49 ∧ (i = 6 ∨ i = 13 ∨ (22 ≤ i ∧ i ≤ 26))) → ¬ (53 ≤ a ∧ a ≤ 62) → ¬ (66 ≤ a ∧ a ≤ 68) → g' a i = g a i
theorem KM.refl {g : GG} : KM g g := fun _ _ _ _ _ => rfl
theorem KM.trans {g g1 g2 : GG} (h : KM g g1) (h2 : KM g1 g2) : KM g g2 := fun a i z1 z2 z3 => by rw [h2 a i z1 z2 z3]; exact h a i z1 z2 z3
section NEARM
variable {E : am_E} {g : GG} {fl : FF} {b : Nat → Int} {n : Nat} {w : Nat → Int} {mk' : Nat → Int} {td : Nat → Int} {N : Nat} {T : Nat → List Int} {P : Nat → Int} {Q : Int → GG → FF → Prop}
theorem RB.km {g' : GG} (h : RB n N T P g) (hk : KM g g') : RB n N T P g' := h.keep (fun a i z => hk a i (by omega) (by omega) (by omega))
theorem KM.bb {g' : GG} (hk : KM g g') (hb : b = nz (g 50) n) : b = nz (g' 50) n := by rw [hb]; congr 1; funext x; exact (hk _ _ (by omega) (by omega) (by omega)).symm
theorem KM.ww {g' : GG} (hk : KM g g') (hw : w = g 51) : w = g' 51 := by rw [hw]; funext x; exact (hk _ _ (by omega) (by omega) (by omega)).symm
theorem KM.tt {g' : GG} (hk : KM g g') (ht : g 52 = td) : g' 52 = td := by rw [← ht]; funext x; exact hk _ _ (by omega) (by omega) (by omega)
theorem wc_4 {c : Nat} : wc w c 4 = ((c / 12 : Nat) : Int) := rfl
theorem wc_5 {c : Nat} : wc w c 5 = ((c / 6 % 2 : Nat) : Int) := rfl
theorem wc_6 {c : Nat} : wc w c 6 = ((c / 3 % 2 : Nat) : Int) := rfl
theorem wc_7 {c : Nat} : wc w c 7 = ((c % 3 : Nat) : Int) := rfl
theorem wc_o {c i : Nat} (h4 : i ≠ 4) (h5 : i ≠ 5) (h6 : i ≠ 6) (h7 : i ≠ 7) : wc w c i = w i := by unfold wc; rw [if_neg h4, if_neg h5, if_neg h6, if_neg h7]
theorem wc_wc {c c' : Nat} : wc (wc w c') c = wc w c := by
  funext i
  by_cases c4 : i = 4
  · subst c4; rfl
  · by_cases c5 : i = 5
    · subst c5; rfl
    · by_cases c6 : i = 6
      · subst c6; rfl
      · by_cases c7 : i = 7
        · subst c7; rfl
        · rw [wc_o c4 c5 c6 c7, wc_o c4 c5 c6 c7, wc_o c4 c5 c6 c7]
def cdW (w : Nat → Int) : Nat := (12 * w 4 + 6 * w 5 + 3 * w 6 + w 7).toNat
theorem wc_cd (hwo : waysOK w) : cdW w < 36 ∧ wc w (cdW w) = w ∧ (12 * w 4 + 6 * w 5 + 3 * w 6 + w 7 = (cdW w : Nat)) := by
  obtain ⟨a0, a1, a2, a3, a4, a5, a6, a7, a8⟩ := hwo
  have hc : 12 * w 4 + 6 * w 5 + 3 * w 6 + w 7 = (cdW w : Nat) := by unfold cdW; omega
  refine ⟨by omega, ?_, hc⟩
  generalize cdW w = c at hc
  funext i
  by_cases c4 : i = 4
  · subst c4; rw [wc_4]; omega
  · by_cases c5 : i = 5
    · subst c5; rw [wc_5]; omega
    · by_cases c6 : i = 6
      · subst c6; rw [wc_6]; omega
      · by_cases c7 : i = 7
        · subst c7; rw [wc_7]; omega
        · exact wc_o c4 c5 c6 c7
def nsA (b : Nat → Int) (n : Nat) (w : Nat → Int) (mk' td : Nat → Int) : Int × Int := nsF (fun c => nrA b n (wc w c) mk' td) 36
def nstA (p : Int × Int) (x : Int) : Int := if x = 0 then p.1 / 12 else if x = 1 then p.1 / 6 % 2 else if x = 2 then p.1 / 3 % 2 else if x = 3 then p.1 % 3 else p.2
theorem nsA_in : 0 ≤ (nsA b n w mk' td).1 ∧ (nsA b n w mk' td).1 < 36 ∧ ∃ k : Nat, k < 36 ∧ (nsA b n w mk' td).1 = k ∧ (nsA b n w mk' td).2 = nrA b n (wc w k) mk' td := nsF_in (by omega)
end NEARM
