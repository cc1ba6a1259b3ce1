/-! the reference's feet -/
theorem MC.keep {b : Nat → Int} {n : Nat} {w : Nat → Int} {g g' : GG} (h : MC b n w g) (hf : ∀ a i, (a = 49 ∧ (i = 6 ∨ i = 13)) ∨ (53 ≤ a ∧ a ≤ 60) → g' a i = g a i) : MC b n w g' :=
  ⟨by rw [hf _ _ (by omega)]; exact h.W, by rw [hf _ _ (by omega)]; exact h.S, fun k hk => by rw [hf _ _ (by omega)]; exact h.wS k hk, fun k hk => by rw [hf _ _ (by omega)]; exact h.wE k hk, fun k hk => by rw [hf _ _ (by omega)]; exact h.wF k hk, fun s hs => by rw [hf _ _ (by omega)]; exact h.sW s hs, fun s hs => by rw [hf _ _ (by omega)]; exact h.sS s hs, fun s hs => by rw [hf _ _ (by omega)]; exact h.sE s hs, fun s hs => by rw [hf _ _ (by omega)]; exact h.sN s hs, fun s hs => by rw [hf _ _ (by omega)]; exact h.sL s hs⟩
/-- the reference's cut, and its ways -/
abbrev MX (b : Nat → Int) (n : Nat) (w : Nat → Int) (g : GG) : Prop := (MC b n w g) ∧ (w = g 51)
theorem MX.c {b : Nat → Int} {n : Nat} {w : Nat → Int} {g : GG} (hx_ : MX b n w g) : MC b n w g := hx_.1
theorem MX.w {b : Nat → Int} {n : Nat} {w : Nat → Int} {g : GG} (hx_ : MX b n w g) : w = g 51 := hx_.2
theorem MX.keep {b : Nat → Int} {n : Nat} {w : Nat → Int} {g g' : GG} (h : MX b n w g) (hf : ∀ a i, (a = 49 ∧ (i = 6 ∨ i = 13)) ∨ a = 51 ∨ (53 ≤ a ∧ a ≤ 60) → g' a i = g a i) : MX b n w g' :=
  ⟨h.c.keep (fun a i z => hf a i (by omega)), by rw [h.w]; funext x; exact (hf _ _ (by omega)).symm⟩
/-- what laying feet does to the reference's rows -/
abbrev MR (w : Nat → Int) (st : Nat → Nat) (g g' : GG) : Prop := (∀ s, g' 61 s = if 0 < st s then (s : Int) else if 0 < s ∧ st (s - 1) = 2 then ((s - 1 : Nat) : Int) else g 61 s) ∧ (∀ s, g' 62 s = if hb w st 0 s then 1 else g 62 s) ∧ (∀ a i, a ≠ 61 → a ≠ 62 → g' a i = g a i)
theorem MR.f {w : Nat → Int} {st : Nat → Nat} {g g' : GG} (hx_ : MR w st g g') : ∀ s, g' 61 s = if 0 < st s then (s : Int) else if 0 < s ∧ st (s - 1) = 2 then ((s - 1 : Nat) : Int) else g 61 s := hx_.1
theorem MR.b {w : Nat → Int} {st : Nat → Nat} {g g' : GG} (hx_ : MR w st g g') : ∀ s, g' 62 s = if hb w st 0 s then 1 else g 62 s := hx_.2.1
theorem MR.k {w : Nat → Int} {st : Nat → Nat} {g g' : GG} (hx_ : MR w st g g') : ∀ a i, a ≠ 61 → a ≠ 62 → g' a i = g a i := hx_.2.2
section FEETM
variable {E : am_E} {g : GG} {fl : FF} {w : Nat → Int}
theorem MR_0 {st : Nat → Nat} (h : ∀ s, st s = 0) : MR w st g g :=
  ⟨fun s => by rw [if_neg (by rw [h]; omega), if_neg (by rw [h]; omega)], fun s => by rw [if_neg (by unfold hb; rw [h s, h (s - 1)]; omega)], fun _ _ _ _ => rfl⟩
theorem MR_add {st st2 : Nat → Nat} {k r : Nat} {g g1 g2 : GG} (h1 : MR w (fun s => if s = k then r else 0) g g1) (h2 : MR w st2 g1 g2) (hst : ∀ s, st s = if s = k then r else st2 s) (hd : ∀ s, 0 < st2 s → k + max 1 r ≤ s ∨ s + st2 s ≤ k) (hr : r ≤ 2) : MR w st g g2 := by
  have key : ∀ s, ((if s = k then r else 0) = 0 ∧ (0 < s → (if s - 1 = k then r else 0) ≠ 2) ∧ st s = st2 s ∧ (0 < s → (st (s - 1) = 2 ↔ st2 (s - 1) = 2))) ∨ (st2 s = 0 ∧ (0 < s → st2 (s - 1) ≠ 2) ∧ st s = (if s = k then r else 0) ∧ (0 < s → (st (s - 1) = 2 ↔ (if s - 1 = k then r else 0) = 2))) := by
    intro s
    have d0 := hd s
    have d1 := hd (s - 1)
    have ev : ∀ s, (s = k → (if s = k then r else 0) = r ∧ st s = r ∧ st2 s = 0) ∧ (s ≠ k → (if s = k then r else 0) = 0 ∧ st s = st2 s) := by
      intro s
      have dk := hd s
      refine ⟨fun z => ⟨if_pos z, by rw [hst, if_pos z], by omega⟩, fun z => ⟨if_neg z, by rw [hst, if_neg z]⟩⟩
    have e0 := ev s
    have e1 := ev (s - 1)
    by_cases hs : s = k
    · right; omega
    · by_cases hs1 : s - 1 = k ∧ 0 < s ∧ r = 2
      · right; omega
      · left; omega
  refine ⟨fun s => ?_, fun s => ?_, fun a i z1 z2 => by rw [h2.k a i z1 z2, h1.k a i z1 z2]⟩
  · rw [h2.f, h1.f]
    (try dsimp only)
    rcases key s with ⟨k1, k2, k3, k4⟩ | ⟨k1, k2, k3, k4⟩
    · rw [k1, k3]
      by_cases c1 : 0 < st2 s
      · rw [if_pos c1, if_pos c1]
      · rw [if_neg c1, if_neg c1]
        by_cases c2 : 0 < s ∧ st2 (s - 1) = 2
        · rw [if_pos c2, if_pos ⟨c2.1, (k4 c2.1).2 c2.2⟩]
        · rw [if_neg c2, if_neg (by omega), if_neg (fun z => k2 z.1 z.2), if_neg (fun z => c2 ⟨z.1, (k4 z.1).1 z.2⟩)]
    · rw [if_neg (show ¬ 0 < st2 s by omega), if_neg (show ¬ (0 < s ∧ st2 (s - 1) = 2) from fun z => k2 z.1 z.2), k3]
      by_cases c1 : 0 < (if s = k then r else 0)
      · rw [if_pos c1, if_pos c1]
      · rw [if_neg c1, if_neg c1]
        by_cases c2 : 0 < s ∧ (if s - 1 = k then r else 0) = 2
        · rw [if_pos c2, if_pos ⟨c2.1, (k4 c2.1).2 c2.2⟩]
        · rw [if_neg c2, if_neg (fun z => c2 ⟨z.1, (k4 z.1).1 z.2⟩)]
  · rw [h2.b, h1.b]
    rcases key s with ⟨k1, k2, k3, k4⟩ | ⟨k1, k2, k3, k4⟩
    · have n1 : ¬ hb w (fun s => if s = k then r else 0) 0 s := by
        rintro (⟨z1, z2 | ⟨z2, z3⟩⟩ | ⟨z1, z2⟩)
        · dsimp only at z2; omega
        · exact k2 z2 z3
        · dsimp only at z2; omega
      have n2 : hb w st2 0 s ↔ hb w st 0 s := by
        unfold hb; rw [k3]
        by_cases c : 0 < s
        · rw [k4 c]
        · constructor <;> rintro (⟨z1, z2 | ⟨z2, z3⟩⟩ | ⟨z1, z2⟩) <;> omega
      rw [if_neg n1]
      by_cases c : hb w st2 0 s
      · rw [if_pos c, if_pos (n2.1 c)]
      · rw [if_neg c, if_neg (fun z => c (n2.2 z))]
    · have n1 : ¬ hb w st2 0 s := by
        rintro (⟨z1, z2 | ⟨z2, z3⟩⟩ | ⟨z1, z2⟩)
        · omega
        · exact k2 z2 z3
        · omega
      have n2 : hb w (fun s => if s = k then r else 0) 0 s ↔ hb w st 0 s := by
        unfold hb; rw [k3]
        by_cases c : 0 < s
        · rw [k4 c]
        · constructor <;> rintro (⟨z1, z2 | ⟨z2, z3⟩⟩ | ⟨z1, z2⟩) <;> first | exact Or.inl ⟨z1, Or.inl z2⟩ | exact Or.inr ⟨z1, z2⟩ | exact absurd z2 c
      rw [if_neg n1]
      by_cases c : hb w (fun s => if s = k then r else 0) 0 s
      · rw [if_pos c, if_pos (n2.1 c)]
      · rw [if_neg c, if_neg (fun z => c (n2.2 z))]
variable {b : Nat → Int} {n : Nat}
end FEETM
