/-! the reference's marks, beats, numbers of feet -/
section BEATM
variable {E : am_E} {g : GG} {fl : FF} {N : Nat} {T : Nat → List Int} {P : Nat → Int} {b : Nat → Int} {n : Nat} {w : Nat → Int}
theorem mnF_over {mo : Nat → Nat} {st : Nat → Nat} {p e : Nat} (hf : FS st p e) : ∀ d, mnF mo w st p (e - p + d) = mnF mo w st p (e - p)
  | 0 => rfl
  | d + 1 => by
    rw [show e - p + (d + 1) = (e - p + d) + 1 by omega, mnF_s, if_neg]
    · exact mnF_over hf d
    · rintro ⟨h1, -⟩
      have := hb_in hf h1
      omega
theorem mfs_at {st : Nat → Nat} {p s : Nat} : (mfs st p s = s ↔ 0 < st s) ∧ (mfs st p s = -1 ↔ ¬ (0 < st s ∨ (p < s ∧ st (s - 1) = 2))) := by
  unfold mfs
  by_cases c : 0 < st s
  · rw [if_pos c]; omega
  · rw [if_neg c]
    by_cases c2 : p < s ∧ st (s - 1) = 2
    · rw [if_pos c2]; omega
    · rw [if_neg c2]; omega
theorem cnt_over {st : Nat → Nat} {p e : Nat} (hf : FS st p e) : ∀ d, cnt st p (e - p + d) = cnt st p (e - p)
  | 0 => rfl
  | d + 1 => by
    rw [show e - p + (d + 1) = (e - p + d) + 1 by omega, cnt_s, if_neg]
    · exact cnt_over hf d
    · intro h1
      have := hf.inn _ h1
      omega
end BEATM
