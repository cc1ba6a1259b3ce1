/-! where a text has its flaw: plain mathematics -/
/-- the flaw of n bytes, from the k-th on; v: a vowel since the last blank -/
def flF (b : Nat → Int) (n : Nat) : Nat → Nat → Bool → Int
  | 0, _, v => if v = true then -1 else n
  | f + 1, k, v => if b k = 32 then (if v = true then flF b n f (k + 1) false else k)
    else if 97 ≤ b k ∧ b k ≤ 122 then flF b n f (k + 1) (v || decide (isV (b k))) else k
def flaw (b : Nat → Int) (n : Nat) : Int := flF b n n 0 false
def bI (v : Bool) : Int := if v = true then 1 else 0
/-- bytes that are the same, or both no letter and no blank, have their flaw at one place -/
def bR (x y : Int) : Prop := x = y ∨ ((x ≠ 32 ∧ ¬ (97 ≤ x ∧ x ≤ 122)) ∧ (y ≠ 32 ∧ ¬ (97 ≤ y ∧ y ≤ 122)))
theorem flF_same {b c : Nat → Int} {n : Nat} : ∀ (f k : Nat) (v : Bool), (∀ i, k ≤ i → i < k + f → bR (b i) (c i)) → flF b n f k v = flF c n f k v
  | 0, _, _, _ => rfl
  | f + 1, k, v, h => by
    have h1 := h k (by omega) (by omega)
    have ih := fun v => flF_same (b := b) (c := c) (n := n) f (k + 1) v (fun i h2 h3 => h i (by omega) (by omega))
    unfold flF
    rcases h1 with h1 | ⟨⟨h1, h2⟩, h3, h4⟩
    · rw [h1, ih, ih]
    · rw [if_neg h1, if_neg h2, if_neg h3, if_neg h4]
theorem flaw_same {b c : Nat → Int} {n : Nat} (h : ∀ i, i < n → bR (b i) (c i)) : flaw b n = flaw c n := flF_same n 0 false (fun i _ h2 => h i (by omega))
/-- without a flaw: blanks and letters alone -/
theorem flF_none {b : Nat → Int} {n : Nat} : ∀ (f k : Nat) (v : Bool), k + f = n → flF b n f k v = -1 → ∀ i, k ≤ i → i < n → b i = 32 ∨ (97 ≤ b i ∧ b i ≤ 122)
  | 0, k, v, h0, h, i, h1, h2 => by omega
  | f + 1, k, v, h0, h, i, h1, h2 => by
    unfold flF at h
    by_cases c1 : b k = 32
    · rw [if_pos c1] at h
      split at h
      · by_cases hi : i = k
        · subst hi; exact Or.inl c1
        · exact flF_none f (k + 1) _ (by omega) h i (by omega) h2
      · omega
    · rw [if_neg c1] at h
      split at h
      · rename_i c2
        by_cases hi : i = k
        · subst hi; exact Or.inr c2
        · exact flF_none f (k + 1) _ (by omega) h i (by omega) h2
      · omega
