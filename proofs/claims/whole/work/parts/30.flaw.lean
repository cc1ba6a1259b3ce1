/-! loops, and where a text has its flaw -/
theorem up_ind {P : Int → Prop} (hi : Int) (h0 : ∀ v, hi ≤ v → P v) (hs : ∀ v, v < hi → P (v + 1) → P v) : ∀ v, P v := by
  intro v
  obtain ⟨n, hn⟩ : ∃ n : Nat, (hi - v).toNat = n := ⟨_, rfl⟩
  induction n generalizing v with
  | zero => exact h0 v (by omega)
  | succ n ih =>
    by_cases h : v < hi
    · exact hs v h (ih (v + 1) (by omega))
    · exact h0 v (by omega)
theorem rd_in {g : GG} {q n : Nat} {i : Int} {k : Nat} (h : i = k) (hk : k < n) : rd g q n i = g q k := by
  subst h
  rw [rd, if_pos (by omega), Int.toNat_natCast]
theorem wr_in {g : GG} {q n : Nat} {i v : Int} {k : Nat} (h : i = k) (hk : k < n) : wr g q n i v = am_up g q k v := by
  subst h
  rw [wr, if_pos (by omega), Int.toNat_natCast]
theorem rd_out {g : GG} {q n : Nat} {i : Int} (h : i < 0 ∨ n ≤ i) : rd g q n i = 0 := by rw [rd, if_neg (by omega)]
theorem wr_out {g : GG} {q n : Nat} {i v : Int} (h : i < 0 ∨ n ≤ i) : wr g q n i v = g := by rw [wr, if_neg (by omega)]
theorem up_at {α : Type} {f : Nat → Nat → α} {a i : Nat} {v : α} : am_up f a i v a i = v := by simp [am_up]
theorem up_row {α : Type} {f : Nat → Nat → α} {a i j : Nat} {v : α} (h : j ≠ i) : am_up f a i v a j = f a j := by simp [am_up, h]
theorem up_cell {α : Type} {f : Nat → Nat → α} {a b i : Nat} {v : α} (h : b ≠ a) : am_up f a i v b = f b := by simp [am_up, h]
theorem rgI {x : Int} (h1 : -2147483648 ≤ x) (h2 : x ≤ 2147483647) : am_rg x := ⟨h1, h2⟩
/-- the flaw of n bytes, from the k-th on; v: a vowel since the last blank -/
def flF (b : Nat → Int) (n : Nat) : Nat → Nat → Bool → Int
  | 0, _, v => if v = true then -1 else n
  | f + 1, k, v => if b k = 32 then (if v = true then flF b n f (k + 1) false else k)
    else if 97 ≤ b k ∧ b k ≤ 122 then flF b n f (k + 1) (v || decide (isV (b k))) else k
def flaw (b : Nat → Int) (n : Nat) : Int := flF b n n 0 false
def bI (v : Bool) : Int := if v = true then 1 else 0
section FLAW
variable {E : am_E} {g : GG} {fl : FF} {Q : Int → GG → FF → Prop}
theorem firstFlaw_loop {n : Nat} (hn : n ≤ 60) : ∀ (f k : Nat) (v2 v3 : Int) (vb : Bool), k + f = n → v3 = k → v2 = bI vb → Q (flF (g 1) n f k vb) g fl → am_X E 67 (4, (0, 0), [some (amR 1), some (amI n), some (amI v2), some (amI v3), none], [], mk g fl) (RI Q)
  | 0, k, v2, v3, vb, h1, h2, h3, h => by
    refine b67_4 ⟨fun c => absurd c (by omega), fun _ => ?_⟩
    subst h3
    cases vb <;> simpa [flF, bI] using h
  | f + 1, k, v2, v3, vb, h1, h2, h3, h => by
    have hr : rd g 1 60 v3 = g 1 k := rd_in h2 (by omega)
    unfold flF at h
    refine b67_4 ⟨fun _ => ?_, fun c => absurd (by omega) c⟩
    rw [hr]
    refine ⟨fun c1 => ?_, fun c1 => ⟨fun c2 => ?_, fun c2 => ⟨fun c3 => ?_, fun c3 => ⟨fun c4 => ⟨rgI (by omega) (by omega), ?_⟩, fun c4 => ⟨rgI (by omega) (by omega), ?_⟩⟩⟩⟩⟩
    · rw [if_pos c1] at h
      refine ⟨fun c2 => ?_, fun c2 => ⟨rgI (by omega) (by omega), ?_⟩⟩
      · cases vb
        · simpa [h2] using h
        · simp [bI] at h3; omega
      · cases vb
        · simp [bI] at h3; omega
        · exact firstFlaw_loop hn f (k + 1) 0 (v3 + 1) false (by omega) (by omega) rfl (by simpa using h)
    · rw [if_neg c1, if_neg (by omega)] at h
      rw [h2]; exact h
    · rw [if_neg c1, if_neg (by omega)] at h
      rw [h2]; exact h
    · rw [if_neg c1, if_pos (by omega)] at h
      exact firstFlaw_loop hn f (k + 1) 1 (v3 + 1) true (by omega) (by omega) rfl (by simpa [c4] using h)
    · rw [if_neg c1, if_pos (by omega)] at h
      exact firstFlaw_loop hn f (k + 1) v2 (v3 + 1) vb (by omega) (by omega) h3 (by simpa [c4] using h)
theorem firstFlaw_ok {n : Nat} (hn : n ≤ 60) (h : Q (flaw (g 1) n) g fl) : cI E 67 [amR 1, amI n] g fl Q :=
  b67 (firstFlaw_loop hn n 0 0 0 false (by omega) rfl rfl h)
theorem flawNow_loop {n : Nat} (hn : n ≤ 60) (hg : g 49 1 = n) : ∀ (f k : Nat) (v1 v2 : Int) (vb : Bool), k + f = n → v2 = k → v1 = bI vb → Q (flF (g 50) n f k vb) g fl → am_X E 103 (4, (0, 0), [some (amR 49), some (amI v1), some (amI v2), none], [], mk g fl) (RI Q)
  | 0, k, v1, v2, vb, h1, h2, h3, h => by
    refine b103_4 ⟨fun c => absurd c (by omega), fun _ => ⟨fun c => ?_, fun c => ?_⟩⟩
    · cases vb
      · rw [hg]; simpa [flF] using h
      · simp [bI] at h3; omega
    · cases vb
      · simp [bI] at h3; omega
      · simpa [flF] using h
  | f + 1, k, v1, v2, vb, h1, h2, h3, h => by
    have hk : Int.toNat v2 = k := by omega
    unfold flF at h
    refine b103_4 ⟨fun _ => ⟨by omega, ?_⟩, fun c => absurd (by omega) c⟩
    rw [hk]
    refine ⟨fun c1 => ?_, fun c1 => ⟨fun c2 => ⟨fun c3 => ⟨rgI (by omega) (by omega), ?_⟩, fun c3 => ⟨rgI (by omega) (by omega), ?_⟩⟩, fun c2 => ?_⟩⟩
    · rw [if_pos c1] at h
      refine ⟨fun c2 => ?_, fun c2 => ⟨rgI (by omega) (by omega), ?_⟩⟩
      · cases vb
        · rw [h2]; simpa using h
        · simp [bI] at h3; omega
      · cases vb
        · simp [bI] at h3; omega
        · exact flawNow_loop hn hg f (k + 1) 0 (v2 + 1) false (by omega) (by omega) rfl (by simpa using h)
    · rw [if_neg c1, if_pos c2] at h
      cases vb
      · refine flawNow_loop hn hg f (k + 1) _ (v2 + 1) (decide (isV (g 50 k))) (by omega) (by omega) ?_ (by simpa using h)
        simp [b01, bI]
      · simp [bI] at h3; omega
    · rw [if_neg c1, if_pos c2] at h
      cases vb
      · simp [bI] at h3; omega
      · exact flawNow_loop hn hg f (k + 1) 1 (v2 + 1) true (by omega) (by omega) rfl (by simpa using h)
    · rw [if_neg c1, if_neg c2] at h
      rw [h2]; exact h
theorem flawNow_ok {n : Nat} (hn : n ≤ 60) (hg : g 49 1 = n) (h : Q (flaw (g 50) n) g fl) : cI E 103 [amR 49] g fl Q :=
  b103 (flawNow_loop hn hg n 0 0 0 false (by omega) rfl rfl h)
end FLAW
/-- bytes that are the same, or both no letter and no blank, have their flaw at one place -/
def bR (x y : Int) : Prop := x = y ∨ ((x ≠ 32 ∧ ¬ (97 ≤ x ∧ x ≤ 122)) ∧ (y ≠ 32 ∧ ¬ (97 ≤ y ∧ y ≤ 122)))
theorem flF_same {b c : Nat → Int} {n : Nat} : ∀ (f k : Nat) (v : Bool), (∀ i, k ≤ i → i < k + f → bR (b i) (c i)) → flF b n f k v = flF c n f k v
  | 0, _, _, _ => rfl
  | f + 1, k, v, h => by
    have h1 := h k (by omega) (by omega)
    have ih := fun v => flF_same (b := b) (c := c) (n := n) f (k + 1) v (fun i h2 h3 => h i (by omega) (by omega))
    unfold flF
    rcases h1 with h1 | ⟨⟨h1, h2⟩, h3, h4⟩
    · rw [h1, ih, ih]
    · rw [if_neg h1, if_neg h2, if_neg h3, if_neg h4]
theorem flaw_same {b c : Nat → Int} {n : Nat} (h : ∀ i, i < n → bR (b i) (c i)) : flaw b n = flaw c n := flF_same n 0 false (fun i _ h2 => h i (by omega))
/-- without a flaw: blanks and letters alone -/
theorem flF_none {b : Nat → Int} {n : Nat} : ∀ (f k : Nat) (v : Bool), k + f = n → flF b n f k v = -1 → ∀ i, k ≤ i → i < n → b i = 32 ∨ (97 ≤ b i ∧ b i ≤ 122)
  | 0, k, v, h0, h, i, h1, h2 => by omega
  | f + 1, k, v, h0, h, i, h1, h2 => by
    unfold flF at h
    by_cases c1 : b k = 32
    · rw [if_pos c1] at h
      split at h
      · by_cases hi : i = k
        · subst hi; exact Or.inl c1
        · exact flF_none f (k + 1) _ (by omega) h i (by omega) h2
      · omega
    · rw [if_neg c1] at h
      split at h
      · rename_i c2
        by_cases hi : i = k
        · subst hi; exact Or.inr c2
        · exact flF_none f (k + 1) _ (by omega) h i (by omega) h2
      · omega
