/-! helpers: loops, rows, updates -/
theorem up_ind {P : Int → Prop} (hi : Int) (h0 : ∀ v, hi ≤ v → P v) (hs : ∀ v, v < hi → P (v + 1) → P v) : ∀ v, P v := by
  intro v
  obtain ⟨n, hn⟩ : ∃ n : Nat, (hi - v).toNat = n := ⟨_, rfl⟩
  induction n generalizing v with
  | zero => exact h0 v (by omega)
  | succ n ih =>
    by_cases h : v < hi
    · exact hs v h (ih (v + 1) (by omega))
    · exact h0 v (by omega)
theorem rd_in {g : GG} {q n : Nat} {i : Int} {k : Nat} (h : i = k) (hk : k < n) : rd g q n i = g q k := by
  subst h
  rw [rd, if_pos (by omega), Int.toNat_natCast]
theorem wr_in {g : GG} {q n : Nat} {i v : Int} {k : Nat} (h : i = k) (hk : k < n) : wr g q n i v = am_up g q k v := by
  subst h
  rw [wr, if_pos (by omega), Int.toNat_natCast]
theorem rd_out {g : GG} {q n : Nat} {i : Int} (h : i < 0 ∨ n ≤ i) : rd g q n i = 0 := by rw [rd, if_neg (by omega)]
theorem wr_out {g : GG} {q n : Nat} {i v : Int} (h : i < 0 ∨ n ≤ i) : wr g q n i v = g := by rw [wr, if_neg (by omega)]
theorem up_at {α : Type} {f : Nat → Nat → α} {a i : Nat} {v : α} : am_up f a i v a i = v := by simp [am_up]
theorem up_row {α : Type} {f : Nat → Nat → α} {a i j : Nat} {v : α} (h : j ≠ i) : am_up f a i v a j = f a j := by simp [am_up, h]
theorem up_cell {α : Type} {f : Nat → Nat → α} {a b i : Nat} {v : α} (h : b ≠ a) : am_up f a i v b = f b := by simp [am_up, h]
theorem rgI {x : Int} (h1 : -2147483648 ≤ x) (h2 : x ≤ 2147483647) : am_rg x := ⟨h1, h2⟩
theorem up_ne {α : Type} {f : Nat → Nat → α} {a b i j : Nat} {v : α} (h : ¬ (a = b ∧ i = j)) : am_up f b j v a i = f a i := by
  unfold am_up
  by_cases h1 : a = b
  · subst h1
    rw [if_pos rfl]
    exact if_neg (fun h2 => h ⟨rfl, h2⟩)
  · rw [if_neg h1]
