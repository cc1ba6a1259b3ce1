/-! the law from its entry -/
section START
/-- no row of the updates lies at or past (A, B) -/
def cuU : Nat → Nat → Nat → Bool
  | 0, _, _ => true
  | r + 1, A, B => (match am_nth UL r with
    | some (q, i, _) => Nat.blt q A && Nat.blt i B
    | none => true) && cuU r A B
def cuV : Nat → Nat → Nat → Bool
  | 0, _, _ => true
  | r + 1, A, B => (match am_nth VL r with
    | some (q, i, _) => Nat.blt q A && Nat.blt i B
    | none => true) && cuV r A B
theorem rfU_far {A B : Nat} : ∀ {r : Nat}, cuU r A B = true → ∀ a i, A ≤ a ∨ B ≤ i → rfU r a i = none
  | 0, _, _, _, _ => rfl
  | r + 1, h, a, i, hf => by
    unfold cuU at h
    obtain ⟨h1, h2⟩ := Bool.and_eq_true_iff.mp h
    have ih := rfU_far h2 a i hf
    unfold rfU
    cases e : am_nth UL r with
    | none => exact ih
    | some t =>
      obtain ⟨q, i', v⟩ := t
      rw [e] at h1
      have hq : q < A ∧ i' < B := by simpa using h1
      show am_up (rfU r) q i' (some v) a i = none
      rw [up_ne (by omega)]; exact ih
theorem gU_far {A B : Nat} : ∀ {r : Nat}, cuV r A B = true → ∀ a i, A ≤ a ∨ B ≤ i → gU r a i = 0
  | 0, _, _, _, _ => rfl
  | r + 1, h, a, i, hf => by
    unfold cuV at h
    obtain ⟨h1, h2⟩ := Bool.and_eq_true_iff.mp h
    have ih := gU_far h2 a i hf
    unfold gU
    cases e : am_nth VL r with
    | none => exact ih
    | some t =>
      obtain ⟨q, i', v⟩ := t
      rw [e] at h1
      have hq : q < A ∧ i' < B := by simpa using h1
      show am_up (gU r) q i' v a i = 0
      rw [up_ne (by omega)]; exact ih
theorem nth_far {α : Type} : ∀ (l : List α) {i : Nat}, l.length ≤ i → am_nth l i = none
  | [], _, _ => rfl
  | _ :: l, 0, h => absurd h (by simp)
  | _ :: l, i + 1, h => nth_far l (by simpa using h)
theorem RF_far {a i : Nat} (h : 75 ≤ a ∨ 34 ≤ i) : RF a i = none := by
  rcases h with h | h
  · unfold RF
    rw [nth_far RFl (i := a) (Nat.le_trans (by decide) h)]
  · unfold RF
    cases e : am_nth RFl a with
    | none => rfl
    | some l =>
      have hl : l.length ≤ 34 := by
        have hm : ∀ (L : List (List (Option Nat))) (a : Nat) (l : List (Option Nat)), am_nth L a = some l → l ∈ L := by
          intro L
          induction L with
          | nil => intro a l h; cases h
          | cons x L ih =>
            intro a l h
            cases a with
            | zero => exact List.mem_cons.mpr (Or.inl (Option.some.inj h).symm)
            | succ a => exact List.mem_cons_of_mem _ (ih a l h)
        exact (by decide +kernel : ∀ l ∈ RFl, l.length ≤ 34) l (hm _ _ _ e)
      simp only [nth_far l (Nat.le_trans hl h)]
theorem rf_tab : ∀ a < 75, ∀ i < 34, rfU 73 a i = RF a i := by decide +kernel
theorem rf_eq : rfU 73 = RF := by
  funext a i
  by_cases h : a < 75 ∧ i < 34
  · exact rf_tab a h.1 i h.2
  · rw [RF_far (by omega), rfU_far (A := 75) (B := 34) (by decide +kernel) a i (by omega)]
theorem g_tab : ∀ i < 34, gU 20 51 i = gU 20 2 i ∧ gU 20 52 i = gU 20 4 i := by decide +kernel
theorem g_pair : gU 20 51 = gU 20 2 ∧ gU 20 52 = gU 20 4 := by
  have h : ∀ i, gU 20 51 i = gU 20 2 i ∧ gU 20 52 i = gU 20 4 i := fun i => by
    by_cases c : i < 34
    · exact g_tab i c
    · simp only [gU_far (A := 75) (B := 34) (r := 20) (by decide +kernel) _ i (Or.inr (Nat.not_lt.mp c))]
      exact ⟨trivial, trivial⟩
  exact ⟨funext fun i => (h i).1, funext fun i => (h i).2⟩
theorem g_ways : ∀ i < 25, gU 20 3 (i + 9) = gU 20 2 (i + 9) := by decide +kernel
theorem rel0 : Rel (gU 20) f00 := by
  refine Rel.new (n := 0) (N := 0) (T := fun _ => []) (T' := fun _ => []) (P := fun _ => 0) (P' := fun _ => 0) (by omega) (by decide +kernel) (by decide +kernel) ?_ g_pair.1 g_pair.2 ⟨by decide +kernel, fun k h => absurd h (Nat.not_lt_zero _), fun k h => absurd h (Nat.not_lt_zero _)⟩ ⟨by omega, fun i j h => absurd h (Nat.not_lt_zero _), fun k h => absurd h (Nat.not_lt_zero _)⟩ ⟨by decide +kernel, fun k h => absurd h (Nat.not_lt_zero _), fun k h => absurd h (Nat.not_lt_zero _)⟩ ⟨by omega, fun i j h => absurd h (Nat.not_lt_zero _), fun k h => absurd h (Nat.not_lt_zero _)⟩ ?_ (by decide +kernel) (by decide +kernel) (fun i h => absurd h (Nat.not_lt_zero _)) (fun t p => ⟨fun ⟨k, h, _⟩ => absurd h (Nat.not_lt_zero _), fun ⟨k, h, _⟩ => absurd h (Nat.not_lt_zero _)⟩) (by decide +kernel) ?_
  · unfold waysOK; decide +kernel
  · intro i h
    by_cases c : i < 34
    · have h2 := g_ways (i - 9) (by omega)
      rw [show i - 9 + 9 = i from by omega] at h2
      exact h2
    · simp only [gU_far (A := 75) (B := 34) (r := 20) (by decide +kernel) _ i (Or.inr (Nat.not_lt.mp c))]
  · have h : ∀ s < 4, gU 20 (37 + 3 * s) 2 = 1 ∧ gU 20 69 s = -1 := by decide +kernel
    exact fun s hs => Or.inl (h s hs)
theorem mem_end : Mem 75 73 20 = mk (gU 20) f00 := by
  show (List.take 75 SH, gU 20, f00, rfU 73) = (SH, gU 20, f00, RF)
  rw [rf_eq, show List.take 75 SH = SH from rfl]
theorem law_all {E : am_E} (hE : EW E) (hO : am_EO E) (hL : (E 2).1 ≤ 3072) : am_X E 180 (0, (600000, 7302250), [some (amR 1002), none, none, none], [], Mem 0 0 0) (fun r _ => r = some (amI 1)) := by
  refine law_new hE ?_
  rw [mem_end]
  exact law_loop hE hO hL 1000 0 0 _ _ (by omega) rfl (by omega) rel0
end START
