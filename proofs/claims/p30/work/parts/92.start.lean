/-! the law from its entry -/
section START
/-- no row of the updates lies at or past (A, B) -/
def cuU : Nat → Nat → Nat → Bool
  | 0, _, _ => true
  | r + 1, A, B => (match am_nth UL r with
    | some (q, i, _) => Nat.blt q A && Nat.blt i B
    | none => true) && cuU r A B
def cuV : Nat → Nat → Nat → Bool
  | 0, _, _ => true
  | r + 1, A, B => (match am_nth VL r with
    | some (q, i, _) => Nat.blt q A && Nat.blt i B
    | none => true) && cuV r A B
theorem rfU_far {A B : Nat} : ∀ {r : Nat}, cuU r A B = true → ∀ a i, A ≤ a ∨ B ≤ i → rfU r a i = none
  | 0, _, _, _, _ => rfl
  | r + 1, h, a, i, hf => by
    unfold cuU at h
    obtain ⟨h1, h2⟩ := Bool.and_eq_true_iff.mp h
    have ih := rfU_far h2 a i hf
    unfold rfU
    cases e : am_nth UL r with
    | none => exact ih
    | some t =>
      obtain ⟨q, i', v⟩ := t
      rw [e] at h1
      have hq : q < A ∧ i' < B := by simpa using h1
      show am_up (rfU r) q i' (some v) a i = none
      rw [up_ne (by omega)]; exact ih
theorem gU_far {A B : Nat} : ∀ {r : Nat}, cuV r A B = true → ∀ a i, A ≤ a ∨ B ≤ i → gU r a i = 0
  | 0, _, _, _, _ => rfl
  | r + 1, h, a, i, hf => by
    unfold cuV at h
    obtain ⟨h1, h2⟩ := Bool.and_eq_true_iff.mp h
    have ih := gU_far h2 a i hf
    unfold gU
    cases e : am_nth VL r with
    | none => exact ih
    | some t =>
      obtain ⟨q, i', v⟩ := t
      rw [e] at h1
      have hq : q < A ∧ i' < B := by simpa using h1
      show am_up (gU r) q i' v a i = 0
      rw [up_ne (by omega)]; exact ih
theorem nth_far {α : Type} : ∀ (l : List α) {i : Nat}, l.length ≤ i → am_nth l i = none
  | [], _, _ => rfl
  | _ :: l, 0, h => absurd h (by simp)
  | _ :: l, i + 1, h => nth_far l (by simpa using h)
theorem RF_far {a i : Nat} (h : 75 ≤ a ∨ 34 ≤ i) : RF a i = none := by
  rcases h with h | h
  · unfold RF
    rw [nth_far RFl (i := a) (Nat.le_trans (by decide) h)]
  · unfold RF
    cases e : am_nth RFl a with
    | none => rfl
    | some l =>
      have hl : l.length ≤ 34 := by
        have hm : ∀ (L : List (List (Option Nat))) (a : Nat) (l : List (Option Nat)), am_nth L a = some l → l ∈ L := by
          intro L
          induction L with
          | nil => intro a l h; cases h
          | cons x L ih =>
            intro a l h
            cases a with
            | zero => exact List.mem_cons.mpr (Or.inl (Option.some.inj h).symm)
            | succ a => exact List.mem_cons_of_mem _ (ih a l h)
        exact (by decide +kernel : ∀ l ∈ RFl, l.length ≤ 34) l (hm _ _ _ e)
      simp only [nth_far l (Nat.le_trans hl h)]
theorem rf_tab : ∀ a < 75, ∀ i < 34, rfU 48 a i = RF a i := by decide +kernel
theorem rf_eq : rfU 48 = RF := by
  funext a i
  by_cases h : a < 75 ∧ i < 34
  · exact rf_tab a h.1 i h.2
  · rw [RF_far (by omega), rfU_far (A := 75) (B := 34) (by decide +kernel) a i (by omega)]
theorem g_ways : ∀ i < 25, gU 15 3 (i + 9) = gU 15 2 (i + 9) := by decide +kernel
theorem g_w3 (i : Nat) (h : 9 ≤ i) : gU 15 3 i = gU 15 2 i := by
  by_cases c : i < 34
  · have h2 := g_ways (i - 9) (by omega)
    rw [show i - 9 + 9 = i from by omega] at h2
    exact h2
  · simp only [gU_far (A := 75) (B := 34) (r := 15) (by decide +kernel) _ i (Or.inr (Nat.not_lt.mp c))]
theorem li0 : LI (nz (gU 15 1) 0) 0 (gU 15 2) (mkS (fun _ => []) (fun _ => 0) 0 (nz (gU 15 1) 0) 0) (gU 15 4) 0 (fun _ => []) (fun _ => 0) (gU 15 50) (gU 15) :=
  LI.of ⟨RC.anew (by omega) (by decide +kernel) rfl rfl (by unfold waysOK; decide +kernel) ⟨by decide +kernel, fun k h => absurd h (Nat.not_lt_zero _), fun k h => absurd h (Nat.not_lt_zero _)⟩ ⟨by omega, fun i j h => absurd h (Nat.not_lt_zero _), fun k h => absurd h (Nat.not_lt_zero _)⟩ rfl (fun i h => g_w3 i h) (by decide +kernel) (by decide +kernel), fun i h => absurd h (Nat.not_lt_zero _), by decide +kernel, fun k _ => rfl⟩
theorem lw0 : ∀ i, i < 9 → gU 15 2 i = loW i := by decide +kernel
theorem mem_end : Mem 51 48 15 = mk (gU 15) f00 := by
  show (List.take 51 SH, gU 15, f00, rfU 48) = (SH, gU 15, f00, RF)
  rw [rf_eq, show List.take 51 SH = SH from rfl]
theorem law_all {E : am_E} (hE : EW E) (hO : am_EO E) : am_X E 180 (0, (600000, 7302249), [some (amR 1002), none, none, none, none, none, none, none, none, none, none, none, none, none, none, none, none, none, none], [], Mem 0 0 0) (fun r _ => r = some (amI 1)) := by
  refine law_new hE ?_
  rw [mem_end]
  exact law_body hE hO li0 lw0 (fun _ => rfl)
end START
