/-! shares: both programs -/
section SHARE
variable {E : am_E} {g : GG} {fl : FF} {Q : Int → GG → FF → Prop}
theorem bitsC_loop {v0 v1 : Int} {r : Int} (hq : Q r g fl) : ∀ (f : Nat) (x : UInt32) (v3 v4 : Int), shG f x v3 = some r → 0 ≤ v4 → v4 + f ≤ 126 → -1000 + f ≤ v3 → v3 ≤ 1000 → am_X E 50 (16, (0, 0), [some (amI v0), some (amI v1), some (amF x), some (amI v3), some (amI v4)], [], mk g fl) (RI Q)
  | 0, x, v3, v4, h, _, _, _, _ => absurd (show none = some r from h).symm (Option.some_ne_none r)
  | f + 1, x, v3, v4, h, h4, h5, h6, h7 => by
    unfold shG at h
    refine b50_16 ⟨fun _ => ⟨fun c => ?_, fun c => ?_⟩, fun c => absurd (by omega) c⟩
    · rw [if_pos c] at h
      by_cases c2 : okN (FP.fmul x FP.fconst2) = true
      · rw [if_pos c2] at h
        exact ⟨okN_n c2, rgI (by omega) (by omega), rgI (by omega) (by omega), bitsC_loop hq f _ _ _ h (by omega) (by omega) (by omega) (by omega)⟩
      · rw [if_neg c2] at h; exact absurd h.symm (Option.some_ne_none r)
    · rw [if_neg c] at h
      by_cases c2 : okN (FP.fsub x FP.fconst1) = true ∧ okN (FP.fmul (FP.fsub x FP.fconst1) (UInt32.ofNat 1258291200)) = true ∧ am_or (am_shl v3 23) (shM x) = am_shl v3 23 + shM x ∧ -2147483648 ≤ am_shl v3 23 + shM x ∧ am_shl v3 23 + shM x ≤ 2147483647
      · rw [if_pos c2] at h
        obtain ⟨k1, k2, k3, k4, k5⟩ := c2
        have h := Option.some.inj h
        rw [← h] at hq
        refine ⟨okN_n k1, okN_n k2, ?_⟩
        rw [← k3] at hq; exact hq
      · rw [if_neg c2] at h; exact absurd h.symm (Option.some_ne_none r)
theorem shG_ok {a b : Nat} (h1 : 0 < b) (h2 : b ≤ 60) (ha : a ≤ b) (h0 : 0 < a) : okN (shX a b) = true ∧ ¬ am_fcm .l (shX a b) FP.fconst0 = 0 ∧ shG 8 (shX a b) 127 = some (shV a b) := by
  have h := sh_ok h1 h2 ha
  unfold shOK at h
  rw [if_neg (by omega)] at h
  obtain ⟨z1, z2⟩ := Bool.and_eq_true_iff.mp h
  obtain ⟨z3, z4⟩ := Bool.and_eq_true_iff.mp z2
  refine ⟨z1, by simpa using z3, ?_⟩
  unfold shV
  rw [if_pos ⟨h0, h1⟩]
  cases hv : shG 8 (shX a b) 127 with
  | none => rw [hv] at z4; cases z4
  | some v => rfl
theorem bitsC_ok {a b : Nat} {v0 v1 : Int} (h0 : v0 = a) (h1 : v1 = b) (hb : b ≤ 60) (ha : a ≤ b) (hq : Q (shV a b) g fl) : cI E 50 [amI v0, amI v1] g fl Q := by
  subst h0; subst h1
  refine b50 ⟨fun c => ⟨fun c2 => ?_, fun c2 => ?_⟩, fun c => ?_⟩
  · obtain ⟨k1, k2, k3⟩ := shG_ok (a := a) (b := b) (by omega) hb ha (by omega)
    exact ⟨okN_n k1, bitsC_loop hq 8 _ _ _ k3 (by omega) (by omega) (by omega) (by omega)⟩
  · unfold shV at hq; rw [if_neg (by omega)] at hq; exact hq
  · unfold shV at hq; rw [if_neg (by omega)] at hq; exact hq
end SHARE
