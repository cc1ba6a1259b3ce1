/-! where a text has its flaw: both programs -/
section FLAW
variable {E : am_E} {g : GG} {fl : FF} {Q : Int → GG → FF → Prop}
theorem firstFlaw_loop {n : Nat} (hn : n ≤ 60) : ∀ (f k : Nat) (v2 v3 : Int) (vb : Bool), k + f = n → v3 = k → v2 = bI vb → Q (flF (g 1) n f k vb) g fl → am_X E 67 (4, (0, 0), [some (amR 1), some (amI n), some (amI v2), some (amI v3), none], [], mk g fl) (RI Q)
  | 0, k, v2, v3, vb, h1, h2, h3, h => by
    refine b67_4 ⟨fun c => absurd c (by omega), fun _ => ?_⟩
    subst h3
    cases vb <;> simpa [flF, bI] using h
  | f + 1, k, v2, v3, vb, h1, h2, h3, h => by
    have hr : rd g 1 60 v3 = g 1 k := rd_in h2 (by omega)
    unfold flF at h
    refine b67_4 ⟨fun _ => ?_, fun c => absurd (by omega) c⟩
    rw [hr]
    refine ⟨fun c1 => ?_, fun c1 => ⟨fun c2 => ?_, fun c2 => ⟨fun c3 => ?_, fun c3 => ⟨fun c4 => ⟨rgI (by omega) (by omega), ?_⟩, fun c4 => ⟨rgI (by omega) (by omega), ?_⟩⟩⟩⟩⟩
    · rw [if_pos c1] at h
      refine ⟨fun c2 => ?_, fun c2 => ⟨rgI (by omega) (by omega), ?_⟩⟩
      · cases vb
        · simpa [h2] using h
        · simp [bI] at h3; omega
      · cases vb
        · simp [bI] at h3; omega
        · exact firstFlaw_loop hn f (k + 1) 0 (v3 + 1) false (by omega) (by omega) rfl (by simpa using h)
    · rw [if_neg c1, if_neg (by omega)] at h
      rw [h2]; exact h
    · rw [if_neg c1, if_neg (by omega)] at h
      rw [h2]; exact h
    · rw [if_neg c1, if_pos (by omega)] at h
      exact firstFlaw_loop hn f (k + 1) 1 (v3 + 1) true (by omega) (by omega) rfl (by simpa [c4] using h)
    · rw [if_neg c1, if_pos (by omega)] at h
      exact firstFlaw_loop hn f (k + 1) v2 (v3 + 1) vb (by omega) (by omega) h3 (by simpa [c4] using h)
theorem firstFlaw_ok {n : Nat} (hn : n ≤ 60) (h : Q (flaw (g 1) n) g fl) : cI E 67 [amR 1, amI n] g fl Q :=
  b67 (firstFlaw_loop hn n 0 0 0 false (by omega) rfl rfl h)
end FLAW
