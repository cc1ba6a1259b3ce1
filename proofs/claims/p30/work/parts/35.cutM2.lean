/-! the reference's syllables, on, and their weight -/
section CUTM3
variable {E : am_E} {g : GG} {fl : FF}
theorem nuc_le {b : Nat → Int} {n : Nat} {w : Nat → Int} {k t : Nat} (hn : n ≤ 60) (hk : k < Wn b n) (ht : t + 1 < nc b n w k) : npS b n w k t + wiS b n w k t ≤ npS b n w k (t + 1) ∧ npS b n w k (t + 1) < wt b n k := by
  obtain ⟨-, -, -, f4, f5, -, -⟩ := word_in (b := b) hn hk
  have h1 := nc_word (w := w) hn hk
  have h2 := (h1.2.1 t (by omega)).1
  have h3 := (h1.2.1 (t + 1) ht).1
  have h5 := npS_next h2
  have h6 := (fv_le (b := b) (wid_le (b := b) (w := w) h2)).1
  have h7 : wiS b n w k t = wid b w (wt b n k) (npS b n w k t) := rfl
  rw [← h7, ← h5] at h6
  exact ⟨h6, h3⟩
/-- frS and what lies behind, of the words below K -/
def MsK (b : Nat → Int) (n : Nat) (w : Nat → Int) (K : Nat) (g : GG) : Prop :=
  ∀ k, k < K → g 55 k = fs b n w k ∧ ∀ t, t < nc b n w k → g 56 (fs b n w k + t) = k ∧ g 57 (fs b n w k + t) = frK b n w k t ∧ g 58 (fs b n w k + t) = toK b n w k t ∧ g 59 (fs b n w k + t) = npS b n w k t ∧ g 60 (fs b n w k + t) = wiS b n w k t
/-- where a syllable lies -/
theorem syl_in {b : Nat → Int} {n : Nat} {w : Nat → Int} (hn : n ≤ 60) {k j : Nat} (hk : k < Wn b n) (hj : j < nc b n w k) : frK b n w k j ≤ npS b n w k j ∧ npS b n w k j + wiS b n w k j ≤ toK b n w k j ∧ toK b n w k j ≤ n ∧ (wiS b n w k j = 1 ∨ wiS b n w k j = 2) := by
  obtain ⟨f1, f2, f3, f4, f5, -, -⟩ := word_in (b := b) hn hk
  have h1 := nc_word (w := w) hn hk
  have h2 := h1.2.1 j hj
  have hwle : npS b n w k j + wiS b n w k j ≤ wt b n k := wid_le (b := b) (w := w) h2.1
  refine ⟨?_, ?_, ?_, wid_12⟩
  · cases j with
    | zero => show wf b n k ≤ _; omega
    | succ j => exact (frK_le (nuc_le hn hk hj).1).2
  · unfold toK
    split
    · omega
    · have h5 := nuc_le (w := w) hn hk (show j + 1 < nc b n w k by omega)
      have := frK_le h5.1; omega
  · unfold toK
    split
    · omega
    · have h5 := nuc_le (w := w) hn hk (show j + 1 < nc b n w k by omega)
      have := frK_le h5.1; omega
theorem mo_in {b : Nat → Int} {n : Nat} {w : Nat → Int} (hn : n ≤ 60) (hwo : waysOK w) {k j : Nat} (hk : k < Wn b n) (hj : j < nc b n w k) : 1 ≤ moK b n w k j ∧ moK b n w k j ≤ 4 ∧ frK b n w k j + moK b n w k j ≤ toK b n w k j := by
  have h1 := syl_in (w := w) hn hk hj
  have hw2 := hwo.2.2.1
  unfold moK bhK
  dsimp only
  split <;> omega
theorem mo_S {b : Nat → Int} {n s : Nat} {w : Nat → Int} (hn : n ≤ 60) (hwo : waysOK w) (hs : s < Sn b n w) : 1 ≤ moS b n w s ∧ moS b n w s ≤ 4 ∧ frS b n w s + moS b n w s ≤ toS b n w s ∧ toS b n w s ≤ n := by
  obtain ⟨o1, o2, o3, o4, o5⟩ := wo_ok (w := w) hn hs
  have h1 := mo_in (w := w) hn hwo o1 o4
  have h2 := syl_in (w := w) hn o1 o4
  exact ⟨h1.1, h1.2.1, h1.2.2, h2.2.2.1⟩
end CUTM3
