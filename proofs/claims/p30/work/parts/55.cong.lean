/-! the cut looks at four ways alone; sums of moras; texts side by side -/
abbrev c4 (w w' : Nat → Int) : Prop := w 0 = w' 0 ∧ w 1 = w' 1 ∧ w 2 = w' 2 ∧ w 3 = w' 3
section CONG
variable {b : Nat → Int} {n : Nat} {w w' : Nat → Int}
theorem wid_c (h : c4 w w') : wid b w = wid b w' := by funext e i; unfold wid; rw [h.1]
theorem np_c (h : c4 w w') {p e : Nat} : ∀ j, np b w p e j = np b w' p e j
  | 0 => rfl
  | j + 1 => by unfold np; rw [np_c h j, wid_c h]
theorem ncF_c (h : c4 w w') {p e : Nat} : ∀ f j, ncF b w p e f j = ncF b w' p e f j
  | 0, _ => rfl
  | f + 1, j => by unfold ncF; rw [np_c h j, ncF_c h f (j + 1)]
theorem nc_c (h : c4 w w') : nc b n w = nc b n w' := by funext k; exact ncF_c h _ _
theorem fs_c (h : c4 w w') : fs b n w = fs b n w' := by
  funext k
  induction k with
  | zero => rfl
  | succ k ih => show fs b n w k + nc b n w k = fs b n w' k + nc b n w' k; rw [ih, nc_c h]
theorem Sn_c (h : c4 w w') : Sn b n w = Sn b n w' := by unfold Sn; rw [fs_c h]
theorem woF_c (h : c4 w w') {s : Nat} : ∀ f k, woF b n w s f k = woF b n w' s f k
  | 0, _ => rfl
  | f + 1, k => by unfold woF; rw [fs_c h, woF_c h f (k + 1)]
theorem wo_c (h : c4 w w') : wo b n w = wo b n w' := by funext s; exact woF_c h _ _
theorem npS_c (h : c4 w w') : npS b n w = npS b n w' := by funext k j; exact np_c h j
theorem wiS_c (h : c4 w w') : wiS b n w = wiS b n w' := by funext k j; unfold wiS; rw [wid_c h, npS_c h]
theorem frK_c (h : c4 w w') : frK b n w = frK b n w' := by
  funext k j
  cases j with
  | zero => rfl
  | succ j => unfold frK; rw [npS_c h, wiS_c h, h.2.1]
theorem toK_c (h : c4 w w') : toK b n w = toK b n w' := by funext k j; unfold toK; rw [nc_c h, frK_c h]
theorem bhK_c (h : c4 w w') : bhK b n w = bhK b n w' := by funext k j; unfold bhK; rw [toK_c h, npS_c h, wiS_c h, nc_c h, h.2.2.2]
theorem moK_c (h : c4 w w') : moK b n w = moK b n w' := by funext k j; unfold moK; rw [bhK_c h, wiS_c h, h.2.2.1]
theorem jS_c (h : c4 w w') : jS b n w = jS b n w' := by funext s; unfold jS; rw [fs_c h, wo_c h]
theorem frS_c (h : c4 w w') : frS b n w = frS b n w' := by funext s; unfold frS; rw [frK_c h, wo_c h, jS_c h]
theorem toS_c (h : c4 w w') : toS b n w = toS b n w' := by funext s; unfold toS; rw [toK_c h, wo_c h, jS_c h]
theorem moS_c (h : c4 w w') : moS b n w = moS b n w' := by funext s; unfold moS; rw [moK_c h, wo_c h, jS_c h]
theorem loS_c (h : c4 w w') : loS b n w = loS b n w' := by unfold loS; rw [fs_c h, wo_c h]
theorem hiS_c (h : c4 w w') : hiS b n w = hiS b n w' := by unfold hiS; rw [fs_c h, nc_c h, wo_c h]
theorem wc_c4 {c : Nat} : c4 (wc w c) w := ⟨rfl, rfl, rfl, rfl⟩
/-- a syllable ends where the next one begins, or a blank ahead of it -/
theorem sy_next (hn : n ≤ 60) {s : Nat} (hs : s + 1 < Sn b n w) : toS b n w s ≤ frS b n w (s + 1) := by
  have hWl := Wn_le (b := b) (n := n) hn
  obtain ⟨o1, o2, o3, o4, o5⟩ := wo_ok (b := b) (w := w) hn (s := s) (by omega)
  obtain ⟨k, hk⟩ : ∃ k, k = wo b n w s := ⟨_, rfl⟩
  obtain ⟨j, hj⟩ : ∃ j, j = jS b n w s := ⟨_, rfl⟩
  have hfs1 : fs b n w (k + 1) = fs b n w k + nc b n w k := rfl
  have hSn : Sn b n w = fs b n w (Wn b n) := rfl
  unfold toS frS
  rw [← hk, ← hj] at o5 o4 ⊢
  rw [← hk] at o1
  by_cases c : j + 1 < nc b n w k
  · obtain ⟨e1, e2⟩ := wo_kj (b := b) (n := n) (w := w) (k := k) (j := j + 1) (by omega) c
    rw [show fs b n w k + (j + 1) = s + 1 by omega] at e1 e2
    rw [e1, e2]
    unfold toK
    rw [if_neg (by omega)]
    exact Nat.le_refl _
  · have hk1 : k + 1 < Wn b n := by
      rcases Nat.lt_or_ge (k + 1) (Wn b n) with y | y
      · exact y
      · have : k + 1 = Wn b n := by omega
        rw [← this] at hSn
        omega
    have hz := (nc_word (w := w) hn hk1).1
    obtain ⟨e1, e2⟩ := wo_kj (b := b) (n := n) (w := w) (k := k + 1) (j := 0) (by omega) hz
    rw [show fs b n w (k + 1) + 0 = s + 1 by omega] at e1 e2
    rw [e1, e2]
    unfold toK
    rw [if_pos (by omega)]
    show wt b n k ≤ wf b n (k + 1)
    rw [wf_s]; omega
theorem ma_le (hn : n ≤ 60) (hwo : waysOK w) : ∀ m, m ≤ Sn b n w → smF (moS b n w) m ≤ (if m = 0 then 0 else toS b n w (m - 1))
  | 0, _ => Nat.le_refl _
  | m + 1, h => by
    have ih := ma_le hn hwo m (by omega)
    have hm := mo_S hn hwo (b := b) (w := w) (s := m) (by omega)
    rw [smF_s, if_neg (by omega), Nat.add_sub_cancel]
    by_cases c : m = 0
    · rw [if_pos c] at ih; omega
    · rw [if_neg c] at ih
      have := sy_next (b := b) (w := w) hn (s := m - 1) (by omega)
      rw [show m - 1 + 1 = m by omega] at this
      omega
theorem maA_le (hn : n ≤ 60) (hwo : waysOK w) : maA b n w ≤ 60 := by
  have h := ma_le hn hwo (b := b) (w := w) (Sn b n w) (Nat.le_refl _)
  unfold maA
  by_cases c : Sn b n w = 0
  · rw [if_pos c] at h; omega
  · rw [if_neg c] at h
    have hm := mo_S hn hwo (b := b) (w := w) (s := Sn b n w - 1) (by omega)
    omega
theorem maA_pos (hn : n ≤ 60) (hwo : waysOK w) (h : 0 < Sn b n w) : 0 < maA b n w := by
  unfold maA
  obtain ⟨m, hm⟩ : ∃ m, Sn b n w = m + 1 := ⟨Sn b n w - 1, by omega⟩
  have := mo_S hn hwo (b := b) (w := w) (s := m) (by omega)
  rw [hm, smF_s]; omega
theorem mhA_le {mk' : Nat → Int} : mhA b n w mk' ≤ maA b n w := smF_le (fun k _ => by show (if _ then _ else _ : Nat) ≤ _; split <;> omega)
/-- texts whose bytes are the same, or both not letters nor blanks -/
theorem bR_nz {b b' : Nat → Int} {n : Nat} (h : ∀ i, i < n → bR (b i) (b' i)) : nz b n = nz b' n ∨ (flaw (nz b n) n ≠ -1 ∧ flaw (nz b' n) n ≠ -1) := by
  have hf : flaw (nz b n) n = flaw (nz b' n) n := flaw_same (fun i hi => by rw [nz_in hi, nz_in hi]; exact h i hi)
  by_cases c : flaw (nz b n) n = -1
  · left
    funext i
    by_cases hi : i < n
    · have hl := flF_none (b := nz b n) (n := n) n 0 false (by omega) c i (by omega) hi
      rw [nz_in hi] at hl ⊢
      rw [nz_in hi]
      rcases h i hi with y | ⟨⟨y1, y2⟩, -⟩
      · exact y
      · rcases hl with z | z
        · exact absurd z y1
        · exact absurd z y2
    · unfold nz; rw [if_neg hi, if_neg hi]
  · exact Or.inr ⟨c, by rw [← hf]; exact c⟩
theorem bR_fl {b b' : Nat → Int} {n : Nat} (h : ∀ i, i < n → bR (b i) (b' i)) : flaw (nz b n) n = flaw (nz b' n) n := flaw_same (fun i hi => by rw [nz_in hi, nz_in hi]; exact h i hi)
theorem Sn_0 (h : flaw b n ≠ -1) : Sn b n w = 0 := by unfold Sn; rw [Wn_0 h]; rfl
end CONG
