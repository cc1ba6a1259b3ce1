/-! the plain mathematics of words and syllables; b: the bytes, n: how many, w: the ways -/
def nz (b : Nat → Int) (n : Nat) : Nat → Int := fun i => if i < n then b i else 0
theorem nz_in {b : Nat → Int} {n i : Nat} (h : i < n) : nz b n i = b i := if_pos h
/-- the first blank from i on (f places are left), or the end -/
def nbF (b : Nat → Int) : Nat → Nat → Nat
  | 0, i => i
  | f + 1, i => if b i = 32 then i else nbF b f (i + 1)
def nb (b : Nat → Int) (n i : Nat) : Nat := nbF b (n - i) i
theorem nb_end {b : Nat → Int} {n : Nat} : nb b n n = n := by simp [nb, nbF]
theorem nb_blank {b : Nat → Int} {n i : Nat} (h : i < n) (hb : b i = 32) : nb b n i = i := by
  obtain ⟨f, hf⟩ : ∃ f, n - i = f + 1 := ⟨n - i - 1, by omega⟩
  simp [nb, hf, nbF, hb]
theorem nb_step {b : Nat → Int} {n i : Nat} (h : i < n) (hb : b i ≠ 32) : nb b n i = nb b n (i + 1) := by
  obtain ⟨f, hf⟩ : ∃ f, n - i = f + 1 := ⟨n - i - 1, by omega⟩
  have h2 : n - (i + 1) = f := by omega
  simp [nb, hf, h2, nbF, hb]
theorem nbF_le (b : Nat → Int) : ∀ (f i : Nat), i ≤ nbF b f i ∧ nbF b f i ≤ i + f
  | 0, i => ⟨Nat.le_refl _, Nat.le_refl _⟩
  | f + 1, i => by
    unfold nbF
    split
    · omega
    · have := nbF_le b f (i + 1); omega
theorem nb_le {b : Nat → Int} {n i : Nat} (h : i ≤ n) : i ≤ nb b n i ∧ nb b n i ≤ n := by
  have := nbF_le b (n - i) i
  unfold nb; omega
theorem nbF_no (b : Nat → Int) : ∀ (f i j : Nat), i ≤ j → j < nbF b f i → b j ≠ 32
  | 0, i, j, h1, h2 => by unfold nbF at h2; omega
  | f + 1, i, j, h1, h2 => by
    unfold nbF at h2
    split at h2
    · omega
    · rename_i hb
      by_cases hj : j = i
      · subst hj; exact hb
      · exact nbF_no b f (i + 1) j (by omega) h2
theorem nb_no {b : Nat → Int} {n i j : Nat} (h1 : i ≤ j) (h2 : j < nb b n i) : b j ≠ 32 := nbF_no b _ i j h1 h2
theorem nbF_is (b : Nat → Int) : ∀ (f i : Nat), nbF b f i < i + f → b (nbF b f i) = 32
  | 0, i, h => by unfold nbF at h; omega
  | f + 1, i, h => by
    unfold nbF at h ⊢
    split
    · assumption
    · rename_i hb
      rw [if_neg hb] at h
      exact nbF_is b f (i + 1) (by omega)
theorem nb_is {b : Nat → Int} {n i : Nat} (hi : i ≤ n) (h : nb b n i < n) : b (nb b n i) = 32 := nbF_is b _ i (by unfold nb at h; omega)
/-- the first vowel from i on, below e, or e -/
def fvF (b : Nat → Int) : Nat → Nat → Nat
  | 0, i => i
  | f + 1, i => if isV (b i) then i else fvF b f (i + 1)
def fv (b : Nat → Int) (e i : Nat) : Nat := fvF b (e - i) i
theorem fv_end {b : Nat → Int} {e i : Nat} (h : e ≤ i) : fv b e i = i := by
  have h0 : e - i = 0 := by omega
  simp [fv, h0, fvF]
theorem fv_yes {b : Nat → Int} {e i : Nat} (h : i < e) (hb : isV (b i)) : fv b e i = i := by
  obtain ⟨f, hf⟩ : ∃ f, e - i = f + 1 := ⟨e - i - 1, by omega⟩
  simp only [fv, hf, fvF]
  rw [if_pos hb]
theorem fv_step {b : Nat → Int} {e i : Nat} (h : i < e) (hb : ¬ isV (b i)) : fv b e i = fv b e (i + 1) := by
  obtain ⟨f, hf⟩ : ∃ f, e - i = f + 1 := ⟨e - i - 1, by omega⟩
  have h2 : e - (i + 1) = f := by omega
  simp only [fv, hf, h2, fvF]
  rw [if_neg hb]
theorem fvF_le (b : Nat → Int) : ∀ (f i : Nat), i ≤ fvF b f i ∧ fvF b f i ≤ i + f
  | 0, i => ⟨Nat.le_refl _, Nat.le_refl _⟩
  | f + 1, i => by
    unfold fvF
    split
    · omega
    · have := fvF_le b f (i + 1); omega
theorem fv_le {b : Nat → Int} {e i : Nat} (h : i ≤ e) : i ≤ fv b e i ∧ fv b e i ≤ e := by
  have := fvF_le b (e - i) i
  unfold fv; omega
theorem fvF_no (b : Nat → Int) : ∀ (f i j : Nat), i ≤ j → j < fvF b f i → ¬ isV (b j)
  | 0, i, j, h1, h2 => by unfold fvF at h2; omega
  | f + 1, i, j, h1, h2 => by
    unfold fvF at h2
    split at h2
    · omega
    · rename_i hb
      by_cases hj : j = i
      · subst hj; exact hb
      · exact fvF_no b f (i + 1) j (by omega) h2
theorem fv_no {b : Nat → Int} {e i j : Nat} (h1 : i ≤ j) (h2 : j < fv b e i) : ¬ isV (b j) := fvF_no b _ i j h1 h2
theorem fvF_is (b : Nat → Int) : ∀ (f i : Nat), fvF b f i < i + f → isV (b (fvF b f i))
  | 0, i, h => by unfold fvF at h; omega
  | f + 1, i, h => by
    unfold fvF at h ⊢
    split
    · assumption
    · rename_i hb
      rw [if_neg hb] at h
      exact fvF_is b f (i + 1) (by omega)
theorem fv_is {b : Nat → Int} {e i : Nat} (h : fv b e i < e) (hi : i ≤ e) : isV (b (fv b e i)) := fvF_is b _ i (by unfold fv at h; omega)
/-- words: where the k-th begins and ends -/
def wd (b : Nat → Int) (n : Nat) : Nat → Nat × Nat
  | 0 => (0, nb b n 0)
  | k + 1 => ((wd b n k).2 + 1, nb b n ((wd b n k).2 + 1))
def wf (b : Nat → Int) (n k : Nat) : Nat := (wd b n k).1
def wt (b : Nat → Int) (n k : Nat) : Nat := (wd b n k).2
theorem wf_0 {b : Nat → Int} {n : Nat} : wf b n 0 = 0 := rfl
theorem wt_nb {b : Nat → Int} {n k : Nat} : wt b n k = nb b n (wf b n k) := by cases k <;> rfl
theorem wf_s {b : Nat → Int} {n k : Nat} : wf b n (k + 1) = wt b n k + 1 := rfl
/-- how many words: the first whose end is the text's -/
def WcF (b : Nat → Int) (n : Nat) : Nat → Nat → Nat
  | 0, k => k
  | f + 1, k => if wt b n k = n then k + 1 else WcF b n f (k + 1)
def Wn (b : Nat → Int) (n : Nat) : Nat := if flaw b n = -1 then WcF b n 31 0 else 0
/-- width of the nucleus at i of a word that ends at e -/
def wid (b : Nat → Int) (w : Nat → Int) (e i : Nat) : Nat := if i + 1 < e ∧ (b i = b (i + 1) ∨ (w 0 = 1 ∧ (b (i + 1) = 105 ∨ b (i + 1) = 117))) then 2 else 1
/-- the j-th nucleus of the word from p to e; e: there is none -/
def np (b : Nat → Int) (w : Nat → Int) (p e : Nat) : Nat → Nat
  | 0 => fv b e p
  | j + 1 => if np b w p e j < e then fv b e (np b w p e j + wid b w e (np b w p e j)) else e
/-- how many nuclei it has -/
def ncF (b : Nat → Int) (w : Nat → Int) (p e : Nat) : Nat → Nat → Nat
  | 0, j => j
  | f + 1, j => if np b w p e j < e then ncF b w p e f (j + 1) else j
def nc (b : Nat → Int) (n : Nat) (w : Nat → Int) (k : Nat) : Nat := ncF b w (wf b n k) (wt b n k) 61 0
/-- the number of a word's first syllable -/
def fs (b : Nat → Int) (n : Nat) (w : Nat → Int) : Nat → Nat
  | 0 => 0
  | k + 1 => fs b n w k + nc b n w k
def Sn (b : Nat → Int) (n : Nat) (w : Nat → Int) : Nat := fs b n w (Wn b n)
/-- the word of a syllable -/
def woF (b : Nat → Int) (n : Nat) (w : Nat → Int) (s : Nat) : Nat → Nat → Nat
  | 0, k => k
  | f + 1, k => if s < fs b n w (k + 1) then k else woF b n w s f (k + 1)
def wo (b : Nat → Int) (n : Nat) (w : Nat → Int) (s : Nat) : Nat := woF b n w s 31 0
def npS (b : Nat → Int) (n : Nat) (w : Nat → Int) (k j : Nat) : Nat := np b w (wf b n k) (wt b n k) j
def wiS (b : Nat → Int) (n : Nat) (w : Nat → Int) (k j : Nat) : Nat := wid b w (wt b n k) (npS b n w k j)
def frK (b : Nat → Int) (n : Nat) (w : Nat → Int) (k : Nat) : Nat → Nat
  | 0 => wf b n k
  | j + 1 => npS b n w k (j + 1) - min (w 1).toNat (npS b n w k (j + 1) - (npS b n w k j + wiS b n w k j))
def toK (b : Nat → Int) (n : Nat) (w : Nat → Int) (k j : Nat) : Nat := if j + 1 = nc b n w k then wt b n k else frK b n w k (j + 1)
/-- letters behind the nucleus that may count -/
def bhK (b : Nat → Int) (n : Nat) (w : Nat → Int) (k j : Nat) : Nat :=
  let d := toK b n w k j - (npS b n w k j + wiS b n w k j)
  if w 3 = 1 ∧ j + 1 = nc b n w k ∧ 0 < d then d - 1 else d
def moK (b : Nat → Int) (n : Nat) (w : Nat → Int) (k j : Nat) : Nat := wiS b n w k j + min (bhK b n w k j) (w 2).toNat
/-- all of it by the syllable's number -/
def jS (b : Nat → Int) (n : Nat) (w : Nat → Int) (s : Nat) : Nat := s - fs b n w (wo b n w s)
def frS (b : Nat → Int) (n : Nat) (w : Nat → Int) (s : Nat) : Nat := frK b n w (wo b n w s) (jS b n w s)
def toS (b : Nat → Int) (n : Nat) (w : Nat → Int) (s : Nat) : Nat := toK b n w (wo b n w s) (jS b n w s)
def nuS (b : Nat → Int) (n : Nat) (w : Nat → Int) (s : Nat) : Nat := npS b n w (wo b n w s) (jS b n w s)
def widS (b : Nat → Int) (n : Nat) (w : Nat → Int) (s : Nat) : Nat := wiS b n w (wo b n w s) (jS b n w s)
def moS (b : Nat → Int) (n : Nat) (w : Nat → Int) (s : Nat) : Nat := moK b n w (wo b n w s) (jS b n w s)
section CUTM
variable {b : Nat → Int} {n : Nat} {w : Nat → Int}
theorem wid_12 {e i : Nat} : wid b w e i = 1 ∨ wid b w e i = 2 := by unfold wid; split <;> simp
theorem wid_le {e i : Nat} (h : i < e) : i + wid b w e i ≤ e := by unfold wid; split <;> omega
theorem np_le {p e : Nat} (hp : p ≤ e) : ∀ j, np b w p e j ≤ e
  | 0 => (fv_le hp).2
  | j + 1 => by
    unfold np
    split
    · rename_i h
      exact (fv_le (wid_le h)).2
    · exact Nat.le_refl _
theorem np_ge {p e : Nat} (hp : p ≤ e) : ∀ j, np b w p e j < e → p + j ≤ np b w p e j
  | 0, _ => (fv_le hp).1
  | j + 1, h => by
    unfold np at h ⊢
    split
    · rename_i h1
      rw [if_pos h1] at h
      have h2 := np_ge hp j h1
      have h3 := (fv_le (b := b) (wid_le (b := b) (w := w) h1)).1
      rcases wid_12 (b := b) (w := w) (e := e) (i := np b w p e j) with h4 | h4 <;> omega
    · rename_i h1
      rw [if_neg h1] at h
      omega
theorem np_isV {p e : Nat} (hp : p ≤ e) : ∀ j, np b w p e j < e → isV (b (np b w p e j))
  | 0, h => fv_is h hp
  | j + 1, h => by
    unfold np at h ⊢
    split
    · rename_i h1
      rw [if_pos h1] at h
      exact fv_is h (wid_le h1)
    · rename_i h1
      rw [if_neg h1] at h
      omega
theorem np_over {p e : Nat} : ∀ {j i : Nat}, ¬ np b w p e j < e → j < i → np b w p e i = e
  | j, 0, _, h => by omega
  | j, i + 1, h, h2 => by
    unfold np
    by_cases hj : j = i
    · subst hj; rw [if_neg h]
    · rw [np_over (j := j) (i := i) h (by omega), if_neg (by omega)]
/-- counting the nuclei -/
theorem ncF_is {p e : Nat} (hp : p ≤ e) : ∀ (f j : Nat), e < p + j + f → (∀ i, i < j → np b w p e i < e) → (∀ i, i < ncF b w p e f j → np b w p e i < e) ∧ ¬ np b w p e (ncF b w p e f j) < e
  | 0, j, h, h1 => by
    refine ⟨h1, fun h2 => ?_⟩
    have h3 : np b w p e j < e := h2
    have := np_ge (b := b) (w := w) hp j h3
    omega
  | f + 1, j, h, h1 => by
    unfold ncF
    split
    · rename_i h2
      exact ncF_is hp f (j + 1) (by omega) (fun i hi => by
        by_cases hij : i = j
        · subst hij; exact h2
        · exact h1 i (by omega))
    · rename_i h2
      exact ⟨h1, h2⟩
theorem nc_is {k : Nat} (hk : wf b n k ≤ wt b n k) (he : wt b n k ≤ 60) : (∀ i, i < nc b n w k → npS b n w k i < wt b n k) ∧ npS b n w k (nc b n w k) = wt b n k := by
  have h := ncF_is (b := b) (w := w) hk 61 0 (by omega) (fun i hi => by omega)
  refine ⟨h.1, ?_⟩
  have h2 := np_le (b := b) (w := w) hk (nc b n w k)
  have h3 := h.2
  unfold npS
  unfold nc at h2 ⊢
  omega
/-- how many it is, by any count that ends -/
theorem nc_of {k j : Nat} (hk : wf b n k ≤ wt b n k) (he : wt b n k ≤ 60) (h1 : ∀ i, i < j → npS b n w k i < wt b n k) (h2 : npS b n w k j = wt b n k) : nc b n w k = j := by
  have h := nc_is (b := b) (w := w) hk he
  rcases Nat.lt_trichotomy (nc b n w k) j with h3 | h3 | h3
  · have := h1 _ h3; omega
  · exact h3
  · have := h.1 _ h3; omega
theorem fs_mono {k l : Nat} (h : k ≤ l) : fs b n w k ≤ fs b n w l := by
  induction l with
  | zero => have : k = 0 := by omega
            subst this; exact Nat.le_refl _
  | succ l ih =>
    by_cases hk : k = l + 1
    · subst hk; exact Nat.le_refl _
    · exact Nat.le_trans (ih (by omega)) (Nat.le_add_right _ _)
theorem woF_is {s : Nat} : ∀ (f i k : Nat), i ≤ k → k < i + f → fs b n w k ≤ s → s < fs b n w (k + 1) → woF b n w s f i = k
  | 0, i, k, h1, h2, _, _ => by omega
  | f + 1, i, k, h1, h2, h3, h4 => by
    unfold woF
    by_cases hik : i = k
    · subst hik; rw [if_pos h4]
    · have h5 : fs b n w (i + 1) ≤ fs b n w k := fs_mono (by omega)
      rw [if_neg (by omega)]
      exact woF_is f (i + 1) k (by omega) (by omega) h3 h4
theorem wo_is {s k : Nat} (hk : k < 31) (h3 : fs b n w k ≤ s) (h4 : s < fs b n w (k + 1)) : wo b n w s = k := woF_is 31 0 k (by omega) (by omega) h3 h4
theorem wo_kj {k j : Nat} (hk : k < 31) (hj : j < nc b n w k) : wo b n w (fs b n w k + j) = k ∧ jS b n w (fs b n w k + j) = j := by
  have h := wo_is (b := b) (n := n) (w := w) (s := fs b n w k + j) hk (by omega) (by show _ < fs b n w k + nc b n w k; omega)
  exact ⟨h, by unfold jS; rw [h]; omega⟩
end CUTM
/-- what a text without a flaw has: after the start, and after each blank, a vowel before the next blank -/
theorem flF_a {b : Nat → Int} {n : Nat} : ∀ (f k : Nat), k + f = n → flF b n f k false = -1 → ∃ i, k ≤ i ∧ i < n ∧ isV (b i) ∧ ∀ j, k ≤ j → j ≤ i → b j ≠ 32
  | 0, k, h0, h => by
    have h1 : (n : Int) = -1 := by simpa [flF] using h
    omega
  | f + 1, k, h0, h => by
    unfold flF at h
    by_cases c1 : b k = 32
    · rw [if_pos c1] at h
      have h1 : (k : Int) = -1 := by simpa using h
      omega
    · rw [if_neg c1] at h
      by_cases c2 : 97 ≤ b k ∧ b k ≤ 122
      · rw [if_pos c2] at h
        by_cases c3 : isV (b k)
        · exact ⟨k, Nat.le_refl _, by omega, c3, fun j h1 h2 => by rw [show j = k by omega]; exact c1⟩
        · have h2 : flF b n f (k + 1) false = -1 := by simpa [c3] using h
          obtain ⟨i, h3, h4, h5, h6⟩ := flF_a f (k + 1) (by omega) h2
          refine ⟨i, by omega, h4, h5, fun j h7 h8 => ?_⟩
          by_cases hj : j = k
          · rw [hj]; exact c1
          · exact h6 j (by omega) h8
      · rw [if_neg c2] at h
        omega
theorem flF_b {b : Nat → Int} {n : Nat} : ∀ (f k : Nat) (v : Bool), k + f = n → flF b n f k v = -1 → ∀ p, k ≤ p → p < n → b p = 32 → ∃ i, p + 1 ≤ i ∧ i < n ∧ isV (b i) ∧ ∀ j, p + 1 ≤ j → j ≤ i → b j ≠ 32
  | 0, k, v, h0, h, p, h1, h2, h3 => by omega
  | f + 1, k, v, h0, h, p, h1, h2, h3 => by
    unfold flF at h
    by_cases c1 : b k = 32
    · rw [if_pos c1] at h
      split at h
      · by_cases hp : p = k
        · subst hp
          exact flF_a f (p + 1) (by omega) h
        · exact flF_b f (k + 1) false (by omega) h p (by omega) h2 h3
      · omega
    · rw [if_neg c1] at h
      have hp : p ≠ k := fun e => c1 (by rw [← e]; exact h3)
      split at h
      · exact flF_b f (k + 1) _ (by omega) h p (by omega) h2 h3
      · omega
section CUTN
variable {b : Nat → Int} {n : Nat} {w : Nat → Int}
theorem nb_past {p i : Nat} (h1 : p ≤ i) (h2 : i < n) (h3 : ∀ j, p ≤ j → j ≤ i → b j ≠ 32) : i < nb b n p := by
  rcases Nat.lt_or_ge i (nb b n p) with h | h
  · exact h
  · have h4 := nb_le (b := b) (n := n) (i := p) (by omega)
    exact absurd (nb_is (by omega) (by omega)) (h3 _ h4.1 h)
/-- the words of a text without a flaw -/
theorem word_ok (h : flaw b n = -1) : ∀ k, (∀ i, i < k → wt b n i < n) → 2 * k ≤ wf b n k ∧ wf b n k < wt b n k ∧ wt b n k ≤ n ∧ ∃ i, wf b n k ≤ i ∧ i < wt b n k ∧ isV (b i)
  | 0, _ => by
    obtain ⟨i, h1, h2, h3, h4⟩ := flF_a n 0 (by omega) h
    have h5 := nb_past h1 h2 h4
    rw [wt_nb, wf_0]
    exact ⟨by omega, by omega, (nb_le (Nat.zero_le n)).2, i, h1, h5, h3⟩
  | k + 1, hk => by
    obtain ⟨g1, g2, g3, -⟩ := word_ok h k (fun i hi => hk i (by omega))
    have h0 := hk k (by omega)
    have hb : b (wt b n k) = 32 := by
      rw [wt_nb] at h0 ⊢
      exact nb_is (by omega) h0
    obtain ⟨i, h1, h2, h3, h4⟩ := flF_b n 0 false (by omega) h (wt b n k) (by omega) h0 hb
    have h5 := nb_past h1 h2 h4
    rw [wt_nb, wf_s]
    exact ⟨by omega, by omega, (nb_le (by omega)).2, i, h1, h5, h3⟩
theorem WcF_is (h : flaw b n = -1) (hn : n ≤ 60) : ∀ (f k : Nat), k + f = 31 → (∀ i, i < k → wt b n i < n) → (∀ i, i + 1 < WcF b n f k → wt b n i < n) ∧ 0 < WcF b n f k ∧ wt b n (WcF b n f k - 1) = n
  | 0, k, h1, h2 => by
    have := word_ok h k h2
    omega
  | f + 1, k, h1, h2 => by
    have h3 := word_ok h k h2
    unfold WcF
    split
    · rename_i h4
      exact ⟨fun i hi => h2 i (by omega), by omega, by simpa using h4⟩
    · rename_i h4
      exact WcF_is h hn f (k + 1) (by omega) (fun i hi => by
        by_cases hik : i = k
        · subst hik; omega
        · exact h2 i (by omega))
theorem Wn_is (h : flaw b n = -1) (hn : n ≤ 60) : (∀ i, i + 1 < Wn b n → wt b n i < n) ∧ 0 < Wn b n ∧ wt b n (Wn b n - 1) = n := by
  unfold Wn
  rw [if_pos h]
  exact WcF_is h hn 31 0 (by omega) (fun i hi => by omega)
theorem Wn_of (h : flaw b n = -1) (hn : n ≤ 60) {k : Nat} (h1 : ∀ i, i < k → wt b n i < n) (h2 : wt b n k = n) : Wn b n = k + 1 := by
  obtain ⟨g1, g2, g3⟩ := Wn_is h hn
  rcases Nat.lt_trichotomy (Wn b n) (k + 1) with h3 | h3 | h3
  · have := h1 (Wn b n - 1) (by omega); omega
  · exact h3
  · have := g1 k (by omega); omega
theorem Wn_0 (h : flaw b n ≠ -1) : Wn b n = 0 := if_neg h
theorem word_in (hn : n ≤ 60) {k : Nat} (hk : k < Wn b n) : flaw b n = -1 ∧ k < 30 ∧ 2 * k ≤ wf b n k ∧ wf b n k < wt b n k ∧ wt b n k ≤ n ∧ (∃ i, wf b n k ≤ i ∧ i < wt b n k ∧ isV (b i)) ∧ (k + 1 < Wn b n → wt b n k < n) := by
  have h : flaw b n = -1 := Decidable.byContradiction fun q => by rw [Wn_0 q] at hk; omega
  obtain ⟨g1, g2, g3⟩ := Wn_is h hn
  have h1 := word_ok h k (fun i hi => g1 i (by omega))
  exact ⟨h, by omega, h1.1, h1.2.1, h1.2.2.1, h1.2.2.2, fun h2 => g1 k h2⟩
theorem Wn_le (hn : n ≤ 60) : Wn b n ≤ 30 := by
  rcases Nat.lt_or_ge 30 (Wn b n) with h | h
  · have := word_in (b := b) hn h; omega
  · exact h
theorem nc_word (hn : n ≤ 60) {k : Nat} (hk : k < Wn b n) : 0 < nc b n w k ∧ (∀ i, i < nc b n w k → npS b n w k i < wt b n k ∧ wf b n k + i ≤ npS b n w k i) ∧ npS b n w k (nc b n w k) = wt b n k ∧ wf b n k + nc b n w k ≤ wt b n k := by
  obtain ⟨h0, h1, h2, h3, h4, ⟨i, h5, h6, h7⟩, h8⟩ := word_in hn hk
  obtain ⟨g1, g2⟩ := nc_is (b := b) (w := w) (n := n) (k := k) (by omega) (by omega)
  have g3 : ∀ i, i < nc b n w k → npS b n w k i < wt b n k ∧ wf b n k + i ≤ npS b n w k i := fun i hi => ⟨g1 i hi, np_ge (by omega) i (g1 i hi)⟩
  have g4 : 0 < nc b n w k := by
    rcases Nat.eq_zero_or_pos (nc b n w k) with g | g
    · rw [g] at g2
      have g5 : fv b (wt b n k) (wf b n k) = wt b n k := g2
      exact absurd h7 (fv_no (e := wt b n k) h5 (by omega))
    · exact g
  refine ⟨g4, g3, g2, ?_⟩
  have := g3 (nc b n w k - 1) (by omega)
  omega
theorem fs_le (hn : n ≤ 60) : ∀ k, k ≤ Wn b n → (k < Wn b n → fs b n w k ≤ wf b n k) ∧ fs b n w k ≤ n
  | 0, _ => ⟨fun _ => Nat.zero_le _, Nat.zero_le _⟩
  | k + 1, hk => by
    have h1 := (fs_le hn k (by omega)).1 (by omega)
    have h2 := nc_word (w := w) hn (show k < Wn b n by omega)
    have h3 := word_in hn (show k < Wn b n by omega)
    have h4 : fs b n w (k + 1) = fs b n w k + nc b n w k := rfl
    refine ⟨fun h => ?_, by omega⟩
    rw [wf_s]
    omega
theorem Sn_le (hn : n ≤ 60) : Sn b n w ≤ n := (fs_le hn _ (Nat.le_refl _)).2
/-- the word of a syllable, whole -/
theorem wo_ok (hn : n ≤ 60) {s : Nat} (hs : s < Sn b n w) : wo b n w s < Wn b n ∧ fs b n w (wo b n w s) ≤ s ∧ s < fs b n w (wo b n w s + 1) ∧ jS b n w s < nc b n w (wo b n w s) ∧ s = fs b n w (wo b n w s) + jS b n w s := by
  have hex : ∀ W, W ≤ Wn b n → s < fs b n w W → ∃ k, k < W ∧ fs b n w k ≤ s ∧ s < fs b n w (k + 1) := by
    intro W
    induction W with
    | zero => intro _ h; exact absurd h (Nat.not_lt_zero _)
    | succ W ih =>
      intro hW h
      rcases Nat.lt_or_ge s (fs b n w W) with h1 | h1
      · obtain ⟨k, g1, g2⟩ := ih (by omega) h1
        exact ⟨k, by omega, g2⟩
      · exact ⟨W, by omega, h1, h⟩
  obtain ⟨k, h1, h2, h3⟩ := hex _ (Nat.le_refl _) hs
  have h30 := Wn_le (b := b) (n := n) hn
  have h4 : wo b n w s = k := wo_is (by omega) h2 h3
  have h5 : fs b n w (k + 1) = fs b n w k + nc b n w k := rfl
  rw [h4]
  refine ⟨h1, h2, h3, ?_, ?_⟩
  · unfold jS; rw [h4]; omega
  · unfold jS; rw [h4]; omega
end CUTN
