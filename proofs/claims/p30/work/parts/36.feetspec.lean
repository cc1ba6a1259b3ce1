/-! the plain mathematics of feet: st s is the size of the foot that begins with s, or 0 -/
def szF (mo : Nat → Nat) (w : Nat → Int) (k e : Nat) : Nat := if w 4 ≠ 0 ∧ 2 ≤ mo k then 1 else if k + 1 < e ∧ (w 4 ≠ 1 ∨ mo (k + 1) < 2) then 2 else 0
def szB (mo : Nat → Nat) (w : Nat → Int) (k p : Nat) : Nat :=
  if w 4 = 0 then (if p < k then 2 else 0)
  else if w 4 = 1 then (if 2 ≤ mo k then 1 else if p < k ∧ mo (k - 1) < 2 then 2 else 0)
  else (if p < k ∧ mo (k - 1) < 2 then 2 else if 2 ≤ mo k then 1 else 0)
def rsz (w : Nat → Int) (z : Nat) : Nat := if z = 0 then (if w 6 = 1 then 1 else 0) else z
def fwd (mo : Nat → Nat) (w : Nat → Int) (e : Nat) : Nat → Nat → Nat → Nat
  | 0, _, _ => 0
  | f + 1, k, s => if k < e then (if s = k then rsz w (szF mo w k e) else fwd mo w e f (k + max 1 (szF mo w k e)) s) else 0
def bwd (mo : Nat → Nat) (w : Nat → Int) (p : Nat) : Nat → Nat → Nat → Nat
  | 0, _, _ => 0
  | f + 1, k, s => if p < k then (if 0 < rsz w (szB mo w (k - 1) p) ∧ s = k - rsz w (szB mo w (k - 1) p) then rsz w (szB mo w (k - 1) p) else bwd mo w p f (k - max 1 (szB mo w (k - 1) p)) s) else 0
abbrev FS (st : Nat → Nat) (p e : Nat) : Prop := (∀ s, st s ≤ 2) ∧ (∀ s, 0 < st s → p ≤ s ∧ s + st s ≤ e) ∧ (∀ s, st s = 2 → st (s + 1) = 0)
theorem FS.le {st : Nat → Nat} {p e : Nat} (hx_ : FS st p e) : ∀ s, st s ≤ 2 := hx_.1
theorem FS.inn {st : Nat → Nat} {p e : Nat} (hx_ : FS st p e) : ∀ s, 0 < st s → p ≤ s ∧ s + st s ≤ e := hx_.2.1
theorem FS.nx {st : Nat → Nat} {p e : Nat} (hx_ : FS st p e) : ∀ s, st s = 2 → st (s + 1) = 0 := hx_.2.2
section FEET
variable {mo : Nat → Nat} {w : Nat → Int}
theorem szF_in {k e : Nat} (h : k < e) : szF mo w k e ≤ 2 ∧ k + szF mo w k e ≤ e := by
  unfold szF
  split
  · omega
  · split <;> omega
theorem szB_in {k p : Nat} (h : p ≤ k) : szB mo w k p ≤ 2 ∧ p + szB mo w k p ≤ k + 1 := by
  unfold szB
  split
  · split <;> omega
  · split
    · split
      · omega
      · split <;> omega
    · split
      · omega
      · split <;> omega
theorem rsz_in {z : Nat} : rsz w z ≤ max 1 z ∧ z ≤ rsz w z := by
  unfold rsz
  split
  · split <;> omega
  · omega
theorem fwd_in {e : Nat} : ∀ (f k s : Nat), 0 < fwd mo w e f k s → k ≤ s ∧ s + fwd mo w e f k s ≤ e
  | 0, k, s, h => by simp [fwd] at h
  | f + 1, k, s, h => by
    unfold fwd at h ⊢
    split at h
    · rename_i hk
      rw [if_pos hk]
      have h1 := szF_in (mo := mo) (w := w) hk
      have h2 := rsz_in (w := w) (z := szF mo w k e)
      split at h
      · rename_i hs
        rw [if_pos hs]; omega
      · rename_i hs
        rw [if_neg hs]
        have := fwd_in f _ _ h
        omega
    · omega
theorem fwd_fs {e : Nat} : ∀ (f k : Nat), FS (fwd mo w e f k) k e
  | 0, k => ⟨fun s => by simp [fwd], fun s h => by simp [fwd] at h, fun s h => by simp [fwd] at h⟩
  | f + 1, k => by
    have ih := fun k => fwd_fs (e := e) f k
    refine ⟨fun s => ?_, fun s h => fwd_in _ _ _ h, fun s h => ?_⟩
    · unfold fwd
      split
      · rename_i hk
        have h1 := szF_in (mo := mo) (w := w) hk
        have h2 := rsz_in (w := w) (z := szF mo w k e)
        split
        · omega
        · exact (ih _).le s
      · omega
    · have h1 := fwd_in (mo := mo) (w := w) (e := e) (f + 1) k s (by omega)
      unfold fwd at h ⊢
      split at h
      · rename_i hk
        rw [if_pos hk]
        have h2 := rsz_in (w := w) (z := szF mo w k e)
        split at h
        · rename_i hs
          rw [if_neg (by omega)]
          have h3 := fwd_in (mo := mo) (w := w) (e := e) f (k + max 1 (szF mo w k e)) (s + 1)
          omega
        · rename_i hs
          rw [if_neg (by omega)]
          exact (ih _).nx s h
      · omega
theorem bwd_fs {p : Nat} : ∀ (f k : Nat), FS (bwd mo w p f k) p k
  | 0, k => ⟨fun s => by simp [bwd], fun s h => by simp [bwd] at h, fun s h => by simp [bwd] at h⟩
  | f + 1, k => by
    have ih := fun k => bwd_fs (p := p) f k
    refine ⟨fun s => ?_, fun s h => ?_, fun s h => ?_⟩
    · unfold bwd
      split
      · rename_i hk
        have h1 := szB_in (mo := mo) (w := w) (k := k - 1) (p := p) (by omega)
        have h2 := rsz_in (w := w) (z := szB mo w (k - 1) p)
        split
        · omega
        · exact (ih _).le s
      · omega
    · unfold bwd at h ⊢
      split at h
      · rename_i hk
        rw [if_pos hk]
        have h1 := szB_in (mo := mo) (w := w) (k := k - 1) (p := p) (by omega)
        have h2 := rsz_in (w := w) (z := szB mo w (k - 1) p)
        split at h
        · rename_i hs
          rw [if_pos hs]; omega
        · rename_i hs
          rw [if_neg hs]
          have := (ih _).inn s h
          omega
      · omega
    · unfold bwd at h ⊢
      split at h
      · rename_i hk
        rw [if_pos hk]
        have h1 := szB_in (mo := mo) (w := w) (k := k - 1) (p := p) (by omega)
        have h2 := rsz_in (w := w) (z := szB mo w (k - 1) p)
        split at h
        · rename_i hs
          rw [if_neg (by omega)]
          have h3 := (ih (k - max 1 (szB mo w (k - 1) p))).inn (s + 1)
          omega
        · rename_i hs
          have h3 := (ih (k - max 1 (szB mo w (k - 1) p))).inn s (by omega)
          rw [if_neg (by omega)]
          exact (ih _).nx s h
      · omega
/-- how many feet begin with one of l syllables from p on -/
def cnt (st : Nat → Nat) (p : Nat) : Nat → Nat
  | 0 => 0
  | l + 1 => cnt st p l + (if 0 < st (p + l) then 1 else 0)
theorem cnt_s {st : Nat → Nat} {p l : Nat} : cnt st p (l + 1) = cnt st p l + (if 0 < st (p + l) then 1 else 0) := rfl
theorem cnt_le {st : Nat → Nat} {p : Nat} : ∀ l, cnt st p l ≤ l
  | 0 => Nat.le_refl _
  | l + 1 => by
    have := cnt_le (st := st) (p := p) l
    rw [cnt_s]; split <;> omega
theorem cnt_0 {st : Nat → Nat} {p : Nat} : ∀ {l : Nat}, (cnt st p l = 0 ↔ ∀ s, p ≤ s → s < p + l → st s = 0)
  | 0 => ⟨fun _ s h1 h2 => by omega, fun _ => rfl⟩
  | l + 1 => by
    have ih := cnt_0 (st := st) (p := p) (l := l)
    rw [cnt_s]
    constructor
    · intro h s h1 h2
      split at h
      · omega
      · rename_i h3
        by_cases hs : s = p + l
        · subst hs; omega
        · exact ih.1 (by omega) s h1 (by omega)
    · intro h
      have h1 := h (p + l) (by omega) (by omega)
      rw [if_neg (by omega), ih.2 (fun s h2 h3 => h s h2 (by omega))]
def st0 (mo : Nat → Nat) (w : Nat → Int) (p e : Nat) : Nat → Nat := if w 5 = 0 then fwd mo w e 60 p else bwd mo w p 60 e
def only (w : Nat → Int) (p e : Nat) : Nat := if w 7 = 1 then e - 1 else p
def stW (mo : Nat → Nat) (w : Nat → Int) (p e : Nat) : Nat → Nat := if cnt (st0 mo w p e) p (e - p) = 0 then (fun s => if s = only w p e then 1 else 0) else st0 mo w p e
theorem st0_fs {p e : Nat} : FS (st0 mo w p e) p e := by
  unfold st0
  split
  · exact fwd_fs _ _
  · exact bwd_fs _ _
theorem only_in {p e : Nat} (h : p < e) : p ≤ only w p e ∧ only w p e < e := by unfold only; split <;> omega
theorem stW_fs {p e : Nat} (h : p < e) : FS (stW mo w p e) p e := by
  unfold stW
  have ho := only_in (w := w) h
  split
  · refine ⟨fun s => ?_, fun s hs => ?_, fun s hs => ?_⟩
    · (try dsimp only); split <;> omega
    · (try dsimp only at hs ⊢); split at hs
      · rename_i h1; rw [if_pos h1]; omega
      · omega
    · (try dsimp only at hs); split at hs <;> omega
  · exact st0_fs
theorem stW_some {p e : Nat} (h : p < e) : ∃ s, p ≤ s ∧ s < e ∧ 0 < stW mo w p e s := by
  unfold stW
  have ho := only_in (w := w) h
  split
  · exact ⟨only w p e, ho.1, ho.2, by simp⟩
  · rename_i hc
    rcases Classical.em (∃ s, p ≤ s ∧ s < e ∧ 0 < st0 mo w p e s) with h1 | h1
    · exact h1
    · refine absurd (cnt_0.2 fun s h2 h3 => ?_) hc
      rcases Nat.eq_zero_or_pos (st0 mo w p e s) with h4 | h4
      · exact h4
      · exact absurd ⟨s, h2, by omega, h4⟩ h1
/-- the number of its foot, in its word -/
def fo (st : Nat → Nat) (p s : Nat) : Int := if 0 < st s ∨ (p < s ∧ st (s - 1) = 2) then (cnt st p (s + 1 - p) : Int) - 1 else -1
/-- a foot's beat is here -/
abbrev hb (w : Nat → Int) (st : Nat → Nat) (p s : Nat) : Prop := (w 4 = 2 ∧ (st s = 1 ∨ (p < s ∧ st (s - 1) = 2))) ∨ (w 4 ≠ 2 ∧ 0 < st s)
/-- the main beat among the first l syllables -/
def mnF (mo : Nat → Nat) (w : Nat → Int) (st : Nat → Nat) (p : Nat) : Nat → Int
  | 0 => -1
  | l + 1 => if hb w st p (p + l) ∧ (mnF mo w st p l = -1 ∨ w 7 = 1 ∨ (w 7 = 2 ∧ mo (mnF mo w st p l).toNat < mo (p + l))) then ((p + l : Nat) : Int) else mnF mo w st p l
theorem mnF_s {st : Nat → Nat} {p l : Nat} : mnF mo w st p (l + 1) = if hb w st p (p + l) ∧ (mnF mo w st p l = -1 ∨ w 7 = 1 ∨ (w 7 = 2 ∧ mo (mnF mo w st p l).toNat < mo (p + l))) then ((p + l : Nat) : Int) else mnF mo w st p l := rfl
theorem mnF_in {st : Nat → Nat} {p : Nat} : ∀ l, mnF mo w st p l = -1 ∨ ∃ s, mnF mo w st p l = (s : Nat) ∧ p ≤ s ∧ s < p + l ∧ hb w st p s
  | 0 => Or.inl rfl
  | l + 1 => by
    rw [mnF_s]
    split
    · rename_i h
      exact Or.inr ⟨p + l, rfl, by omega, by omega, h.1⟩
    · rcases mnF_in (st := st) (p := p) l with h | ⟨s, h1, h2, h3, h4⟩
      · exact Or.inl h
      · exact Or.inr ⟨s, h1, h2, by omega, h4⟩
theorem mnF_some {st : Nat → Nat} {p : Nat} : ∀ l, (∃ s, p ≤ s ∧ s < p + l ∧ hb w st p s) → mnF mo w st p l ≠ -1
  | 0, ⟨s, h1, h2, _⟩ => by omega
  | l + 1, ⟨s, h1, h2, h3⟩ => by
    rw [mnF_s]
    split
    · omega
    · rename_i h
      by_cases hs : s = p + l
      · subst hs
        intro h4
        exact h ⟨h3, Or.inl h4⟩
      · exact mnF_some l ⟨s, h1, by omega, h3⟩
theorem hb_in {st : Nat → Nat} {p e s : Nat} (hf : FS st p e) (h : hb w st p s) : p ≤ s ∧ s < e := by
  rcases h with ⟨-, h | ⟨h, h1⟩⟩ | ⟨-, h⟩
  · have := hf.inn s (by omega); omega
  · have := hf.inn (s - 1) (by omega); omega
  · have := hf.inn s h; omega
theorem hb_some {st : Nat → Nat} {p e : Nat} (hf : FS st p e) (h : ∃ s, p ≤ s ∧ s < e ∧ 0 < st s) : ∃ s, p ≤ s ∧ s < e ∧ hb w st p s := by
  obtain ⟨s, h1, h2, h3⟩ := h
  have h4 := hf.le s
  have h5 := hf.inn s h3
  by_cases h6 : w 4 = 2
  · by_cases h7 : st s = 1
    · exact ⟨s, h1, h2, Or.inl ⟨h6, Or.inl h7⟩⟩
    · exact ⟨s + 1, by omega, by omega, Or.inl ⟨h6, Or.inr ⟨by omega, by rw [Nat.add_sub_cancel]; omega⟩⟩⟩
  · exact ⟨s, h1, h2, Or.inr ⟨h6, h3⟩⟩
/-- the main beat of a word with the span p to e, whose mark is m, of z syllables -/
abbrev isMk (m : Int) (z : Nat) : Prop := m ≠ -1 ∧ m < z
def mainW (mo : Nat → Nat) (w : Nat → Int) (p e : Nat) (m : Int) (z : Nat) : Int := if isMk m z then p + m else mnF mo w (stW mo w p e) p (e - p)
def btW (mo : Nat → Nat) (w : Nat → Int) (p e : Nat) (m : Int) (z : Nat) (s : Nat) : Int :=
  if (s : Int) = mainW mo w p e m z then 2
  else if hb w (stW mo w p e) p s ∧ ¬ (isMk m z ∧ ((s : Int) = mainW mo w p e m z - 1 ∨ (s : Int) = mainW mo w p e m z + 1)) then 1 else 0
theorem mainW_in {p e z : Nat} {m : Int} (h : p < e) (hz : e ≤ p + z) (hm : -1 ≤ m) : ∃ s : Nat, mainW mo w p e m z = s ∧ p ≤ s ∧ s < p + z := by
  unfold mainW
  split
  · rename_i h1
    exact ⟨p + m.toNat, by omega, by omega, by omega⟩
  · have h1 := mnF_some (mo := mo) (w := w) (st := stW mo w p e) (p := p) (e - p) (by
      obtain ⟨s, h2, h3, h4⟩ := hb_some (w := w) (stW_fs h) (stW_some (mo := mo) (w := w) h)
      exact ⟨s, h2, by omega, h4⟩)
    rcases mnF_in (mo := mo) (w := w) (st := stW mo w p e) (p := p) (e - p) with h2 | ⟨s, h2, h3, h4, -⟩
    · exact absurd h2 h1
    · exact ⟨s, h2, h3, by omega⟩
theorem btW_in {p e z : Nat} {m : Int} {s : Nat} : 0 ≤ btW mo w p e m z s ∧ btW mo w p e m z s ≤ 2 := by
  unfold btW
  split
  · omega
  · split <;> omega
theorem btW_2 {p e z : Nat} {m : Int} {s : Nat} : btW mo w p e m z s = 2 ↔ (s : Int) = mainW mo w p e m z := by
  unfold btW
  split
  · simp [*]
  · split <;> simp [*]
end FEET
