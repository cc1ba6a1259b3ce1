/-! the plain mathematics of texts that have their mark -/
def tx (r : Nat → Int) (p l : Nat) : List Int := (List.range l).map (fun i => r (p + i))
theorem tx_eq {r r' : Nat → Int} {p p' l l' : Nat} : tx r p l = tx r' p' l' ↔ l = l' ∧ ∀ i, i < l → r (p + i) = r' (p' + i) := by
  unfold tx
  constructor
  · intro h
    have h1 : l = l' := by simpa using congrArg List.length h
    subst h1
    refine ⟨rfl, fun i hi => ?_⟩
    exact List.map_inj_left.1 h i (List.mem_range.2 hi)
  · rintro ⟨h1, h2⟩
    subst h1
    exact List.map_inj_left.2 (fun i hi => h2 i (List.mem_range.1 hi))
/-- the rows of a lexicon hold N texts and their places -/
abbrev LX (qa qb qc sa si : Nat) (N : Nat) (T : Nat → List Int) (P : Nat → Int) (g : GG) : Prop := (g sa si = N) ∧ (∀ k, k < N → ∃ l : Nat, l ≤ 60 ∧ g qb k = l ∧ T k = tx (g qa) (60 * k) l) ∧ (∀ k, k < N → g qc k = P k)
theorem LX.s {qa qb qc sa si : Nat} {N : Nat} {T : Nat → List Int} {P : Nat → Int} {g : GG} (hx_ : LX qa qb qc sa si N T P g) : g sa si = N := hx_.1
theorem LX.l {qa qb qc sa si : Nat} {N : Nat} {T : Nat → List Int} {P : Nat → Int} {g : GG} (hx_ : LX qa qb qc sa si N T P g) : ∀ k, k < N → ∃ l : Nat, l ≤ 60 ∧ g qb k = l ∧ T k = tx (g qa) (60 * k) l := hx_.2.1
theorem LX.p {qa qb qc sa si : Nat} {N : Nat} {T : Nat → List Int} {P : Nat → Int} {g : GG} (hx_ : LX qa qb qc sa si N T P g) : ∀ k, k < N → g qc k = P k := hx_.2.2
abbrev LT (N : Nat) (T : Nat → List Int) (P : Nat → Int) : Prop := (N ≤ 6) ∧ (∀ i j, i < N → j < N → T i = T j → i = j) ∧ (∀ k, k < N → 0 ≤ P k ∧ P k < 60)
theorem LT.n6 {N : Nat} {T : Nat → List Int} {P : Nat → Int} (hx_ : LT N T P) : N ≤ 6 := hx_.1
theorem LT.d {N : Nat} {T : Nat → List Int} {P : Nat → Int} (hx_ : LT N T P) : ∀ i j, i < N → j < N → T i = T j → i = j := hx_.2.1
theorem LT.p0 {N : Nat} {T : Nat → List Int} {P : Nat → Int} (hx_ : LT N T P) : ∀ k, k < N → 0 ≤ P k ∧ P k < 60 := hx_.2.2
theorem LX.keep {qa qb qc sa si N : Nat} {T : Nat → List Int} {P : Nat → Int} {g g' : GG} (h : LX qa qb qc sa si N T P g) (hf : ∀ a i, a = qa ∨ a = qb ∨ a = qc ∨ (a = sa ∧ i = si) → g' a i = g a i) : LX qa qb qc sa si N T P g' := by
  refine ⟨by rw [hf _ _ (by simp)]; exact h.s, fun k hk => ?_, fun k hk => by rw [hf _ _ (by simp)]; exact h.p k hk⟩
  obtain ⟨l, h1, h2, h3⟩ := h.l k hk
  refine ⟨l, h1, by rw [hf _ _ (by simp)]; exact h2, ?_⟩
  rw [h3]
  exact tx_eq.2 ⟨rfl, fun i hi => (hf _ _ (by simp)).symm⟩
/-- the place x of a text, if it is there -/
def isF (N : Nat) (T : Nat → List Int) (t : List Int) (x : Int) : Prop := (∃ k : Nat, k < N ∧ T k = t ∧ x = k) ∨ (x = -1 ∧ ∀ k, k < N → T k ≠ t)
/-- the pairs that a lexicon holds -/
def LSet (N : Nat) (T : Nat → List Int) (P : Nat → Int) (t : List Int) (p : Int) : Prop := ∃ k : Nat, k < N ∧ T k = t ∧ P k = p
/-- the mark of a text, or -1 -/
def lk (T : Nat → List Int) (P : Nat → Int) (t : List Int) : Nat → Int
  | 0 => -1
  | N + 1 => if T N = t then P N else lk T P t N
def fup {α : Type} (f : Nat → α) (k : Nat) (v : α) : Nat → α := fun i => if i = k then v else f i
theorem fup_at {α : Type} {f : Nat → α} {k : Nat} {v : α} : fup f k v k = v := if_pos rfl
theorem fup_ne {α : Type} {f : Nat → α} {k i : Nat} {v : α} (h : i ≠ k) : fup f k v i = f i := if_neg h
section LEX
variable {N : Nat} {T : Nat → List Int} {P : Nat → Int}
theorem lk_none {t : List Int} : ∀ {N : Nat}, (∀ k, k < N → T k ≠ t) → lk T P t N = -1
  | 0, _ => rfl
  | N + 1, h => by
    unfold lk
    rw [if_neg (h N (by omega))]
    exact lk_none (fun k hk => h k (by omega))
theorem lk_some {t : List Int} : ∀ {N k : Nat}, (∀ i j, i < N → j < N → T i = T j → i = j) → k < N → T k = t → lk T P t N = P k
  | 0, k, _, h, _ => by omega
  | N + 1, k, hd, h, ht => by
    unfold lk
    by_cases c : T N = t
    · rw [if_pos c]
      have := hd N k (by omega) h (by rw [c, ht])
      rw [this]
    · rw [if_neg c]
      have hk : k ≠ N := fun z => c (by rw [← z]; exact ht)
      exact lk_some (fun i j h1 h2 h3 => hd i j (by omega) (by omega) h3) (by omega) ht
theorem lk_isF {t : List Int} {x : Int} (h : LT N T P) (hx : isF N T t x) : lk T P t N = if x = -1 then -1 else P x.toNat := by
  rcases hx with ⟨k, h1, h2, h3⟩ | ⟨h1, h2⟩
  · rw [lk_some h.d h1 h2, if_neg (by omega), h3, Int.toNat_natCast]
  · rw [lk_none h2, if_pos h1]
theorem lk_in {t : List Int} (h : LT N T P) : -1 ≤ lk T P t N ∧ lk T P t N ≤ 60 := by
  rcases Classical.em (∃ k, k < N ∧ T k = t) with ⟨k, h1, h2⟩ | h1
  · rw [lk_some h.d h1 h2]
    have := h.p0 k h1; omega
  · rw [lk_none (fun k hk ht => h1 ⟨k, hk, ht⟩)]; omega
/-- two lexicons that hold the same pairs give the same marks -/
theorem lk_same {N' : Nat} {T' : Nat → List Int} {P' : Nat → Int} (h : LT N T P) (h' : LT N' T' P') (hs : ∀ t p, LSet N T P t p ↔ LSet N' T' P' t p) (t : List Int) : lk T P t N = lk T' P' t N' := by
  rcases Classical.em (∃ k, k < N ∧ T k = t) with ⟨k, h1, h2⟩ | h1
  · obtain ⟨k', h3, h4, h5⟩ := (hs t (P k)).1 ⟨k, h1, h2, rfl⟩
    rw [lk_some h.d h1 h2, lk_some h'.d h3 h4, h5]
  · rw [lk_none (fun k hk ht => h1 ⟨k, hk, ht⟩), lk_none]
    intro k' hk' ht'
    obtain ⟨k, h3, h4, h5⟩ := (hs t (P' k')).2 ⟨k', hk', ht', rfl⟩
    exact h1 ⟨k, h3, h4⟩
theorem isF_same {N' : Nat} {T' : Nat → List Int} {P' : Nat → Int} {t : List Int} {x x' : Int} (hs : ∀ t p, LSet N T P t p ↔ LSet N' T' P' t p) (hx : isF N T t x) (hx' : isF N' T' t x') : x = -1 ↔ x' = -1 := by
  rcases hx with ⟨k, h1, h2, h3⟩ | ⟨h1, h2⟩ <;> rcases hx' with ⟨k', h1', h2', h3'⟩ | ⟨h1', h2'⟩
  · omega
  · obtain ⟨j, h4, h5, h6⟩ := (hs t (P k)).1 ⟨k, h1, h2, rfl⟩
    exact absurd h5 (h2' j h4)
  · obtain ⟨j, h4, h5, h6⟩ := (hs t (P' k')).2 ⟨k', h1', h2', rfl⟩
    exact absurd h5 (h2 j h4)
  · omega
/-- a new place for a text -/
theorem LT_over (h : LT N T P) {k : Nat} {j : Int} (hk : k < N) (hj : 0 ≤ j ∧ j < 60) : LT N T (fup P k j) ∧ ∀ t p, LSet N T (fup P k j) t p ↔ (t = T k ∧ p = j) ∨ (t ≠ T k ∧ LSet N T P t p) := by
  refine ⟨⟨h.n6, h.d, fun i hi => ?_⟩, fun t p => ⟨?_, ?_⟩⟩
  · unfold fup; split
    · exact hj
    · exact h.p0 i hi
  · rintro ⟨i, h1, h2, h3⟩
    by_cases c : i = k
    · subst c; rw [fup_at] at h3; exact Or.inl ⟨h2.symm, h3.symm⟩
    · rw [fup_ne c] at h3
      exact Or.inr ⟨fun z => c (h.d i k h1 hk (by rw [h2, z])), i, h1, h2, h3⟩
  · rintro (⟨h1, h2⟩ | ⟨h1, i, h2, h3, h4⟩)
    · exact ⟨k, hk, h1.symm, by rw [fup_at, h2]⟩
    · exact ⟨i, h2, h3, by rw [fup_ne (fun z => h1 (by rw [← h3, z]))]; exact h4⟩
/-- one text more -/
theorem LT_app (h : LT N T P) {u : List Int} {j : Int} (hN : N < 6) (hu : ∀ k, k < N → T k ≠ u) (hj : 0 ≤ j ∧ j < 60) : LT (N + 1) (fup T N u) (fup P N j) ∧ ∀ t p, LSet (N + 1) (fup T N u) (fup P N j) t p ↔ (t = u ∧ p = j) ∨ (t ≠ u ∧ LSet N T P t p) := by
  refine ⟨⟨by omega, fun a c h1 h2 h3 => ?_, fun i hi => ?_⟩, fun t p => ⟨?_, ?_⟩⟩
  · by_cases ca : a = N
    · by_cases cc : c = N
      · omega
      · rw [ca, fup_at, fup_ne cc] at h3
        exact absurd h3.symm (hu c (by omega))
    · by_cases cc : c = N
      · rw [cc, fup_at, fup_ne ca] at h3
        exact absurd h3 (hu a (by omega))
      · rw [fup_ne ca, fup_ne cc] at h3
        exact h.d a c (by omega) (by omega) h3
  · by_cases c : i = N
    · rw [c, fup_at]; exact hj
    · rw [fup_ne c]; exact h.p0 i (by omega)
  · rintro ⟨i, h1, h2, h3⟩
    by_cases c : i = N
    · rw [c, fup_at] at h2 h3; exact Or.inl ⟨h2.symm, h3.symm⟩
    · rw [fup_ne c] at h2 h3
      exact Or.inr ⟨fun z => hu i (by omega) (by rw [h2, z]), i, by omega, h2, h3⟩
  · rintro (⟨h1, h2⟩ | ⟨h1, i, h2, h3, h4⟩)
    · exact ⟨N, by omega, by rw [fup_at, h1], by rw [fup_at, h2]⟩
    · exact ⟨i, by omega, by rw [fup_ne (by omega)]; exact h3, by rw [fup_ne (by omega)]; exact h4⟩
/-- one text less, by the last -/
theorem LT_swap (h : LT N T P) {k : Nat} (hk : k < N) : LT (N - 1) (fup T k (T (N - 1))) (fup P k (P (N - 1))) ∧ ∀ t p, LSet (N - 1) (fup T k (T (N - 1))) (fup P k (P (N - 1))) t p ↔ t ≠ T k ∧ LSet N T P t p := by
  have e : ∀ i, ∃ m, fup T k (T (N - 1)) i = T m ∧ fup P k (P (N - 1)) i = P m ∧ m = if i = k then N - 1 else i := by
    intro i
    refine ⟨_, ?_, ?_, rfl⟩ <;> unfold fup <;> split <;> rfl
  refine ⟨⟨by have := h.n6; omega, fun a c h1 h2 h3 => ?_, fun i hi => ?_⟩, fun t p => ⟨?_, ?_⟩⟩
  · obtain ⟨x, hx1, hx2, hx3⟩ := e a
    obtain ⟨y, hy1, hy2, hy3⟩ := e c
    rw [hx1, hy1] at h3
    have := h.d x y (by split at hx3 <;> omega) (by split at hy3 <;> omega) h3
    split at hx3 <;> split at hy3 <;> omega
  · obtain ⟨x, hx1, hx2, hx3⟩ := e i
    rw [hx2]
    exact h.p0 x (by split at hx3 <;> omega)
  · rintro ⟨i, h1, h2, h3⟩
    obtain ⟨x, hx1, hx2, hx3⟩ := e i
    rw [hx1] at h2
    rw [hx2] at h3
    have hx : x < N := by split at hx3 <;> omega
    refine ⟨fun z => ?_, x, hx, h2, h3⟩
    have := h.d x k hx hk (by rw [h2, z])
    split at hx3 <;> omega
  · rintro ⟨h1, i, h2, h3, h4⟩
    have hik : i ≠ k := fun z => h1 (by rw [← h3, z])
    by_cases c : i = N - 1
    · refine ⟨k, by omega, ?_, ?_⟩
      · rw [fup_at, ← c]; exact h3
      · rw [fup_at, ← c]; exact h4
    · exact ⟨i, by omega, by rw [fup_ne hik]; exact h3, by rw [fup_ne hik]; exact h4⟩
def fsh {α : Type} (f : Nat → α) (k : Nat) : Nat → α := fun i => if i < k then f i else f (i + 1)
/-- one text less, those behind it moved -/
theorem LT_shift (h : LT N T P) {k : Nat} (hk : k < N) : LT (N - 1) (fsh T k) (fsh P k) ∧ ∀ t p, LSet (N - 1) (fsh T k) (fsh P k) t p ↔ t ≠ T k ∧ LSet N T P t p := by
  have e : ∀ i, ∃ m, fsh T k i = T m ∧ fsh P k i = P m ∧ m = if i < k then i else i + 1 := by
    intro i
    refine ⟨_, ?_, ?_, rfl⟩ <;> unfold fsh <;> split <;> rfl
  refine ⟨⟨by have := h.n6; omega, fun a c h1 h2 h3 => ?_, fun i hi => ?_⟩, fun t p => ⟨?_, ?_⟩⟩
  · obtain ⟨x, hx1, hx2, hx3⟩ := e a
    obtain ⟨y, hy1, hy2, hy3⟩ := e c
    rw [hx1, hy1] at h3
    have := h.d x y (by split at hx3 <;> omega) (by split at hy3 <;> omega) h3
    split at hx3 <;> split at hy3 <;> omega
  · obtain ⟨x, hx1, hx2, hx3⟩ := e i
    rw [hx2]
    exact h.p0 x (by split at hx3 <;> omega)
  · rintro ⟨i, h1, h2, h3⟩
    obtain ⟨x, hx1, hx2, hx3⟩ := e i
    rw [hx1] at h2
    rw [hx2] at h3
    have hx : x < N := by split at hx3 <;> omega
    refine ⟨fun z => ?_, x, hx, h2, h3⟩
    have := h.d x k hx hk (by rw [h2, z])
    split at hx3 <;> omega
  · rintro ⟨h1, i, h2, h3, h4⟩
    have hik : i ≠ k := fun z => h1 (by rw [← h3, z])
    by_cases c : i < k
    · exact ⟨i, by omega, by unfold fsh; rw [if_pos c]; exact h3, by unfold fsh; rw [if_pos c]; exact h4⟩
    · refine ⟨i - 1, by omega, ?_, ?_⟩
      · unfold fsh; rw [if_neg (by omega), show i - 1 + 1 = i by omega]; exact h3
      · unfold fsh; rw [if_neg (by omega), show i - 1 + 1 = i by omega]; exact h4
end LEX
