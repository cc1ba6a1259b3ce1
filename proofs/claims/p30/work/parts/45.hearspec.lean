/-! the plain mathematics of what is heard; S: syllables, V: the window, lo and hi: where a syllable's word begins and ends -/
def nxF (h : Nat → Int) (S : Nat) : Nat → Nat → Nat
  | 0, s => s
  | f + 1, s => if s < S ∧ h s = 0 then nxF h S f (s + 1) else s
/-- the first beat from s on, or S -/
def nx (h : Nat → Int) (S s : Nat) : Nat := nxF h S (S - s) s
def ahF (h : Nat → Int) (lo : Nat) : Nat → Int
  | 0 => -1
  | k + 1 => if k < lo then -1 else if h k = 1 then (k : Int) else ahF h lo k
def bhF (h : Nat → Int) (hi : Nat) : Nat → Nat → Int
  | 0, _ => -1
  | f + 1, i => if i < hi then (if h i = 1 then (i : Int) else bhF h hi f (i + 1)) else -1
def bh (h : Nat → Int) (hi s : Nat) : Int := bhF h hi (hi - (s + 1)) (s + 1)
abbrev cl (S V : Nat) (h : Nat → Int) (s : Nat) : Prop := h s ≠ 0 ∧ nx h S (s + 1) < S ∧ nx h S (s + 1) ≤ s + V
abbrev stk (lo hi : Nat → Nat) (h : Nat → Int) (s t : Nat) : Prop := h s = 2 ∧ h t = 2 ∧ ahF h (lo s) s = -1 ∧ bh h (hi t) t = -1
abbrev loose (S V : Nat) (lo hi : Nat → Nat) (h : Nat → Int) (s : Nat) : Prop := cl S V h s ∧ ¬ stk lo hi h s (nx h S (s + 1))
def settle (lo hi : Nat → Nat) (h : Nat → Int) (s t : Nat) : Nat → Int :=
  if h s < h t ∨ (h s = 1 ∧ h t = 1) then fup h s 0
  else if h t < h s then fup h t 0
  else if ahF h (lo s) s ≠ -1 then fup (fup h (ahF h (lo s) s).toNat 2) s 0
  else fup (fup h (bh h (hi t) t).toNat 2) t 0
def plS (lo : Nat → Nat) (h : Nat → Int) (s t : Nat) : Nat :=
  if h s < h t ∨ (h s = 1 ∧ h t = 1) then s
  else if h t < h s then t
  else if ahF h (lo s) s ≠ -1 then (ahF h (lo s) s).toNat
  else t
def flF2 (S V : Nat) (lo hi : Nat → Nat) (h : Nat → Int) : Nat → Nat → Nat
  | 0, s => s
  | f + 1, s => if loose S V lo hi h s then s else flF2 S V lo hi h f (s + 1)
/-- the first that is loose, from s on, or S -/
def fLo (S V : Nat) (lo hi : Nat → Nat) (h : Nat → Int) (s : Nat) : Nat := flF2 S V lo hi h (S - s) s
def hearF (S V : Nat) (lo hi : Nat → Nat) : Nat → (Nat → Int) → Nat → (Nat → Int) × Nat
  | 0, h, m => (h, m)
  | f + 1, h, m => if fLo S V lo hi h 0 < S then hearF S V lo hi f (settle lo hi h (fLo S V lo hi h 0) (nx h S (fLo S V lo hi h 0 + 1))) (m + 1) else (h, m)
def nzc (h : Nat → Int) : Nat → Nat
  | 0 => 0
  | n + 1 => nzc h n + (if h n ≠ 0 then 1 else 0)
/-- where words lie -/
abbrev WL (S : Nat) (lo hi : Nat → Nat) : Prop := (∀ s, s < S → lo s ≤ s ∧ s < hi s ∧ hi s ≤ S) ∧ (∀ s i, s < S → lo s ≤ i → i < hi s → lo i = lo s ∧ hi i = hi s)
theorem WL.a {S : Nat} {lo hi : Nat → Nat} (hx_ : WL S lo hi) : ∀ s, s < S → lo s ≤ s ∧ s < hi s ∧ hi s ≤ S := hx_.1
theorem WL.b {S : Nat} {lo hi : Nat → Nat} (hx_ : WL S lo hi) : ∀ s i, s < S → lo s ≤ i → i < hi s → lo i = lo s ∧ hi i = hi s := hx_.2
/-- beats 0 to 2, one 2 in each word -/
abbrev HI (S : Nat) (lo hi : Nat → Nat) (h : Nat → Int) : Prop := (∀ s, s < S → 0 ≤ h s ∧ h s ≤ 2) ∧ (∀ s, s < S → ∃ m, lo s ≤ m ∧ m < hi s ∧ h m = 2) ∧ (∀ s i j, s < S → lo s ≤ i → i < hi s → lo s ≤ j → j < hi s → h i = 2 → h j = 2 → i = j)
theorem HI.v {S : Nat} {lo hi : Nat → Nat} {h : Nat → Int} (hx_ : HI S lo hi h) : ∀ s, s < S → 0 ≤ h s ∧ h s ≤ 2 := hx_.1
theorem HI.e {S : Nat} {lo hi : Nat → Nat} {h : Nat → Int} (hx_ : HI S lo hi h) : ∀ s, s < S → ∃ m, lo s ≤ m ∧ m < hi s ∧ h m = 2 := hx_.2.1
theorem HI.u {S : Nat} {lo hi : Nat → Nat} {h : Nat → Int} (hx_ : HI S lo hi h) : ∀ s i j, s < S → lo s ≤ i → i < hi s → lo s ≤ j → j < hi s → h i = 2 → h j = 2 → i = j := hx_.2.2
section HEAR
variable {S V : Nat} {lo hi : Nat → Nat} {h : Nat → Int}
theorem nxF_ok : ∀ (f s : Nat), s + f = S → s ≤ nxF h S f s ∧ nxF h S f s ≤ S ∧ (∀ i, s ≤ i → i < nxF h S f s → h i = 0) ∧ (nxF h S f s < S → h (nxF h S f s) ≠ 0)
  | 0, s, h0 => ⟨Nat.le_refl _, by unfold nxF; omega, fun i h1 h2 => by unfold nxF at h2; omega, fun h2 => by unfold nxF at h2; omega⟩
  | f + 1, s, h0 => by
    unfold nxF
    by_cases c : s < S ∧ h s = 0
    · rw [if_pos c]
      obtain ⟨a1, a2, a3, a4⟩ := nxF_ok f (s + 1) (by omega)
      refine ⟨by omega, a2, fun i h1 h2 => ?_, a4⟩
      by_cases hi : i = s
      · rw [hi]; exact c.2
      · exact a3 i (by omega) h2
    · rw [if_neg c]
      exact ⟨Nat.le_refl _, by omega, fun i h1 h2 => by omega, fun h2 h3 => c ⟨h2, h3⟩⟩
theorem nx_ok {s : Nat} (hs : s ≤ S) : s ≤ nx h S s ∧ nx h S s ≤ S ∧ (∀ i, s ≤ i → i < nx h S s → h i = 0) ∧ (nx h S s < S → h (nx h S s) ≠ 0) := nxF_ok _ _ (by omega)
theorem nx_of {s t : Nat} (h1 : s ≤ t) (h2 : t ≤ S) (h3 : ∀ i, s ≤ i → i < t → h i = 0) (h4 : t < S → h t ≠ 0) : nx h S s = t := by
  obtain ⟨a1, a2, a3, a4⟩ := nx_ok (h := h) (S := S) (s := s) (by omega)
  rcases Nat.lt_trichotomy (nx h S s) t with c | c | c
  · exact absurd (h3 _ a1 c) (a4 (by omega))
  · exact c
  · exact absurd (a3 t h1 c) (h4 (by omega))
theorem ahF_ok {l : Nat} : ∀ k, (ahF h l k = -1 ∧ ∀ i, l ≤ i → i < k → h i ≠ 1) ∨ ∃ a : Nat, ahF h l k = a ∧ l ≤ a ∧ a < k ∧ h a = 1 ∧ ∀ i, a < i → i < k → h i ≠ 1
  | 0 => Or.inl ⟨rfl, fun i h1 h2 => by omega⟩
  | k + 1 => by
    unfold ahF
    by_cases c : k < l
    · rw [if_pos c]; exact Or.inl ⟨rfl, fun i h1 h2 => by omega⟩
    · rw [if_neg c]
      by_cases c2 : h k = 1
      · rw [if_pos c2]; exact Or.inr ⟨k, rfl, by omega, by omega, c2, fun i h1 h2 => by omega⟩
      · rw [if_neg c2]
        rcases ahF_ok k with ⟨a1, a2⟩ | ⟨a, a1, a2, a3, a4, a5⟩
        · refine Or.inl ⟨a1, fun i h1 h2 => ?_⟩
          by_cases hi : i = k
          · rw [hi]; exact c2
          · exact a2 i h1 (by omega)
        · refine Or.inr ⟨a, a1, a2, by omega, a4, fun i h1 h2 => ?_⟩
          by_cases hi : i = k
          · rw [hi]; exact c2
          · exact a5 i h1 (by omega)
theorem bhF_ok {e : Nat} : ∀ (f k : Nat), e ≤ k + f → (bhF h e f k = -1 ∧ ∀ i, k ≤ i → i < e → h i ≠ 1) ∨ ∃ a : Nat, bhF h e f k = a ∧ k ≤ a ∧ a < e ∧ h a = 1 ∧ ∀ i, k ≤ i → i < a → h i ≠ 1
  | 0, k, h0 => Or.inl ⟨rfl, fun i h1 h2 => by omega⟩
  | f + 1, k, h0 => by
    unfold bhF
    by_cases c : k < e
    · rw [if_pos c]
      by_cases c2 : h k = 1
      · rw [if_pos c2]; exact Or.inr ⟨k, rfl, Nat.le_refl _, c, c2, fun i h1 h2 => by omega⟩
      · rw [if_neg c2]
        rcases bhF_ok (e := e) f (k + 1) (by omega) with ⟨a1, a2⟩ | ⟨a, a1, a2, a3, a4, a5⟩
        · refine Or.inl ⟨a1, fun i h1 h2 => ?_⟩
          by_cases hi : i = k
          · rw [hi]; exact c2
          · exact a2 i (by omega) h2
        · refine Or.inr ⟨a, a1, by omega, a3, a4, fun i h1 h2 => ?_⟩
          by_cases hi : i = k
          · rw [hi]; exact c2
          · exact a5 i (by omega) h2
    · rw [if_neg c]; exact Or.inl ⟨rfl, fun i h1 h2 => by omega⟩
theorem bh_ok {e s : Nat} : (bh h e s = -1 ∧ ∀ i, s < i → i < e → h i ≠ 1) ∨ ∃ a : Nat, bh h e s = a ∧ s < a ∧ a < e ∧ h a = 1 ∧ ∀ i, s < i → i < a → h i ≠ 1 := bhF_ok _ _ (by omega)
theorem flF2_ok : ∀ (f s : Nat), s + f = S → s ≤ flF2 S V lo hi h f s ∧ flF2 S V lo hi h f s ≤ S ∧ (∀ i, s ≤ i → i < flF2 S V lo hi h f s → ¬ loose S V lo hi h i) ∧ (flF2 S V lo hi h f s < S → loose S V lo hi h (flF2 S V lo hi h f s))
  | 0, s, h0 => ⟨Nat.le_refl _, by unfold flF2; omega, fun i h1 h2 => by unfold flF2 at h2; omega, fun h2 => by unfold flF2 at h2; omega⟩
  | f + 1, s, h0 => by
    unfold flF2
    by_cases c : loose S V lo hi h s
    · rw [if_pos c]
      exact ⟨Nat.le_refl _, by omega, fun i h1 h2 => by omega, fun _ => c⟩
    · rw [if_neg c]
      obtain ⟨a1, a2, a3, a4⟩ := flF2_ok f (s + 1) (by omega)
      refine ⟨by omega, a2, fun i h1 h2 => ?_, a4⟩
      by_cases hi : i = s
      · rw [hi]; exact c
      · exact a3 i (by omega) h2
theorem fLo_ok : fLo S V lo hi h 0 ≤ S ∧ (∀ i, i < fLo S V lo hi h 0 → ¬ loose S V lo hi h i) ∧ (fLo S V lo hi h 0 < S → loose S V lo hi h (fLo S V lo hi h 0)) := by
  obtain ⟨a1, a2, a3, a4⟩ := flF2_ok (S := S) (V := V) (lo := lo) (hi := hi) (h := h) (S - 0) 0 (by omega)
  exact ⟨a2, fun i hi => a3 i (Nat.zero_le _) hi, a4⟩
theorem fLo_of {k : Nat} (h1 : k ≤ S) (h2 : ∀ i, i < k → ¬ loose S V lo hi h i) (h3 : k < S → loose S V lo hi h k) : fLo S V lo hi h 0 = k := by
  obtain ⟨a1, a2, a3⟩ := fLo_ok (S := S) (V := V) (lo := lo) (hi := hi) (h := h)
  rcases Nat.lt_trichotomy (fLo S V lo hi h 0) k with c | c | c
  · exact absurd (a3 (by omega)) (h2 _ c)
  · exact c
  · exact absurd (h3 (by omega)) (a2 _ c)
theorem nzc_up {k : Nat} {v : Int} : ∀ n, nzc (fup h k v) n + (if k < n ∧ h k ≠ 0 then 1 else 0) = nzc h n + (if k < n ∧ v ≠ 0 then 1 else 0)
  | 0 => by simp [nzc]
  | n + 1 => by
    have ih := nzc_up (k := k) (v := v) n
    unfold nzc
    by_cases c : n = k
    · subst c
      rw [fup_at]
      rw [if_neg (by omega), if_neg (by omega)] at ih
      by_cases c1 : h n ≠ 0 <;> by_cases c2 : v ≠ 0 <;> simp [c1, c2] <;> omega
    · rw [fup_ne c]
      by_cases c1 : k < n
      · have c3 : k < n + 1 := by omega
        simp only [c1, c3, true_and] at ih ⊢
        omega
      · have c3 : ¬ k < n + 1 := by omega
        simp only [c1, c3, false_and, if_false] at ih ⊢
        omega
theorem nzc_le : ∀ n, nzc h n ≤ n
  | 0 => Nat.le_refl _
  | n + 1 => by
    have := nzc_le n
    unfold nzc; split <;> omega
theorem nzc_pos {k : Nat} (hk : h k ≠ 0) : ∀ {n}, k < n → 0 < nzc h n
  | 0, h0 => by omega
  | n + 1, h0 => by
    unfold nzc
    by_cases c : n = k
    · rw [c, if_pos hk]; omega
    · have := nzc_pos hk (n := n) (by omega)
      omega
/-- one settling -/
theorem settle_ok (hw : WL S lo hi) (hh : HI S lo hi h) {s : Nat} (hs : s < S) (hl : loose S V lo hi h s) :
    HI S lo hi (settle lo hi h s (nx h S (s + 1))) ∧ nzc (settle lo hi h s (nx h S (s + 1))) S + 1 = nzc h S ∧ (∀ i, i < plS lo h s (nx h S (s + 1)) → settle lo hi h s (nx h S (s + 1)) i = h i) ∧ (∀ i, settle lo hi h s (nx h S (s + 1)) i = 1 → h i = 1) ∧ plS lo h s (nx h S (s + 1)) ≤ nx h S (s + 1) ∧ (∀ i, S ≤ i → settle lo hi h s (nx h S (s + 1)) i = h i) := by
  obtain ⟨⟨l1, l2, l3⟩, l4⟩ := hl
  obtain ⟨n1, n2, n3, n4⟩ := nx_ok (h := h) (S := S) (s := s + 1) (by omega)
  obtain ⟨t, ht⟩ : ∃ t, t = nx h S (s + 1) := ⟨_, rfl⟩
  rw [← ht] at l2 l3 l4 n1 n2 n3 n4 ⊢
  have n4 := n4 l2
  have vs := hh.v s hs
  have vt := hh.v t l2
  -- a beat that isn't the main one goes
  have one : ∀ k, k < S → h k = 1 → HI S lo hi (fup h k 0) ∧ nzc (fup h k 0) S + 1 = nzc h S ∧ (∀ i, i < k → fup h k 0 i = h i) ∧ (∀ i, fup h k 0 i = 1 → h i = 1) ∧ (∀ i, S ≤ i → fup h k 0 i = h i) := by
    intro k hk hk1
    refine ⟨⟨fun i hi => ?_, fun i hi => ?_, fun i a c z1 z2 z3 z4 z5 z6 z7 => ?_⟩, ?_, fun i hi => fup_ne (by omega), fun i hi => ?_, fun i hi => fup_ne (by omega)⟩
    · by_cases c : i = k
      · rw [c, fup_at]; omega
      · rw [fup_ne c]; exact hh.v i hi
    · obtain ⟨m, m1, m2, m3⟩ := hh.e i hi
      exact ⟨m, m1, m2, by rw [fup_ne (fun z => by rw [z] at m3; omega)]; exact m3⟩
    · have e1 : h a = 2 := by
        by_cases y : a = k
        · rw [y, fup_at] at z6; omega
        · rw [fup_ne y] at z6; exact z6
      have e2 : h c = 2 := by
        by_cases y : c = k
        · rw [y, fup_at] at z7; omega
        · rw [fup_ne y] at z7; exact z7
      exact hh.u i a c z1 z2 z3 z4 z5 e1 e2
    · have := nzc_up (h := h) (k := k) (v := 0) S
      rw [if_pos ⟨hk, by omega⟩, if_neg (by omega)] at this
      omega
    · by_cases c : i = k
      · rw [c, fup_at] at hi; omega
      · rw [fup_ne c] at hi; exact hi
  -- a main beat moves
  have two : ∀ k a, k < S → h k = 2 → lo k ≤ a → a < hi k → h a = 1 → HI S lo hi (fup (fup h a 2) k 0) ∧ nzc (fup (fup h a 2) k 0) S + 1 = nzc h S ∧ (∀ i, i < k → i < a → fup (fup h a 2) k 0 i = h i) ∧ (∀ i, fup (fup h a 2) k 0 i = 1 → h i = 1) ∧ (∀ i, S ≤ i → fup (fup h a 2) k 0 i = h i) := by
    intro k a hk hk2 a1 a2 a3
    have hak : a ≠ k := fun z => by rw [z] at a3; omega
    have hwk := hw.a k hk
    have haS : a < S := by omega
    have ev : ∀ i, fup (fup h a 2) k 0 i = if i = k then 0 else if i = a then 2 else h i := by intro i; rfl
    refine ⟨⟨fun i hi => ?_, fun i hi => ?_, fun i x y z1 z2 z3 z4 z5 z6 z7 => ?_⟩, ?_, fun i h1 h2 => by rw [ev, if_neg (by omega), if_neg (by omega)], fun i hi => ?_, fun i hi => by rw [ev, if_neg (by omega), if_neg (by omega)]⟩
    · rw [ev]; split
      · omega
      · split
        · omega
        · exact hh.v i hi
    · obtain ⟨m, m1, m2, m3⟩ := hh.e i hi
      by_cases c : m = k
      · have hb := hw.b i k hi (by omega) (by omega)
        exact ⟨a, by omega, by omega, by rw [ev, if_neg hak, if_pos rfl]⟩
      · refine ⟨m, m1, m2, ?_⟩
        rw [ev, if_neg c]
        split
        · rfl
        · exact m3
    · rw [ev] at z6 z7
      have x0 : x ≠ k := fun z => by rw [if_pos z] at z6; omega
      have y0 : y ≠ k := fun z => by rw [if_pos z] at z7; omega
      rw [if_neg x0] at z6
      rw [if_neg y0] at z7
      by_cases cx : x = a
      · by_cases cy : y = a
        · omega
        · rw [if_neg cy] at z7
          have b1 := hw.b k a hk a1 a2
          have b2 := hw.b i a z1 (by omega) (by omega)
          exact absurd (hh.u k y k hk (by omega) (by omega) (by omega) (by omega) z7 hk2) y0
      · rw [if_neg cx] at z6
        by_cases cy : y = a
        · have b1 := hw.b k a hk a1 a2
          have b2 := hw.b i a z1 (by omega) (by omega)
          exact absurd (hh.u k x k hk (by omega) (by omega) (by omega) (by omega) z6 hk2) x0
        · rw [if_neg cy] at z7
          exact hh.u i x y z1 z2 z3 z4 z5 z6 z7
    · have e1 := nzc_up (h := h) (k := a) (v := 2) S
      have e2 := nzc_up (h := fup h a 2) (k := k) (v := 0) S
      rw [if_pos ⟨haS, by omega⟩, if_pos ⟨haS, by omega⟩] at e1
      rw [fup_ne (Ne.symm hak), if_pos ⟨hk, by omega⟩, if_neg (by omega)] at e2
      omega
    · rw [ev] at hi
      split at hi
      · omega
      · split at hi
        · omega
        · exact hi
  have hws := hw.a s hs
  have hwt := hw.a t l2
  unfold settle plS
  by_cases c1 : h s < h t ∨ (h s = 1 ∧ h t = 1)
  · rw [if_pos c1, if_pos c1]
    obtain ⟨o1, o2, o3, o4, o5⟩ := one s hs (by omega)
    exact ⟨o1, o2, o3, o4, by omega, o5⟩
  · rw [if_neg c1, if_neg c1]
    by_cases c2 : h t < h s
    · rw [if_pos c2, if_pos c2]
      obtain ⟨o1, o2, o3, o4, o5⟩ := one t l2 (by omega)
      exact ⟨o1, o2, o3, o4, by omega, o5⟩
    · rw [if_neg c2, if_neg c2]
      by_cases c3 : ahF h (lo s) s ≠ -1
      · rw [if_pos c3, if_pos c3]
        rcases ahF_ok (h := h) (l := lo s) s with ⟨a1, a2⟩ | ⟨a, a1, a2, a3, a4, a5⟩
        · exact absurd a1 c3
        · rw [a1, Int.toNat_natCast]
          obtain ⟨o1, o2, o3, o4, o5⟩ := two s a hs (by omega) a2 (by omega) a4
          exact ⟨o1, o2, fun i hi => o3 i (by omega) hi, o4, by omega, o5⟩
      · rw [if_neg c3, if_neg c3]
        rcases bh_ok (h := h) (e := hi t) (s := t) with ⟨a1, a2⟩ | ⟨a, a1, a2, a3, a4, a5⟩
        · exact absurd ⟨by omega, by omega, by omega, a1⟩ l4
        · rw [a1, Int.toNat_natCast]
          obtain ⟨o1, o2, o3, o4, o5⟩ := two t a l2 (by omega) (by omega) a3 a4
          exact ⟨o1, o2, fun i hi => o3 i hi (by omega), o4, by omega, o5⟩
/-- nothing ahead of what has changed has become loose -/
theorem loose_ahead {h' : Nat → Int} {p k : Nat} (hw : WL S lo hi) (hk : ∀ i, i < k → ¬ loose S V lo hi h i) (hp : p ≤ k + V) (e1 : ∀ i, i < p → h' i = h i) (e2 : ∀ i, h' i = 1 → h i = 1) {s : Nat} (hsS : s < S) (hs : s + V < p) : ¬ loose S V lo hi h' s := by
  rintro ⟨⟨l1, l2, l3⟩, l4⟩
  obtain ⟨n1, n2, n3, n4⟩ := nx_ok (h := h') (S := S) (s := s + 1) (by omega)
  have n4 := n4 l2
  have hnx : nx h S (s + 1) = nx h' S (s + 1) := nx_of n1 n2 (fun i z1 z2 => by rw [← e1 i (by omega)]; exact n3 i z1 z2) (fun _ => by rw [← e1 _ (by omega)]; exact n4)
  have hnl := hk s (by omega)
  have hst : stk lo hi h s (nx h S (s + 1)) := by
    rcases Classical.em (stk lo hi h s (nx h S (s + 1))) with z | z
    · exact z
    · exact absurd ⟨⟨by rw [← e1 s (by omega)]; exact l1, by rw [hnx]; exact l2, by rw [hnx]; exact l3⟩, z⟩ hnl
  rw [hnx] at hst
  obtain ⟨s1, s2, s3, s4⟩ := hst
  refine l4 ⟨by rw [e1 s (by omega)]; exact s1, by rw [e1 _ (by omega)]; exact s2, ?_, ?_⟩
  · rcases ahF_ok (h := h) (l := lo s) s with ⟨a1, a2⟩ | ⟨a, a1, a2, a3, a4, a5⟩
    · rcases ahF_ok (h := h') (l := lo s) s with ⟨c1, c2⟩ | ⟨c, c1, c2, c3, c4, c5⟩
      · exact c1
      · exact absurd (e2 c c4) (a2 c c2 c3)
    · omega
  · rcases bh_ok (h := h) (e := hi (nx h' S (s + 1))) (s := nx h' S (s + 1)) with ⟨a1, a2⟩ | ⟨a, a1, a2, a3, a4, a5⟩
    · rcases bh_ok (h := h') (e := hi (nx h' S (s + 1))) (s := nx h' S (s + 1)) with ⟨c1, c2⟩ | ⟨c, c1, c2, c3, c4, c5⟩
      · exact c1
      · exact absurd (e2 c c4) (a2 c c2 c3)
    · omega
/-- the end: nothing is loose any more -/
theorem hearF_ok (hw : WL S lo hi) : ∀ (f : Nat) (h : Nat → Int) (m : Nat), HI S lo hi h → nzc h S ≤ f → HI S lo hi (hearF S V lo hi f h m).1 ∧ (∀ s, s < S → ¬ loose S V lo hi (hearF S V lo hi f h m).1 s) ∧ m ≤ (hearF S V lo hi f h m).2 ∧ (hearF S V lo hi f h m).2 ≤ m + f
  | 0, h, m, hh, h0 => by
    refine ⟨hh, fun s hs hl => ?_, Nat.le_refl _, Nat.le_refl _⟩
    have := nzc_pos (h := h) (k := s) hl.1.1 hs
    omega
  | f + 1, h, m, hh, h0 => by
    obtain ⟨a1, a2, a3⟩ := fLo_ok (S := S) (V := V) (lo := lo) (hi := hi) (h := h)
    unfold hearF
    by_cases c : fLo S V lo hi h 0 < S
    · rw [if_pos c]
      obtain ⟨b1, b2, -⟩ := settle_ok hw hh c (a3 c)
      obtain ⟨c1, c2, c3, c4⟩ := hearF_ok hw f _ (m + 1) b1 (by omega)
      exact ⟨c1, c2, by omega, by omega⟩
    · rw [if_neg c]
      exact ⟨hh, fun s hs => a2 s (by omega), Nat.le_refl _, by omega⟩
end HEAR
