/-! the component's feet -/
def plc (w : Nat → Int) (st : Nat → Nat) (s : Nat) : Nat := if w 4 = 2 then s + st s - 1 else s
/-- what laying feet does to the rows of a Stress o -/
abbrev FR (o : Nat) (w : Nat → Int) (st : Nat → Nat) (g g' : GG) : Prop := (∀ s, g' (o + 1) s = if 0 < st s then (st s : Int) else g (o + 1) s) ∧ (∀ s, g' (o + 2) s = if 0 < st s then (plc w st s : Int) else g (o + 2) s) ∧ (∀ a i, a ≠ o + 1 → a ≠ o + 2 → g' a i = g a i)
theorem FR.z {o : Nat} {w : Nat → Int} {st : Nat → Nat} {g g' : GG} (hx_ : FR o w st g g') : ∀ s, g' (o + 1) s = if 0 < st s then (st s : Int) else g (o + 1) s := hx_.1
theorem FR.b {o : Nat} {w : Nat → Int} {st : Nat → Nat} {g g' : GG} (hx_ : FR o w st g g') : ∀ s, g' (o + 2) s = if 0 < st s then (plc w st s : Int) else g (o + 2) s := hx_.2.1
theorem FR.f {o : Nat} {w : Nat → Int} {st : Nat → Nat} {g g' : GG} (hx_ : FR o w st g g') : ∀ a i, a ≠ o + 1 → a ≠ o + 2 → g' a i = g a i := hx_.2.2
section FEETC
variable {E : am_E} {g : GG} {fl : FF} {mo : Nat → Nat} {w : Nat → Int} {o : Nat}
theorem FR_0 {st : Nat → Nat} (h : ∀ s, st s = 0) : FR o w st g g :=
  ⟨fun s => by rw [if_neg (by rw [h]; omega)], fun s => by rw [if_neg (by rw [h]; omega)], fun _ _ _ _ => rfl⟩
theorem FR_comp {st st1 st2 : Nat → Nat} {g g1 g2 : GG} (h1 : FR o w st1 g g1) (h2 : FR o w st2 g1 g2) (h : ∀ s, (st1 s = 0 ∧ st s = st2 s) ∨ (st2 s = 0 ∧ st s = st1 s)) : FR o w st g g2 := by
  refine ⟨fun s => ?_, fun s => ?_, fun a i z1 z2 => by rw [h2.f a i z1 z2, h1.f a i z1 z2]⟩
  · rw [h2.z, h1.z]
    rcases h s with ⟨h3, h4⟩ | ⟨h3, h4⟩
    · rw [h3, h4]; simp
    · rw [h3, h4]; simp
  · rw [h2.b, h1.b]
    unfold plc
    rcases h s with ⟨h3, h4⟩ | ⟨h3, h4⟩
    · rw [h3, h4]; simp
    · rw [h3, h4]; simp
theorem isHeavy_ok {Q : Int → GG → FF → Prop} {k : Nat} {v : Int} (hv : v = k) (h60 : k < 60) (hmo : g 20 k = mo k) (h : Q (if 2 ≤ mo k then 1 else 0) g fl) : cI E 74 [amR 11, amI v] g fl Q := by
  refine b74 ?_
  rw [rd_in hv h60, hmo]
  by_cases c : 2 ≤ mo k
  · rw [b01_t (by omega)]; rw [if_pos c] at h; exact h
  · rw [b01_f (by omega)]; rw [if_neg c] at h; exact h
theorem sizeForward_ok {Q : Int → GG → FF → Prop} {k e : Nat} {v1 v2 v3 : Int} (h1 : v1 = w 4) (h2 : v2 = k) (h3 : v3 = e) (hk : k < e) (he : e ≤ 60) (hmo : ∀ s, k ≤ s → s < e → g 20 s = mo s) (h : Q (szF mo w k e) g fl) : cI E 80 [amR 11, amI v1, amI v2, amI v3] g fl Q := by
  have nxt : (v1 = 0 ∨ mo k < 2) → (v1 = 1 → (v2 + 1 < v3 → cI E 74 [amR 11, amI (v2 + 1)] g fl (fun x6 g6 f6 => Q (if x6 = 0 then (2 : Int) else 0) g6 f6)) ∧ (¬ ((v2 + 1) < v3) → Q 0 g fl)) ∧ (¬ (v1 = 1) → Q (if (v2 + 1) < v3 then (2 : Int) else 0) g fl) := by
    intro c0
    unfold szF at h
    rw [if_neg (by omega)] at h
    refine ⟨fun c1 => ⟨fun c2 => ?_, fun c2 => ?_⟩, fun c1 => ?_⟩
    · refine isHeavy_ok (k := k + 1) (mo := mo) (by omega) (by omega) (hmo _ (by omega) (by omega)) ?_
      by_cases c3 : 2 ≤ mo (k + 1)
      · rw [if_pos c3, if_neg (by omega)]; rw [if_neg (by omega)] at h; exact h
      · rw [if_neg c3, if_pos rfl]; rw [if_pos ⟨by omega, by omega⟩] at h; exact h
    · rw [if_neg (by omega)] at h; exact h
    · by_cases c3 : k + 1 < e
      · rw [if_pos (by omega)]; rw [if_pos ⟨c3, by omega⟩] at h; exact h
      · rw [if_neg (by omega)]; rw [if_neg (by omega)] at h; exact h
  refine b80 ⟨rgI (by omega) (by omega), fun c => nxt (Or.inl c), fun c => ?_⟩
  refine isHeavy_ok (k := k) (mo := mo) h2 (by omega) (hmo _ (by omega) hk) ?_
  by_cases c3 : 2 ≤ mo k
  · rw [if_pos c3]
    refine ⟨fun z => absurd z (by omega), fun _ => ?_⟩
    unfold szF at h
    rw [if_pos ⟨by omega, c3⟩] at h
    exact h
  · rw [if_neg c3]
    exact ⟨fun _ => nxt (Or.inr (by omega)), fun z => absurd rfl z⟩
theorem sizeBackward_ok {Q : Int → GG → FF → Prop} {k p : Nat} {v1 v2 v3 : Int} (hw4 : 0 ≤ w 4 ∧ w 4 ≤ 2) (h1 : v1 = w 4) (h2 : v2 = k) (h3 : v3 = p) (hk : p ≤ k) (he : k < 60) (hmo : ∀ s, p ≤ s → s ≤ k → g 20 s = mo s) (h : Q (szB mo w k p) g fl) : cI E 81 [amR 11, amI v1, amI v2, amI v3] g fl Q := by
  unfold szB at h
  refine b81 ⟨fun c => ?_, fun c => ?_⟩
  · rw [if_pos (by omega)] at h
    by_cases c2 : p < k
    · rw [if_pos (by omega)]; rw [if_pos c2] at h; exact h
    · rw [if_neg (by omega)]; rw [if_neg c2] at h; exact h
  · rw [if_neg (by omega)] at h
    refine ⟨fun c2 => ⟨rgI (by omega) (by omega), ?_⟩, fun c2 => ⟨fun c1 => ?_, fun c1 => ?_⟩⟩
    · refine isHeavy_ok (k := k - 1) (mo := mo) (by omega) (by omega) (hmo _ (by omega) (by omega)) ⟨fun c1 => ?_, fun c1 => ⟨fun c4 => ?_, fun c4 => ?_⟩⟩
      · rw [if_pos (by omega)] at h
        refine isHeavy_ok (k := k) (mo := mo) h2 (by omega) (hmo _ (by omega) (by omega)) ⟨fun c5 => ?_, fun c5 => ?_⟩
        · rw [if_neg (by intro z; rw [if_pos z] at c5; omega)] at h
          by_cases c6 : 2 ≤ mo (k - 1)
          · rw [if_pos c6, if_neg (by omega)]; rw [if_neg (by omega)] at h; exact h
          · rw [if_neg c6, if_pos rfl]; rw [if_pos ⟨by omega, by omega⟩] at h; exact h
        · rw [if_pos (by rcases Nat.lt_or_ge (mo k) 2 with z | z; exact absurd (if_neg (by omega)) c5; exact z)] at h
          exact h
      · rw [if_neg (by omega)] at h
        rw [if_pos ⟨by omega, by rcases Nat.lt_or_ge (mo (k - 1)) 2 with z | z; exact z; rw [if_pos z] at c4; omega⟩] at h
        exact h
      · rw [if_neg (by omega)] at h
        rw [if_neg (by intro z; rw [if_neg (by omega)] at c4; exact c4 rfl)] at h
        refine isHeavy_ok (k := k) (mo := mo) h2 (by omega) (hmo _ (by omega) (by omega)) ?_
        by_cases c5 : 2 ≤ mo k
        · rw [if_pos c5, b01_t (by omega)]; rw [if_pos c5] at h; exact h
        · rw [if_neg c5, b01_f (by omega)]; rw [if_neg c5] at h; exact h
    · rw [if_pos (by omega)] at h
      refine isHeavy_ok (k := k) (mo := mo) h2 (by omega) (hmo _ (by omega) (by omega)) ⟨fun c5 => ?_, fun c5 => ?_⟩
      · rw [if_neg (by intro z; rw [if_pos z] at c5; omega), if_neg (by omega)] at h; exact h
      · rw [if_pos (by rcases Nat.lt_or_ge (mo k) 2 with z | z; exact absurd (if_neg (by omega)) c5; exact z)] at h
        exact h
    · rw [if_neg (by omega), if_neg (by omega)] at h
      refine isHeavy_ok (k := k) (mo := mo) h2 (by omega) (hmo _ (by omega) (by omega)) ?_
      by_cases c5 : 2 ≤ mo k
      · rw [if_pos c5, b01_t (by omega)]; rw [if_pos c5] at h; exact h
      · rw [if_neg c5, b01_f (by omega)]; rw [if_neg c5] at h; exact h
theorem addFoot_ok {Q : GG → FF → Prop} (ho : o = 21 ∨ o = 29) {k r : Nat} {v1 v2 v3 : Int} (h1 : v1 = k) (h2 : v2 = r) (h3 : v3 = w 4) (hk : k < 60) (hr : r ≤ 2)
    (h : ∀ g1 : GG, FR o w (fun s => if s = k then r else 0) g g1 → Q g1 fl) : cV E 82 [amR o, amI v1, amI v2, amI v3] g fl Q := by
  have go : ∀ (g2 g4 : GG) (x : Int), 0 < r → x = (plc w (fun s => if s = k then r else 0) k : Nat) → g2 = wr g (o + 1) 60 v1 v2 → g4 = wr g2 (o + 2) 60 v1 x → Q g4 fl := by
    intro g2 g4 x hr0 hx e2 e4
    rw [wr_in h1 hk] at e2 e4
    refine h g4 ⟨fun s => ?_, fun s => ?_, fun a i z1 z2 => by rw [e4, e2]; (simp (disch := omega) only [up_at, up_ne])⟩
    · (try dsimp only); by_cases hs : s = k
      · subst hs; rw [if_pos (by rw [if_pos rfl]; exact hr0), if_pos rfl, e4, e2]; (simp (disch := omega) only [up_at, up_ne]); exact h2
      · rw [if_neg (by rw [if_neg hs]; omega), e4, e2]; (simp (disch := omega) only [up_at, up_ne])
    · (try dsimp only); by_cases hs : s = k
      · subst hs; rw [if_pos (by rw [if_pos rfl]; exact hr0), e4]; (simp (disch := omega) only [up_at, up_ne]); exact hx
      · rw [if_neg (by rw [if_neg hs]; omega), e4, e2]; (simp (disch := omega) only [up_at, up_ne])
  refine b82 ho ⟨fun c => fun g2 e2 => ⟨fun c2 => ⟨rgI (by omega) (by omega), rgI (by omega) (by omega), fun g4 e4 => go g2 g4 _ (by omega) ?_ e2 e4⟩, fun c2 => fun g4 e4 => go g2 g4 _ (by omega) ?_ e2 e4⟩, fun c => h g ?_⟩
  · unfold plc
    dsimp only
    rw [if_pos (by omega), if_pos rfl]; omega
  · unfold plc
    rw [if_neg (by omega)]; omega
  · exact FR_0 (fun s => by split <;> omega)
theorem layF_loop {Q : GG → FF → Prop} (ho : o = 21 ∨ o = 29) {q : Nat} (hq : q = 2 ∨ q = 3) {e : Nat} (he : e ≤ 60) {v3 v4 v5 : Int} (h4 : v4 = e) (h5 : v5 = w 4) :
    ∀ (f k : Nat) (v6 v7 : Int) (g : GG), e ≤ k + f → v7 = k → v6 ≤ k → (∀ s, k ≤ s → s < e → g 20 s = mo s) → g q 6 = w 6 → (∀ g' : GG, FR o w (fwd mo w e f k) g g' → Q g' fl) →
      am_X E 78 (8, (0, 0), [some (amR o), some (amR 11), some (amR q), some (amI v3), some (amI v4), some (amI v5), some (amI v6), some (amI v7), none], [], mk g fl) (RV Q) := by
  intro f
  induction f with
  | zero =>
    intro k v6 v7 g h0 h7 h6 hmo hw6 h
    exact b78_8 ho hq ⟨fun c => absurd c (by omega), fun _ => h g (FR_0 (fun s => rfl))⟩
  | succ f ih =>
    intro k v6 v7 g h0 h7 h6 hmo hw6 h
    by_cases hk : k < e
    · have hz := szF_in (mo := mo) (w := w) hk
      have step : ∀ (r : Nat) (x : Int), r = rsz w (szF mo w k e) → x = r → cV E 82 [amR o, amI v7, amI x, amI v5] g fl (fun g5 f5 => am_rg (v7 + x) ∧ am_rg (v7 + 1) ∧ am_X E 78 (8, (0, 0), [some (amR o), some (amR 11), some (amR q), some (amI v3), some (amI v4), some (amI v5), some (amI (v7 + x)), some (amI (v7 + 1)), none], [], mk g5 f5) (RV Q)) := by
        intro r x hr hx
        have hrr := rsz_in (w := w) (z := szF mo w k e)
        refine addFoot_ok (w := w) ho (k := k) (r := r) h7 hx h5 (by omega) (by omega) (fun g5 F => ⟨rgI (by omega) (by omega), rgI (by omega) (by omega), ?_⟩)
        have hmo5 : ∀ s, k ≤ s → s < e → g5 20 s = mo s := fun s z1 z2 => by rw [F.f _ _ (by omega) (by omega)]; exact hmo s z1 z2
        have hw5 : g5 q 6 = w 6 := by rw [F.f _ _ (by omega) (by omega)]; exact hw6
        have fin : ∀ g' : GG, FR o w (fwd mo w e f (k + max 1 (szF mo w k e))) g5 g' → Q g' fl := by
          intro g' F2
          refine h g' (FR_comp F F2 (fun s => ?_))
          by_cases hs : s = k
          · right
            have := fwd_in (mo := mo) (w := w) (e := e) f (k + max 1 (szF mo w k e)) s
            refine ⟨by omega, ?_⟩
            rw [if_pos hs]
            show (if k < e then _ else _) = _
            rw [if_pos hk, if_pos hs, hr]
          · left
            rw [if_neg hs]
            refine ⟨rfl, ?_⟩
            show (if k < e then _ else _) = _
            rw [if_pos hk, if_neg hs]
        by_cases h2 : szF mo w k e = 2
        · have hr2 : r = 2 := by omega
          refine b78_8 ho hq ⟨fun _ => ⟨fun _ => ⟨rgI (by omega) (by omega), ?_⟩, fun c => absurd (by omega) c⟩, fun c => absurd (by omega) c⟩
          refine ih (k + 2) _ _ g5 (by omega) (by omega) (by omega) (fun s z1 z2 => hmo5 s (by omega) z2) hw5 ?_
          rw [h2] at fin
          exact fin
        · refine ih (k + 1) _ _ g5 (by omega) (by omega) (by omega) (fun s z1 z2 => hmo5 s (by omega) z2) hw5 ?_
          rw [show max 1 (szF mo w k e) = 1 by omega] at fin
          exact fin
      refine b78_8 ho hq ⟨fun _ => ⟨fun c => absurd c (by omega), fun _ => ?_⟩, fun c => absurd (by omega) c⟩
      refine sizeForward_ok (mo := mo) (w := w) h5 h7 h4 hk he hmo ⟨fun c => ?_, fun c => ?_⟩
      · refine step (rsz w (szF mo w k e)) _ rfl ?_
        rw [rd_in (i := 6) (k := 6) rfl (by omega), hw6]
        unfold rsz
        rw [if_pos (by omega)]
        by_cases c2 : w 6 = 1
        · rw [b01_t c2, if_pos c2]; rfl
        · rw [b01_f c2, if_neg c2]; rfl
      · refine step (rsz w (szF mo w k e)) _ rfl ?_
        unfold rsz
        rw [if_neg (by omega)]
    · refine b78_8 ho hq ⟨fun c => absurd c (by omega), fun _ => h g (FR_0 (fun s => ?_))⟩
      show (if k < e then _ else _) = _
      rw [if_neg hk]
theorem layB_loop {Q : GG → FF → Prop} (ho : o = 21 ∨ o = 29) {q : Nat} (hq : q = 2 ∨ q = 3) {p : Nat} {v3 v4 v5 : Int} (hw4 : 0 ≤ w 4 ∧ w 4 ≤ 2) (h3 : v3 = p) (h5 : v5 = w 4) :
    ∀ (f k : Nat) (v6 v7 : Int) (g : GG), k ≤ p + f → k ≤ 60 → v7 = (k : Int) - 1 → k ≤ v6 → (∀ s, p ≤ s → s < k → g 20 s = mo s) → g q 6 = w 6 → (∀ g' : GG, FR o w (bwd mo w p f k) g g' → Q g' fl) →
      am_X E 79 (10, (0, 0), [some (amR o), some (amR 11), some (amR q), some (amI v3), some (amI v4), some (amI v5), some (amI v6), some (amI v7), none], [], mk g fl) (RV Q) := by
  intro f
  induction f with
  | zero =>
    intro k v6 v7 g h0 h60 h7 h6 hmo hw6 h
    exact b79_10 ho hq ⟨fun _ => h g (FR_0 (fun s => rfl)), fun c => absurd (by omega) c⟩
  | succ f ih =>
    intro k v6 v7 g h0 h60 h7 h6 hmo hw6 h
    by_cases hk : p < k
    · have hz := szB_in (mo := mo) (w := w) (k := k - 1) (p := p) (by omega)
      have step : ∀ (r : Nat) (x : Int), r = rsz w (szB mo w (k - 1) p) → x = r → cV E 82 [amR o, amI ((v7 + 1) - x), amI x, amI v5] g fl (fun g5 f5 => am_rg (v7 + (-1)) ∧ am_X E 79 (10, (0, 0), [some (amR o), some (amR 11), some (amR q), some (amI v3), some (amI v4), some (amI v5), some (amI ((v7 + 1) - x)), some (amI (v7 + (-1))), none], [], mk g5 f5) (RV Q)) := by
        intro r x hr hx
        have hrr := rsz_in (w := w) (z := szB mo w (k - 1) p)
        have cont : ∀ g5 : GG, FR o w (fun s => if s = k - r then r else 0) g g5 → am_rg (v7 + (-1)) ∧ am_X E 79 (10, (0, 0), [some (amR o), some (amR 11), some (amR q), some (amI v3), some (amI v4), some (amI v5), some (amI ((v7 + 1) - x)), some (amI (v7 + (-1))), none], [], mk g5 fl) (RV Q) := by
          intro g5 F
          refine ⟨rgI (by omega) (by omega), ?_⟩
          have hmo5 : ∀ s, p ≤ s → s < k → g5 20 s = mo s := fun s z1 z2 => by rw [F.f _ _ (by omega) (by omega)]; exact hmo s z1 z2
          have hw5 : g5 q 6 = w 6 := by rw [F.f _ _ (by omega) (by omega)]; exact hw6
          have fin : ∀ g' : GG, FR o w (bwd mo w p f (k - max 1 (szB mo w (k - 1) p))) g5 g' → Q g' fl := by
            intro g' F2
            refine h g' (FR_comp F F2 (fun s => ?_))
            have hin := (bwd_fs (mo := mo) (w := w) (p := p) f (k - max 1 (szB mo w (k - 1) p))).inn s
            by_cases hs : 0 < r ∧ s = k - r
            · right
              refine ⟨by omega, ?_⟩
              rw [if_pos hs.2]
              show (if p < k then _ else _) = _
              rw [if_pos hk, if_pos (by rw [← hr]; exact hs), hr]
            · left
              refine ⟨by split <;> omega, ?_⟩
              show (if p < k then _ else _) = _
              rw [if_pos hk, if_neg (by rw [← hr]; exact hs)]
          by_cases h2 : szB mo w (k - 1) p = 2
          · have hr2 : r = 2 := by omega
            refine b79_10 ho hq ⟨fun c => absurd c (by omega), fun _ => ⟨fun c => absurd c (by omega), fun _ => ⟨rgI (by omega) (by omega), ?_⟩⟩⟩
            refine ih (k - 2) _ _ g5 (by omega) (by omega) (by omega) (by omega) (fun s z1 z2 => hmo5 s z1 (by omega)) hw5 ?_
            rw [h2] at fin
            exact fin
          · refine ih (k - 1) _ _ g5 (by omega) (by omega) (by omega) (by omega) (fun s z1 z2 => hmo5 s z1 (by omega)) hw5 ?_
            rw [show max 1 (szB mo w (k - 1) p) = 1 by omega] at fin
            exact fin
        by_cases hr0 : r = 0
        · refine b82 ho ⟨fun c => absurd c (by omega), fun _ => cont g (FR_0 (fun s => by split <;> omega))⟩
        · exact addFoot_ok (w := w) ho (k := k - r) (r := r) (by omega) hx h5 (by omega) (by omega) cont
      refine b79_10 ho hq ⟨fun c => absurd c (by omega), fun _ => ⟨fun _ => ?_, fun c => absurd (by omega) c⟩⟩
      refine sizeBackward_ok (mo := mo) (w := w) (k := k - 1) (p := p) hw4 h5 (by omega) h3 (by omega) (by omega) (fun s z1 z2 => hmo s z1 (by omega)) ⟨fun c => ?_, fun c => ?_⟩
      · have hb := b01_01 ((rd g q 9 6) = 1)
        refine ⟨rgI (by omega) (by omega), rgI (by omega) (by omega), step (rsz w (szB mo w (k - 1) p)) _ rfl ?_⟩
        rw [rd_in (i := 6) (k := 6) rfl (by omega), hw6]
        unfold rsz
        rw [if_pos (by omega)]
        by_cases c2 : w 6 = 1
        · rw [b01_t c2, if_pos c2]; rfl
        · rw [b01_f c2, if_neg c2]; rfl
      · refine ⟨rgI (by omega) (by omega), rgI (by omega) (by omega), step (rsz w (szB mo w (k - 1) p)) _ rfl ?_⟩
        unfold rsz
        rw [if_neg (by omega)]
    · refine b79_10 ho hq ⟨fun _ => h g (FR_0 (fun s => ?_)), fun c => absurd (by omega) c⟩
      show (if p < k then _ else _) = _
      rw [if_neg hk]
theorem layF_ok {Q : GG → FF → Prop} (ho : o = 21 ∨ o = 29) {q : Nat} (hq : q = 2 ∨ q = 3) {p e : Nat} (he : e ≤ 60) {v3 v4 : Int} (h3 : v3 = p) (h4 : v4 = e) (hq4 : g q 4 = w 4) (hq6 : g q 6 = w 6) (hmo : ∀ s, p ≤ s → s < e → g 20 s = mo s)
    (h : ∀ g' : GG, FR o w (fwd mo w e 60 p) g g' → Q g' fl) : cV E 78 [amR o, amR 11, amR q, amI v3, amI v4] g fl Q :=
  b78 ho hq (layF_loop ho hq he h4 (by rw [rd_in (i := 4) (k := 4) rfl (by omega), hq4]) 60 p _ _ g (by omega) h3 (by omega) hmo hq6 h)
theorem layB_ok {Q : GG → FF → Prop} (ho : o = 21 ∨ o = 29) {q : Nat} (hq : q = 2 ∨ q = 3) {p e : Nat} (he : e ≤ 60) {v3 v4 : Int} (hw4 : 0 ≤ w 4 ∧ w 4 ≤ 2) (h3 : v3 = p) (h4 : v4 = e) (hq4 : g q 4 = w 4) (hq6 : g q 6 = w 6) (hmo : ∀ s, p ≤ s → s < e → g 20 s = mo s)
    (h : ∀ g' : GG, FR o w (bwd mo w p 60 e) g g' → Q g' fl) : cV E 79 [amR o, amR 11, amR q, amI v3, amI v4] g fl Q :=
  b79 ho hq ⟨rgI (by omega) (by omega), layB_loop ho hq hw4 h3 (by rw [rd_in (i := 4) (k := 4) rfl (by omega), hq4]) 60 e _ _ g (by omega) he (by omega) (by omega) hmo hq6 h⟩
end FEETC
