/-! the component's Stress: make -/
def eKw (w : Nat → Int) (p z : Nat) : Nat := if w 3 = 2 ∧ 1 < z then p + z - 1 else p + z
theorem eKw_in {w : Nat → Int} {p z : Nat} (hz : 1 ≤ z) : p < eKw w p z ∧ eKw w p z ≤ p + z := by unfold eKw; split <;> omega
/-- words and syllables as beats see them -/
abbrev CW (W S : Nat) (F z : Nat → Nat) (mk : Nat → Int) : Prop := (W ≤ 30) ∧ (S ≤ 60) ∧ (∀ k, k < W → -1 ≤ mk k ∧ mk k ≤ 60) ∧ (∀ k, k < W → 1 ≤ z k) ∧ (∀ k, k < W → F (k + 1) = F k + z k) ∧ (F 0 = 0) ∧ (F W = S)
theorem CW.W30 {W S : Nat} {F z : Nat → Nat} {mk : Nat → Int} (hx_ : CW W S F z mk) : W ≤ 30 := hx_.1
theorem CW.S60 {W S : Nat} {F z : Nat → Nat} {mk : Nat → Int} (hx_ : CW W S F z mk) : S ≤ 60 := hx_.2.1
theorem CW.mk1 {W S : Nat} {F z : Nat → Nat} {mk : Nat → Int} (hx_ : CW W S F z mk) : ∀ k, k < W → -1 ≤ mk k ∧ mk k ≤ 60 := hx_.2.2.1
theorem CW.z1 {W S : Nat} {F z : Nat → Nat} {mk : Nat → Int} (hx_ : CW W S F z mk) : ∀ k, k < W → 1 ≤ z k := hx_.2.2.2.1
theorem CW.Fs {W S : Nat} {F z : Nat → Nat} {mk : Nat → Int} (hx_ : CW W S F z mk) : ∀ k, k < W → F (k + 1) = F k + z k := hx_.2.2.2.2.1
theorem CW.F0 {W S : Nat} {F z : Nat → Nat} {mk : Nat → Int} (hx_ : CW W S F z mk) : F 0 = 0 := hx_.2.2.2.2.2.1
theorem CW.FW {W S : Nat} {F z : Nat → Nat} {mk : Nat → Int} (hx_ : CW W S F z mk) : F W = S := hx_.2.2.2.2.2.2
theorem CW.mono {W S : Nat} {F z : Nat → Nat} {mk : Nat → Int} (h : CW W S F z mk) : ∀ {k l : Nat}, k ≤ l → l ≤ W → F k ≤ F l := by
  intro k l
  induction l with
  | zero => intro h1 _; rw [show k = 0 by omega]; exact Nat.le_refl _
  | succ l ih =>
    intro h1 h2
    by_cases hk : k = l + 1
    · rw [hk]; exact Nat.le_refl _
    · have := ih (by omega) (by omega)
      rw [h.Fs l (by omega)]; omega
theorem CW.inn {W S : Nat} {F z : Nat → Nat} {mk : Nat → Int} (h : CW W S F z mk) {k : Nat} (hk : k < W) : F k + z k ≤ S := by
  rw [← h.Fs k hk, ← h.FW]; exact h.mono (by omega) (Nat.le_refl _)
/-- the rows of the component's Cut that beats look at -/
abbrev CG (W S : Nat) (F z : Nat → Nat) (mk : Nat → Int) (mo : Nat → Nat) (g : GG) : Prop := (g 11 10 = W) ∧ (g 11 11 = S) ∧ (∀ k, k < W → g 14 k = F k) ∧ (∀ k, k < W → g 15 k = z k) ∧ (∀ k, k < W → g 16 k = mk k) ∧ (∀ s, s < S → g 20 s = mo s) ∧ (∀ k, k < W → ∀ s, F k ≤ s → s < F k + z k → g 17 s = k)
theorem CG.gW {W S : Nat} {F z : Nat → Nat} {mk : Nat → Int} {mo : Nat → Nat} {g : GG} (hx_ : CG W S F z mk mo g) : g 11 10 = W := hx_.1
theorem CG.gS {W S : Nat} {F z : Nat → Nat} {mk : Nat → Int} {mo : Nat → Nat} {g : GG} (hx_ : CG W S F z mk mo g) : g 11 11 = S := hx_.2.1
theorem CG.gF {W S : Nat} {F z : Nat → Nat} {mk : Nat → Int} {mo : Nat → Nat} {g : GG} (hx_ : CG W S F z mk mo g) : ∀ k, k < W → g 14 k = F k := hx_.2.2.1
theorem CG.gz {W S : Nat} {F z : Nat → Nat} {mk : Nat → Int} {mo : Nat → Nat} {g : GG} (hx_ : CG W S F z mk mo g) : ∀ k, k < W → g 15 k = z k := hx_.2.2.2.1
theorem CG.gm {W S : Nat} {F z : Nat → Nat} {mk : Nat → Int} {mo : Nat → Nat} {g : GG} (hx_ : CG W S F z mk mo g) : ∀ k, k < W → g 16 k = mk k := hx_.2.2.2.2.1
theorem CG.gmo {W S : Nat} {F z : Nat → Nat} {mk : Nat → Int} {mo : Nat → Nat} {g : GG} (hx_ : CG W S F z mk mo g) : ∀ s, s < S → g 20 s = mo s := hx_.2.2.2.2.2.1
theorem CG.gwo {W S : Nat} {F z : Nat → Nat} {mk : Nat → Int} {mo : Nat → Nat} {g : GG} (hx_ : CG W S F z mk mo g) : ∀ k, k < W → ∀ s, F k ≤ s → s < F k + z k → g 17 s = k := hx_.2.2.2.2.2.2
theorem CG.keep {W S : Nat} {F z : Nat → Nat} {mk : Nat → Int} {mo : Nat → Nat} {g g' : GG} (h : CG W S F z mk mo g) (hf : ∀ a i, (a = 11 ∧ (i = 10 ∨ i = 11)) ∨ a = 14 ∨ a = 15 ∨ a = 16 ∨ a = 17 ∨ a = 20 → g' a i = g a i) : CG W S F z mk mo g' :=
  ⟨by rw [hf _ _ (by omega)]; exact h.gW, by rw [hf _ _ (by omega)]; exact h.gS, fun k hk => by rw [hf _ _ (by omega)]; exact h.gF k hk, fun k hk => by rw [hf _ _ (by omega)]; exact h.gz k hk, fun k hk => by rw [hf _ _ (by omega)]; exact h.gm k hk, fun s hs => by rw [hf _ _ (by omega)]; exact h.gmo s hs, fun k hk s h1 h2 => by rw [hf _ _ (by omega)]; exact h.gwo k hk s h1 h2⟩
/-- the rows of a Stress o for one word -/
abbrev WB (o : Nat) (w : Nat → Int) (mo : Nat → Nat) (p z : Nat) (m : Int) (k : Nat) (g : GG) : Prop := (g (o + 7) k = (cnt (stW mo w p (eKw w p z)) p (eKw w p z - p) : Nat)) ∧ (∀ s, p ≤ s → s < p + z → g (o + 3) s = fo (stW mo w p (eKw w p z)) p s) ∧ (∀ s, p ≤ s → s < p + z → g (o + 4) s = btW mo w p (eKw w p z) m z s)
theorem WB.n {o : Nat} {w : Nat → Int} {mo : Nat → Nat} {p z : Nat} {m : Int} {k : Nat} {g : GG} (hx_ : WB o w mo p z m k g) : g (o + 7) k = (cnt (stW mo w p (eKw w p z)) p (eKw w p z - p) : Nat) := hx_.1
theorem WB.fo {o : Nat} {w : Nat → Int} {mo : Nat → Nat} {p z : Nat} {m : Int} {k : Nat} {g : GG} (hx_ : WB o w mo p z m k g) : ∀ s, p ≤ s → s < p + z → g (o + 3) s = fo (stW mo w p (eKw w p z)) p s := hx_.2.1
theorem WB.bt {o : Nat} {w : Nat → Int} {mo : Nat → Nat} {p z : Nat} {m : Int} {k : Nat} {g : GG} (hx_ : WB o w mo p z m k g) : ∀ s, p ≤ s → s < p + z → g (o + 4) s = btW mo w p (eKw w p z) m z s := hx_.2.2
section MAKEC
variable {E : am_E} {g : GG} {fl : FF} {mo : Nat → Nat} {w : Nat → Int} {o : Nat}
theorem makeWord {Q : GG → FF → Prop} (ho : o = 21 ∨ o = 29) {q : Nat} (hq : q = 2 ∨ q = 3) (hw : w = g q) (hwo : waysOK w) {p z k : Nat} {m v3 : Int} (h3 : v3 = k) (hk : k < 30) (hkW : v3 < g 11 10) (hz1 : 1 ≤ z) (h60 : p + z ≤ 60) (hm1 : -1 ≤ m ∧ m ≤ 60) (hF : g 14 k = p) (hz : g 15 k = z) (hm : g 16 k = m) (hmo : ∀ s, p ≤ s → s < p + z → g 20 s = mo s)
    (i1 : ∀ s, p ≤ s → s < p + z → g (o + 1) s = 0) (i3 : ∀ s, p ≤ s → s < p + z → g (o + 3) s = -1) (i4 : ∀ s, p ≤ s → s < p + z → g (o + 4) s = 0)
    (h : ∀ g' : GG, WB o w mo p z m k g' → (∀ a i, ¬ ((a = o + 1 ∨ a = o + 2 ∨ a = o + 3 ∨ a = o + 4) ∧ p ≤ i ∧ i < p + z) → ¬ (a = o + 7 ∧ i = k) → g' a i = g a i) → am_X E 77 (25, (0, 0), [some (amR o), some (amR 11), some (amR q), some (amI (v3 + 1)), none, none, none], [], mk g' fl) (RV Q)) :
    am_X E 77 (25, (0, 0), [some (amR o), some (amR 11), some (amR q), some (amI v3), none, none, none], [], mk g fl) (RV Q) := by
  obtain ⟨he1, he2⟩ := eKw_in (w := w) (p := p) hz1
  obtain ⟨e, hee⟩ : ∃ e, e = eKw w p z := ⟨_, rfl⟩
  rw [← hee] at he1 he2
  have hfs := stW_fs (mo := mo) (w := w) he1
  have e14 : rd g 14 30 v3 = p := by rw [rd_in h3 hk]; exact hF
  have e15 : rd g 15 30 v3 = z := by rw [rd_in h3 hk]; exact hz
  have ew : ∀ (g1 : GG) (i : Nat), g1 q = g q → i < 9 → rd g1 q 9 (i : Nat) = w i := by
    intro g1 i hg hi
    rw [rd_in (k := i) rfl hi, hg, hw]
  have e3 : rd g q 9 3 = w 3 := ew g 3 rfl (by omega)
  have e5 : rd g q 9 5 = w 5 := ew g 5 rfl (by omega)
  have hmo' : ∀ g1 : GG, g1 20 = g 20 → ∀ s, p ≤ s → s < e → g1 20 s = mo s := fun g1 hg s z1 z2 => by rw [hg]; exact hmo s z1 (by omega)
  have fin : ∀ (t : Int) (g12 : GG), t = e → (∀ s, p ≤ s → s < e → g12 (o + 1) s = stW mo w p e s) → (∀ s, 0 < stW mo w p e s → g12 (o + 2) s = plc w (stW mo w p e) s) → (∀ s, p ≤ s → s < p + z → g12 (o + 3) s = fo (stW mo w p e) p s) → g12 (o + 7) k = (cnt (stW mo w p e) p (e - p) : Nat) → (∀ a i, ¬ ((a = o + 1 ∨ a = o + 2 ∨ a = o + 3) ∧ p ≤ i ∧ i < p + z) → ¬ (a = o + 7 ∧ i = k) → g12 a i = g a i) →
      cV E 84 [amR o, amR 11, amI v3, amI t, amI (rd g12 q 9 7)] g12 fl (fun g13 f13 => am_rg (v3 + 1) ∧ am_X E 77 (25, (0, 0), [some (amR o), some (amR 11), some (amR q), some (amI (v3 + 1)), none, none, none], [], mk g13 f13) (RV Q)) := by
    intro t g12 ht r1 r2 r3 r7 fr
    refine giveBeats_ok (mo := mo) (w := w) (p := p) (e := e) (z := z) (k := k) (m := m) ho he1 he2 h60 h3 ht (ew g12 7 (by funext x; exact fr _ _ (by omega) (by omega)) (by omega)) hk hm1.1 (by rw [fr _ _ (by omega) (by omega)]; exact hF) (by rw [fr _ _ (by omega) (by omega)]; exact hz) (by rw [fr _ _ (by omega) (by omega)]; exact hm) r1 r2 (hmo' g12 (by funext x; exact fr _ _ (by omega) (by omega))) (fun s z1 z2 => by rw [fr _ _ (by omega) (by omega)]; exact i4 s z1 z2) (fun g13 q1 q2 => ⟨rgI (by omega) (by omega), h g13 ⟨?_, fun s z1 z2 => ?_, fun s z1 z2 => ?_⟩ (fun a i z1 z2 => by rw [q2 _ _ (by omega), fr _ _ (by omega) z2])⟩)
    · rw [← hee, q2 _ _ (by omega)]; exact r7
    · rw [← hee, q2 _ _ (by omega)]; exact r3 s z1 z2
    · rw [← hee]; exact q1 s z1 z2
  have inner : ∀ (t : Int) (g5 : GG), t = e → FR o w (st0 mo w p e) g g5 →
      cI E 83 [amR o, amI (rd g 14 30 v3), amI t] g5 fl (fun x6 g6 f6 => (∀ g7 : GG, g7 = wr g6 (o + 7) 30 v3 x6 → ((rd g7 (o + 7) 30 v3) = 0 → ((rd g7 q 9 7) = 1 → am_rg (t - 1) ∧ cV E 82 [amR o, amI (t - 1), amI 1, amI (rd g7 q 9 4)] g7 f6 (fun g10 f10 => cI E 83 [amR o, amI (rd g 14 30 v3), amI t] g10 f10 (fun x11 g11 f11 => (∀ g12 : GG, g12 = wr g11 (o + 7) 30 v3 x11 → cV E 84 [amR o, amR 11, amI v3, amI t, amI (rd g12 q 9 7)] g12 f11 (fun g13 f13 => am_rg (v3 + 1) ∧ am_X E 77 (25, (0, 0), [some (amR o), some (amR 11), some (amR q), some (amI (v3 + 1)), none, none, none], [], mk g13 f13) (RV Q)))))) ∧ (¬ ((rd g7 q 9 7) = 1) → cV E 82 [amR o, amI (rd g 14 30 v3), amI 1, amI (rd g7 q 9 4)] g7 f6 (fun g10 f10 => cI E 83 [amR o, amI (rd g 14 30 v3), amI t] g10 f10 (fun x11 g11 f11 => (∀ g12 : GG, g12 = wr g11 (o + 7) 30 v3 x11 → cV E 84 [amR o, amR 11, amI v3, amI t, amI (rd g12 q 9 7)] g12 f11 (fun g13 f13 => am_rg (v3 + 1) ∧ am_X E 77 (25, (0, 0), [some (amR o), some (amR 11), some (amR q), some (amI (v3 + 1)), none, none, none], [], mk g13 f13) (RV Q))))))) ∧ (¬ ((rd g7 (o + 7) 30 v3) = 0) → cV E 84 [amR o, amR 11, amI v3, amI t, amI (rd g7 q 9 7)] g7 f6 (fun g9 f9 => am_rg (v3 + 1) ∧ am_X E 77 (25, (0, 0), [some (amR o), some (amR 11), some (amR q), some (amI (v3 + 1)), none, none, none], [], mk g9 f9) (RV Q))))) := by
    intro t g5 ht R
    have s0 := st0_fs (mo := mo) (w := w) (p := p) (e := e)
    have s0out : ∀ s, ¬ (p ≤ s ∧ s < e) → st0 mo w p e s = 0 := by
      intro s hs
      rcases Nat.eq_zero_or_pos (st0 mo w p e s) with y | y
      · exact y
      · have := s0.inn s y; omega
    have r1 : ∀ s, p ≤ s → s < e → g5 (o + 1) s = st0 mo w p e s := by
      intro s z1 z2
      rw [R.z]
      by_cases c : 0 < st0 mo w p e s
      · rw [if_pos c]
      · rw [if_neg c, i1 s z1 (by omega)]; omega
    have fr5 : ∀ a i, ¬ ((a = o + 1 ∨ a = o + 2) ∧ p ≤ i ∧ i < p + z) → g5 a i = g a i := by
      intro a i z1
      by_cases ha : a = o + 1
      · subst ha; rw [R.z, if_neg (by rw [s0out i (by omega)]; omega)]
      · by_cases hb : a = o + 2
        · subst hb; rw [R.b, if_neg (by rw [s0out i (by omega)]; omega)]
        · exact R.f a i ha hb
    refine numberFeet_ok (st := st0 mo w p e) (p := p) (e := e) ho s0 (by omega) (by omega) e14 ht r1 (fun g6 n1 n2 n3 g7 e7 => ?_)
    rw [wr_in h3 hk] at e7
    have r77 : rd g7 (o + 7) 30 v3 = (cnt (st0 mo w p e) p (e - p) : Nat) := by rw [rd_in h3 hk, e7]; (simp (disch := omega) only [up_at, up_ne])
    have fr6 : ∀ a i, ¬ ((a = o + 1 ∨ a = o + 2 ∨ a = o + 3) ∧ p ≤ i ∧ i < p + z) → g6 a i = g a i := by
      intro a i z1
      by_cases ha : a = o + 3
      · subst ha
        rw [n2 i (s0out i (by omega)) ?_]
        · exact fr5 _ _ (by omega)
        · intro z2 z3
          have := s0.inn (i - 1) (by omega)
          omega
      · rw [n3 a i ha]; exact fr5 _ _ (by omega)
    have fr7 : ∀ a i, ¬ ((a = o + 1 ∨ a = o + 2 ∨ a = o + 3) ∧ p ≤ i ∧ i < p + z) → ¬ (a = o + 7 ∧ i = k) → g7 a i = g a i := by
      intro a i z1 z2
      rw [e7]; (simp (disch := omega) only [up_at, up_ne])
      exact fr6 a i z1
    rw [r77]
    refine ⟨fun c => ?_, fun c => ?_⟩
    · have hc : cnt (st0 mo w p e) p (e - p) = 0 := by omega
      have hsW : stW mo w p e = fun s => if s = only w p e then 1 else 0 := by unfold stW; rw [if_pos hc]
      have h00 : ∀ s, st0 mo w p e s = 0 := by
        intro s
        by_cases hs : p ≤ s ∧ s < e
        · exact cnt_0.1 hc s hs.1 (by omega)
        · exact s0out s hs
      have hon := only_in (w := w) he1
      have g7q : g7 q = g q := by funext x; exact fr7 _ _ (by omega) (by omega)
      have w4 : rd g7 q 9 4 = w 4 := ew g7 4 g7q (by omega)
      have w7 : rd g7 q 9 7 = w 7 := ew g7 7 g7q (by omega)
      have a1 : ∀ s, p ≤ s → s < e → g7 (o + 1) s = 0 := by
        intro s z1 z2
        rw [e7]; (simp (disch := omega) only [up_at, up_ne])
        rw [n3 _ _ (by omega), r1 s z1 z2, h00]; rfl
      have a3 : ∀ s, p ≤ s → s < p + z → g7 (o + 3) s = -1 := by
        intro s z1 z2
        rw [e7]; (simp (disch := omega) only [up_at, up_ne])
        rw [n2 s (h00 s) (fun _ => by rw [h00]; omega), fr5 _ _ (by omega)]
        exact i3 s z1 z2
      have sec : ∀ (x : Int), x = only w p e → cV E 82 [amR o, amI x, amI 1, amI (rd g7 q 9 4)] g7 fl (fun g10 f10 => cI E 83 [amR o, amI (rd g 14 30 v3), amI t] g10 f10 (fun x11 g11 f11 => (∀ g12 : GG, g12 = wr g11 (o + 7) 30 v3 x11 → cV E 84 [amR o, amR 11, amI v3, amI t, amI (rd g12 q 9 7)] g12 f11 (fun g13 f13 => am_rg (v3 + 1) ∧ am_X E 77 (25, (0, 0), [some (amR o), some (amR 11), some (amR q), some (amI (v3 + 1)), none, none, none], [], mk g13 f13) (RV Q))))) := by
        intro x hx
        refine addFoot_ok (w := w) ho (k := only w p e) (r := 1) hx rfl w4 (by omega) (by omega) (fun g10 R2 => ?_)
        rw [← hsW] at R2
        have fr10 : ∀ a i, ¬ ((a = o + 1 ∨ a = o + 2) ∧ p ≤ i ∧ i < p + z) → g10 a i = g7 a i := by
          intro a i z1
          have hz0 : ¬ (p ≤ i ∧ i < p + z) → stW mo w p e i = 0 := by
            intro y
            rcases Nat.eq_zero_or_pos (stW mo w p e i) with y2 | y2
            · exact y2
            · have := hfs.inn i y2; omega
          by_cases ha : a = o + 1
          · subst ha; rw [R2.z, if_neg (by rw [hz0 (by omega)]; omega)]
          · by_cases hb : a = o + 2
            · subst hb; rw [R2.b, if_neg (by rw [hz0 (by omega)]; omega)]
            · exact R2.f a i ha hb
        have b1 : ∀ s, p ≤ s → s < e → g10 (o + 1) s = stW mo w p e s := by
          intro s z1 z2
          rw [R2.z]
          by_cases c2 : 0 < stW mo w p e s
          · rw [if_pos c2]
          · rw [if_neg c2, a1 s z1 z2]; omega
        refine numberFeet_ok (st := stW mo w p e) (p := p) (e := e) ho hfs (by omega) (by omega) e14 ht b1 (fun g11 m1 m2 m3 g12 e12 => ?_)
        rw [wr_in h3 hk] at e12
        refine fin t g12 ht (fun s z1 z2 => ?_) (fun s z1 => ?_) (fun s z1 z2 => ?_) ?_ (fun a i z1 z2 => ?_)
        · rw [e12]; (simp (disch := omega) only [up_at, up_ne]); rw [m3 _ _ (by omega)]; exact b1 s z1 z2
        · rw [e12]; (simp (disch := omega) only [up_at, up_ne]); rw [m3 _ _ (by omega), R2.b, if_pos z1]
        · rw [e12]; (simp (disch := omega) only [up_at, up_ne])
          refine m1 s z1 _ rfl ?_
          rw [fr10 _ _ (by omega)]; exact a3 s z1 z2
        · rw [e12]; (simp (disch := omega) only [up_at, up_ne])
        · rw [e12]; (simp (disch := omega) only [up_at, up_ne])
          by_cases ha : a = o + 3
          · subst ha
            rw [m2 i ?_ ?_, fr10 _ _ (by omega)]
            · exact fr7 _ _ z1 (by omega)
            · rcases Nat.eq_zero_or_pos (stW mo w p e i) with y2 | y2
              · exact y2
              · have := hfs.inn i y2; omega
            · intro y1 y2
              have := hfs.inn (i - 1) (by omega); omega
          · rw [m3 a i ha, fr10 _ _ (by omega)]; exact fr7 _ _ z1 z2
      rw [w7]
      refine ⟨fun c7 => ⟨rgI (by omega) (by omega), sec _ ?_⟩, fun c7 => sec _ ?_⟩
      · unfold only; rw [if_pos c7]; omega
      · unfold only; rw [if_neg c7]; exact e14
    · have hc : cnt (st0 mo w p e) p (e - p) ≠ 0 := by omega
      have hsW : stW mo w p e = st0 mo w p e := by unfold stW; rw [if_neg hc]
      refine fin t g7 ht (fun s z1 z2 => ?_) (fun s z1 => ?_) (fun s z1 z2 => ?_) ?_ fr7
      · rw [e7]; (simp (disch := omega) only [up_at, up_ne]); rw [n3 _ _ (by omega), hsW]; exact r1 s z1 z2
      · rw [hsW] at z1 ⊢
        rw [e7]; (simp (disch := omega) only [up_at, up_ne]); rw [n3 _ _ (by omega), R.b, if_pos z1]
      · rw [e7]; (simp (disch := omega) only [up_at, up_ne])
        refine n1 s z1 _ (by rw [hsW]) ?_
        rw [fr5 _ _ (by omega)]; exact i3 s z1 z2
      · rw [e7, hsW]; (simp (disch := omega) only [up_at, up_ne])
  have w4 : 0 ≤ w 4 ∧ w 4 ≤ 2 := hwo.2.2.2.2.1
  have q4 : g q 4 = w 4 := by rw [hw]
  have q6 : g q 6 = w 6 := by rw [hw]
  have stF : w 5 = 0 → fwd mo w e 60 p = st0 mo w p e := by intro c; unfold st0; rw [if_pos c]
  have stB : ¬ (w 5 = 0) → bwd mo w p 60 e = st0 mo w p e := by intro c; unfold st0; rw [if_neg c]
  refine b77_25 ho hq ⟨fun _ => ⟨fun c3 => ⟨fun c1 => ⟨rgI (by omega) (by omega), rgI (by omega) (by omega), ?_⟩, fun c1 => ⟨rgI (by omega) (by omega), ?_⟩⟩, fun c3 => ⟨rgI (by omega) (by omega), ?_⟩⟩, fun c => absurd hkW c⟩
  · have ht : (rd g 14 30 v3) + ((rd g 15 30 v3) - 1) = e := by rw [hee]; unfold eKw; rw [if_pos ⟨by omega, by omega⟩]; omega
    rw [e5]
    refine ⟨fun c => ?_, fun c => ?_⟩
    · refine layF_ok (mo := mo) (w := w) ho hq (p := p) (e := e) (by omega) e14 ht q4 q6 (hmo' g rfl) (fun g5 R => inner _ g5 ht ?_)
      rw [← stF c]; exact R
    · refine layB_ok (mo := mo) (w := w) ho hq (p := p) (e := e) (by omega) w4 e14 ht q4 q6 (hmo' g rfl) (fun g5 R => inner _ g5 ht ?_)
      rw [← stB c]; exact R
  · have ht : (rd g 14 30 v3) + (rd g 15 30 v3) = e := by rw [hee]; unfold eKw; rw [if_neg (by omega)]; omega
    rw [e5]
    refine ⟨fun c => ?_, fun c => ?_⟩
    · refine layF_ok (mo := mo) (w := w) ho hq (p := p) (e := e) (by omega) e14 ht q4 q6 (hmo' g rfl) (fun g5 R => inner _ g5 ht ?_)
      rw [← stF c]; exact R
    · refine layB_ok (mo := mo) (w := w) ho hq (p := p) (e := e) (by omega) w4 e14 ht q4 q6 (hmo' g rfl) (fun g5 R => inner _ g5 ht ?_)
      rw [← stB c]; exact R
  · have ht : (rd g 14 30 v3) + (rd g 15 30 v3) = e := by rw [hee]; unfold eKw; rw [if_neg (by omega)]; omega
    rw [e5]
    refine ⟨fun c => ?_, fun c => ?_⟩
    · refine layF_ok (mo := mo) (w := w) ho hq (p := p) (e := e) (by omega) e14 ht q4 q6 (hmo' g rfl) (fun g5 R => inner _ g5 ht ?_)
      rw [← stF c]; exact R
    · refine layB_ok (mo := mo) (w := w) ho hq (p := p) (e := e) (by omega) w4 e14 ht q4 q6 (hmo' g rfl) (fun g5 R => inner _ g5 ht ?_)
      rw [← stB c]; exact R
variable {W S : Nat} {F z : Nat → Nat} {mk' : Nat → Int}
theorem makeC_loop {Q : GG → FF → Prop} (ho : o = 21 ∨ o = 29) {q : Nat} (hq : q = 2 ∨ q = 3) {g0 : GG} (hw : w = g0 q) (hwo : waysOK w) (hC : CW W S F z mk')
    (h : ∀ g' : GG, (∀ k, k < W → WB o w mo (F k) (z k) (mk' k) k g') → (∀ a i, ¬ (a = o + 1 ∨ a = o + 2 ∨ a = o + 3 ∨ a = o + 4 ∨ a = o + 7) → g' a i = g0 a i) → Q g' fl) :
    ∀ (f k : Nat) (v3 : Int) (g : GG), k + f = W → v3 = k → CG W S F z mk' mo g → (∀ s, F k ≤ s → s < S → g (o + 1) s = 0 ∧ g (o + 3) s = -1 ∧ g (o + 4) s = 0) → (∀ k', k' < k → WB o w mo (F k') (z k') (mk' k') k' g) → (∀ a i, ¬ (a = o + 1 ∨ a = o + 2 ∨ a = o + 3 ∨ a = o + 4 ∨ a = o + 7) → g a i = g0 a i) →
      am_X E 77 (25, (0, 0), [some (amR o), some (amR 11), some (amR q), some (amI v3), none, none, none], [], mk g fl) (RV Q) := by
  intro f
  induction f with
  | zero =>
    intro k v3 g h0 h3 hG hi hB hfr
    have hk : k = W := by omega
    subst hk
    have := hG.gW
    exact b77_25 ho hq ⟨fun c => absurd c (by omega), fun _ => h g hB hfr⟩
  | succ f ih =>
    intro k v3 g h0 h3 hG hi hB hfr
    have hkW : k < W := by omega
    have hW := hG.gW
    have hin := hC.inn hkW
    have hz1 := hC.z1 k hkW
    have hFs := hC.Fs k hkW
    have hW30 := hC.W30
    have hS60 := hC.S60
    refine makeWord (mo := mo) (w := w) (p := F k) (z := z k) (k := k) (m := mk' k) ho hq ?_ hwo h3 (by omega) (by omega) hz1 (by omega) (hC.mk1 k hkW) (hG.gF k hkW) (hG.gz k hkW) (hG.gm k hkW) (fun s z1 z2 => hG.gmo s (by omega)) (fun s z1 z2 => (hi s z1 (by omega)).1) (fun s z1 z2 => (hi s z1 (by omega)).2.1) (fun s z1 z2 => (hi s z1 (by omega)).2.2) (fun g' B fr => ?_)
    · funext x; rw [hw, hfr _ _ (by omega)]
    · refine ih (k + 1) _ g' (by omega) (by omega) (hG.keep (fun a i z1 => fr _ _ (by omega) (by omega))) (fun s z1 z2 => ?_) (fun k' hk' => ?_) (fun a i z1 => by rw [fr _ _ (by omega) (by omega)]; exact hfr a i z1)
      · rw [fr _ _ (by omega) (by omega), fr _ _ (by omega) (by omega), fr _ _ (by omega) (by omega)]
        exact hi s (by omega) z2
      · by_cases hkk : k' = k
        · subst hkk; exact B
        · have hm := hC.mono (k := k' + 1) (l := k) (by omega) (by omega)
          have hFs' := hC.Fs k' (by omega)
          have B' := hB k' (by omega)
          refine ⟨by rw [fr _ _ (by omega) (by omega)]; exact B'.n, fun s z1 z2 => by rw [fr _ _ (by omega) (by omega)]; exact B'.fo s z1 z2, fun s z1 z2 => by rw [fr _ _ (by omega) (by omega)]; exact B'.bt s z1 z2⟩
theorem makeI_loop {Q : GG → FF → Prop} (ho : o = 21 ∨ o = 29) {q : Nat} (hq : q = 2 ∨ q = 3) {g0 : GG} (hS60 : S ≤ 60) (hS : g0 11 11 = S)
    (h : ∀ g' : GG, (∀ s, s < S → g' (o + 1) s = 0 ∧ g' (o + 3) s = -1 ∧ g' (o + 4) s = 0) → (∀ a i, ¬ (a = o + 1 ∨ a = o + 3 ∨ a = o + 4) → g' a i = g0 a i) → am_X E 77 (25, (0, 0), [some (amR o), some (amR 11), some (amR q), some (amI 0), none, none, none], [], mk g' fl) (RV Q)) :
    ∀ (f j : Nat) (v3 : Int) (g : GG), j + f = S → v3 = j → (∀ s, s < j → g (o + 1) s = 0 ∧ g (o + 3) s = -1 ∧ g (o + 4) s = 0) → (∀ a i, ¬ (a = o + 1 ∨ a = o + 3 ∨ a = o + 4) → g a i = g0 a i) →
      am_X E 77 (2, (0, 0), [some (amR o), some (amR 11), some (amR q), some (amI v3), none, none, none], [], mk g fl) (RV Q) := by
  intro f
  induction f with
  | zero =>
    intro j v3 g h0 h3 hi hfr
    have hj : j = S := by omega
    subst hj
    have e : g 11 11 = j := by rw [hfr _ _ (by omega)]; exact hS
    exact b77_2 ho hq ⟨fun c => absurd c (by omega), fun _ => h g hi hfr⟩
  | succ f ih =>
    intro j v3 g h0 h3 hi hfr
    have e : g 11 11 = S := by rw [hfr _ _ (by omega)]; exact hS
    refine b77_2 ho hq ⟨fun _ => fun g2 e2 g3 e3 g4 e4 => ⟨rgI (by omega) (by omega), ?_⟩, fun c => absurd (by omega) c⟩
    rw [wr_in h3 (by omega)] at e2 e3 e4
    refine ih (j + 1) _ g4 (by omega) (by omega) (fun s hs => ?_) (fun a i z1 => by rw [e4, e3, e2]; (simp (disch := omega) only [up_at, up_ne]); exact hfr a i z1)
    rw [e4, e3, e2]
    by_cases hsj : s = j
    · subst hsj; (simp (disch := omega) only [up_at, up_ne]); trivial
    · (simp (disch := omega) only [up_at, up_ne]); exact hi s (by omega)
theorem makeC_ok {Q : GG → FF → Prop} (ho : o = 21 ∨ o = 29) {q : Nat} (hq : q = 2 ∨ q = 3) (hw : w = g q) (hwo : waysOK w) (hC : CW W S F z mk') (hG : CG W S F z mk' mo g)
    (h : ∀ g' : GG, (∀ k, k < W → WB o w mo (F k) (z k) (mk' k) k g') → (∀ a i, ¬ (a = o + 1 ∨ a = o + 2 ∨ a = o + 3 ∨ a = o + 4 ∨ a = o + 7) → g' a i = g a i) → Q g' fl) : cV E 77 [amR o, amR 11, amR q] g fl Q := by
  refine b77 ho hq (makeI_loop (g0 := g) (S := S) ho hq hC.S60 hG.gS (fun g1 q1 q2 => ?_) S 0 0 g (by omega) rfl (fun s hs => by omega) (fun _ _ _ => rfl))
  refine makeC_loop (g0 := g1) (mo := mo) (w := w) (W := W) (S := S) (F := F) (z := z) (mk' := mk') ho hq ?_ hwo hC (fun g' B fr => h g' B (fun a i z1 => by rw [fr a i z1, q2 a i (by omega)])) W 0 0 g1 (by omega) rfl (hG.keep (fun a i z1 => q2 a i (by omega))) (fun s z1 z2 => q1 s z2) (fun k' hk' => by omega) (fun _ _ _ => rfl)
  funext x; rw [hw, q2 _ _ (by omega)]
end MAKEC
