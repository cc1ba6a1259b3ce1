/-! what is heard: the component -/
def wlo (F ws : Nat → Nat) (s : Nat) : Nat := F (ws s)
def whi (F z ws : Nat → Nat) (s : Nat) : Nat := F (ws s) + z (ws s)
/-- the word of each syllable -/
abbrev WS (W S : Nat) (F z : Nat → Nat) (mk : Nat → Int) (ws : Nat → Nat) : Prop := (CW W S F z mk) ∧ (∀ s, s < S → ws s < W ∧ F (ws s) ≤ s ∧ s < F (ws s) + z (ws s))
theorem WS.c {W S : Nat} {F z : Nat → Nat} {mk : Nat → Int} {ws : Nat → Nat} (hx_ : WS W S F z mk ws) : CW W S F z mk := hx_.1
theorem WS.w {W S : Nat} {F z : Nat → Nat} {mk : Nat → Int} {ws : Nat → Nat} (hx_ : WS W S F z mk ws) : ∀ s, s < S → ws s < W ∧ F (ws s) ≤ s ∧ s < F (ws s) + z (ws s) := hx_.2
section HEARC
variable {E : am_E} {g : GG} {fl : FF} {W S V : Nat} {F z ws : Nat → Nat} {mk' : Nat → Int} {mo : Nat → Nat} {h : Nat → Int} {o : Nat}
theorem WS.one (hS : WS W S F z mk' ws) {k s : Nat} (hk : k < W) (h1 : F k ≤ s) (h2 : s < F k + z k) : ws s = k := by
  have hin := hS.c.inn hk
  obtain ⟨a1, a2, a3⟩ := hS.w s (by omega)
  rcases Nat.lt_trichotomy (ws s) k with c | c | c
  · have := hS.c.mono (k := ws s + 1) (l := k) (by omega) (by omega)
    have := hS.c.Fs (ws s) a1
    omega
  · exact c
  · have := hS.c.mono (k := k + 1) (l := ws s) (by omega) (by omega)
    have := hS.c.Fs k hk
    omega
theorem WS.wl (hS : WS W S F z mk' ws) : WL S (wlo F ws) (whi F z ws) := by
  refine ⟨fun s hs => ?_, fun s i hs h1 h2 => ?_⟩
  · obtain ⟨a1, a2, a3⟩ := hS.w s hs
    have := hS.c.inn a1
    exact ⟨a2, a3, this⟩
  · obtain ⟨a1, a2, a3⟩ := hS.w s hs
    have : ws i = ws s := hS.one a1 h1 h2
    unfold wlo whi; rw [this]; exact ⟨rfl, rfl⟩
theorem clashesWith_ok {Q : Int → GG → FF → Prop} {r : Nat} (hr : r = 25 ∨ r = 26 ∨ r = 33 ∨ r = 34) {k : Nat} {v2 v3 : Int} (h2 : v2 = k) (h3 : v3 = V) (hV : V ≤ 3) (hS : g 11 11 = S) (hS60 : S ≤ 60) (hk : k < S) (hh : ∀ s, s < S → g r s = h s) (h1 : cl S V h k → Q (nx h S (k + 1) : Nat) g fl) (h0 : ¬ cl S V h k → Q (-1) g fl) : cI E 87 [amR 11, amR r, amI v2, amI v3] g fl Q := by
  have hkey : ∀ (f i : Nat) (v4 : Int), S ≤ i + f → k < i → i ≤ S → v4 = i → h k ≠ 0 → (∀ j, k < j → j < i → h j = 0) → am_X E 87 (10, (0, 0), [some (amR 11), some (amR r), some (amI v2), some (amI v3), some (amI v4)], [], mk g fl) (RI Q) := by
    intro f
    induction f with
    | zero =>
      intro i v4 hf hki hiS h4 hk0 hz
      have hnx : nx h S (k + 1) = i := nx_of (by omega) (by omega) (fun j z1 z2 => hz j (by omega) z2) (fun y => by omega)
      refine b87_10 hr ⟨rgI (by omega) (by omega), fun c => h0 (fun y => by omega), fun c => ⟨fun c2 => absurd c2 (by omega), fun _ => h0 (fun y => by omega)⟩⟩
    | succ f ih =>
      intro i v4 hf hki hiS h4 hk0 hz
      by_cases hi : i = S
      · have hnx : nx h S (k + 1) = i := nx_of (by omega) (by omega) (fun j z1 z2 => hz j (by omega) z2) (fun y => by omega)
        refine b87_10 hr ⟨rgI (by omega) (by omega), fun c => h0 (fun y => by omega), fun c => ⟨fun c2 => absurd c2 (by omega), fun _ => h0 (fun y => by omega)⟩⟩
      · have e : rd g r 60 v4 = h i := by rw [rd_in h4 (by omega)]; exact hh i (by omega)
        have hge : i ≤ nx h S (k + 1) := by
          obtain ⟨a1, a2, a3, a4⟩ := nx_ok (h := h) (S := S) (s := k + 1) (by omega)
          rcases Nat.lt_or_ge (nx h S (k + 1)) i with c | c
          · exact absurd (hz _ (by omega) c) (a4 (by omega))
          · exact c
        refine b87_10 hr ⟨rgI (by omega) (by omega), fun c => h0 (fun y => by omega), fun c => ⟨fun c2 => ⟨fun c3 => ⟨rgI (by omega) (by omega), ih (i + 1) _ (by omega) (by omega) (by omega) (by omega) hk0 (fun j z1 z2 => ?_)⟩, fun c3 => ?_⟩, fun c2 => absurd (by omega) c2⟩⟩
        · by_cases hj : j = i
          · rw [hj, ← e]; exact c3
          · exact hz j z1 (by omega)
        · have hnx : nx h S (k + 1) = i := nx_of (by omega) (by omega) (fun j z1 z2 => hz j (by omega) z2) (fun y => by rw [← e]; exact c3)
          rw [h4, ← hnx]
          exact h1 ⟨hk0, by omega, by omega⟩
  have e : rd g r 60 v2 = h k := by rw [rd_in h2 (by omega)]; exact hh k hk
  refine b87 hr ⟨fun c => h0 (fun y => y.1 (by rw [← e]; exact c)), fun c => ⟨rgI (by omega) (by omega), hkey S (k + 1) _ (by omega) (by omega) (by omega) (by omega) (by rw [← e]; exact c) (fun j z1 z2 => by omega)⟩⟩
theorem lesserAhead_ok {Q : Int → GG → FF → Prop} (ho : o = 21 ∨ o = 29) {k : Nat} {v2 : Int} (h2 : v2 = k) (hW : WS W S F z mk' ws) (hG : CG W S F z mk' mo g) (hk : k < S) (hh : ∀ s, s < S → g (o + 5) s = h s) (h1 : Q (ahF h (wlo F ws k) k) g fl) : cI E 91 [amR o, amR 11, amI v2] g fl Q := by
  have hS60 := hW.c.S60
  have hW30 := hW.c.W30
  obtain ⟨a1, a2, a3⟩ := hW.w k hk
  have e17 : rd g 17 60 v2 = ws k := by rw [rd_in h2 (by omega)]; exact hG.gwo _ a1 k a2 a3
  have e14 : rd g 14 30 (rd g 17 60 v2) = F (ws k) := by rw [e17, rd_in (k := ws k) rfl (by omega)]; exact hG.gF _ a1
  have key : ∀ (j : Nat) (v4 : Int), j ≤ k → v4 = (j : Int) - 1 → Q (ahF h (F (ws k)) j) g fl → am_X E 91 (12, (0, 0), [some (amR o), some (amR 11), some (amI v2), some (amI (F (ws k) : Nat)), some (amI v4)], [], mk g fl) (RI Q) := by
    intro j
    induction j with
    | zero =>
      intro v4 hj h4 hq
      exact b91_12 ho ⟨fun _ => hq, fun c => absurd (by omega) c⟩
    | succ j ih =>
      intro v4 hj h4 hq
      unfold ahF at hq
      refine b91_12 ho ⟨fun c => ?_, fun c => ⟨fun c2 => ?_, fun c2 => ⟨rgI (by omega) (by omega), ih _ (by omega) (by omega) ?_⟩⟩⟩
      · rw [if_pos (by omega)] at hq; exact hq
      · rw [rd_in (k := j) (by omega) (by omega), hh j (by omega)] at c2
        rw [if_neg (by omega), if_pos c2] at hq
        rw [show v4 = j by omega]; exact hq
      · rw [rd_in (k := j) (by omega) (by omega), hh j (by omega)] at c2
        rw [if_neg (by omega), if_neg c2] at hq
        exact hq
  refine b91 ho ⟨rgI (by omega) (by omega), ?_⟩
  rw [e14]
  exact key k _ (Nat.le_refl _) (by omega) h1
theorem lesserBehind_ok {Q : Int → GG → FF → Prop} (ho : o = 21 ∨ o = 29) {k : Nat} {v2 : Int} (h2 : v2 = k) (hW : WS W S F z mk' ws) (hG : CG W S F z mk' mo g) (hk : k < S) (hh : ∀ s, s < S → g (o + 5) s = h s) (h1 : Q (bh h (whi F z ws k) k) g fl) : cI E 92 [amR o, amR 11, amI v2] g fl Q := by
  have hS60 := hW.c.S60
  have hW30 := hW.c.W30
  obtain ⟨a1, a2, a3⟩ := hW.w k hk
  have hin := hW.c.inn a1
  have e17 : rd g 17 60 v2 = ws k := by rw [rd_in h2 (by omega)]; exact hG.gwo _ a1 k a2 a3
  have e14 : rd g 14 30 (rd g 17 60 v2) = F (ws k) := by rw [e17, rd_in (k := ws k) rfl (by omega)]; exact hG.gF _ a1
  have e15 : rd g 15 30 (rd g 17 60 v2) = z (ws k) := by rw [e17, rd_in (k := ws k) rfl (by omega)]; exact hG.gz _ a1
  have key : ∀ (v3 : Int) (f j : Nat) (v5 : Int), F (ws k) + z (ws k) ≤ j + f → v5 = j → Q (bhF h (F (ws k) + z (ws k)) f j) g fl → am_X E 92 (19, (0, 0), [some (amR o), some (amR 11), some (amI v2), some (amI v3), some (amI ((F (ws k) : Int) + (z (ws k) : Int))), some (amI v5)], [], mk g fl) (RI Q) := by
    intro v3 f
    induction f with
    | zero =>
      intro j v5 hf h5 hq
      exact b92_19 ho ⟨fun c => absurd c (by omega), fun _ => hq⟩
    | succ f ih =>
      intro j v5 hf h5 hq
      unfold bhF at hq
      refine b92_19 ho ⟨fun c => ⟨fun c2 => ?_, fun c2 => ⟨rgI (by omega) (by omega), ih (j + 1) _ (by omega) (by omega) ?_⟩⟩, fun c => ?_⟩
      · rw [rd_in h5 (by omega), hh j (by omega)] at c2
        rw [if_pos (by omega), if_pos c2] at hq
        rw [h5]; exact hq
      · rw [rd_in h5 (by omega), hh j (by omega)] at c2
        rw [if_pos (by omega), if_neg c2] at hq
        exact hq
      · rw [if_neg (by omega)] at hq; exact hq
  refine b92 ho ⟨by rw [e14, e15]; exact rgI (by omega) (by omega), rgI (by omega) (by omega), ?_⟩
  rw [e14, e15]
  exact key _ (F (ws k) + z (ws k) - (k + 1)) (k + 1) _ (by omega) (by omega) h1
theorem isStuck_ok {Q : Int → GG → FF → Prop} (ho : o = 21 ∨ o = 29) {k t : Nat} {v2 v3 : Int} (h2 : v2 = k) (h3 : v3 = t) (hW : WS W S F z mk' ws) (hG : CG W S F z mk' mo g) (hk : k < S) (ht : t < S) (hh : ∀ s, s < S → g (o + 5) s = h s) (h1 : Q (if stk (wlo F ws) (whi F z ws) h k t then 1 else 0) g fl) : cI E 89 [amR o, amR 11, amI v2, amI v3] g fl Q := by
  have hS60 := hW.c.S60
  have e1 : rd g (o + 5) 60 v2 = h k := by rw [rd_in h2 (by omega)]; exact hh k hk
  have e2 : rd g (o + 5) 60 v3 = h t := by rw [rd_in h3 (by omega)]; exact hh t ht
  refine b89 ho ?_
  rw [e1, e2]
  refine ⟨fun c1 => ⟨fun c2 => lesserAhead_ok ho h2 hW hG hk hh ⟨fun c3 => lesserBehind_ok ho h3 hW hG ht hh ?_, fun c3 => ?_⟩, fun c2 => ?_⟩, fun c1 => ?_⟩
  · by_cases c4 : bh h (whi F z ws t) t = -1
    · rw [b01_t c4]; rw [if_pos ⟨c1, c2, c3, c4⟩] at h1; exact h1
    · rw [b01_f c4]; rw [if_neg (fun y => c4 y.2.2.2)] at h1; exact h1
  · rw [if_neg (fun y => c3 y.2.2.1)] at h1; exact h1
  · rw [if_neg (fun y => c2 y.2.1)] at h1; exact h1
  · rw [if_neg (fun y => c1 y.1)] at h1; exact h1
end HEARC
