/-! lists and counts of the component's Stress -/
def ctB (p : Nat → Prop) [DecidablePred p] : Nat → Nat
  | 0 => 0
  | n + 1 => ctB p n + (if p n then 1 else 0)
section HEARE
theorem ctB_le {p : Nat → Prop} [DecidablePred p] : ∀ n, ctB p n ≤ n
  | 0 => Nat.le_refl _
  | n + 1 => by
    have := ctB_le (p := p) n
    unfold ctB; split <;> omega
theorem ctB_s {p : Nat → Prop} [DecidablePred p] {n : Nat} : ctB p (n + 1) = ctB p n + (if p n then 1 else 0) := rfl
theorem ctB_congr {p q : Nat → Prop} [DecidablePred p] [DecidablePred q] : ∀ {n : Nat}, (∀ s, s < n → (p s ↔ q s)) → ctB p n = ctB q n
  | 0, _ => rfl
  | n + 1, h => by
    rw [ctB_s, ctB_s, ctB_congr (fun s hs => h s (by omega))]
    by_cases c : p n
    · rw [if_pos c, if_pos ((h n (by omega)).1 c)]
    · rw [if_neg c, if_neg (fun y => c ((h n (by omega)).2 y))]
theorem ctB_mono {p : Nat → Prop} [DecidablePred p] {a : Nat} : ∀ {b : Nat}, a ≤ b → ctB p a ≤ ctB p b
  | 0, h => by rw [show a = 0 by omega]; exact Nat.le_refl _
  | b + 1, h => by
    by_cases c : a = b + 1
    · rw [c]; exact Nat.le_refl _
    · have := ctB_mono (p := p) (a := a) (b := b) (by omega)
      rw [ctB_s]; omega
/-- the k-th, if it is there -/
theorem ctB_nth {p : Nat → Prop} [DecidablePred p] {k : Nat} : ∀ {n : Nat}, k < ctB p n → ∃ s, s < n ∧ p s ∧ ctB p s = k
  | 0, h => by unfold ctB at h; omega
  | n + 1, h => by
    rw [ctB_s] at h
    by_cases c : k < ctB p n
    · obtain ⟨s, h1, h2, h3⟩ := ctB_nth c
      exact ⟨s, by omega, h2, h3⟩
    · by_cases c2 : p n
      · rw [if_pos c2] at h
        exact ⟨n, by omega, c2, by omega⟩
      · rw [if_neg c2] at h; omega
variable {E : am_E} {g : GG} {fl : FF} {W S V : Nat} {F z ws : Nat → Nat} {mk' : Nat → Int} {mo : Nat → Nat} {h h0 : Nat → Int} {o : Nat}
theorem listClashes_ok {Q : GG → FF → Prop} (ho : o = 21 ∨ o = 29) {v2 : Int} (h2 : v2 = V) (hV : V ≤ 3) (hW : WS W S F z mk' ws) (hG : CG W S F z mk' mo g) (hh0 : ∀ s, s < S → g (o + 4) s = h0 s) (hh : ∀ s, s < S → g (o + 5) s = h s)
    (hq : ∀ g' : GG, g' o 7 = (ctB (cl S V h0) S : Nat) → g' o 8 = (ctB (cl S V h) S : Nat) → g' o 9 = (ctB (fun s => cl S V h s ∧ stk (wlo F ws) (whi F z ws) h s (nx h S (s + 1))) S : Nat) → (∀ s, s < S → cl S V h0 s → g' (o + 6) (ctB (cl S V h0) s) = s) → (∀ a i, ¬ (a = o ∧ (i = 7 ∨ i = 8 ∨ i = 9)) → ¬ (a = o + 6) → g' a i = g a i) → Q g' fl) : cV E 93 [amR o, amR 11, amI v2] g fl Q := by
  have hS60 := hW.c.S60
  have key : ∀ (f j : Nat) (v3 : Int) (g1 : GG), j + f = S → v3 = j → g1 o 7 = (ctB (cl S V h0) j : Nat) → g1 o 8 = (ctB (cl S V h) j : Nat) → g1 o 9 = (ctB (fun s => cl S V h s ∧ stk (wlo F ws) (whi F z ws) h s (nx h S (s + 1))) j : Nat) → (∀ s, s < j → cl S V h0 s → g1 (o + 6) (ctB (cl S V h0) s) = s) → (∀ a i, ¬ (a = o ∧ (i = 7 ∨ i = 8 ∨ i = 9)) → ¬ (a = o + 6) → g1 a i = g a i) →
      am_X E 93 (11, (0, 0), [some (amR o), some (amR 11), some (amI v2), some (amI v3), none], [], mk g1 fl) (RV Q) := by
    intro f
    induction f with
    | zero =>
      intro j v3 g1 hf h3 q7 q8 q9 q6 hfr
      have hj : j = S := by omega
      subst hj
      have hSg : g1 11 11 = j := by rw [hfr _ _ (by omega) (by omega)]; exact hG.gS
      exact b93_11 ho ⟨fun c => absurd c (by omega), fun _ => hq g1 q7 q8 q9 q6 hfr⟩
    | succ f ih =>
      intro j v3 g1 hf h3 q7 q8 q9 q6 hfr
      have hSg : g1 11 11 = S := by rw [hfr _ _ (by omega) (by omega)]; exact hG.gS
      have c7 := ctB_le (p := cl S V h0) j
      have c8 := ctB_le (p := cl S V h) j
      have c9 := ctB_le (p := fun s => cl S V h s ∧ stk (wlo F ws) (whi F z ws) h s (nx h S (s + 1))) j
      -- the second half: what is heard
      have sec : ∀ g5 : GG, g5 o 7 = (ctB (cl S V h0) (j + 1) : Nat) → g5 o 8 = (ctB (cl S V h) j : Nat) → g5 o 9 = (ctB (fun s => cl S V h s ∧ stk (wlo F ws) (whi F z ws) h s (nx h S (s + 1))) j : Nat) → (∀ s, s < j + 1 → cl S V h0 s → g5 (o + 6) (ctB (cl S V h0) s) = s) → (∀ a i, ¬ (a = o ∧ (i = 7 ∨ i = 8 ∨ i = 9)) → ¬ (a = o + 6) → g5 a i = g a i) →
          cI E 87 [amR 11, amR (o + 5), amI v3, amI v2] g5 fl (fun x6 g6 f6 => (x6 = (-1) → am_rg (v3 + 1) ∧ am_X E 93 (11, (0, 0), [some (amR o), some (amR 11), some (amI v2), some (amI (v3 + 1)), none], [], mk g6 f6) (RV Q)) ∧ (¬ (x6 = (-1)) → am_rg ((g6 o 8) + 1) ∧ (∀ g8 : GG, g8 = am_up g6 o 8 ((g6 o 8) + 1) → cI E 89 [amR o, amR 11, amI v3, amI x6] g8 f6 (fun x9 g9 f9 => (x9 = 0 → am_rg (v3 + 1) ∧ am_X E 93 (11, (0, 0), [some (amR o), some (amR 11), some (amI v2), some (amI (v3 + 1)), none], [], mk g9 f9) (RV Q)) ∧ (¬ (x9 = 0) → am_rg ((g9 o 9) + 1) ∧ (∀ g11 : GG, g11 = am_up g9 o 9 ((g9 o 9) + 1) → am_rg (v3 + 1) ∧ am_X E 93 (11, (0, 0), [some (amR o), some (amR 11), some (amI v2), some (amI (v3 + 1)), none], [], mk g11 f9) (RV Q))))))) := by
        intro g5 p7 p8 p9 p6 pfr
        have hG5 : CG W S F z mk' mo g5 := hG.keep (fun a i y => pfr _ _ (by omega) (by omega))
        have hh5 : ∀ s, s < S → g5 (o + 5) s = h s := fun s hs => by rw [pfr _ _ (by omega) (by omega)]; exact hh s hs
        refine clashesWith_ok (by omega) (k := j) h3 h2 hV hG5.gS hS60 (by omega) hh5 (fun hc => ⟨fun y => absurd y (by omega), fun _ => ⟨rgI (by omega) (by omega), fun g8 e8 => ?_⟩⟩) (fun hc => ⟨fun _ => ⟨rgI (by omega) (by omega), ih (j + 1) _ g5 (by omega) (by omega) p7 ?_ ?_ p6 pfr⟩, fun y => absurd rfl y⟩)
        · have f8 : ∀ a i, ¬ (a = o ∧ i = 8) → g8 a i = g5 a i := by intro a i y; rw [e8]; (simp (disch := omega) only [up_at, up_ne])
          have hG8 : CG W S F z mk' mo g8 := hG5.keep (fun a i y => f8 _ _ (by omega))
          have hh8 : ∀ s, s < S → g8 (o + 5) s = h s := fun s hs => by rw [f8 _ _ (by omega)]; exact hh5 s hs
          have r8 : g8 o 8 = (ctB (cl S V h) (j + 1) : Nat) := by rw [e8, ctB_s, if_pos hc]; (simp (disch := omega) only [up_at, up_ne]); omega
          refine isStuck_ok ho (k := j) (t := nx h S (j + 1)) h3 rfl hW hG8 (by omega) hc.2.1 hh8 ⟨fun c => ⟨rgI (by omega) (by omega), ?_⟩, fun c => ⟨?_, fun g11 e11 => ⟨rgI (by omega) (by omega), ?_⟩⟩⟩
          · have hn : ¬ stk (wlo F ws) (whi F z ws) h j (nx h S (j + 1)) := fun y => by rw [if_pos y] at c; omega
            refine ih (j + 1) _ g8 (by omega) (by omega) (by rw [f8 _ _ (by omega)]; exact p7) r8 ?_ (fun s hs hcs => by rw [f8 _ _ (by omega)]; exact p6 s hs hcs) (fun a i z1 z2 => by rw [f8 _ _ (by omega)]; exact pfr a i z1 z2)
            rw [f8 _ _ (by omega), ctB_s, if_neg (fun y => hn y.2)]; exact p9
          · rw [f8 _ _ (by omega), p9]; exact rgI (by omega) (by omega)
          · have hy : stk (wlo F ws) (whi F z ws) h j (nx h S (j + 1)) := by
              rcases Classical.em (stk (wlo F ws) (whi F z ws) h j (nx h S (j + 1))) with y | y
              · exact y
              · rw [if_neg y] at c; exact absurd rfl c
            have f11 : ∀ a i, ¬ (a = o ∧ i = 9) → g11 a i = g8 a i := by intro a i y; rw [e11]; (simp (disch := omega) only [up_at, up_ne])
            refine ih (j + 1) _ g11 (by omega) (by omega) (by rw [f11 _ _ (by omega), f8 _ _ (by omega)]; exact p7) (by rw [f11 _ _ (by omega)]; exact r8) ?_ (fun s hs hcs => by rw [f11 _ _ (by omega), f8 _ _ (by omega)]; exact p6 s hs hcs) (fun a i z1 z2 => by rw [f11 _ _ (by omega), f8 _ _ (by omega)]; exact pfr a i z1 z2)
            rw [e11, ctB_s, if_pos ⟨hc, hy⟩]; (simp (disch := omega) only [up_at, up_ne]); rw [f8 _ _ (by omega), p9]; omega
        · rw [ctB_s, if_neg hc]; exact p8
        · rw [ctB_s, if_neg (fun y => hc y.1)]; exact p9
      have hh01 : ∀ s, s < S → g1 (o + 4) s = h0 s := fun s hs => by rw [hfr _ _ (by omega) (by omega)]; exact hh0 s hs
      refine b93_11 ho ⟨fun _ => clashesWith_ok (by omega) (k := j) h3 h2 hV hSg hS60 (by omega) hh01 (fun hc => ⟨fun y => absurd y (by omega), fun _ => fun g4 e4 => ?_⟩) (fun hc => ⟨fun _ => ?_, fun y => absurd rfl y⟩), fun c => absurd (by omega) c⟩
      · rw [wr_in q7 (by omega)] at e4
        have f4 : ∀ a i, ¬ (a = o + 6) → g4 a i = g1 a i := by intro a i y; rw [e4]; (simp (disch := omega) only [up_at, up_ne])
        refine ⟨rgI (by rw [f4 _ _ (by omega)]; omega) (by rw [f4 _ _ (by omega)]; omega), fun g5 e5 => ?_⟩
        have f5 : ∀ a i, ¬ (a = o ∧ i = 7) → g5 a i = g4 a i := by intro a i y; rw [e5]; (simp (disch := omega) only [up_at, up_ne])
        refine sec g5 ?_ (by rw [f5 _ _ (by omega), f4 _ _ (by omega)]; exact q8) (by rw [f5 _ _ (by omega), f4 _ _ (by omega)]; exact q9) (fun s hs hcs => ?_) (fun a i z1 z2 => by rw [f5 _ _ (by omega), f4 _ _ z2]; exact hfr a i z1 z2)
        · rw [e5, ctB_s, if_pos hc]; (simp (disch := omega) only [up_at, up_ne]); rw [f4 _ _ (by omega), q7]; omega
        · rw [f5 _ _ (by omega), e4]
          by_cases c : s = j
          · rw [c]; (simp (disch := omega) only [up_at, up_ne]); exact h3
          · have hlt : ctB (cl S V h0) (s + 1) ≤ ctB (cl S V h0) j := ctB_mono (by omega)
            rw [ctB_s, if_pos hcs] at hlt
            (simp (disch := omega) only [up_at, up_ne])
            exact q6 s (by omega) hcs
      · refine sec g1 (by rw [ctB_s, if_neg hc]; exact q7) q8 q9 (fun s hs hcs => ?_) hfr
        by_cases c : s = j
        · rw [c] at hcs; exact absurd hcs hc
        · exact q6 s (by omega) hcs
  refine b93 ho (fun g1 e1 g2 e2 g3 e3 => key S 0 0 g3 (by omega) rfl ?_ ?_ ?_ (fun s hs => by omega) (fun a i z1 z2 => by rw [e3, e2, e1]; (simp (disch := omega) only [up_at, up_ne])))
  · rw [e3, e2, e1]; (simp (disch := omega) only [up_at, up_ne]); rfl
  · rw [e3, e2]; (simp (disch := omega) only [up_at, up_ne]); rfl
  · rw [e3]; (simp (disch := omega) only [up_at, up_ne]); rfl
/-- the place of the 2 of a word -/
theorem mainBeat_ok {Q : Int → GG → FF → Prop} {r : Nat} (hr : r = 25 ∨ r = 26 ∨ r = 33 ∨ r = 34) {k m p n : Nat} {v3 : Int} (h3 : v3 = k) (hk : k < 30) (hF : g 14 k = p) (hz : g 15 k = n) (h60 : p + n ≤ 60) (hm : p ≤ m ∧ m < p + n) (hm2 : g r m = 2) (hu : ∀ s, p ≤ s → s < m → g r s ≠ 2) (h1 : Q (m : Nat) g fl) : cI E 94 [amR 21, amR 11, amR r, amI v3] g fl Q := by
  have e14 : rd g 14 30 v3 = p := by rw [rd_in h3 hk]; exact hF
  have e15 : rd g 15 30 v3 = n := by rw [rd_in h3 hk]; exact hz
  have key : ∀ (v4 : Int) (f j : Nat) (v6 : Int), m ≤ j + f → p ≤ j → j ≤ m → v6 = j → am_X E 94 (14, (0, 0), [some (amR 21), some (amR 11), some (amR r), some (amI v3), some (amI v4), some (amI ((p : Int) + (n : Int))), some (amI v6)], [], mk g fl) (RI Q) := by
    intro v4 f
    induction f with
    | zero =>
      intro j v6 hf hp hj h6
      have hjm : j = m := by omega
      subst hjm
      refine b94_14 hr ⟨fun c => ⟨fun c2 => by rw [h6]; exact h1, fun c2 => absurd (by rw [rd_in h6 (by omega)]; exact hm2) c2⟩, fun c => absurd (by omega) c⟩
    | succ f ih =>
      intro j v6 hf hp hj h6
      by_cases hjm : j = m
      · subst hjm
        refine b94_14 hr ⟨fun c => ⟨fun c2 => by rw [h6]; exact h1, fun c2 => absurd (by rw [rd_in h6 (by omega)]; exact hm2) c2⟩, fun c => absurd (by omega) c⟩
      · refine b94_14 hr ⟨fun c => ⟨fun c2 => ?_, fun c2 => ⟨rgI (by omega) (by omega), ih (j + 1) _ (by omega) (by omega) (by omega) (by omega)⟩⟩, fun c => absurd (by omega) c⟩
        rw [rd_in h6 (by omega)] at c2
        exact absurd c2 (hu j hp (by omega))
  refine b94 hr ⟨by rw [e14, e15]; exact rgI (by omega) (by omega), ?_⟩
  rw [e14, e15]
  exact key _ m p _ (by omega) (Nat.le_refl _) hm.1 rfl
theorem likeTold_ok {Q : Int → GG → FF → Prop} (ho : o = 21 ∨ o = 29) {td : Nat → Int} (hS : g 11 11 = S) (hS60 : S ≤ 60) (hh : ∀ s, s < S → g (o + 5) s = h s) (ht : ∀ s, s < S → g 4 s = td s) (h1 : Q (ctB (fun s => h s = td s) S : Nat) g fl) : cI E 95 [amR o, amR 11, amR 4] g fl Q := by
  have key : ∀ (f j : Nat) (v3 v4 : Int), j + f = S → v4 = j → v3 = (ctB (fun s => h s = td s) j : Nat) → am_X E 95 (4, (0, 0), [some (amR o), some (amR 11), some (amR 4), some (amI v3), some (amI v4)], [], mk g fl) (RI Q) := by
    intro f
    induction f with
    | zero =>
      intro j v3 v4 hf h4 h3
      have hj : j = S := by omega
      subst hj
      exact b95_4 ho ⟨fun c => absurd c (by omega), fun _ => by rw [h3]; exact h1⟩
    | succ f ih =>
      intro j v3 v4 hf h4 h3
      have hc := ctB_le (p := fun s => h s = td s) j
      have e1 : rd g (o + 5) 60 v4 = h j := by rw [rd_in h4 (by omega)]; exact hh j (by omega)
      have e2 : rd g 4 60 v4 = td j := by rw [rd_in h4 (by omega)]; exact ht j (by omega)
      refine b95_4 ho ⟨fun _ => ?_, fun c => absurd (by omega) c⟩
      rw [e1, e2]
      refine ⟨fun c => ⟨rgI (by omega) (by omega), rgI (by omega) (by omega), ih (j + 1) _ _ (by omega) (by omega) ?_⟩, fun c => ⟨rgI (by omega) (by omega), ih (j + 1) _ _ (by omega) (by omega) ?_⟩⟩
      · rw [ctB_s, if_pos c, h3]; omega
      · rw [ctB_s, if_neg c, h3]; omega
  exact b95 ho (key S 0 0 0 (by omega) rfl rfl)
end HEARE
