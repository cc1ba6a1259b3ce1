/-! what is heard: the component, on -/
section HEARD
variable {E : am_E} {g : GG} {fl : FF} {W S V : Nat} {F z ws : Nat → Nat} {mk' : Nat → Int} {mo : Nat → Nat} {h : Nat → Int} {o : Nat}
theorem settleC_ok {Q : Int → GG → FF → Prop} (ho : o = 21 ∨ o = 29) {k t : Nat} {v2 v3 : Int} (h2 : v2 = k) (h3 : v3 = t) (hW : WS W S F z mk' ws) (hG : CG W S F z mk' mo g) (hk : k < S) (hh : ∀ s, s < S → g (o + 5) s = h s) (hI : HI S (wlo F ws) (whi F z ws) h) (hl : loose S V (wlo F ws) (whi F z ws) h k) (ht : t = nx h S (k + 1))
    (h1 : ∀ g' : GG, (∀ s, s < S → g' (o + 5) s = settle (wlo F ws) (whi F z ws) h k t s) → (∀ a i, ¬ (a = o + 5) → g' a i = g a i) → Q (plS (wlo F ws) h k t : Nat) g' fl) : cI E 90 [amR o, amR 11, amI v2, amI v3] g fl Q := by
  have hS60 := hW.c.S60
  have hwl := hW.wl
  obtain ⟨⟨l1, l2, l3⟩, l4⟩ := hl
  rw [← ht] at l2 l3 l4
  obtain ⟨n1, n2, n3, n4⟩ := nx_ok (h := h) (S := S) (s := k + 1) (by omega)
  rw [← ht] at n1 n2 n4
  have n4 := n4 l2
  have vk := hI.v k hk
  have vt := hI.v t l2
  have hwk := hwl.a k hk
  have hwt := hwl.a t l2
  have e1 : rd g (o + 5) 60 v2 = h k := by rw [rd_in h2 (by omega)]; exact hh k hk
  have e2 : rd g (o + 5) 60 v3 = h t := by rw [rd_in h3 (by omega)]; exact hh t l2
  have one : ∀ (j : Nat) (vj : Int) (x : Int) (g2 : GG), j < S → vj = j → g2 = wr g (o + 5) 60 vj 0 → settle (wlo F ws) (whi F z ws) h k t = fup h j 0 → x = (plS (wlo F ws) h k t : Nat) → Q x g2 fl := by
    intro j vj x g2 hj hvj e hs hx
    rw [wr_in hvj (by omega)] at e
    rw [hx]
    refine h1 g2 (fun s z1 => ?_) (fun a i z1 => by rw [e]; (simp (disch := omega) only [up_at, up_ne]))
    rw [hs, e]
    by_cases c : s = j
    · rw [c, fup_at]; (simp (disch := omega) only [up_at, up_ne])
    · rw [fup_ne c]; (simp (disch := omega) only [up_at, up_ne]); exact hh s z1
  have two : ∀ (a j : Nat) (va vj : Int) (x : Int) (g2 g3 : GG), a < S → j < S → va = a → vj = j → g2 = wr g (o + 5) 60 va 2 → g3 = wr g2 (o + 5) 60 vj 0 → settle (wlo F ws) (whi F z ws) h k t = fup (fup h a 2) j 0 → x = (plS (wlo F ws) h k t : Nat) → Q x g3 fl := by
    intro a j va vj x g2 g3 ha hj hva hvj e e' hs hx
    rw [wr_in hva (by omega)] at e
    rw [wr_in hvj (by omega)] at e'
    rw [hx]
    refine h1 g3 (fun s z1 => ?_) (fun a i z1 => by rw [e', e]; (simp (disch := omega) only [up_at, up_ne]))
    rw [hs, e', e]
    by_cases c : s = j
    · rw [c, fup_at]; (simp (disch := omega) only [up_at, up_ne])
    · rw [fup_ne c]
      by_cases c2 : s = a
      · rw [c2, fup_at]; rw [c2] at c; (simp (disch := omega) only [up_at, up_ne])
      · rw [fup_ne c2]; (simp (disch := omega) only [up_at, up_ne]); exact hh s z1
  have both : h k = 2 → h t = 2 → cI E 91 [amR o, amR 11, amI v2] g fl (fun x4 g4 f4 => (x4 = (-1) → cI E 92 [amR o, amR 11, amI v3] g4 f4 (fun x6 g6 f6 => (∀ g7 : GG, g7 = wr g6 (o + 5) 60 x6 2 → (∀ g8 : GG, g8 = wr g7 (o + 5) 60 v3 0 → Q v3 g8 f6)))) ∧ (¬ (x4 = (-1)) → (∀ g6 : GG, g6 = wr g4 (o + 5) 60 x4 2 → (∀ g7 : GG, g7 = wr g6 (o + 5) 60 v2 0 → Q x4 g7 f4)))) := by
    intro b1 b2
    have c1 : ¬ (h k < h t ∨ (h k = 1 ∧ h t = 1)) := by omega
    have c2 : ¬ (h t < h k) := by omega
    refine lesserAhead_ok ho h2 hW hG hk hh ⟨fun c3 => lesserBehind_ok ho h3 hW hG l2 hh (fun g7 e7 g8 e8 => ?_), fun c3 => fun g6 e6 g7 e7 => ?_⟩
    · rcases bh_ok (h := h) (e := whi F z ws t) (s := t) with ⟨a1, a2⟩ | ⟨a, a1, a2, a3, a4, a5⟩
      · exact absurd ⟨b1, b2, c3, a1⟩ l4
      · refine two a t _ v3 v3 g7 g8 (by omega) l2 a1 h3 e7 e8 ?_ ?_
        · unfold settle; rw [if_neg c1, if_neg c2, if_neg (by omega), a1, Int.toNat_natCast]
        · unfold plS; rw [if_neg c1, if_neg c2, if_neg (by omega)]; exact h3
    · rcases ahF_ok (h := h) (l := wlo F ws k) k with ⟨a1, a2⟩ | ⟨a, a1, a2, a3, a4, a5⟩
      · exact absurd a1 c3
      · refine two a k _ v2 _ g6 g7 (by omega) hk a1 h2 e6 e7 ?_ ?_
        · unfold settle; rw [if_neg c1, if_neg c2, if_pos c3, a1, Int.toNat_natCast]
        · unfold plS; rw [if_neg c1, if_neg c2, if_pos c3, a1, Int.toNat_natCast]
  refine b90 ho ?_
  rw [e1, e2]
  refine ⟨fun c => fun g2 g2e => one k v2 v2 g2 hk h2 g2e ?_ ?_, fun c => ⟨fun c1 => ⟨fun c2 => fun g4 g4e => one k v2 v2 g4 hk h2 g4e ?_ ?_, fun c2 => ⟨fun c3 => fun g5 g5e => one t v3 v3 g5 l2 h3 g5e ?_ ?_, fun c3 => both (by omega) (by omega)⟩⟩, fun c1 => ⟨fun c3 => fun g4 g4e => one t v3 v3 g4 l2 h3 g4e ?_ ?_, fun c3 => both (by omega) (by omega)⟩⟩⟩
  · unfold settle; rw [if_pos (Or.inl c)]
  · unfold plS; rw [if_pos (Or.inl c)]; exact h2
  · unfold settle; rw [if_pos (Or.inr ⟨c1, c2⟩)]
  · unfold plS; rw [if_pos (Or.inr ⟨c1, c2⟩)]; exact h2
  · unfold settle; rw [if_neg (by omega), if_pos c3]
  · unfold plS; rw [if_neg (by omega), if_pos c3]; exact h3
  · unfold settle; rw [if_neg (by omega), if_pos c3]
  · unfold plS; rw [if_neg (by omega), if_pos c3]; exact h3
theorem firstLoose_ok {Q : Int → GG → FF → Prop} (ho : o = 21 ∨ o = 29) {p : Nat} {v2 v3 : Int} (h2 : v2 = p) (h3 : v3 = V) (hV : V ≤ 3) (hW : WS W S F z mk' ws) (hG : CG W S F z mk' mo g) (hp : p ≤ S) (hh : ∀ s, s < S → g (o + 5) s = h s) (hno : ∀ i, i < p → ¬ loose S V (wlo F ws) (whi F z ws) h i)
    (h1 : fLo S V (wlo F ws) (whi F z ws) h 0 < S → Q (fLo S V (wlo F ws) (whi F z ws) h 0 : Nat) g fl) (h0 : fLo S V (wlo F ws) (whi F z ws) h 0 = S → Q (-1) g fl) : cI E 88 [amR o, amR 11, amI v2, amI v3] g fl Q := by
  have hS60 := hW.c.S60
  have hS := hG.gS
  have key : ∀ (f i : Nat) (v4 : Int), i + f = S → v4 = i → (∀ j, j < i → ¬ loose S V (wlo F ws) (whi F z ws) h j) → am_X E 88 (2, (0, 0), [some (amR o), some (amR 11), some (amI v2), some (amI v3), some (amI v4), none], [], mk g fl) (RI Q) := by
    intro f
    induction f with
    | zero =>
      intro i v4 hf h4 hj
      exact b88_2 ho ⟨fun c => absurd c (by omega), fun _ => h0 (fLo_of (Nat.le_refl _) (fun j hj2 => hj j (by omega)) (fun y => by omega))⟩
    | succ f ih =>
      intro i v4 hf h4 hj
      have nxt : ¬ loose S V (wlo F ws) (whi F z ws) h i → am_rg (v4 + 1) ∧ am_X E 88 (2, (0, 0), [some (amR o), some (amR 11), some (amI v2), some (amI v3), some (amI (v4 + 1)), none], [], mk g fl) (RI Q) := by
        intro hl
        refine ⟨rgI (by omega) (by omega), ih (i + 1) _ (by omega) (by omega) (fun j hj2 => ?_)⟩
        by_cases c : j = i
        · rw [c]; exact hl
        · exact hj j (by omega)
      refine b88_2 ho ⟨fun _ => clashesWith_ok (by omega) (k := i) h4 h3 hV hS hS60 (by omega) hh (fun hc => ⟨fun y => absurd y (by omega), fun _ => ?_⟩) (fun hc => ⟨fun _ => nxt (fun y => hc y.1), fun y => absurd rfl y⟩), fun c => absurd (by omega) c⟩
      refine isStuck_ok ho (k := i) (t := nx h S (i + 1)) h4 rfl hW hG (by omega) hc.2.1 hh ⟨fun c => ?_, fun c => nxt (fun y => y.2 ?_)⟩
      · have hl : loose S V (wlo F ws) (whi F z ws) h i := ⟨hc, fun y => by rw [if_pos y] at c; omega⟩
        have he := fLo_of (S := S) (V := V) (lo := wlo F ws) (hi := whi F z ws) (h := h) (k := i) (by omega) hj (fun _ => hl)
        rw [h4, ← he]
        exact h1 (by omega)
      · rcases Classical.em (stk (wlo F ws) (whi F z ws) h i (nx h S (i + 1))) with y | y
        · exact y
        · rw [if_neg y] at c; exact absurd rfl c
  exact b88 ho (key (S - p) p _ (by omega) h2 hno)
theorem hear_loop {Q : GG → FF → Prop} (ho : o = 21 ∨ o = 29) {v2 : Int} (h2 : v2 = V) (hV : V ≤ 3) (hW : WS W S F z mk' ws) {g0 : GG} (hG0 : CG W S F z mk' mo g0) :
    ∀ (f m p : Nat) (v3 v4 : Int) (h : Nat → Int) (g : GG), v4 = 60 - (f : Int) → f ≤ 60 → v3 = p → p ≤ S → HI S (wlo F ws) (whi F z ws) h → (∀ s, s < S → g (o + 5) s = h s) → g o 10 = m → m + f ≤ 60 → (∀ i, i < p → ¬ loose S V (wlo F ws) (whi F z ws) h i) → (∀ a i, ¬ (a = o + 5) → ¬ (a = o ∧ i = 10) → g a i = g0 a i) →
      (∀ g' : GG, (∀ s, s < S → g' (o + 5) s = (hearF S V (wlo F ws) (whi F z ws) f h m).1 s) → g' o 10 = (hearF S V (wlo F ws) (whi F z ws) f h m).2 → (∀ a i, ¬ (a = o + 5) → ¬ (a = o ∧ i = 10) → g' a i = g0 a i) → Q g' fl) →
      am_X E 86 (23, (0, 0), [some (amR o), some (amR 11), some (amI v2), some (amI v3), some (amI v4), none, none], [], mk g fl) (RV Q) := by
  have hS60 := hW.c.S60
  have hwl := hW.wl
  intro f
  induction f with
  | zero =>
    intro m p v3 v4 h g h4 hf h3 hp hI hh hm hmf hno hfr hq
    exact b86_23 ho ⟨fun c => absurd c (by omega), fun _ => hq g hh hm hfr⟩
  | succ f ih =>
    intro m p v3 v4 h g h4 hf h3 hp hI hh hm hmf hno hfr hq
    have hG : CG W S F z mk' mo g := hG0.keep (fun a i y => hfr _ _ (by omega) (by omega))
    refine b86_23 ho ⟨fun _ => firstLoose_ok ho h3 h2 hV hW hG hp hh hno (fun hl => ⟨fun y => absurd y (by omega), fun _ => ?_⟩) (fun hl => ⟨fun _ => ?_, fun y => absurd rfl y⟩), fun c => absurd (by omega) c⟩
    · obtain ⟨a1, a2, a3⟩ := fLo_ok (S := S) (V := V) (lo := wlo F ws) (hi := whi F z ws) (h := h)
      obtain ⟨k, hk⟩ : ∃ k, k = fLo S V (wlo F ws) (whi F z ws) h 0 := ⟨_, rfl⟩
      have hlo := a3 hl
      rw [← hk] at hl hlo a2 ⊢
      refine clashesWith_ok (by omega) (k := k) rfl h2 hV hG.gS hS60 hl hh (fun hc => ?_) (fun hc => absurd hlo.1 hc)
      refine settleC_ok ho (k := k) (t := nx h S (k + 1)) rfl rfl hW hG hl hh hI hlo rfl (fun g5 q1 q2 => ?_)
      obtain ⟨b1, b2, b3, b4, b5, b6⟩ := settle_ok hwl hI hl hlo
      have hc2 := hc.2
      refine ⟨rgI (by omega) (by omega), rgI (by rw [q2 _ _ (by omega)]; omega) (by rw [q2 _ _ (by omega)]; omega), fun g6 e6 => ⟨rgI (by omega) (by omega), ?_⟩⟩
      have hm6 : g5 o 10 = m := by rw [q2 _ _ (by omega)]; exact hm
      refine ih (m + 1) (plS (wlo F ws) h k (nx h S (k + 1)) - V) _ _ _ g6 (by omega) (by omega) ?_ (by omega) b1 (fun s hs => ?_) ?_ (by omega) (fun i hi => ?_) (fun a i z1 z2 => ?_) (fun g' r1 r2 r3 => hq g' ?_ ?_ r3)
      · split <;> omega
      · rw [e6]; (simp (disch := omega) only [up_at, up_ne]); exact q1 s hs
      · rw [e6]; (simp (disch := omega) only [up_at, up_ne]); omega
      · exact loose_ahead hwl a2 (by omega) b3 b4 (by omega) (by omega)
      · rw [e6]; (simp (disch := omega) only [up_at, up_ne]); rw [q2 _ _ z1]; exact hfr a i z1 z2
      · intro s hs
        rw [r1 s hs]
        show _ = (if fLo S V (wlo F ws) (whi F z ws) h 0 < S then _ else _ : (Nat → Int) × Nat).1 s
        rw [← hk, if_pos hl]
      · rw [r2]
        show _ = (((if fLo S V (wlo F ws) (whi F z ws) h 0 < S then _ else _ : (Nat → Int) × Nat).2 : Nat) : Int)
        rw [← hk, if_pos hl]
    · refine hq g ?_ ?_ hfr
      · intro s hs
        show _ = (if fLo S V (wlo F ws) (whi F z ws) h 0 < S then _ else _ : (Nat → Int) × Nat).1 s
        rw [if_neg (by omega)]; exact hh s hs
      · show _ = (((if fLo S V (wlo F ws) (whi F z ws) h 0 < S then _ else _ : (Nat → Int) × Nat).2 : Nat) : Int)
        rw [if_neg (by omega)]; exact hm
theorem hear_ok {Q : GG → FF → Prop} (ho : o = 21 ∨ o = 29) {v2 : Int} (h2 : v2 = V) (hV : V ≤ 3) (hW : WS W S F z mk' ws) (hG : CG W S F z mk' mo g) (hI : HI S (wlo F ws) (whi F z ws) h) (hh : ∀ s, s < S → g (o + 4) s = h s)
    (hq : ∀ g' : GG, (∀ s, s < S → g' (o + 5) s = (hearF S V (wlo F ws) (whi F z ws) 60 h 0).1 s) → g' o 10 = (hearF S V (wlo F ws) (whi F z ws) 60 h 0).2 → (∀ a i, ¬ (a = o + 5) → ¬ (a = o ∧ i = 10) → g' a i = g a i) → Q g' fl) : cV E 86 [amR o, amR 11, amI v2] g fl Q := by
  have hS60 := hW.c.S60
  have key : ∀ (f j : Nat) (v3 : Int) (g1 : GG), j + f = S → v3 = j → (∀ s, s < j → g1 (o + 5) s = h s) → (∀ a i, ¬ (a = o + 5) → g1 a i = g a i) → am_X E 86 (2, (0, 0), [some (amR o), some (amR 11), some (amI v2), some (amI v3), none, none, none], [], mk g1 fl) (RV Q) := by
    intro f
    induction f with
    | zero =>
      intro j v3 g1 h0 h3 hj hfr
      have hS : g1 11 11 = S := by rw [hfr _ _ (by omega)]; exact hG.gS
      refine b86_2 ho ⟨fun c => absurd c (by omega), fun _ g2 e2 => ?_⟩
      refine hear_loop (g0 := g) (mo := mo) ho h2 hV hW hG 60 0 0 0 0 h g2 (by omega) (by omega) rfl (by omega) hI (fun s hs => ?_) (by rw [e2]; (simp (disch := omega) only [up_at, up_ne]); rfl) (by omega) (fun i hi => by omega) (fun a i z1 z2 => by rw [e2]; (simp (disch := omega) only [up_at, up_ne]); exact hfr a i z1) hq
      rw [e2]; (simp (disch := omega) only [up_at, up_ne]); exact hj s (by omega)
    | succ f ih =>
      intro j v3 g1 h0 h3 hj hfr
      have hS : g1 11 11 = S := by rw [hfr _ _ (by omega)]; exact hG.gS
      refine b86_2 ho ⟨fun _ => fun g2 e2 => ⟨rgI (by omega) (by omega), ?_⟩, fun c => absurd (by omega) c⟩
      rw [wr_in h3 (by omega), rd_in h3 (by omega)] at e2
      refine ih (j + 1) _ g2 (by omega) (by omega) (fun s hs => ?_) (fun a i z1 => by rw [e2]; (simp (disch := omega) only [up_at, up_ne]); exact hfr a i z1)
      rw [e2]
      by_cases c : s = j
      · rw [c]; (simp (disch := omega) only [up_at, up_ne]); rw [hfr _ _ (by omega)]; exact hh j (by omega)
      · (simp (disch := omega) only [up_at, up_ne]); exact hj s (by omega)
  exact b86 ho (key S 0 0 g (by omega) rfl (fun s hs => by omega) (fun _ _ _ => rfl))
end HEARD
