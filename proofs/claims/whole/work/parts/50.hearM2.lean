/-! what is heard: the reference, on -/
def loS (b : Nat → Int) (n : Nat) (w : Nat → Int) : Nat → Nat := wlo (fs b n w) (wo b n w)
def hiS (b : Nat → Int) (n : Nat) (w : Nat → Int) : Nat → Nat := whi (fs b n w) (nc b n w) (wo b n w)
section HEARN
variable {E : am_E} {g : GG} {fl : FF} {b : Nat → Int} {n : Nat} {w : Nat → Int} {h : Nat → Int} {V : Nat}
theorem WL_cut (hn : n ≤ 60) : WL (Sn b n w) (loS b n w) (hiS b n w) := (WS_cut (mk' := fun _ => -1) hn (fun k _ => by omega)).wl
theorem movesM_ok {Q : GG → FF → Prop} {j a : Nat} {v1 v2 : Int} (h1 : v1 = j) (h2 : v2 = a) (hj : j < 60) (ha : a < 60) (hm : 0 ≤ g 49 22 ∧ g 49 22 ≤ 1000)
    (hq : ∀ g' : GG, (∀ i, g' 67 i = fup (fup (g 67) a 2) j 0 i) → g' 49 22 = g 49 22 + 1 → (∀ a i, ¬ (a = 67) → ¬ (a = 49 ∧ i = 22) → g' a i = g a i) → Q g' fl) : cV E 128 [amR 49, amI v1, amI v2] g fl Q := by
  refine b128 ⟨by omega, fun g1 e1 => ⟨by omega, fun g2 e2 => ?_⟩⟩
  rw [toNat_eq h2] at e1
  rw [toNat_eq h1] at e2
  have f2 : g2 49 22 = g 49 22 := by rw [e2, e1]; (simp (disch := omega) only [up_at, up_ne])
  refine ⟨rgI (by omega) (by omega), fun g3 e3 => hq g3 (fun i => ?_) ?_ (fun a i z1 z2 => ?_)⟩
  · rw [e3, e2, e1]
    by_cases c : i = j
    · rw [c, fup_at]; (simp (disch := omega) only [up_at, up_ne])
    · rw [fup_ne c]
      by_cases c2 : i = a
      · rw [c2, fup_at]; rw [c2] at c; (simp (disch := omega) only [up_at, up_ne])
      · rw [fup_ne c2]; (simp (disch := omega) only [up_at, up_ne])
  · rw [e3, f2]; (simp (disch := omega) only [up_at, up_ne])
  · rw [e3, e2, e1]; (simp (disch := omega) only [up_at, up_ne])
theorem parts_ok {Q : Int → GG → FF → Prop} (hn : n ≤ 60) (hC : MC b n w g) {k t : Nat} {v1 v2 : Int} (h1 : v1 = k) (h2 : v2 = t) (hk : k < Sn b n w) (hh : ∀ s, s < Sn b n w → g 67 s = h s) (hI : HI (Sn b n w) (loS b n w) (hiS b n w) h) (hc : cl (Sn b n w) V h k) (ht : t = nx h (Sn b n w) (k + 1)) (hm : 0 ≤ g 49 22 ∧ g 49 22 ≤ 1000)
    (hy : ¬ stk (loS b n w) (hiS b n w) h k t → ∀ g' : GG, (∀ s, s < Sn b n w → g' 67 s = settle (loS b n w) (hiS b n w) h k t s) → g' 49 22 = g 49 22 + 1 → (∀ a i, ¬ (a = 67) → ¬ (a = 49 ∧ i = 22) → g' a i = g a i) → Q 1 g' fl)
    (hno : stk (loS b n w) (hiS b n w) h k t → Q 0 g fl) : cI E 129 [amR 49, amI v1, amI v2] g fl Q := by
  have hSl := Sn_le (b := b) (w := w) hn
  have hwl := WL_cut (b := b) (w := w) hn
  obtain ⟨l1, l2, l3⟩ := hc
  obtain ⟨n1, n2, n3, n4⟩ := nx_ok (h := h) (S := Sn b n w) (s := k + 1) (by omega)
  rw [← ht] at l2 l3 n1 n2 n4
  have n4 := n4 l2
  have vk := hI.v k hk
  have vt := hI.v t l2
  have hwk := hwl.a k hk
  have hwt := hwl.a t l2
  have e1 : g 67 (Int.toNat v1) = h k := by rw [toNat_eq h1]; exact hh k hk
  have e2 : g 67 (Int.toNat v2) = h t := by rw [toNat_eq h2]; exact hh t l2
  have one : ∀ (j : Nat) (vj : Int), j < Sn b n w → vj = j → ¬ stk (loS b n w) (hiS b n w) h k t → settle (loS b n w) (hiS b n w) h k t = fup h j 0 → (0 ≤ vj ∧ vj < 60) ∧ (∀ g3 : GG, g3 = am_up g 67 (Int.toNat vj) 0 → am_rg ((g3 49 22) + 1) ∧ (∀ g4 : GG, g4 = am_up g3 49 22 ((g3 49 22) + 1) → Q 1 g4 fl)) := by
    intro j vj hj hvj hs hst
    refine ⟨by omega, fun g3 e3 => ?_⟩
    rw [toNat_eq hvj] at e3
    have f3 : g3 49 22 = g 49 22 := by rw [e3]; (simp (disch := omega) only [up_at, up_ne])
    refine ⟨rgI (by omega) (by omega), fun g4 e4 => hy hs g4 (fun s z1 => ?_) ?_ (fun a i z1 z2 => ?_)⟩
    · rw [hst, e4, e3]
      by_cases c : s = j
      · rw [c, fup_at]; (simp (disch := omega) only [up_at, up_ne])
      · rw [fup_ne c]; (simp (disch := omega) only [up_at, up_ne]); exact hh s z1
    · rw [e4, f3]; (simp (disch := omega) only [up_at, up_ne])
    · rw [e4, e3]; (simp (disch := omega) only [up_at, up_ne])
  have two : ∀ (j a : Nat) (vj va : Int), j < Sn b n w → a < Sn b n w → vj = j → va = a → ¬ stk (loS b n w) (hiS b n w) h k t → settle (loS b n w) (hiS b n w) h k t = fup (fup h a 2) j 0 → cV E 128 [amR 49, amI vj, amI va] g fl (fun g7 f7 => Q 1 g7 f7) := by
    intro j a vj va hj ha hvj hva hs hst
    refine movesM_ok hvj hva (by omega) (by omega) hm (fun g' q1 q2 q3 => hy hs g' (fun s z1 => ?_) q2 q3)
    rw [q1, hst]
    by_cases c : s = j
    · rw [c, fup_at, fup_at]
    · rw [fup_ne c, fup_ne c]
      by_cases c2 : s = a
      · rw [c2, fup_at, fup_at]
      · rw [fup_ne c2, fup_ne c2]; exact hh s z1
  have pick : ∀ (P : Prop), ¬ stk (loS b n w) (hiS b n w) h k t → (h k < h t ∨ (h k = 1 ∧ h t = 1)) ∨ h t < h k → (0 ≤ (if h t < h k then v2 else v1) ∧ (if h t < h k then v2 else v1) < 60) ∧ (∀ g3 : GG, g3 = am_up g 67 (Int.toNat (if h t < h k then v2 else v1)) 0 → am_rg ((g3 49 22) + 1) ∧ (∀ g4 : GG, g4 = am_up g3 49 22 ((g3 49 22) + 1) → Q 1 g4 fl)) := by
    intro _ hs hcs
    by_cases c : h t < h k
    · rw [if_pos c]
      refine one t v2 l2 h2 hs ?_
      unfold settle; rw [if_neg (by omega), if_pos c]
    · rw [if_neg c]
      refine one k v1 hk h1 hs ?_
      unfold settle; rw [if_pos (by omega)]
  refine b129 ⟨by omega, by omega, ?_⟩
  rw [e1, e2]
  refine ⟨fun c => ⟨fun c1 => pick True (fun y => by have := y.1; omega) (by omega), fun c1 => ?_⟩, fun c => pick True (fun y => by have := y.1; have := y.2.1; omega) (by omega)⟩
  have z1 : ¬ (h k < h t ∨ (h k = 1 ∧ h t = 1)) := by omega
  have z2 : ¬ (h t < h k) := by omega
  refine otherA_ok hn hC h1 hk hh (otherB_ok hn hC h2 l2 hh ⟨fun c3 => ⟨fun c4 => hno ⟨by omega, by omega, c3, c4⟩, fun c4 => ?_⟩, fun c3 => ?_⟩)
  · rcases bh_ok (h := h) (e := hiS b n w t) (s := t) with ⟨a1, a2⟩ | ⟨a, a1, a2, a3, a4, a5⟩
    · exact absurd a1 c4
    · refine two t a v2 _ l2 (by omega) h2 a1 (fun y => c4 y.2.2.2) ?_
      have c3' : ahF h (loS b n w k) k = -1 := c3
      unfold settle; rw [if_neg z1, if_neg z2, if_neg (fun y => y c3'), a1, Int.toNat_natCast]
  · rcases ahF_ok (h := h) (l := loS b n w k) k with ⟨a1, a2⟩ | ⟨a, a1, a2, a3, a4, a5⟩
    · exact absurd a1 c3
    · refine two k a v1 _ hk (by omega) h1 a1 (fun y => c3 y.2.2.1) ?_
      have c3' : ahF h (loS b n w k) k ≠ -1 := c3
      unfold settle; rw [if_neg z1, if_neg z2, if_pos c3', a1, Int.toNat_natCast]
theorem hearsM_loop {Q : GG → FF → Prop} (hn : n ≤ 60) (hV3 : V ≤ 3) {g0 : GG} (hC0 : MC b n w g0) (hV0 : g0 51 8 = V) :
    ∀ (f m : Nat) (h : Nat → Int) (g : GG), HI (Sn b n w) (loS b n w) (hiS b n w) h → nzc h (Sn b n w) ≤ f → m + f ≤ 60 → (∀ s, s < Sn b n w → g 67 s = h s) → g 49 22 = m → (∀ a i, ¬ (a = 67) → ¬ (a = 49 ∧ (i = 22 ∨ i = 23)) → g a i = g0 a i) →
      (∀ g' : GG, (∀ s, s < Sn b n w → g' 67 s = (hearF (Sn b n w) V (loS b n w) (hiS b n w) f h m).1 s) → g' 49 22 = (hearF (Sn b n w) V (loS b n w) (hiS b n w) f h m).2 → g' 49 23 = (ctB (cl (Sn b n w) V (hearF (Sn b n w) V (loS b n w) (hiS b n w) f h m).1) (Sn b n w) : Nat) → (∀ a i, ¬ (a = 67) → ¬ (a = 49 ∧ (i = 22 ∨ i = 23)) → g' a i = g0 a i) → Q g' fl) →
      am_X E 130 (24, (0, 0), [some (amR 49), some (amI 0)], [], mk g fl) (RV Q) := by
  have hSl := Sn_le (b := b) (w := w) hn
  have hwl := WL_cut (b := b) (w := w) hn
  intro f
  induction f with
  | zero =>
    intro m h g hI hz hmf hh hm hfr hq
    have hS : g 49 13 = Sn b n w := by rw [hfr _ _ (by omega) (by omega)]; exact hC0.S
    have hV : g 51 8 = V := by rw [hfr _ _ (by omega) (by omega)]; exact hV0
    have hnl : ∀ s, s < Sn b n w → h s = 0 := fun s hs => by
      rcases Classical.em (h s = 0) with y | y
      · exact y
      · have := nzc_pos (h := h) (k := s) y hs
        omega
    have key : ∀ (d k : Nat) (v1 : Int), k + d = Sn b n w → v1 = k → am_X E 130 (24, (0, 0), [some (amR 49), some (amI v1)], [], mk g fl) (RV Q) := by
      intro d
      induction d with
      | zero =>
        intro k v1 hd h1
        refine b130_24 ⟨fun c => absurd c (by omega), fun _ => clashes_ok (by omega) hS (by omega) hV hV3 hh (fun s hs => (hI.v s hs).1) (fun g3 e3 => hq g3 (fun s hs => ?_) ?_ ?_ (fun a i z1 z2 => ?_))⟩
        · rw [e3]; (simp (disch := omega) only [up_at, up_ne]); exact hh s hs
        · rw [e3]; (simp (disch := omega) only [up_at, up_ne]); exact hm
        · rw [e3]; (simp (disch := omega) only [up_at, up_ne]); rfl
        · rw [e3]; (simp (disch := omega) only [up_at, up_ne]); exact hfr a i z1 z2
      | succ d ih =>
        intro k v1 hd h1
        refine b130_24 ⟨fun _ => isClash_ok (by omega) h1 hS (by omega) hV hV3 (by omega) hh (hI.v k (by omega)).1 ⟨fun _ => ⟨rgI (by omega) (by omega), ih (k + 1) _ (by omega) (by omega)⟩, fun c => ?_⟩, fun c => absurd (by omega) c⟩
        rw [if_neg (fun y => y.1 (hnl k (by omega)))] at c
        exact absurd rfl c
    exact key (Sn b n w) 0 0 (by omega) rfl
  | succ f IH =>
    intro m h g hI hz hmf hh hm hfr hq
    have hS : g 49 13 = Sn b n w := by rw [hfr _ _ (by omega) (by omega)]; exact hC0.S
    have hV : g 51 8 = V := by rw [hfr _ _ (by omega) (by omega)]; exact hV0
    have hC : MC b n w g := hC0.keep (fun a i y => hfr _ _ (by omega) (by omega))
    have key : ∀ (d k : Nat) (v1 : Int), k + d = Sn b n w → v1 = k → (∀ j, j < k → ¬ loose (Sn b n w) V (loS b n w) (hiS b n w) h j) → am_X E 130 (24, (0, 0), [some (amR 49), some (amI v1)], [], mk g fl) (RV Q) := by
      intro d
      induction d with
      | zero =>
        intro k v1 hd h1 hno
        have hFe : hearF (Sn b n w) V (loS b n w) (hiS b n w) (f + 1) h m = (h, m) := by
          have := fLo_of (S := Sn b n w) (V := V) (lo := loS b n w) (hi := hiS b n w) (h := h) (k := Sn b n w) (Nat.le_refl _) (fun j hj => hno j (by omega)) (fun y => by omega)
          show (if fLo (Sn b n w) V (loS b n w) (hiS b n w) h 0 < Sn b n w then _ else _) = _
          rw [if_neg (by omega)]
        rw [hFe] at hq
        refine b130_24 ⟨fun c => absurd c (by omega), fun _ => clashes_ok (by omega) hS (by omega) hV hV3 hh (fun s hs => (hI.v s hs).1) (fun g3 e3 => hq g3 (fun s hs => ?_) ?_ ?_ (fun a i z1 z2 => ?_))⟩
        · rw [e3]; (simp (disch := omega) only [up_at, up_ne]); exact hh s hs
        · rw [e3]; (simp (disch := omega) only [up_at, up_ne]); exact hm
        · rw [e3]; (simp (disch := omega) only [up_at, up_ne])
        · rw [e3]; (simp (disch := omega) only [up_at, up_ne]); exact hfr a i z1 z2
      | succ d ih =>
        intro k v1 hd h1 hno
        have nxt : ¬ loose (Sn b n w) V (loS b n w) (hiS b n w) h k → am_rg (v1 + 1) ∧ am_X E 130 (24, (0, 0), [some (amR 49), some (amI (v1 + 1))], [], mk g fl) (RV Q) := by
          intro hl
          refine ⟨rgI (by omega) (by omega), ih (k + 1) _ (by omega) (by omega) (fun j hj => ?_)⟩
          by_cases c : j = k
          · rw [c]; exact hl
          · exact hno j (by omega)
        refine b130_24 ⟨fun _ => isClash_ok (by omega) h1 hS (by omega) hV hV3 (by omega) hh (hI.v k (by omega)).1 ⟨fun c => ?_, fun c => ?_⟩, fun c => absurd (by omega) c⟩
        · refine nxt (fun y => ?_)
          rw [if_pos y.1] at c
          exact absurd c (by decide)
        · have hc : cl (Sn b n w) V h k := by
            rcases Classical.em (cl (Sn b n w) V h k) with y | y
            · exact y
            · rw [if_neg y] at c; exact absurd rfl c
          refine nextBeat_ok (by omega) h1 hS (by omega) (by omega) hh (parts_ok hn hC h1 rfl (by omega) hh hI hc rfl (by omega) (fun hns g' q1 q2 q3 => ⟨fun y => absurd y (by omega), fun _ => ?_⟩) (fun hs => ⟨fun _ => nxt (fun y => y.2 hs), fun y => absurd rfl y⟩))
          have hl : loose (Sn b n w) V (loS b n w) (hiS b n w) h k := ⟨hc, hns⟩
          obtain ⟨b1, b2, b3, b4, b5, b6⟩ := settle_ok hwl hI (by omega) hl
          have hfe := fLo_of (S := Sn b n w) (V := V) (lo := loS b n w) (hi := hiS b n w) (h := h) (k := k) (by omega) hno (fun _ => hl)
          have hFe : hearF (Sn b n w) V (loS b n w) (hiS b n w) (f + 1) h m = hearF (Sn b n w) V (loS b n w) (hiS b n w) f (settle (loS b n w) (hiS b n w) h k (nx h (Sn b n w) (k + 1))) (m + 1) := by
            show (if fLo (Sn b n w) V (loS b n w) (hiS b n w) h 0 < Sn b n w then _ else _) = _
            rw [hfe, if_pos (by omega)]
          rw [hFe] at hq
          exact IH (m + 1) _ g' b1 (by omega) (by omega) q1 (by omega) (fun a i z1 z2 => by rw [q3 a i z1 (by omega)]; exact hfr a i z1 z2) hq
    exact key (Sn b n w) 0 0 (by omega) rfl (fun j hj => by omega)
theorem hearsM_ok {Q : GG → FF → Prop} (hn : n ≤ 60) (hV3 : V ≤ 3) (hC : MC b n w g) (hV : g 51 8 = V) (hI : HI (Sn b n w) (loS b n w) (hiS b n w) h) (hh : ∀ s, s < Sn b n w → g 66 s = h s)
    (hq : ∀ g' : GG, (∀ s, s < Sn b n w → g' 67 s = (hearF (Sn b n w) V (loS b n w) (hiS b n w) 60 h 0).1 s) → g' 49 22 = (hearF (Sn b n w) V (loS b n w) (hiS b n w) 60 h 0).2 → g' 49 23 = (ctB (cl (Sn b n w) V (hearF (Sn b n w) V (loS b n w) (hiS b n w) 60 h 0).1) (Sn b n w) : Nat) → (∀ a i, ¬ (a = 67) → ¬ (a = 49 ∧ (i = 22 ∨ i = 23)) → g' a i = g a i) → Q g' fl) : cV E 130 [amR 49] g fl Q := by
  have hSl := Sn_le (b := b) (w := w) hn
  have key : ∀ (d k : Nat) (v1 : Int) (g1 : GG), k + d = Sn b n w → v1 = k → (∀ s, s < k → g1 67 s = h s) → (∀ a i, ¬ (a = 67) → g1 a i = g a i) → am_X E 130 (2, (0, 0), [some (amR 49), some (amI v1)], [], mk g1 fl) (RV Q) := by
    intro d
    induction d with
    | zero =>
      intro k v1 g1 hd h1 hj hfr
      have hS : g1 49 13 = Sn b n w := by rw [hfr _ _ (by omega)]; exact hC.S
      refine b130_2 ⟨fun c => absurd c (by omega), fun _ g2 e2 g3 e3 => ?_⟩
      have hnz := nzc_le (h := h) (Sn b n w)
      refine hearsM_loop (g0 := g) hn hV3 hC hV 60 0 h g3 hI (by omega) (by omega) (fun s hs => ?_) ?_ (fun a i z1 z2 => ?_) hq
      · rw [e3, e2]; (simp (disch := omega) only [up_at, up_ne]); exact hj s (by omega)
      · rw [e3, e2]; (simp (disch := omega) only [up_at, up_ne]); rfl
      · rw [e3, e2]; (simp (disch := omega) only [up_at, up_ne]); exact hfr a i z1
    | succ d ih =>
      intro k v1 g1 hd h1 hj hfr
      have hS : g1 49 13 = Sn b n w := by rw [hfr _ _ (by omega)]; exact hC.S
      refine b130_2 ⟨fun _ => ⟨by omega, fun g2 e2 => ⟨rgI (by omega) (by omega), ?_⟩⟩, fun c => absurd (by omega) c⟩
      rw [toNat_eq h1] at e2
      refine ih (k + 1) _ g2 (by omega) (by omega) (fun s hs => ?_) (fun a i z1 => by rw [e2]; (simp (disch := omega) only [up_at, up_ne]); exact hfr a i z1)
      rw [e2]
      by_cases c : s = k
      · rw [c]; (simp (disch := omega) only [up_at, up_ne]); rw [hfr _ _ (by omega)]; exact hh k (by omega)
      · (simp (disch := omega) only [up_at, up_ne]); exact hj s (by omega)
  exact b130 (key (Sn b n w) 0 0 g (by omega) rfl (fun s hs => by omega) (fun _ _ _ => rfl))
end HEARN
