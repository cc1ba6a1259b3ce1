/-! the reference's mark and unmark -/
def KL (g g' : GG) : Prop := ∀ a i, ¬ (a = 49 ∧ (i = 6 ∨ i = 13 ∨ i = 19 ∨ (22 ≤ i ∧ i ≤ 26))) → ¬ (53 ≤ a ∧ a ≤ 68) → g' a i = g a i
theorem KM.kl {g g' : GG} (h : KM g g') : KL g g' := fun a i z1 z2 => h a i (by omega) (by omega) (by omega)
theorem KL.trans {g g1 g2 : GG} (h : KL g g1) (h2 : KL g1 g2) : KL g g2 := fun a i z1 z2 => by rw [h2 a i z1 z2]; exact h a i z1 z2
section MARKM
variable {E : am_E} {g : GG} {fl : FF} {b : Nat → Int} {n : Nat} {w : Nat → Int} {mk' : Nat → Int} {td : Nat → Int} {N : Nat} {T : Nat → List Int} {P : Nat → Int} {Q : Int → GG → FF → Prop}
theorem markM_ok {v1 v2 : Int} (hR : RM b n w mk' td N T P g)
    (h0 : ¬ (0 ≤ v1 ∧ v1 < Wn b n ∧ 0 ≤ v2 ∧ v2 < nc b n w v1.toNat) → ∀ g' : GG, KL g g' → LX 63 64 65 49 19 N T P g' → Q (-2) g' fl)
    (h4 : ∀ k : Nat, v1 = k → k < Wn b n → 0 ≤ v2 → v2 < nc b n w k → N = 6 → (∀ i, i < N → T i ≠ wtx b n k) → ∀ g' : GG, KL g g' → LX 63 64 65 49 19 N T P g' → Q (-4) g' fl)
    (h1 : ∀ k m : Nat, v1 = k → k < Wn b n → 0 ≤ v2 → v2 < nc b n w k → m < N → T m = wtx b n k → ∀ g' : GG, KL g g' → LX 63 64 65 49 19 N T (fup P m v2) g' → Q (N : Nat) g' fl)
    (h9 : ∀ k : Nat, v1 = k → k < Wn b n → 0 ≤ v2 → v2 < nc b n w k → N < 6 → (∀ i, i < N → T i ≠ wtx b n k) → ∀ g' : GG, KL g g' → LX 63 64 65 49 19 (N + 1) (fup T N (wtx b n k)) (fup P N v2) g' → Q ((N + 1 : Nat) : Int) g' fl) : cI E 139 [amR 49, amI v1, amI v2] g fl Q := by
  have hn := hR.rb.n60
  have n6 := hR.rb.lt.n6
  have hWl := Wn_le (b := b) (n := n) hn
  have hSl := Sn_le (b := b) (w := w) hn
  refine b139 (isWordM_ok hR (fun g1 F1 k1 r1 c => ⟨fun y => absurd y (by omega), fun _ => ?_⟩) (fun g1 F1 k1 r1 c => ⟨fun _ => h0 (fun y => c ⟨y.1, y.2.1⟩) g1 k1.kl r1.rb.lx, fun y => absurd rfl y⟩))
  obtain ⟨k, hk⟩ : ∃ k : Nat, v1 = k := ⟨v1.toNat, by omega⟩
  have hkW : k < Wn b n := by omega
  have hkt : v1.toNat = k := by omega
  have hfs1 : fs b n w (k + 1) = fs b n w k + nc b n w k := rfl
  have hfm : fs b n w (k + 1) ≤ fs b n w (Wn b n) := fs_mono (by omega)
  have hSn : Sn b n w = fs b n w (Wn b n) := rfl
  have e1 : g1 55 (Int.toNat v1) = fs b n w k := by rw [hkt]; exact F1.x.c.wF k (by omega)
  have e2 : g1 55 (Int.toNat (v1 + 1)) = fs b n w (k + 1) := by rw [toNat_eq (x := v1 + 1) (k := k + 1) (by omega)]; exact F1.x.c.wF (k + 1) (by omega)
  rw [e1, e2]
  refine ⟨rgI (by omega) (by omega), by omega, by omega, rgI (by omega) (by omega), rgI (by omega) (by omega), fun c2 => ?_, fun c2 => h0 (fun y => c2 ⟨y.2.2.1, by have := y.2.2.2; rw [hkt] at this; omega⟩) g1 k1.kl r1.rb.lx⟩
  refine markOf_ok hn r1.eb r1.rb.lx r1.rb.lt F1.x.c hk hkW (fun x hx => ⟨fun cx => ⟨fun c6 => ?_, fun c6 => ?_⟩, fun cx => ?_⟩)
  · rcases hx with ⟨m, m1, m2, m3⟩ | ⟨m1, m2⟩
    · omega
    · exact h4 k hk hkW c2.1 (by omega) (by have := r1.rb.lx.s; omega) m2 g1 k1.kl r1.rb.lx
  · rcases hx with ⟨m, m1, m2, m3⟩ | ⟨m1, m2⟩
    · omega
    · have hs := r1.rb.lx.s
      obtain ⟨f1, f2, f3, f4, f5, -, -⟩ := word_in (b := b) hn hkW
      refine ⟨rgI (by omega) (by omega), fun g7 e7 => ⟨by omega, ?_⟩⟩
      have e54 : g7 54 (Int.toNat v1) = wt b n k := by rw [hkt, e7]; (simp (disch := omega) only [up_at, up_ne]); exact F1.x.c.wE k hkW
      have e53 : g7 53 (Int.toNat v1) = wf b n k := by rw [hkt, e7]; (simp (disch := omega) only [up_at, up_ne]); exact F1.x.c.wS k hkW
      rw [e54, e53, hs]
      refine ⟨rgI (by omega) (by omega), by omega, fun g8 e8 => ?_⟩
      rw [Int.toNat_natCast] at e8
      obtain ⟨l, hl⟩ : ∃ l, l = wt b n k - wf b n k := ⟨_, rfl⟩
      have key : ∀ (f j : Nat) (v4 : Int) (g2 : GG), j + f = l → v4 = j → (∀ p, p < 360 → g2 63 p = if 60 * N ≤ p ∧ p < 60 * N + j then g1 50 (wf b n k + (p - 60 * N)) else g1 63 p) → (∀ a i, ¬ (a = 63) → ¬ (a = 64 ∧ i = N) → ¬ (a = 49 ∧ i = 19) → g2 a i = g1 a i) → g2 64 N = (l : Nat) → g2 49 19 = ((N + 1 : Nat) : Int) → am_X E 139 (63, (0, 0), [some (amR 49), some (amI v1), some (amI v2), some (amI (N : Nat)), some (amI v4)], [], mk g2 fl) (RI Q) := by
        intro f
        induction f with
        | zero =>
          intro j v4 g2 hj h4' hp hfr h64 h19
          refine b139_63 ⟨by omega, fun cc => absurd cc (by rw [Int.toNat_natCast, h64]; omega), fun _ g3 e3 => ?_⟩
          rw [Int.toNat_natCast] at e3
          have e19 : g3 49 19 = ((N + 1 : Nat) : Int) := by rw [e3]; (simp (disch := omega) only [up_at, up_ne]); exact h19
          rw [e19]
          refine h9 k hk hkW c2.1 (by omega) (by omega) m2 g3 (fun a i z1 z2 => ?_) ⟨e19, fun q hq => ?_, fun q hq => ?_⟩
          · rw [e3]; (simp (disch := omega) only [up_at, up_ne]); rw [hfr a i (by omega) (by omega) (by omega)]; exact k1.kl a i z1 z2
          · by_cases cq : q = N
            · subst cq
              refine ⟨l, by omega, by rw [e3]; (simp (disch := omega) only [up_at, up_ne]); exact h64, ?_⟩
              rw [fup_at, wtx_of hn r1.eb hkW, ← hl]
              refine tx_eq.2 ⟨rfl, fun i hi => ?_⟩
              rw [e3]; (simp (disch := omega) only [up_at, up_ne])
              rw [hp _ (by omega), if_pos (by omega), show 60 * q + i - 60 * q = i by omega]
            · obtain ⟨lm, l1, l2, l3⟩ := r1.rb.lx.l q (by omega)
              refine ⟨lm, l1, by rw [e3]; (simp (disch := omega) only [up_at, up_ne]); rw [hfr _ _ (by omega) (by omega) (by omega)]; exact l2, ?_⟩
              rw [fup_ne cq, l3]
              refine tx_eq.2 ⟨rfl, fun i hi => ?_⟩
              rw [e3]; (simp (disch := omega) only [up_at, up_ne])
              rw [hp _ (by omega), if_neg (by omega)]
          · by_cases cq : q = N
            · rw [cq, fup_at, e3]; (simp (disch := omega) only [up_at, up_ne])
            · rw [fup_ne cq, e3]; (simp (disch := omega) only [up_at, up_ne]); rw [hfr _ _ (by omega) (by omega) (by omega)]; exact r1.rb.lx.p q (by omega)
        | succ f ih =>
          intro j v4 g2 hj h4' hp hfr h64 h19
          have e53' : g2 53 (Int.toNat v1) = wf b n k := by rw [hkt, hfr _ _ (by omega) (by omega) (by omega)]; exact F1.x.c.wS k hkW
          refine b139_63 ⟨by omega, fun _ => ?_, fun cc => absurd (by rw [Int.toNat_natCast, h64]; omega) cc⟩
          rw [e53']
          refine ⟨rgI (by omega) (by omega), rgI (by omega) (by omega), by omega, rgI (by omega) (by omega), by omega, by omega, fun g3 e3 => ⟨rgI (by omega) (by omega), ?_⟩⟩
          rw [toNat_eq (x := 60 * (N : Int) + v4) (k := 60 * N + j) (by omega), toNat_eq (x := (wf b n k : Int) + v4) (k := wf b n k + j) (by omega), hfr 50 _ (by omega) (by omega) (by omega)] at e3
          refine ih (j + 1) _ g3 (by omega) (by omega) (fun p hp2 => ?_) (fun a i z1 z2 z3 => by rw [e3]; (simp (disch := omega) only [up_at, up_ne]); exact hfr a i z1 z2 z3) (by rw [e3]; (simp (disch := omega) only [up_at, up_ne]); exact h64) (by rw [e3]; (simp (disch := omega) only [up_at, up_ne]); exact h19)
          rw [e3]
          by_cases cp : p = 60 * N + j
          · rw [cp]; (simp (disch := omega) only [up_at, up_ne]); rw [if_pos (by omega), show 60 * N + j - 60 * N = j by omega]
          · (simp (disch := omega) only [up_at, up_ne]); rw [hp p hp2]
            by_cases cq : 60 * N ≤ p ∧ p < 60 * N + j
            · rw [if_pos cq, if_pos (by omega)]
            · rw [if_neg cq, if_neg (by omega)]
      refine key l 0 0 g8 (by omega) rfl (fun p hp => ?_) (fun a i z1 z2 z3 => by rw [e8, e7]; (simp (disch := omega) only [up_at, up_ne])) (by rw [e8]; (simp (disch := omega) only [up_at, up_ne]); omega) (by rw [e8, e7]; (simp (disch := omega) only [up_at, up_ne]); omega)
      rw [if_neg (by omega), e8, e7]; (simp (disch := omega) only [up_at, up_ne])
  · rcases hx with ⟨m, m1, m2, m3⟩ | ⟨m1, m2⟩
    · refine ⟨by omega, fun g6 e6 => ?_⟩
      rw [toNat_eq m3] at e6
      have e19 : g6 49 19 = (N : Nat) := by rw [e6]; (simp (disch := omega) only [up_at, up_ne]); exact r1.rb.lx.s
      rw [e19]
      refine h1 k m hk hkW c2.1 (by omega) m1 m2 g6 (fun a i z1 z2 => by rw [e6]; (simp (disch := omega) only [up_at, up_ne]); exact k1.kl a i z1 z2) ⟨e19, fun q hq => ?_, fun q hq => ?_⟩
      · obtain ⟨lm, l1, l2, l3⟩ := r1.rb.lx.l q hq
        refine ⟨lm, l1, by rw [e6]; (simp (disch := omega) only [up_at, up_ne]); exact l2, ?_⟩
        rw [l3]; exact tx_eq.2 ⟨rfl, fun i hi => by rw [e6]; (simp (disch := omega) only [up_at, up_ne])⟩
      · by_cases cq : q = m
        · rw [cq, fup_at, e6]; (simp (disch := omega) only [up_at, up_ne])
        · rw [fup_ne cq, e6]; (simp (disch := omega) only [up_at, up_ne]); exact r1.rb.lx.p q hq
    · exact absurd m1 cx
theorem unmarkM_ok {v1 : Int} (hR : RM b n w mk' td N T P g)
    (h0 : ¬ (0 ≤ v1 ∧ v1 < Wn b n) → ∀ g' : GG, KL g g' → LX 63 64 65 49 19 N T P g' → Q (-2) g' fl)
    (h3 : ∀ k : Nat, v1 = k → k < Wn b n → (∀ i, i < N → T i ≠ wtx b n k) → ∀ g' : GG, KL g g' → LX 63 64 65 49 19 N T P g' → Q (-3) g' fl)
    (h1 : ∀ k m : Nat, v1 = k → k < Wn b n → m < N → T m = wtx b n k → ∀ g' : GG, KL g g' → LX 63 64 65 49 19 (N - 1) (fsh T m) (fsh P m) g' → Q ((N - 1 : Nat) : Int) g' fl) : cI E 140 [amR 49, amI v1] g fl Q := by
  have hn := hR.rb.n60
  have n6 := hR.rb.lt.n6
  have hWl := Wn_le (b := b) (n := n) hn
  refine b140 (isWordM_ok hR (fun g1 F1 k1 r1 c => ⟨fun y => absurd y (by omega), fun _ => ?_⟩) (fun g1 F1 k1 r1 c => ⟨fun _ => h0 c g1 k1.kl r1.rb.lx, fun y => absurd rfl y⟩))
  obtain ⟨k, hk⟩ : ∃ k : Nat, v1 = k := ⟨v1.toNat, by omega⟩
  have hkW : k < Wn b n := by omega
  have hs := r1.rb.lx.s
  refine markOf_ok hn r1.eb r1.rb.lx r1.rb.lt F1.x.c hk hkW (fun x hx => ⟨fun cx => ?_, fun cx => ?_⟩)
  · rcases hx with ⟨m, m1, m2, m3⟩ | ⟨m1, m2⟩
    · omega
    · exact h3 k hk hkW m2 g1 k1.kl r1.rb.lx
  · rcases hx with ⟨m, m1, m2, m3⟩ | ⟨m1, m2⟩
    · rw [m3, hs]
      refine ⟨rgI (by omega) (by omega), fun g5 e5 => ?_⟩
      -- the rows behind move one on
      have key : ∀ (f j : Nat) (v3 : Int) (g2 : GG), j + f = N - 1 → m ≤ j → v3 = j → (∀ p, p < 360 → g2 63 p = if 60 * m ≤ p ∧ p < 60 * j then g1 63 (p + 60) else g1 63 p) → (∀ i, i < 6 → g2 64 i = if m ≤ i ∧ i < j then g1 64 (i + 1) else g1 64 i) → (∀ i, i < 6 → g2 65 i = if m ≤ i ∧ i < j then g1 65 (i + 1) else g1 65 i) → (∀ a i, ¬ (a = 63) → ¬ (a = 64) → ¬ (a = 65) → ¬ (a = 49 ∧ i = 19) → g2 a i = g1 a i) → g2 49 19 = ((N - 1 : Nat) : Int) → am_X E 140 (23, (0, 0), [some (amR 49), some (amI v1), some (amI (m : Nat)), some (amI v3), none], [], mk g2 fl) (RI Q) := by
        intro f
        induction f with
        | zero =>
          intro j v3 g2 hj hmj h3' hp h64 h65 hfr h19
          have hjN : j = N - 1 := by omega
          refine b140_23 ⟨fun cc => absurd cc (by omega), fun _ => ?_⟩
          rw [h19]
          refine h1 k m hk hkW m1 m2 g2 (fun a i z1 z2 => by rw [hfr a i (by omega) (by omega) (by omega) (by omega)]; exact k1.kl a i z1 z2) ⟨h19, fun q hq => ?_, fun q hq => ?_⟩
          · by_cases cq : q < m
            · obtain ⟨lm, l1, l2, l3⟩ := r1.rb.lx.l q (by omega)
              refine ⟨lm, l1, by rw [h64 q (by omega), if_neg (by omega)]; exact l2, ?_⟩
              unfold fsh
              rw [if_pos cq, l3]
              exact tx_eq.2 ⟨rfl, fun i hi => by rw [hp _ (by omega), if_neg (by omega)]⟩
            · obtain ⟨lm, l1, l2, l3⟩ := r1.rb.lx.l (q + 1) (by omega)
              refine ⟨lm, l1, by rw [h64 q (by omega), if_pos (by omega)]; exact l2, ?_⟩
              unfold fsh
              rw [if_neg cq, l3]
              exact tx_eq.2 ⟨rfl, fun i hi => by rw [hp _ (by omega), if_pos (by omega), show 60 * q + i + 60 = 60 * (q + 1) + i by omega]⟩
          · unfold fsh
            by_cases cq : q < m
            · rw [if_pos cq, h65 q (by omega), if_neg (by omega)]; exact r1.rb.lx.p q (by omega)
            · rw [if_neg cq, h65 q (by omega), if_pos (by omega)]; exact r1.rb.lx.p (q + 1) (by omega)
        | succ f ih =>
          intro j v3 g2 hj hmj h3' hp h64 h65 hfr h19
          refine b140_23 ⟨fun _ => ⟨rgI (by omega) (by omega), by omega, by omega, fun g3 e3 g4 e4 => ?_⟩, fun cc => absurd (by omega) cc⟩
          rw [toNat_eq h3', toNat_eq (x := v3 + 1) (k := j + 1) (by omega)] at e3 e4
          have f4 : ∀ a i, ¬ (a = 64 ∧ i = j) → ¬ (a = 65 ∧ i = j) → g4 a i = g2 a i := by intro a i z1 z2; rw [e4, e3]; (simp (disch := omega) only [up_at, up_ne])
          have lets : ∀ (f2 c : Nat) (v4 : Int) (g5 : GG), c + f2 = 60 → v4 = c → (∀ p, p < 360 → g5 63 p = if 60 * m ≤ p ∧ p < 60 * j + c then g1 63 (p + 60) else g1 63 p) → (∀ a i, ¬ (a = 63) → g5 a i = g4 a i) → am_X E 140 (49, (0, 0), [some (amR 49), some (amI v1), some (amI (m : Nat)), some (amI v3), some (amI v4)], [], mk g5 fl) (RI Q) := by
            intro f2
            induction f2 with
            | zero =>
              intro c v4 g5 hc h4' hp5 hf5
              refine b140_49 ⟨fun cc => absurd cc (by omega), fun _ => ⟨rgI (by omega) (by omega), ih (j + 1) _ g5 (by omega) (by omega) (by omega) (fun p hp2 => by rw [hp5 p hp2, show 60 * j + c = 60 * (j + 1) by omega]) (fun i hi => ?_) (fun i hi => ?_) (fun a i z1 z2 z3 z4 => by rw [hf5 a i z1, f4 a i (by omega) (by omega)]; exact hfr a i z1 z2 z3 z4) (by rw [hf5 _ _ (by omega), f4 _ _ (by omega) (by omega)]; exact h19)⟩⟩
              · rw [hf5 _ _ (by omega)]
                by_cases ci : i = j
                · rw [ci, if_pos (by omega), e4, e3]; (simp (disch := omega) only [up_at, up_ne]); rw [h64 (j + 1) (by omega), if_neg (by omega)]
                · rw [f4 _ _ (by omega) (by omega), h64 i hi]
                  by_cases cj : m ≤ i ∧ i < j
                  · rw [if_pos cj, if_pos (by omega)]
                  · rw [if_neg cj, if_neg (by omega)]
              · rw [hf5 _ _ (by omega)]
                by_cases ci : i = j
                · rw [ci, if_pos (by omega), e4, e3]; (simp (disch := omega) only [up_at, up_ne]); rw [h65 (j + 1) (by omega), if_neg (by omega)]
                · rw [f4 _ _ (by omega) (by omega), h65 i hi]
                  by_cases cj : m ≤ i ∧ i < j
                  · rw [if_pos cj, if_pos (by omega)]
                  · rw [if_neg cj, if_neg (by omega)]
            | succ f2 ih2 =>
              intro c v4 g5 hc h4' hp5 hf5
              refine b140_49 ⟨fun _ => ⟨rgI (by omega) (by omega), rgI (by omega) (by omega), rgI (by omega) (by omega), rgI (by omega) (by omega), by omega, by omega, fun g6 e6 => ⟨rgI (by omega) (by omega), ?_⟩⟩, fun cc => absurd (by omega) cc⟩
              rw [toNat_eq (x := 60 * v3 + v4) (k := 60 * j + c) (by omega), toNat_eq (x := 60 * v3 + 60 + v4) (k := 60 * j + c + 60) (by omega), hp5 (60 * j + c + 60) (by omega), if_neg (by omega)] at e6
              refine ih2 (c + 1) _ g6 (by omega) (by omega) (fun p hp2 => ?_) (fun a i z => by rw [e6]; (simp (disch := omega) only [up_at, up_ne]); exact hf5 a i z)
              rw [e6]
              by_cases cp : p = 60 * j + c
              · rw [cp]; (simp (disch := omega) only [up_at, up_ne]); rw [if_pos (by omega)]
              · (simp (disch := omega) only [up_at, up_ne]); rw [hp5 p hp2]
                by_cases cq : 60 * m ≤ p ∧ p < 60 * j + c
                · rw [if_pos cq, if_pos (by omega)]
                · rw [if_neg cq, if_neg (by omega)]
          refine lets 60 0 0 g4 (by omega) rfl (fun p hp2 => ?_) (fun _ _ _ => rfl)
          rw [f4 _ _ (by omega) (by omega), hp p hp2]; rfl
      refine key (N - 1 - m) m _ g5 (by omega) (Nat.le_refl _) rfl (fun p hp => ?_) (fun i hi => ?_) (fun i hi => ?_) (fun a i z1 z2 z3 z4 => by rw [e5]; (simp (disch := omega) only [up_at, up_ne])) (by rw [e5]; (simp (disch := omega) only [up_at, up_ne]); omega)
      · rw [if_neg (by omega), e5]; (simp (disch := omega) only [up_at, up_ne])
      · rw [if_neg (by omega), e5]; (simp (disch := omega) only [up_at, up_ne])
      · rw [if_neg (by omega), e5]; (simp (disch := omega) only [up_at, up_ne])
    · exact absurd m1 cx
end MARKM
