/-! the reference's counts, NEAR, NEAREST -/
def KM (g g' : GG) : Prop := ∀ a i, ¬ (a = 49 ∧ (i = 6 ∨ i = 13 ∨ (22 ≤ i ∧ i ≤ 26))) → ¬ (53 ≤ a ∧ a ≤ 62) → ¬ (66 ≤ a ∧ a ≤ 68) → g' a i = g a i
theorem KM.refl {g : GG} : KM g g := fun _ _ _ _ _ => rfl
theorem KM.trans {g g1 g2 : GG} (h : KM g g1) (h2 : KM g1 g2) : KM g g2 := fun a i z1 z2 z3 => by rw [h2 a i z1 z2 z3]; exact h a i z1 z2 z3
section NEARM
variable {E : am_E} {g : GG} {fl : FF} {b : Nat → Int} {n : Nat} {w : Nat → Int} {mk' : Nat → Int} {td : Nat → Int} {N : Nat} {T : Nat → List Int} {P : Nat → Int} {Q : Int → GG → FF → Prop}
theorem RB.km {g' : GG} (h : RB n N T P g) (hk : KM g g') : RB n N T P g' := h.keep (fun a i z => hk a i (by omega) (by omega) (by omega))
theorem KM.bb {g' : GG} (hk : KM g g') (hb : b = nz (g 50) n) : b = nz (g' 50) n := by rw [hb]; congr 1; funext x; exact (hk _ _ (by omega) (by omega) (by omega)).symm
theorem KM.ww {g' : GG} (hk : KM g g') (hw : w = g 51) : w = g' 51 := by rw [hw]; funext x; exact (hk _ _ (by omega) (by omega) (by omega)).symm
theorem KM.tt {g' : GG} (hk : KM g g') (ht : g 52 = td) : g' 52 = td := by rw [← ht]; funext x; exact hk _ _ (by omega) (by omega) (by omega)
theorem findsAll_km {Q : GG → FF → Prop} (hR : RB n N T P g) (hb : b = nz (g 50) n) (hw : w = g 51) (hm : mk' = mkS T P N b n) (h : ∀ g' : GG, FA b n w mk' g' → KM g g' → Q g' fl) : cV E 131 [amR 49] g fl Q :=
  findsAll_ok hR hb hw hm (fun g' h1 h2 => h g' h1 (fun a i z1 z2 z3 => h2 a i (by omega) (by omega) (by omega)))
theorem heardMany_ok (hn : n ≤ 60) (hI : HI (Sn b n w) (loS b n w) (hiS b n w) (heP b n w mk').1) (hF : FA b n w mk' g) (h1 : Q (hnA b n w mk' : Nat) g fl) : cI E 147 [amR 49] g fl Q := by
  have hSl := Sn_le (b := b) (w := w) hn
  have hS := hF.x.c.S
  have key : ∀ (f j : Nat) (v1 v2 : Int), j + f = Sn b n w → v2 = j → v1 = (ctB (fun s => (heP b n w mk').1 s ≠ 0) j : Nat) → am_X E 147 (4, (0, 0), [some (amR 49), some (amI v1), some (amI v2)], [], mk g fl) (RI Q) := by
    intro f
    induction f with
    | zero =>
      intro j v1 v2 hj h2 h3
      have : j = Sn b n w := by omega
      subst this
      exact b147_4 ⟨fun c => absurd c (by omega), fun _ => by rw [h3]; exact h1⟩
    | succ f ih =>
      intro j v1 v2 hj h2 h3
      have hc := ctB_le (p := fun s => (heP b n w mk').1 s ≠ 0) j
      have e : g 67 (Int.toNat v2) = (heP b n w mk').1 j := by rw [toNat_eq h2]; exact hF.he j (by omega)
      have hv := hI.v j (by omega)
      refine b147_4 ⟨fun _ => ⟨by omega, ?_⟩, fun c => absurd (by omega) c⟩
      rw [e]
      by_cases c : (heP b n w mk').1 j ≠ 0
      · rw [b01_t (by omega)]
        exact ⟨rgI (by omega) (by omega), rgI (by omega) (by omega), ih (j + 1) _ _ (by omega) (by omega) (by rw [ctB_s, if_pos c]; omega)⟩
      · rw [b01_f (by omega)]
        exact ⟨rgI (by omega) (by omega), rgI (by omega) (by omega), ih (j + 1) _ _ (by omega) (by omega) (by rw [ctB_s, if_neg c]; omega)⟩
  exact b147 (key (Sn b n w) 0 0 0 (by omega) rfl rfl)
theorem nearLoop_ok (hn : n ≤ 60) (hF : FA b n w mk' g) (ht : g 52 = td) (h1 : Q (nrA b n w mk' td : Nat) g fl) : am_X E 149 (6, (0, 0), [some (amR 49), some (amI 0), some (amI 0)], [], mk g fl) (RI Q) := by
  have hSl := Sn_le (b := b) (w := w) hn
  have hS := hF.x.c.S
  have key : ∀ (f j : Nat) (v1 v2 : Int), j + f = Sn b n w → v2 = j → v1 = (ctB (fun s => (heP b n w mk').1 s = td s) j : Nat) → am_X E 149 (6, (0, 0), [some (amR 49), some (amI v1), some (amI v2)], [], mk g fl) (RI Q) := by
    intro f
    induction f with
    | zero =>
      intro j v1 v2 hj h2 h3
      have : j = Sn b n w := by omega
      subst this
      exact b149_6 ⟨fun c => absurd c (by omega), fun _ => by rw [h3]; exact h1⟩
    | succ f ih =>
      intro j v1 v2 hj h2 h3
      have hc := ctB_le (p := fun s => (heP b n w mk').1 s = td s) j
      have e : g 67 (Int.toNat v2) = (heP b n w mk').1 j := by rw [toNat_eq h2]; exact hF.he j (by omega)
      have e2 : g 52 (Int.toNat v2) = td j := by rw [toNat_eq h2, ht]
      refine b149_6 ⟨fun _ => ⟨by omega, ?_⟩, fun c => absurd (by omega) c⟩
      rw [e, e2]
      by_cases c : (heP b n w mk').1 j = td j
      · rw [b01_t c]
        exact ⟨rgI (by omega) (by omega), rgI (by omega) (by omega), ih (j + 1) _ _ (by omega) (by omega) (by rw [ctB_s, if_pos c]; omega)⟩
      · rw [b01_f c]
        exact ⟨rgI (by omega) (by omega), rgI (by omega) (by omega), ih (j + 1) _ _ (by omega) (by omega) (by rw [ctB_s, if_neg c]; omega)⟩
  exact key (Sn b n w) 0 0 0 (by omega) rfl rfl
theorem nearNow_ok (hR : RB n N T P g) (hb : b = nz (g 50) n) (hw : w = g 51) (hm : mk' = mkS T P N b n) (ht : g 52 = td)
    (h : ∀ g' : GG, FA b n w mk' g' → KM g g' → Q (nrA b n w mk' td : Nat) g' fl) : cI E 149 [amR 49] g fl Q :=
  b149 (findsAll_km hR hb hw hm (fun g' h1 h2 => nearLoop_ok hR.n60 h1 (h2.tt ht) (h g' h1 h2)))
theorem wc_4 {c : Nat} : wc w c 4 = ((c / 12 : Nat) : Int) := rfl
theorem wc_5 {c : Nat} : wc w c 5 = ((c / 6 % 2 : Nat) : Int) := rfl
theorem wc_6 {c : Nat} : wc w c 6 = ((c / 3 % 2 : Nat) : Int) := rfl
theorem wc_7 {c : Nat} : wc w c 7 = ((c % 3 : Nat) : Int) := rfl
theorem wc_o {c i : Nat} (h4 : i ≠ 4) (h5 : i ≠ 5) (h6 : i ≠ 6) (h7 : i ≠ 7) : wc w c i = w i := by unfold wc; rw [if_neg h4, if_neg h5, if_neg h6, if_neg h7]
theorem takes_ok {Q : GG → FF → Prop} {c : Nat} {v1 : Int} (h1 : v1 = c) (hc : c < 36) (h : ∀ g' : GG, g' 51 = wc (g 51) c → (∀ a i, a ≠ 51 → g' a i = g a i) → Q g' fl) : cV E 151 [amR 49, amI v1] g fl Q := by
  refine b151 ⟨by omega, fun g1 e1 => ⟨by omega, by omega, fun g2 e2 => ⟨by omega, by omega, fun g3 e3 g4 e4 => h g4 ?_ (fun a i z => by rw [e4, e3, e2, e1]; (simp (disch := omega) only [up_at, up_ne]))⟩⟩⟩
  funext i
  by_cases c4 : i = 4
  · subst c4; rw [wc_4, e4, e3, e2, e1]; (simp (disch := omega) only [up_at, up_ne]); omega
  · by_cases c5 : i = 5
    · subst c5; rw [wc_5, e4, e3, e2, e1]; (simp (disch := omega) only [up_at, up_ne]); omega
    · by_cases c6 : i = 6
      · subst c6; rw [wc_6, e4, e3, e2, e1]; (simp (disch := omega) only [up_at, up_ne]); omega
      · by_cases c7 : i = 7
        · subst c7; rw [wc_7, e4, e3, e2, e1]; (simp (disch := omega) only [up_at, up_ne]); omega
        · rw [wc_o c4 c5 c6 c7, e4, e3, e2, e1]; (simp (disch := omega) only [up_at, up_ne])
theorem wc_wc {c c' : Nat} : wc (wc w c') c = wc w c := by
  funext i
  by_cases c4 : i = 4
  · subst c4; rfl
  · by_cases c5 : i = 5
    · subst c5; rfl
    · by_cases c6 : i = 6
      · subst c6; rfl
      · by_cases c7 : i = 7
        · subst c7; rfl
        · rw [wc_o c4 c5 c6 c7, wc_o c4 c5 c6 c7, wc_o c4 c5 c6 c7]
def cdW (w : Nat → Int) : Nat := (12 * w 4 + 6 * w 5 + 3 * w 6 + w 7).toNat
theorem wc_cd (hwo : waysOK w) : cdW w < 36 ∧ wc w (cdW w) = w ∧ (12 * w 4 + 6 * w 5 + 3 * w 6 + w 7 = (cdW w : Nat)) := by
  obtain ⟨a0, a1, a2, a3, a4, a5, a6, a7, a8⟩ := hwo
  have hc : 12 * w 4 + 6 * w 5 + 3 * w 6 + w 7 = (cdW w : Nat) := by unfold cdW; omega
  refine ⟨by omega, ?_, hc⟩
  generalize cdW w = c at hc
  funext i
  by_cases c4 : i = 4
  · subst c4; rw [wc_4]; omega
  · by_cases c5 : i = 5
    · subst c5; rw [wc_5]; omega
    · by_cases c6 : i = 6
      · subst c6; rw [wc_6]; omega
      · by_cases c7 : i = 7
        · subst c7; rw [wc_7]; omega
        · exact wc_o c4 c5 c6 c7
theorem codeNow_ok (hwo : waysOK w) (hw : w = g 51) (h1 : Q (cdW w : Nat) g fl) : cI E 152 [amR 49] g fl Q := by
  obtain ⟨c1, c2, c3⟩ := wc_cd hwo
  obtain ⟨a0, a1, a2, a3, a4, a5, a6, a7, a8⟩ := hwo
  refine b152 ?_
  rw [← hw]
  refine ⟨rgI (by omega) (by omega), rgI (by omega) (by omega), rgI (by omega) (by omega), rgI (by omega) (by omega), rgI (by omega) (by omega), rgI (by omega) (by omega), ?_⟩
  rw [c3]; exact h1
def nsA (b : Nat → Int) (n : Nat) (w : Nat → Int) (mk' td : Nat → Int) : Int × Int := nsF (fun c => nrA b n (wc w c) mk' td) 36
theorem nearestCode_ok (hR : RB n N T P g) (hb : b = nz (g 50) n) (hw : w = g 51) (hm : mk' = mkS T P N b n) (ht : g 52 = td)
    (h : ∀ g' : GG, FA b n w mk' g' → KM g g' → g' 49 24 = (nsA b n w mk' td).2 → Q (nsA b n w mk' td).1 g' fl) : cI E 153 [amR 49] g fl Q := by
  have hwo : waysOK w := hR.hwo hw
  obtain ⟨c1, c2, c3⟩ := wc_cd hwo
  have hn := hR.n60
  have key : ∀ (f j : Nat) (v2 v3 v4 : Int) (g1 : GG) (w1 : Nat → Int), j + f = 36 → v4 = j → v2 = (nsF (fun c => nrA b n (wc w c) mk' td) j).1 → v3 = (nsF (fun c => nrA b n (wc w c) mk' td) j).2 → g1 51 = w1 → waysOK w1 → (∀ c, wc w1 c = wc w c) → RB n N T P g1 → b = nz (g1 50) n → g1 52 = td → (∀ a i, a ≠ 51 → ¬ (a = 49 ∧ (i = 6 ∨ i = 13 ∨ (22 ≤ i ∧ i ≤ 26))) → ¬ (53 ≤ a ∧ a ≤ 62) → ¬ (66 ≤ a ∧ a ≤ 68) → g1 a i = g a i) →
      am_X E 153 (9, (0, 0), [some (amR 49), some (amI (cdW w : Nat)), some (amI v2), some (amI v3), some (amI v4), none], [], mk g1 fl) (RI Q) := by
    intro f
    induction f with
    | zero =>
      intro j v2 v3 v4 g1 w1 hj h4 h2 h3 hw1 hwo1 hc1 hR1 hb1 ht1 hfr
      have : j = 36 := by omega
      subst this
      refine b153_9 ⟨fun c => absurd c (by omega), fun _ => takes_ok rfl c1 (fun g2 q1 q2 => ?_)⟩
      have hw2 : w = g2 51 := by rw [q1, hw1, hc1, c2]
      have hR2 : RB n N T P g2 := ⟨hn, by rw [q2 _ _ (by omega)]; exact hR1.gn, by rw [← hw2]; exact hwo, hR1.lx.keep (fun a i z => q2 a i (by omega)), hR1.lt⟩
      have hb2 : b = nz (g2 50) n := by rw [hb1]; congr 1; funext x; exact (q2 _ _ (by omega)).symm
      refine findsAll_km hR2 hb2 hw2 hm (fun g3 F3 k3 g4 e4 => ?_)
      rw [h2]
      refine h g4 (F3.keep (fun a i z => by rw [e4]; (simp (disch := omega) only [up_at, up_ne]))) (fun a i z1 z2 z3 => ?_) (by rw [e4]; (simp (disch := omega) only [up_at, up_ne]); exact h3)
      rw [e4]; (simp (disch := omega) only [up_at, up_ne])
      by_cases c : a = 51
      · subst c
        rw [k3 _ _ (by omega) (by omega) (by omega), ← hw2, hw]
      · rw [k3 a i z1 z2 z3, q2 a i c]; exact hfr a i c z1 z2 z3
    | succ f ih =>
      intro j v2 v3 v4 g1 w1 hj h4 h2 h3 hw1 hwo1 hc1 hR1 hb1 ht1 hfr
      refine b153_9 ⟨fun _ => takes_ok h4 (by omega) (fun g2 q1 q2 => ?_), fun c => absurd (by omega) c⟩
      have hw2 : wc w j = g2 51 := by rw [q1, hw1, hc1]
      have hwo2 : waysOK (wc w j) := wc_ok hwo (by omega)
      have hR2 : RB n N T P g2 := ⟨hn, by rw [q2 _ _ (by omega)]; exact hR1.gn, by rw [← hw2]; exact hwo2, hR1.lx.keep (fun a i z => q2 a i (by omega)), hR1.lt⟩
      have hb2 : b = nz (g2 50) n := by rw [hb1]; congr 1; funext x; exact (q2 _ _ (by omega)).symm
      have ht2 : g2 52 = td := by rw [← ht1]; funext x; exact q2 _ _ (by omega)
      refine nearNow_ok hR2 hb2 hw2 hm ht2 (fun g3 F3 k3 => ⟨rgI (by omega) (by omega), ?_⟩)
      refine ih (j + 1) _ _ _ g3 (wc w j) (by omega) (by omega) ?_ ?_ (k3.ww hw2).symm hwo2 (fun c => wc_wc) (hR2.km k3) (k3.bb hb2) (k3.tt ht2) (fun a i z z1 z2 z3 => by rw [k3 a i z1 z2 z3, q2 a i z]; exact hfr a i z z1 z2 z3)
      · rw [nsF_s, ← h3, h4]
        by_cases c : v3 < (nrA b n (wc w j) mk' td : Nat)
        · rw [if_pos c, if_pos c]
        · rw [if_neg c, if_neg c]; exact h2
      · rw [nsF_s, ← h3]
        by_cases c : v3 < (nrA b n (wc w j) mk' td : Nat)
        · rw [if_pos c, if_pos c]
        · rw [if_neg c, if_neg c]; exact h3
  exact b153 (codeNow_ok hwo hw (key 36 0 _ _ 0 g w (by omega) rfl rfl rfl hw.symm hwo (fun _ => rfl) hR hb ht (fun _ _ _ _ _ _ => rfl)))
def nstA (p : Int × Int) (x : Int) : Int := if x = 0 then p.1 / 12 else if x = 1 then p.1 / 6 % 2 else if x = 2 then p.1 / 3 % 2 else if x = 3 then p.1 % 3 else p.2
theorem nsA_in : 0 ≤ (nsA b n w mk' td).1 ∧ (nsA b n w mk' td).1 < 36 ∧ ∃ k : Nat, k < 36 ∧ (nsA b n w mk' td).1 = k ∧ (nsA b n w mk' td).2 = nrA b n (wc w k) mk' td := nsF_in (by omega)
theorem nearestBy_ok (hR : RB n N T P g) (hb : b = nz (g 50) n) (hw : w = g 51) (hm : mk' = mkS T P N b n) (ht : g 52 = td) {v1 : Int} (hv : 0 ≤ v1 ∧ v1 ≤ 4)
    (h : ∀ g' : GG, FA b n w mk' g' → KM g g' → Q (nstA (nsA b n w mk' td) v1) g' fl) : cI E 154 [amR 49, amI v1] g fl Q := by
  obtain ⟨n1, n2, -⟩ := nsA_in (b := b) (n := n) (w := w) (mk' := mk') (td := td)
  refine b154 (nearestCode_ok hR hb hw hm ht (fun g' F' k' e' => ?_))
  have h := h g' F' k'
  unfold nstA at h
  refine ⟨fun c => ⟨by omega, ?_⟩, fun c => ⟨by omega, by omega, ?_⟩, fun c => ⟨by omega, by omega, ?_⟩, fun c => ⟨by omega, ?_⟩, fun c => ?_⟩
  · rw [if_pos c] at h; exact h
  · rw [if_neg (by omega), if_pos c] at h; exact h
  · rw [if_neg (by omega), if_neg (by omega), if_pos c] at h; exact h
  · rw [if_neg (by omega), if_neg (by omega), if_neg (by omega), if_pos c] at h; exact h
  · rw [if_neg (by omega), if_neg (by omega), if_neg (by omega), if_neg (by omega)] at h; rw [e']; exact h
theorem heavyMany_ok (hn : n ≤ 60) (hwo : waysOK w) (hF : FA b n w mk' g) (h1 : Q (hvA b n w : Nat) g fl) : cI E 157 [amR 49] g fl Q := by
  have hSl := Sn_le (b := b) (w := w) hn
  have hS := hF.x.c.S
  have key : ∀ (f j : Nat) (v1 v2 : Int), j + f = Sn b n w → v2 = j → v1 = (ctB (fun s => 2 ≤ moS b n w s) j : Nat) → am_X E 157 (4, (0, 0), [some (amR 49), some (amI v1), some (amI v2)], [], mk g fl) (RI Q) := by
    intro f
    induction f with
    | zero =>
      intro j v1 v2 hj h2 h3
      have : j = Sn b n w := by omega
      subst this
      exact b157_4 ⟨fun c => absurd c (by omega), fun _ => by rw [h3]; exact h1⟩
    | succ f ih =>
      intro j v1 v2 hj h2 h3
      have hc := ctB_le (p := fun s => 2 ≤ moS b n w s) j
      refine b157_4 ⟨fun _ => isHeavyM_ok hn hwo hF.x h2 (by omega) ?_, fun c => absurd (by omega) c⟩
      by_cases c : 2 ≤ moS b n w j
      · rw [if_pos c, b01_t (by omega)]
        exact ⟨rgI (by omega) (by omega), rgI (by omega) (by omega), ih (j + 1) _ _ (by omega) (by omega) (by rw [ctB_s, if_pos c]; omega)⟩
      · rw [if_neg c, b01_f (by omega)]
        exact ⟨rgI (by omega) (by omega), rgI (by omega) (by omega), ih (j + 1) _ _ (by omega) (by omega) (by rw [ctB_s, if_neg c]; omega)⟩
  exact b157 (key (Sn b n w) 0 0 0 (by omega) rfl rfl)
theorem morasAll_ok (hn : n ≤ 60) (hwo : waysOK w) (hI : HI (Sn b n w) (loS b n w) (hiS b n w) (heP b n w mk').1) (hF : FA b n w mk' g) {v1 : Int} (h0 : v1 = 0 → Q (maA b n w : Nat) g fl) (h1 : v1 ≠ 0 → Q (mhA b n w mk' : Nat) g fl) : cI E 158 [amR 49, amI v1] g fl Q := by
  have hSl := Sn_le (b := b) (w := w) hn
  have hS := hF.x.c.S
  have key : ∀ (F : Nat → Nat), (∀ s, s < Sn b n w → F s ≤ 4) → (v1 = 0 → ∀ s, s < Sn b n w → F s = moS b n w s) → (v1 ≠ 0 → ∀ s, s < Sn b n w → F s = if (heP b n w mk').1 s ≠ 0 then moS b n w s else 0) → Q (smF F (Sn b n w) : Nat) g fl → ∀ (f j : Nat) (v2 v3 : Int), j + f = Sn b n w → v3 = j → v2 = (smF F j : Nat) → am_X E 158 (4, (0, 0), [some (amR 49), some (amI v1), some (amI v2), some (amI v3)], [], mk g fl) (RI Q) := by
    intro F hF4 hF0 hF1 hq f
    induction f with
    | zero =>
      intro j v2 v3 hj h2 h3
      have : j = Sn b n w := by omega
      subst this
      exact b158_4 ⟨fun c => absurd c (by omega), fun _ => by rw [h3]; exact hq⟩
    | succ f ih =>
      intro j v2 v3 hj h2 h3
      have hc := smF_const (f := F) (c := 4) (n := j) (fun k hk => hF4 k (by omega))
      have hm := mo_S hn hwo (s := j) (b := b) (w := w) (by omega)
      have e : g 67 (Int.toNat v3) = (heP b n w mk').1 j := by rw [toNat_eq h2]; exact hF.he j (by omega)
      have hv := hI.v j (by omega)
      have nxt : ∀ x : Int, x = (F j : Nat) → am_rg (v2 + x) ∧ am_rg (v3 + 1) ∧ am_X E 158 (4, (0, 0), [some (amR 49), some (amI v1), some (amI (v2 + x)), some (amI (v3 + 1))], [], mk g fl) (RI Q) := by
        intro x hx
        have := hF4 j (by omega)
        exact ⟨rgI (by omega) (by omega), rgI (by omega) (by omega), ih (j + 1) _ _ (by omega) (by omega) (by rw [smF_s]; omega)⟩
      refine b158_4 ⟨fun _ => ⟨fun c => ?_, fun c => ⟨by omega, fun c2 => ?_, fun c2 => ?_⟩⟩, fun c => absurd (by omega) c⟩
      · subst h2
        exact morasOf_ok hn hF.x.w hwo hF.x.c (by omega) (nxt _ (by rw [hF0 c j (by omega)]))
      · rw [e] at c2
        subst h2
        refine morasOf_ok hn hF.x.w hwo hF.x.c (by omega) (nxt _ ?_)
        rw [hF1 c j (by omega), if_pos (by omega)]
      · rw [e] at c2
        refine nxt 0 ?_
        rw [hF1 c j (by omega), if_neg (by omega)]; rfl
  refine b158 ?_
  by_cases c : v1 = 0
  · exact key (moS b n w) (fun s hs => (mo_S hn hwo hs).2.1) (fun _ s _ => rfl) (fun y => absurd c y) (h0 c) (Sn b n w) 0 0 0 (by omega) rfl rfl
  · refine key (fun s => if (heP b n w mk').1 s ≠ 0 then moS b n w s else 0) (fun s hs => ?_) (fun y => absurd y c) (fun _ s _ => rfl) (h1 c) (Sn b n w) 0 0 0 (by omega) rfl rfl
    have := (mo_S hn hwo hs).2.1
    show (if _ then _ else _ : Nat) ≤ 4
    split <;> omega
end NEARM
