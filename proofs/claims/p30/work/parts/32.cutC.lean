/-! the component's Cut: a word's syllables -/
section CUTC
variable {E : am_E} {g : GG} {fl : FF} {Q : GG → FF → Prop}
theorem nucleusSize_ok {Q : Int → GG → FF → Prop} {w : Nat → Int} {i e n : Nat} {v1 v2 v3 : Int} (h1 : v1 = i) (h2 : v2 = e) (h3 : v3 = w 0) (hi : i < e) (he : e ≤ n) (hn : n ≤ 60) (h : Q (wid (nz (g 1) n) w e i) g fl) : cI E 69 [amR 1, amI v1, amI v2, amI v3] g fl Q := by
  have r0 : rd g 1 60 v1 = nz (g 1) n i := by rw [rd_in h1 (by omega), nz_in (by omega)]
  refine b69 ⟨rgI (by omega) (by omega), fun c => ?_, fun c => ?_⟩
  · have r1 : rd g 1 60 (v1 + 1) = nz (g 1) n (i + 1) := by rw [rd_in (k := i + 1) (by omega) (by omega), nz_in (by omega)]
    rw [r0, r1]
    unfold wid at h
    refine ⟨fun c1 => ⟨fun c2 => ?_, fun c2 => ⟨fun c3 => ?_, fun c3 => ?_⟩⟩, fun c1 => ?_⟩
    · rw [if_pos ⟨by omega, Or.inr ⟨by omega, Or.inl c2⟩⟩] at h; exact h
    · rw [if_pos ⟨by omega, Or.inr ⟨by omega, Or.inr c3⟩⟩] at h; exact h
    · by_cases c4 : nz (g 1) n (i + 1) = nz (g 1) n i
      · rw [if_pos c4]; rw [if_pos ⟨by omega, Or.inl c4.symm⟩] at h; exact h
      · rw [if_neg c4]; rw [if_neg (by intro z; rcases z.2 with z | z; exact c4 z.symm; rcases z.2 with z | z; exact c2 z; exact c3 z)] at h; exact h
    · by_cases c4 : nz (g 1) n (i + 1) = nz (g 1) n i
      · rw [if_pos c4]; rw [if_pos ⟨by omega, Or.inl c4.symm⟩] at h; exact h
      · rw [if_neg c4]; rw [if_neg (by intro z; rcases z.2 with z | z; exact c4 z.symm; exact c1 (by omega))] at h; exact h
  · unfold wid at h
    rw [if_neg (by omega)] at h
    exact h
theorem beginSyllable_ok {S : Nat} {v1 v2 : Int} (hS : g 11 11 = S) (h60 : S < 60)
    (h : ∀ g' : GG, g' 17 S = g 11 10 → g' 18 S = v1 → g' 20 S = v2 → g' 11 11 = S + 1 → (∀ a i, ¬ ((a = 17 ∨ a = 18 ∨ a = 20) ∧ i = S) → ¬ (a = 11 ∧ i = 11) → g' a i = g a i) → Q g' fl) : cV E 70 [amR 11, amI v1, amI v2] g fl Q := by
  refine b70 (fun g1 e1 g2 e2 g3 e3 => ?_)
  rw [wr_in hS h60] at e1
  have a1 : g1 11 11 = S := by rw [e1, up_ne (by omega)]; exact hS
  rw [wr_in a1 h60] at e2
  have a2 : g2 11 11 = S := by rw [e2, up_ne (by omega)]; exact a1
  rw [wr_in a2 h60] at e3
  have a3 : g3 11 11 = S := by rw [e3, up_ne (by omega)]; exact a2
  refine ⟨rgI (by omega) (by omega), fun g4 e4 => h g4 ?_ ?_ ?_ ?_ ?_⟩
  · rw [e4, up_ne (by omega), e3, up_ne (by omega), e2, up_ne (by omega), e1, up_at]
  · rw [e4, up_ne (by omega), e3, up_ne (by omega), e2, up_at]
  · rw [e4, up_ne (by omega), e3, up_at]
  · rw [e4, up_at, a3]
  · intro a i h1 h2
    rw [e4, up_ne (by omega), e3, up_ne (by omega), e2, up_ne (by omega), e1, up_ne (by omega)]
theorem endSyllable_ok {S : Nat} {v1 v2 v3 : Int} (hS : g 11 11 = S + 1) (h60 : S < 60) (hr : -1000 ≤ g 20 S ∧ g 20 S ≤ 1000) (hv : -1000 ≤ v2 ∧ v2 ≤ 1000) (hv3 : -1000 ≤ v3 ∧ v3 ≤ 1000)
    (h : ∀ g' : GG, g' 19 S = v1 → g' 20 S = g 20 S + (if v2 < v3 then v2 else v3) → (∀ a i, ¬ ((a = 19 ∨ a = 20) ∧ i = S) → g' a i = g a i) → Q g' fl) : cV E 71 [amR 11, amI v1, amI v2, amI v3] g fl Q := by
  refine b71 ⟨rgI (by omega) (by omega), fun g1 e1 => ?_⟩
  rw [wr_in (k := S) (by omega) h60] at e1
  have r1 : rd g1 20 60 (g 11 11 - 1) = g 20 S := by rw [rd_in (k := S) (by omega) h60, e1, up_ne (by omega)]
  rw [r1]
  have hm : -1000 ≤ (if v2 < v3 then v2 else v3) ∧ (if v2 < v3 then v2 else v3) ≤ 1000 := by split <;> omega
  refine ⟨rgI (by omega) (by omega), fun g2 e2 => ?_⟩
  rw [wr_in (k := S) (by omega) h60] at e2
  refine h g2 ?_ ?_ ?_
  · rw [e2, up_ne (by omega), e1, up_at]
  · rw [e2, up_at]
  · intro a i h1
    rw [e2, up_ne (by omega), e1, up_ne (by omega)]
/-- what the first j syllables of the word k are in the component's rows, the last of them not ended -/
def CwJ (b : Nat → Int) (n : Nat) (w : Nat → Int) (k B j : Nat) (g : GG) : Prop :=
  (∀ t, t < j → g 17 (B + t) = k ∧ g 18 (B + t) = frK b n w k t)
  ∧ (∀ t, t + 1 < j → g 19 (B + t) = frK b n w k (t + 1) ∧ g 20 (B + t) = wiS b n w k t + min (frK b n w k (t + 1) - (npS b n w k t + wiS b n w k t)) (w 2).toNat)
  ∧ (0 < j → g 20 (B + (j - 1)) = wiS b n w k (j - 1))
/-- ways within their bounds -/
def waysOK (w : Nat → Int) : Prop := (w 0 = 0 ∨ w 0 = 1) ∧ (w 1 = 1 ∨ w 1 = 2) ∧ (0 ≤ w 2 ∧ w 2 ≤ 2) ∧ (0 ≤ w 3 ∧ w 3 ≤ 2) ∧ (0 ≤ w 4 ∧ w 4 ≤ 2) ∧ (w 5 = 0 ∨ w 5 = 1) ∧ (w 6 = 0 ∨ w 6 = 1) ∧ (0 ≤ w 7 ∧ w 7 ≤ 2) ∧ (0 ≤ w 8 ∧ w 8 ≤ 3)
theorem frK_le {b : Nat → Int} {n : Nat} {w : Nat → Int} {k t : Nat} (h : npS b n w k t + wiS b n w k t ≤ npS b n w k (t + 1)) : npS b n w k t + wiS b n w k t ≤ frK b n w k (t + 1) ∧ frK b n w k (t + 1) ≤ npS b n w k (t + 1) := by
  show _ ≤ npS b n w k (t + 1) - min (w 1).toNat (npS b n w k (t + 1) - (npS b n w k t + wiS b n w k t)) ∧ npS b n w k (t + 1) - min (w 1).toNat (npS b n w k (t + 1) - (npS b n w k t + wiS b n w k t)) ≤ _
  omega
theorem npS_next {b : Nat → Int} {n : Nat} {w : Nat → Int} {k t : Nat} (h : npS b n w k t < wt b n k) : npS b n w k (t + 1) = fv b (wt b n k) (npS b n w k t + wiS b n w k t) := by
  show (if np b w (wf b n k) (wt b n k) t < wt b n k then _ else _) = _
  exact if_pos h
theorem nuc_last {b : Nat → Int} {n : Nat} {w : Nat → Int} {k t : Nat} (hp : wf b n k ≤ wt b n k) (h : npS b n w k t < wt b n k) : isV (b (npS b n w k t + wiS b n w k t - 1)) := by
  have h1 : isV (b (npS b n w k t)) := np_isV hp t h
  unfold wiS wid
  split
  · rename_i c
    rw [show npS b n w k t + 2 - 1 = npS b n w k t + 1 by omega]
    rcases c.2 with c | ⟨-, c | c⟩
    · rw [← c]; exact h1
    · rw [c]; simp [isV]
    · rw [c]; simp [isV]
  · rw [show npS b n w k t + 1 - 1 = npS b n w k t by omega]
    exact h1
/-- the loop over a word's letters -/
theorem addWord_loop {n k B : Nat} {g0 : GG} {b : Nat → Int} {w : Nat → Int} (hn : n ≤ 60) (hb : b = nz (g0 1) n) (hw : w = g0 2) (hwo : waysOK w) (hk : k < 30) (hpe : wf b n k < wt b n k) (hen : wt b n k ≤ n) (hB : B ≤ wf b n k) (hk0 : g0 11 10 = k) (hnc0 : 0 < nc b n w k)
    (h : ∀ g' : GG, g' 11 10 = k + 1 → g' 11 11 = B + nc b n w k → g' 15 k = nc b n w k → (∀ t, t < nc b n w k → g' 17 (B + t) = k ∧ g' 18 (B + t) = frK b n w k t ∧ g' 19 (B + t) = toK b n w k t ∧ g' 20 (B + t) = moK b n w k t) →
      (∀ a i, ¬ (a = 11 ∧ (i = 10 ∨ i = 11)) → ¬ (a = 15 ∧ i = k) → ¬ ((a = 17 ∨ a = 18 ∨ a = 19 ∨ a = 20) ∧ B ≤ i) → g' a i = g0 a i) → Q g' fl) :
    ∀ (f i j : Nat) (v2 v3 v5 v6 v7 : Int) (g : GG) (u : Nat), i + f = wt b n k → v2 = wf b n k → v3 = wt b n k → v5 = B → v6 = u → v7 = i → g 11 11 = B + j →
      (∀ t, t < j → npS b n w k t < wt b n k) → (if j = 0 then u = wf b n k else u = npS b n w k (j - 1) + wiS b n w k (j - 1)) → u ≤ wt b n k → wf b n k ≤ i → fv b (wt b n k) (max i u) = npS b n w k j →
      CwJ b n w k B j g → (∀ a x, ¬ (a = 11 ∧ x = 11) → ¬ ((a = 17 ∨ a = 18 ∨ a = 19 ∨ a = 20) ∧ B ≤ x) → g a x = g0 a x) →
      am_X E 68 (26, (0, 0), [some (amR 11), some (amR 1), some (amI v2), some (amI v3), some (amR 2), some (amI v5), some (amI v6), some (amI v7), none, none], [], mk g fl) (RV Q) := by
  have hwo2 := hwo
  obtain ⟨w0, w1, w2, w3, -⟩ := hwo2
  intro f
  induction f with
  | zero =>
    intro i j v2 v3 v5 v6 v7 g u hf e2 e3 e5 e6 e7 hS hnp hu hue hpi hfv hJ hfr
    have hie : i = wt b n k := by omega
    rw [Nat.max_eq_left (by omega), hie, fv_end (Nat.le_refl _)] at hfv
    have hnc : nc b n w k = j := nc_of (by omega) (by omega) hnp hfv.symm
    have hrow1 : g 1 = g0 1 := by funext x; exact hfr 1 x (by omega) (by omega)
    have hrow2 : g 2 = g0 2 := by funext x; exact hfr 2 x (by omega) (by omega)
    have hj0 : 0 < j := by omega
    rw [if_neg (by omega)] at hu
    obtain ⟨J1, J2, J3⟩ := hJ
    have J3 := J3 hj0
    have hBj : B + j ≤ 60 := by
      have h9 := np_ge (b := b) (w := w) (p := wf b n k) (e := wt b n k) (by omega) (j - 1) (hnp (j - 1) (by omega))
      have h8 := hnp (j - 1) (by omega)
      unfold npS at h8
      omega
    have hwi := wid_12 (b := b) (w := w) (e := wt b n k) (i := npS b n w k (j - 1))
    have hwi2 : wiS b n w k (j - 1) = 1 ∨ wiS b n w k (j - 1) = 2 := hwi
    have hto : toK b n w k (j - 1) = wt b n k := by
      unfold toK
      rw [if_pos (by omega)]
    have r3 : rd g 2 9 3 = w 3 := by rw [rd_in (i := 3) (k := 3) rfl (by omega), hrow2, hw]
    have r2 : rd g 2 9 2 = w 2 := by rw [rd_in (i := 2) (k := 2) rfl (by omega), hrow2, hw]
    have tail : ∀ (L : Int), L = bhK b n w k (j - 1) → cV E 71 [amR 11, amI v3, amI L, amI (rd g 2 9 2)] g fl (fun g3 f3 => am_rg (g3 11 11 - v5) ∧ ∀ g4 : GG, g4 = wr g3 15 30 (g3 11 10) (g3 11 11 - v5) → am_rg (g4 11 10 + 1) ∧ ∀ g5 : GG, g5 = am_up g4 11 10 (g4 11 10 + 1) → Q g5 f3) := by
      intro L hL
      have hbh : bhK b n w k (j - 1) ≤ 60 := by
        unfold bhK
        rw [hto]
        dsimp only
        split <;> omega
      refine endSyllable_ok (S := B + (j - 1)) (by omega) (by omega) (by omega) (by omega) (by omega) (fun g3 q1 q2 q3 => ?_)
      have s11 : g3 11 11 = B + j := by rw [q3 _ _ (by omega)]; exact hS
      have s10 : g3 11 10 = k := by rw [q3 _ _ (by omega), hfr _ _ (by omega) (by omega)]; exact hk0
      refine ⟨rgI (by omega) (by omega), fun g4 e4 => ?_⟩
      rw [wr_in s10 hk] at e4
      have s10b : g4 11 10 = k := by rw [e4, up_ne (by omega)]; exact s10
      refine ⟨rgI (by omega) (by omega), fun g5 e5' => h g5 ?_ ?_ ?_ ?_ ?_⟩
      · rw [e5', up_at, s10b]
      · rw [e5', up_ne (by omega), e4, up_ne (by omega), s11, hnc]
      · rw [e5', up_ne (by omega), e4, up_at, s11, hnc]; omega
      · intro t ht
        rw [hnc] at ht
        have x17 : g5 17 (B + t) = g 17 (B + t) := by rw [e5', up_ne (by omega), e4, up_ne (by omega), q3 _ _ (by omega)]
        have x18 : g5 18 (B + t) = g 18 (B + t) := by rw [e5', up_ne (by omega), e4, up_ne (by omega), q3 _ _ (by omega)]
        have x19 : g5 19 (B + t) = g3 19 (B + t) := by rw [e5', up_ne (by omega), e4, up_ne (by omega)]
        have x20 : g5 20 (B + t) = g3 20 (B + t) := by rw [e5', up_ne (by omega), e4, up_ne (by omega)]
        rw [x17, x18, x19, x20]
        refine ⟨(J1 t ht).1, (J1 t ht).2, ?_⟩
        by_cases htj : t = j - 1
        · subst htj
          rw [q1, q2, hto, J3, r2, hL]
          refine ⟨e3, ?_⟩
          show _ = ((wiS b n w k (j - 1) + min (bhK b n w k (j - 1)) (w 2).toNat : Nat) : Int)
          split <;> omega
        · rw [q3 _ _ (by omega), q3 _ _ (by omega)]
          obtain ⟨y1, y2⟩ := J2 t (by omega)
          have hne : ¬ (t + 1 = nc b n w k) := by omega
          have ht2 : toK b n w k t = frK b n w k (t + 1) := by unfold toK; rw [if_neg hne]
          rw [y1, y2, ht2]
          refine ⟨rfl, ?_⟩
          unfold moK bhK
          dsimp only
          rw [if_neg (by omega), ht2]
          omega
      · intro a x z1 z2 z3
        rw [e5', up_ne (by omega), e4, up_ne (by omega), q3 _ _ (by omega), hfr _ _ (by omega) (by omega)]
    have hd : (v3 - v6) = ((wt b n k - u : Nat) : Int) := by omega
    refine b68_26 ⟨fun c => absurd c (by omega), fun _ => ⟨fun c1 => ?_, fun c1 => ?_⟩⟩
    · rw [r3] at c1
      have r1 : rd g 1 60 (v3 - 1) = b (wt b n k - 1) := by rw [rd_in (k := wt b n k - 1) (by omega) (by omega), hrow1, hb, nz_in (by rw [← hb]; omega)]
      have hb01 : b01 (¬ isV (rd g 1 60 (v3 - 1))) = if 0 < wt b n k - u then 1 else 0 := by
        rw [r1]
        by_cases hd0 : 0 < wt b n k - u
        · rw [if_pos hd0, b01_t]
          refine fv_no (b := b) (e := wt b n k) (i := u) (by omega) ?_
          have h9 := npS_next (b := b) (n := n) (w := w) (k := k) (t := j - 1) (hnp (j - 1) (by omega))
          rw [show j - 1 + 1 = j by omega, ← hu, ← hfv] at h9
          omega
        · rw [if_neg hd0, b01_f]
          intro hnv
          have h9 := nuc_last (b := b) (n := n) (w := w) (k := k) (t := j - 1) (by omega) (hnp (j - 1) (by omega))
          rw [← hu, show u = wt b n k by omega] at h9
          exact hnv h9
      have hv01 := b01_01 (¬ isV (rd g 1 60 (v3 - 1)))
      refine ⟨rgI (by omega) (by omega), rgI (by omega) (by omega), rgI (by omega) (by omega), tail _ ?_⟩
      rw [hb01, hd]
      unfold bhK
      rw [hto, ← hu]
      dsimp only
      by_cases hd0 : 0 < wt b n k - u
      · rw [if_pos hd0, if_pos ⟨c1, by omega, hd0⟩]; omega
      · rw [if_neg hd0, if_neg (by omega)]; omega
    · rw [r3] at c1
      refine ⟨rgI (by omega) (by omega), rgI (by omega) (by omega), tail _ ?_⟩
      rw [hd]
      unfold bhK
      rw [hto, ← hu]
      dsimp only
      rw [if_neg (by omega)]
      omega
  | succ f ih =>
    intro i j v2 v3 v5 v6 v7 g u hf e2 e3 e5 e6 e7 hS hnp hu hue hpi hfv hJ hfr
    have hrow1 : g 1 = g0 1 := by funext x; exact hfr 1 x (by omega) (by omega)
    have hrow2 : g 2 = g0 2 := by funext x; exact hfr 2 x (by omega) (by omega)
    have r1 : rd g 1 60 v7 = b i := by rw [rd_in e7 (by omega), hrow1, hb, nz_in (by omega)]
    have rw1 : rd g 2 9 1 = w 1 := by rw [rd_in (i := 1) (k := 1) rfl (by omega), hrow2, hw]
    have rw2 : rd g 2 9 2 = w 2 := by rw [rd_in (i := 2) (k := 2) rfl (by omega), hrow2, hw]
    refine b68_26 ⟨fun _ => ⟨fun c1 => ⟨rgI (by omega) (by omega), ?_⟩, fun c1 => ?_⟩, fun c => absurd (by omega) c⟩
    · refine ih (i + 1) j v2 v3 v5 v6 (v7 + 1) g u (by omega) e2 e3 e5 e6 (by omega) hS hnp hu hue (by omega) ?_ hJ hfr
      rw [Nat.max_eq_right (by omega)] at hfv ⊢
      exact hfv
    rw [Nat.max_eq_left (by omega)] at hfv
    rw [r1]
    refine ⟨fun c2 => ?_, fun c2 => ⟨rgI (by omega) (by omega), ?_⟩⟩
    · rw [fv_yes (by omega) c2] at hfv
      have hnj : npS b n w k j < wt b n k := by omega
      have hwid : wiS b n w k j = wid b w (wt b n k) i := by unfold wiS; rw [← hfv]
      have hw12 := wid_12 (b := b) (w := w) (e := wt b n k) (i := i)
      have hwle := wid_le (b := b) (w := w) (e := wt b n k) (i := i) (by omega)
      have hnext := npS_next hnj
      have hji : wf b n k + j ≤ i := by
        have h9 := np_ge (b := b) (w := w) (p := wf b n k) (e := wt b n k) (by omega) j hnj
        have h8 : np b w (wf b n k) (wt b n k) j = i := hfv.symm
        omega
      -- behind the new syllable
      have go : ∀ (g1 : GG) (bg : Int), bg = frK b n w k j → g1 11 11 = B + j → g1 1 = g0 1 → g1 2 = g0 2 →
          (∀ t, t < j → g1 17 (B + t) = k ∧ g1 18 (B + t) = frK b n w k t) → (∀ t, t < j → g1 19 (B + t) = frK b n w k (t + 1) ∧ g1 20 (B + t) = wiS b n w k t + min (frK b n w k (t + 1) - (npS b n w k t + wiS b n w k t)) (w 2).toNat) →
          (∀ a x, ¬ (a = 11 ∧ x = 11) → ¬ ((a = 17 ∨ a = 18 ∨ a = 19 ∨ a = 20) ∧ B ≤ x) → g1 a x = g0 a x) →
          cI E 69 [amR 1, amI v7, amI v3, amI (rd g1 2 9 0)] g1 fl (fun x6 g6 f6 => cV E 70 [amR 11, amI bg, amI x6] g6 f6 (fun g7 f7 => am_rg (v7 + x6) ∧ am_rg (v7 + 1) ∧ am_X E 68 (26, (0, 0), [some (amR 11), some (amR 1), some (amI v2), some (amI v3), some (amR 2), some (amI v5), some (amI (v7 + x6)), some (amI (v7 + 1)), none, none], [], mk g7 f7) (RV Q))) := by
        intro g1 bg hbg s11 y1 y2 J1 J2 hfr1
        have hbb : nz (g1 1) n = b := by rw [y1, hb]
        refine nucleusSize_ok (w := w) (i := i) (e := wt b n k) (n := n) e7 e3 (by rw [rd_in (i := 0) (k := 0) rfl (by omega), y2, hw]) (by omega) hen hn ?_
        rw [hbb]
        refine beginSyllable_ok (S := B + j) (by omega) (by omega) (fun g7 q17 q18 q20 q11 qf => ?_)
        refine ⟨rgI (by omega) (by omega), rgI (by omega) (by omega), ?_⟩
        refine ih (i + 1) (j + 1) v2 v3 v5 _ (v7 + 1) g7 (i + wid b w (wt b n k) i) (by omega) e2 e3 e5 (by omega) (by omega) (by omega) ?_ ?_ (by omega) (by omega) ?_ ⟨?_, ?_, ?_⟩ ?_
        · intro t ht
          by_cases htj : t = j
          · subst htj; exact hnj
          · exact hnp t (by omega)
        · rw [if_neg (by omega), show j + 1 - 1 = j by omega, hwid]; omega
        · rw [Nat.max_eq_right (by omega), hnext, hwid, ← hfv]
        · intro t ht
          by_cases htj : t = j
          · subst htj
            rw [q17, q18, hfr1 _ _ (by omega) (by omega)]
            exact ⟨hk0, hbg⟩
          · rw [qf _ _ (by omega) (by omega), qf _ _ (by omega) (by omega)]
            exact J1 t (by omega)
        · intro t ht
          rw [qf _ _ (by omega) (by omega), qf _ _ (by omega) (by omega)]
          exact J2 t (by omega)
        · intro _
          rw [show j + 1 - 1 = j by omega, q20, hwid]
        · intro a x z1 z2
          rw [qf _ _ (by omega) (by omega), hfr1 _ _ z1 z2]
      obtain ⟨J1, J2, J3⟩ := hJ
      refine ⟨fun c3 => ?_, fun c3 => ?_⟩
      · -- a syllable has not ended: it ends
        have hj0 : 0 < j := by omega
        rw [if_neg (by omega)] at hu
        have J3 := J3 hj0
        have hwi2 : wiS b n w k (j - 1) = 1 ∨ wiS b n w k (j - 1) = 2 := wid_12
        have hnu : npS b n w k (j - 1) + wiS b n w k (j - 1) ≤ npS b n w k (j - 1 + 1) := by rw [show j - 1 + 1 = j by omega]; omega
        have hfl := frK_le hnu
        rw [show j - 1 + 1 = j by omega] at hfl
        have hbg : v7 - (if v7 - v6 < w 1 then v7 - v6 else w 1) = (frK b n w k j : Int) := by
          obtain ⟨j', rfl⟩ : ∃ j', j = j' + 1 := ⟨j - 1, by omega⟩
          show _ = ((npS b n w k (j' + 1) - min (w 1).toNat (npS b n w k (j' + 1) - (npS b n w k j' + wiS b n w k j')) : Nat) : Int)
          rw [show j' + 1 - 1 = j' by omega] at hu
          rw [← hfv, ← hu]
          split <;> omega
        rw [rw1, rw2, hbg]
        refine ⟨rgI (by omega) (by omega), rgI (by omega) (by omega), rgI (by omega) (by omega), ?_⟩
        refine endSyllable_ok (S := B + (j - 1)) (by omega) (by omega) (by omega) (by omega) (by omega) (fun g5 q1 q2 q3 => ?_)
        refine go g5 _ rfl (by rw [q3 _ _ (by omega)]; exact hS) (by funext x; rw [q3 _ _ (by omega), hrow1]) (by funext x; rw [q3 _ _ (by omega), hrow2]) ?_ ?_ ?_
        · intro t ht
          rw [q3 _ _ (by omega), q3 _ _ (by omega)]
          exact J1 t ht
        · intro t ht
          by_cases htj : t = j - 1
          · subst htj
            rw [q1, q2, J3, show j - 1 + 1 = j by omega]
            refine ⟨rfl, ?_⟩
            split <;> omega
          · rw [q3 _ _ (by omega), q3 _ _ (by omega)]
            exact J2 t (by omega)
        · intro a x z1 z2
          rw [q3 _ _ (by omega)]
          exact hfr a x z1 z2
      · have hj0 : j = 0 := by omega
        subst hj0
        exact go g v2 e2 hS hrow1 hrow2 (fun t ht => by omega) (fun t ht => by omega) hfr
    · rw [fv_step (by omega) c2] at hfv
      refine ih (i + 1) j v2 v3 v5 v6 (v7 + 1) g u (by omega) e2 e3 e5 e6 (by omega) hS hnp hu hue (by omega) ?_ hJ hfr
      rw [Nat.max_eq_left (by omega)]
      exact hfv
/-- a whole word -/
theorem addWord_ok {n k B : Nat} {g : GG} {b : Nat → Int} {w : Nat → Int} {v2 v3 : Int} (hn : n ≤ 60) (hb : b = nz (g 1) n) (hw : w = g 2) (hwo : waysOK w) (hkW : k < Wn b n) (hB : B = fs b n w k) (hk0 : g 11 10 = k) (hS : g 11 11 = B) (e2 : v2 = wf b n k) (e3 : v3 = wt b n k)
    (h : ∀ g' : GG, g' 11 10 = k + 1 → g' 11 11 = fs b n w (k + 1) → g' 12 k = wf b n k → g' 13 k = wt b n k → g' 14 k = fs b n w k → g' 15 k = nc b n w k → (∀ t, t < nc b n w k → g' 17 (B + t) = k ∧ g' 18 (B + t) = frK b n w k t ∧ g' 19 (B + t) = toK b n w k t ∧ g' 20 (B + t) = moK b n w k t) →
      (∀ a i, ¬ (a = 11 ∧ (i = 10 ∨ i = 11)) → ¬ ((a = 12 ∨ a = 13 ∨ a = 14 ∨ a = 15) ∧ i = k) → ¬ ((a = 17 ∨ a = 18 ∨ a = 19 ∨ a = 20) ∧ B ≤ i) → g' a i = g a i) → Q g' fl) : cV E 68 [amR 11, amR 1, amI v2, amI v3, amR 2] g fl Q := by
  obtain ⟨f1, f2, f3, f4, f5, -, -⟩ := word_in (b := b) hn hkW
  have hnc := nc_word (w := w) hn hkW
  have hfs := (fs_le (w := w) hn k (by omega)).1 hkW
  refine b68 (fun g1 e1 g2 e2' g3 e3' => ?_)
  rw [wr_in hk0 f2] at e1
  have s1 : g1 11 10 = k := by rw [e1, up_ne (by omega)]; exact hk0
  rw [wr_in s1 f2] at e2'
  have s2 : g2 11 10 = k := by rw [e2', up_ne (by omega)]; exact s1
  rw [wr_in s2 f2] at e3'
  have s3 : g3 11 10 = k := by rw [e3', up_ne (by omega)]; exact s2
  have t3 : g3 11 11 = B := by rw [e3', up_ne (by omega), e2', up_ne (by omega), e1, up_ne (by omega)]; exact hS
  have fr3 : ∀ a i, ¬ ((a = 12 ∨ a = 13 ∨ a = 14) ∧ i = k) → g3 a i = g a i := by
    intro a i z
    rw [e3', up_ne (by omega), e2', up_ne (by omega), e1, up_ne (by omega)]
  have y1 : g3 1 = g 1 := by funext x; exact fr3 1 x (by omega)
  have y2 : g3 2 = g 2 := by funext x; exact fr3 2 x (by omega)
  have hfs1 : fs b n w (k + 1) = fs b n w k + nc b n w k := rfl
  rw [t3]
  refine addWord_loop (g0 := g3) (b := b) (w := w) (n := n) (k := k) (B := B) hn (by rw [y1]; exact hb) (by rw [y2]; exact hw) hwo f2 f4 f5 (by omega) s3 hnc.1 (fun g' q1 q2 q3 q4 qf => h g' q1 (by omega) ?_ ?_ ?_ q3 q4 ?_)
    (wt b n k - wf b n k) (wf b n k) 0 v2 v3 B v2 v2 g3 (wf b n k) (by omega) e2 e3 rfl e2 e2 (by omega) (fun t ht => by omega) (by simp) (by omega) (Nat.le_refl _) ?_ ⟨fun t ht => by omega, fun t ht => by omega, fun z => by omega⟩ (fun a x _ _ => rfl)
  · rw [qf _ _ (by omega) (by omega) (by omega), e3', up_ne (by omega), e2', up_ne (by omega), e1, up_at]; exact e2
  · rw [qf _ _ (by omega) (by omega) (by omega), e3', up_ne (by omega), e2', up_at]; exact e3
  · rw [qf _ _ (by omega) (by omega) (by omega), e3', up_at, e2', up_ne (by omega), e1, up_ne (by omega), hS, hB]
  · intro a i z1 z2 z3
    rw [qf _ _ (by omega) (by omega) (by omega), fr3 _ _ (by omega)]
  · rw [Nat.max_self]
    rfl
end CUTC
