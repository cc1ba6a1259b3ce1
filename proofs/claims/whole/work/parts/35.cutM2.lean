/-! the reference's syllables, on, and their weight -/
section CUTM3
variable {E : am_E} {g : GG} {fl : FF}
theorem nuc_le {b : Nat → Int} {n : Nat} {w : Nat → Int} {k t : Nat} (hn : n ≤ 60) (hk : k < Wn b n) (ht : t + 1 < nc b n w k) : npS b n w k t + wiS b n w k t ≤ npS b n w k (t + 1) ∧ npS b n w k (t + 1) < wt b n k := by
  obtain ⟨-, -, -, f4, f5, -, -⟩ := word_in (b := b) hn hk
  have h1 := nc_word (w := w) hn hk
  have h2 := (h1.2.1 t (by omega)).1
  have h3 := (h1.2.1 (t + 1) ht).1
  have h5 := npS_next h2
  have h6 := (fv_le (b := b) (wid_le (b := b) (w := w) h2)).1
  have h7 : wiS b n w k t = wid b w (wt b n k) (npS b n w k t) := rfl
  rw [← h7, ← h5] at h6
  exact ⟨h6, h3⟩
/-- frS and what lies behind, of the words below K -/
def MsK (b : Nat → Int) (n : Nat) (w : Nat → Int) (K : Nat) (g : GG) : Prop :=
  ∀ k, k < K → g 55 k = fs b n w k ∧ ∀ t, t < nc b n w k → g 56 (fs b n w k + t) = k ∧ g 57 (fs b n w k + t) = frK b n w k t ∧ g 58 (fs b n w k + t) = toK b n w k t ∧ g 59 (fs b n w k + t) = npS b n w k t ∧ g 60 (fs b n w k + t) = wiS b n w k t
theorem sylls_loop {Q : GG → FF → Prop} {n k B : Nat} {g0 : GG} {b : Nat → Int} {w : Nat → Int} (hn : n ≤ 60) (hw : w = g0 51) (hwo : waysOK w) (hkW : k < Wn b n) (hB : B = fs b n w k) (hS0 : g0 49 13 = fs b n w (k + 1)) (hg53 : g0 53 k = wf b n k) (hg54 : g0 54 k = wt b n k) (hg55 : g0 55 k = B) (hM : MwJ b n w k B (nc b n w k) g0)
    (h : ∀ g' : GG, (∀ t, t < nc b n w k → g' 57 (B + t) = frK b n w k t ∧ g' 58 (B + t) = toK b n w k t) → (∀ a i, ¬ ((a = 57 ∨ a = 58) ∧ B ≤ i) → g' a i = g0 a i) → am_X E 110 (7, (0, 0), [some (amR 49), some (amI (k + 1)), none, none, none, none], [], mk g' fl) (RV Q)) :
    ∀ (f j : Nat) (v2 : Int) (g : GG), j + f = nc b n w k → v2 = (B + j : Nat) → (∀ t, t < j → g 57 (B + t) = frK b n w k t ∧ g 58 (B + t) = (if t + 1 = j then wt b n k else frK b n w k (t + 1) : Nat)) → (∀ a i, ¬ ((a = 57 ∨ a = 58) ∧ B ≤ i) → g a i = g0 a i) →
      am_X E 110 (25, (0, 0), [some (amR 49), some (amI k), some (amI v2), none, none, none], [], mk g fl) (RV Q) := by
  have hwo2 := hwo
  obtain ⟨w0, w1, w2, w3, -⟩ := hwo2
  obtain ⟨f1, f2, f3, f4, f5, -, -⟩ := word_in (b := b) hn hkW
  have hnc := nc_word (w := w) hn hkW
  have hfs := (fs_le (w := w) hn k (by omega)).1 hkW
  have hfs1 : fs b n w (k + 1) = fs b n w k + nc b n w k := rfl
  intro f
  induction f with
  | zero =>
    intro j v2 g h0 h2 hr hfr
    have hS : g 49 13 = fs b n w (k + 1) := by rw [hfr _ _ (by omega)]; exact hS0
    refine b110_25 ⟨fun c => absurd c (by omega), fun _ => ⟨rgI (by omega) (by omega), h g (fun t ht => ?_) hfr⟩⟩
    obtain ⟨z1, z2⟩ := hr t (by omega)
    refine ⟨z1, ?_⟩
    rw [z2]
    unfold toK
    by_cases htj : t + 1 = j
    · rw [if_pos htj, if_pos (by omega)]
    · rw [if_neg htj, if_neg (by omega)]
  | succ f ih =>
    intro j v2 g h0 h2 hr hfr
    have hS : g 49 13 = fs b n w (k + 1) := by rw [hfr _ _ (by omega)]; exact hS0
    have e53 : g 53 (Int.toNat (k : Int)) = wf b n k := by rw [Int.toNat_natCast, hfr _ _ (by omega)]; exact hg53
    have e54 : g 54 (Int.toNat (k : Int)) = wt b n k := by rw [Int.toNat_natCast, hfr _ _ (by omega)]; exact hg54
    have e55 : g 55 (Int.toNat (k : Int)) = B := by rw [Int.toNat_natCast, hfr _ _ (by omega)]; exact hg55
    have ew1 : g 51 1 = w 1 := by rw [hfr _ _ (by omega), hw]
    have tv : Int.toNat v2 = B + j := toNat_eq h2
    refine b110_25 ⟨fun _ => ⟨by omega, fun c => ⟨fun c1 => ⟨by omega, by omega, fun g4 e4 g5 e5 => ⟨rgI (by omega) (by omega), ?_⟩⟩, fun c1 => absurd (by omega) c1⟩, fun c => ?_⟩, fun c => absurd (by omega) c⟩
    · have hj0 : j = 0 := by omega
      subst hj0
      rw [e53, tv] at e4
      rw [tv, Int.toNat_natCast] at e5
      have q4 : g4 54 k = wt b n k := by rw [e4]; (simp (disch := omega) only [up_at, up_ne]); rw [hfr _ _ (by omega)]; exact hg54
      rw [q4] at e5
      refine ih 1 (v2 + 1) g5 (by omega) (by omega) (fun t ht => ?_) ?_
      · have ht0 : t = 0 := by omega
        subst ht0
        rw [if_pos rfl, e5, e4]
        (simp (disch := omega) only [up_at, up_ne])
        exact ⟨rfl, trivial⟩
      · intro a i z
        rw [e5, e4]; (simp (disch := omega) only [up_at, up_ne])
        exact hfr a i z
    · have hj0 : 0 < j := by omega
      obtain ⟨j', rfl⟩ : ∃ j', j = j' + 1 := ⟨j - 1, by omega⟩
      have tv1 : Int.toNat (v2 - 1) = B + j' := toNat_eq (by omega)
      have m1 : g 59 (B + (j' + 1)) = npS b n w k (j' + 1) := by rw [hfr _ _ (by omega)]; exact (hM _ (by omega)).2.1
      have m0 : g 59 (B + j') = npS b n w k j' := by rw [hfr _ _ (by omega)]; exact (hM _ (by omega)).2.1
      have l0 : g 60 (B + j') = wiS b n w k j' := by rw [hfr _ _ (by omega)]; exact (hM _ (by omega)).2.2
      have hle := nuc_le (w := w) hn hkW (show j' + 1 < nc b n w k by omega)
      have hfrk : frK b n w k (j' + 1) = npS b n w k (j' + 1) - min (w 1).toNat (npS b n w k (j' + 1) - (npS b n w k j' + wiS b n w k j')) := rfl
      have go : ∀ (g4 g5 g6 : GG) (x : Int), x = frK b n w k (j' + 1) → g4 = am_up g 57 (B + (j' + 1)) x → g5 = am_up g4 58 (B + (j' + 1)) (g4 54 (Int.toNat (k : Int))) → g6 = am_up g5 58 (B + j') (g5 57 (B + (j' + 1))) → am_X E 110 (25, (0, 0), [some (amR 49), some (amI k), some (amI (v2 + 1)), none, none, none], [], mk g6 fl) (RV Q) := by
        intro g4 g5 g6 x hx e4 e5 e6
        have q4 : g4 54 (Int.toNat (k : Int)) = wt b n k := by rw [e4]; (simp (disch := omega) only [up_at, up_ne]); exact e54
        have q5 : g5 57 (B + (j' + 1)) = x := by rw [e5, e4]; (simp (disch := omega) only [up_at, up_ne])
        rw [q4] at e5
        rw [q5] at e6
        refine ih (j' + 1 + 1) (v2 + 1) g6 (by omega) (by omega) (fun t ht => ?_) ?_
        · by_cases ht1 : t = j' + 1
          · subst ht1
            rw [if_pos rfl, e6, e5, e4]
            (simp (disch := omega) only [up_at, up_ne])
            exact ⟨hx, trivial⟩
          · by_cases ht2 : t = j'
            · subst ht2
              rw [if_neg (by omega), e6, e5, e4]
              (simp (disch := omega) only [up_at, up_ne])
              refine ⟨?_, hx⟩
              exact (hr t (by omega)).1
            · rw [if_neg (by omega)]
              have := hr t (by omega)
              rw [if_neg (by omega)] at this
              rw [e6, e5, e4]
              (simp (disch := omega) only [up_at, up_ne])
              exact this
        · intro a i z
          rw [e6, e5, e4]; (simp (disch := omega) only [up_at, up_ne])
          exact hfr a i z
      rw [tv, tv1, m1, m0, l0, ew1]
      refine ⟨by omega, rgI (by omega) (by omega), by omega, rgI (by omega) (by omega), rgI (by omega) (by omega), fun c2 => ⟨rgI (by omega) (by omega), fun g4 e4 => ⟨by omega, fun g5 e5 g6 e6 => ⟨rgI (by omega) (by omega), go g4 g5 g6 _ ?_ e4 e5 e6⟩⟩⟩, fun c2 => ⟨rgI (by omega) (by omega), fun g4 e4 => ⟨by omega, fun g5 e5 g6 e6 => ⟨rgI (by omega) (by omega), go g4 g5 g6 _ ?_ e4 e5 e6⟩⟩⟩⟩
      · rw [hfrk]; omega
      · rw [hfrk]; omega
theorem findsSyllables_loop {Q : GG → FF → Prop} {n : Nat} {g0 : GG} {b : Nat → Int} {w : Nat → Int} (hn : n ≤ 60) (hb : b = nz (g0 50) n) (hw : w = g0 51) (hwo : waysOK w) (hW : g0 49 6 = Wn b n) (hg53 : ∀ k, k < Wn b n → g0 53 k = wf b n k) (hg54 : ∀ k, k < Wn b n → g0 54 k = wt b n k)
    (h : ∀ g' : GG, g' 49 13 = Sn b n w → g' 55 (Wn b n) = Sn b n w → MsK b n w (Wn b n) g' → (∀ a i, ¬ (a = 49 ∧ i = 13) → ¬ (55 ≤ a ∧ a ≤ 60) → g' a i = g0 a i) → Q g' fl) :
    ∀ (f k : Nat) (v1 : Int) (g : GG), k + f = Wn b n → v1 = k → g 49 13 = fs b n w k → MsK b n w k g → (∀ a i, ¬ (a = 49 ∧ i = 13) → ¬ (55 ≤ a ∧ a ≤ 60) → g a i = g0 a i) →
      am_X E 110 (7, (0, 0), [some (amR 49), some (amI v1), none, none, none, none], [], mk g fl) (RV Q) := by
  have hWle := Wn_le (b := b) (n := n) hn
  intro f
  induction f with
  | zero =>
    intro k v1 g h0 h1 hS hM hfr
    have hkW : k = Wn b n := by omega
    subst hkW
    have eW : g 49 6 = Wn b n := by rw [hfr _ _ (by omega) (by omega)]; exact hW
    refine b110_7 ⟨fun c => absurd c (by omega), fun _ => ⟨by omega, fun g2 e2 => ?_⟩⟩
    rw [toNat_eq eW] at e2
    refine h g2 (by rw [e2]; (simp (disch := omega) only [up_at, up_ne]); exact hS) (by rw [e2]; (simp (disch := omega) only [up_at, up_ne]); exact hS) (fun k hk => ?_) (fun a i z1 z2 => by rw [e2]; (simp (disch := omega) only [up_at, up_ne]); exact hfr a i z1 z2)
    rw [e2]
    (simp (disch := omega) only [up_at, up_ne])
    exact hM k hk
  | succ f ih =>
    intro k v1 g h0 h1 hS hM hfr
    subst h1
    have eW : g 49 6 = Wn b n := by rw [hfr _ _ (by omega) (by omega)]; exact hW
    refine b110_7 ⟨fun _ => ⟨by omega, fun g2 e2 => ?_⟩, fun c => absurd (by omega) c⟩
    rw [Int.toNat_natCast] at e2
    have f2 : ∀ a i, ¬ (a = 55 ∧ i = k) → g2 a i = g a i := by intro a i z; rw [e2]; (simp (disch := omega) only [up_at, up_ne])
    have s2 : g2 49 13 = fs b n w k := by rw [f2 _ _ (by omega)]; exact hS
    have y50 : g2 50 = g0 50 := by funext x; rw [f2 _ _ (by omega), hfr _ _ (by omega) (by omega)]
    have y51 : g2 51 = g0 51 := by funext x; rw [f2 _ _ (by omega), hfr _ _ (by omega) (by omega)]
    refine findsNuclei_ok (n := n) (k := k) (B := fs b n w k) (b := b) (w := w) hn (by rw [y50]; exact hb) (by rw [y51]; exact hw) (by omega) rfl s2 (by rw [f2 _ _ (by omega), hfr _ _ (by omega) (by omega)]; exact hg53 k (by omega)) (by rw [f2 _ _ (by omega), hfr _ _ (by omega) (by omega)]; exact hg54 k (by omega)) (fun g3 q1 q2 q3 => ?_)
    have r55 : g3 55 k = fs b n w k := by rw [q3 _ _ (by omega) (by omega), e2]; (simp (disch := omega) only [up_at, up_ne]); exact hS
    rw [Int.toNat_natCast, r55]
    refine sylls_loop (n := n) (k := k) (B := fs b n w k) (g0 := g3) (b := b) (w := w) hn ?_ hwo (by omega) rfl q1 ?_ ?_ r55 q2 (fun g4 p1 p2 => ?_) (nc b n w k) 0 _ g3 (by omega) rfl (fun t ht => by omega) (fun _ _ _ => rfl)
    · funext x; rw [q3 _ _ (by omega) (by omega), y51, hw]
    · rw [q3 _ _ (by omega) (by omega), f2 _ _ (by omega), hfr _ _ (by omega) (by omega)]; exact hg53 k (by omega)
    · rw [q3 _ _ (by omega) (by omega), f2 _ _ (by omega), hfr _ _ (by omega) (by omega)]; exact hg54 k (by omega)
    refine ih (k + 1) _ g4 (by omega) (by omega) (by rw [p2 _ _ (by omega)]; exact q1) (fun k' hk' => ?_) (fun a i z1 z2 => by rw [p2 _ _ (by omega), q3 _ _ z1 (by omega), f2 _ _ (by omega), hfr _ _ z1 z2])
    by_cases hkk : k' = k
    · subst hkk
      refine ⟨by rw [p2 _ _ (by omega)]; exact r55, fun t ht => ⟨?_, (p1 t ht).1, (p1 t ht).2, ?_, ?_⟩⟩
      · rw [p2 _ _ (by omega)]; exact (q2 t ht).1
      · rw [p2 _ _ (by omega)]; exact (q2 t ht).2.1
      · rw [p2 _ _ (by omega)]; exact (q2 t ht).2.2
    · have hm : fs b n w (k' + 1) ≤ fs b n w k := fs_mono (by omega)
      have hm2 : fs b n w (k' + 1) = fs b n w k' + nc b n w k' := rfl
      obtain ⟨z1, z2⟩ := hM k' (by omega)
      refine ⟨by rw [p2 _ _ (by omega), q3 _ _ (by omega) (by omega), f2 _ _ (by omega)]; exact z1, fun t ht => ?_⟩
      rw [p2 56 _ (by omega), p2 57 _ (by omega), p2 58 _ (by omega), p2 59 _ (by omega), p2 60 _ (by omega), q3 56 _ (by omega) (by omega), q3 57 _ (by omega) (by omega), q3 58 _ (by omega) (by omega), q3 59 _ (by omega) (by omega), q3 60 _ (by omega) (by omega), f2 _ _ (by omega), f2 _ _ (by omega), f2 _ _ (by omega), f2 _ _ (by omega), f2 _ _ (by omega)]
      exact z2 t ht
theorem findsSyllables_ok {Q : GG → FF → Prop} {n : Nat} {b : Nat → Int} {w : Nat → Int} (hn : n ≤ 60) (hgn : g 49 1 = n) (hb : b = nz (g 50) n) (hw : w = g 51) (hwo : waysOK w)
    (h : ∀ g' : GG, MC b n w g' → (∀ a i, ¬ (a = 49 ∧ (i = 6 ∨ i = 13)) → ¬ (53 ≤ a ∧ a ≤ 60) → g' a i = g a i) → Q g' fl) : cV E 110 [amR 49] g fl Q := by
  refine b110 (findsWords_ok hn hgn hb (fun g1 w1 w2 w3 w4 g2 e2 => ?_))
  have f2 : ∀ a i, ¬ (a = 49 ∧ (i = 6 ∨ i = 13)) → ¬ (a = 53 ∨ a = 54) → g2 a i = g a i := by intro a i z1 z2; rw [e2]; (simp (disch := omega) only [up_at, up_ne]); exact w4 a i (by omega) z2
  refine findsSyllables_loop (n := n) (g0 := g2) (b := b) (w := w) hn ?_ ?_ hwo (by rw [e2]; (simp (disch := omega) only [up_at, up_ne]); exact w1) (fun k hk => by rw [e2]; (simp (disch := omega) only [up_at, up_ne]); exact w2 k hk) (fun k hk => by rw [e2]; (simp (disch := omega) only [up_at, up_ne]); exact w3 k hk) (fun g' q1 q2 q3 q4 => ?_) (Wn b n) 0 0 g2 (by omega) rfl (by rw [e2]; (simp (disch := omega) only [up_at, up_ne]); rfl) (fun k hk => by omega) (fun _ _ _ _ => rfl)
  · rw [hb]; congr 1; funext x; exact (f2 _ _ (by omega) (by omega)).symm
  · rw [hw]; funext x; exact (f2 _ _ (by omega) (by omega)).symm
  · refine h g' ⟨?_, q1, fun k hk => ?_, fun k hk => ?_, fun k hk => ?_, ?_, ?_, ?_, ?_, ?_⟩ (fun a i z1 z2 => by rw [q4 _ _ (by omega) (by omega), f2 _ _ z1 (by omega)])
    · rw [q4 _ _ (by omega) (by omega), e2]; (simp (disch := omega) only [up_at, up_ne]); exact w1
    · rw [q4 _ _ (by omega) (by omega), e2]; (simp (disch := omega) only [up_at, up_ne]); exact w2 k hk
    · rw [q4 _ _ (by omega) (by omega), e2]; (simp (disch := omega) only [up_at, up_ne]); exact w3 k hk
    · rcases Nat.lt_or_ge k (Wn b n) with h9 | h9
      · exact (q3 k h9).1
      · rw [show k = Wn b n by omega]; exact q2
    · intro s hs
      obtain ⟨o1, o2, o3, o4, o5⟩ := wo_ok hn hs
      have := ((q3 _ o1).2 _ o4).1
      rw [← o5] at this; exact this
    · intro s hs
      obtain ⟨o1, o2, o3, o4, o5⟩ := wo_ok hn hs
      have := ((q3 _ o1).2 _ o4).2.1
      rw [← o5] at this; exact this
    · intro s hs
      obtain ⟨o1, o2, o3, o4, o5⟩ := wo_ok hn hs
      have := ((q3 _ o1).2 _ o4).2.2.1
      rw [← o5] at this; exact this
    · intro s hs
      obtain ⟨o1, o2, o3, o4, o5⟩ := wo_ok hn hs
      have := ((q3 _ o1).2 _ o4).2.2.2.1
      rw [← o5] at this; exact this
    · intro s hs
      obtain ⟨o1, o2, o3, o4, o5⟩ := wo_ok hn hs
      have := ((q3 _ o1).2 _ o4).2.2.2.2
      rw [← o5] at this; exact this
/-- where a syllable lies -/
theorem syl_in {b : Nat → Int} {n : Nat} {w : Nat → Int} (hn : n ≤ 60) {k j : Nat} (hk : k < Wn b n) (hj : j < nc b n w k) : frK b n w k j ≤ npS b n w k j ∧ npS b n w k j + wiS b n w k j ≤ toK b n w k j ∧ toK b n w k j ≤ n ∧ (wiS b n w k j = 1 ∨ wiS b n w k j = 2) := by
  obtain ⟨f1, f2, f3, f4, f5, -, -⟩ := word_in (b := b) hn hk
  have h1 := nc_word (w := w) hn hk
  have h2 := h1.2.1 j hj
  have hwle : npS b n w k j + wiS b n w k j ≤ wt b n k := wid_le (b := b) (w := w) h2.1
  refine ⟨?_, ?_, ?_, wid_12⟩
  · cases j with
    | zero => show wf b n k ≤ _; omega
    | succ j => exact (frK_le (nuc_le hn hk hj).1).2
  · unfold toK
    split
    · omega
    · have h5 := nuc_le (w := w) hn hk (show j + 1 < nc b n w k by omega)
      have := frK_le h5.1; omega
  · unfold toK
    split
    · omega
    · have h5 := nuc_le (w := w) hn hk (show j + 1 < nc b n w k by omega)
      have := frK_le h5.1; omega
theorem mo_in {b : Nat → Int} {n : Nat} {w : Nat → Int} (hn : n ≤ 60) (hwo : waysOK w) {k j : Nat} (hk : k < Wn b n) (hj : j < nc b n w k) : 1 ≤ moK b n w k j ∧ moK b n w k j ≤ 4 ∧ frK b n w k j + moK b n w k j ≤ toK b n w k j := by
  have h1 := syl_in (w := w) hn hk hj
  have hw2 := hwo.2.2.1
  unfold moK bhK
  dsimp only
  split <;> omega
theorem morasOf_ok {Q : Int → GG → FF → Prop} {n s : Nat} {b : Nat → Int} {w : Nat → Int} (hn : n ≤ 60) (hw : w = g 51) (hwo : waysOK w) (hM : MC b n w g) (hs : s < Sn b n w) (h : Q (moS b n w s) g fl) : cI E 111 [amR 49, amI s] g fl Q := by
  obtain ⟨o1, o2, o3, o4, o5⟩ := wo_ok (w := w) hn hs
  have hSl := Sn_le (b := b) (w := w) hn
  have hWl := Wn_le (b := b) (n := n) hn
  have k1 := syl_in (w := w) hn o1 o4
  have w2 := hwo.2.2.1
  have e58 : g 58 (Int.toNat (s : Int)) = toS b n w s := by rw [Int.toNat_natCast]; exact hM.sE s hs
  have e59 : g 59 (Int.toNat (s : Int)) = nuS b n w s := by rw [Int.toNat_natCast]; exact hM.sN s hs
  have e60 : g 60 (Int.toNat (s : Int)) = widS b n w s := by rw [Int.toNat_natCast]; exact hM.sL s hs
  have e56 : g 56 (Int.toNat (s : Int)) = wo b n w s := by rw [Int.toNat_natCast]; exact hM.sW s hs
  have e55 : g 55 (wo b n w s + 1) = fs b n w (wo b n w s + 1) := hM.wF _ (by omega)
  have hfs1 : fs b n w (wo b n w s + 1) = fs b n w (wo b n w s) + nc b n w (wo b n w s) := rfl
  have d1 : toS b n w s = toK b n w (wo b n w s) (jS b n w s) := rfl
  have d2 : nuS b n w s = npS b n w (wo b n w s) (jS b n w s) := rfl
  have d3 : widS b n w s = wiS b n w (wo b n w s) (jS b n w s) := rfl
  have ew3 : g 51 3 = w 3 := by rw [hw]
  have ew2 : g 51 2 = w 2 := by rw [hw]
  have hmo : moS b n w s = widS b n w s + min (bhK b n w (wo b n w s) (jS b n w s)) (w 2).toNat := rfl
  have hbh : bhK b n w (wo b n w s) (jS b n w s) = if w 3 = 1 ∧ jS b n w s + 1 = nc b n w (wo b n w s) ∧ 0 < toS b n w s - (nuS b n w s + widS b n w s) then toS b n w s - (nuS b n w s + widS b n w s) - 1 else toS b n w s - (nuS b n w s + widS b n w s) := rfl
  rw [← d1, ← d2, ← d3] at k1
  refine b111 ?_
  rw [e58, e59, e60, e56, toNat_eq (x := (wo b n w s : Int) + 1) (k := wo b n w s + 1) (by omega), e55, ew3, ew2]
  have fin : ∀ x : Int, x = bhK b n w (wo b n w s) (jS b n w s) → (x < w 2 → am_rg ((widS b n w s : Int) + x) ∧ Q ((widS b n w s : Int) + x) g fl) ∧ (¬ (x < w 2) → am_rg ((widS b n w s : Int) + w 2) ∧ Q ((widS b n w s : Int) + w 2) g fl) := by
    intro x hx
    refine ⟨fun c => ⟨rgI (by omega) (by omega), ?_⟩, fun c => ⟨rgI (by omega) (by omega), ?_⟩⟩
    · rw [show (widS b n w s : Int) + x = (moS b n w s : Nat) by rw [hmo]; omega]; exact h
    · rw [show (widS b n w s : Int) + w 2 = (moS b n w s : Nat) by rw [hmo]; omega]; exact h
  refine ⟨by omega, rgI (by omega) (by omega), rgI (by omega) (by omega), rgI (by omega) (by omega), rgI (by omega) (by omega), by omega, fun c => ⟨fun c2 => ?_, fun c2 => ⟨rgI (by omega) (by omega), fin _ ?_⟩⟩, fun c => ⟨rgI (by omega) (by omega), fin _ ?_⟩⟩
  · by_cases c3 : (0 : Int) < (toS b n w s : Int) - nuS b n w s - widS b n w s
    · rw [b01_t c3]
      refine ⟨rgI (by omega) (by omega), fin _ ?_⟩
      rw [hbh, if_pos ⟨c, by omega, by omega⟩]; omega
    · rw [b01_f c3]
      refine ⟨rgI (by omega) (by omega), fin _ ?_⟩
      rw [hbh, if_neg (by omega)]; omega
  · rw [hbh, if_neg (by omega)]; omega
  · rw [hbh, if_neg (by omega)]; omega
theorem mo_S {b : Nat → Int} {n s : Nat} {w : Nat → Int} (hn : n ≤ 60) (hwo : waysOK w) (hs : s < Sn b n w) : 1 ≤ moS b n w s ∧ moS b n w s ≤ 4 ∧ frS b n w s + moS b n w s ≤ toS b n w s ∧ toS b n w s ≤ n := by
  obtain ⟨o1, o2, o3, o4, o5⟩ := wo_ok (w := w) hn hs
  have h1 := mo_in (w := w) hn hwo o1 o4
  have h2 := syl_in (w := w) hn o1 o4
  exact ⟨h1.1, h1.2.1, h1.2.2, h2.2.2.1⟩
end CUTM3
