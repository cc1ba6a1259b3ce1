/-! the reference's words, nuclei, syllables -/
/-- the reference's rows hold the cut of b, n, w -/
abbrev MC (b : Nat → Int) (n : Nat) (w : Nat → Int) (g : GG) : Prop := (g 49 6 = Wn b n) ∧ (g 49 13 = Sn b n w) ∧ (∀ k, k < Wn b n → g 53 k = wf b n k) ∧ (∀ k, k < Wn b n → g 54 k = wt b n k) ∧ (∀ k, k ≤ Wn b n → g 55 k = fs b n w k) ∧ (∀ s, s < Sn b n w → g 56 s = wo b n w s) ∧ (∀ s, s < Sn b n w → g 57 s = frS b n w s) ∧ (∀ s, s < Sn b n w → g 58 s = toS b n w s) ∧ (∀ s, s < Sn b n w → g 59 s = nuS b n w s) ∧ (∀ s, s < Sn b n w → g 60 s = widS b n w s)
theorem MC.W {b : Nat → Int} {n : Nat} {w : Nat → Int} {g : GG} (hx_ : MC b n w g) : g 49 6 = Wn b n := hx_.1
theorem MC.S {b : Nat → Int} {n : Nat} {w : Nat → Int} {g : GG} (hx_ : MC b n w g) : g 49 13 = Sn b n w := hx_.2.1
theorem MC.wS {b : Nat → Int} {n : Nat} {w : Nat → Int} {g : GG} (hx_ : MC b n w g) : ∀ k, k < Wn b n → g 53 k = wf b n k := hx_.2.2.1
theorem MC.wE {b : Nat → Int} {n : Nat} {w : Nat → Int} {g : GG} (hx_ : MC b n w g) : ∀ k, k < Wn b n → g 54 k = wt b n k := hx_.2.2.2.1
theorem MC.wF {b : Nat → Int} {n : Nat} {w : Nat → Int} {g : GG} (hx_ : MC b n w g) : ∀ k, k ≤ Wn b n → g 55 k = fs b n w k := hx_.2.2.2.2.1
theorem MC.sW {b : Nat → Int} {n : Nat} {w : Nat → Int} {g : GG} (hx_ : MC b n w g) : ∀ s, s < Sn b n w → g 56 s = wo b n w s := hx_.2.2.2.2.2.1
theorem MC.sS {b : Nat → Int} {n : Nat} {w : Nat → Int} {g : GG} (hx_ : MC b n w g) : ∀ s, s < Sn b n w → g 57 s = frS b n w s := hx_.2.2.2.2.2.2.1
theorem MC.sE {b : Nat → Int} {n : Nat} {w : Nat → Int} {g : GG} (hx_ : MC b n w g) : ∀ s, s < Sn b n w → g 58 s = toS b n w s := hx_.2.2.2.2.2.2.2.1
theorem MC.sN {b : Nat → Int} {n : Nat} {w : Nat → Int} {g : GG} (hx_ : MC b n w g) : ∀ s, s < Sn b n w → g 59 s = nuS b n w s := hx_.2.2.2.2.2.2.2.2.1
theorem MC.sL {b : Nat → Int} {n : Nat} {w : Nat → Int} {g : GG} (hx_ : MC b n w g) : ∀ s, s < Sn b n w → g 60 s = widS b n w s := hx_.2.2.2.2.2.2.2.2.2
section CUTM2
variable {E : am_E} {g : GG} {fl : FF}
theorem toNat_eq {x : Int} {k : Nat} (h : x = k) : Int.toNat x = k := by omega
theorem findsWords_loop {Q : GG → FF → Prop} {n : Nat} {g0 : GG} {b : Nat → Int} (hn : n ≤ 60) (hb : b = nz (g0 50) n) (hfl : flaw b n = -1)
    (h : ∀ g' : GG, g' 49 6 = Wn b n → (∀ k, k < Wn b n → g' 53 k = wf b n k) → (∀ k, k < Wn b n → g' 54 k = wt b n k) → (∀ a i, ¬ (a = 49 ∧ i = 6) → ¬ (a = 53 ∨ a = 54) → g' a i = g0 a i) → Q g' fl) :
    ∀ (f i K : Nat) (v2 : Int) (g : GG), i + f = n → v2 = i → (i = 0 ∧ K = 0 ∨ 0 < K ∧ K ≤ Wn b n ∧ wf b n (K - 1) < i ∧ i ≤ wt b n (K - 1) + 1 ∧ g 54 (K - 1) = (min i (wt b n (K - 1)) : Nat)) → g 49 6 = K → (∀ k, k < K → g 53 k = wf b n k) → (∀ k, k + 1 < K → g 54 k = wt b n k) → (∀ a i, ¬ (a = 49 ∧ i = 6) → ¬ (a = 53 ∨ a = 54) → g a i = g0 a i) →
      am_X E 107 (14, (0, 0), [some (amR 49), some (amI n), some (amI v2)], [], mk g fl) (RV Q) := by
  obtain ⟨W1, W2, W3⟩ := Wn_is hfl hn
  intro f
  induction f with
  | zero =>
    intro i K v2 g h0 h2 hJ hK hr1 hr2 hfr
    refine b107_14 ⟨fun c => absurd c (by omega), fun _ => ?_⟩
    have hw0 := word_in (b := b) (n := n) hn W2
    rcases hJ with ⟨j1, j2⟩ | ⟨j1, j2, j3, j4, j5⟩
    · have := hw0.2.2.2.1
      have := hw0.2.2.2.2.1
      omega
    · have hKW : K = Wn b n := by
        rcases Nat.lt_or_ge K (Wn b n) with h9 | h9
        · have h8 := word_in (b := b) (n := n) hn h9
          have h7 := W1 (K - 1) (by omega)
          have h6 : wf b n (K - 1 + 1) = wt b n (K - 1) + 1 := wf_s
          rw [show K - 1 + 1 = K by omega] at h6
          omega
        · omega
      subst hKW
      refine h g hK hr1 (fun k hk => ?_) hfr
      by_cases hk2 : k + 1 < Wn b n
      · exact hr2 k hk2
      · rw [show k = Wn b n - 1 by omega, j5]
        rw [W3]; omega
  | succ f ih =>
    intro i K v2 g h0 h2 hJ hK hr1 hr2 hfr
    have hy : g 50 = g0 50 := by funext x; exact hfr 50 x (by omega) (by omega)
    have hbi : ∀ {x : Int} {j : Nat}, x = j → j < n → g 50 (Int.toNat x) = b j := by
      intro x j hx hj
      rw [toNat_eq hx, hy, hb, nz_in hj]
    have hold : 0 < K → K ≤ Wn b n → wf b n (K - 1) < i → i ≤ wt b n (K - 1) → g 54 (K - 1) = (min i (wt b n (K - 1)) : Nat) → am_rg ((g 49 6) - 1) ∧ (0 ≤ v2 ∧ v2 < 60) ∧ ((g 50 (Int.toNat v2)) = 32 → (0 ≤ ((g 49 6) - 1) ∧ ((g 49 6) - 1) < 30) ∧ (∀ g5 : GG, g5 = am_up g 54 (Int.toNat ((g 49 6) - 1)) (g 54 (Int.toNat ((g 49 6) - 1))) → am_rg (v2 + 1) ∧ am_X E 107 (14, (0, 0), [some (amR 49), some (amI n), some (amI (v2 + 1))], [], mk g5 fl) (RV Q))) ∧ (¬ ((g 50 (Int.toNat v2)) = 32) → am_rg (v2 + 1) ∧ (0 ≤ ((g 49 6) - 1) ∧ ((g 49 6) - 1) < 30) ∧ (∀ g5 : GG, g5 = am_up g 54 (Int.toNat ((g 49 6) - 1)) (v2 + 1) → am_X E 107 (14, (0, 0), [some (amR 49), some (amI n), some (amI (v2 + 1))], [], mk g5 fl) (RV Q))) := by
      intro k1 k2 k3 k4 k5
      have hWle := Wn_le (b := b) (n := n) hn
      rw [hK, toNat_eq (x := (K : Int) - 1) (k := K - 1) (by omega), hbi h2 (by omega)]
      refine ⟨rgI (by omega) (by omega), by omega, fun c => ⟨by omega, fun g5 e5 => ⟨rgI (by omega) (by omega), ?_⟩⟩, fun c => ⟨rgI (by omega) (by omega), by omega, fun g5 e5 => ?_⟩⟩
      · have hit : i = wt b n (K - 1) := by
          rcases Nat.lt_or_ge i (wt b n (K - 1)) with h9 | h9
          · rw [wt_nb] at h9
            exact absurd c (nb_no (Nat.le_of_lt k3) h9)
          · omega
        refine ih (i + 1) K (v2 + 1) g5 (by omega) (by omega) (Or.inr ⟨k1, k2, by omega, by omega, ?_⟩) ?_ ?_ ?_ ?_
        · rw [e5, up_at, k5]; omega
        · rw [e5]; (simp (disch := omega) only [up_at, up_ne]); exact hK
        · intro k hk; rw [e5]; (simp (disch := omega) only [up_at, up_ne]); exact hr1 k hk
        · intro k hk; rw [e5]; (simp (disch := omega) only [up_at, up_ne]); exact hr2 k hk
        · intro a x z1 z2; rw [e5]; (simp (disch := omega) only [up_at, up_ne]); exact hfr a x z1 z2
      · have hit : i < wt b n (K - 1) := by
          rcases Nat.lt_or_ge i (wt b n (K - 1)) with h9 | h9
          · exact h9
          · exfalso; apply c
            have h8 : i = nb b n (wf b n (K - 1)) := by rw [← wt_nb]; omega
            rw [h8]
            exact nb_is (by omega) (by omega)
        refine ih (i + 1) K (v2 + 1) g5 (by omega) (by omega) (Or.inr ⟨k1, k2, by omega, by omega, ?_⟩) ?_ ?_ ?_ ?_
        · rw [e5, up_at]; omega
        · rw [e5]; (simp (disch := omega) only [up_at, up_ne]); exact hK
        · intro k hk; rw [e5]; (simp (disch := omega) only [up_at, up_ne]); exact hr1 k hk
        · intro k hk; rw [e5]; (simp (disch := omega) only [up_at, up_ne]); exact hr2 k hk
        · intro a x z1 z2; rw [e5]; (simp (disch := omega) only [up_at, up_ne]); exact hfr a x z1 z2
    have hnew : K < Wn b n → wf b n K = i → (0 < K → g 54 (K - 1) = wt b n (K - 1)) → (0 ≤ (g 49 6) ∧ (g 49 6) < 30) ∧ (∀ g4 : GG, g4 = am_up g 53 (Int.toNat (g 49 6)) v2 → am_rg ((g4 49 6) + 1) ∧ (∀ g5 : GG, g5 = am_up g4 49 6 ((g4 49 6) + 1) → am_rg ((g5 49 6) - 1) ∧ (0 ≤ v2 ∧ v2 < 60) ∧ ((g5 50 (Int.toNat v2)) = 32 → (0 ≤ ((g5 49 6) - 1) ∧ ((g5 49 6) - 1) < 30) ∧ (∀ g7 : GG, g7 = am_up g5 54 (Int.toNat ((g5 49 6) - 1)) (g5 54 (Int.toNat ((g5 49 6) - 1))) → am_rg (v2 + 1) ∧ am_X E 107 (14, (0, 0), [some (amR 49), some (amI n), some (amI (v2 + 1))], [], mk g7 fl) (RV Q))) ∧ (¬ ((g5 50 (Int.toNat v2)) = 32) → am_rg (v2 + 1) ∧ (0 ≤ ((g5 49 6) - 1) ∧ ((g5 49 6) - 1) < 30) ∧ (∀ g7 : GG, g7 = am_up g5 54 (Int.toNat ((g5 49 6) - 1)) (v2 + 1) → am_X E 107 (14, (0, 0), [some (amR 49), some (amI n), some (amI (v2 + 1))], [], mk g7 fl) (RV Q))))) := by
      intro hKW hwi hlast
      have hWle := Wn_le (b := b) (n := n) hn
      obtain ⟨f1, f2, f3, f4, f5, -, -⟩ := word_in (b := b) hn hKW
      refine ⟨by omega, fun g4 e4 => ?_⟩
      rw [hK, Int.toNat_natCast] at e4
      have q1 : g4 49 6 = K := by rw [e4]; (simp (disch := omega) only [up_at, up_ne]); exact hK
      rw [q1]
      refine ⟨rgI (by omega) (by omega), fun g5 e5 => ?_⟩
      have q2 : g5 49 6 = K + 1 := by rw [e5]; (simp (disch := omega) only [up_at, up_ne])
      have q3 : g5 50 (Int.toNat v2) = b i := by rw [← hbi h2 (by omega), e5, e4]; (simp (disch := omega) only [up_at, up_ne])
      rw [q2, q3, toNat_eq (x := (K : Int) + 1 - 1) (k := K) (by omega)]
      have hne : b i ≠ 32 := by
        have h9 : wf b n K < nb b n (wf b n K) := by rw [← wt_nb]; exact f4
        rw [← hwi]
        exact nb_no (Nat.le_refl _) h9
      refine ⟨rgI (by omega) (by omega), by omega, fun c => absurd c hne, fun _ => ⟨rgI (by omega) (by omega), by omega, fun g7 e7 => ?_⟩⟩
      refine ih (i + 1) (K + 1) (v2 + 1) g7 (by omega) (by omega) (Or.inr ⟨by omega, by omega, ?_, ?_, ?_⟩) ?_ ?_ ?_ ?_
      · rw [Nat.add_sub_cancel]; omega
      · rw [Nat.add_sub_cancel]; omega
      · rw [Nat.add_sub_cancel, e7, up_at]; omega
      · rw [e7]; (simp (disch := omega) only [up_at, up_ne]); rw [q2]; omega
      · intro k hk
        rw [e7, e5, e4]
        by_cases hkK : k = K
        · subst hkK; (simp (disch := omega) only [up_at, up_ne]); omega
        · (simp (disch := omega) only [up_at, up_ne]); exact hr1 k (by omega)
      · intro k hk
        rw [e7, e5, e4]
        by_cases hkK : k + 1 = K
        · (simp (disch := omega) only [up_at, up_ne])
          have := hlast (by omega)
          rw [show K - 1 = k by omega] at this
          exact this
        · (simp (disch := omega) only [up_at, up_ne]); exact hr2 k (by omega)
      · intro a x z1 z2; rw [e7, e5, e4]; (simp (disch := omega) only [up_at, up_ne]); exact hfr a x z1 z2
    refine b107_14 ⟨fun _ => ⟨fun c => ?_, fun c => ⟨rgI (by omega) (by omega), by omega, fun c2 => ?_, fun c2 => ?_⟩⟩, fun c => absurd (by omega) c⟩
    · rcases hJ with ⟨j1, j2⟩ | ⟨j1, j2, j3, j4, j5⟩
      · subst j2
        exact hnew W2 (by rw [j1]; rfl) (fun z => by omega)
      · omega
    · rcases hJ with ⟨j1, j2⟩ | ⟨j1, j2, j3, j4, j5⟩
      · omega
      · rw [hbi (j := i - 1) (by omega) (by omega)] at c2
        have hit : i = wt b n (K - 1) + 1 := by
          rcases Nat.lt_or_ge (i - 1) (wt b n (K - 1)) with h9 | h9
          · rw [wt_nb] at h9
            exact absurd c2 (nb_no (by omega) h9)
          · omega
        have hKW : K < Wn b n := by
          rcases Nat.lt_or_ge K (Wn b n) with h9 | h9
          · exact h9
          · rw [show Wn b n - 1 = K - 1 by omega] at W3; omega
        refine hnew hKW ?_ (fun _ => by rw [j5]; omega)
        have h6 : wf b n (K - 1 + 1) = wt b n (K - 1) + 1 := wf_s
        rw [show K - 1 + 1 = K by omega] at h6
        omega
    · rcases hJ with ⟨j1, j2⟩ | ⟨j1, j2, j3, j4, j5⟩
      · omega
      · rw [hbi (j := i - 1) (by omega) (by omega)] at c2
        refine hold j1 j2 j3 ?_ j5
        rcases Nat.lt_or_ge (i - 1) (wt b n (K - 1)) with h9 | h9
        · omega
        · exfalso; apply c2
          have h8 : i - 1 = nb b n (wf b n (K - 1)) := by rw [← wt_nb]; omega
          rw [h8]
          exact nb_is (by omega) (by omega)
theorem findsWords_ok {Q : GG → FF → Prop} {n : Nat} {b : Nat → Int} (hn : n ≤ 60) (hgn : g 49 1 = n) (hb : b = nz (g 50) n)
    (h : ∀ g' : GG, g' 49 6 = Wn b n → (∀ k, k < Wn b n → g' 53 k = wf b n k) → (∀ k, k < Wn b n → g' 54 k = wt b n k) → (∀ a i, ¬ (a = 49 ∧ i = 6) → ¬ (a = 53 ∨ a = 54) → g' a i = g a i) → Q g' fl) : cV E 107 [amR 49] g fl Q := by
  refine b107 (fun g1 e1 => ?_)
  have q1 : g1 49 1 = n := by rw [e1]; (simp (disch := omega) only [up_at, up_ne]); exact hgn
  have fr : ∀ a i, ¬ (a = 49 ∧ i = 6) → g1 a i = g a i := by intro a i z; rw [e1]; (simp (disch := omega) only [up_at, up_ne])
  have y : g1 50 = g 50 := by funext x; exact fr 50 x (by omega)
  have hfe : flaw (g1 50) n = flaw b n := flaw_same fun i hi => Or.inl (by rw [hb, nz_in hi, y])
  refine flawNow_ok hn q1 ?_
  rw [hfe, q1]
  refine ⟨fun c => ?_, fun c => ?_⟩
  · exact findsWords_loop (g0 := g1) (b := b) (n := n) hn (by rw [y]; exact hb) c (fun g' r1 r2 r3 r4 => h g' r1 r2 r3 (fun a i z1 z2 => by rw [r4 a i z1 z2, fr a i z1])) n 0 0 0 g1 (by omega) rfl (Or.inl ⟨rfl, rfl⟩) (by rw [e1]; (simp (disch := omega) only [up_at, up_ne]); rfl) (fun k hk => by omega) (fun k hk => by omega) (fun _ _ _ _ => rfl)
  · have hW : Wn b n = 0 := Wn_0 c
    refine b107_14 ⟨fun c => absurd c (by omega), fun _ => h g1 (by rw [e1, hW]; (simp (disch := omega) only [up_at, up_ne]); rfl) (fun k hk => by omega) (fun k hk => by omega) (fun a i z1 _ => fr a i z1)⟩
theorem isTwin_ok {Q : Int → GG → FF → Prop} {x y : Int} (h : Q (if x = y ∨ (g 51 0 = 1 ∧ (y = 105 ∨ y = 117)) then 1 else 0) g fl) : cI E 108 [amR 49, amI x, amI y] g fl Q := by
  refine b108 ⟨fun c => ?_, fun c => ⟨fun c2 => ⟨fun c3 => ?_, fun c3 => ?_⟩, fun c2 => ?_⟩⟩
  · rw [if_pos (Or.inl c)] at h; exact h
  · rw [if_pos (Or.inr ⟨c2, Or.inl c3⟩)] at h; exact h
  · by_cases c4 : y = 117
    · rw [b01_t c4]; rw [if_pos (Or.inr ⟨c2, Or.inr c4⟩)] at h; exact h
    · rw [b01_f c4]; rw [if_neg (by intro z; rcases z with z | ⟨-, z | z⟩; exact c z; exact c3 z; exact c4 z)] at h; exact h
  · rw [if_neg (by intro z; rcases z with z | ⟨z, -⟩; exact c z; exact c2 z)] at h; exact h
/-- the first j nuclei of the word k -/
def MwJ (b : Nat → Int) (n : Nat) (w : Nat → Int) (k B j : Nat) (g : GG) : Prop :=
  ∀ t, t < j → g 56 (B + t) = k ∧ g 59 (B + t) = npS b n w k t ∧ g 60 (B + t) = wiS b n w k t
theorem findsNuclei_loop {Q : GG → FF → Prop} {n k B : Nat} {g0 : GG} {b : Nat → Int} {w : Nat → Int} (hn : n ≤ 60) (hb : b = nz (g0 50) n) (hw : w = g0 51) (hk : k < 30) (hpe : wf b n k < wt b n k) (hen : wt b n k ≤ n) (hB : B ≤ wf b n k) (hg54 : g0 54 k = wt b n k)
    (h : ∀ g' : GG, g' 49 13 = B + nc b n w k → MwJ b n w k B (nc b n w k) g' → (∀ a i, ¬ (a = 49 ∧ i = 13) → ¬ ((a = 56 ∨ a = 59 ∨ a = 60) ∧ B ≤ i) → g' a i = g0 a i) → Q g' fl) :
    ∀ (f i j : Nat) (v2 : Int) (g : GG), wt b n k ≤ i + f → i ≤ wt b n k → v2 = i → g 49 13 = B + j → (∀ t, t < j → npS b n w k t < wt b n k) → wf b n k + j ≤ i → fv b (wt b n k) i = npS b n w k j → MwJ b n w k B j g → (∀ a i, ¬ (a = 49 ∧ i = 13) → ¬ ((a = 56 ∨ a = 59 ∨ a = 60) ∧ B ≤ i) → g a i = g0 a i) →
      am_X E 109 (5, (0, 0), [some (amR 49), some (amI k), some (amI v2), none], [], mk g fl) (RV Q) := by
  intro f
  induction f with
  | zero =>
    intro i j v2 g h0 h1 h2 hS hnp hji hfv hJ hfr
    have hx : g 54 (Int.toNat (k : Int)) = wt b n k := by rw [Int.toNat_natCast, hfr 54 k (by omega) (by omega)]; exact hg54
    rw [show i = wt b n k by omega, fv_end (Nat.le_refl _)] at hfv
    have hnc : nc b n w k = j := nc_of (by omega) (by omega) hnp hfv.symm
    refine b109_5 ⟨by omega, fun c => absurd c (by omega), fun _ => h g (by rw [hnc]; exact hS) (by rw [hnc]; exact hJ) hfr⟩
  | succ f ih =>
    intro i j v2 g h0 h1 h2 hS hnp hji hfv hJ hfr
    have hx : g 54 (Int.toNat (k : Int)) = wt b n k := by rw [Int.toNat_natCast, hfr 54 k (by omega) (by omega)]; exact hg54
    have hy : g 50 = g0 50 := by funext x; exact hfr 50 x (by omega) (by omega)
    have hy2 : g 51 = g0 51 := by funext x; exact hfr 51 x (by omega) (by omega)
    have hbi : ∀ {x : Int} {j : Nat}, x = j → j < n → g 50 (Int.toNat x) = b j := by
      intro x j hx hj
      rw [toNat_eq hx, hy, hb, nz_in hj]
    by_cases hie : i = wt b n k
    · rw [hie, fv_end (Nat.le_refl _)] at hfv
      have hnc : nc b n w k = j := nc_of (by omega) (by omega) hnp hfv.symm
      exact b109_5 ⟨by omega, fun c => absurd c (by omega), fun _ => h g (by rw [hnc]; exact hS) (by rw [hnc]; exact hJ) hfr⟩
    have stp : ∀ (g' : GG) (z : Nat) (v : Int), isV (b i) → z = wid b w (wt b n k) i → v = v2 + z → g' 49 13 = B + (j + 1 : Nat) → g' 59 (B + j) = v2 → g' 60 (B + j) = z → g' 56 (B + j) = k → (∀ a x, ¬ (a = 49 ∧ x = 13) → ¬ ((a = 56 ∨ a = 59 ∨ a = 60) ∧ x = B + j) → g' a x = g a x) → am_X E 109 (5, (0, 0), [some (amR 49), some (amI k), some (amI v), none], [], mk g' fl) (RV Q) := by
      intro g' z v hv hz hvz q1 q2 q3 q4 qf
      rw [fv_yes (by omega) hv] at hfv
      have hw12 := wid_12 (b := b) (w := w) (e := wt b n k) (i := i)
      have hwle := wid_le (b := b) (w := w) (e := wt b n k) (i := i) (by omega)
      have hnj : npS b n w k j < wt b n k := by omega
      have hwid : wiS b n w k j = wid b w (wt b n k) i := by unfold wiS; rw [← hfv]
      refine ih (i + z) (j + 1) v g' (by omega) (by omega) (by omega) q1 ?_ (by omega) ?_ ?_ ?_
      · intro t ht
        by_cases htj : t = j
        · subst htj; exact hnj
        · exact hnp t (by omega)
      · rw [npS_next hnj, hwid, ← hfv, hz]
      · intro t ht
        by_cases htj : t = j
        · subst htj
          rw [q2, q3, q4, hwid]
          exact ⟨rfl, by omega, by omega⟩
        · rw [qf _ _ (by omega) (by omega), qf _ _ (by omega) (by omega), qf _ _ (by omega) (by omega)]
          exact hJ t (by omega)
      · intro a x z1 z2
        rw [qf _ _ z1 (by omega), hfr _ _ z1 z2]
    refine b109_5 ⟨by omega, fun c => ⟨by omega, fun c1 => ⟨rgI (by omega) (by omega), fun c2 => ⟨by omega, ?_⟩, fun c2 => ?_⟩, fun c1 => ⟨rgI (by omega) (by omega), ?_⟩⟩, fun c => absurd (by omega) c⟩
    · rw [hbi h2 (by omega)] at c1 ⊢
      rw [hbi (j := i + 1) (x := v2 + 1) (by omega) (by omega)]
      refine isTwin_ok ?_
      have hz : (if (if b i = b (i + 1) ∨ g 51 0 = 1 ∧ (b (i + 1) = 105 ∨ b (i + 1) = 117) then (1 : Int) else 0) = 0 then (1 : Int) else 2) = wid b w (wt b n k) i := by
        rw [hy2, ← hw]
        unfold wid
        by_cases c4 : b i = b (i + 1) ∨ w 0 = 1 ∧ (b (i + 1) = 105 ∨ b (i + 1) = 117)
        · rw [if_pos c4, if_neg (by omega), if_pos ⟨by omega, c4⟩]; rfl
        · rw [if_neg c4, if_pos rfl, if_neg (fun z => c4 z.2)]; rfl
      rw [hz]
      refine ⟨by omega, fun g5 e5 => ?_⟩
      rw [toNat_eq (x := g 49 13) (k := B + j) (by omega)] at e5
      have p5 : g5 49 13 = B + j := by rw [e5]; (simp (disch := omega) only [up_at, up_ne]); exact hS
      refine ⟨by omega, fun g6 e6 => ?_⟩
      rw [toNat_eq (x := g5 49 13) (k := B + j) (by omega)] at e6
      have p6 : g6 49 13 = B + j := by rw [e6]; (simp (disch := omega) only [up_at, up_ne]); exact p5
      refine ⟨by omega, fun g7 e7 => ?_⟩
      rw [toNat_eq (x := g6 49 13) (k := B + j) (by omega)] at e7
      have p7 : g7 49 13 = B + j := by rw [e7]; (simp (disch := omega) only [up_at, up_ne]); exact p6
      have hw12 := wid_12 (b := b) (w := w) (e := wt b n k) (i := i)
      refine ⟨rgI (by omega) (by omega), fun g8 e8 => ⟨rgI (by omega) (by omega), ?_⟩⟩
      refine stp g8 (wid b w (wt b n k) i) _ c1 rfl rfl ?_ ?_ ?_ ?_ ?_
      · rw [e8]; (simp (disch := omega) only [up_at, up_ne]); omega
      · rw [e8, e7, e6, e5]; (simp (disch := omega) only [up_at, up_ne])
      · rw [e8, e7, e6]; (simp (disch := omega) only [up_at, up_ne])
      · rw [e8, e7]; (simp (disch := omega) only [up_at, up_ne])
      · intro a x z1 z2
        rw [e8, e7, e6, e5]; (simp (disch := omega) only [up_at, up_ne])
    · rw [hbi h2 (by omega)] at c1
      have hz : wid b w (wt b n k) i = 1 := by unfold wid; rw [if_neg (by omega)]
      refine ⟨by omega, fun g5 e5 => ?_⟩
      rw [toNat_eq (x := g 49 13) (k := B + j) (by omega)] at e5
      have p5 : g5 49 13 = B + j := by rw [e5]; (simp (disch := omega) only [up_at, up_ne]); exact hS
      refine ⟨by omega, fun g6 e6 => ?_⟩
      rw [toNat_eq (x := g5 49 13) (k := B + j) (by omega)] at e6
      have p6 : g6 49 13 = B + j := by rw [e6]; (simp (disch := omega) only [up_at, up_ne]); exact p5
      refine ⟨by omega, fun g7 e7 => ?_⟩
      rw [toNat_eq (x := g6 49 13) (k := B + j) (by omega)] at e7
      have p7 : g7 49 13 = B + j := by rw [e7]; (simp (disch := omega) only [up_at, up_ne]); exact p6
      refine ⟨rgI (by omega) (by omega), fun g8 e8 => ?_⟩
      refine stp g8 1 _ c1 hz.symm rfl ?_ ?_ ?_ ?_ ?_
      · rw [e8]; (simp (disch := omega) only [up_at, up_ne]); omega
      · rw [e8, e7, e6, e5]; (simp (disch := omega) only [up_at, up_ne])
      · rw [e8, e7, e6]; (simp (disch := omega) only [up_at, up_ne]); rfl
      · rw [e8, e7]; (simp (disch := omega) only [up_at, up_ne])
      · intro a x z1 z2
        rw [e8, e7, e6, e5]; (simp (disch := omega) only [up_at, up_ne])
    · rw [hbi h2 (by omega)] at c1
      rw [fv_step (by omega) c1] at hfv
      exact ih (i + 1) j (v2 + 1) g (by omega) (by omega) (by omega) hS hnp (by omega) hfv hJ hfr
theorem findsNuclei_ok {Q : GG → FF → Prop} {n k B : Nat} {b : Nat → Int} {w : Nat → Int} (hn : n ≤ 60) (hb : b = nz (g 50) n) (hw : w = g 51) (hkW : k < Wn b n) (hB : B = fs b n w k) (hS : g 49 13 = B) (hg53 : g 53 k = wf b n k) (hg54 : g 54 k = wt b n k)
    (h : ∀ g' : GG, g' 49 13 = fs b n w (k + 1) → MwJ b n w k B (nc b n w k) g' → (∀ a i, ¬ (a = 49 ∧ i = 13) → ¬ ((a = 56 ∨ a = 59 ∨ a = 60) ∧ B ≤ i) → g' a i = g a i) → Q g' fl) : cV E 109 [amR 49, amI k] g fl Q := by
  obtain ⟨f1, f2, f3, f4, f5, -, -⟩ := word_in (b := b) hn hkW
  have hfs := (fs_le (w := w) hn k (by omega)).1 hkW
  have hfs1 : fs b n w (k + 1) = fs b n w k + nc b n w k := rfl
  refine b109 ⟨by omega, ?_⟩
  rw [Int.toNat_natCast, hg53]
  exact findsNuclei_loop (g0 := g) hn hb hw f2 f4 f5 (by omega) hg54 (fun g' q1 q2 q3 => h g' (by rw [hfs1, q1, hB]; omega) q2 q3) 60 (wf b n k) 0 _ g (by omega) (by omega) rfl (by omega) (fun t ht => by omega) (by omega) rfl (fun t ht => by omega) (fun _ _ _ _ => rfl)
end CUTM2
