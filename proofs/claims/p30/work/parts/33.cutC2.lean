/-! the component's Cut: all of it -/
def CCk (b : Nat → Int) (n : Nat) (w : Nat → Int) (K : Nat) (g : GG) : Prop :=
  ∀ k, k < K → g 12 k = wf b n k ∧ g 13 k = wt b n k ∧ g 14 k = fs b n w k ∧ g 15 k = nc b n w k ∧ ∀ t, t < nc b n w k → g 17 (fs b n w k + t) = k ∧ g 18 (fs b n w k + t) = frK b n w k t ∧ g 19 (fs b n w k + t) = toK b n w k t ∧ g 20 (fs b n w k + t) = moK b n w k t
/-- the component's rows hold the cut of b, n, w -/
abbrev CC (b : Nat → Int) (n : Nat) (w : Nat → Int) (g : GG) : Prop := (g 11 9 = flaw b n) ∧ (g 11 10 = Wn b n) ∧ (g 11 11 = Sn b n w) ∧ (∀ k, k < Wn b n → g 12 k = wf b n k) ∧ (∀ k, k < Wn b n → g 13 k = wt b n k) ∧ (∀ k, k < Wn b n → g 14 k = fs b n w k) ∧ (∀ k, k < Wn b n → g 15 k = nc b n w k) ∧ (∀ s, s < Sn b n w → g 17 s = wo b n w s) ∧ (∀ s, s < Sn b n w → g 18 s = frS b n w s) ∧ (∀ s, s < Sn b n w → g 19 s = toS b n w s) ∧ (∀ s, s < Sn b n w → g 20 s = moS b n w s)
theorem CC.fl {b : Nat → Int} {n : Nat} {w : Nat → Int} {g : GG} (hx_ : CC b n w g) : g 11 9 = flaw b n := hx_.1
theorem CC.W {b : Nat → Int} {n : Nat} {w : Nat → Int} {g : GG} (hx_ : CC b n w g) : g 11 10 = Wn b n := hx_.2.1
theorem CC.S {b : Nat → Int} {n : Nat} {w : Nat → Int} {g : GG} (hx_ : CC b n w g) : g 11 11 = Sn b n w := hx_.2.2.1
theorem CC.wS {b : Nat → Int} {n : Nat} {w : Nat → Int} {g : GG} (hx_ : CC b n w g) : ∀ k, k < Wn b n → g 12 k = wf b n k := hx_.2.2.2.1
theorem CC.wE {b : Nat → Int} {n : Nat} {w : Nat → Int} {g : GG} (hx_ : CC b n w g) : ∀ k, k < Wn b n → g 13 k = wt b n k := hx_.2.2.2.2.1
theorem CC.wF {b : Nat → Int} {n : Nat} {w : Nat → Int} {g : GG} (hx_ : CC b n w g) : ∀ k, k < Wn b n → g 14 k = fs b n w k := hx_.2.2.2.2.2.1
theorem CC.wN {b : Nat → Int} {n : Nat} {w : Nat → Int} {g : GG} (hx_ : CC b n w g) : ∀ k, k < Wn b n → g 15 k = nc b n w k := hx_.2.2.2.2.2.2.1
theorem CC.sW {b : Nat → Int} {n : Nat} {w : Nat → Int} {g : GG} (hx_ : CC b n w g) : ∀ s, s < Sn b n w → g 17 s = wo b n w s := hx_.2.2.2.2.2.2.2.1
theorem CC.sS {b : Nat → Int} {n : Nat} {w : Nat → Int} {g : GG} (hx_ : CC b n w g) : ∀ s, s < Sn b n w → g 18 s = frS b n w s := hx_.2.2.2.2.2.2.2.2.1
theorem CC.sE {b : Nat → Int} {n : Nat} {w : Nat → Int} {g : GG} (hx_ : CC b n w g) : ∀ s, s < Sn b n w → g 19 s = toS b n w s := hx_.2.2.2.2.2.2.2.2.2.1
theorem CC.sM {b : Nat → Int} {n : Nat} {w : Nat → Int} {g : GG} (hx_ : CC b n w g) : ∀ s, s < Sn b n w → g 20 s = moS b n w s := hx_.2.2.2.2.2.2.2.2.2.2
section CUTD
variable {E : am_E} {g : GG} {fl : FF} {Q : GG → FF → Prop}
theorem cutMake_loop {n : Nat} {g0 : GG} {b : Nat → Int} {w : Nat → Int} (hn : n ≤ 60) (hb : b = nz (g0 1) n) (hw : w = g0 2) (hwo : waysOK w) (hfl : flaw b n = -1)
    (h : ∀ g' : GG, g' 11 10 = Wn b n → g' 11 11 = Sn b n w → CCk b n w (Wn b n) g' → (∀ a i, ¬ (a = 11 ∧ (i = 10 ∨ i = 11)) → ¬ (12 ≤ a ∧ a ≤ 15) → ¬ (17 ≤ a ∧ a ≤ 20) → g' a i = g0 a i) → Q g' fl) :
    ∀ (f i k : Nat) (v4 v5 : Int) (g : GG), i + f = n + 1 → v5 = i → (i ≤ n → k < Wn b n ∧ v4 = wf b n k ∧ nb b n i = wt b n k) → (n < i → k = Wn b n) → g 11 10 = k → g 11 11 = fs b n w k → CCk b n w k g → (∀ a i, ¬ (a = 11 ∧ (i = 10 ∨ i = 11)) → ¬ (12 ≤ a ∧ a ≤ 15) → ¬ (17 ≤ a ∧ a ≤ 20) → g a i = g0 a i) →
      am_X E 66 (20, (0, 0), [some (amR 11), some (amR 1), some (amI n), some (amR 2), some (amI v4), some (amI v5)], [], mk g fl) (RV Q) := by
  intro f
  induction f with
  | zero =>
    intro i k v4 v5 g h0 h5 hin hout hW hS hC hfr
    have hk := hout (by omega)
    subst hk
    exact b66_20 ⟨fun _ => h g hW hS hC hfr, fun c => absurd (by omega) c⟩
  | succ f ih =>
    intro i k v4 v5 g h0 h5 hin hout hW hS hC hfr
    obtain ⟨hk, h4, hnb⟩ := hin (by omega)
    obtain ⟨W1, W2, W3⟩ := Wn_is hfl hn
    obtain ⟨f1, f2, f3, f4, f5, -, -⟩ := word_in (b := b) hn hk
    have y1 : g 1 = g0 1 := by funext x; exact hfr 1 x (by omega) (by omega) (by omega)
    have y2 : g 2 = g0 2 := by funext x; exact hfr 2 x (by omega) (by omega) (by omega)
    have hfs := (fs_le (w := w) hn k (by omega)).1 hk
    have hword : wt b n k = i → cV E 68 [amR 11, amR 1, amI v4, amI v5, amR 2] g fl (fun g3 f3 => am_rg (v5 + 1) ∧ am_X E 66 (20, (0, 0), [some (amR 11), some (amR 1), some (amI n), some (amR 2), some (amI (v5 + 1)), some (amI (v5 + 1))], [], mk g3 f3) (RV Q)) := by
      intro hi
      refine addWord_ok (n := n) (k := k) (B := fs b n w k) (b := b) (w := w) hn (by rw [y1]; exact hb) (by rw [y2]; exact hw) hwo hk rfl hW hS h4 (by omega) (fun g' q10 q11 q12 q13 q14 q15 qs qf => ⟨rgI (by omega) (by omega), ?_⟩)
      refine ih (i + 1) (k + 1) (v5 + 1) (v5 + 1) g' (by omega) (by omega) ?_ ?_ (by omega) q11 ?_ ?_
      · intro hi2
        refine ⟨?_, by rw [wf_s]; omega, by rw [wt_nb, wf_s, hi]⟩
        rcases Nat.lt_or_ge (k + 1) (Wn b n) with h9 | h9
        · exact h9
        · rw [show Wn b n - 1 = k by omega] at W3; omega
      · intro hi2
        exact (Wn_of hfl hn (fun i' hi' => W1 i' (by omega)) (by omega)).symm
      · intro k' hk'
        by_cases hkk : k' = k
        · subst hkk
          exact ⟨q12, q13, q14, q15, qs⟩
        · have hm : fs b n w (k' + 1) ≤ fs b n w k := fs_mono (by omega)
          have hm2 : fs b n w (k' + 1) = fs b n w k' + nc b n w k' := rfl
          obtain ⟨z1, z2, z3, z4, z5⟩ := hC k' (by omega)
          refine ⟨?_, ?_, ?_, ?_, fun t ht => ?_⟩
          · rw [qf _ _ (by omega) (by omega) (by omega)]; exact z1
          · rw [qf _ _ (by omega) (by omega) (by omega)]; exact z2
          · rw [qf _ _ (by omega) (by omega) (by omega)]; exact z3
          · rw [qf _ _ (by omega) (by omega) (by omega)]; exact z4
          · rw [qf 17 _ (by omega) (by omega) (by omega), qf 18 _ (by omega) (by omega) (by omega), qf 19 _ (by omega) (by omega) (by omega), qf 20 _ (by omega) (by omega) (by omega)]
            exact z5 t ht
      · intro a x z1 z2 z3
        rw [qf _ _ (by omega) (by omega) (by omega), hfr _ _ z1 z2 z3]
    refine b66_20 ⟨fun c => absurd c (by omega), fun _ => ⟨fun c => hword ?_, fun c => ⟨fun c2 => hword ?_, fun c2 => ⟨rgI (by omega) (by omega), ?_⟩⟩⟩⟩
    · rw [← hnb, show i = n by omega]; exact nb_end
    · rw [rd_in h5 (by omega), y1] at c2
      rw [← hnb]
      exact nb_blank (by omega) (by rw [hb, nz_in (by omega)]; exact c2)
    · rw [rd_in h5 (by omega), y1] at c2
      refine ih (i + 1) k v4 (v5 + 1) g (by omega) (by omega) (fun _ => ⟨hk, h4, ?_⟩) (fun z => by omega) hW hS hC hfr
      rw [← hnb]
      exact (nb_step (by omega) (by rw [hb, nz_in (by omega)]; exact c2)).symm
theorem cutMake_ok {n : Nat} {b : Nat → Int} {w : Nat → Int} (hn : n ≤ 60) (hb : b = nz (g 1) n) (hw : w = g 2) (hwo : waysOK w)
    (h : ∀ g' : GG, CC b n w g' → (∀ a i, ¬ (a = 11 ∧ (i = 9 ∨ i = 10 ∨ i = 11)) → ¬ (12 ≤ a ∧ a ≤ 15) → ¬ (17 ≤ a ∧ a ≤ 20) → g' a i = g a i) → Q g' fl) : cV E 66 [amR 11, amR 1, amI n, amR 2] g fl Q := by
  refine b66 (fun g1 e1 g2 e2 => firstFlaw_ok hn (fun g4 e4 => ?_))
  have hfe : flaw (g2 1) n = flaw b n := flaw_same fun i hi => Or.inl (by rw [hb, nz_in hi, e2, e1]; (simp (disch := omega) only [up_at, up_ne]))
  have fr : ∀ a i, ¬ (a = 11 ∧ (i = 9 ∨ i = 10 ∨ i = 11)) → g4 a i = g a i := by
    intro a i z
    rw [e4, e2, e1]; (simp (disch := omega) only [up_at, up_ne])
  have h9 : g4 11 9 = flaw b n := by rw [e4, ← hfe]; (simp (disch := omega) only [up_at, up_ne])
  have h10 : g4 11 10 = 0 := by rw [e4, e2, e1]; (simp (disch := omega) only [up_at, up_ne])
  have h11 : g4 11 11 = 0 := by rw [e4, e2, e1]; (simp (disch := omega) only [up_at, up_ne])
  have y1 : g4 1 = g 1 := by funext x; exact fr 1 x (by omega)
  have y2 : g4 2 = g 2 := by funext x; exact fr 2 x (by omega)
  refine ⟨fun c => ?_, fun c => ?_⟩
  · have hfl : flaw b n = -1 := by rw [← h9]; exact c
    obtain ⟨W1, W2, W3⟩ := Wn_is hfl hn
    refine cutMake_loop (g0 := g4) (b := b) (w := w) (n := n) hn (by rw [y1]; exact hb) (by rw [y2]; exact hw) hwo hfl (fun g' q10 q11 qC qf => h g' ⟨?_, q10, q11, fun k hk => (qC k hk).1, fun k hk => (qC k hk).2.1, fun k hk => (qC k hk).2.2.1, fun k hk => (qC k hk).2.2.2.1, ?_, ?_, ?_, ?_⟩ ?_) (n + 1) 0 0 0 0 g4 (by omega) rfl (fun _ => ⟨W2, rfl, by rw [wt_nb]; rfl⟩) (fun z => by omega) h10 h11 (fun k hk => by omega) (fun _ _ _ _ _ => rfl)
    · rw [qf _ _ (by omega) (by omega) (by omega)]; exact h9
    · intro s hs
      obtain ⟨o1, o2, o3, o4, o5⟩ := wo_ok hn hs
      have := ((qC _ o1).2.2.2.2 _ o4).1
      rw [← o5] at this; exact this
    · intro s hs
      obtain ⟨o1, o2, o3, o4, o5⟩ := wo_ok hn hs
      have := ((qC _ o1).2.2.2.2 _ o4).2.1
      rw [← o5] at this; exact this
    · intro s hs
      obtain ⟨o1, o2, o3, o4, o5⟩ := wo_ok hn hs
      have := ((qC _ o1).2.2.2.2 _ o4).2.2.1
      rw [← o5] at this; exact this
    · intro s hs
      obtain ⟨o1, o2, o3, o4, o5⟩ := wo_ok hn hs
      have := ((qC _ o1).2.2.2.2 _ o4).2.2.2
      rw [← o5] at this; exact this
    · intro a i z1 z2 z3
      rw [qf _ _ (by omega) z2 z3, fr _ _ z1]
  · have hfl : flaw b n ≠ -1 := fun z => c (by rw [h9]; exact z)
    have hW : Wn b n = 0 := Wn_0 hfl
    have hS : Sn b n w = 0 := by unfold Sn; rw [hW]; rfl
    refine h g4 ⟨h9, by rw [hW]; exact h10, by rw [hS]; exact h11, ?_, ?_, ?_, ?_, ?_, ?_, ?_, ?_⟩ (fun a i z1 _ _ => fr a i z1) <;> intro k hk <;> omega
end CUTD
