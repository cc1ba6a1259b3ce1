/-! what is heard: the reference -/
section HEARM
variable {E : am_E} {g : GG} {fl : FF} {b : Nat → Int} {n : Nat} {w : Nat → Int} {h : Nat → Int} {S V : Nat}
theorem CW_cut (hn : n ≤ 60) {mk' : Nat → Int} (hm : ∀ k, k < Wn b n → -1 ≤ mk' k ∧ mk' k ≤ 60) : CW (Wn b n) (Sn b n w) (fs b n w) (nc b n w) mk' :=
  ⟨Wn_le hn, by have := Sn_le (b := b) (w := w) hn; omega, hm, fun k hk => by have := (nc_word (w := w) hn hk).1; omega, fun k _ => rfl, rfl, rfl⟩
theorem WS_cut (hn : n ≤ 60) {mk' : Nat → Int} (hm : ∀ k, k < Wn b n → -1 ≤ mk' k ∧ mk' k ≤ 60) : WS (Wn b n) (Sn b n w) (fs b n w) (nc b n w) mk' (wo b n w) :=
  ⟨CW_cut hn hm, fun s hs => by
    obtain ⟨o1, o2, o3, o4, o5⟩ := wo_ok (w := w) hn hs
    exact ⟨o1, o2, o3⟩⟩
theorem nextBeat_ok {Q : Int → GG → FF → Prop} {q : Nat} (hq : q = 66 ∨ q = 67) {k : Nat} {v2 : Int} (h2 : v2 = k) (hS : g 49 13 = S) (hS60 : S ≤ 60) (hk : k < S) (hh : ∀ s, s < S → g q s = h s) (h1 : Q (nx h S (k + 1) : Nat) g fl) : cI E 124 [amR 49, amR q, amI v2] g fl Q := by
  have key : ∀ (f j : Nat) (v3 : Int), j + f = S → v3 = j → k + 1 ≤ j → (∀ i, k + 1 ≤ i → i < j → h i = 0) → am_X E 124 (4, (0, 0), [some (amR 49), some (amR q), some (amI v2), some (amI v3)], [], mk g fl) (RI Q) := by
    intro f
    induction f with
    | zero =>
      intro j v3 hf h3 hj hz
      refine b124_4 hq ⟨fun c => absurd c (by omega), fun _ => ?_⟩
      rw [nx_of hj (by omega) hz (fun y => by omega)] at h1
      rw [h3]; exact h1
    | succ f ih =>
      intro j v3 hf h3 hj hz
      have e : g q (Int.toNat v3) = h j := by rw [toNat_eq h3]; exact hh j (by omega)
      refine b124_4 hq ⟨fun _ => ⟨by omega, fun c => ⟨rgI (by omega) (by omega), ih (j + 1) _ (by omega) (by omega) (by omega) (fun i z1 z2 => ?_)⟩, fun c => ?_⟩, fun c => absurd (by omega) c⟩
      · by_cases hi : i = j
        · rw [hi, ← e]; exact c
        · exact hz i z1 (by omega)
      · rw [nx_of hj (by omega) hz (fun y => by rw [← e]; exact c)] at h1
        rw [h3]; exact h1
  exact b124 hq ⟨rgI (by omega) (by omega), key (S - (k + 1)) (k + 1) _ (by omega) (by omega) (Nat.le_refl _) (fun i z1 z2 => by omega)⟩
theorem isClash_ok {Q : Int → GG → FF → Prop} {q : Nat} (hq : q = 66 ∨ q = 67) {k : Nat} {v2 : Int} (h2 : v2 = k) (hS : g 49 13 = S) (hS60 : S ≤ 60) (hV : g 51 8 = V) (hV3 : V ≤ 3) (hk : k < S) (hh : ∀ s, s < S → g q s = h s) (h0 : 0 ≤ h k) (h1 : Q (if cl S V h k then 1 else 0) g fl) : cI E 125 [amR 49, amR q, amI v2] g fl Q := by
  have e : g q (Int.toNat v2) = h k := by rw [toNat_eq h2]; exact hh k hk
  obtain ⟨n1, n2, n3, n4⟩ := nx_ok (h := h) (S := S) (s := k + 1) (by omega)
  refine b125 hq (nextBeat_ok hq h2 hS hS60 hk hh ⟨by omega, fun c => ⟨fun c2 => ⟨rgI (by omega) (by omega), ?_⟩, fun c2 => ?_⟩, fun c => ?_⟩)
  · by_cases c3 : nx h S (k + 1) ≤ k + V
    · rw [b01_t (by omega)]; rw [if_pos ⟨by omega, by omega, c3⟩] at h1; exact h1
    · rw [b01_f (by omega)]; rw [if_neg (fun y => c3 y.2.2)] at h1; exact h1
  · rw [if_neg (fun y => c2 (by have := y.2.1; omega))] at h1; exact h1
  · rw [if_neg (fun y => y.1 (by omega))] at h1; exact h1
theorem clashes_ok {Q : Int → GG → FF → Prop} {q : Nat} (hq : q = 66 ∨ q = 67) (hS : g 49 13 = S) (hS60 : S ≤ 60) (hV : g 51 8 = V) (hV3 : V ≤ 3) (hh : ∀ s, s < S → g q s = h s) (h0 : ∀ s, s < S → 0 ≤ h s) (h1 : Q (ctB (cl S V h) S : Nat) g fl) : cI E 126 [amR 49, amR q] g fl Q := by
  have key : ∀ (f j : Nat) (v2 v3 : Int), j + f = S → v3 = j → v2 = (ctB (cl S V h) j : Nat) → am_X E 126 (4, (0, 0), [some (amR 49), some (amR q), some (amI v2), some (amI v3)], [], mk g fl) (RI Q) := by
    intro f
    induction f with
    | zero =>
      intro j v2 v3 hf h3 h2
      have hj : j = S := by omega
      subst hj
      exact b126_4 hq ⟨fun c => absurd c (by omega), fun _ => by rw [h2]; exact h1⟩
    | succ f ih =>
      intro j v2 v3 hf h3 h2
      have hc := ctB_le (p := cl S V h) j
      refine b126_4 hq ⟨fun _ => isClash_ok hq h3 hS hS60 hV hV3 (by omega) hh (h0 j (by omega)) ?_, fun c => absurd (by omega) c⟩
      by_cases c : cl S V h j
      · rw [if_pos c, b01_t (by omega)]
        exact ⟨rgI (by omega) (by omega), rgI (by omega) (by omega), ih (j + 1) _ _ (by omega) (by omega) (by rw [ctB_s, if_pos c]; omega)⟩
      · rw [if_neg c, b01_f (by omega)]
        exact ⟨rgI (by omega) (by omega), rgI (by omega) (by omega), ih (j + 1) _ _ (by omega) (by omega) (by rw [ctB_s, if_neg c]; omega)⟩
  exact b126 hq (key S 0 0 0 (by omega) rfl rfl)
theorem otherA_ok {Q : Int → GG → FF → Prop} (hn : n ≤ 60) (hC : MC b n w g) {k : Nat} {v1 : Int} (h1 : v1 = k) (hk : k < Sn b n w) (hh : ∀ s, s < Sn b n w → g 67 s = h s) (hq : Q (ahF h (wlo (fs b n w) (wo b n w) k) k) g fl) : cI E 127 [amR 49, amI v1, amI (-1)] g fl Q := by
  have hSl := Sn_le (b := b) (w := w) hn
  have hWl := Wn_le (b := b) (n := n) hn
  obtain ⟨o1, o2, o3, o4, o5⟩ := wo_ok (w := w) hn hk
  have e56 : g 56 (Int.toNat v1) = wo b n w k := by rw [toNat_eq h1]; exact hC.sW k hk
  have e55 : g 55 (Int.toNat (g 56 (Int.toNat v1))) = fs b n w (wo b n w k) := by rw [e56, Int.toNat_natCast]; exact hC.wF _ (by omega)
  have e55' : g 55 (Int.toNat (g 56 (Int.toNat v1) + 1)) = fs b n w (wo b n w k + 1) := by rw [e56, toNat_eq (x := (wo b n w k : Int) + 1) (k := wo b n w k + 1) (by omega)]; exact hC.wF _ (by omega)
  have key : ∀ (j : Nat) (v3 : Int), j ≤ k → v3 = (j : Int) - 1 → Q (ahF h (fs b n w (wo b n w k)) j) g fl → am_X E 127 (4, (0, 0), [some (amR 49), some (amI v1), some (amI (-1)), some (amI v3)], [], mk g fl) (RI Q) := by
    intro j
    induction j with
    | zero =>
      intro v3 hj h3 hq
      refine b127_4 ⟨by omega, by omega, fun _ => hq, fun c => absurd (by omega) c⟩
    | succ j ih =>
      intro v3 hj h3 hq
      unfold ahF at hq
      have e67 : g 67 (Int.toNat v3) = h j := by rw [toNat_eq (k := j) (by omega)]; exact hh j (by omega)
      refine b127_4 ⟨by omega, by omega, fun c => ?_, fun c => ⟨rgI (by omega) (by omega), by omega, fun c2 => ⟨by omega, fun c3 => ?_, fun c3 => ⟨rgI (by omega) (by omega), ih _ (by omega) (by omega) ?_⟩⟩, fun c2 => absurd (by omega) c2⟩⟩
      · rw [if_pos (by omega)] at hq; exact hq
      · rw [if_neg (by omega), if_pos (by omega)] at hq
        rw [show v3 = j by omega]; exact hq
      · rw [if_neg (by omega), if_neg (by omega)] at hq; exact hq
  exact b127 ⟨rgI (by omega) (by omega), key k _ (Nat.le_refl _) (by omega) hq⟩
theorem otherB_ok {Q : Int → GG → FF → Prop} (hn : n ≤ 60) (hC : MC b n w g) {k : Nat} {v1 : Int} (h1 : v1 = k) (hk : k < Sn b n w) (hh : ∀ s, s < Sn b n w → g 67 s = h s) (hq : Q (bh h (whi (fs b n w) (nc b n w) (wo b n w) k) k) g fl) : cI E 127 [amR 49, amI v1, amI 1] g fl Q := by
  have hSl := Sn_le (b := b) (w := w) hn
  have hWl := Wn_le (b := b) (n := n) hn
  obtain ⟨o1, o2, o3, o4, o5⟩ := wo_ok (w := w) hn hk
  have hfm : fs b n w (wo b n w k + 1) ≤ fs b n w (Wn b n) := fs_mono (by omega)
  have hSn : Sn b n w = fs b n w (Wn b n) := rfl
  have hfs1 : fs b n w (wo b n w k + 1) = fs b n w (wo b n w k) + nc b n w (wo b n w k) := rfl
  have e56 : g 56 (Int.toNat v1) = wo b n w k := by rw [toNat_eq h1]; exact hC.sW k hk
  have e55 : g 55 (Int.toNat (g 56 (Int.toNat v1))) = fs b n w (wo b n w k) := by rw [e56, Int.toNat_natCast]; exact hC.wF _ (by omega)
  have e55' : g 55 (Int.toNat (g 56 (Int.toNat v1) + 1)) = fs b n w (wo b n w k + 1) := by rw [e56, toNat_eq (x := (wo b n w k : Int) + 1) (k := wo b n w k + 1) (by omega)]; exact hC.wF _ (by omega)
  have key : ∀ (f j : Nat) (v3 : Int), fs b n w (wo b n w k + 1) ≤ j + f → k < j → v3 = j → Q (bhF h (fs b n w (wo b n w k) + nc b n w (wo b n w k)) f j) g fl → am_X E 127 (4, (0, 0), [some (amR 49), some (amI v1), some (amI 1), some (amI v3)], [], mk g fl) (RI Q) := by
    intro f
    induction f with
    | zero =>
      intro j v3 hf hj h3 hq
      refine b127_4 ⟨by omega, by omega, fun c => absurd c (by omega), fun _ => ⟨rgI (by omega) (by omega), by omega, fun c2 => absurd c2 (by omega), fun _ => hq⟩⟩
    | succ f ih =>
      intro j v3 hf hj h3 hq
      unfold bhF at hq
      refine b127_4 ⟨by omega, by omega, fun c => absurd c (by omega), fun _ => ⟨rgI (by omega) (by omega), by omega, fun c2 => ⟨by omega, fun c3 => ?_, fun c3 => ⟨rgI (by omega) (by omega), ih (j + 1) _ (by omega) (by omega) (by omega) ?_⟩⟩, fun c2 => ?_⟩⟩
      · rw [toNat_eq h3, hh j (by omega)] at c3
        rw [if_pos (by omega), if_pos c3] at hq
        rw [h3]; exact hq
      · rw [toNat_eq h3, hh j (by omega)] at c3
        rw [if_pos (by omega), if_neg c3] at hq; exact hq
      · rw [if_neg (by omega)] at hq; exact hq
  exact b127 ⟨rgI (by omega) (by omega), key (fs b n w (wo b n w k) + nc b n w (wo b n w k) - (k + 1)) (k + 1) _ (by omega) (by omega) (by omega) hq⟩
end HEARM
