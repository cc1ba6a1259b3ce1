/-! the component's calls that read -/
section READC
variable {E : am_E} {g : GG} {fl : FF} {b : Nat → Int} {n : Nat} {w : Nat → Int} {mk' : Nat → Int} {td : Nat → Int} {N : Nat} {T : Nat → List Int} {P : Nat → Int} {Q : Int → GG → FF → Prop}
theorem RC.mk1 (h : RC b n w mk' td N T P g) (k : Nat) : -1 ≤ mk' k ∧ mk' k ≤ 60 := by rw [h.em]; exact mkS_in h.lt k
theorem RC.hB (h : RC b n w mk' td N T P g) : HI (Sn b n w) (loS b n w) (hiS b n w) (btS b n w mk') := HI_bt h.n60 (fun k _ => (h.mk1 k).1)
theorem RC.hI (h : RC b n w mk' td N T P g) : HI (Sn b n w) (loS b n w) (hiS b n w) (heP b n w mk').1 := by
  have hn := h.n60
  have hSl := Sn_le (b := b) (w := w) hn
  have hnz := nzc_le (h := btS b n w mk') (Sn b n w)
  exact (hearF_ok (V := (w 8).toNat) (WL_cut (b := b) (w := w) hn) 60 (btS b n w mk') 0 h.hB (by omega)).1
theorem mainC_ok (hn : n ≤ 60) (hC : CA b n w mk' g) {r : Nat} (hr : r = 25 ∨ r = 26) {h : Nat → Int} (hI : HI (Sn b n w) (loS b n w) (hiS b n w) h) (hh : ∀ s, s < Sn b n w → g r s = h s) {k : Nat} {v3 : Int} (h3 : v3 = k) (hk : k < Wn b n) (hq : Q (tw h (fs b n w k) (nc b n w k)) g fl) : cI E 94 [amR 21, amR 11, amR r, amI v3] g fl Q := by
  have hWl := Wn_le (b := b) (n := n) hn
  have hSl := Sn_le (b := b) (w := w) hn
  have hfm : fs b n w (k + 1) ≤ fs b n w (Wn b n) := fs_mono (by omega)
  have hfs1 : fs b n w (k + 1) = fs b n w k + nc b n w k := rfl
  have hSn : Sn b n w = fs b n w (Wn b n) := rfl
  have hz := (nc_word (w := w) hn hk).1
  have hwo : wo b n w (fs b n w k) = k := wo_is (by omega) (Nat.le_refl _) (by omega)
  have hlo : loS b n w (fs b n w k) = fs b n w k := by show fs b n w (wo b n w (fs b n w k)) = _; rw [hwo]
  have hhi : hiS b n w (fs b n w k) = fs b n w k + nc b n w k := by show fs b n w (wo b n w (fs b n w k)) + nc b n w (wo b n w (fs b n w k)) = _; rw [hwo]
  obtain ⟨m, m1, m2, m3⟩ := hI.e (fs b n w k) (by omega)
  rw [hlo] at m1; rw [hhi] at m2
  have hu : ∀ s, fs b n w k ≤ s → s < fs b n w k + nc b n w k → h s = 2 → s = m := fun s s1 s2 s3 => hI.u (fs b n w k) s m (by omega) (by rw [hlo]; exact s1) (by rw [hhi]; exact s2) (by rw [hlo]; exact m1) (by rw [hhi]; exact m2) s3 m3
  rw [tw_of m1 m2 m3 hu] at hq
  exact mainBeat_ok (by omega) h3 (by omega) (hC.cc.wF k hk) (hC.cc.wN k hk) (by omega) ⟨m1, m2⟩ (by rw [hh m (by omega)]; exact m3) (fun s s1 s2 => by rw [hh s (by omega)]; exact fun y => by have := hu s s1 (by omega) y; omega) hq
theorem ofWord_ok (hR : RC b n w mk' td N T P g) (hC : CA b n w mk' g) {k : Nat} {v1 v2 : Int} (hv1 : v1 = k) (hk : k < Wn b n) (h1 : Q (wdA b n w mk' k v2) g fl) : cI E 42 [amR 0, amI v1, amI v2] g fl Q := by
  have hn := hR.n60
  have hWl := Wn_le (b := b) (n := n) hn
  unfold wdA at h1
  refine b42 ⟨fun c => ?_, fun c => ?_, fun c => ?_, fun c => mainC_ok hn hC (Or.inl rfl) hR.hB (fun s hs => hC.bt hn hs) hv1 hk ?_, fun c => mainC_ok hn hC (Or.inr rfl) hR.hI hC.he hv1 hk ?_, fun c => isMarked_ok hv1 (by omega) (hC.mk1 k hk) (hC.cc.wN k hk) ?_, fun c => ?_⟩
  · rw [if_pos c] at h1; rw [rd_in hv1 (by omega), hC.cc.wF k hk]; exact h1
  · rw [if_neg (by omega), if_pos c] at h1; rw [rd_in hv1 (by omega), hC.cc.wN k hk]; exact h1
  · rw [if_neg (by omega), if_neg (by omega), if_pos c] at h1; rw [rd_in hv1 (by omega), (hC.wb k hk).n]; exact h1
  · rw [if_neg (by omega), if_neg (by omega), if_neg (by omega), if_pos c] at h1; exact h1
  · rw [if_neg (by omega), if_neg (by omega), if_neg (by omega), if_neg (by omega), if_pos c] at h1; exact h1
  · rw [if_neg (by omega), if_neg (by omega), if_neg (by omega), if_neg (by omega), if_neg (by omega), if_pos c] at h1
    by_cases c2 : isMk (mk' k) (nc b n w k)
    · rw [if_pos c2] at h1 ⊢; rw [b01_t (by omega)]; exact h1
    · rw [if_neg c2] at h1 ⊢; rw [b01_f (by omega)]; exact h1
  · rw [if_neg (by omega), if_neg (by omega), if_neg (by omega), if_neg (by omega), if_neg (by omega), if_neg (by omega)] at h1; exact h1
theorem ofSyll_ok (hR : RC b n w mk' td N T P g) (hC : CA b n w mk' g) {s : Nat} {v1 v2 : Int} (hv1 : v1 = s) (hs : s < Sn b n w) (h1 : Q (syA b n w mk' td s v2) g fl) : cI E 43 [amR 0, amI v1, amI v2] g fl Q := by
  have hn := hR.n60
  have hSl := Sn_le (b := b) (w := w) hn
  have hm := mo_S hn hR.ok hs
  obtain ⟨o1, o2, o3, o4, o5⟩ := wo_ok (w := w) hn hs
  have e : ∀ q, rd g q 60 v1 = g q s := fun q => rd_in hv1 (by omega)
  unfold syA at h1
  refine b43 ?_
  simp only [e]
  rw [hC.cc.sW s hs, hC.cc.sS s hs, hC.cc.sE s hs, hC.cc.sM s hs, hC.bt hn hs, hC.he s hs, hR.et]
  refine ⟨fun c => ?_, fun c => ?_, fun c => ⟨rgI (by omega) (by omega), ?_⟩, fun c => ?_, fun c => ?_, fun c => ?_, fun c => ?_, fun c => ?_, fun c => ?_⟩
  · rw [if_pos c] at h1; exact h1
  · rw [if_neg (by omega), if_pos c] at h1; exact h1
  · rw [if_neg (by omega), if_neg (by omega), if_pos c] at h1; exact h1
  · rw [if_neg (by omega), if_neg (by omega), if_neg (by omega), if_pos c] at h1; exact h1
  · rw [if_neg (by omega), if_neg (by omega), if_neg (by omega), if_neg (by omega), if_pos c] at h1
    have := (hC.wb _ o1).fo s o2 o3
    rw [show g 24 s = ftS b n w s from this]; exact h1
  · rw [if_neg (by omega), if_neg (by omega), if_neg (by omega), if_neg (by omega), if_neg (by omega), if_pos c] at h1; exact h1
  · rw [if_neg (by omega), if_neg (by omega), if_neg (by omega), if_neg (by omega), if_neg (by omega), if_neg (by omega), if_pos c] at h1; exact h1
  · rw [if_neg (by omega), if_neg (by omega), if_neg (by omega), if_neg (by omega), if_neg (by omega), if_neg (by omega), if_neg (by omega), if_pos c] at h1; exact h1
  · rw [if_neg (by omega), if_neg (by omega), if_neg (by omega), if_neg (by omega), if_neg (by omega), if_neg (by omega), if_neg (by omega), if_neg (by omega)] at h1; exact h1
theorem ofHear_ok (hC : CA b n w mk' g) {v1 : Int} (h1 : Q (hdA b n w mk' v1) g fl) : cI E 44 [amR 0, amI v1] g fl Q := by
  unfold hdA at h1
  refine b44 ⟨fun c => ?_, fun c => ?_, fun c => ?_, fun c => ?_, fun c => ?_⟩
  · rw [if_pos c] at h1; rw [hC.mv]; exact h1
  · rw [if_neg (by omega), if_pos c] at h1; rw [hC.c9]; exact h1
  · rw [if_neg (by omega), if_neg (by omega), if_pos c] at h1; rw [hC.c7]; exact h1
  · rw [if_neg (by omega), if_neg (by omega), if_neg (by omega), if_pos c] at h1; rw [hC.c8]; exact h1
  · rw [if_neg (by omega), if_neg (by omega), if_neg (by omega), if_neg (by omega)] at h1; exact h1
theorem ofNear_ok {v1 : Int} (hv : 0 ≤ v1 ∧ v1 ≤ 4) (e13 : g 0 13 = (nsA b n w mk' td).1) (e14 : g 0 14 = (nsA b n w mk' td).2) (h1 : Q (nstA (nsA b n w mk' td) v1) g fl) : cI E 41 [amR 0, amI v1] g fl Q := by
  obtain ⟨n1, n2, -⟩ := nsA_in (b := b) (n := n) (w := w) (mk' := mk') (td := td)
  obtain ⟨c, hc⟩ : ∃ c : Nat, (nsA b n w mk' td).1 = c := ⟨(nsA b n w mk' td).1.toNat, by omega⟩
  unfold nstA at h1
  refine b41 ⟨fun c1 => ?_, fun c1 => ⟨rgI (by omega) (by omega), footWay_ok (w := w) (c := c) (k := 4 + v1.toNat) (by rw [e13]; exact hc) (by omega) (by omega) (by omega) ?_⟩⟩
  · rw [if_neg (by omega), if_neg (by omega), if_neg (by omega), if_neg (by omega)] at h1; rw [e14]; exact h1
  · rw [hc] at h1
    rcases (show v1 = 0 ∨ v1 = 1 ∨ v1 = 2 ∨ v1 = 3 by omega) with z | z | z | z
    · rw [if_pos z] at h1; rw [show 4 + v1.toNat = 4 by omega, wc_4, show ((c / 12 : Nat) : Int) = (c : Int) / 12 by omega]; exact h1
    · rw [if_neg (by omega), if_pos z] at h1; rw [show 4 + v1.toNat = 5 by omega, wc_5, show ((c / 6 % 2 : Nat) : Int) = (c : Int) / 6 % 2 by omega]; exact h1
    · rw [if_neg (by omega), if_neg (by omega), if_pos z] at h1; rw [show 4 + v1.toNat = 6 by omega, wc_6, show ((c / 3 % 2 : Nat) : Int) = (c : Int) / 3 % 2 by omega]; exact h1
    · rw [if_neg (by omega), if_neg (by omega), if_neg (by omega), if_pos z] at h1; rw [show 4 + v1.toNat = 7 by omega, wc_7, show ((c % 3 : Nat) : Int) = (c : Int) % 3 by omega]; exact h1
theorem feetOf_ok (hn : n ≤ 60) (hC : CA b n w mk' g) (h1 : Q (faA b n w : Nat) g fl) : cI E 46 [amR 0] g fl Q := by
  have hWl := Wn_le (b := b) (n := n) hn
  have hSl := Sn_le (b := b) (w := w) hn
  have hW := hC.cc.W
  have hft : ∀ k, k < Wn b n → ftW b n w k ≤ 60 := fun k hk => by
    have hfm : fs b n w (k + 1) ≤ fs b n w (Wn b n) := fs_mono (by omega)
    have hfs1 : fs b n w (k + 1) = fs b n w k + nc b n w k := rfl
    have hSn : Sn b n w = fs b n w (Wn b n) := rfl
    have hz := (nc_word (w := w) hn hk).1
    have he := eKw_in (w := w) (p := fs b n w k) (z := nc b n w k) (by omega)
    have := cnt_le (st := stW (moS b n w) w (fs b n w k) (eKw w (fs b n w k) (nc b n w k))) (p := fs b n w k) (eKw w (fs b n w k) (nc b n w k) - fs b n w k)
    unfold ftW; omega
  have key : ∀ (f j : Nat) (v1 v2 : Int), j + f = Wn b n → v2 = j → v1 = (smF (ftW b n w) j : Nat) → am_X E 46 (4, (0, 0), [some (amR 0), some (amI v1), some (amI v2)], [], mk g fl) (RI Q) := by
    intro f
    induction f with
    | zero =>
      intro j v1 v2 hj h2 h3
      have : j = Wn b n := by omega
      subst this
      exact b46_4 ⟨fun c => absurd c (by omega), fun _ => by rw [h3]; exact h1⟩
    | succ f ih =>
      intro j v1 v2 hj h2 h3
      have hc := smF_const (f := ftW b n w) (c := 60) (n := j) (fun k hk => hft k (by omega))
      have hj2 := hft j (by omega)
      have e : rd g 28 30 v2 = (ftW b n w j : Nat) := by rw [rd_in h2 (by omega)]; exact (hC.wb j (by omega)).n
      refine b46_4 ⟨fun _ => ?_, fun c => absurd (by omega) c⟩
      rw [e]
      exact ⟨rgI (by omega) (by omega), rgI (by omega) (by omega), ih (j + 1) _ _ (by omega) (by omega) (by rw [smF_s]; omega)⟩
  exact b46 (key (Wn b n) 0 0 0 (by omega) rfl rfl)
theorem heavyOnes_ok (hn : n ≤ 60) (hC : CA b n w mk' g) (h1 : Q (hvA b n w : Nat) g fl) : cI E 75 [amR 11] g fl Q := by
  have hSl := Sn_le (b := b) (w := w) hn
  have hS := hC.cc.S
  have key : ∀ (f j : Nat) (v1 v2 : Int), j + f = Sn b n w → v2 = j → v1 = (ctB (fun s => 2 ≤ moS b n w s) j : Nat) → am_X E 75 (4, (0, 0), [some (amR 11), some (amI v1), some (amI v2)], [], mk g fl) (RI Q) := by
    intro f
    induction f with
    | zero =>
      intro j v1 v2 hj h2 h3
      have : j = Sn b n w := by omega
      subst this
      exact b75_4 ⟨fun c => absurd c (by omega), fun _ => by rw [h3]; exact h1⟩
    | succ f ih =>
      intro j v1 v2 hj h2 h3
      have hc := ctB_le (p := fun s => 2 ≤ moS b n w s) j
      refine b75_4 ⟨fun _ => isHeavy_ok (mo := moS b n w) h2 (by omega) (hC.cc.sM j (by omega)) ?_, fun c => absurd (by omega) c⟩
      by_cases c : 2 ≤ moS b n w j
      · rw [if_pos c]
        exact ⟨fun y => absurd y (by omega), fun _ => ⟨rgI (by omega) (by omega), rgI (by omega) (by omega), ih (j + 1) _ _ (by omega) (by omega) (by rw [ctB_s, if_pos c]; omega)⟩⟩
      · rw [if_neg c]
        exact ⟨fun _ => ⟨rgI (by omega) (by omega), ih (j + 1) _ _ (by omega) (by omega) (by rw [ctB_s, if_neg c]; omega)⟩, fun y => absurd rfl y⟩
  exact b75 (key (Sn b n w) 0 0 0 (by omega) rfl rfl)
theorem heardBeats_ok (hS60 : Sn b n w ≤ 60) (hS : g 11 11 = Sn b n w) (hh : ∀ s, s < Sn b n w → g 26 s = (heP b n w mk').1 s) (h1 : Q (hnA b n w mk' : Nat) g fl) : cI E 47 [amR 0] g fl Q := by
  have key : ∀ (f j : Nat) (v1 v2 : Int), j + f = Sn b n w → v2 = j → v1 = (ctB (fun s => (heP b n w mk').1 s ≠ 0) j : Nat) → am_X E 47 (4, (0, 0), [some (amR 0), some (amI v1), some (amI v2)], [], mk g fl) (RI Q) := by
    intro f
    induction f with
    | zero =>
      intro j v1 v2 hj h2 h3
      have : j = Sn b n w := by omega
      subst this
      exact b47_4 ⟨fun c => absurd c (by omega), fun _ => by rw [h3]; exact h1⟩
    | succ f ih =>
      intro j v1 v2 hj h2 h3
      have hc := ctB_le (p := fun s => (heP b n w mk').1 s ≠ 0) j
      have e : rd g 26 60 v2 = (heP b n w mk').1 j := by rw [rd_in h2 (by omega)]; exact hh j (by omega)
      refine b47_4 ⟨fun _ => ?_, fun c => absurd (by omega) c⟩
      rw [e]
      exact ⟨fun c => ⟨rgI (by omega) (by omega), ih (j + 1) _ _ (by omega) (by omega) (by rw [ctB_s, if_neg (fun y => y c)]; omega)⟩, fun c => ⟨rgI (by omega) (by omega), rgI (by omega) (by omega), ih (j + 1) _ _ (by omega) (by omega) (by rw [ctB_s, if_pos c]; omega)⟩⟩
  exact b47 (key (Sn b n w) 0 0 0 (by omega) rfl rfl)
theorem morasOfC_ok (hn : n ≤ 60) (hwo : waysOK w) (hC : CA b n w mk' g) {v1 : Int} (h0 : v1 = 0 → Q (maA b n w : Nat) g fl) (h1 : v1 ≠ 0 → Q (mhA b n w mk' : Nat) g fl) : cI E 48 [amR 0, amI v1] g fl Q := by
  have hSl := Sn_le (b := b) (w := w) hn
  have hS := hC.cc.S
  have key : ∀ (F : Nat → Nat), (∀ s, s < Sn b n w → F s ≤ 4) → (v1 = 0 → ∀ s, s < Sn b n w → F s = moS b n w s) → (v1 ≠ 0 → ∀ s, s < Sn b n w → F s = if (heP b n w mk').1 s ≠ 0 then moS b n w s else 0) → Q (smF F (Sn b n w) : Nat) g fl → ∀ (f j : Nat) (v2 v3 : Int), j + f = Sn b n w → v3 = j → v2 = (smF F j : Nat) → am_X E 48 (4, (0, 0), [some (amR 0), some (amI v1), some (amI v2), some (amI v3)], [], mk g fl) (RI Q) := by
    intro F hF4 hF0 hF1 hq f
    induction f with
    | zero =>
      intro j v2 v3 hj h2 h3
      have : j = Sn b n w := by omega
      subst this
      exact b48_4 ⟨fun c => absurd c (by omega), fun _ => by rw [h3]; exact hq⟩
    | succ f ih =>
      intro j v2 v3 hj h2 h3
      have hc := smF_const (f := F) (c := 4) (n := j) (fun k hk => hF4 k (by omega))
      have h4 := hF4 j (by omega)
      have e20 : rd g 20 60 v3 = (moS b n w j : Nat) := by rw [rd_in h2 (by omega)]; exact hC.cc.sM j (by omega)
      have e26 : rd g 26 60 v3 = (heP b n w mk').1 j := by rw [rd_in h2 (by omega)]; exact hC.he j (by omega)
      have hm := mo_S hn hwo (s := j) (b := b) (w := w) (by omega)
      refine b48_4 ⟨fun _ => ?_, fun c => absurd (by omega) c⟩
      rw [e20, e26]
      refine ⟨fun c => ?_, fun c => ⟨fun c2 => ?_, fun c2 => ?_⟩⟩
      · have := hF0 c j (by omega)
        exact ⟨rgI (by omega) (by omega), rgI (by omega) (by omega), ih (j + 1) _ _ (by omega) (by omega) (by rw [smF_s]; omega)⟩
      · have := hF1 c j (by omega)
        rw [if_neg (fun y => y c2)] at this
        exact ⟨rgI (by omega) (by omega), ih (j + 1) _ _ (by omega) (by omega) (by rw [smF_s]; omega)⟩
      · have := hF1 c j (by omega)
        rw [if_pos c2] at this
        exact ⟨rgI (by omega) (by omega), rgI (by omega) (by omega), ih (j + 1) _ _ (by omega) (by omega) (by rw [smF_s]; omega)⟩
  refine b48 ?_
  by_cases c : v1 = 0
  · exact key (moS b n w) (fun s hs => (mo_S hn hwo hs).2.1) (fun _ s _ => rfl) (fun y => absurd c y) (h0 c) (Sn b n w) 0 0 0 (by omega) rfl rfl
  · refine key (fun s => if (heP b n w mk').1 s ≠ 0 then moS b n w s else 0) (fun s hs => ?_) (fun y => absurd y c) (fun _ s _ => rfl) (h1 c) (Sn b n w) 0 0 0 (by omega) rfl rfl
    have := (mo_S hn hwo hs).2.1
    show (if _ then _ else _ : Nat) ≤ 4
    split <;> omega
theorem countOfC_ok {v1 f : Int} (hR : RC b n w mk' td N T P g) (hC : CA b n w mk' g) (hf : g 0 12 = f) (h : Q (cntA b n w mk' N f v1) g fl) : cI E 45 [amR 0, amI v1] g fl Q := by
  have hn := hR.n60
  have hSl := Sn_le (b := b) (w := w) hn
  unfold cntA at h
  refine b45 ⟨fun c => ?_, fun c => ?_, fun c => ?_, fun c => feetOf_ok hn hC ?_, fun c => heavyOnes_ok hn hC ?_, fun c => ?_, fun c => heardBeats_ok (by omega) hC.cc.S hC.he ?_, fun c => morasOfC_ok hn hR.ok hC (fun _ => ?_) (fun y => absurd rfl y), fun c => ?_, fun c => ?_⟩
  · rw [if_pos c] at h; rw [hR.gn]; exact h
  · rw [if_neg (by omega), if_pos c] at h; rw [hC.cc.W]; exact h
  · rw [if_neg (by omega), if_neg (by omega), if_pos c] at h; rw [hC.cc.S]; exact h
  · rw [if_neg (by omega), if_neg (by omega), if_neg (by omega), if_pos c] at h; exact h
  · rw [if_neg (by omega), if_neg (by omega), if_neg (by omega), if_neg (by omega), if_pos c] at h; exact h
  · rw [if_neg (by omega), if_neg (by omega), if_neg (by omega), if_neg (by omega), if_neg (by omega), if_pos c] at h; rw [hR.lx.s]; exact h
  · rw [if_neg (by omega), if_neg (by omega), if_neg (by omega), if_neg (by omega), if_neg (by omega), if_neg (by omega), if_pos c] at h; exact h
  · rw [if_neg (by omega), if_neg (by omega), if_neg (by omega), if_neg (by omega), if_neg (by omega), if_neg (by omega), if_neg (by omega), if_pos c] at h; exact h
  · rw [if_neg (by omega), if_neg (by omega), if_neg (by omega), if_neg (by omega), if_neg (by omega), if_neg (by omega), if_neg (by omega), if_neg (by omega), if_pos c] at h; rw [hf]; exact h
  · rw [if_neg (by omega), if_neg (by omega), if_neg (by omega), if_neg (by omega), if_neg (by omega), if_neg (by omega), if_neg (by omega), if_neg (by omega), if_neg (by omega)] at h; exact h
theorem likeC_ok (hR : RC b n w mk' td N T P g) (hC : CA b n w mk' g) (h : Q (nrA b n w mk' td : Nat) g fl) : cI E 95 [amR 21, amR 11, amR 4] g fl Q := by
  have hSl := Sn_le (b := b) (w := w) hR.n60
  exact likeTold_ok (Or.inl rfl) hC.cc.S (by omega) hC.he (td := td) (fun s _ => by rw [hR.et]) h
theorem shareBits_ok {v1 : Int} (hR : RC b n w mk' td N T P g) (hC : CA b n w mk' g) (h : Q (shA b n w mk' td v1) g fl) : cI E 49 [amR 0, amI v1] g fl Q := by
  have hn := hR.n60
  have hSl := Sn_le (b := b) (w := w) hn
  have hma := maA_le (b := b) hn hR.ok
  have hmh := mhA_le (b := b) (n := n) (w := w) (mk' := mk')
  have hnr : nrA b n w mk' td ≤ Sn b n w := ctB_le _
  have hhv : hvA b n w ≤ Sn b n w := ctB_le _
  unfold shA at h
  refine b49 ⟨fun c => likeC_ok hR hC (bitsC_ok rfl hC.cc.S (by omega) hnr ?_), fun c => heavyOnes_ok hn hC (bitsC_ok rfl hC.cc.S (by omega) hhv ?_), fun c => morasOfC_ok hn hR.ok hC (fun y => absurd y (by omega)) (fun _ => morasOfC_ok hn hR.ok hC (fun _ => bitsC_ok rfl rfl hma hmh ?_) (fun y => absurd rfl y)), fun c => ?_⟩
  · rw [if_pos c] at h; exact h
  · rw [if_neg (by omega), if_pos c] at h; exact h
  · rw [if_neg (by omega), if_neg (by omega), if_pos c] at h; exact h
  · rw [if_neg (by omega), if_neg (by omega), if_neg (by omega)] at h; exact h
theorem clashC (hC : CA b n w mk' g) {k : Nat} (hk : k < cbA b n w mk') : g 27 k = clA b n w mk' k := by
  obtain ⟨s, s1, s2, s3⟩ := ctB_nth hk
  have := hC.cg s s1 s2
  rw [s3] at this
  rw [this]
  unfold clA
  rw [nthF_of s2 (by rw [s3]) s1]
end READC
