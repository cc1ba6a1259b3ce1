/-! the component's digest, its public reading calls -/
section PUBC
variable {E : am_E} {g : GG} {fl : FF} {b : Nat → Int} {n : Nat} {w : Nat → Int} {mk' : Nat → Int} {td : Nat → Int} {N : Nat} {T : Nat → List Int} {P : Nat → Int}
theorem digestWords_ok {Q : Int64 → GG → FF → Prop} {v1 : Int64} (hR : RC b n w mk' td N T P g) (hC : CA b n w mk' g)
    (h : Q (dgS b n w mk' td (Sn b n w) (dgW b n w mk' (Wn b n) v1)) g fl) : cL E 51 [amR 0, amL v1] g fl Q := by
  have hn := hR.n60
  have hWl := Wn_le (b := b) (n := n) hn
  have hSl := Sn_le (b := b) (w := w) hn
  have hW := hC.cc.W
  have hS := hC.cc.S
  obtain ⟨d2, e2⟩ : ∃ d2, d2 = dgW b n w mk' (Wn b n) v1 := ⟨_, rfl⟩
  rw [← e2] at h
  have k41 : ∀ (f s : Nat) (v3 : Int64) (v5 : Int), s + f = Sn b n w → v5 = s → v3 = dgS b n w mk' td s d2 → am_X E 51 (41, (0, 0), [some (amR 0), some (amL v1), none, some (amL v3), none, some (amI v5), none], [], mk g fl) (RL Q) := by
    intro f
    induction f with
    | zero =>
      intro s v3 v5 hs h5 h3
      have : s = Sn b n w := by omega
      subst this
      exact b51_41 ⟨fun c => absurd c (by omega), fun _ => by rw [h3]; exact h⟩
    | succ f ih =>
      intro s v3 v5 hs h5 h3
      have k48 : ∀ (f2 j : Nat) (v3 : Int64) (v6 : Int), j + f2 = 8 → v6 = j → v3 = dgF (fun x => syA b n w mk' td s x) j (dgS b n w mk' td s d2) → am_X E 51 (48, (0, 0), [some (amR 0), some (amL v1), none, some (amL v3), none, some (amI v5), some (amI v6)], [], mk g fl) (RL Q) := by
        intro f2
        induction f2 with
        | zero =>
          intro j v3 v6 hj h6 h3
          have : j = 8 := by omega
          subst this
          exact b51_48 ⟨fun c => ⟨rgI (by omega) (by omega), ih (s + 1) _ _ (by omega) (by omega) h3⟩, fun c => absurd (by omega) c⟩
        | succ f2 ih2 =>
          intro j v3 v6 hj h6 h3
          refine b51_48 ⟨fun c => absurd c (by omega), fun _ => ofSyll_ok hR hC h5 (by omega) ⟨rgI (by omega) (by omega), ih2 (j + 1) _ _ (by omega) (by omega) ?_⟩⟩
          rw [dgF_s, ← h3, h6]; rfl
      exact b51_41 ⟨fun _ => k48 8 0 _ 0 (by omega) rfl h3, fun c => absurd (by omega) c⟩
  have k4 : ∀ (f s : Nat) (v3 : Int64) (v5 : Int), s + f = Wn b n → v5 = s → v3 = dgW b n w mk' s v1 → am_X E 51 (4, (0, 0), [some (amR 0), some (amL v1), none, some (amL v3), none, some (amI v5), none], [], mk g fl) (RL Q) := by
    intro f
    induction f with
    | zero =>
      intro s v3 v5 hs h5 h3
      have : s = Wn b n := by omega
      subst this
      exact b51_4 ⟨fun c => absurd c (by omega), fun _ => k41 (Sn b n w) 0 _ 0 (by omega) rfl (by rw [h3, ← e2]; rfl)⟩
    | succ f ih =>
      intro s v3 v5 hs h5 h3
      have k11 : ∀ (f2 j : Nat) (v3 : Int64) (v6 : Int), j + f2 = 6 → v6 = j → v3 = dgF (fun x => wdA b n w mk' s x) j (dgW b n w mk' s v1) → am_X E 51 (11, (0, 0), [some (amR 0), some (amL v1), none, some (amL v3), none, some (amI v5), some (amI v6)], [], mk g fl) (RL Q) := by
        intro f2
        induction f2 with
        | zero =>
          intro j v3 v6 hj h6 h3
          have : j = 6 := by omega
          subst this
          refine b51_11 ⟨fun c => ⟨rgI (by omega) (by omega), ih (s + 1) _ _ (by omega) (by omega) ?_⟩, fun c => absurd (by omega) c⟩
          rw [h3, rd_in h5 (by omega), hC.mk1 s (by omega)]; rfl
        | succ f2 ih2 =>
          intro j v3 v6 hj h6 h3
          refine b51_11 ⟨fun c => absurd c (by omega), fun _ => ofWord_ok hR hC h5 (by omega) ⟨rgI (by omega) (by omega), ih2 (j + 1) _ _ (by omega) (by omega) ?_⟩⟩
          rw [dgF_s, ← h3, h6]; rfl
      exact b51_4 ⟨fun _ => k11 6 0 _ 0 (by omega) rfl h3, fun c => absurd (by omega) c⟩
  exact b51 (k4 (Wn b n) 0 _ 0 (by omega) rfl rfl)
theorem digestC_ok {Q : Int64 → GG → FF → Prop} (hR : RC b n w mk' td N T P g) (h : ∀ g' : GG, KC g g' → RC b n w mk' td N T P g' → Q (dgA b n w mk' td N (g 0 12)) g' fl) : cL E 27 [amR 0] g fl Q := by
  have hn := hR.n60
  have hl := txA_le hn hR.ok (h := (heP b n w mk').1) (b := b) (m := Sn b n w) (Nat.le_refl _)
  have hll : (txL b n w mk').length ≤ 180 := hl
  have hSl := Sn_le (b := b) (w := w) hn
  have hcb : cbA b n w mk' ≤ Sn b n w := ctB_le _
  refine b27 (refresh_ok hR (fun g0 C0 h15 R0 k0 => seek_ok R0 C0 h15 (fun g1 C1 h15' R1 k1 e13 e14 => ?_)))
  have h := h g1 (k0.trans k1) R1
  have hf : g1 0 12 = g 0 12 := (k0.trans k1) 0 12 (by omega) (by omega) (by omega) (by omega)
  obtain ⟨d1, e1⟩ : ∃ d1, d1 = dg1 b n w mk' N (g 0 12) := ⟨_, rfl⟩
  obtain ⟨d2, e2⟩ : ∃ d2, d2 = dg2 b n w mk' td N (g 0 12) := ⟨_, rfl⟩
  obtain ⟨d2b, e2b⟩ : ∃ d2b, d2b = dgF (fun k => clA b n w mk' k) (cbA b n w mk') d2 := ⟨_, rfl⟩
  obtain ⟨d3, e3⟩ : ∃ d3, d3 = dg3 b n w mk' td N (g 0 12) := ⟨_, rfl⟩
  obtain ⟨d4, e4⟩ : ∃ d4, d4 = dg4 b n w mk' td N (g 0 12) := ⟨_, rfl⟩
  obtain ⟨d5, e5⟩ : ∃ d5, d5 = dg5 b n w mk' td N (g 0 12) := ⟨_, rfl⟩
  have k126 : ∀ (f j : Nat) (v1 : Int64) (v3 : Int), j + f = (txL b n w mk').length → v3 = j → v1 = dgF (fun i => (txL b n w mk').getD i 0) j d5 → am_X E 27 (126, (0, 0), [some (amR 0), some (amL v1), none, some (amI v3)], [], mk g1 fl) (RL Q) := by
    intro f
    induction f with
    | zero =>
      intro j v1 v3 hj h3 h1
      have : j = (txL b n w mk').length := by omega
      subst this
      have htl := C1.tl
      refine b27_126 ⟨fun c => absurd c (by omega), fun _ => ?_⟩
      rw [h1, e5]; exact h
    | succ f ih =>
      intro j v1 v3 hj h3 h1
      have htl := C1.tl
      refine b27_126 ⟨fun _ => ⟨rgI (by omega) (by omega), ih (j + 1) _ _ (by omega) (by omega) ?_⟩, fun c => absurd (by omega) c⟩
      rw [dgF_s, ← h1, rd_in h3 (by omega), C1.tx.at (by omega)]; rfl
  have k102 : ∀ (f j : Nat) (v1 : Int64) (v3 : Int), j + f = 3 → v3 = j → v1 = dgF (fun x => shA b n w mk' td x) j d4 → am_X E 27 (102, (0, 0), [some (amR 0), some (amL v1), none, some (amI v3)], [], mk g1 fl) (RL Q) := by
    intro f
    induction f with
    | zero =>
      intro j v1 v3 hj h3 h1
      have : j = 3 := by omega
      subst this
      refine b27_102 ⟨fun c => k126 (txL b n w mk').length 0 _ 0 (by omega) rfl ?_, fun c => absurd (by omega) c⟩
      rw [h1, C1.tl, e4]
      show _ = d5
      rw [e5]; unfold dg5; rfl
    | succ f ih =>
      intro j v1 v3 hj h3 h1
      refine b27_102 ⟨fun c => absurd c (by omega), fun _ => shareBits_ok R1 C1 ⟨rgI (by omega) (by omega), ih (j + 1) _ _ (by omega) (by omega) ?_⟩⟩
      rw [dgF_s, ← h1, h3]; rfl
  have k86 : ∀ (f j : Nat) (v1 : Int64) (v3 : Int), j + f = 5 → v3 = j → v1 = dgF (fun x => nstA (nsA b n w mk' td) x) j (dgI d3 (nrA b n w mk' td : Nat)) → am_X E 27 (86, (0, 0), [some (amR 0), some (amL v1), none, some (amI v3)], [], mk g1 fl) (RL Q) := by
    intro f
    induction f with
    | zero =>
      intro j v1 v3 hj h3 h1
      have : j = 5 := by omega
      subst this
      refine b27_86 ⟨fun c => k102 3 0 _ 0 (by omega) rfl ?_, fun c => absurd (by omega) c⟩
      rw [h1, e3]
      show _ = d4
      rw [e4]; unfold dg4; rfl
    | succ f ih =>
      intro j v1 v3 hj h3 h1
      refine b27_86 ⟨fun c => absurd c (by omega), fun _ => ofNear_ok (by omega) e13 e14 ⟨rgI (by omega) (by omega), ih (j + 1) _ _ (by omega) (by omega) ?_⟩⟩
      rw [dgF_s, ← h1, h3]; rfl
  have k57 : ∀ (f j : Nat) (v1 : Int64) (v3 : Int), j + f = 4 → v3 = j → v1 = dgF (fun x => hdA b n w mk' x) j d2b → am_X E 27 (57, (0, 0), [some (amR 0), some (amL v1), none, some (amI v3)], [], mk g1 fl) (RL Q) := by
    intro f
    induction f with
    | zero =>
      intro j v1 v3 hj h3 h1
      have : j = 4 := by omega
      subst this
      refine b27_57 ⟨fun c => likeC_ok R1 C1 (k86 5 0 _ 0 (by omega) rfl ?_), fun c => absurd (by omega) c⟩
      rw [h1, e2b, e2]
      show _ = dgI d3 _
      rw [e3]; unfold dg3; rfl
    | succ f ih =>
      intro j v1 v3 hj h3 h1
      refine b27_57 ⟨fun c => absurd c (by omega), fun _ => ofHear_ok C1 ⟨rgI (by omega) (by omega), ih (j + 1) _ _ (by omega) (by omega) ?_⟩⟩
      rw [dgF_s, ← h1, h3]; rfl
  have k37 : ∀ (f j : Nat) (v1 : Int64) (v3 : Int), j + f = cbA b n w mk' → v3 = j → v1 = dgF (fun k => clA b n w mk' k) j d2 → am_X E 27 (37, (0, 0), [some (amR 0), some (amL v1), none, some (amI v3)], [], mk g1 fl) (RL Q) := by
    intro f
    induction f with
    | zero =>
      intro j v1 v3 hj h3 h1
      have : j = cbA b n w mk' := by omega
      subst this
      have h7 := C1.c7
      refine b27_37 ⟨fun c => absurd c (by omega), fun _ => k57 4 0 _ 0 (by omega) rfl ?_⟩
      rw [h1, e2b]; rfl
    | succ f ih =>
      intro j v1 v3 hj h3 h1
      have h7 := C1.c7
      refine b27_37 ⟨fun _ => ⟨rgI (by omega) (by omega), ih (j + 1) _ _ (by omega) (by omega) ?_⟩, fun c => absurd (by omega) c⟩
      rw [dgF_s, ← h1, rd_in h3 (by omega), clashC C1 (by omega)]; rfl
  have k8 : ∀ (f j : Nat) (v1 : Int64) (v3 : Int), j + f = 8 → v3 = j → v1 = dgF (fun x => cntA b n w mk' N (g 0 12) x) j (Int64.ofInt 17) → am_X E 27 (8, (0, 0), [some (amR 0), some (amL v1), none, some (amI v3)], [], mk g1 fl) (RL Q) := by
    intro f
    induction f with
    | zero =>
      intro j v1 v3 hj h3 h1
      have : j = 8 := by omega
      subst this
      refine b27_8 ⟨fun c => ?_, fun c => absurd (by omega) c⟩
      rw [C1.cc.fl, h1]
      refine digestWords_ok R1 C1 (k37 (cbA b n w mk') 0 _ 0 (by omega) rfl ?_)
      show _ = d2
      rw [e2]; unfold dg2 dg1; rfl
    | succ f ih =>
      intro j v1 v3 hj h3 h1
      refine b27_8 ⟨fun c => absurd c (by omega), fun _ => countOfC_ok R1 C1 hf ⟨rgI (by omega) (by omega), ih (j + 1) _ _ (by omega) (by omega) ?_⟩⟩
      rw [dgF_s, ← h1, h3]; rfl
  exact k8 8 0 _ 0 (by omega) rfl rfl
variable {Q : Int → GG → FF → Prop}
theorem flawC_ok (hR : RC b n w mk' td N T P g) (h : ∀ g' : GG, KC g g' → RC b n w mk' td N T P g' → Q (flaw b n) g' fl) : cI E 4 [amR 0] g fl Q :=
  b4 (refresh_ok hR (fun g1 C1 _ R1 k1 => by rw [C1.cc.fl]; exact h g1 k1 R1))
theorem wordC_ok {v1 v2 : Int} (hR : RC b n w mk' td N T P g) (h : ∀ g' : GG, KC g g' → RC b n w mk' td N T P g' → Q (wordA b n w mk' v1 v2) g' fl) : cI E 6 [amR 0, amI v1, amI v2] g fl Q := by
  refine b6 (refresh_ok hR (fun g1 C1 _ R1 k1 => ?_))
  have h := h g1 k1 R1
  unfold wordA at h
  rw [C1.cc.W]
  refine ⟨fun c => ?_, fun c => ⟨fun c2 => ?_, fun c2 => ?_⟩⟩
  · rw [if_neg (by omega)] at h; exact h
  · rw [if_pos (by omega)] at h; exact ofWord_ok R1 C1 (k := v1.toNat) (by omega) (by omega) h
  · rw [if_neg (by omega)] at h; exact h
theorem syllC_ok {v1 v2 : Int} (hR : RC b n w mk' td N T P g) (h : ∀ g' : GG, KC g g' → RC b n w mk' td N T P g' → Q (syllA b n w mk' td v1 v2) g' fl) : cI E 7 [amR 0, amI v1, amI v2] g fl Q := by
  refine b7 (refresh_ok hR (fun g1 C1 _ R1 k1 => ?_))
  have h := h g1 k1 R1
  unfold syllA at h
  rw [C1.cc.S]
  refine ⟨fun c => ?_, fun c => ⟨fun c2 => ?_, fun c2 => ?_⟩⟩
  · rw [if_neg (by omega)] at h; exact h
  · rw [if_pos (by omega)] at h; exact ofSyll_ok R1 C1 (s := v1.toNat) (by omega) (by omega) h
  · rw [if_neg (by omega)] at h; exact h
theorem markedC_ok {v1 : Int} (hR : RC b n w mk' td N T P g) (h : ∀ g' : GG, KC g g' → RC b n w mk' td N T P g' → Q (markedA b n mk' v1) g' fl) : cI E 10 [amR 0, amI v1] g fl Q := by
  have hWl := Wn_le (b := b) (n := n) hR.n60
  refine b10 (refresh_ok hR (fun g1 C1 _ R1 k1 => ?_))
  have h := h g1 k1 R1
  unfold markedA at h
  rw [C1.cc.W]
  refine ⟨fun c => ?_, fun c => ⟨fun c2 => ?_, fun c2 => ?_⟩⟩
  · rw [if_neg (by omega)] at h; exact h
  · rw [if_pos (by omega)] at h; rw [rd_in (k := v1.toNat) (by omega) (by omega), C1.mk1 _ (by omega)]; exact h
  · rw [if_neg (by omega)] at h; exact h
theorem clashC_ok {v1 : Int} (hR : RC b n w mk' td N T P g) (h : ∀ g' : GG, KC g g' → RC b n w mk' td N T P g' → Q (clA b n w mk' v1) g' fl) : cI E 11 [amR 0, amI v1] g fl Q := by
  have hSl := Sn_le (b := b) (w := w) hR.n60
  have hcb : cbA b n w mk' ≤ Sn b n w := ctB_le _
  refine b11 (refresh_ok hR (fun g1 C1 _ R1 k1 => ?_))
  have h := h g1 k1 R1
  rw [C1.c7]
  refine ⟨fun c => ?_, fun c => ⟨fun c2 => ?_, fun c2 => ?_⟩⟩
  · unfold clA at h; rw [nthF_no (Or.inl c)] at h; exact h
  · rw [rd_in (k := v1.toNat) (by omega) (by omega), clashC C1 (by omega), show ((v1.toNat : Nat) : Int) = v1 by omega]; exact h
  · unfold clA at h; rw [nthF_no (Or.inr (by show ((cbA b n w mk' : Nat) : Int) ≤ v1; omega))] at h; exact h
theorem heardC_ok {v1 : Int} (hR : RC b n w mk' td N T P g) (h : ∀ g' : GG, KC g g' → RC b n w mk' td N T P g' → Q (hdA b n w mk' v1) g' fl) : cI E 12 [amR 0, amI v1] g fl Q :=
  b12 (refresh_ok hR (fun g1 C1 _ R1 k1 => ofHear_ok C1 (h g1 k1 R1)))
theorem nearC_ok (hR : RC b n w mk' td N T P g) (h : ∀ g' : GG, KC g g' → RC b n w mk' td N T P g' → Q (nrA b n w mk' td : Nat) g' fl) : cI E 15 [amR 0] g fl Q :=
  b15 (refresh_ok hR (fun g1 C1 _ R1 k1 => likeC_ok R1 C1 (h g1 k1 R1)))
theorem nearestC_ok {v1 : Int} (hR : RC b n w mk' td N T P g) (h : ∀ g' : GG, KC g g' → RC b n w mk' td N T P g' → Q (if 0 ≤ v1 ∧ v1 ≤ 4 then nstA (nsA b n w mk' td) v1 else -2) g' fl) : cI E 16 [amR 0, amI v1] g fl Q := by
  refine b16 ⟨fun c => ?_, fun c => ⟨fun c2 => ?_, fun c2 => refresh_ok hR (fun g1 C1 h15 R1 k1 => seek_ok R1 C1 h15 (fun g2 C2 _ R2 k2 e13 e14 => ofNear_ok (by omega) e13 e14 ?_))⟩⟩
  · have h := h g KC.refl hR; rw [if_neg (by omega)] at h; exact h
  · have h := h g KC.refl hR; rw [if_neg (by omega)] at h; exact h
  · have h := h g2 (k1.trans k2) R2; rw [if_pos (by omega)] at h; exact h
theorem shareC_ok {v1 : Int} (hR : RC b n w mk' td N T P g) (h : ∀ g' : GG, KC g g' → RC b n w mk' td N T P g' → Q (shA b n w mk' td v1) g' fl) : cI E 18 [amR 0, amI v1] g fl Q :=
  b18 (refresh_ok hR (fun g1 C1 _ R1 k1 => shareBits_ok R1 C1 (h g1 k1 R1)))
theorem textC_ok {v1 : Int} (hR : RC b n w mk' td N T P g) (h : ∀ g' : GG, KC g g' → RC b n w mk' td N T P g' → Q (textA b n w mk' v1) g' fl) : cI E 19 [amR 0, amI v1] g fl Q := by
  have hl := txA_le hR.n60 hR.ok (h := (heP b n w mk').1) (b := b) (m := Sn b n w) (Nat.le_refl _)
  have hll : (txL b n w mk').length ≤ 180 := hl
  refine b19 (refresh_ok hR (fun g1 C1 _ R1 k1 => ?_))
  have h := h g1 k1 R1
  unfold textA at h
  rw [C1.tl]
  refine ⟨fun c => ?_, fun c => ⟨fun c2 => ?_, fun c2 => ⟨fun c3 => ?_, fun c3 => ?_⟩⟩⟩
  · rw [if_pos c] at h; exact h
  · rw [if_neg c, if_neg (by omega)] at h; exact h
  · rw [if_neg c, if_pos (by omega)] at h
    rw [rd_in (k := v1.toNat) (by omega) (by omega), C1.tx.at (by omega)]; exact h
  · rw [if_neg c, if_neg (by omega)] at h; exact h
theorem countC_ok {v1 : Int} (hR : RC b n w mk' td N T P g) (h : ∀ g' : GG, KC g g' → RC b n w mk' td N T P g' → Q (cntA b n w mk' N (g 0 12) v1) g' fl) : cI E 26 [amR 0, amI v1] g fl Q :=
  b26 (refresh_ok hR (fun g1 C1 _ R1 k1 => countOfC_ok R1 C1 (k1 0 12 (by omega) (by omega) (by omega) (by omega)) (h g1 k1 R1)))
end PUBC
