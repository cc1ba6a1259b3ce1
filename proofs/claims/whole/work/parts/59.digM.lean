/-! the reference's digest, mark, unmark -/
section DIGM
variable {E : am_E} {g : GG} {fl : FF} {b : Nat → Int} {n : Nat} {w : Nat → Int} {mk' : Nat → Int} {td : Nat → Int} {N : Nat} {T : Nat → List Int} {P : Nat → Int}
theorem dgF_s {f : Nat → Int} {k : Nat} {h : Int64} : dgF f (k + 1) h = dgI (dgF f k h) (f k) := rfl
theorem beatsDigest_ok {Q : Int64 → GG → FF → Prop} {v1 : Int64} (hR : RM b n w mk' td N T P g) (hF : FA b n w mk' g)
    (h : Q (dgF (fun k => hdA b n w mk' k) 4 (dgF (fun k => clA b n w mk' k) (cbA b n w mk') (dgS b n w mk' td (Sn b n w) (dgW b n w mk' (Wn b n) v1)))) g fl) : cL E 178 [amR 49, amL v1] g fl Q := by
  have hn := hR.rb.n60
  have hwo := hR.hwo
  have hWl := Wn_le (b := b) (n := n) hn
  have hSl := Sn_le (b := b) (w := w) hn
  have hW := hF.x.c.W
  have hS := hF.x.c.S
  have hV : g 51 8 = ((w 8).toNat : Nat) := by rw [← hF.x.w]; exact hwo.w8.1
  have hcb : cbA b n w mk' ≤ Sn b n w := ctB_le _
  obtain ⟨d2, e2⟩ : ∃ d2, d2 = dgW b n w mk' (Wn b n) v1 := ⟨_, rfl⟩
  obtain ⟨d3, e3⟩ : ∃ d3, d3 = dgS b n w mk' td (Sn b n w) d2 := ⟨_, rfl⟩
  obtain ⟨d4, e4⟩ : ∃ d4, d4 = dgF (fun k => clA b n w mk' k) (cbA b n w mk') d3 := ⟨_, rfl⟩
  rw [← e2, ← e3, ← e4] at h
  have k84 : ∀ (f j : Nat) (v3 : Int64) (v5 v6 : Int), j + f = 4 → v6 = j → v3 = dgF (fun k => hdA b n w mk' k) j d4 → am_X E 178 (84, (0, 0), [some (amR 49), some (amL v1), none, some (amL v3), none, some (amI v5), some (amI v6)], [], mk g fl) (RL Q) := by
    intro f
    induction f with
    | zero =>
      intro j v3 v5 v6 hj h6 h3
      have : j = 4 := by omega
      subst this
      exact b178_84 ⟨fun c => absurd c (by omega), fun _ => by rw [h3]; exact h⟩
    | succ f ih =>
      intro j v3 v5 v6 hj h6 h3
      refine b178_84 ⟨fun _ => heardBy_ok hn hwo (fun k _ => (hR.mk1 k).1) hF (by omega) ⟨rgI (by omega) (by omega), ih (j + 1) _ _ _ (by omega) (by omega) ?_⟩, fun c => absurd (by omega) c⟩
      rw [dgF_s, ← h3, h6]; rfl
  have k68 : ∀ (f j : Nat) (v3 : Int64) (v5 v6 : Int), j + f = cbA b n w mk' → v5 = (cbA b n w mk' : Nat) → v6 = j → v3 = dgF (fun k => clA b n w mk' k) j d3 → am_X E 178 (68, (0, 0), [some (amR 49), some (amL v1), none, some (amL v3), none, some (amI v5), some (amI v6)], [], mk g fl) (RL Q) := by
    intro f
    induction f with
    | zero =>
      intro j v3 v5 v6 hj h5 h6 h3
      have : j = cbA b n w mk' := by omega
      subst this
      exact b178_68 ⟨fun c => absurd c (by omega), fun _ => k84 4 0 _ _ 0 (by omega) rfl (by rw [h3, ← e4]; rfl)⟩
    | succ f ih =>
      intro j v3 v5 v6 hj h5 h6 h3
      refine b178_68 ⟨fun _ => clashBy_ok hn hwo hF (by omega) ⟨rgI (by omega) (by omega), ih (j + 1) _ _ _ (by omega) h5 (by omega) ?_⟩, fun c => absurd (by omega) c⟩
      rw [dgF_s, ← h3, h6]; rfl
  have k38 : ∀ (f s : Nat) (v3 : Int64) (v5 : Int), s + f = Sn b n w → v5 = s → v3 = dgS b n w mk' td s d2 → am_X E 178 (38, (0, 0), [some (amR 49), some (amL v1), none, some (amL v3), none, some (amI v5), none], [], mk g fl) (RL Q) := by
    intro f
    induction f with
    | zero =>
      intro s v3 v5 hs h5 h3
      have : s = Sn b n w := by omega
      subst this
      exact b178_38 ⟨fun c => absurd c (by omega), fun _ => clashes_ok (Or.inl rfl) hS (by omega) hV hwo.w8.2 hF.bt (fun s _ => btW_in.1) (k68 (cbA b n w mk') 0 _ _ 0 (by omega) rfl rfl (by rw [h3, ← e3]; rfl))⟩
    | succ f ih =>
      intro s v3 v5 hs h5 h3
      have k44 : ∀ (f2 j : Nat) (v3 : Int64) (v6 : Int), j + f2 = 8 → v6 = j → v3 = dgF (fun x => syA b n w mk' td s x) j (dgS b n w mk' td s d2) → am_X E 178 (44, (0, 0), [some (amR 49), some (amL v1), none, some (amL v3), none, some (amI v5), some (amI v6)], [], mk g fl) (RL Q) := by
        intro f2
        induction f2 with
        | zero =>
          intro j v3 v6 hj h6 h3
          have : j = 8 := by omega
          subst this
          exact b178_44 ⟨fun c => absurd c (by omega), fun _ => ⟨rgI (by omega) (by omega), ih (s + 1) _ _ (by omega) (by omega) h3⟩⟩
        | succ f2 ih2 =>
          intro j v3 v6 hj h6 h3
          refine b178_44 ⟨fun _ => syllableBy_ok hn hwo hF hR.et h5 (by omega) (by omega) ⟨rgI (by omega) (by omega), ih2 (j + 1) _ _ (by omega) (by omega) ?_⟩, fun c => absurd (by omega) c⟩
          rw [dgF_s, ← h3, h6]; rfl
      exact b178_38 ⟨fun _ => k44 8 0 _ 0 (by omega) rfl h3, fun c => absurd (by omega) c⟩
  have k4 : ∀ (f s : Nat) (v3 : Int64) (v5 : Int), s + f = Wn b n → v5 = s → v3 = dgW b n w mk' s v1 → am_X E 178 (4, (0, 0), [some (amR 49), some (amL v1), none, some (amL v3), none, some (amI v5), none], [], mk g fl) (RL Q) := by
    intro f
    induction f with
    | zero =>
      intro s v3 v5 hs h5 h3
      have : s = Wn b n := by omega
      subst this
      exact b178_4 ⟨fun c => absurd c (by omega), fun _ => k38 (Sn b n w) 0 _ 0 (by omega) rfl (by rw [h3, ← e2]; rfl)⟩
    | succ f ih =>
      intro s v3 v5 hs h5 h3
      have k10 : ∀ (f2 j : Nat) (v3 : Int64) (v6 : Int), j + f2 = 6 → v6 = j → v3 = dgF (fun x => wdA b n w mk' s x) j (dgW b n w mk' s v1) → am_X E 178 (10, (0, 0), [some (amR 49), some (amL v1), none, some (amL v3), none, some (amI v5), some (amI v6)], [], mk g fl) (RL Q) := by
        intro f2
        induction f2 with
        | zero =>
          intro j v3 v6 hj h6 h3
          have : j = 6 := by omega
          subst this
          refine b178_10 ⟨fun c => absurd c (by omega), fun _ => markedAt_ok hn hR.eb hR.rb.lx hR.rb.lt hF.x.c h5 (by omega) ⟨rgI (by omega) (by omega), ih (s + 1) _ _ (by omega) (by omega) ?_⟩⟩
          rw [h3, ← hR.em]; rfl
        | succ f2 ih2 =>
          intro j v3 v6 hj h6 h3
          refine b178_10 ⟨fun _ => wordBy_ok hn hR.eb hR.rb.lx hR.rb.lt hR.em hF h5 (by omega) (by omega) ⟨rgI (by omega) (by omega), ih2 (j + 1) _ _ (by omega) (by omega) ?_⟩, fun c => absurd (by omega) c⟩
          rw [dgF_s, ← h3, h6]; rfl
      exact b178_4 ⟨fun _ => k10 6 0 _ 0 (by omega) rfl h3, fun c => absurd (by omega) c⟩
  exact b178 (k4 (Wn b n) 0 _ 0 (by omega) rfl rfl)
theorem flawM_ok {Q : Int → GG → FF → Prop} (hR : RM b n w mk' td N T P g) (h : Q (flaw b n) g fl) : cI E 103 [amR 49] g fl Q := by
  refine flawNow_ok hR.rb.n60 hR.rb.gn ?_
  have e : flaw (g 50) n = flaw b n := flaw_same (fun i hi => Or.inl (by rw [hR.eb, nz_in hi]))
  rw [e]; exact h
theorem digestM_ok {Q : Int64 → GG → FF → Prop} (hR : RM b n w mk' td N T P g) (h : ∀ g' : GG, KM g g' → Q (dgA b n w mk' td N (g 49 33)) g' fl) : cL E 179 [amR 49] g fl Q := by
  have hn := hR.rb.n60
  have hl := txA_le hn hR.hwo (h := (heP b n w mk').1) (b := b) (m := Sn b n w) (Nat.le_refl _)
  have hll : (txL b n w mk').length ≤ 180 := hl
  obtain ⟨d1, e1⟩ : ∃ d1, d1 = dg1 b n w mk' N (g 49 33) := ⟨_, rfl⟩
  obtain ⟨d3, e3⟩ : ∃ d3, d3 = dg3 b n w mk' td N (g 49 33) := ⟨_, rfl⟩
  obtain ⟨d4, e4⟩ : ∃ d4, d4 = dg4 b n w mk' td N (g 49 33) := ⟨_, rfl⟩
  obtain ⟨d5, e5⟩ : ∃ d5, d5 = dg5 b n w mk' td N (g 49 33) := ⟨_, rfl⟩
  have k84 : ∀ (f j : Nat) (v1 : Int64) (v3 : Int) (g1 : GG), j + f = (txL b n w mk').length → v3 = j → v1 = dgF (fun i => (txL b n w mk').getD i 0) j d5 → HL 68 (txL b n w mk') g1 → g1 49 26 = ((txL b n w mk').length : Nat) → KM g g1 → am_X E 179 (84, (0, 0), [some (amR 49), some (amL v1), none, some (amI v3)], [], mk g1 fl) (RL Q) := by
    intro f
    induction f with
    | zero =>
      intro j v1 v3 g1 hj h3 h1 q1 q2 k1
      have : j = (txL b n w mk').length := by omega
      subst this
      refine b179_84 ⟨fun c => absurd c (by omega), fun _ => ?_⟩
      rw [h1, e5]; exact h g1 k1
    | succ f ih =>
      intro j v1 v3 g1 hj h3 h1 q1 q2 k1
      refine b179_84 ⟨fun _ => ⟨by omega, rgI (by omega) (by omega), ih (j + 1) _ _ g1 (by omega) (by omega) ?_ q1 q2 k1⟩, fun c => absurd (by omega) c⟩
      rw [dgF_s, ← h1, toNat_eq h3, q1.at (by omega)]; rfl
  have k58 : ∀ (f j : Nat) (v1 : Int64) (v3 : Int) (g1 : GG), j + f = 3 → v3 = j → v1 = dgF (fun x => shA b n w mk' td x) j d4 → RM b n w mk' td N T P g1 → KM g g1 → am_X E 179 (58, (0, 0), [some (amR 49), some (amL v1), none, some (amI v3)], [], mk g1 fl) (RL Q) := by
    intro f
    induction f with
    | zero =>
      intro j v1 v3 g1 hj h3 h1 r1 k1
      have : j = 3 := by omega
      subst this
      refine b179_58 ⟨fun c => absurd c (by omega), fun _ => writes_ok r1.rb r1.eb r1.ew r1.em (fun g2 F2 q1 q2 k2 => ?_)⟩
      refine k84 (txL b n w mk').length 0 _ 0 g2 (by omega) rfl ?_ q1 q2 (k1.trans k2)
      rw [q2, h1, e4, e5]; rfl
    | succ f ih =>
      intro j v1 v3 g1 hj h3 h1 r1 k1
      refine b179_58 ⟨fun _ => shareOf_ok (by omega) r1 (fun g2 F2 k2 => ⟨rgI (by omega) (by omega), ih (j + 1) _ _ g2 (by omega) (by omega) ?_ (r1.km k2) (k1.trans k2)⟩), fun c => absurd (by omega) c⟩
      rw [dgF_s, ← h1, h3]; rfl
  have k42 : ∀ (f j : Nat) (v1 : Int64) (v3 : Int) (g1 : GG), j + f = 5 → v3 = j → v1 = dgF (fun x => nstA (nsA b n w mk' td) x) j (dgI d3 (nrA b n w mk' td : Nat)) → RM b n w mk' td N T P g1 → KM g g1 → am_X E 179 (42, (0, 0), [some (amR 49), some (amL v1), none, some (amI v3)], [], mk g1 fl) (RL Q) := by
    intro f
    induction f with
    | zero =>
      intro j v1 v3 g1 hj h3 h1 r1 k1
      have : j = 5 := by omega
      subst this
      refine b179_42 ⟨fun c => absurd c (by omega), fun _ => k58 3 0 _ 0 g1 (by omega) rfl ?_ r1 k1⟩
      rw [h1, e3]
      show _ = d4
      rw [e4]; unfold dg4; rfl
    | succ f ih =>
      intro j v1 v3 g1 hj h3 h1 r1 k1
      refine b179_42 ⟨fun _ => nearestBy_ok r1.rb r1.eb r1.ew r1.em r1.et (by omega) (fun g2 F2 k2 => ⟨rgI (by omega) (by omega), ih (j + 1) _ _ g2 (by omega) (by omega) ?_ (r1.km k2) (k1.trans k2)⟩), fun c => absurd (by omega) c⟩
      rw [dgF_s, ← h1, h3]; rfl
  refine b179 (findsM_ok hR (fun g0 F0 k0 r0 => ?_))
  have hf0 : g0 49 33 = g 49 33 := k0 49 33 (by omega) (by omega) (by omega)
  have k6 : ∀ (f j : Nat) (v1 : Int64) (v3 : Int), j + f = 8 → v3 = j → v1 = dgF (fun x => cntA b n w mk' N (g 49 33) x) j (Int64.ofInt 17) → am_X E 179 (6, (0, 0), [some (amR 49), some (amL v1), none, some (amI v3)], [], mk g0 fl) (RL Q) := by
    intro f
    induction f with
    | zero =>
      intro j v1 v3 hj h3 h1
      have : j = 8 := by omega
      subst this
      refine b179_6 ⟨fun c => absurd c (by omega), fun _ => flawM_ok r0 (beatsDigest_ok r0 F0 (nearNow_ok r0.rb r0.eb r0.ew r0.em r0.et (fun g2 F2 k2 => k42 5 0 _ 0 g2 (by omega) rfl ?_ (r0.km k2) (k0.trans k2))))⟩
      rw [h1, e3]; rfl
    | succ f ih =>
      intro j v1 v3 hj h3 h1
      refine b179_6 ⟨fun _ => countOfM_ok r0 F0 hf0 ⟨rgI (by omega) (by omega), ih (j + 1) _ _ (by omega) (by omega) ?_⟩, fun c => absurd (by omega) c⟩
      rw [dgF_s, ← h1, h3]; rfl
  exact k6 8 0 _ 0 (by omega) rfl rfl
end DIGM
