/-! both: write -/
section BWR
variable {E : am_E} {g : GG} {fl : FF} {v1 : Int} {b : Nat → Int} {n : Nat} {w : Nat → Int} {mk1 : Nat → Int} {td : Nat → Int} {N : Nat} {T : Nat → List Int} {P : Nat → Int} {b' : Nat → Int} {mk' : Nat → Int} {T' : Nat → List Int} {P' : Nat → Int}
theorem Bo.sheetsK {g' : GG} {fl' : FF} (H : Bo b n w mk1 td N T P b' mk' T' P' g fl) (hf : ∀ a i, a < 37 → ¬ (a = 0 ∧ i = 12) → g' a i = g a i) (hf2 : ∀ a i, 49 ≤ a → a ≤ 65 → ¬ (a = 49 ∧ (i = 6 ∨ i = 13 ∨ (22 ≤ i ∧ i ≤ 26))) → ¬ (53 ≤ a ∧ a ≤ 62) → g' a i = g a i) (fi : g' 0 12 = g' 49 33) (sh : ∀ s, s < 4 → SR s (37 + 3 * s) g' fl') : Rel g' fl' := by
  have h2 := H.rm.told (g' := g') (fun a i z1 z2 z3 z4 z5 => hf2 a i z1 z2 z3 z4)
  rw [show g' 52 = td by rw [← H.rm.et]; exact funext fun i => hf2 _ _ (by omega) (by omega) (by omega) (by omega)] at h2
  exact ⟨b, n, w, mk1, td, N, T, P, b', mk', T', P', H.rc.keep hf, h2, fun i hi => by rw [hf _ _ (by omega) (by omega), hf2 _ _ (by omega) (by omega) (by omega) (by omega)]; exact H.br i hi, H.ls, fi, sh⟩
theorem al_write (h : Rel g fl) : AlI E 25 174 [amI v1] g fl := by
  obtain ⟨b, n, w, mk1, td, N, T, P, b', mk', T', P', H⟩ := h
  have hn := H.rc.n60
  have hSl := Sn_le (b := b) (w := w) hn
  refine s25 (fun c => ?_) (fun s hs e => ?_)
  · refine b174 (isSheet_ok ?_)
    rw [b01_f (by omega)]
    exact ⟨fun _ => ⟨rfl, H.rel⟩, fun y => absurd rfl y⟩
  · have yes : b01 (0 ≤ v1 ∧ v1 ≤ 3) = 1 := b01_t (by omega)
    have et : Int.toNat v1 = s := toNat_eq e
    refine b25sS (t4 hs) ⟨fun c => ?_, fun c => findC_ok (by decide) (fun g1 e1 => b174 (isSheet_ok ?_))⟩
    · rcases H.sh s hs with ⟨z1, z2⟩ | ⟨a1, a2, a3, a4, a5, a6, a7, a8⟩
      · omega
      · refine refresh_ok H.rc (fun g1 C1 h15 R1 k1 => ?_)
        have H1 := H.kc k1 R1
        have hSe := same_Sn (w := w) H.same
        have kf : ∀ a i, 37 ≤ a → g1 a i = g a i := fun a i z => k1 a i (by omega) (by omega) (by omega) (by omega)
        have t3 : g1 (37 + 3 * s) 3 = g (37 + 3 * s) 3 := kf _ _ (by omega)
        have t4' : g1 (37 + 3 * s) 4 = g (37 + 3 * s) 4 := kf _ _ (by omega)
        obtain ⟨m, hm⟩ : ∃ m : Nat, (if g1 11 11 < g1 (37 + 3 * s) 4 then g1 11 11 else g1 (37 + 3 * s) 4) = (m : Int) ∧ m ≤ Sn b n w ∧ (m : Int) ≤ g (37 + 3 * s) 4 ∧ (m = Sn b n w ∨ (m : Int) = g (37 + 3 * s) 4) := by
          rw [C1.cc.S, t4']
          by_cases y : ((Sn b n w : Nat) : Int) < g (37 + 3 * s) 4
          · rw [if_pos y]; exact ⟨Sn b n w, rfl, by omega, by omega, Or.inl rfl⟩
          · rw [if_neg y]; exact ⟨(g (37 + 3 * s) 4).toNat, by omega, by omega, by omega, Or.inr (by omega)⟩
        obtain ⟨hm, hm1, hm2, hm3⟩ := hm
        rw [hm]
        have hI := R1.hI
        -- the component's items
        have kc : ∀ (f j : Nat) (v : Int) (g2 : GG) (f2 : FF), j + f = m → v = j → (g (37 + 3 * s) 3 ≠ 2 → ∀ i, g2 (37 + 3 * s + 1) i = if i < j then (heP b n w mk1).1 i else g1 (37 + 3 * s + 1) i) → (g (37 + 3 * s) 3 = 2 → ∀ i, f2 (37 + 3 * s + 2) i = if i < j then FP.fdiv (am_i2f ((heP b n w mk1).1 i)) (am_i2f (moS b n w i : Nat)) else fl (37 + 3 * s + 2) i) → (∀ a i, ¬ (a = 37 + 3 * s + 1) → g2 a i = g1 a i) → (∀ a i, ¬ (a = 37 + 3 * s + 2) → f2 a i = fl a i) → am_X E 25 (26, (0, 0), [some (amR 0), some (amI v1), some (amR (37 + 3 * s)), some (amI (m : Nat)), some (amI v)], [], mk g2 f2) (RI (fun x g1 f1 => cI E 174 [amR 49, amI v1] g1 f1 (fun y g2 f2 => x = y ∧ Rel g2 f2))) := by
          intro f
          induction f with
          | zero =>
            intro j v g2 f2 hj hv q1 q2 q3 q4
            have : j = m := by omega
            subst this
            refine b25_26 (t4 hs) ⟨fun y => absurd y (by omega), fun _ => b174 (isSheet_ok ?_)⟩
            rw [yes, et]
            have r2 : RM b' n w mk' td N T' P' g2 := H1.rm.keep (fun a i z1 z2 _ => q3 a i (by omega))
            refine ⟨fun y => absurd y (by omega), fun _ => ⟨by omega, fun y => absurd y ?_, fun _ => findsM_ok r2 (fun g3 F3 k3 r3 => ?_)⟩⟩
            · rw [q3 _ _ (by omega), kf _ _ (by omega)]; omega
            have e70 : g3 70 s = g (37 + 3 * s) 4 := by rw [k3 _ _ (by omega) (by omega) (by omega), q3 _ _ (by omega), kf _ _ (by omega)]; exact a5
            have km : ∀ (f i : Nat) (v : Int) (g4 : GG) (f4 : FF), i + f = j → v = i → (∀ p, p < i → g4 71 (60 * s + p) = (heP b' n w mk').1 p) → (∀ p, p < i → f4 72 (60 * s + p) = FP.fdiv (am_i2f ((heP b' n w mk').1 p)) (am_i2f (moS b' n w p : Nat))) → (∀ p, ¬ (60 * s ≤ p ∧ p < 60 * s + i) → g4 71 p = g3 71 p) → (∀ p, ¬ (60 * s ≤ p ∧ p < 60 * s + i) → f4 72 p = f2 72 p) → (∀ a p, ¬ (a = 71) → g4 a p = g3 a p) → (∀ a p, ¬ (a = 72) → f4 a p = f2 a p) → am_X E 174 (19, (0, 0), [some (amR 49), some (amI v1), some (amI v)], [], mk g4 f4) (RI (fun y g5 f5 => ((j : Nat) : Int) = y ∧ Rel g5 f5)) := by
              intro f
              induction f with
              | zero =>
                intro i v g4 f4 hi hv4 p1 p2 p3 p4 p5 p6
                have : i = j := by omega
                subst this
                have x70 : g4 70 s = g (37 + 3 * s) 4 := by rw [p5 _ _ (by omega)]; exact e70
                have x13 : g4 49 13 = Sn b' n w := by rw [p5 _ _ (by omega)]; exact F3.x.c.S
                have done : ((i : Nat) : Int) = v ∧ Rel g4 f4 := by
                  refine ⟨by omega, ?_⟩
                  have fr : ∀ a p, ¬ (a = 37 + 3 * s + 1) → ¬ (a = 71) → ¬ (a = 49 ∧ (p = 6 ∨ p = 13 ∨ (22 ≤ p ∧ p ≤ 26))) → ¬ (53 ≤ a ∧ a ≤ 62) → ¬ (66 ≤ a ∧ a ≤ 68) → g4 a p = g1 a p := fun a p z1 z2 z3 z4 z5 => by rw [p5 a p z2, k3 a p z3 z4 z5]; exact q3 a p z1
                  have frf : ∀ a p, ¬ (a = 37 + 3 * s + 2) → ¬ (a = 72) → f4 a p = fl a p := fun a p z1 z2 => by rw [p6 a p z2]; exact q4 a p z1
                  have y71 : ∀ p, ¬ (60 * s ≤ p ∧ p < 60 * s + i) → g4 71 p = g 71 p := fun p z => by rw [p3 p z, k3 _ _ (by omega) (by omega) (by omega), q3 _ _ (by omega)]; exact kf _ _ (by omega)
                  have y72 : ∀ p, ¬ (60 * s ≤ p ∧ p < 60 * s + i) → f4 72 p = fl 72 p := fun p z => by rw [p4 p z]; exact q4 _ _ (by omega)
                  refine H1.sheetsK (fun a p z1 z2 => fr a p (by omega) (by omega) (by omega) (by omega) (by omega)) (fun a p z1 z2 z3 z4 => fr a p (by omega) (by omega) z3 z4 (by omega)) (by rw [fr _ _ (by omega) (by omega) (by omega) (by omega) (by omega), fr _ _ (by omega) (by omega) (by omega) (by omega) (by omega)]; exact H1.fi) (fun r hr => ?_)
                  by_cases cr : r = s
                  · subst cr
                    have z2 : g4 (37 + 3 * r) 2 = g (37 + 3 * r) 2 := by rw [fr _ _ (by omega) (by omega) (by omega) (by omega) (by omega)]; exact kf _ _ (by omega)
                    have z3 : g4 (37 + 3 * r) 3 = g (37 + 3 * r) 3 := by rw [fr _ _ (by omega) (by omega) (by omega) (by omega) (by omega)]; exact kf _ _ (by omega)
                    have z4 : g4 (37 + 3 * r) 4 = g (37 + 3 * r) 4 := by rw [fr _ _ (by omega) (by omega) (by omega) (by omega) (by omega)]; exact kf _ _ (by omega)
                    have z69 : g4 69 r = g 69 r := by rw [fr _ _ (by omega) (by omega) (by omega) (by omega) (by omega)]; exact kf _ _ (by omega)
                    refine Or.inr ⟨by rw [z2]; exact a1, by rw [z3, z69]; exact a2, by omega, by omega, by rw [z4]; omega, by omega, by omega, fun p hp => ?_⟩
                    rw [z4] at hp
                    rw [z3]
                    by_cases cp : p < i
                    · have hbb := H.same.2
                      have hS0 : 0 < Sn b n w := by omega
                      have hbb : b = b' ∧ mk1 = mk' := by
                        rcases hbb with y | ⟨y, -⟩
                        · exact y
                        · rw [Sn_0 y] at hS0; omega
                      obtain ⟨hb1, hb2⟩ := hbb
                      have hv := hI.v p (by omega)
                      have hmo := mo_S hn H.rc.ok (b := b) (w := w) (s := p) (by omega)
                      obtain ⟨hh, hhe⟩ : ∃ hh : Nat, (heP b n w mk1).1 p = hh := ⟨((heP b n w mk1).1 p).toNat, by omega⟩
                      rw [p1 p cp, p2 p cp, ← hb1, ← hb2]
                      refine ⟨fun z => ?_, fun z => by omega, fun z => ⟨?_, ?_⟩⟩
                      · rw [p5 _ _ (by omega), k3 _ _ (by omega) (by omega) (by omega), q1 z p, if_pos cp]
                      · rw [p6 _ _ (by omega), q2 z p, if_pos cp]
                      · rw [hhe]; exact (wr_ok (by omega) hmo.1 hmo.2.1).2
                    · have ha := a8 p hp
                      rw [y71 _ (by omega), y72 _ (by omega)]
                      refine ⟨fun z => ?_, ha.2.1, fun z => ⟨?_, (ha.2.2 z).2⟩⟩
                      · rw [p5 _ _ (by omega), k3 _ _ (by omega) (by omega) (by omega), q1 z p, if_neg cp, kf _ _ (by omega)]; exact ha.1 z
                      · rw [p6 _ _ (by omega), q2 z p, if_neg cp]; exact (ha.2.2 z).1
                  · refine (H.sh r hr).keep2 (fun p => ?_) (fun p => ?_) ?_ ?_ (fun p hp => y71 _ (by omega)) (fun p => frf _ _ (by omega) (by omega)) (fun p hp => y72 _ (by omega))
                    · rw [fr _ _ (by omega) (by omega) (by omega) (by omega) (by omega)]; exact kf _ _ (by omega)
                    · rw [fr _ _ (by omega) (by omega) (by omega) (by omega) (by omega)]; exact kf _ _ (by omega)
                    · rw [fr _ _ (by omega) (by omega) (by omega) (by omega) (by omega)]; exact kf _ _ (by omega)
                    · rw [fr _ _ (by omega) (by omega) (by omega) (by omega) (by omega)]; exact kf _ _ (by omega)
                refine b174_19 ⟨by omega, ?_⟩
                rw [et, x70, x13]
                exact ⟨fun y => ⟨fun y2 => absurd y2 (by omega), fun _ => done⟩, fun _ => done⟩
              | succ f ih =>
                intro i v g4 f4 hi hv4 p1 p2 p3 p4 p5 p6
                have x70 : g4 70 s = g (37 + 3 * s) 4 := by rw [p5 _ _ (by omega)]; exact e70
                have x13 : g4 49 13 = Sn b' n w := by rw [p5 _ _ (by omega)]; exact F3.x.c.S
                have iS : i < Sn b' n w := by omega
                have hbb : b = b' ∧ mk1 = mk' := by
                  rcases H.same.2 with y | ⟨y, -⟩
                  · exact y
                  · have := Sn_0 (w := w) y; omega
                obtain ⟨hb1, hb2⟩ := hbb
                have hv := hI.v i (by omega)
                rw [hb1, hb2] at hv
                have hmo := mo_S hn H.rc.ok (b := b') (w := w) (s := i) iS
                obtain ⟨hh, hhe⟩ : ∃ hh : Nat, (heP b' n w mk').1 i = hh := ⟨((heP b' n w mk').1 i).toNat, by omega⟩
                have x67 : g4 67 (Int.toNat v) = (heP b' n w mk').1 i := by rw [toNat_eq hv4, p5 _ _ (by omega)]; exact F3.he i iS
                refine b174_19 ⟨by omega, ?_⟩
                rw [et, x70, x13, toNat_eq (x := 60 * v1 + v) (k := 60 * s + i) (by omega), x67]
                refine ⟨fun _ => ⟨fun _ => ⟨rgI (by omega) (by omega), rgI (by omega) (by omega), by omega, by omega, fun g5 e5 => ?_⟩, fun y => absurd (by omega) y⟩, fun y => absurd (by omega) y⟩
                have X5 : MX b' n w g5 := F3.x.keep (fun a q z => by rw [e5]; (simp (disch := omega) only [up_at, up_ne]); exact p5 a q (by omega))
                have x67' : g5 67 (Int.toNat v) = (heP b' n w mk').1 i := by rw [e5]; (simp (disch := omega) only [up_at, up_ne]); exact x67
                subst hv4
                refine morasOf_ok hn X5.w H.rc.ok X5.c iS ?_
                rw [x67']
                refine ⟨by rw [hhe]; exact (wr_ok (by omega) hmo.1 hmo.2.1).1, fun f5 e6 => ⟨rgI (by omega) (by omega), ?_⟩⟩
                refine ih (i + 1) _ g5 f5 (by omega) (by omega) (fun p hp => ?_) (fun p hp => ?_) (fun p hp => ?_) (fun p hp => ?_) (fun a p z => by rw [e5]; (simp (disch := omega) only [up_at, up_ne]); exact p5 a p z) (fun a p z => by rw [e6]; (simp (disch := omega) only [up_at, up_ne]); exact p6 a p z)
                · rw [e5]
                  by_cases cp : p = i
                  · rw [cp]; (simp (disch := omega) only [up_at, up_ne])
                  · (simp (disch := omega) only [up_at, up_ne]); exact p1 p (by omega)
                · rw [e6]
                  by_cases cp : p = i
                  · rw [cp]; (simp (disch := omega) only [up_at, up_ne])
                  · (simp (disch := omega) only [up_at, up_ne]); exact p2 p (by omega)
                · rw [e5]; (simp (disch := omega) only [up_at, up_ne]); exact p3 p (by omega)
                · rw [e6]; (simp (disch := omega) only [up_at, up_ne]); exact p4 p (by omega)
            exact km j 0 0 g3 f2 (by omega) rfl (fun p hp => by omega) (fun p hp => by omega) (fun _ _ => rfl) (fun _ _ => rfl) (fun _ _ _ => rfl) (fun _ _ _ => rfl)
          | succ f ih =>
            intro j v g2 f2 hj hv q1 q2 q3 q4
            have jS : j < Sn b n w := by omega
            have hv2 := hI.v j jS
            have hmo := mo_S hn H.rc.ok (b := b) (w := w) (s := j) jS
            obtain ⟨hh, hhe⟩ : ∃ hh : Nat, (heP b n w mk1).1 j = hh := ⟨((heP b n w mk1).1 j).toNat, by omega⟩
            have x26 : rd g2 26 60 v = (heP b n w mk1).1 j := by rw [rd_in hv (by omega), q3 _ _ (by omega)]; exact C1.he j jS
            have x20 : rd g2 20 60 v = (moS b n w j : Nat) := by rw [rd_in hv (by omega), q3 _ _ (by omega)]; exact C1.cc.sM j jS
            have x3 : g2 (37 + 3 * s) 3 = g (37 + 3 * s) 3 := by rw [q3 _ _ (by omega)]; exact t3
            refine b25_26 (t4 hs) ⟨fun _ => ?_, fun y => absurd (by omega) y⟩
            rw [x26, x20]
            refine b60 (t4 hs) ⟨fun z => ⟨fun y => absurd y (by omega), fun _ => ⟨by rw [hhe]; exact (wr_ok (by omega) hmo.1 hmo.2.1).1, setPart_ok (t4 hs) hv (by omega) (fun f3 e3 => ⟨rgI (by omega) (by omega), ?_⟩)⟩⟩, fun z => ⟨fun z2 => fun g3 e3 => ⟨rgI (by omega) (by omega), ?_⟩, fun z2 => fun g3 e3 => ⟨rgI (by omega) (by omega), ?_⟩⟩⟩
            · refine ih (j + 1) _ g2 f3 (by omega) (by omega) (fun y => absurd (by omega) y) (fun y i => ?_) q3 (fun a i y => by rw [e3]; (simp (disch := omega) only [up_at, up_ne]); exact q4 a i y)
              rw [e3]
              by_cases ci : i = j
              · rw [ci]; (simp (disch := omega) only [up_at, up_ne]); rw [if_pos (by omega)]
              · (simp (disch := omega) only [up_at, up_ne]); rw [q2 y i]
                by_cases cj : i < j
                · rw [if_pos cj, if_pos (by omega)]
                · rw [if_neg cj, if_neg (by omega)]
            · rw [wr_in hv (by omega), hhe, i2b_small (by omega), ← hhe] at e3
              refine ih (j + 1) _ g3 f2 (by omega) (by omega) (fun y i => ?_) (fun y => absurd y (by omega)) (fun a i y => by rw [e3]; (simp (disch := omega) only [up_at, up_ne]); exact q3 a i y) q4
              rw [e3]
              by_cases ci : i = j
              · rw [ci]; (simp (disch := omega) only [up_at, up_ne]); rw [if_pos (by omega)]
              · (simp (disch := omega) only [up_at, up_ne]); rw [q1 y i]
                by_cases cj : i < j
                · rw [if_pos cj, if_pos (by omega)]
                · rw [if_neg cj, if_neg (by omega)]
            · rw [wr_in hv (by omega)] at e3
              refine ih (j + 1) _ g3 f2 (by omega) (by omega) (fun y i => ?_) (fun y => absurd y (by omega)) (fun a i y => by rw [e3]; (simp (disch := omega) only [up_at, up_ne]); exact q3 a i y) q4
              rw [e3]
              by_cases ci : i = j
              · rw [ci]; (simp (disch := omega) only [up_at, up_ne]); rw [if_pos (by omega)]
              · (simp (disch := omega) only [up_at, up_ne]); rw [q1 y i]
                by_cases cj : i < j
                · rw [if_pos cj, if_pos (by omega)]
                · rw [if_neg cj, if_neg (by omega)]
        exact kc m 0 0 g1 fl (by omega) rfl (fun _ i => by rw [if_neg (by omega)]) (fun _ i => by rw [if_neg (by omega)]) (fun _ _ _ => rfl) (fun _ _ _ => rfl)
    · rcases H.sh s hs with ⟨z1, z2⟩ | ⟨a1, -⟩
      · have e69 : g1 69 s = g 69 s := by rw [e1]; (simp (disch := omega) only [up_at, up_ne])
        rw [yes, et]
        exact ⟨fun y => absurd y (by omega), fun _ => ⟨by omega, fun _ => findM_ok (by omega) (fun g2 e2 => ⟨rfl, H.fnd e1 e2⟩), fun y => absurd (by omega) y⟩⟩
      · exact absurd a1 c
end BWR
