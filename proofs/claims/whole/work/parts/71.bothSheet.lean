/-! both: sheets -/
section BSH
variable {E : am_E} {g : GG} {fl : FF} {v1 v2 v3 v4 v5 : Int} {b : Nat → Int} {n : Nat} {w : Nat → Int} {mk1 : Nat → Int} {td : Nat → Int} {N : Nat} {T : Nat → List Int} {P : Nat → Int} {b' : Nat → Int} {mk' : Nat → Int} {T' : Nat → List Int} {P' : Nat → Int}
theorem t4 {s : Nat} (h : s < 4) : 37 + 3 * s = 37 ∨ 37 + 3 * s = 40 ∨ 37 + 3 * s = 43 ∨ 37 + 3 * s = 46 := by omega
theorem Bo.sheets {g' : GG} {fl' : FF} (H : Bo b n w mk1 td N T P b' mk' T' P' g fl) (hf : ∀ a i, a < 37 → ¬ (a = 0 ∧ i = 12) → g' a i = g a i) (hf2 : ∀ a i, 49 ≤ a → a ≤ 65 → ¬ (a = 49 ∧ i = 33) → g' a i = g a i) (fi : g' 0 12 = g' 49 33) (sh : ∀ s, s < 4 → SR s (37 + 3 * s) g' fl') : Rel g' fl' :=
  ⟨b, n, w, mk1, td, N, T, P, b', mk', T', P', H.rc.keep hf, H.rm.keep hf2, fun i hi => by rw [hf _ _ (by omega) (by omega), hf2 _ _ (by omega) (by omega) (by omega)]; exact H.br i hi, H.ls, fi, sh⟩
theorem SR.keep2 {s t : Nat} {g' : GG} {fl' : FF} (h : SR s t g fl) (h1 : ∀ i, g' t i = g t i) (h2 : ∀ i, g' (t + 1) i = g (t + 1) i) (h3 : g' 69 s = g 69 s) (h4 : g' 70 s = g 70 s) (h5 : ∀ i, i < 60 → g' 71 (60 * s + i) = g 71 (60 * s + i)) (h6 : ∀ i, fl' (t + 2) i = fl (t + 2) i) (h7 : ∀ i, i < 60 → fl' 72 (60 * s + i) = fl 72 (60 * s + i)) : SR s t g' fl' := by
  unfold SR at h ⊢
  simp only [h1, h2, h3, h4, h6]
  rcases h with h | ⟨a1, a2, a3, a4, a5, a6, a7, a8⟩
  · exact Or.inl h
  · refine Or.inr ⟨a1, a2, a3, a4, a5, a6, a7, fun i hi => ?_⟩
    rw [h5 i (by omega), h7 i (by omega)]
    exact a8 i hi
theorem findC_ok {Q : Int → GG → FF → Prop} (hv : 1 ≤ v1 ∧ v1 ≤ 5) (h : ∀ g' : GG, g' = am_up g 0 12 v1 → Q (-10 - v1) g' fl) : cI E 33 [amR 0, amI v1] g fl Q := b33 (fun g1 e => ⟨rgI (by omega) (by omega), h g1 e⟩)
theorem findM_ok {Q : Int → GG → FF → Prop} (hv : 1 ≤ v1 ∧ v1 ≤ 5) (h : ∀ g' : GG, g' = am_up g 49 33 v1 → Q (-10 - v1) g' fl) : cI E 165 [amR 49, amI v1] g fl Q := b165 (fun g1 e => ⟨rgI (by omega) (by omega), h g1 e⟩)
theorem Bo.fnd {g1 g2 : GG} {v : Int} (H : Bo b n w mk1 td N T P b' mk' T' P' g fl) (e1 : g1 = am_up g 0 12 v) (e2 : g2 = am_up g1 49 33 v) : Rel g2 fl := by
  have f : ∀ a i, ¬ (a = 0 ∧ i = 12) → ¬ (a = 49 ∧ i = 33) → g2 a i = g a i := fun a i z1 z2 => by rw [e2, e1]; (simp (disch := omega) only [up_at, up_ne])
  exact H.sheets (fun a i z1 z2 => f a i z2 (by omega)) (fun a i z1 z2 z3 => f a i (by omega) z3) (by rw [e2, e1]; (simp (disch := omega) only [up_at, up_ne])) (fun s hs => (H.sh s hs).keep hs (fun a i z => f a i (by omega) (by omega)) (fun _ _ _ => rfl))
theorem isForm_ok {Q : Int → GG → FF → Prop} (h : Q (b01 (0 ≤ v1 ∧ v1 ≤ 2)) g fl) : cI E 31 [amI v1] g fl Q := by
  refine b31 ⟨fun c => ?_, fun c => ?_⟩
  · rwa [b01_f (by omega)] at h
  · rwa [b01_iff (show (0 ≤ v1 ∧ v1 ≤ 2) ↔ ¬ 2 < v1 by omega)] at h
theorem isSheet_ok {Q : Int → GG → FF → Prop} (h : Q (b01 (0 ≤ v1 ∧ v1 ≤ 3)) g fl) : cI E 166 [amI v1] g fl Q := b166 h
theorem has_ok {t : Nat} (ht : t = 37 ∨ t = 40 ∨ t = 43 ∨ t = 46) (h0 : 0 ≤ g t 4) (h60 : g t 4 ≤ 60) {Q : Int → GG → FF → Prop} (h : Q (b01 (0 ≤ v1 ∧ 0 ≤ v2 ∧ v1 ≤ g t 4 ∧ v2 ≤ g t 4 - v1)) g fl) : cI E 59 [amR t, amI v1, amI v2] g fl Q := by
  refine b59 ht ⟨fun c => ?_, fun c => ⟨fun c2 => ?_, fun c2 => ⟨fun c3 => ?_, fun c3 => ⟨rgI (by omega) (by omega), ?_⟩⟩⟩⟩
  · rwa [b01_f (by omega)] at h
  · rwa [b01_f (by omega)] at h
  · rwa [b01_f (by omega)] at h
  · rwa [b01_iff (show (0 ≤ v1 ∧ 0 ≤ v2 ∧ v1 ≤ g t 4 ∧ v2 ≤ g t 4 - v1) ↔ ¬ (g t 4 - v1 < v2) by omega)] at h
theorem setPart_ok {t : Nat} (ht : t = 37 ∨ t = 40 ∨ t = 43 ∨ t = 46) {k : Nat} (hk : v1 = k) (hk60 : k < 60) {x : UInt32} {Q : GG → FF → Prop} (h : ∀ f' : FF, f' = am_up fl (t + 2) k x → Q g f') : cV E 64 [amR t, amI v1, amF x] g fl Q := by
  refine b64 ht ⟨fun c => absurd c (by omega), fun _ => ⟨fun _ => ⟨by omega, fun f3 e3 => h f3 (by rw [e3, toNat_eq hk])⟩, fun c => absurd (by omega) c⟩⟩
theorem partAt_ok {t : Nat} (ht : t = 37 ∨ t = 40 ∨ t = 43 ∨ t = 46) {k : Nat} (hk : v1 = k) (hk60 : k < 60) {Q : UInt32 → GG → FF → Prop} (h : Q (fl (t + 2) k) g fl) : cX E 63 [amR t, amI v1] g fl Q := by
  refine b63 ht ⟨fun c => absurd c (by omega), fun _ => ⟨fun _ => ⟨by omega, by rw [toNat_eq hk]; exact h⟩, fun c => absurd (by omega) c⟩⟩
theorem renew_ok {t : Nat} (ht : t = 37 ∨ t = 40 ∨ t = 43 ∨ t = 46) {m : Nat} (hv : v2 = m) (hm : m ≤ 60) {Q : GG → FF → Prop} (h : ∀ (g' : GG) (f' : FF), g' t 2 = 0 → g' t 3 = v1 → g' t 4 = m → (∀ i, i < m → g' (t + 1) i = 0) → (∀ i, i < m → f' (t + 2) i = FP.fconst0) → (∀ a i, ¬ (a = t ∧ (i = 2 ∨ i = 3 ∨ i = 4)) → ¬ (a = t + 1) → g' a i = g a i) → (∀ a i, ¬ (a = t + 2) → f' a i = fl a i) → Q g' f') : cV E 58 [amR t, amI v1, amI v2] g fl Q := by
  refine b58 ht (fun g1 e1 g2 e2 g3 e3 => ?_)
  have f3 : ∀ a i, ¬ (a = t ∧ (i = 2 ∨ i = 3 ∨ i = 4)) → g3 a i = g a i := fun a i z => by rw [e3, e2, e1]; (simp (disch := omega) only [up_at, up_ne])
  have a2 : g3 t 2 = 0 := by rw [e3, e2, e1]; (simp (disch := omega) only [up_at, up_ne])
  have a3 : g3 t 3 = v1 := by rw [e3, e2]; (simp (disch := omega) only [up_at, up_ne])
  have a4 : g3 t 4 = m := by rw [e3]; (simp (disch := omega) only [up_at, up_ne]); exact hv
  have key : ∀ (f j : Nat) (v : Int) (g1 : GG) (f1 : FF), j + f = m → v = j → (∀ i, i < j → g1 (t + 1) i = 0) → (∀ i, i < j → f1 (t + 2) i = FP.fconst0) → (∀ a i, ¬ (a = t + 1) → g1 a i = g3 a i) → (∀ a i, ¬ (a = t + 2) → f1 a i = fl a i) → am_X E 58 (11, (0, 0), [some (amR t), some (amI v1), some (amI v2), some (amI v)], [], mk g1 f1) (RV Q) := by
    intro f
    induction f with
    | zero =>
      intro j v g1 f1 hj hv' h1 h2 h3 h4
      have : j = m := by omega
      subst this
      exact b58_11 ht ⟨fun c => absurd c (by omega), fun _ => h g1 f1 (by rw [h3 _ _ (by omega)]; exact a2) (by rw [h3 _ _ (by omega)]; exact a3) (by rw [h3 _ _ (by omega)]; exact a4) h1 h2 (fun a i z1 z2 => by rw [h3 a i z2]; exact f3 a i z1) h4⟩
    | succ f ih =>
      intro j v g1 f1 hj hv' h1 h2 h3 h4
      refine b58_11 ht ⟨fun _ g4 e4 => setPart_ok ht (k := j) hv' (by omega) (fun f4 e5 => ⟨rgI (by omega) (by omega), ?_⟩), fun c => absurd (by omega) c⟩
      rw [wr_in hv' (by omega)] at e4
      refine ih (j + 1) _ g4 f4 (by omega) (by omega) (fun i hi => ?_) (fun i hi => ?_) (fun a i z => by rw [e4]; (simp (disch := omega) only [up_at, up_ne]); exact h3 a i z) (fun a i z => by rw [e5]; (simp (disch := omega) only [up_at, up_ne]); exact h4 a i z)
      · rw [e4]
        by_cases c : i = j
        · rw [c]; (simp (disch := omega) only [up_at, up_ne])
        · (simp (disch := omega) only [up_at, up_ne]); exact h1 i (by omega)
      · rw [e5]
        by_cases c : i = j
        · rw [c]; (simp (disch := omega) only [up_at, up_ne])
        · (simp (disch := omega) only [up_at, up_ne]); exact h2 i (by omega)
  exact key m 0 0 g3 fl (by omega) rfl (fun i hi => by omega) (fun i hi => by omega) (fun _ _ _ => rfl) (fun _ _ _ => rfl)
theorem al_sheet (h : Rel g fl) : AlI E 20 167 [amI v1, amI v2, amI v3] g fl := by
  obtain ⟨b, n, w, mk1, td, N, T, P, b', mk', T', P', H⟩ := h
  have bad : ¬ (0 ≤ v1 ∧ v1 < 4 ∧ 0 ≤ v2 ∧ v2 ≤ 2 ∧ v3 ≤ 60) → cI E 167 [amR 49, amI v1, amI v2, amI v3] g fl (fun y g2 f2 => (-2) = y ∧ Rel g2 f2) := fun cc => by
    refine b167 (isSheet_ok ?_)
    by_cases c : 0 ≤ v1 ∧ v1 ≤ 3
    · rw [b01_t c]
      exact ⟨fun y => absurd y (by omega), fun _ => ⟨fun c2 => ⟨fun _ => ⟨rfl, H.rel⟩, fun c3 => absurd ⟨by omega, by omega, by omega, by omega, by omega⟩ cc⟩, fun _ => ⟨rfl, H.rel⟩⟩⟩
    · rw [b01_f c]
      exact ⟨fun _ => ⟨rfl, H.rel⟩, fun y => absurd rfl y⟩
  refine s20 (fun c => bad (by omega)) (fun s hs e => b20sS (t4 hs) (isForm_ok ?_))
  by_cases c2 : 0 ≤ v2 ∧ v2 ≤ 2
  · rw [b01_t c2]
    refine ⟨fun y => absurd y (by omega), fun _ => ⟨fun c3 => bad (by omega), fun c3 => ⟨fun c4 => ?_, fun c4 => ?_⟩⟩⟩
    · refine findC_ok (by omega) (fun g1 e1 => b167 (isSheet_ok ?_))
      rw [b01_t (by omega)]
      exact ⟨fun y => absurd y (by omega), fun _ => ⟨fun _ => ⟨fun y => absurd y (by omega), fun _ => ⟨fun _ => findM_ok (by omega) (fun g2 e2 => ⟨rfl, H.fnd e1 e2⟩), fun y => absurd c4 y⟩⟩, fun y => absurd c2 y⟩⟩
    · obtain ⟨m, hm⟩ : ∃ m : Nat, v3 = m := ⟨v3.toNat, by omega⟩
      refine renew_ok (t4 hs) hm (by omega) (fun g1 f1 q1 q2 q3 q4 q5 q6 q7 => b167 (isSheet_ok ?_))
      rw [b01_t (by omega)]
      refine ⟨fun y => absurd y (by omega), fun _ => ⟨fun _ => ⟨fun y => absurd y (by omega), fun _ => ⟨fun y => absurd y (by omega), fun _ => ⟨by omega, fun g2 e2 g3 e3 => ⟨rgI (by omega) (by omega), ?_⟩⟩⟩⟩, fun y => absurd c2 y⟩⟩
      rw [toNat_eq e] at e2 e3
      have key : ∀ (f j : Nat) (v : Int) (g4 : GG) (f4 : FF), j + f = 60 → v = (60 * s + j : Nat) → (∀ i, i < j → g4 71 (60 * s + i) = 0) → (∀ i, i < j → f4 72 (60 * s + i) = FP.fconst0) → (∀ a i, ¬ (a = 71 ∧ 60 * s ≤ i ∧ i < 60 * s + 60) → g4 a i = g3 a i) → (∀ a i, ¬ (a = 72 ∧ 60 * s ≤ i ∧ i < 60 * s + 60) → f4 a i = f1 a i) → am_X E 167 (33, (0, 0), [some (amR 49), some (amI v1), some (amI v2), some (amI v3), some (amI v)], [], mk g4 f4) (RI (fun y g2 f2 => v3 = y ∧ Rel g2 f2)) := by
        intro f
        induction f with
        | zero =>
          intro j v g4 f4 hj hv h1 h2 h3 h4
          refine b167_33 ⟨rgI (by omega) (by omega), rgI (by omega) (by omega), fun y => absurd y (by omega), fun _ => ⟨rfl, ?_⟩⟩
          have fr : ∀ a i, ¬ (a = 37 + 3 * s ∧ (i = 2 ∨ i = 3 ∨ i = 4)) → ¬ (a = 37 + 3 * s + 1) → ¬ (a = 69 ∧ i = s) → ¬ (a = 70 ∧ i = s) → ¬ (a = 71 ∧ 60 * s ≤ i ∧ i < 60 * s + 60) → g4 a i = g a i := fun a i z1 z2 z3 z4 z5 => by
            rw [h3 a i z5, e3, e2]; (simp (disch := omega) only [up_at, up_ne]); exact q6 a i z1 z2
          have frf : ∀ a i, ¬ (a = 37 + 3 * s + 2) → ¬ (a = 72 ∧ 60 * s ≤ i ∧ i < 60 * s + 60) → f4 a i = fl a i := fun a i z1 z2 => by rw [h4 a i z2]; exact q7 a i z1
          refine H.sheets (fun a i z1 z2 => fr a i (by omega) (by omega) (by omega) (by omega) (by omega)) (fun a i z1 z2 z3 => fr a i (by omega) (by omega) (by omega) (by omega) (by omega)) (by rw [fr _ _ (by omega) (by omega) (by omega) (by omega) (by omega), fr _ _ (by omega) (by omega) (by omega) (by omega) (by omega)]; exact H.fi) (fun r hr => ?_)
          by_cases cr : r = s
          · subst cr
            have x3 : g4 (37 + 3 * r) 3 = v2 := by rw [h3 _ _ (by omega), e3, e2]; (simp (disch := omega) only [up_at, up_ne]); exact q2
            have x4 : g4 (37 + 3 * r) 4 = m := by rw [h3 _ _ (by omega), e3, e2]; (simp (disch := omega) only [up_at, up_ne]); exact q3
            refine Or.inr ⟨by rw [h3 _ _ (by omega), e3, e2]; (simp (disch := omega) only [up_at, up_ne]); exact q1, ?_, by omega, by omega, ?_, by omega, by omega, fun i hi => ?_⟩
            · rw [x3, h3 _ _ (by omega), e3, e2]; (simp (disch := omega) only [up_at, up_ne])
            · rw [x4, h3 _ _ (by omega), e3]; (simp (disch := omega) only [up_at, up_ne]); exact hm
            · have y1 : g4 (37 + 3 * r + 1) i = 0 := by rw [h3 _ _ (by omega), e3, e2]; (simp (disch := omega) only [up_at, up_ne]); exact q4 i (by omega)
              have y2 := h1 i (by omega)
              have y3 : f4 (37 + 3 * r + 2) i = FP.fconst0 := by rw [h4 _ _ (by omega)]; exact q5 i (by omega)
              have y4 := h2 i (by omega)
              rw [y1, y2, y3, y4]
              exact ⟨fun _ => rfl, fun _ => ⟨by omega, by omega⟩, fun _ => ⟨rfl, ok0⟩⟩
          · exact (H.sh r hr).keep2 (fun i => fr _ _ (by omega) (by omega) (by omega) (by omega) (by omega)) (fun i => fr _ _ (by omega) (by omega) (by omega) (by omega) (by omega)) (fr _ _ (by omega) (by omega) (by omega) (by omega) (by omega)) (fr _ _ (by omega) (by omega) (by omega) (by omega) (by omega)) (fun i hi => fr _ _ (by omega) (by omega) (by omega) (by omega) (by omega)) (fun i => frf _ _ (by omega) (by omega)) (fun i hi => frf _ _ (by omega) (by omega))
        | succ f ih =>
          intro j v g4 f4 hj hv h1 h2 h3 h4
          refine b167_33 ⟨rgI (by omega) (by omega), rgI (by omega) (by omega), fun _ => ⟨by omega, fun g5 e5 f5 e6 => ⟨rgI (by omega) (by omega), ?_⟩⟩, fun y => absurd (by omega) y⟩
          rw [toNat_eq hv] at e5 e6
          refine ih (j + 1) _ g5 f5 (by omega) (by omega) (fun i hi => ?_) (fun i hi => ?_) (fun a i z => by rw [e5]; (simp (disch := omega) only [up_at, up_ne]); exact h3 a i z) (fun a i z => by rw [e6]; (simp (disch := omega) only [up_at, up_ne]); exact h4 a i z)
          · rw [e5]
            by_cases c : i = j
            · rw [c]; (simp (disch := omega) only [up_at, up_ne])
            · (simp (disch := omega) only [up_at, up_ne]); exact h1 i (by omega)
          · rw [e6]
            by_cases c : i = j
            · rw [c]; (simp (disch := omega) only [up_at, up_ne])
            · (simp (disch := omega) only [up_at, up_ne]); exact h2 i (by omega)
      exact key 60 0 _ g3 f1 (by omega) (by omega) (fun i hi => by omega) (fun i hi => by omega) (fun _ _ _ => rfl) (fun _ _ _ => rfl)
  · rw [b01_f c2]
    exact ⟨fun _ => bad (by omega), fun y => absurd rfl y⟩
theorem al_lose (h : Rel g fl) : AlI E 21 168 [amI v1] g fl := by
  obtain ⟨b, n, w, mk1, td, N, T, P, b', mk', T', P', H⟩ := h
  refine s21 (fun c => ?_) (fun s hs e => ?_)
  · refine b168 (isSheet_ok ?_)
    rw [b01_f (by omega)]
    exact ⟨fun _ => ⟨rfl, H.rel⟩, fun y => absurd rfl y⟩
  · have yes : b01 (0 ≤ v1 ∧ v1 ≤ 3) = 1 := b01_t (by omega)
    have et : Int.toNat v1 = s := toNat_eq e
    refine b21sS (t4 hs) ⟨fun c => fun g1 e1 => ?_, fun c => findC_ok (by omega) (fun g1 e1 => ?_)⟩
    · rcases H.sh s hs with ⟨z1, z2⟩ | ⟨a1, a2, a3, a4, a5, a6, a7, a8⟩
      · omega
      · refine b168 (isSheet_ok ?_)
        rw [yes, et]
        refine ⟨fun y => absurd y (by omega), fun _ => ⟨by omega, fun y => absurd y ?_, fun _ => fun g2 e2 => ⟨?_, ?_⟩⟩⟩
        · rw [e1]; (simp (disch := omega) only [up_at, up_ne]); omega
        · rw [e2, e1]; (simp (disch := omega) only [up_at, up_ne]); exact a5.symm
        · have fr : ∀ a i, ¬ (a = 37 + 3 * s ∧ i = 2) → ¬ (a = 69 ∧ i = s) → g2 a i = g a i := fun a i z1 z2 => by rw [e2, e1]; (simp (disch := omega) only [up_at, up_ne])
          refine H.sheets (fun a i z1 z2 => fr a i (by omega) (by omega)) (fun a i z1 z2 z3 => fr a i (by omega) (by omega)) (by rw [fr _ _ (by omega) (by omega), fr _ _ (by omega) (by omega)]; exact H.fi) (fun r hr => ?_)
          by_cases cr : r = s
          · subst cr
            exact Or.inl ⟨by rw [e2, e1]; (simp (disch := omega) only [up_at, up_ne]), by rw [e2]; (simp (disch := omega) only [up_at, up_ne])⟩
          · exact (H.sh r hr).keep2 (fun i => fr _ _ (by omega) (by omega)) (fun i => fr _ _ (by omega) (by omega)) (fr _ _ (by omega) (by omega)) (fr _ _ (by omega) (by omega)) (fun i hi => fr _ _ (by omega) (by omega)) (fun _ => rfl) (fun _ _ => rfl)
    · rcases H.sh s hs with ⟨z1, z2⟩ | ⟨a1, -⟩
      · refine b168 (isSheet_ok ?_)
        rw [yes, et]
        refine ⟨fun y => absurd y (by omega), fun _ => ⟨by omega, fun _ => findM_ok (by omega) (fun g2 e2 => ⟨rfl, H.fnd e1 e2⟩), fun y => absurd ?_ y⟩⟩
        rw [e1]; (simp (disch := omega) only [up_at, up_ne]); exact z2
      · exact absurd a1 c
end BSH
