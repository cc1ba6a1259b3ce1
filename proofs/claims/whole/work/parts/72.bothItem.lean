/-! both: put, get, read, write -/
section BIT
variable {E : am_E} {g : GG} {fl : FF} {v1 v2 v3 v4 v5 : Int}
theorem hasItem_ok {s : Nat} (hv : v1 = s) (hs : s < 4) (h0 : 0 ≤ g 70 s) (h60 : g 70 s ≤ 60) {Q : Int → GG → FF → Prop} (h : Q (b01 (0 ≤ v2 ∧ v2 < g 70 s)) g fl) : cI E 169 [amR 49, amI v1, amI v2] g fl Q := by
  refine b169 ⟨by omega, ?_⟩
  rw [toNat_eq hv]
  refine ⟨rgI (by omega) (by omega), ?_⟩
  rwa [b01_iff (show (0 ≤ v2 ∧ v2 < g 70 s) ↔ (0 ≤ v2 ∧ v2 ≤ g 70 s - 1) by omega)] at h
/-- one item of a sheet in both -/
theorem SR.item {s t : Nat} {g' : GG} {fl' : FF} {k : Nat} (h : SR s t g fl) (hk : k < 60) (h1 : ∀ i, g' t i = g t i) (h3 : g' 69 s = g 69 s) (h4 : g' 70 s = g 70 s)
    (h2 : ∀ i, i ≠ k → g' (t + 1) i = g (t + 1) i) (h5 : ∀ i, i < 60 → i ≠ k → g' 71 (60 * s + i) = g 71 (60 * s + i)) (h6 : ∀ i, i ≠ k → fl' (t + 2) i = fl (t + 2) i) (h7 : ∀ i, i < 60 → i ≠ k → fl' 72 (60 * s + i) = fl 72 (60 * s + i))
    (hn : g t 2 = 0 → (g t 3 ≠ 2 → g' (t + 1) k = g' 71 (60 * s + k)) ∧ (g t 3 = 0 → -128 ≤ g' 71 (60 * s + k) ∧ g' 71 (60 * s + k) ≤ 127) ∧ (g t 3 = 2 → fl' (t + 2) k = fl' 72 (60 * s + k) ∧ okM (fl' 72 (60 * s + k)))) : SR s t g' fl' := by
  unfold SR at h ⊢
  simp only [h1, h3, h4]
  rcases h with h | ⟨a1, a2, a3, a4, a5, a6, a7, a8⟩
  · exact Or.inl h
  · refine Or.inr ⟨a1, a2, a3, a4, a5, a6, a7, fun i hi => ?_⟩
    by_cases c : i = k
    · rw [c]; exact hn a1
    · rw [h2 i c, h5 i (by omega) c, h6 i c, h7 i (by omega) c]; exact a8 i hi
theorem al_put (h : Rel g fl) : AlI E 22 170 [amI v1, amI v2, amI v3, amI v4] g fl := by
  obtain ⟨b, n, w, mk1, td, N, T, P, b', mk', T', P', H⟩ := h
  have bad : ¬ (0 ≤ v1 ∧ v1 < 4 ∧ 0 ≤ v2 ∧ v2 ≤ 2) → cI E 170 [amR 49, amI v1, amI v2, amI v3, amI v4] g fl (fun y g2 f2 => (-2) = y ∧ Rel g2 f2) := fun cc => by
    refine b170 (isSheet_ok ?_)
    by_cases c : 0 ≤ v1 ∧ v1 ≤ 3
    · rw [b01_t c]
      exact ⟨fun y => absurd y (by omega), fun _ => ⟨fun c2 => absurd ⟨by omega, by omega, by omega, by omega⟩ cc, fun _ => ⟨rfl, H.rel⟩⟩⟩
    · rw [b01_f c]
      exact ⟨fun _ => ⟨rfl, H.rel⟩, fun y => absurd rfl y⟩
  refine s22 (fun c => bad (by omega)) (fun s hs e => b22sS (t4 hs) (isForm_ok ?_))
  by_cases c2 : 0 ≤ v2 ∧ v2 ≤ 2
  · rw [b01_t c2]
    have yes : b01 (0 ≤ v1 ∧ v1 ≤ 3) = 1 := b01_t (by omega)
    have et : Int.toNat v1 = s := toNat_eq e
    have fin : ∀ (v : Int) (g1 : GG), 1 ≤ v ∧ v ≤ 5 → g1 = am_up g 0 12 v → (g 69 s = -1 ∧ v = 1 ∨ g 69 s ≠ -1 ∧ g 69 s ≠ v2 ∧ v = 3 ∨ g 69 s ≠ -1 ∧ g 69 s = v2 ∧ ¬ (0 ≤ v3 ∧ v3 < g 70 s) ∧ v = 2 ∧ 0 ≤ g 70 s ∧ g 70 s ≤ 60) → cI E 170 [amR 49, amI v1, amI v2, amI v3, amI v4] g1 fl (fun y g2 f2 => (-10 - v) = y ∧ Rel g2 f2) := by
      intro v g1 hv e1 hc
      have e69 : g1 69 s = g 69 s := by rw [e1]; (simp (disch := omega) only [up_at, up_ne])
      have e70 : g1 70 s = g 70 s := by rw [e1]; (simp (disch := omega) only [up_at, up_ne])
      refine b170 (isSheet_ok ?_)
      rw [yes, et]
      refine ⟨fun y => absurd y (by omega), fun _ => ⟨fun _ => ⟨by omega, fun y => ?_, fun y => ⟨fun y2 => ?_, fun y2 => ?_⟩⟩, fun y => absurd c2 y⟩⟩
      · rcases hc with ⟨z1, z2⟩ | ⟨z1, z2⟩ | ⟨z1, z2⟩
        · subst z2; exact findM_ok (by omega) (fun g2 e2 => ⟨rfl, H.fnd e1 e2⟩)
        · omega
        · omega
      · rcases hc with ⟨z1, z2⟩ | ⟨z1, z2, z3⟩ | ⟨z1, z2, z3, z4, z5, z6⟩
        · omega
        · omega
        · subst z4
          refine hasItem_ok e hs (by omega) (by omega) ?_
          rw [e70, b01_f z3]
          exact ⟨fun _ => findM_ok (by decide) (fun g2 e2 => ⟨rfl, H.fnd e1 e2⟩), fun y3 => absurd (by decide) y3⟩
      · rcases hc with ⟨z1, z2⟩ | ⟨z1, z2, z3⟩ | ⟨z1, z2, z3, z4, z5, z6⟩
        · omega
        · subst z3; exact findM_ok (by omega) (fun g2 e2 => ⟨rfl, H.fnd e1 e2⟩)
        · omega
    refine ⟨fun y => absurd y (by omega), fun _ => ⟨fun c3 => ⟨fun c4 => ?_, fun c4 => ?_⟩, fun c3 => ?_⟩⟩
    · rcases H.sh s hs with ⟨z1, z2⟩ | ⟨a1, a2, a3, a4, a5, a6, a7, a8⟩
      · omega
      · refine has_ok (t4 hs) a6 a7 ?_
        by_cases ci : 0 ≤ v3 ∧ v3 < g (37 + 3 * s) 4
        · rw [b01_t (by omega)]
          refine ⟨fun y => absurd y (by omega), fun _ => ?_⟩
          obtain ⟨k, hk⟩ : ∃ k : Nat, v3 = k := ⟨v3.toNat, by omega⟩
          have hk60 : k < 60 := by omega
          -- behind the component's place
          have rest : ∀ (g1 : GG) (f1 : FF), (∀ a i, ¬ (a = 37 + 3 * s + 1 ∧ i = k) → g1 a i = g a i) → (∀ a i, ¬ (a = 37 + 3 * s + 2 ∧ i = k) → f1 a i = fl a i) → (v2 = 2 → f1 (37 + 3 * s + 2) k = FP.fdiv (am_i2f v4) (UInt32.ofNat 1090519040)) → (v2 = 0 → g1 (37 + 3 * s + 1) k = am_i2b v4) → (v2 = 1 → g1 (37 + 3 * s + 1) k = v4) → cI E 170 [amR 49, amI v1, amI v2, amI v3, amI v4] g1 f1 (fun y g2 f2 => 1 = y ∧ Rel g2 f2) := by
            intro g1 f1 hf hff q2 q0 q1
            have e69 : g1 69 s = g 69 s := hf _ _ (by omega)
            have e70 : g1 70 s = g 70 s := hf _ _ (by omega)
            have last : ∀ (x : Int) (g9 : GG) (f10 : FF), g9 = am_up g1 71 (60 * s + k) x → f10 = am_up f1 72 (60 * s + k) (FP.fdiv (am_i2f v4) (UInt32.ofNat 1090519040)) → (v2 = 0 → x = am_i2b v4) → (v2 = 1 → x = v4) → Rel g9 f10 := by
              intro x g9 f10 e9 e10 x0 x1
              have fr : ∀ a i, ¬ (a = 37 + 3 * s + 1 ∧ i = k) → ¬ (a = 71 ∧ i = 60 * s + k) → g9 a i = g a i := fun a i z1 z2 => by rw [e9]; (simp (disch := omega) only [up_at, up_ne]); exact hf a i z1
              have frf : ∀ a i, ¬ (a = 37 + 3 * s + 2 ∧ i = k) → ¬ (a = 72 ∧ i = 60 * s + k) → f10 a i = fl a i := fun a i z1 z2 => by rw [e10]; (simp (disch := omega) only [up_at, up_ne]); exact hff a i z1
              refine H.sheets (fun a i z1 z2 => fr a i (by omega) (by omega)) (fun a i z1 z2 z3 => fr a i (by omega) (by omega)) (by rw [fr _ _ (by omega) (by omega), fr _ _ (by omega) (by omega)]; exact H.fi) (fun r hr => ?_)
              by_cases cr : r = s
              · subst cr
                refine (H.sh r hr).item hk60 (fun i => fr _ _ (by omega) (by omega)) (fr _ _ (by omega) (by omega)) (fr _ _ (by omega) (by omega)) (fun i hi => fr _ _ (by omega) (by omega)) (fun i hi hi2 => fr _ _ (by omega) (by omega)) (fun i hi => frf _ _ (by omega) (by omega)) (fun i hi hi2 => frf _ _ (by omega) (by omega)) (fun _ => ?_)
                have y1 : g9 (37 + 3 * r + 1) k = g1 (37 + 3 * r + 1) k := by rw [e9]; (simp (disch := omega) only [up_at, up_ne])
                have y2 : g9 71 (60 * r + k) = x := by rw [e9]; (simp (disch := omega) only [up_at, up_ne])
                have y3 : f10 (37 + 3 * r + 2) k = f1 (37 + 3 * r + 2) k := by rw [e10]; (simp (disch := omega) only [up_at, up_ne])
                have y4 : f10 72 (60 * r + k) = FP.fdiv (am_i2f v4) (UInt32.ofNat 1090519040) := by rw [e10]; (simp (disch := omega) only [up_at, up_ne])
                rw [y1, y2, y3, y4]
                refine ⟨fun z => ?_, fun z => ?_, fun z => ⟨q2 (by omega), div8_ok.2⟩⟩
                · rcases (show v2 = 0 ∨ v2 = 1 by omega) with z2 | z2
                  · rw [q0 z2, x0 z2]
                  · rw [q1 z2, x1 z2]
                · rw [x0 (by omega)]; exact i2b_in
              · exact (H.sh r hr).keep2 (fun i => fr _ _ (by omega) (by omega)) (fun i => fr _ _ (by omega) (by omega)) (fr _ _ (by omega) (by omega)) (fr _ _ (by omega) (by omega)) (fun i hi => fr _ _ (by omega) (by omega)) (fun i => frf _ _ (by omega) (by omega)) (fun i hi => frf _ _ (by omega) (by omega))
            refine b170 (isSheet_ok ?_)
            rw [yes, et]
            refine ⟨fun y => absurd y (by omega), fun _ => ⟨fun _ => ⟨by omega, fun y => absurd y (by omega), fun y => ⟨fun y2 => hasItem_ok e hs (by omega) (by omega) ?_, fun y2 => absurd (by omega) y2⟩⟩, fun y => absurd c2 y⟩⟩
            rw [b01_t (by omega)]
            refine ⟨fun y3 => absurd y3 (by decide), fun _ => ⟨rgI (by omega) (by omega), rgI (by omega) (by omega), ?_⟩⟩
            rw [toNat_eq (x := 60 * v1 + v3) (k := 60 * s + k) (by omega)]
            exact ⟨fun z => ⟨by omega, fun g9 e9 => ⟨div8_ok.1, fun f10 e10 => ⟨rfl, last _ g9 f10 e9 e10 (fun _ => rfl) (fun z2 => by omega)⟩⟩⟩, fun z => ⟨by omega, fun g9 e9 => ⟨div8_ok.1, fun f10 e10 => ⟨rfl, last _ g9 f10 e9 e10 (fun z2 => absurd z2 z) (fun _ => rfl)⟩⟩⟩⟩
          refine b60 (t4 hs) ⟨fun z => ⟨fun y => absurd y (by decide), fun _ => ⟨?_, setPart_ok (t4 hs) hk hk60 (fun f2 e2 => ?_)⟩⟩, fun z => ⟨fun z2 => fun g3 e3 => ?_, fun z2 => fun g3 e3 => ?_⟩⟩
          · rw [i2f8]; exact div8_ok.1
          · rw [i2f8] at e2
            exact rest g f2 (fun _ _ _ => rfl) (fun a i y => by rw [e2]; (simp (disch := omega) only [up_at, up_ne])) (fun _ => by rw [e2]; (simp (disch := omega) only [up_at, up_ne])) (fun y => by omega) (fun y => by omega)
          · rw [wr_in hk hk60] at e3
            exact rest g3 fl (fun a i y => by rw [e3]; (simp (disch := omega) only [up_at, up_ne])) (fun _ _ _ => rfl) (fun y => by omega) (fun _ => by rw [e3]; (simp (disch := omega) only [up_at, up_ne])) (fun y => by omega)
          · rw [wr_in hk hk60] at e3
            exact rest g3 fl (fun a i y => by rw [e3]; (simp (disch := omega) only [up_at, up_ne])) (fun _ _ _ => rfl) (fun y => by omega) (fun y => by omega) (fun _ => by rw [e3]; (simp (disch := omega) only [up_at, up_ne]))
        · rw [b01_f (by omega)]
          exact ⟨fun _ => findC_ok (by decide) (fun g1 e1 => fin 2 g1 (by decide) e1 (Or.inr (Or.inr ⟨by omega, by omega, by omega, rfl, by omega, by omega⟩))), fun y => absurd rfl y⟩
    · rcases H.sh s hs with ⟨z1, z2⟩ | ⟨a1, a2, a3, a4, a5, a6, a7, a8⟩
      · omega
      · exact findC_ok (by decide) (fun g1 e1 => fin 3 g1 (by decide) e1 (Or.inr (Or.inl ⟨by omega, by omega, rfl⟩)))
    · rcases H.sh s hs with ⟨z1, z2⟩ | ⟨a1, -⟩
      · exact findC_ok (by decide) (fun g1 e1 => fin 1 g1 (by decide) e1 (Or.inl ⟨z2, rfl⟩))
      · exact absurd a1 c3
  · rw [b01_f c2]
    exact ⟨fun _ => bad (by omega), fun y => absurd rfl y⟩
theorem al_get (h : Rel g fl) : AlI E 23 172 [amI v1, amI v2] g fl := by
  obtain ⟨b, n, w, mk1, td, N, T, P, b', mk', T', P', H⟩ := h
  refine s23 (fun c => ?_) (fun s hs e => ?_)
  · refine b172 (isSheet_ok ?_)
    rw [b01_f (by omega)]
    exact ⟨fun _ => ⟨rfl, H.rel⟩, fun y => absurd rfl y⟩
  · have yes : b01 (0 ≤ v1 ∧ v1 ≤ 3) = 1 := b01_t (by omega)
    have et : Int.toNat v1 = s := toNat_eq e
    refine b23sS (t4 hs) ⟨fun c => ?_, fun c => findC_ok (by decide) (fun g1 e1 => ?_)⟩
    · rcases H.sh s hs with ⟨z1, z2⟩ | ⟨a1, a2, a3, a4, a5, a6, a7, a8⟩
      · omega
      · refine has_ok (t4 hs) a6 a7 ?_
        by_cases ci : 0 ≤ v2 ∧ v2 < g (37 + 3 * s) 4
        · rw [b01_t (by omega)]
          refine ⟨fun y => absurd y (by omega), fun _ => ?_⟩
          obtain ⟨k, hk⟩ : ∃ k : Nat, v2 = k := ⟨v2.toNat, by omega⟩
          have hk60 : k < 60 := by omega
          obtain ⟨i1, i2, i3⟩ := a8 k (by omega)
          have ref : ∀ x : Int, (g (37 + 3 * s) 3 = 2 → vf_n32 (FP.fmul (UInt32.ofNat 1090519040) (fl 72 (60 * s + k))) ∧ x = am_f2i (FP.fmul (UInt32.ofNat 1090519040) (fl 72 (60 * s + k)))) → (g (37 + 3 * s) 3 ≠ 2 → x = g 71 (60 * s + k)) → cI E 172 [amR 49, amI v1, amI v2] g fl (fun y g2 f2 => x = y ∧ Rel g2 f2) := by
            intro x x2 x0
            refine b172 (isSheet_ok ?_)
            rw [yes, et]
            refine ⟨fun y => absurd y (by omega), fun _ => ⟨by omega, fun y => absurd y (by omega), fun _ => hasItem_ok e hs (by omega) (by omega) ?_⟩⟩
            rw [b01_t (by omega)]
            refine ⟨fun y => absurd y (by omega), fun _ => b171 ⟨by omega, ?_⟩⟩
            rw [et, toNat_eq (x := 60 * v1 + v2) (k := 60 * s + k) (by omega)]
            exact ⟨fun z => ⟨rgI (by omega) (by omega), rgI (by omega) (by omega), by omega, (x2 (by omega)).1, (x2 (by omega)).2, H.rel⟩, fun z => ⟨rgI (by omega) (by omega), rgI (by omega) (by omega), by omega, x0 (by omega), H.rel⟩⟩
          refine b61 (t4 hs) ⟨fun z => partAt_ok (t4 hs) hk hk60 ?_, fun z => ?_⟩
          · rw [(i3 z).1]
            exact ⟨(i3 z).2, ref _ (fun _ => ⟨(i3 z).2, rfl⟩) (fun y => absurd z y)⟩
          · rw [rd_in hk hk60]
            exact ref _ (fun y => absurd y z) (fun _ => i1 z)
        · rw [b01_f (by omega)]
          refine ⟨fun _ => findC_ok (by decide) (fun g1 e1 => b172 (isSheet_ok ?_)), fun y => absurd rfl y⟩
          have e69 : g1 69 s = g 69 s := by rw [e1]; (simp (disch := omega) only [up_at, up_ne])
          have e70 : g1 70 s = g 70 s := by rw [e1]; (simp (disch := omega) only [up_at, up_ne])
          rw [yes, et]
          refine ⟨fun y => absurd y (by omega), fun _ => ⟨by omega, fun y => absurd y (by omega), fun _ => hasItem_ok e hs (by omega) (by omega) ?_⟩⟩
          rw [b01_f (by omega), if_neg (by omega)]
          exact ⟨fun _ => findM_ok (by decide) (fun g2 e2 => ⟨rfl, H.fnd e1 e2⟩), fun y => absurd rfl y⟩
    · rcases H.sh s hs with ⟨z1, z2⟩ | ⟨a1, -⟩
      · refine b172 (isSheet_ok ?_)
        rw [yes, et]
        refine ⟨fun y => absurd y (by omega), fun _ => ⟨by omega, fun _ => findM_ok (by omega) (fun g2 e2 => ⟨rfl, H.fnd e1 e2⟩), fun y => absurd ?_ y⟩⟩
        rw [e1]; (simp (disch := omega) only [up_at, up_ne]); exact z2
      · exact absurd a1 c
theorem al_read (h : Rel g fl) : AlI E 3 101 [amI v1] g fl := by
  obtain ⟨b, n, w, mk1, td, N, T, P, b', mk', T', P', H⟩ := h
  refine s3 (fun c => ?_) (fun s hs e => ?_)
  · refine b101 (isSheet_ok ?_)
    rw [b01_f (by omega)]
    exact ⟨fun _ => ⟨rfl, H.rel⟩, fun y => absurd rfl y⟩
  · have yes : b01 (0 ≤ v1 ∧ v1 ≤ 3) = 1 := b01_t (by omega)
    have et : Int.toNat v1 = s := toNat_eq e
    refine b3sS (t4 hs) ⟨fun c => ⟨fun c0 => fun g3 e3 => ?_, fun c0 => findC_ok (by decide) (fun g1 e1 => b101 (isSheet_ok ?_))⟩, fun c => findC_ok (by decide) (fun g1 e1 => b101 (isSheet_ok ?_))⟩
    · rcases H.sh s hs with ⟨z1, z2⟩ | ⟨a1, a2, a3, a4, a5, a6, a7, a8⟩
      · omega
      · obtain ⟨m, hm⟩ : ∃ m : Nat, g (37 + 3 * s) 4 = m := ⟨(g (37 + 3 * s) 4).toNat, by omega⟩
        have hm60 : m ≤ 60 := by omega
        have kc : ∀ (f j : Nat) (v : Int) (g1 : GG), j + f = m → v = j → g1 0 10 = m → (∀ i, g1 1 i = if i < j then am_and (g 71 (60 * s + i)) 255 else g 1 i) → (∀ a i, ¬ (a = 1) → ¬ (a = 0 ∧ i = 10) → g1 a i = g a i) → am_X E 3 (28, (0, 0), [some (amR 0), some (amI v1), some (amR (37 + 3 * s)), some (amI v)], [], mk g1 fl) (RI (fun x g1 f1 => cI E 101 [amR 49, amI v1] g1 f1 (fun y g2 f2 => x = y ∧ Rel g2 f2))) := by
          intro f
          induction f with
          | zero =>
            intro j v g1 hj hv h10 h1 hf
            have : j = m := by omega
            subst this
            refine b3_28 (t4 hs) ⟨fun y => absurd y (by omega), fun _ => textCh_ok (fun g2 q1 q2 q3 q4 => b101 (isSheet_ok ?_))⟩
            have f2 : ∀ a i, ¬ (a = 4) → ¬ (a = 0 ∧ (i = 10 ∨ i = 15 ∨ i = 16)) → ¬ (a = 1) → g2 a i = g a i := fun a i z1 z2 z3 => by rw [q4 a i z1 (by omega)]; exact hf a i z3 (by omega)
            have e10 : g2 0 10 = j := by rw [q4 _ _ (by omega) (by omega)]; exact h10
            rw [yes, et, e10]
            refine ⟨fun y => absurd y (by omega), fun _ => ⟨by omega, fun _ => fun g4 e4 => ?_, fun y => absurd (by rw [f2 _ _ (by omega) (by omega) (by omega)]; omega) y⟩⟩
            rw [f2 70 s (by omega) (by omega) (by omega), a5, hm] at e4
            have km : ∀ (f i : Nat) (v : Int) (g5 : GG), i + f = j → v = i → (∀ p, g5 50 p = if p < i then g 71 (60 * s + p) else g2 50 p) → (∀ a p, ¬ (a = 50) → g5 a p = g4 a p) → am_X E 101 (30, (0, 0), [some (amR 49), some (amI v1), some (amI v)], [], mk g5 fl) (RI (fun y g2 f2 => ((j : Nat) : Int) = y ∧ Rel g2 f2)) := by
              intro f
              induction f with
              | zero =>
                intro i v g5 hi hv5 h50 hf5
                have : i = j := by omega
                subst this
                have e491 : g5 49 1 = i := by rw [hf5 _ _ (by omega), e4]; (simp (disch := omega) only [up_at, up_ne])
                refine b101_30 ⟨fun y => absurd y (by omega), fun _ => forgets_ok (fun g6 r1 r2 => ?_)⟩
                have fr : ∀ a p, ¬ (a = 52) → ¬ (a = 50) → ¬ (a = 49 ∧ p = 1) → g6 a p = g2 a p := fun a p z1 z2 z3 => by rw [r2 a p z1, hf5 a p z2, e4]; (simp (disch := omega) only [up_at, up_ne])
                have e6 : g6 49 1 = i := by rw [r2 _ _ (by omega)]; exact e491
                refine ⟨e6.symm, Rel.text (n := i) H hm60 (by rw [fr _ _ (by omega) (by omega) (by omega)]; exact e10) e6 (fun p => ?_) (fun p => ?_) (by rw [fr _ _ (by omega) (by omega) (by omega)]; exact q2) (by rw [fr _ _ (by omega) (by omega) (by omega)]; exact q3) (fun p hp => ?_) (fun a p z1 z2 z3 z4 z5 z6 => by rw [fr a p z6 z5 z2]; exact f2 a p z4 z1 z3)⟩
                · rw [fr _ _ (by omega) (by omega) (by omega), q1, hf _ _ (by omega) (by omega)]
                · rw [r1, hf5 _ _ (by omega), e4]; (simp (disch := omega) only [up_at, up_ne]); rw [f2 _ _ (by omega) (by omega) (by omega)]
                · rw [fr _ _ (by omega) (by omega) (by omega), q4 _ _ (by omega) (by omega), h1, if_pos hp, r2 _ _ (by omega), h50, if_pos hp]
                  have hb := (a8 p (by omega)).2.1 c0
                  exact bR_and hb.1 hb.2
              | succ f ih =>
                intro i v g5 hi hv5 h50 hf5
                have e491 : g5 49 1 = j := by rw [hf5 _ _ (by omega), e4]; (simp (disch := omega) only [up_at, up_ne])
                refine b101_30 ⟨fun _ => ⟨rgI (by omega) (by omega), rgI (by omega) (by omega), by omega, by omega, fun g6 e6 => ⟨rgI (by omega) (by omega), ?_⟩⟩, fun y => absurd (by omega) y⟩
                rw [toNat_eq hv5, toNat_eq (x := 60 * v1 + v) (k := 60 * s + i) (by omega), hf5 71 _ (by omega), show g4 71 (60 * s + i) = g 71 (60 * s + i) by rw [e4]; (simp (disch := omega) only [up_at, up_ne]); exact f2 _ _ (by omega) (by omega) (by omega)] at e6
                refine ih (i + 1) _ g6 (by omega) (by omega) (fun p => ?_) (fun a p z => by rw [e6]; (simp (disch := omega) only [up_at, up_ne]); exact hf5 a p z)
                rw [e6]
                by_cases cp : p = i
                · rw [cp]; (simp (disch := omega) only [up_at, up_ne]); rw [if_pos (by omega)]
                · (simp (disch := omega) only [up_at, up_ne]); rw [h50 p]
                  by_cases cq : p < i
                  · rw [if_pos cq, if_pos (by omega)]
                  · rw [if_neg cq, if_neg (by omega)]
            refine km j 0 0 g4 (by omega) rfl (fun p => by rw [if_neg (by omega), e4]; (simp (disch := omega) only [up_at, up_ne])) (fun _ _ _ => rfl)
          | succ f ih =>
            intro j v g1 hj hv h10 h1 hf
            refine b3_28 (t4 hs) ⟨fun _ g2 e2 => ⟨rgI (by omega) (by omega), ?_⟩, fun y => absurd (by omega) y⟩
            have ei := (a8 j (by omega)).1 (by omega)
            rw [wr_in hv (by omega), rd_in hv (by omega), hf _ _ (by omega) (by omega), ei] at e2
            refine ih (j + 1) _ g2 (by omega) (by omega) (by rw [e2]; (simp (disch := omega) only [up_at, up_ne]); exact h10) (fun i => ?_) (fun a i z1 z2 => by rw [e2]; (simp (disch := omega) only [up_at, up_ne]); exact hf a i z1 z2)
            rw [e2]
            by_cases cp : i = j
            · rw [cp]; (simp (disch := omega) only [up_at, up_ne]); rw [if_pos (by omega)]
            · (simp (disch := omega) only [up_at, up_ne]); rw [h1 i]
              by_cases cq : i < j
              · rw [if_pos cq, if_pos (by omega)]
              · rw [if_neg cq, if_neg (by omega)]
        exact kc m 0 0 g3 (by omega) rfl (by rw [e3]; (simp (disch := omega) only [up_at, up_ne]); exact hm) (fun i => by rw [if_neg (by omega), e3]; (simp (disch := omega) only [up_at, up_ne])) (fun a i z1 z2 => by rw [e3]; (simp (disch := omega) only [up_at, up_ne]))
    · rcases H.sh s hs with ⟨z1, z2⟩ | ⟨a1, a2, a3, a4, a5, a6, a7, a8⟩
      · omega
      · have e69 : g1 69 s = g 69 s := by rw [e1]; (simp (disch := omega) only [up_at, up_ne])
        rw [yes, et, if_neg (by omega)]
        exact ⟨fun y => absurd y (by omega), fun _ => ⟨by omega, fun y => absurd (by omega) c0, fun _ => findM_ok (by decide) (fun g2 e2 => ⟨rfl, H.fnd e1 e2⟩)⟩⟩
    · rcases H.sh s hs with ⟨z1, z2⟩ | ⟨a1, -⟩
      · have e69 : g1 69 s = g 69 s := by rw [e1]; (simp (disch := omega) only [up_at, up_ne])
        rw [yes, et, if_pos (by omega)]
        exact ⟨fun y => absurd y (by omega), fun _ => ⟨by omega, fun y => absurd y (by omega), fun _ => findM_ok (by decide) (fun g2 e2 => ⟨rfl, H.fnd e1 e2⟩)⟩⟩
      · exact absurd a1 c
end BIT
