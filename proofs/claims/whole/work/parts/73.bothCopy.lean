/-! both: copy, write -/
section BCP
variable {E : am_E} {g : GG} {fl : FF} {v1 v2 v3 v4 v5 : Int}
def mvD (i j m c p : Nat) : Prop := (i < j ∧ j + m - c ≤ p ∧ p < j + m) ∨ (¬ i < j ∧ j ≤ p ∧ p < j + c)
theorem take_ok {T S : Nat} (hT : T = 37 ∨ T = 40 ∨ T = 43 ∨ T = 46) (hS : S = 37 ∨ S = 40 ∨ S = 43 ∨ S = 46) {i j m : Nat} (h2 : v2 = i) (h3 : v3 = j) (h4 : v4 = m) (hi : i + m ≤ 60) (hj : j + m ≤ 60) {Q : GG → FF → Prop}
    (hq : ∀ (g' : GG) (f' : FF), (g T 3 ≠ 2 → ∀ p, g' (T + 1) p = if j ≤ p ∧ p < j + m then g (S + 1) (i + (p - j)) else g (T + 1) p) → (g T 3 = 2 → ∀ p, f' (T + 2) p = if j ≤ p ∧ p < j + m then fl (S + 2) (i + (p - j)) else fl (T + 2) p) → (∀ a p, ¬ (a = T + 1) → g' a p = g a p) → (g T 3 = 2 → ∀ p, g' (T + 1) p = g (T + 1) p) → (∀ a p, ¬ (a = T + 2) → f' a p = fl a p) → Q g' f') : cV E 62 [amR T, amR S, amI v2, amI v3, amI v4] g fl Q := by
  by_cases cf : g T 3 = 2
  · have key : ∀ (f c : Nat) (v : Int) (f1 : FF), c + f = m → v = c → (∀ p, (mvD i j m c p → f1 (T + 2) p = fl (S + 2) (i + (p - j))) ∧ (¬ mvD i j m c p → f1 (T + 2) p = fl (T + 2) p)) → (∀ a p, ¬ (a = T + 2) → f1 a p = fl a p) → am_X E 62 (2, (0, 0), [some (amR T), some (amR S), some (amI v2), some (amI v3), some (amI v4), some (amI v), none], [], mk g f1) (RV Q) := by
      intro f
      induction f with
      | zero =>
        intro c v f1 hc hv h1 hf
        have : c = m := by omega
        subst this
        refine b62_2 hT hS ⟨fun y => absurd y (by omega), fun _ => hq g f1 (fun y => absurd cf y) (fun _ p => ?_) (fun _ _ _ => rfl) (fun _ _ => rfl) hf⟩
        by_cases cp : j ≤ p ∧ p < j + c
        · rw [if_pos cp]; exact (h1 p).1 (by unfold mvD; omega)
        · rw [if_neg cp]; exact (h1 p).2 (by unfold mvD; omega)
      | succ f ih =>
        intro c v f1 hc hv h1 hf
        have rdS : ∀ q, ¬ mvD i j m c q → f1 (S + 2) q = fl (S + 2) q := fun q hq => by
          by_cases cs : S = T
          · rw [cs]; exact (h1 q).2 hq
          · exact hf _ _ (by omega)
        have step : ∀ (k : Nat) (f2 : FF), k < m → (i < j → k = m - 1 - c) → (¬ i < j → k = c) → f2 = am_up f1 (T + 2) (j + k) (fl (S + 2) (i + k)) → am_X E 62 (2, (0, 0), [some (amR T), some (amR S), some (amI v2), some (amI v3), some (amI v4), some (amI (v + 1)), none], [], mk g f2) (RV Q) := by
          intro k f2 hk k1 k2 e2
          refine ih (c + 1) _ f2 (by omega) (by omega) (fun p => ?_) (fun a p z => by rw [e2]; (simp (disch := omega) only [up_at, up_ne]); exact hf a p z)
          rw [e2]
          by_cases cp : p = j + k
          · rw [cp]; (simp (disch := omega) only [up_at, up_ne])
            refine ⟨fun _ => by rw [show j + k - j = k by omega], fun z => absurd ?_ z⟩
            unfold mvD; omega
          · (simp (disch := omega) only [up_at, up_ne])
            refine ⟨fun z => (h1 p).1 ?_, fun z => (h1 p).2 ?_⟩
            · unfold mvD at z ⊢; omega
            · unfold mvD at z ⊢; omega
        refine b62_2 hT hS ⟨fun _ => ⟨fun cij => ⟨rgI (by omega) (by omega), rgI (by omega) (by omega), fun _ => ⟨rgI (by omega) (by omega), rgI (by omega) (by omega), partAt_ok hS (k := i + (m - 1 - c)) (by omega) (by omega) (setPart_ok hT (k := j + (m - 1 - c)) (by omega) (by omega) (fun f2 e2 => ⟨rgI (by omega) (by omega), ?_⟩))⟩, fun y => absurd cf y⟩, fun cij => ⟨fun _ => ⟨rgI (by omega) (by omega), rgI (by omega) (by omega), partAt_ok hS (k := i + c) (by omega) (by omega) (setPart_ok hT (k := j + c) (by omega) (by omega) (fun f2 e2 => ⟨rgI (by omega) (by omega), ?_⟩))⟩, fun y => absurd cf y⟩⟩, fun y => absurd (by omega) y⟩
        · rw [rdS _ (by unfold mvD; omega)] at e2
          exact step (m - 1 - c) f2 (by omega) (fun _ => rfl) (fun y => absurd (by omega) y) e2
        · rw [rdS _ (by unfold mvD; omega)] at e2
          exact step c f2 (by omega) (fun y => absurd y (by omega)) (fun _ => rfl) e2
    exact b62 hT hS (key m 0 0 fl (by omega) rfl (fun p => ⟨fun z => by unfold mvD at z; omega, fun _ => rfl⟩) (fun _ _ _ => rfl))
  · have key : ∀ (f c : Nat) (v : Int) (g1 : GG), c + f = m → v = c → (∀ p, (mvD i j m c p → g1 (T + 1) p = g (S + 1) (i + (p - j))) ∧ (¬ mvD i j m c p → g1 (T + 1) p = g (T + 1) p)) → (∀ a p, ¬ (a = T + 1) → g1 a p = g a p) → am_X E 62 (2, (0, 0), [some (amR T), some (amR S), some (amI v2), some (amI v3), some (amI v4), some (amI v), none], [], mk g1 fl) (RV Q) := by
      intro f
      induction f with
      | zero =>
        intro c v g1 hc hv h1 hf
        have : c = m := by omega
        subst this
        refine b62_2 hT hS ⟨fun y => absurd y (by omega), fun _ => hq g1 fl (fun _ p => ?_) (fun y => absurd y cf) hf (fun y => absurd y cf) (fun _ _ _ => rfl)⟩
        by_cases cp : j ≤ p ∧ p < j + c
        · rw [if_pos cp]; exact (h1 p).1 (by unfold mvD; omega)
        · rw [if_neg cp]; exact (h1 p).2 (by unfold mvD; omega)
      | succ f ih =>
        intro c v g1 hc hv h1 hf
        have ef : g1 T 3 = g T 3 := hf _ _ (by omega)
        have rdS : ∀ q, ¬ mvD i j m c q → g1 (S + 1) q = g (S + 1) q := fun q hq => by
          by_cases cs : S = T
          · rw [cs]; exact (h1 q).2 hq
          · exact hf _ _ (by omega)
        have step : ∀ (k : Nat) (g2 : GG), k < m → (i < j → k = m - 1 - c) → (¬ i < j → k = c) → g2 = am_up g1 (T + 1) (j + k) (g (S + 1) (i + k)) → am_X E 62 (2, (0, 0), [some (amR T), some (amR S), some (amI v2), some (amI v3), some (amI v4), some (amI (v + 1)), none], [], mk g2 fl) (RV Q) := by
          intro k g2 hk k1 k2 e2
          refine ih (c + 1) _ g2 (by omega) (by omega) (fun p => ?_) (fun a p z => by rw [e2]; (simp (disch := omega) only [up_at, up_ne]); exact hf a p z)
          rw [e2]
          by_cases cp : p = j + k
          · rw [cp]; (simp (disch := omega) only [up_at, up_ne])
            refine ⟨fun _ => by rw [show j + k - j = k by omega], fun z => absurd ?_ z⟩
            unfold mvD; omega
          · (simp (disch := omega) only [up_at, up_ne])
            refine ⟨fun z => (h1 p).1 ?_, fun z => (h1 p).2 ?_⟩
            · unfold mvD at z ⊢; omega
            · unfold mvD at z ⊢; omega
        refine b62_2 hT hS ⟨fun _ => ⟨fun cij => ⟨rgI (by omega) (by omega), rgI (by omega) (by omega), fun y => absurd (by rw [← ef]; exact y) cf, fun _ => ⟨rgI (by omega) (by omega), rgI (by omega) (by omega), fun g2 e2 => ⟨rgI (by omega) (by omega), ?_⟩⟩⟩, fun cij => ⟨fun y => absurd (by rw [← ef]; exact y) cf, fun _ => ⟨rgI (by omega) (by omega), rgI (by omega) (by omega), fun g2 e2 => ⟨rgI (by omega) (by omega), ?_⟩⟩⟩⟩, fun y => absurd (by omega) y⟩
        · rw [rd_in (k := i + (m - 1 - c)) (by omega) (by omega), wr_in (k := j + (m - 1 - c)) (by omega) (by omega), rdS _ (by unfold mvD; omega)] at e2
          exact step (m - 1 - c) g2 (by omega) (fun _ => rfl) (fun y => absurd (by omega) y) e2
        · rw [rd_in (k := i + c) (by omega) (by omega), wr_in (k := j + c) (by omega) (by omega), rdS _ (by unfold mvD; omega)] at e2
          exact step c g2 (by omega) (fun y => absurd y (by omega)) (fun _ => rfl) e2
    exact b62 hT hS (key m 0 0 g (by omega) rfl (fun p => ⟨fun z => by unfold mvD at z; omega, fun _ => rfl⟩) (fun _ _ _ => rfl))
/-- the reference's copy, behind its questions -/
theorem moveM_ok {s r i j m : Nat} (e1 : v1 = s) (e3 : v3 = r) (hs : s < 4) (hr : r < 4) (h2 : v2 = i) (h4 : v4 = j) (h5 : v5 = m) (hi : i + m ≤ 60) (hj : j + m ≤ 60) {Q : Int → GG → FF → Prop}
    (hq : ∀ (g' : GG) (f' : FF), (∀ p, g' 71 p = if 60 * r + j ≤ p ∧ p < 60 * r + j + m then g 71 (60 * s + i + (p - (60 * r + j))) else g 71 p) → (∀ p, f' 72 p = if 60 * r + j ≤ p ∧ p < 60 * r + j + m then fl 72 (60 * s + i + (p - (60 * r + j))) else fl 72 p) → (∀ a p, ¬ (a = 71) → ¬ (a = 73) → g' a p = g a p) → (∀ a p, ¬ (a = 72) → ¬ (a = 74) → f' a p = fl a p) → Q 1 g' f') :
    am_X E 173 (73, (0, 0), [some (amR 49), some (amI v1), some (amI v2), some (amI v3), some (amI v4), some (amI v5), some (amI 0)], [], mk g fl) (RI Q) := by
  have back : ∀ (f c : Nat) (v : Int) (g1 : GG) (f1 : FF), c + f = m → v = c → (∀ k, k < m → g1 73 k = g 71 (60 * s + i + k)) → (∀ k, k < m → f1 74 k = fl 72 (60 * s + i + k)) → (∀ p, g1 71 p = if 60 * r + j ≤ p ∧ p < 60 * r + j + c then g 71 (60 * s + i + (p - (60 * r + j))) else g 71 p) → (∀ p, f1 72 p = if 60 * r + j ≤ p ∧ p < 60 * r + j + c then fl 72 (60 * s + i + (p - (60 * r + j))) else fl 72 p) → (∀ a p, ¬ (a = 71) → ¬ (a = 73) → g1 a p = g a p) → (∀ a p, ¬ (a = 72) → ¬ (a = 74) → f1 a p = fl a p) → am_X E 173 (108, (0, 0), [some (amR 49), some (amI v1), some (amI v2), some (amI v3), some (amI v4), some (amI v5), some (amI v)], [], mk g1 f1) (RI Q) := by
    intro f
    induction f with
    | zero =>
      intro c v g1 f1 hc hv q1 q2 q3 q4 q5 q6
      have : c = m := by omega
      subst this
      exact b173_108 ⟨fun y => absurd y (by omega), fun _ => hq g1 f1 q3 q4 q5 q6⟩
    | succ f ih =>
      intro c v g1 f1 hc hv q1 q2 q3 q4 q5 q6
      refine b173_108 ⟨fun _ => ⟨rgI (by omega) (by omega), rgI (by omega) (by omega), rgI (by omega) (by omega), by omega, by omega, fun g2 e2 f2 e4 => ⟨rgI (by omega) (by omega), ?_⟩⟩, fun y => absurd (by omega) y⟩
      rw [toNat_eq (x := 60 * v3 + v4 + v) (k := 60 * r + j + c) (by omega), toNat_eq hv] at e2 e4
      rw [q1 c (by omega)] at e2
      rw [q2 c (by omega)] at e4
      refine ih (c + 1) _ g2 f2 (by omega) (by omega) (fun k hk => by rw [e2]; (simp (disch := omega) only [up_at, up_ne]); exact q1 k hk) (fun k hk => by rw [e4]; (simp (disch := omega) only [up_at, up_ne]); exact q2 k hk) (fun p => ?_) (fun p => ?_) (fun a p z1 z2 => by rw [e2]; (simp (disch := omega) only [up_at, up_ne]); exact q5 a p z1 z2) (fun a p z1 z2 => by rw [e4]; (simp (disch := omega) only [up_at, up_ne]); exact q6 a p z1 z2)
      · rw [e2]
        by_cases cp : p = 60 * r + j + c
        · rw [cp]; (simp (disch := omega) only [up_at, up_ne]); rw [if_pos (by omega), show 60 * r + j + c - (60 * r + j) = c by omega]
        · (simp (disch := omega) only [up_at, up_ne]); rw [q3 p]
          by_cases cq : 60 * r + j ≤ p ∧ p < 60 * r + j + c
          · rw [if_pos cq, if_pos (by omega)]
          · rw [if_neg cq, if_neg (by omega)]
      · rw [e4]
        by_cases cp : p = 60 * r + j + c
        · rw [cp]; (simp (disch := omega) only [up_at, up_ne]); rw [if_pos (by omega), show 60 * r + j + c - (60 * r + j) = c by omega]
        · (simp (disch := omega) only [up_at, up_ne]); rw [q4 p]
          by_cases cq : 60 * r + j ≤ p ∧ p < 60 * r + j + c
          · rw [if_pos cq, if_pos (by omega)]
          · rw [if_neg cq, if_neg (by omega)]
  have forth : ∀ (f c : Nat) (v : Int) (g1 : GG) (f1 : FF), c + f = m → v = c → (∀ k, k < c → g1 73 k = g 71 (60 * s + i + k)) → (∀ k, k < c → f1 74 k = fl 72 (60 * s + i + k)) → (∀ a p, ¬ (a = 73) → g1 a p = g a p) → (∀ a p, ¬ (a = 74) → f1 a p = fl a p) → am_X E 173 (73, (0, 0), [some (amR 49), some (amI v1), some (amI v2), some (amI v3), some (amI v4), some (amI v5), some (amI v)], [], mk g1 f1) (RI Q) := by
    intro f
    induction f with
    | zero =>
      intro c v g1 f1 hc hv q1 q2 q5 q6
      have : c = m := by omega
      subst this
      exact b173_73 ⟨fun y => absurd y (by omega), fun _ => back c 0 0 g1 f1 (by omega) rfl q1 q2 (fun p => by rw [if_neg (by omega), q5 _ _ (by omega)]) (fun p => by rw [if_neg (by omega), q6 _ _ (by omega)]) (fun a p _ z => q5 a p z) (fun a p _ z => q6 a p z)⟩
    | succ f ih =>
      intro c v g1 f1 hc hv q1 q2 q5 q6
      refine b173_73 ⟨fun _ => ⟨rgI (by omega) (by omega), rgI (by omega) (by omega), rgI (by omega) (by omega), by omega, by omega, fun g2 e2 f2 e4 => ⟨rgI (by omega) (by omega), ?_⟩⟩, fun y => absurd (by omega) y⟩
      rw [toNat_eq (x := 60 * v1 + v2 + v) (k := 60 * s + i + c) (by omega), toNat_eq hv] at e2 e4
      rw [q5 71 _ (by omega)] at e2
      rw [q6 72 _ (by omega)] at e4
      refine ih (c + 1) _ g2 f2 (by omega) (by omega) (fun k hk => ?_) (fun k hk => ?_) (fun a p z => by rw [e2]; (simp (disch := omega) only [up_at, up_ne]); exact q5 a p z) (fun a p z => by rw [e4]; (simp (disch := omega) only [up_at, up_ne]); exact q6 a p z)
      · rw [e2]
        by_cases ck : k = c
        · rw [ck]; (simp (disch := omega) only [up_at, up_ne])
        · (simp (disch := omega) only [up_at, up_ne]); exact q1 k (by omega)
      · rw [e4]
        by_cases ck : k = c
        · rw [ck]; (simp (disch := omega) only [up_at, up_ne])
        · (simp (disch := omega) only [up_at, up_ne]); exact q2 k (by omega)
  exact forth m 0 0 g fl (by omega) rfl (fun k hk => by omega) (fun k hk => by omega) (fun _ _ _ => rfl) (fun _ _ _ => rfl)
theorem al_copy (r2 : am_rg v2) (r4 : am_rg v4) (r5 : am_rg v5) (h : Rel g fl) : AlI E 24 173 [amI v1, amI v2, amI v3, amI v4, amI v5] g fl := by
  obtain ⟨b, n, w, mk1, td, N, T, P, b', mk', T', P', H⟩ := h
  have l2 := r2.2
  have l4 := r4.2
  have l5 := r5.2
  refine s24 (fun c => ?_) (fun s r hs hr e1 e3 => ?_)
  · refine b173 (isSheet_ok ?_)
    by_cases c1 : 0 ≤ v1 ∧ v1 ≤ 3
    · rw [b01_t c1]
      refine ⟨fun y => absurd y (by omega), fun _ => isSheet_ok ?_⟩
      rw [b01_f (by omega)]
      exact ⟨fun _ => ⟨rfl, H.rel⟩, fun y => absurd rfl y⟩
    · rw [b01_f c1]
      exact ⟨fun _ => ⟨rfl, H.rel⟩, fun y => absurd rfl y⟩
  · have yes1 : b01 (0 ≤ v1 ∧ v1 ≤ 3) = 1 := b01_t (by omega)
    have yes3 : b01 (0 ≤ v3 ∧ v3 ≤ 3) = 1 := b01_t (by omega)
    have et1 : Int.toNat v1 = s := toNat_eq e1
    have et3 : Int.toNat v3 = r := toNat_eq e3
    have fin : ∀ (v : Int) (g1 : GG), g1 = am_up g 0 12 v → ((g 69 s = -1 ∨ g 69 r = -1) ∧ v = 1 ∨ g 69 s ≠ -1 ∧ g 69 r ≠ -1 ∧ g 69 s ≠ g 69 r ∧ v = 4 ∨ g 69 s ≠ -1 ∧ g 69 r ≠ -1 ∧ g 69 s = g 69 r ∧ ¬ (0 ≤ v2 ∧ 0 ≤ v4 ∧ 0 ≤ v5 ∧ v2 + v5 ≤ g 70 s ∧ v4 + v5 ≤ g 70 r) ∧ v = 2 ∧ 0 ≤ g 70 s ∧ g 70 s ≤ 60 ∧ 0 ≤ g 70 r ∧ g 70 r ≤ 60) → cI E 173 [amR 49, amI v1, amI v2, amI v3, amI v4, amI v5] g1 fl (fun y g2 f2 => (-10 - v) = y ∧ Rel g2 f2) := by
      intro v g1 ev hc
      have e69 : ∀ q, g1 69 q = g 69 q := fun q => by rw [ev]; (simp (disch := omega) only [up_at, up_ne])
      have e70 : ∀ q, g1 70 q = g 70 q := fun q => by rw [ev]; (simp (disch := omega) only [up_at, up_ne])
      refine b173 (isSheet_ok ?_)
      rw [yes1]
      refine ⟨fun y => absurd y (by omega), fun _ => isSheet_ok ?_⟩
      rw [yes3, et1, et3, e69, e69, e70, e70]
      have go : v = 1 ∨ v = 4 ∨ v = 2 → cI E 165 [amR 49, amI v] g1 fl (fun y g2 f2 => (-10 - v) = y ∧ Rel g2 f2) := fun _ => findM_ok (by omega) (fun g2 e2 => ⟨rfl, H.fnd ev e2⟩)
      refine ⟨fun y => absurd y (by omega), fun _ => ⟨by omega, fun y => ?_, fun y => ⟨by omega, fun y2 => ?_, fun y2 => ⟨fun y3 => ?_, fun y3 => ?_⟩⟩⟩⟩
      · have : v = 1 := by omega
        subst this; exact go (by omega)
      · have : v = 1 := by omega
        subst this; exact go (by omega)
      · rcases hc with z | z | ⟨z1, z2, z3, z4, z5, z6, z7, z8, z9⟩
        · omega
        · omega
        · subst z5
          refine ⟨fun _ => go (by omega), fun c1 => ⟨fun _ => go (by omega), fun c2 => ⟨fun _ => go (by omega), fun c3 => ⟨fun _ => go (by omega), fun c4 => ⟨fun _ => go (by omega), fun c5 => absurd ?_ z4⟩⟩⟩⟩⟩
          rw [lcm_ok (by omega) (by omega) (by omega)] at c4 c5
          omega
      · have : v = 4 := by omega
        subst this; exact go (by omega)
    refine b24sSS (t4 hs) (t4 hr) ⟨fun c => ⟨fun c2 => ⟨fun c3 => ?_, fun c3 => ?_⟩, fun c2 => ?_⟩, fun c => ?_⟩
    · rcases H.sh s hs with ⟨z1, z2⟩ | ⟨a1, a2, a3, a4, a5, a6, a7, a8⟩
      · omega
      · rcases H.sh r hr with ⟨z1, z2⟩ | ⟨b1, b2, b3, b4, b5, b6, b7, b8⟩
        · omega
        · have inx : ¬ (0 ≤ v2 ∧ 0 ≤ v4 ∧ 0 ≤ v5 ∧ v2 + v5 ≤ g 70 s ∧ v4 + v5 ≤ g 70 r) → cI E 33 [amR 0, amI 2] g fl (fun x g1 f1 => cI E 173 [amR 49, amI v1, amI v2, amI v3, amI v4, amI v5] g1 f1 (fun y g2 f2 => x = y ∧ Rel g2 f2)) := fun cc =>
            findC_ok (by decide) (fun g1 e1 => fin 2 g1 e1 (Or.inr (Or.inr ⟨by omega, by omega, by omega, cc, rfl, by omega, by omega, by omega, by omega⟩)))
          refine has_ok (t4 hs) a6 a7 ?_
          by_cases d1 : 0 ≤ v2 ∧ 0 ≤ v5 ∧ v2 ≤ g (37 + 3 * s) 4 ∧ v5 ≤ g (37 + 3 * s) 4 - v2
          · rw [b01_t d1]
            refine ⟨fun y => absurd y (by omega), fun _ => has_ok (t4 hr) b6 b7 ?_⟩
            by_cases d2 : 0 ≤ v4 ∧ 0 ≤ v5 ∧ v4 ≤ g (37 + 3 * r) 4 ∧ v5 ≤ g (37 + 3 * r) 4 - v4
            · rw [b01_t d2]
              refine ⟨fun y => absurd y (by omega), fun _ => ?_⟩
              obtain ⟨i, hi⟩ : ∃ i : Nat, v2 = i := ⟨v2.toNat, by omega⟩
              obtain ⟨j, hj⟩ : ∃ j : Nat, v4 = j := ⟨v4.toNat, by omega⟩
              obtain ⟨m, hm⟩ : ∃ m : Nat, v5 = m := ⟨v5.toNat, by omega⟩
              refine take_ok (t4 hr) (t4 hs) hi hj hm (by omega) (by omega) (fun g1 f1 q1 q2 q3 q4 q5 => b173 (isSheet_ok ?_))
              have e69 : ∀ q, g1 69 q = g 69 q := fun q => q3 _ _ (by omega)
              have e70 : ∀ q, g1 70 q = g 70 q := fun q => q3 _ _ (by omega)
              rw [yes1]
              refine ⟨fun y => absurd y (by omega), fun _ => isSheet_ok ?_⟩
              rw [yes3, et1, et3, e69, e69, e70, e70]
              refine ⟨fun y => absurd y (by omega), fun _ => ⟨by omega, fun y => absurd y (by omega), fun _ => ⟨by omega, fun y => absurd y (by omega), fun _ => ⟨fun _ => ⟨fun y => absurd y (by omega), fun _ => ⟨fun y => absurd y (by omega), fun _ => ⟨fun y => absurd y (by omega), fun _ => ⟨fun y => absurd y (by rw [lcm_ok (by omega) (by omega) (by omega)]; omega), fun _ => ⟨fun y => absurd y (by rw [lcm_ok (by omega) (by omega) (by omega)]; omega), fun _ => ?_⟩⟩⟩⟩⟩, fun y => absurd (by omega) y⟩⟩⟩⟩
              refine moveM_ok e1 e3 hs hr hi hj hm (by omega) (by omega) (fun g2 f2 p1 p2 p3 p4 => ⟨rfl, ?_⟩)
              have fr : ∀ a p, ¬ (a = 37 + 3 * r + 1) → ¬ (a = 71) → ¬ (a = 73) → g2 a p = g a p := fun a p z1 z2 z3 => by rw [p3 a p z2 z3]; exact q3 a p z1
              have frf : ∀ a p, ¬ (a = 37 + 3 * r + 2) → ¬ (a = 72) → ¬ (a = 74) → f2 a p = fl a p := fun a p z1 z2 z3 => by rw [p4 a p z2 z3]; exact q5 a p z1
              have x71 : ∀ p, g2 71 p = if 60 * r + j ≤ p ∧ p < 60 * r + j + m then g 71 (60 * s + i + (p - (60 * r + j))) else g 71 p := fun p => by rw [p1, q3 _ _ (by omega), q3 _ _ (by omega)]
              have x72 : ∀ p, f2 72 p = if 60 * r + j ≤ p ∧ p < 60 * r + j + m then fl 72 (60 * s + i + (p - (60 * r + j))) else fl 72 p := fun p => by rw [p2, q5 _ _ (by omega), q5 _ _ (by omega)]
              refine H.sheets (fun a p z1 z2 => fr a p (by omega) (by omega) (by omega)) (fun a p z1 z2 z3 => fr a p (by omega) (by omega) (by omega)) (by rw [fr _ _ (by omega) (by omega) (by omega), fr _ _ (by omega) (by omega) (by omega)]; exact H.fi) (fun q hq => ?_)
              by_cases cq : q = r
              · subst cq
                have f3 : g2 (37 + 3 * q) 3 = g (37 + 3 * q) 3 := fr _ _ (by omega) (by omega) (by omega)
                have f4 : g2 (37 + 3 * q) 4 = g (37 + 3 * q) 4 := fr _ _ (by omega) (by omega) (by omega)
                refine Or.inr ⟨by rw [fr _ _ (by omega) (by omega) (by omega)]; exact b1, by rw [f3, fr _ _ (by omega) (by omega) (by omega)]; exact b2, by omega, by omega, by rw [f4, fr _ _ (by omega) (by omega) (by omega)]; exact b5, by omega, by omega, fun p hp => ?_⟩
                rw [f4] at hp
                rw [f3, x71, x72]
                by_cases cp : j ≤ p ∧ p < j + m
                · have ha := a8 (i + (p - j)) (by omega)
                  rw [if_pos (by omega), if_pos (by omega), show 60 * s + i + (60 * q + p - (60 * q + j)) = 60 * s + (i + (p - j)) by omega]
                  refine ⟨fun z => ?_, fun z => ha.2.1 (by omega), fun z => ⟨?_, (ha.2.2 (by omega)).2⟩⟩
                  · rw [p3 _ _ (by omega) (by omega), q1 z p, if_pos cp]; exact ha.1 (by omega)
                  · rw [p4 _ _ (by omega) (by omega), q2 z p, if_pos cp]; exact (ha.2.2 (by omega)).1
                · have hb := b8 p hp
                  rw [if_neg (by omega), if_neg (by omega)]
                  refine ⟨fun z => ?_, fun z => hb.2.1 z, fun z => ⟨?_, (hb.2.2 z).2⟩⟩
                  · rw [p3 _ _ (by omega) (by omega), q1 z p, if_neg cp]; exact hb.1 z
                  · rw [p4 _ _ (by omega) (by omega), q2 z p, if_neg cp]; exact (hb.2.2 z).1
              · exact (H.sh q hq).keep2 (fun p => fr _ _ (by omega) (by omega) (by omega)) (fun p => fr _ _ (by omega) (by omega) (by omega)) (fr _ _ (by omega) (by omega) (by omega)) (fr _ _ (by omega) (by omega) (by omega)) (fun p hp => by rw [x71, if_neg (by omega)]) (fun p => frf _ _ (by omega) (by omega) (by omega)) (fun p hp => by rw [x72, if_neg (by omega)])
            · rw [b01_f d2]
              exact ⟨fun _ => inx (by omega), fun y => absurd rfl y⟩
          · rw [b01_f d1]
            exact ⟨fun _ => inx (by omega), fun y => absurd rfl y⟩
    · rcases H.sh s hs with ⟨z1, z2⟩ | ⟨a1, a2, a3, a4, a5, a6, a7, a8⟩
      · omega
      · rcases H.sh r hr with ⟨z1, z2⟩ | ⟨b1, b2, b3, b4, b5, b6, b7, b8⟩
        · omega
        · exact findC_ok (by decide) (fun g1 e1 => fin 4 g1 e1 (Or.inr (Or.inl ⟨by omega, by omega, by omega, rfl⟩)))
    · rcases H.sh r hr with ⟨z1, z2⟩ | ⟨b1, -⟩
      · exact findC_ok (by decide) (fun g1 e1 => fin 1 g1 e1 (Or.inl ⟨Or.inr z2, rfl⟩))
      · exact absurd b1 c2
    · rcases H.sh s hs with ⟨z1, z2⟩ | ⟨a1, -⟩
      · exact findC_ok (by decide) (fun g1 e1 => fin 1 g1 e1 (Or.inl ⟨Or.inl z2, rfl⟩))
      · exact absurd a1 c
end BCP
