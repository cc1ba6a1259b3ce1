/-! the reference's feet of a word -/
def mfs (st : Nat → Nat) (p s : Nat) : Int := if 0 < st s then (s : Int) else if p < s ∧ st (s - 1) = 2 then ((s - 1 : Nat) : Int) else -1
/-- the reference's rows of feet of a word -/
abbrev MF (w : Nat → Int) (mo : Nat → Nat) (p z : Nat) (g : GG) : Prop := (∀ s, p ≤ s → s < p + z → g 61 s = mfs (stW mo w p (eKw w p z)) p s) ∧ (∀ s, p ≤ s → s < p + z → g 62 s = if hb w (stW mo w p (eKw w p z)) p s then 1 else 0)
theorem MF.f {w : Nat → Int} {mo : Nat → Nat} {p z : Nat} {g : GG} (hx_ : MF w mo p z g) : ∀ s, p ≤ s → s < p + z → g 61 s = mfs (stW mo w p (eKw w p z)) p s := hx_.1
theorem MF.b {w : Nat → Int} {mo : Nat → Nat} {p z : Nat} {g : GG} (hx_ : MF w mo p z g) : ∀ s, p ≤ s → s < p + z → g 62 s = if hb w (stW mo w p (eKw w p z)) p s then 1 else 0 := hx_.2
section FEETM2
variable {E : am_E} {g : GG} {fl : FF} {w : Nat → Int} {b : Nat → Int} {n : Nat}
theorem MR_id {st : Nat → Nat} {g' : GG} (h : MR w st g g') (h0 : ∀ s, st s = 0) : g' = g := by
  funext a i
  by_cases h1 : a = 61
  · subst h1; rw [h.f, if_neg (by rw [h0]; omega), if_neg (by rw [h0]; omega)]
  · by_cases h2 : a = 62
    · subst h2; rw [h.b, if_neg (by unfold hb; rw [h0 i, h0 (i - 1)]; omega)]
    · exact h.k a i h1 h2
/-- the way out of the walk over a word -/
def mExit (E : am_E) (fl : FF) (Q : GG → FF → Prop) (v2 v3 v4 : Int) (g : GG) : Prop :=
  (v4 = 0 → ((g 51 7) = 1 → am_rg (v3 - 1) ∧ cV E 113 [amR 49, amI (v3 - 1), amI (v3 - 1), amI (v3 - 1)] g fl (fun g4 f4 => Q g4 f4)) ∧ (¬ ((g 51 7) = 1) → cV E 113 [amR 49, amI v2, amI v2, amI v2] g fl (fun g4 f4 => Q g4 f4))) ∧ (¬ (v4 = 0) → Q g fl)
def mAny (v4 v4' : Int) (st : Nat → Nat) : Prop := (v4' = 1 ∧ (v4 = 1 ∨ ∃ s, 0 < st s)) ∨ (v4' = 0 ∧ v4 = 0 ∧ ∀ s, st s = 0)
theorem layMF_loop {Q : GG → FF → Prop} (hn : n ≤ 60) (hwo : waysOK w) {p e : Nat} (he : e ≤ Sn b n w) {v1 v2 v3 : Int} (h2 : v2 = p) (h3 : v3 = e) (hw5 : w 5 = 0) :
    ∀ (f k : Nat) (v4 v5 : Int) (g : GG), e ≤ k + f → p ≤ k → v5 = k → (v4 = 0 ∨ v4 = 1) → MX b n w g → (∀ (v4' : Int) (g' : GG), MR w (fwd (moS b n w) w e f k) g g' → mAny v4 v4' (fwd (moS b n w) w e f k) → mExit E fl Q v2 v3 v4' g') →
      am_X E 116 (59, (0, 0), [some (amR 49), some (amI v1), some (amI v2), some (amI v3), some (amI v4), some (amI v5), none, none], [], mk g fl) (RV Q) := by
  have hSl := Sn_le (b := b) (w := w) hn
  intro f
  induction f with
  | zero =>
    intro k v4 v5 g h0 hpk h5 h4 hX h
    refine b116_59 ⟨fun c => absurd c (by omega), fun _ => ⟨fun c => absurd c (by omega), fun _ => h v4 g (MR_0 (fun s => rfl)) ?_⟩⟩
    rcases h4 with h4 | h4
    · exact Or.inr ⟨h4, h4, fun s => rfl⟩
    · exact Or.inl ⟨h4, Or.inl h4⟩
  | succ f ih =>
    intro k v4 v5 g h0 hpk h5 h4 hX h
    by_cases hk : k < e
    · have hz := szF_in (mo := moS b n w) (w := w) hk
      obtain ⟨z, hzz⟩ : ∃ z, z = szF (moS b n w) w k e := ⟨_, rfl⟩
      have hrr := rsz_in (w := w) (z := z)
      have hfw : ∀ s, fwd (moS b n w) w e (f + 1) k s = if s = k then rsz w z else fwd (moS b n w) w e f (k + max 1 z) s := by
        intro s
        show (if k < e then _ else _) = _
        rw [if_pos hk, hzz]
      have e5 : g 51 5 = 0 := by rw [← hw5, hX.w]
      have nxt : ∀ (v4'' v5'' : Int) (g7 : GG), v5'' = (k + max 1 z : Nat) → MR w (fun s => if s = k then rsz w z else 0) g g7 → (v4'' = 1 ∧ (v4 = 1 ∨ 0 < rsz w z) ∨ v4'' = 0 ∧ v4 = 0 ∧ rsz w z = 0) →
          am_X E 116 (59, (0, 0), [some (amR 49), some (amI v1), some (amI v2), some (amI v3), some (amI v4''), some (amI v5''), none, none], [], mk g7 fl) (RV Q) := by
        intro v4'' v5'' g7 hv5 R hv4
        refine ih (k + max 1 z) v4'' v5'' g7 (by omega) (by omega) hv5 (by omega) (hX.keep (fun a i y => R.k _ _ (by omega) (by omega))) (fun v4' g' R2 hA => h v4' g' (MR_add R R2 hfw (fun s hs => Or.inl ?_) (by omega)) ?_)
        · have := fwd_in _ _ _ hs
          omega
        · rcases hA with ⟨y1, y2⟩ | ⟨y1, y2, y3⟩
          · refine Or.inl ⟨y1, ?_⟩
            rcases y2 with y2 | ⟨s, y2⟩
            · rcases hv4 with ⟨u1, u2 | u2⟩ | ⟨u1, u2, u3⟩
              · exact Or.inl u2
              · exact Or.inr ⟨k, by rw [hfw, if_pos rfl]; exact u2⟩
              · omega
            · refine Or.inr ⟨s, ?_⟩
              rw [hfw, if_neg]
              · exact y2
              · have := fwd_in _ _ _ y2; omega
          · rcases hv4 with ⟨u1, u2⟩ | ⟨u1, u2, u3⟩
            · omega
            · refine Or.inr ⟨y1, u2, fun s => ?_⟩
              rw [hfw]
              split
              · exact u3
              · exact y3 s
      refine b116_59 ⟨fun c => absurd c (by omega), fun _ => ⟨fun _ => ⟨fun _ => ?_, fun c => absurd e5 c⟩, fun c => absurd (by omega) c⟩⟩
      refine footFrom_ok hn hwo hX h5 h3 hk he (fun g4 R => ?_)
      rw [← hzz] at R ⊢
      have hX4 : MX b n w g4 := hX.keep (fun a i y => R.k _ _ (by omega) (by omega))
      have e54 : g4 51 5 = 0 := by rw [← hw5, hX4.w]
      have e64 : g4 51 6 = w 6 := by rw [hX4.w]
      refine ⟨fun c0 => ?_, fun c0 => ?_⟩
      · have hz0 : z = 0 := by omega
        have hg : g4 = g := MR_id R (fun s => by split <;> omega)
        subst hg
        rw [e64]
        refine ⟨fun c6 => ?_, fun c6 => ?_⟩
        · have hr : rsz w z = 1 := by unfold rsz; rw [if_pos hz0, if_pos c6]
          refine foot_ok (w := w) (k := k) (r := 1) (bt := k) h5 (by omega) h5 (Or.inl rfl) (by omega) (by split <;> omega) (fun g7 R7 => ?_)
          have hX7 : MX b n w g7 := hX.keep (fun a i y => R7.k _ _ (by omega) (by omega))
          have e57 : g7 51 5 = 0 := by rw [← hw5, hX7.w]
          have e67 : g7 51 6 = 1 := by rw [← c6, hX7.w]
          rw [← hr] at R7
          refine ⟨fun c => ⟨fun d => absurd d (by omega), fun d => ⟨fun _ => ⟨rgI (by omega) (by omega), nxt _ _ g7 (by omega) R7 (Or.inl ⟨b01_t e67, Or.inr (by omega)⟩)⟩, fun q => absurd e57 q⟩⟩, fun c => ⟨fun _ => ⟨rgI (by omega) (by omega), nxt _ _ g7 (by omega) R7 (Or.inl ⟨rfl, Or.inr (by omega)⟩)⟩, fun q => absurd e57 q⟩⟩
        · have hr : rsz w z = 0 := by unfold rsz; rw [if_pos hz0, if_neg c6]
          have R0 : MR w (fun s => if s = k then rsz w z else 0) g4 g4 := MR_0 (fun s => by split <;> omega)
          refine ⟨fun c => ⟨fun d => absurd d (by omega), fun d => ⟨fun _ => ⟨rgI (by omega) (by omega), nxt _ _ g4 (by omega) R0 (Or.inr ⟨rfl, c, hr⟩)⟩, fun q => absurd e54 q⟩⟩, fun c => ⟨fun _ => ⟨rgI (by omega) (by omega), nxt _ _ g4 (by omega) R0 (Or.inl ⟨rfl, Or.inl (by omega)⟩)⟩, fun q => absurd e54 q⟩⟩
      · have hr : rsz w z = z := by unfold rsz; rw [if_neg (by omega)]
        rw [← hr] at R
        refine ⟨fun c => ⟨fun d => ⟨fun _ => ⟨rgI (by omega) (by omega), nxt _ _ g4 (by omega) R (Or.inl ⟨rfl, Or.inr (by omega)⟩)⟩, fun q => absurd e54 q⟩, fun d => absurd (by omega) d⟩, fun c => ⟨fun _ => ⟨rgI (by omega) (by omega), nxt _ _ g4 (by omega) R (Or.inl ⟨rfl, Or.inr (by omega)⟩)⟩, fun q => absurd e54 q⟩⟩
    · refine b116_59 ⟨fun c => absurd c (by omega), fun _ => ⟨fun c => absurd c (by omega), fun _ => ?_⟩⟩
      have h00 : ∀ s, fwd (moS b n w) w e (f + 1) k s = 0 := by
        intro s
        show (if k < e then _ else _) = _
        rw [if_neg hk]
      refine h v4 g (MR_0 h00) ?_
      rcases h4 with h4 | h4
      · exact Or.inr ⟨h4, h4, h00⟩
      · exact Or.inl ⟨h4, Or.inl h4⟩
theorem layMB_loop {Q : GG → FF → Prop} (hn : n ≤ 60) (hwo : waysOK w) {p e : Nat} (he : e ≤ Sn b n w) {v1 v2 v3 : Int} (h2 : v2 = p) (h3 : v3 = e) (hw5 : w 5 ≠ 0) :
    ∀ (f k : Nat) (v4 v5 : Int) (g : GG), k ≤ p + f → k ≤ e → v5 = (k : Int) - 1 → (v4 = 0 ∨ v4 = 1) → MX b n w g → (∀ (v4' : Int) (g' : GG), MR w (bwd (moS b n w) w p f k) g g' → mAny v4 v4' (bwd (moS b n w) w p f k) → mExit E fl Q v2 v3 v4' g') →
      am_X E 116 (59, (0, 0), [some (amR 49), some (amI v1), some (amI v2), some (amI v3), some (amI v4), some (amI v5), none, none], [], mk g fl) (RV Q) := by
  have hSl := Sn_le (b := b) (w := w) hn
  intro f
  induction f with
  | zero =>
    intro k v4 v5 g h0 hke h5 h4 hX h
    refine b116_59 ⟨fun _ => h v4 g (MR_0 (fun s => rfl)) ?_, fun c => absurd (by omega) c⟩
    rcases h4 with h4 | h4
    · exact Or.inr ⟨h4, h4, fun s => rfl⟩
    · exact Or.inl ⟨h4, Or.inl h4⟩
  | succ f ih =>
    intro k v4 v5 g h0 hke h5 h4 hX h
    by_cases hk : p < k
    · have hz := szB_in (mo := moS b n w) (w := w) (k := k - 1) (p := p) (by omega)
      obtain ⟨z, hzz⟩ : ∃ z, z = szB (moS b n w) w (k - 1) p := ⟨_, rfl⟩
      have hrr := rsz_in (w := w) (z := z)
      have hfw : ∀ s, bwd (moS b n w) w p (f + 1) k s = if 0 < rsz w z ∧ s = k - rsz w z then rsz w z else bwd (moS b n w) w p f (k - max 1 z) s := by
        intro s
        show (if p < k then _ else _) = _
        rw [if_pos hk, hzz]
      have e5 : ¬ (g 51 5 = 0) := fun y => hw5 (by rw [hX.w]; exact y)
      have nxt : ∀ (v4'' v5'' : Int) (g7 : GG), v5'' = ((k - max 1 z : Nat) : Int) - 1 → MR w (fun s => if s = k - rsz w z then rsz w z else 0) g g7 → (v4'' = 1 ∧ (v4 = 1 ∨ 0 < rsz w z) ∨ v4'' = 0 ∧ v4 = 0 ∧ rsz w z = 0) →
          am_X E 116 (59, (0, 0), [some (amR 49), some (amI v1), some (amI v2), some (amI v3), some (amI v4''), some (amI v5''), none, none], [], mk g7 fl) (RV Q) := by
        intro v4'' v5'' g7 hv5 R hv4
        have hin := (bwd_fs (mo := moS b n w) (w := w) (p := p) f (k - max 1 z)).inn
        refine ih (k - max 1 z) v4'' v5'' g7 (by omega) (by omega) hv5 (by omega) (hX.keep (fun a i y => R.k _ _ (by omega) (by omega))) (fun v4' g' R2 hA => h v4' g' ?_ ?_)
        · by_cases hr0 : rsz w z = 0
          · have hg : g7 = g := MR_id R (fun s => by split <;> omega)
            rw [hg] at R2
            have hfe : bwd (moS b n w) w p (f + 1) k = bwd (moS b n w) w p f (k - max 1 z) := by
              funext s; rw [hfw, if_neg (by omega)]
            rw [hfe]; exact R2
          · refine MR_add R R2 (fun s => ?_) (fun s hs => Or.inr ?_) (by omega)
            · rw [hfw]
              by_cases hs : s = k - rsz w z
              · rw [if_pos ⟨by omega, hs⟩, if_pos hs]
              · rw [if_neg (fun y => hs y.2), if_neg hs]
            · have := hin s hs
              omega
        · rcases hA with ⟨y1, y2⟩ | ⟨y1, y2, y3⟩
          · refine Or.inl ⟨y1, ?_⟩
            rcases y2 with y2 | ⟨s, y2⟩
            · rcases hv4 with ⟨u1, u2 | u2⟩ | ⟨u1, u2, u3⟩
              · exact Or.inl u2
              · exact Or.inr ⟨k - rsz w z, by rw [hfw, if_pos ⟨u2, rfl⟩]; exact u2⟩
              · omega
            · refine Or.inr ⟨s, ?_⟩
              rw [hfw, if_neg]
              · exact y2
              · have := hin s y2
                rintro ⟨y4, y5⟩; omega
          · rcases hv4 with ⟨u1, u2⟩ | ⟨u1, u2, u3⟩
            · omega
            · refine Or.inr ⟨y1, u2, fun s => ?_⟩
              rw [hfw, if_neg (by omega)]
              exact y3 s
      refine b116_59 ⟨fun c => absurd c (by omega), fun _ => ⟨fun _ => ⟨fun c => absurd c e5, fun _ => ?_⟩, fun c => absurd (by omega) c⟩⟩
      refine footBack_ok hn hwo hX (k := k - 1) (p := p) (by omega) h2 (by omega) (by omega) (fun g4 R => ?_)
      rw [← hzz, show k - 1 + 1 - z = k - z by omega] at R
      rw [← hzz]
      have hX4 : MX b n w g4 := hX.keep (fun a i y => R.k _ _ (by omega) (by omega))
      have e54 : ¬ (g4 51 5 = 0) := fun y => hw5 (by rw [hX4.w]; exact y)
      have e64 : g4 51 6 = w 6 := by rw [hX4.w]
      refine ⟨fun c0 => ?_, fun c0 => ?_⟩
      · have hz0 : z = 0 := by omega
        have hg : g4 = g := MR_id R (fun s => by split <;> omega)
        subst hg
        rw [e64]
        refine ⟨fun c6 => ?_, fun c6 => ?_⟩
        · have hr : rsz w z = 1 := by unfold rsz; rw [if_pos hz0, if_pos c6]
          refine foot_ok (w := w) (k := k - 1) (r := 1) (bt := k - 1) (by omega) (by omega) (by omega) (Or.inl rfl) (by omega) (by split <;> omega) (fun g7 R7 => ?_)
          have hX7 : MX b n w g7 := hX.keep (fun a i y => R7.k _ _ (by omega) (by omega))
          have e57 : ¬ (g7 51 5 = 0) := fun y => hw5 (by rw [hX7.w]; exact y)
          have e67 : g7 51 6 = 1 := by rw [← c6, hX7.w]
          have R8 : MR w (fun s => if s = k - rsz w z then rsz w z else 0) g4 g7 := by rw [hr]; exact R7
          refine ⟨fun c => ⟨fun d => absurd d (by omega), fun d => ⟨fun q => absurd q e57, fun _ => ⟨rgI (by omega) (by omega), rgI (by omega) (by omega), nxt _ _ g7 (by omega) R8 (Or.inl ⟨b01_t e67, Or.inr (by omega)⟩)⟩⟩⟩, fun c => ⟨fun q => absurd q e57, fun _ => ⟨rgI (by omega) (by omega), rgI (by omega) (by omega), nxt _ _ g7 (by omega) R8 (Or.inl ⟨rfl, Or.inr (by omega)⟩)⟩⟩⟩
        · have hr : rsz w z = 0 := by unfold rsz; rw [if_pos hz0, if_neg c6]
          have R0 : MR w (fun s => if s = k - rsz w z then rsz w z else 0) g4 g4 := MR_0 (fun s => by split <;> omega)
          refine ⟨fun c => ⟨fun d => absurd d (by omega), fun d => ⟨fun q => absurd q e54, fun _ => ⟨rgI (by omega) (by omega), rgI (by omega) (by omega), nxt _ _ g4 (by omega) R0 (Or.inr ⟨rfl, c, hr⟩)⟩⟩⟩, fun c => ⟨fun q => absurd q e54, fun _ => ⟨rgI (by omega) (by omega), rgI (by omega) (by omega), nxt _ _ g4 (by omega) R0 (Or.inl ⟨rfl, Or.inl (by omega)⟩)⟩⟩⟩
      · have hr : rsz w z = z := by unfold rsz; rw [if_neg (by omega)]
        rw [← hr] at R
        refine ⟨fun c => ⟨fun d => ⟨fun q => absurd q e54, fun _ => ⟨rgI (by omega) (by omega), rgI (by omega) (by omega), nxt _ _ g4 (by omega) R (Or.inl ⟨rfl, Or.inr (by omega)⟩)⟩⟩, fun d => absurd (by omega) d⟩, fun c => ⟨fun q => absurd q e54, fun _ => ⟨rgI (by omega) (by omega), rgI (by omega) (by omega), nxt _ _ g4 (by omega) R (Or.inl ⟨rfl, Or.inr (by omega)⟩)⟩⟩⟩
    · have h00 : ∀ s, bwd (moS b n w) w p (f + 1) k s = 0 := by
        intro s
        show (if p < k then _ else _) = _
        rw [if_neg hk]
      refine b116_59 ⟨fun _ => h v4 g (MR_0 h00) ?_, fun c => absurd (by omega) c⟩
      rcases h4 with h4 | h4
      · exact Or.inr ⟨h4, h4, h00⟩
      · exact Or.inl ⟨h4, Or.inl h4⟩
theorem hb_0p {st : Nat → Nat} {p e s : Nat} (hf : FS st p e) : hb w st 0 s ↔ hb w st p s := by
  have := hf.inn (s - 1)
  unfold hb
  constructor <;> rintro (⟨z1, z2 | ⟨z2, z3⟩⟩ | ⟨z1, z2⟩) <;> omega
/-- behind the walk -/
theorem mExit_ok {Q : GG → FF → Prop} (hn : n ≤ 60) {p z e : Nat} {v2 v3 v4 : Int} {g1 g' : GG} (he : e = eKw w p z) (hz : 1 ≤ z) (h60 : p + z ≤ 60) (hX : MX b n w g') (h2 : v2 = p) (h3 : v3 = e) (hA : mAny 0 v4 (st0 (moS b n w) w p e)) (R : MR w (st0 (moS b n w) w p e) g1 g') (i1 : ∀ s, p ≤ s → s < p + z → g1 61 s = -1 ∧ g1 62 s = 0)
    (h : ∀ g'' : GG, MF w (moS b n w) p z g'' → (∀ a i, ¬ ((a = 61 ∨ a = 62) ∧ p ≤ i ∧ i < p + z) → g'' a i = g1 a i) → Q g'' fl) : mExit E fl Q v2 v3 v4 g' := by
  obtain ⟨he1, he2⟩ := eKw_in (w := w) (p := p) hz
  rw [← he] at he1 he2
  have fin : ∀ g'' : GG, MR w (stW (moS b n w) w p e) g1 g'' → Q g'' fl := by
    intro g'' R2
    have hf := stW_fs (mo := moS b n w) (w := w) he1
    refine h g'' ⟨fun s z1 z2 => ?_, fun s z1 z2 => ?_⟩ (fun a i z1 => ?_)
    · rw [← he, R2.f]
      unfold mfs
      have hin := hf.inn (s - 1)
      by_cases c : 0 < stW (moS b n w) w p e s
      · rw [if_pos c, if_pos c]
      · rw [if_neg c, if_neg c]
        by_cases c2 : 0 < s ∧ stW (moS b n w) w p e (s - 1) = 2
        · rw [if_pos c2, if_pos ⟨by omega, c2.2⟩]
        · rw [if_neg c2, if_neg (fun y => c2 ⟨by omega, y.2⟩)]; exact (i1 s z1 z2).1
    · rw [← he, R2.b]
      by_cases c : hb w (stW (moS b n w) w p e) p s
      · rw [if_pos c, if_pos ((hb_0p hf).2 c)]
      · rw [if_neg c, if_neg (fun y => c ((hb_0p hf).1 y))]; exact (i1 s z1 z2).2
    · by_cases h1 : a = 61
      · subst h1
        have y1 := hf.inn i
        have y2 := hf.inn (i - 1)
        rw [R2.f, if_neg (by omega), if_neg (by omega)]
      · by_cases h2 : a = 62
        · subst h2
          rw [R2.b, if_neg]
          intro y
          have := hb_in hf ((hb_0p hf).1 y)
          omega
        · exact R2.k a i h1 h2
  have e7 : g' 51 7 = w 7 := by rw [hX.w]
  have hon := only_in (w := w) he1
  rcases hA with ⟨y1, y2⟩ | ⟨y1, y2, y3⟩
  · refine ⟨fun c => by omega, fun _ => fin g' ?_⟩
    obtain ⟨s, hs⟩ : ∃ s, 0 < st0 (moS b n w) w p e s := by
      rcases y2 with y2 | y2
      · omega
      · exact y2
    have hW : stW (moS b n w) w p e = st0 (moS b n w) w p e := by
      unfold stW
      rw [if_neg]
      intro y
      have hin := (st0_fs (mo := moS b n w) (w := w) (p := p) (e := e)).inn s hs
      have := cnt_0.1 y s hin.1 (by omega)
      omega
    rw [hW]; exact R
  · have hg : g' = g1 := MR_id R y3
    have hW : stW (moS b n w) w p e = fun s => if s = only w p e then 1 else 0 := by
      unfold stW
      rw [if_pos (cnt_0.2 (fun s _ _ => y3 s))]
    subst hg
    rw [hW] at fin
    refine ⟨fun _ => ⟨fun c => ⟨rgI (by omega) (by omega), ?_⟩, fun c => ?_⟩, fun c => absurd y1 c⟩
    · have ho : only w p e = e - 1 := by unfold only; rw [if_pos (by omega)]
      rw [ho] at fin
      exact foot_ok (w := w) (k := e - 1) (r := 1) (bt := e - 1) (by omega) (by omega) (by omega) (Or.inl rfl) (by omega) (by split <;> omega) (fun g7 R7 => fin g7 R7)
    · have ho : only w p e = p := by unfold only; rw [if_neg (by omega)]
      rw [ho] at fin
      exact foot_ok (w := w) (k := p) (r := 1) (bt := p) (by omega) (by omega) (by omega) (Or.inl rfl) (by omega) (by split <;> omega) (fun g7 R7 => fin g7 R7)
theorem findsFeetI_loop {Q : GG → FF → Prop} (hn : n ≤ 60) (hwo : waysOK w) {k p z : Nat} (hp : p = fs b n w k) (hzz : z = nc b n w k) (hkW : k < Wn b n) {g0 : GG} (hX0 : MX b n w g0) {v1 v2 v3 : Int} (h2 : v2 = p) (h3 : v3 = (p + z : Nat))
    (h : ∀ g' : GG, MF w (moS b n w) p z g' → (∀ a i, ¬ ((a = 61 ∨ a = 62) ∧ p ≤ i ∧ i < p + z) → g' a i = g0 a i) → Q g' fl) :
    ∀ (f j : Nat) (v4 : Int) (g : GG), j + f = p + z → p ≤ j → v4 = j → (∀ s, p ≤ s → s < j → g 61 s = -1 ∧ g 62 s = 0) → (∀ a i, ¬ ((a = 61 ∨ a = 62) ∧ p ≤ i ∧ i < p + z) → g a i = g0 a i) →
      am_X E 116 (14, (0, 0), [some (amR 49), some (amI v1), some (amI v2), some (amI v3), some (amI v4), none, none, none], [], mk g fl) (RV Q) := by
  have hSl := Sn_le (b := b) (w := w) hn
  have hnc := nc_word (w := w) hn hkW
  have hfs1 : fs b n w (k + 1) = fs b n w k + nc b n w k := rfl
  have hfm : fs b n w (k + 1) ≤ fs b n w (Wn b n) := fs_mono (by omega)
  have hSn : Sn b n w = fs b n w (Wn b n) := rfl
  have hz1 : 1 ≤ z := by omega
  obtain ⟨he1, he2⟩ := eKw_in (w := w) (p := p) hz1
  intro f
  induction f with
  | zero =>
    intro j v4 g h0 hpj h4 hi hfr
    have hX : MX b n w g := hX0.keep (fun a i y => hfr _ _ (by omega))
    have e3 : g 51 3 = w 3 := by rw [hX.w]
    have e5 : g 51 5 = w 5 := by rw [hX.w]
    have hi' : ∀ s, p ≤ s → s < p + z → g 61 s = -1 ∧ g 62 s = 0 := fun s z1 z2 => hi s z1 (by omega)
    have h' : ∀ g'' : GG, MF w (moS b n w) p z g'' → (∀ a i, ¬ ((a = 61 ∨ a = 62) ∧ p ≤ i ∧ i < p + z) → g'' a i = g a i) → Q g'' fl := fun g'' q1 q2 => h g'' q1 (fun a i y => by rw [q2 a i y, hfr a i y])
    have go : ∀ v3' : Int, v3' = (eKw w p z : Nat) → ((g 51 5) = 0 → am_X E 116 (59, (0, 0), [some (amR 49), some (amI v1), some (amI v2), some (amI v3'), some (amI 0), some (amI v2), none, none], [], mk g fl) (RV Q)) ∧ (¬ ((g 51 5) = 0) → am_rg (v3' - 1) ∧ am_X E 116 (59, (0, 0), [some (amR 49), some (amI v1), some (amI v2), some (amI v3'), some (amI 0), some (amI (v3' - 1)), none, none], [], mk g fl) (RV Q)) := by
      intro v3' hv3
      refine ⟨fun c => ?_, fun c => ⟨rgI (by omega) (by omega), ?_⟩⟩
      · refine layMF_loop hn hwo (p := p) (e := eKw w p z) (by omega) h2 hv3 (by omega) 60 p 0 v2 g (by omega) (by omega) h2 (Or.inl rfl) hX (fun v4' g' R hA => ?_)
        have hs : fwd (moS b n w) w (eKw w p z) 60 p = st0 (moS b n w) w p (eKw w p z) := by unfold st0; rw [if_pos (by omega)]
        rw [hs] at R hA
        exact mExit_ok hn rfl hz1 (by omega) (hX.keep (fun a i y => R.k _ _ (by omega) (by omega))) h2 hv3 hA R hi' h'
      · refine layMB_loop hn hwo (p := p) (e := eKw w p z) (by omega) h2 hv3 (by omega) 60 (eKw w p z) 0 _ g (by omega) (by omega) (by omega) (Or.inl rfl) hX (fun v4' g' R hA => ?_)
        have hs : bwd (moS b n w) w p 60 (eKw w p z) = st0 (moS b n w) w p (eKw w p z) := by unfold st0; rw [if_neg (by omega)]
        rw [hs] at R hA
        exact mExit_ok hn rfl hz1 (by omega) (hX.keep (fun a i y => R.k _ _ (by omega) (by omega))) h2 hv3 hA R hi' h'
    refine b116_14 ⟨fun c => absurd c (by omega), fun _ => ⟨fun c => ⟨rgI (by omega) (by omega), ?_, ?_⟩, fun c => ⟨rgI (by omega) (by omega), go _ ?_⟩⟩⟩
    · have := b01_01 (1 < (v3 - v2))
      exact rgI (by omega) (by omega)
    · refine go _ ?_
      by_cases c1 : 1 < v3 - v2
      · rw [b01_t c1]; unfold eKw; rw [if_pos ⟨by omega, by omega⟩]; omega
      · rw [b01_f c1]; unfold eKw; rw [if_neg (by omega)]; omega
    · unfold eKw; rw [if_neg (by omega)]; omega
  | succ f ih =>
    intro j v4 g h0 hpj h4 hi hfr
    refine b116_14 ⟨fun _ => ⟨by omega, fun g2 e2 g3 e3 => ⟨rgI (by omega) (by omega), ?_⟩⟩, fun c => absurd (by omega) c⟩
    rw [toNat_eq h4] at e2 e3
    refine ih (j + 1) _ g3 (by omega) (by omega) (by omega) (fun s z1 z2 => ?_) (fun a i y => by rw [e3, e2]; (simp (disch := omega) only [up_at, up_ne]); exact hfr a i y)
    rw [e3, e2]
    by_cases hs : s = j
    · subst hs; (simp (disch := omega) only [up_at, up_ne]); trivial
    · (simp (disch := omega) only [up_at, up_ne]); exact hi s z1 (by omega)
theorem findsFeet_ok {Q : GG → FF → Prop} (hn : n ≤ 60) (hwo : waysOK w) {k : Nat} {v1 : Int} (h1 : v1 = k) (hkW : k < Wn b n) (hX : MX b n w g)
    (h : ∀ g' : GG, MF w (moS b n w) (fs b n w k) (nc b n w k) g' → (∀ a i, ¬ ((a = 61 ∨ a = 62) ∧ fs b n w k ≤ i ∧ i < fs b n w k + nc b n w k) → g' a i = g a i) → Q g' fl) : cV E 116 [amR 49, amI v1] g fl Q := by
  have hWl := Wn_le (b := b) (n := n) hn
  have e1 : g 55 (Int.toNat v1) = fs b n w k := by rw [toNat_eq h1]; exact hX.c.wF k (by omega)
  have e2 : g 55 (Int.toNat (v1 + 1)) = (fs b n w k + nc b n w k : Nat) := by rw [toNat_eq (x := v1 + 1) (k := k + 1) (by omega)]; exact hX.c.wF (k + 1) (by omega)
  refine b116 ⟨by omega, rgI (by omega) (by omega), by omega, ?_⟩
  rw [e1, e2]
  exact findsFeetI_loop hn hwo rfl rfl hkW hX rfl rfl h (nc b n w k) (fs b n w k) _ g rfl (Nat.le_refl _) rfl (fun s z1 z2 => by omega) (fun _ _ _ => rfl)
end FEETM2
