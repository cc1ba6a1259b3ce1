/-! the reference's feet -/
theorem MC.keep {b : Nat → Int} {n : Nat} {w : Nat → Int} {g g' : GG} (h : MC b n w g) (hf : ∀ a i, (a = 49 ∧ (i = 6 ∨ i = 13)) ∨ (53 ≤ a ∧ a ≤ 60) → g' a i = g a i) : MC b n w g' :=
  ⟨by rw [hf _ _ (by omega)]; exact h.W, by rw [hf _ _ (by omega)]; exact h.S, fun k hk => by rw [hf _ _ (by omega)]; exact h.wS k hk, fun k hk => by rw [hf _ _ (by omega)]; exact h.wE k hk, fun k hk => by rw [hf _ _ (by omega)]; exact h.wF k hk, fun s hs => by rw [hf _ _ (by omega)]; exact h.sW s hs, fun s hs => by rw [hf _ _ (by omega)]; exact h.sS s hs, fun s hs => by rw [hf _ _ (by omega)]; exact h.sE s hs, fun s hs => by rw [hf _ _ (by omega)]; exact h.sN s hs, fun s hs => by rw [hf _ _ (by omega)]; exact h.sL s hs⟩
/-- the reference's cut, and its ways -/
abbrev MX (b : Nat → Int) (n : Nat) (w : Nat → Int) (g : GG) : Prop := (MC b n w g) ∧ (w = g 51)
theorem MX.c {b : Nat → Int} {n : Nat} {w : Nat → Int} {g : GG} (hx_ : MX b n w g) : MC b n w g := hx_.1
theorem MX.w {b : Nat → Int} {n : Nat} {w : Nat → Int} {g : GG} (hx_ : MX b n w g) : w = g 51 := hx_.2
theorem MX.keep {b : Nat → Int} {n : Nat} {w : Nat → Int} {g g' : GG} (h : MX b n w g) (hf : ∀ a i, (a = 49 ∧ (i = 6 ∨ i = 13)) ∨ a = 51 ∨ (53 ≤ a ∧ a ≤ 60) → g' a i = g a i) : MX b n w g' :=
  ⟨h.c.keep (fun a i z => hf a i (by omega)), by rw [h.w]; funext x; exact (hf _ _ (by omega)).symm⟩
/-- what laying feet does to the reference's rows -/
abbrev MR (w : Nat → Int) (st : Nat → Nat) (g g' : GG) : Prop := (∀ s, g' 61 s = if 0 < st s then (s : Int) else if 0 < s ∧ st (s - 1) = 2 then ((s - 1 : Nat) : Int) else g 61 s) ∧ (∀ s, g' 62 s = if hb w st 0 s then 1 else g 62 s) ∧ (∀ a i, a ≠ 61 → a ≠ 62 → g' a i = g a i)
theorem MR.f {w : Nat → Int} {st : Nat → Nat} {g g' : GG} (hx_ : MR w st g g') : ∀ s, g' 61 s = if 0 < st s then (s : Int) else if 0 < s ∧ st (s - 1) = 2 then ((s - 1 : Nat) : Int) else g 61 s := hx_.1
theorem MR.b {w : Nat → Int} {st : Nat → Nat} {g g' : GG} (hx_ : MR w st g g') : ∀ s, g' 62 s = if hb w st 0 s then 1 else g 62 s := hx_.2.1
theorem MR.k {w : Nat → Int} {st : Nat → Nat} {g g' : GG} (hx_ : MR w st g g') : ∀ a i, a ≠ 61 → a ≠ 62 → g' a i = g a i := hx_.2.2
section FEETM
variable {E : am_E} {g : GG} {fl : FF} {w : Nat → Int}
theorem MR_0 {st : Nat → Nat} (h : ∀ s, st s = 0) : MR w st g g :=
  ⟨fun s => by rw [if_neg (by rw [h]; omega), if_neg (by rw [h]; omega)], fun s => by rw [if_neg (by unfold hb; rw [h s, h (s - 1)]; omega)], fun _ _ _ _ => rfl⟩
theorem MR_add {st st2 : Nat → Nat} {k r : Nat} {g g1 g2 : GG} (h1 : MR w (fun s => if s = k then r else 0) g g1) (h2 : MR w st2 g1 g2) (hst : ∀ s, st s = if s = k then r else st2 s) (hd : ∀ s, 0 < st2 s → k + max 1 r ≤ s ∨ s + st2 s ≤ k) (hr : r ≤ 2) : MR w st g g2 := by
  have key : ∀ s, ((if s = k then r else 0) = 0 ∧ (0 < s → (if s - 1 = k then r else 0) ≠ 2) ∧ st s = st2 s ∧ (0 < s → (st (s - 1) = 2 ↔ st2 (s - 1) = 2))) ∨ (st2 s = 0 ∧ (0 < s → st2 (s - 1) ≠ 2) ∧ st s = (if s = k then r else 0) ∧ (0 < s → (st (s - 1) = 2 ↔ (if s - 1 = k then r else 0) = 2))) := by
    intro s
    have d0 := hd s
    have d1 := hd (s - 1)
    have ev : ∀ s, (s = k → (if s = k then r else 0) = r ∧ st s = r ∧ st2 s = 0) ∧ (s ≠ k → (if s = k then r else 0) = 0 ∧ st s = st2 s) := by
      intro s
      have dk := hd s
      refine ⟨fun z => ⟨if_pos z, by rw [hst, if_pos z], by omega⟩, fun z => ⟨if_neg z, by rw [hst, if_neg z]⟩⟩
    have e0 := ev s
    have e1 := ev (s - 1)
    by_cases hs : s = k
    · right; omega
    · by_cases hs1 : s - 1 = k ∧ 0 < s ∧ r = 2
      · right; omega
      · left; omega
  refine ⟨fun s => ?_, fun s => ?_, fun a i z1 z2 => by rw [h2.k a i z1 z2, h1.k a i z1 z2]⟩
  · rw [h2.f, h1.f]
    (try dsimp only)
    rcases key s with ⟨k1, k2, k3, k4⟩ | ⟨k1, k2, k3, k4⟩
    · rw [k1, k3]
      by_cases c1 : 0 < st2 s
      · rw [if_pos c1, if_pos c1]
      · rw [if_neg c1, if_neg c1]
        by_cases c2 : 0 < s ∧ st2 (s - 1) = 2
        · rw [if_pos c2, if_pos ⟨c2.1, (k4 c2.1).2 c2.2⟩]
        · rw [if_neg c2, if_neg (by omega), if_neg (fun z => k2 z.1 z.2), if_neg (fun z => c2 ⟨z.1, (k4 z.1).1 z.2⟩)]
    · rw [if_neg (show ¬ 0 < st2 s by omega), if_neg (show ¬ (0 < s ∧ st2 (s - 1) = 2) from fun z => k2 z.1 z.2), k3]
      by_cases c1 : 0 < (if s = k then r else 0)
      · rw [if_pos c1, if_pos c1]
      · rw [if_neg c1, if_neg c1]
        by_cases c2 : 0 < s ∧ (if s - 1 = k then r else 0) = 2
        · rw [if_pos c2, if_pos ⟨c2.1, (k4 c2.1).2 c2.2⟩]
        · rw [if_neg c2, if_neg (fun z => c2 ⟨z.1, (k4 z.1).1 z.2⟩)]
  · rw [h2.b, h1.b]
    rcases key s with ⟨k1, k2, k3, k4⟩ | ⟨k1, k2, k3, k4⟩
    · have n1 : ¬ hb w (fun s => if s = k then r else 0) 0 s := by
        rintro (⟨z1, z2 | ⟨z2, z3⟩⟩ | ⟨z1, z2⟩)
        · dsimp only at z2; omega
        · exact k2 z2 z3
        · dsimp only at z2; omega
      have n2 : hb w st2 0 s ↔ hb w st 0 s := by
        unfold hb; rw [k3]
        by_cases c : 0 < s
        · rw [k4 c]
        · constructor <;> rintro (⟨z1, z2 | ⟨z2, z3⟩⟩ | ⟨z1, z2⟩) <;> omega
      rw [if_neg n1]
      by_cases c : hb w st2 0 s
      · rw [if_pos c, if_pos (n2.1 c)]
      · rw [if_neg c, if_neg (fun z => c (n2.2 z))]
    · have n1 : ¬ hb w st2 0 s := by
        rintro (⟨z1, z2 | ⟨z2, z3⟩⟩ | ⟨z1, z2⟩)
        · omega
        · exact k2 z2 z3
        · omega
      have n2 : hb w (fun s => if s = k then r else 0) 0 s ↔ hb w st 0 s := by
        unfold hb; rw [k3]
        by_cases c : 0 < s
        · rw [k4 c]
        · constructor <;> rintro (⟨z1, z2 | ⟨z2, z3⟩⟩ | ⟨z1, z2⟩) <;> first | exact Or.inl ⟨z1, Or.inl z2⟩ | exact Or.inr ⟨z1, z2⟩ | exact absurd z2 c
      rw [if_neg n1]
      by_cases c : hb w (fun s => if s = k then r else 0) 0 s
      · rw [if_pos c, if_pos (n2.1 c)]
      · rw [if_neg c, if_neg (fun z => c (n2.2 z))]
theorem foot_ok {Q : GG → FF → Prop} {k r bt : Nat} {v1 v2 v3 : Int} (h1 : v1 = k) (h2 : v2 = (k + r - 1 : Nat)) (h3 : v3 = bt) (hr : r = 1 ∨ r = 2) (hk : k + r ≤ 60) (hbt : bt = if w 4 = 2 then k + r - 1 else k)
    (h : ∀ g' : GG, MR w (fun s => if s = k then r else 0) g g' → Q g' fl) : cV E 113 [amR 49, amI v1, amI v2, amI v3] g fl Q := by
  have hbt2 : k ≤ bt ∧ bt < k + r := by rw [hbt]; split <;> omega
  have hhb : ∀ s, hb w (fun s => if s = k then r else 0) 0 s ↔ s = bt := by
    intro s
    rw [hbt]
    constructor
    · rintro (⟨z1, z2 | ⟨z2, z3⟩⟩ | ⟨z1, z2⟩)
      · dsimp only at z2; rw [if_pos z1]; split at z2 <;> omega
      · dsimp only at z3; rw [if_pos z1]; split at z3 <;> omega
      · dsimp only at z2; rw [if_neg z1]; split at z2 <;> omega
    · intro z
      by_cases c : w 4 = 2
      · rw [if_pos c] at z
        refine Or.inl ⟨c, ?_⟩
        rcases hr with hr | hr
        · left; dsimp only; rw [if_pos (by omega)]; exact hr
        · right; refine ⟨by omega, ?_⟩; dsimp only; rw [if_pos (by omega)]; exact hr
      · rw [if_neg c] at z
        refine Or.inr ⟨c, ?_⟩
        dsimp only; rw [if_pos z]; omega
  have fin : ∀ g1 g2 : GG, (∀ s, g1 61 s = if 0 < (if s = k then r else 0) then (s : Int) else if 0 < s ∧ (if s - 1 = k then r else 0) = 2 then ((s - 1 : Nat) : Int) else g 61 s) → (∀ a i, a ≠ 61 → g1 a i = g a i) → g2 = am_up g1 62 (Int.toNat v3) 1 → Q g2 fl := by
    intro g1 g2 q1 q2 e2
    rw [toNat_eq h3] at e2
    refine h g2 ⟨fun s => by rw [e2]; (simp (disch := omega) only [up_at, up_ne]); exact q1 s, fun s => ?_, fun a i z1 z2 => by rw [e2]; (simp (disch := omega) only [up_at, up_ne]); exact q2 a i z1⟩
    by_cases c : s = bt
    · rw [if_pos ((hhb s).2 c), c, e2]; (simp (disch := omega) only [up_at, up_ne])
    · rw [if_neg (fun z => c ((hhb s).1 z)), e2]; (simp (disch := omega) only [up_at, up_ne]); exact q2 _ _ (by omega)
  refine b113 (b113_2 ⟨fun c => absurd c (by omega), fun _ => ⟨by omega, fun g2 e2 => ⟨rgI (by omega) (by omega), ?_⟩⟩⟩)
  rw [toNat_eq h1] at e2
  rcases hr with hr | hr
  · subst hr
    refine b113_2 ⟨fun _ => ⟨by omega, fun g3 e3 => fin g2 g3 (fun s => ?_) (fun a i z => by rw [e2]; (simp (disch := omega) only [up_at, up_ne])) e3⟩, fun c => absurd (by omega) c⟩
    rw [e2]
    by_cases c : s = k
    · subst c; rw [if_pos (by rw [if_pos rfl]; omega)]; (simp (disch := omega) only [up_at, up_ne]); exact h1
    · rw [if_neg (by rw [if_neg c]; omega), if_neg (by split <;> omega)]; (simp (disch := omega) only [up_at, up_ne])
  · subst hr
    refine b113_2 ⟨fun c => absurd c (by omega), fun _ => ⟨by omega, fun g3 e3 => ⟨rgI (by omega) (by omega), ?_⟩⟩⟩
    rw [toNat_eq (x := v1 + 1) (k := k + 1) (by omega)] at e3
    refine b113_2 ⟨fun _ => ⟨by omega, fun g4 e4 => fin g3 g4 (fun s => ?_) (fun a i z => by rw [e3, e2]; (simp (disch := omega) only [up_at, up_ne])) e4⟩, fun c => absurd (by omega) c⟩
    rw [e3, e2]
    by_cases c : s = k
    · subst c; rw [if_pos (by rw [if_pos rfl]; omega)]; (simp (disch := omega) only [up_at, up_ne]); exact h1
    · rw [if_neg (by rw [if_neg c]; omega)]
      by_cases c2 : s = k + 1
      · subst c2; rw [if_pos ⟨by omega, by rw [if_pos (by omega)]⟩]; (simp (disch := omega) only [up_at, up_ne]); rw [Nat.add_sub_cancel]; exact h1
      · rw [if_neg (by split <;> omega)]; (simp (disch := omega) only [up_at, up_ne])
variable {b : Nat → Int} {n : Nat}
theorem isHeavyM_ok {Q : Int → GG → FF → Prop} (hn : n ≤ 60) (hwo : waysOK w) (hX : MX b n w g) {s : Nat} {v : Int} (hv : v = s) (hs : s < Sn b n w) (h : Q (if 2 ≤ moS b n w s then 1 else 0) g fl) : cI E 112 [amR 49, amI v] g fl Q := by
  subst hv
  refine b112 (morasOf_ok hn hX.w hwo hX.c hs ?_)
  by_cases c : 2 ≤ moS b n w s
  · rw [b01_t (by omega)]; rw [if_pos c] at h; exact h
  · rw [b01_f (by omega)]; rw [if_neg c] at h; exact h
theorem footFrom_ok {Q : Int → GG → FF → Prop} (hn : n ≤ 60) (hwo : waysOK w) (hX : MX b n w g) {k e : Nat} {v1 v2 : Int} (h1 : v1 = k) (h2 : v2 = e) (hk : k < e) (he : e ≤ Sn b n w)
    (h : ∀ g' : GG, MR w (fun s => if s = k then szF (moS b n w) w k e else 0) g g' → Q (szF (moS b n w) w k e : Nat) g' fl) : cI E 114 [amR 49, amI v1, amI v2] g fl Q := by
  have hSl := Sn_le (b := b) (w := w) hn
  have e4 : g 51 4 = w 4 := by rw [hX.w]
  have w4 : 0 ≤ w 4 ∧ w 4 ≤ 2 := hwo.2.2.2.2.1
  have two : szF (moS b n w) w k e = 2 → k + 1 < e → ((g 51 4) = 2 → cV E 113 [amR 49, amI v1, amI (v1 + 1), amI (v1 + 1)] g fl (fun g7 f7 => Q 2 g7 f7)) ∧ (¬ ((g 51 4) = 2) → cV E 113 [amR 49, amI v1, amI (v1 + 1), amI v1] g fl (fun g7 f7 => Q 2 g7 f7)) := by
    intro hz hk1
    rw [hz] at h
    rw [e4]
    refine ⟨fun c => foot_ok (w := w) (k := k) (r := 2) (bt := k + 1) h1 (by omega) (by omega) (Or.inr rfl) (by omega) (by rw [if_pos c]; omega) (fun g' R => h g' R), fun c => foot_ok (w := w) (k := k) (r := 2) (bt := k) h1 (by omega) (by omega) (Or.inr rfl) (by omega) (by rw [if_neg c]) (fun g' R => h g' R)⟩
  have zero : szF (moS b n w) w k e = 0 → Q 0 g fl := by
    intro hz
    rw [hz] at h
    exact h g (MR_0 (fun s => by split <;> rfl))
  have one : szF (moS b n w) w k e = 1 → cV E 113 [amR 49, amI v1, amI v1, amI v1] g fl (fun g4 f4 => Q 1 g4 f4) := by
    intro hz
    rw [hz] at h
    exact foot_ok (w := w) (k := k) (r := 1) (bt := k) h1 (by omega) h1 (Or.inl rfl) (by omega) (by split <;> omega) (fun g' R => h g' R)
  have tail : (w 4 = 0 ∨ ¬ 2 ≤ moS b n w k) → ((v1 + 1) < v2 → ((g 51 4) = 1 → cI E 112 [amR 49, amI (v1 + 1)] g fl (fun x6 g6 f6 => (x6 = 0 → ((g6 51 4) = 2 → cV E 113 [amR 49, amI v1, amI (v1 + 1), amI (v1 + 1)] g6 f6 (fun g9 f9 => Q 2 g9 f9)) ∧ (¬ ((g6 51 4) = 2) → cV E 113 [amR 49, amI v1, amI (v1 + 1), amI v1] g6 f6 (fun g9 f9 => Q 2 g9 f9))) ∧ (¬ (x6 = 0) → Q 0 g6 f6))) ∧ (¬ ((g 51 4) = 1) → ((g 51 4) = 2 → cV E 113 [amR 49, amI v1, amI (v1 + 1), amI (v1 + 1)] g fl (fun g7 f7 => Q 2 g7 f7)) ∧ (¬ ((g 51 4) = 2) → cV E 113 [amR 49, amI v1, amI (v1 + 1), amI v1] g fl (fun g7 f7 => Q 2 g7 f7)))) ∧ (¬ ((v1 + 1) < v2) → Q 0 g fl) := by
    intro c0
    have z0 : szF (moS b n w) w k e = if k + 1 < e ∧ (w 4 ≠ 1 ∨ moS b n w (k + 1) < 2) then 2 else 0 := by unfold szF; rw [if_neg (by omega)]
    refine ⟨fun c => ⟨fun c1 => ?_, fun c1 => two (by rw [z0, if_pos ⟨by omega, Or.inl (by omega)⟩]) (by omega)⟩, fun c => zero (by rw [z0, if_neg (by omega)])⟩
    refine isHeavyM_ok hn hwo hX (s := k + 1) (by omega) (by omega) ⟨fun c2 => two ?_ (by omega), fun c2 => zero ?_⟩
    · have hy : moS b n w (k + 1) < 2 := by
        rcases Nat.lt_or_ge (moS b n w (k + 1)) 2 with y | y
        · exact y
        · rw [if_pos y] at c2; omega
      rw [z0, if_pos ⟨by omega, Or.inr hy⟩]
    · rw [z0, if_neg]
      rintro ⟨y1, y2⟩
      exact c2 (if_neg (by omega))
  refine b114 ⟨rgI (by omega) (by omega), fun c => isHeavyM_ok hn hwo hX (s := k) h1 (by omega) ⟨fun c2 => tail (Or.inr ?_), fun c2 => one ?_⟩, fun c => tail (Or.inl (by omega))⟩
  · intro y; rw [if_pos y] at c2; omega
  · have hy : 2 ≤ moS b n w k := by
      rcases Nat.lt_or_ge (moS b n w k) 2 with y | y
      · exact absurd (if_neg (by omega)) c2
      · exact y
    unfold szF
    rw [if_pos ⟨by omega, hy⟩]
theorem footBack_ok {Q : Int → GG → FF → Prop} (hn : n ≤ 60) (hwo : waysOK w) (hX : MX b n w g) {k p : Nat} {v1 v2 : Int} (h1 : v1 = k) (h2 : v2 = p) (hk : p ≤ k) (he : k < Sn b n w)
    (h : ∀ g' : GG, MR w (fun s => if s = k + 1 - szB (moS b n w) w k p then szB (moS b n w) w k p else 0) g g' → Q (szB (moS b n w) w k p : Nat) g' fl) : cI E 115 [amR 49, amI v1, amI v2] g fl Q := by
  have hSl := Sn_le (b := b) (w := w) hn
  have e4 : g 51 4 = w 4 := by rw [hX.w]
  have w4 : 0 ≤ w 4 ∧ w 4 ≤ 2 := hwo.2.2.2.2.1
  have two : szB (moS b n w) w k p = 2 → p < k → ((g 51 4) = 2 → cV E 113 [amR 49, amI (v1 - 1), amI v1, amI v1] g fl (fun g5 f5 => Q 2 g5 f5)) ∧ (¬ ((g 51 4) = 2) → cV E 113 [amR 49, amI (v1 - 1), amI v1, amI (v1 - 1)] g fl (fun g5 f5 => Q 2 g5 f5)) := by
    intro hz hk1
    rw [hz, show k + 1 - 2 = k - 1 by omega] at h
    rw [e4]
    refine ⟨fun c => foot_ok (w := w) (k := k - 1) (r := 2) (bt := k) (by omega) (by omega) (by omega) (Or.inr rfl) (by omega) (by rw [if_pos c]; omega) (fun g' R => h g' R), fun c => foot_ok (w := w) (k := k - 1) (r := 2) (bt := k - 1) (by omega) (by omega) (by omega) (Or.inr rfl) (by omega) (by rw [if_neg c]) (fun g' R => h g' R)⟩
  have zero : szB (moS b n w) w k p = 0 → Q 0 g fl := by
    intro hz
    rw [hz] at h
    exact h g (MR_0 (fun s => by split <;> rfl))
  have one : szB (moS b n w) w k p = 1 → cV E 113 [amR 49, amI v1, amI v1, amI v1] g fl (fun g4 f4 => Q 1 g4 f4) := by
    intro hz
    rw [hz, show k + 1 - 1 = k by omega] at h
    exact foot_ok (w := w) (k := k) (r := 1) (bt := k) h1 (by omega) h1 (Or.inl rfl) (by omega) (by split <;> omega) (fun g' R => h g' R)
  have lone : (szB (moS b n w) w k p = if w 4 ≠ 0 ∧ 2 ≤ moS b n w k then 1 else 0) → (0 < (g 51 4) → cI E 112 [amR 49, amI v1] g fl (fun x9 g9 f9 => (x9 = 0 → Q 0 g9 f9) ∧ (¬ (x9 = 0) → cV E 113 [amR 49, amI v1, amI v1, amI v1] g9 f9 (fun g11 f11 => Q 1 g11 f11)))) ∧ (¬ (0 < (g 51 4)) → Q 0 g fl) := by
    intro hz
    refine ⟨fun c => isHeavyM_ok hn hwo hX (s := k) h1 he ⟨fun c2 => zero ?_, fun c2 => one ?_⟩, fun c => zero (by rw [hz, if_neg (by omega)])⟩
    · rw [hz, if_neg]
      rintro ⟨y1, y2⟩
      rw [if_pos y2] at c2; omega
    · have hy : 2 ≤ moS b n w k := by
        rcases Nat.lt_or_ge (moS b n w k) 2 with y | y
        · exact absurd (if_neg (by omega)) c2
        · exact y
      rw [hz, if_pos ⟨by omega, hy⟩]
  refine b115 ⟨fun c => ⟨rgI (by omega) (by omega), ?_⟩, fun c => ⟨fun c1 => lone ?_, fun c1 => ⟨fun c2 => lone ?_, fun c2 => lone ?_⟩⟩⟩
  · refine isHeavyM_ok hn hwo hX (s := k - 1) (by omega) (by omega) ⟨fun c1 => two ?_ (by omega), fun c1 => ⟨fun c2 => ⟨fun c3 => ?_, fun c3 => lone ?_⟩, fun c2 => ⟨fun c3 => two ?_ (by omega), fun c3 => lone ?_⟩⟩⟩
    · unfold szB; rw [if_pos (by omega), if_pos (by omega)]
    · have hl : moS b n w (k - 1) < 2 := by
        rcases Nat.lt_or_ge (moS b n w (k - 1)) 2 with y | y
        · exact y
        · rw [if_pos y] at c3; omega
      refine isHeavyM_ok hn hwo hX (s := k) h1 he ⟨fun c4 => two ?_ (by omega), fun c4 => lone ?_⟩
      · unfold szB
        rw [if_neg (by omega), if_pos (by omega), if_neg (by intro y; rw [if_pos y] at c4; omega), if_pos ⟨by omega, hl⟩]
      · have hh : 2 ≤ moS b n w k := by
          rcases Nat.lt_or_ge (moS b n w k) 2 with y | y
          · exact absurd (if_neg (by omega)) c4
          · exact y
        unfold szB
        rw [if_neg (by omega), if_pos (by omega), if_pos hh, if_pos ⟨by omega, hh⟩]
    · have hl : ¬ moS b n w (k - 1) < 2 := fun y => c3 (if_neg (by omega))
      unfold szB
      rw [if_neg (by omega), if_pos (by omega)]
      by_cases hh : 2 ≤ moS b n w k
      · rw [if_pos hh, if_pos ⟨by omega, hh⟩]
      · rw [if_neg hh, if_neg (by omega), if_neg (by omega)]
    · have hl : moS b n w (k - 1) < 2 := by
        rcases Nat.lt_or_ge (moS b n w (k - 1)) 2 with y | y
        · exact y
        · rw [if_pos y] at c3; omega
      unfold szB
      rw [if_neg (by omega), if_neg (by omega), if_pos ⟨by omega, hl⟩]
    · have hl : ¬ moS b n w (k - 1) < 2 := fun y => c3 (if_neg (by omega))
      unfold szB
      rw [if_neg (by omega), if_neg (by omega), if_neg (by omega)]
      by_cases hh : 2 ≤ moS b n w k
      · rw [if_pos hh, if_pos ⟨by omega, hh⟩]
      · rw [if_neg hh, if_neg (by omega)]
  · unfold szB; rw [if_pos (by omega), if_neg (by omega), if_neg (by omega)]
  · unfold szB
    rw [if_neg (by omega), if_pos (by omega)]
    by_cases hh : 2 ≤ moS b n w k
    · rw [if_pos hh, if_pos ⟨by omega, hh⟩]
    · rw [if_neg hh, if_neg (by omega), if_neg (by omega)]
  · unfold szB
    rw [if_neg (by omega), if_neg (by omega), if_neg (by omega)]
    by_cases hh : 2 ≤ moS b n w k
    · rw [if_pos hh, if_pos ⟨by omega, hh⟩]
    · rw [if_neg hh, if_neg (by omega)]
end FEETM
