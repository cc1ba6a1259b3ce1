/-! the component's Stress: numbers of feet, beats -/
section STRC
variable {E : am_E} {g : GG} {fl : FF} {mo : Nat → Nat} {w : Nat → Int} {o : Nat}
theorem cnt_up {st : Nat → Nat} {p k : Nat} (h : p ≤ k) : cnt st p (k + 1 - p) = cnt st p (k - p) + (if 0 < st k then 1 else 0) := by
  rw [show k + 1 - p = (k - p) + 1 by omega, cnt_s, show p + (k - p) = k by omega]
theorem numF_loop {Q : Int → GG → FF → Prop} (ho : o = 21 ∨ o = 29) {st : Nat → Nat} {p e : Nat} (hf : FS st p e) (he : e ≤ 60) {v1 v2 : Int} (h2 : v2 = e) :
    ∀ (f k : Nat) (v3 v4 : Int) (g : GG), e ≤ k + f → p ≤ k → k ≤ e → v4 = k → v3 = (cnt st p (k - p) : Nat) → (∀ s, p ≤ s → s < e → g (o + 1) s = st s) →
      (∀ g' : GG, (∀ s, g' (o + 3) s = if (k ≤ s ∧ 0 < st s) ∨ (k < s ∧ st (s - 1) = 2) then ((cnt st p (s + 1 - p) : Nat) : Int) - 1 else g (o + 3) s) → (∀ a i, a ≠ o + 3 → g' a i = g a i) → Q (cnt st p (e - p) : Nat) g' fl) →
      am_X E 83 (4, (0, 0), [some (amR o), some (amI v1), some (amI v2), some (amI v3), some (amI v4), none, none], [], mk g fl) (RI Q) := by
  intro f
  induction f with
  | zero =>
    intro k v3 v4 g h0 hpk hke h4 h3 hr h
    have hk : k = e := by omega
    subst hk
    refine b83_4 ho ⟨fun c => absurd c (by omega), fun _ => ?_⟩
    rw [h3]
    refine h g (fun s => ?_) (fun _ _ _ => rfl)
    rw [if_neg]
    rintro (⟨z1, z2⟩ | ⟨z1, z2⟩)
    · have := hf.inn s z2; omega
    · have := hf.inn (s - 1) (by omega); omega
  | succ f ih =>
    intro k v3 v4 g h0 hpk hke h4 h3 hr h
    have hcl := cnt_le (st := st) (p := p) (k - p)
    by_cases hk : k < e
    · have hrk : rd g (o + 1) 60 v4 = st k := by rw [rd_in h4 (by omega)]; exact hr k hpk hk
      have hle := hf.le k
      have hcu := cnt_up (st := st) hpk
      have hcu2 := cnt_up (st := st) (p := p) (k := k + 1) (by omega)
      refine b83_4 ho ⟨fun _ => ⟨fun c => ?_, fun c => ⟨rgI (by omega) (by omega), ?_⟩⟩, fun c => absurd (by omega) c⟩
      · rw [hrk] at c ⊢
        have hc0 : 0 < st k := by omega
        rw [if_pos hc0] at hcu
        have hin := hf.inn k hc0
        refine b83_16 ho ⟨fun _ => ⟨rgI (by omega) (by omega), fun g2 e2 => ⟨rgI (by omega) (by omega), ?_⟩⟩, fun c2 => absurd (by omega) c2⟩
        rw [wr_in (k := k) (by omega) (by omega)] at e2
        by_cases h1 : st k = 1
        · refine b83_16 ho ⟨fun c2 => absurd c2 (by omega), fun _ => ⟨rgI (by omega) (by omega), rgI (by omega) (by omega), ?_⟩⟩
          refine ih (k + 1) _ _ g2 (by omega) (by omega) (by omega) (by omega) (by rw [hcu, h3]; omega) (fun s z1 z2 => by rw [e2]; (simp (disch := omega) only [up_at, up_ne]); exact hr s z1 z2) (fun g' q1 q2 => h g' (fun s => ?_) (fun a i z => by rw [q2 a i z, e2]; (simp (disch := omega) only [up_at, up_ne])))
          rw [q1]
          by_cases hs : s = k
          · subst hs
            rw [if_neg (by omega), if_pos (Or.inl ⟨by omega, hc0⟩), e2, hcu]; (simp (disch := omega) only [up_at, up_ne])
            rw [h3]; omega
          · have hg2 : g2 (o + 3) s = g (o + 3) s := by rw [e2]; (simp (disch := omega) only [up_at, up_ne])
            rw [hg2]
            by_cases hs1 : s = k + 1
            · subst hs1
              rw [Nat.add_sub_cancel]
              by_cases h9 : 0 < st (k + 1)
              · rw [if_pos (by omega), if_pos (by omega)]
              · rw [if_neg (by omega), if_neg (by omega)]
            · by_cases h9 : (k + 1 ≤ s ∧ 0 < st s) ∨ (k + 1 < s ∧ st (s - 1) = 2)
              · rw [if_pos h9, if_pos (by omega)]
              · rw [if_neg h9, if_neg (by omega)]
        · have hz2 : st k = 2 := by omega
          have hnx := hf.nx k hz2
          rw [if_neg (by omega)] at hcu2
          refine b83_16 ho ⟨fun _ => ⟨rgI (by omega) (by omega), fun g3 e3 => ⟨rgI (by omega) (by omega), ?_⟩⟩, fun c2 => absurd (by omega) c2⟩
          rw [wr_in (k := k + 1) (by omega) (by omega)] at e3
          refine b83_16 ho ⟨fun c2 => absurd c2 (by omega), fun _ => ⟨rgI (by omega) (by omega), rgI (by omega) (by omega), ?_⟩⟩
          refine ih (k + 1) _ _ g3 (by omega) (by omega) (by omega) (by omega) (by rw [hcu, h3]; omega) (fun s z1 z2 => by rw [e3, e2]; (simp (disch := omega) only [up_at, up_ne]); exact hr s z1 z2) (fun g' q1 q2 => h g' (fun s => ?_) (fun a i z => by rw [q2 a i z, e3, e2]; (simp (disch := omega) only [up_at, up_ne])))
          rw [q1]
          by_cases hs : s = k
          · subst hs
            rw [if_neg (by omega), if_pos (Or.inl ⟨by omega, hc0⟩), e3, e2, hcu]; (simp (disch := omega) only [up_at, up_ne])
            rw [h3]; omega
          · by_cases hs1 : s = k + 1
            · subst hs1
              rw [Nat.add_sub_cancel]
              rw [if_neg (by omega), if_pos (by omega), e3, hcu2, hcu]; (simp (disch := omega) only [up_at, up_ne])
              rw [h3]; omega
            · have hg2 : g3 (o + 3) s = g (o + 3) s := by rw [e3, e2]; (simp (disch := omega) only [up_at, up_ne])
              rw [hg2]
              by_cases h9 : (k + 1 ≤ s ∧ 0 < st s) ∨ (k + 1 < s ∧ st (s - 1) = 2)
              · rw [if_pos h9, if_pos (by omega)]
              · rw [if_neg h9, if_neg (by omega)]
      · rw [hrk] at c
        rw [if_neg (by omega)] at hcu
        refine ih (k + 1) _ _ g (by omega) (by omega) (by omega) (by omega) (by rw [hcu, h3]; omega) hr (fun g' q1 q2 => h g' (fun s => ?_) q2)
        rw [q1]
        by_cases hs : s = k
        · subst hs
          rw [if_neg (by omega), if_neg (by omega)]
        · by_cases hs1 : s = k + 1
          · subst hs1
            rw [Nat.add_sub_cancel]
            by_cases h9 : 0 < st (k + 1)
            · rw [if_pos (by omega), if_pos (by omega)]
            · rw [if_neg (by omega), if_neg (by omega)]
          · by_cases h9 : (k + 1 ≤ s ∧ 0 < st s) ∨ (k + 1 < s ∧ st (s - 1) = 2)
            · rw [if_pos h9, if_pos (by omega)]
            · rw [if_neg h9, if_neg (by omega)]
    · have hk : k = e := by omega
      subst hk
      refine b83_4 ho ⟨fun c => absurd c (by omega), fun _ => ?_⟩
      rw [h3]
      refine h g (fun s => ?_) (fun _ _ _ => rfl)
      rw [if_neg]
      rintro (⟨z1, z2⟩ | ⟨z1, z2⟩)
      · have := hf.inn s z2; omega
      · have := hf.inn (s - 1) (by omega); omega
theorem numberFeet_ok {Q : Int → GG → FF → Prop} (ho : o = 21 ∨ o = 29) {st : Nat → Nat} {p e : Nat} (hf : FS st p e) (hp : p ≤ e) (he : e ≤ 60) {v1 v2 : Int} (h1 : v1 = p) (h2 : v2 = e) (hr : ∀ s, p ≤ s → s < e → g (o + 1) s = st s)
    (h : ∀ g' : GG, (∀ s, p ≤ s → (∀ x, fo st p s = x → g (o + 3) s = -1 → g' (o + 3) s = x)) → (∀ s, st s = 0 → (p < s → st (s - 1) ≠ 2) → g' (o + 3) s = g (o + 3) s) → (∀ a i, a ≠ o + 3 → g' a i = g a i) → Q (cnt st p (e - p) : Nat) g' fl) : cI E 83 [amR o, amI v1, amI v2] g fl Q := by
  refine b83 ho (numF_loop ho hf he h2 60 p 0 v1 g (by omega) (by omega) hp h1 (by rw [Nat.sub_self]; rfl) hr (fun g' q1 q2 => h g' (fun s hs x hx hg => ?_) (fun s z1 z2 => ?_) q2))
  · rw [q1, ← hx]
    unfold fo
    by_cases c : 0 < st s ∨ (p < s ∧ st (s - 1) = 2)
    · rw [if_pos (by omega), if_pos c]
    · rw [if_neg (by omega), if_neg c]; exact hg
  · rw [q1, if_neg]
    rintro (⟨z3, z4⟩ | ⟨z3, z4⟩)
    · omega
    · exact z2 z3 z4
/-- where the look for the main beat stands -/
def lkM (w : Nat → Int) (st : Nat → Nat) (p k : Nat) : Nat := if w 4 = 2 ∧ p < k ∧ st (k - 1) = 2 then k + 1 - p else k - p
theorem lkM_skip {st : Nat → Nat} {p k : Nat} (hpk : p ≤ k) (h : st k = 0) : mnF mo w st p (lkM w st p (k + 1)) = mnF mo w st p (lkM w st p k) := by
  have h1 : lkM w st p (k + 1) = k + 1 - p := by unfold lkM; rw [if_neg (by rw [Nat.add_sub_cancel]; omega)]
  rw [h1]
  unfold lkM
  split
  · rfl
  · rename_i c
    rw [show k + 1 - p = (k - p) + 1 by omega, mnF_s, show p + (k - p) = k by omega, if_neg]
    rintro ⟨(⟨c1, c2⟩ | ⟨c1, c2⟩), -⟩ <;> omega
theorem lkM_step {st : Nat → Nat} {p e k : Nat} (hf : FS st p e) (hpk : p ≤ k) (h : 0 < st k) : lkM w st p k = k - p ∧ mnF mo w st p (lkM w st p (k + 1)) = (if mnF mo w st p (k - p) = -1 ∨ w 7 = 1 ∨ (w 7 = 2 ∧ mo (mnF mo w st p (k - p)).toNat < mo (plc w st k)) then ((plc w st k : Nat) : Int) else mnF mo w st p (k - p)) := by
  have hle := hf.le k
  have h0 : ¬ (p < k ∧ st (k - 1) = 2) := by
    rintro ⟨z1, z2⟩
    have := hf.nx (k - 1) z2
    rw [show k - 1 + 1 = k by omega] at this
    omega
  refine ⟨by unfold lkM; rw [if_neg (by omega)], ?_⟩
  by_cases h1 : w 4 = 2 ∧ st k = 2
  · have h2 : lkM w st p (k + 1) = k + 2 - p := by unfold lkM; rw [if_pos (by rw [Nat.add_sub_cancel]; omega)]
    have h3 : plc w st k = k + 1 := by unfold plc; rw [if_pos h1.1]; omega
    have hnx := hf.nx k h1.2
    rw [h2, h3, show k + 2 - p = (k + 1 - p) + 1 by omega, mnF_s, show p + (k + 1 - p) = k + 1 by omega]
    have h4 : mnF mo w st p (k + 1 - p) = mnF mo w st p (k - p) := by
      rw [show k + 1 - p = (k - p) + 1 by omega, mnF_s, show p + (k - p) = k by omega, if_neg]
      rintro ⟨(⟨c1, c2⟩ | ⟨c1, c2⟩), -⟩ <;> omega
    rw [h4]
    have h5 : hb w st p (k + 1) := Or.inl ⟨h1.1, Or.inr ⟨by omega, by rw [Nat.add_sub_cancel]; exact h1.2⟩⟩
    by_cases c : mnF mo w st p (k - p) = -1 ∨ w 7 = 1 ∨ (w 7 = 2 ∧ mo (mnF mo w st p (k - p)).toNat < mo (k + 1))
    · rw [if_pos ⟨h5, c⟩, if_pos c]
    · rw [if_neg (fun z => c z.2), if_neg c]
  · have h2 : lkM w st p (k + 1) = k + 1 - p := by unfold lkM; rw [if_neg (by rw [Nat.add_sub_cancel]; omega)]
    have h3 : plc w st k = k := by unfold plc; split <;> omega
    rw [h2, h3, show k + 1 - p = (k - p) + 1 by omega, mnF_s, show p + (k - p) = k by omega]
    have h5 : hb w st p k := by
      by_cases c : w 4 = 2
      · exact Or.inl ⟨c, Or.inl (by omega)⟩
      · exact Or.inr ⟨c, h⟩
    by_cases c : mnF mo w st p (k - p) = -1 ∨ w 7 = 1 ∨ (w 7 = 2 ∧ mo (mnF mo w st p (k - p)).toNat < mo k)
    · rw [if_pos ⟨h5, c⟩, if_pos c]
    · rw [if_neg (fun z => c z.2), if_neg c]
theorem plc_in {st : Nat → Nat} {p e k : Nat} (hf : FS st p e) (h : 0 < st k) : k ≤ plc w st k ∧ plc w st k < e := by
  have h1 := hf.inn k h
  unfold plc
  split <;> omega
theorem mainF_loop {Q : Int → GG → FF → Prop} (ho : o = 21 ∨ o = 29) {st : Nat → Nat} {p e : Nat} (hf : FS st p e) (he : e ≤ 60) {v2 v3 v4 : Int} (h3 : v3 = e) (h4 : v4 = w 7) (hr : ∀ s, p ≤ s → s < e → g (o + 1) s = st s) (hr2 : ∀ s, 0 < st s → g (o + 2) s = plc w st s) (hmo : ∀ s, p ≤ s → s < e → g 20 s = mo s) (h : Q (mnF mo w st p (e - p)) g fl) :
    ∀ (f k : Nat) (v5 v6 : Int), e ≤ k + f → p ≤ k → k ≤ e → v6 = k → v5 = mnF mo w st p (lkM w st p k) →
      am_X E 85 (4, (0, 0), [some (amR o), some (amR 11), some (amI v2), some (amI v3), some (amI v4), some (amI v5), some (amI v6), none, none], [], mk g fl) (RI Q) := by
  have fin : lkM w st p e = e - p := by
    unfold lkM
    rw [if_neg]
    rintro ⟨-, z1, z2⟩
    have := hf.inn (e - 1) (by omega)
    omega
  intro f
  induction f with
  | zero =>
    intro k v5 v6 h0 hpk hke h6 h5
    have hk : k = e := by omega
    subst hk
    refine b85_4 ho ⟨fun c => absurd c (by omega), fun _ => ?_⟩
    rw [h5, fin]; exact h
  | succ f ih =>
    intro k v5 v6 h0 hpk hke h6 h5
    by_cases hk : k < e
    · have hrk : rd g (o + 1) 60 v6 = st k := by rw [rd_in h6 (by omega)]; exact hr k hpk hk
      have nxt : ∀ x : Int, x = mnF mo w st p (lkM w st p (k + 1)) → am_rg (v6 + 1) ∧ am_X E 85 (4, (0, 0), [some (amR o), some (amR 11), some (amI v2), some (amI v3), some (amI v4), some (amI x), some (amI (v6 + 1)), none, none], [], mk g fl) (RI Q) := by
        intro x hx
        exact ⟨rgI (by omega) (by omega), ih (k + 1) x _ (by omega) (by omega) (by omega) (by omega) hx⟩
      refine b85_4 ho ⟨fun _ => ⟨fun c => nxt _ ?_, fun c => ?_⟩, fun c => absurd (by omega) c⟩
      · rw [hrk] at c
        rw [lkM_skip hpk (by omega)]; exact h5
      · rw [hrk] at c
        have hc0 : 0 < st k := by omega
        obtain ⟨l1, l2⟩ := lkM_step (mo := mo) (w := w) hf hpk hc0
        have hpl := plc_in (w := w) hf hc0
        have hrp : rd g (o + 2) 60 v6 = plc w st k := by rw [rd_in h6 (by omega)]; exact hr2 k hc0
        rw [l1] at h5
        rw [hrp]
        refine ⟨fun c1 => nxt _ ?_, fun c1 => ⟨fun c2 => nxt _ ?_, fun c2 => ⟨fun c3 => ?_, fun c3 => nxt _ ?_⟩⟩⟩
        · rw [l2, if_pos (Or.inl (by rw [← h5]; exact c1))]
        · rw [l2, if_pos (Or.inr (Or.inl (by omega)))]
        · rcases mnF_in (mo := mo) (w := w) (st := st) (p := p) (k - p) with z | ⟨s, z1, z2, z3, z4⟩
          · rw [← h5] at z; exact absurd z c1
          · have hs := hb_in hf z4
            have e1 : rd g 20 60 v5 = mo s := by rw [rd_in (k := s) (by omega) (by omega)]; exact hmo s z2 hs.2
            have e2 : rd g 20 60 (plc w st k : Nat) = mo (plc w st k) := by rw [rd_in (k := plc w st k) rfl (by omega)]; exact hmo _ (by omega) hpl.2
            rw [e1, e2]
            have e3 : (mnF mo w st p (k - p)).toNat = s := by omega
            refine ⟨fun c4 => nxt _ ?_, fun c4 => nxt _ ?_⟩
            · rw [l2, if_pos (Or.inr (Or.inr ⟨by omega, by rw [e3]; omega⟩))]
            · rw [l2, if_neg (by rw [e3]; omega)]; exact h5
        · rw [l2, if_neg (by omega)]; exact h5
    · have hk : k = e := by omega
      subst hk
      refine b85_4 ho ⟨fun c => absurd c (by omega), fun _ => ?_⟩
      rw [h5, fin]; exact h
theorem mainOfFeet_ok {Q : Int → GG → FF → Prop} (ho : o = 21 ∨ o = 29) {st : Nat → Nat} {p e : Nat} (hf : FS st p e) (hp : p ≤ e) (he : e ≤ 60) {v2 v3 v4 : Int} (h2 : v2 = p) (h3 : v3 = e) (h4 : v4 = w 7) (hr : ∀ s, p ≤ s → s < e → g (o + 1) s = st s) (hr2 : ∀ s, 0 < st s → g (o + 2) s = plc w st s) (hmo : ∀ s, p ≤ s → s < e → g 20 s = mo s) (h : Q (mnF mo w st p (e - p)) g fl) : cI E 85 [amR o, amR 11, amI v2, amI v3, amI v4] g fl Q :=
  b85 ho (mainF_loop ho hf he h3 h4 hr hr2 hmo h 60 p _ _ (by omega) (by omega) hp h2 (by unfold lkM; rw [if_neg (by omega), Nat.sub_self]; rfl))
theorem isMarked_ok {Q : Int → GG → FF → Prop} {k z : Nat} {v m : Int} (hv : v = k) (hk : k < 30) (hm : g 16 k = m) (hz : g 15 k = z) (h : Q (if isMk m z then 1 else 0) g fl) : cI E 73 [amR 11, amI v] g fl Q := by
  refine b73 ?_
  rw [rd_in hv hk, rd_in hv hk, hm, hz]
  refine ⟨fun c => ?_, fun c => ?_⟩
  · rw [if_neg (by rintro ⟨z1, z2⟩; exact z1 c)] at h; exact h
  · by_cases c2 : m < z
    · rw [b01_t c2]; rw [if_pos ⟨c, c2⟩] at h; exact h
    · rw [b01_f c2]; rw [if_neg (by rintro ⟨z1, z2⟩; exact c2 z2)] at h; exact h
/-- the foot of a beat -/
def sbW (w : Nat → Int) (st : Nat → Nat) (s : Nat) : Nat := if w 4 = 2 ∧ st s ≠ 1 then s - 1 else s
theorem plc_hb {st : Nat → Nat} {p e k : Nat} (hf : FS st p e) (h : 0 < st k) : hb w st p (plc w st k) ∧ sbW w st (plc w st k) = k := by
  have hle := hf.le k
  have hin := hf.inn k h
  unfold plc sbW
  by_cases h4 : w 4 = 2
  · rw [if_pos h4]
    by_cases h1 : st k = 1
    · rw [show k + st k - 1 = k by omega]
      exact ⟨Or.inl ⟨h4, Or.inl h1⟩, if_neg (by omega)⟩
    · have h2 : st k = 2 := by omega
      have hnx := hf.nx k h2
      rw [show k + st k - 1 = k + 1 by omega]
      exact ⟨Or.inl ⟨h4, Or.inr ⟨by omega, by rw [Nat.add_sub_cancel]; exact h2⟩⟩, by rw [if_pos ⟨h4, by omega⟩]; rfl⟩
  · rw [if_neg h4]
    exact ⟨Or.inr ⟨h4, h⟩, if_neg (by omega)⟩
theorem hb_plc {st : Nat → Nat} {p s : Nat} (h : hb w st p s) : 0 < st (sbW w st s) ∧ plc w st (sbW w st s) = s := by
  unfold plc sbW
  rcases h with ⟨h4, h | ⟨h, h1⟩⟩ | ⟨h4, h⟩
  · rw [if_neg (by omega), if_pos h4]; omega
  · by_cases h2 : st s = 1
    · rw [if_neg (by omega), if_pos h4]; omega
    · rw [if_pos ⟨h4, h2⟩, if_pos h4]; omega
  · rw [if_neg (by omega), if_neg h4]; exact ⟨h, rfl⟩
theorem giveBeats_loop {Q : GG → FF → Prop} (ho : o = 21 ∨ o = 29) {st : Nat → Nat} {p e : Nat} {g0 : GG} {main : Int} {M : Prop} [Decidable M] (hf : FS st p e) (he : e ≤ 60) {v2 v3 v4 v5 v6 v7 : Int} (h3 : v3 = e) (h6 : v6 = if M then 1 else 0) (h7 : v7 = main) {mn : Nat} (hmn : main = mn) (hmn60 : mn < 60) (hr : ∀ s, p ≤ s → s < e → g0 (o + 1) s = st s) (hr2 : ∀ s, 0 < st s → g0 (o + 2) s = plc w st s)
    (h : ∀ g' : GG, (∀ s, g' (o + 4) s = if s = mn then 2 else if hb w st p s then (if M ∧ ((s : Int) = main - 1 ∨ (s : Int) = main + 1) then 0 else 1) else g0 (o + 4) s) → (∀ a i, a ≠ o + 4 → g' a i = g0 a i) → Q g' fl) :
    ∀ (f k : Nat) (v8 : Int) (g : GG), e ≤ k + f → p ≤ k → k ≤ e → v8 = k → (∀ s, g (o + 4) s = if hb w st p s ∧ sbW w st s < k then (if M ∧ ((s : Int) = main - 1 ∨ (s : Int) = main + 1) then 0 else 1) else g0 (o + 4) s) → (∀ a i, a ≠ o + 4 → g a i = g0 a i) →
      am_X E 84 (27, (0, 0), [some (amR o), some (amR 11), some (amI v2), some (amI v3), some (amI v4), some (amI v5), some (amI v6), some (amI v7), some (amI v8), none, none], [], mk g fl) (RV Q) := by
  have fin : ∀ (g g2 : GG) , (∀ s, g (o + 4) s = if hb w st p s ∧ sbW w st s < e then (if M ∧ ((s : Int) = main - 1 ∨ (s : Int) = main + 1) then 0 else 1) else g0 (o + 4) s) → (∀ a i, a ≠ o + 4 → g a i = g0 a i) → g2 = wr g (o + 4) 60 v7 2 → Q g2 fl := by
    intro g g2 hb1 hfr e2
    rw [wr_in (k := mn) (by omega) hmn60] at e2
    refine h g2 (fun s => ?_) (fun a i z => by rw [e2]; (simp (disch := omega) only [up_at, up_ne]); exact hfr a i z)
    by_cases hs : s = mn
    · subst hs; rw [if_pos rfl, e2]; (simp (disch := omega) only [up_at, up_ne])
    · rw [if_neg hs, e2]; (simp (disch := omega) only [up_at, up_ne])
      rw [hb1]
      by_cases hh : hb w st p s
      · have h9 := hb_plc hh
        have h8 := hf.inn _ h9.1
        rw [if_pos ⟨hh, by omega⟩, if_pos hh]
      · rw [if_neg (fun z => hh z.1), if_neg hh]
  intro f
  induction f with
  | zero =>
    intro k v8 g h0 hpk hke h8 hb1 hfr
    have hk : k = e := by omega
    subst hk
    exact b84_27 ho ⟨fun c => absurd c (by omega), fun _ g2 e2 => fin g g2 hb1 hfr e2⟩
  | succ f ih =>
    intro k v8 g h0 hpk hke h8 hb1 hfr
    by_cases hk : k < e
    · have hrk : rd g (o + 1) 60 v8 = st k := by rw [rd_in h8 (by omega), hfr _ _ (by omega)]; exact hr k hpk hk
      refine b84_27 ho ⟨fun _ => ⟨fun c => ?_, fun c => ⟨rgI (by omega) (by omega), ?_⟩⟩, fun c => absurd (by omega) c⟩
      · rw [hrk] at c
        have hc0 : 0 < st k := by omega
        have hpl := plc_in (w := w) hf hc0
        obtain ⟨hp1, hp2⟩ := plc_hb (w := w) hf hc0
        have hrp : rd g (o + 2) 60 v8 = plc w st k := by rw [rd_in h8 (by omega), hfr _ _ (by omega)]; exact hr2 k hc0
        rw [hrp]
        have nxt : ∀ (g5 : GG) (x : Int), x = (if M ∧ (((plc w st k : Nat) : Int) = main - 1 ∨ ((plc w st k : Nat) : Int) = main + 1) then 0 else 1) → g5 = wr g (o + 4) 60 (plc w st k : Nat) x → am_rg (v8 + 1) ∧ am_X E 84 (27, (0, 0), [some (amR o), some (amR 11), some (amI v2), some (amI v3), some (amI v4), some (amI v5), some (amI v6), some (amI v7), some (amI (v8 + 1)), none, none], [], mk g5 fl) (RV Q) := by
          intro g5 x hx e5
          rw [wr_in (k := plc w st k) rfl (by omega)] at e5
          refine ⟨rgI (by omega) (by omega), ih (k + 1) _ g5 (by omega) (by omega) (by omega) (by omega) (fun s => ?_) (fun a i z => by rw [e5]; (simp (disch := omega) only [up_at, up_ne]); exact hfr a i z)⟩
          by_cases hs : s = plc w st k
          · rw [hs, if_pos ⟨hp1, by omega⟩, e5]; (simp (disch := omega) only [up_at, up_ne]); exact hx
          · have : g5 (o + 4) s = g (o + 4) s := by rw [e5]; (simp (disch := omega) only [up_at, up_ne])
            rw [this, hb1]
            by_cases hh : hb w st p s
            · have h9 := hb_plc hh
              have hne : sbW w st s ≠ k := fun z => hs (by rw [← h9.2, z])
              by_cases hl : sbW w st s < k
              · rw [if_pos (show hb w st p s ∧ sbW w st s < k from ⟨hh, hl⟩), if_pos (show hb w st p s ∧ sbW w st s < k + 1 from ⟨hh, by omega⟩)]
              · rw [if_neg (fun z => hl z.2), if_neg (by rintro ⟨-, z⟩; omega)]
            · rw [if_neg (fun z => hh z.1), if_neg (fun z => hh z.1)]
        refine ⟨rgI (by omega) (by omega), fun c1 => ⟨fun c2 => fun g5 e5 => nxt g5 _ ?_ e5, fun c2 => fun g5 e5 => nxt g5 _ ?_ e5⟩, fun c1 => ⟨rgI (by omega) (by omega), fun c2 => fun g5 e5 => nxt g5 _ ?_ e5, fun c2 => fun g5 e5 => nxt g5 _ ?_ e5⟩⟩
        · rw [if_neg]; rintro ⟨z, -⟩; rw [if_pos z] at h6; omega
        · rw [if_pos]
          refine ⟨?_, Or.inl (by omega)⟩
          rcases Classical.em M with z | z
          · exact z
          · rw [if_neg z] at h6; exact absurd h6 c2
        · rw [if_neg]; rintro ⟨z, -⟩; rw [if_pos z] at h6; omega
        · have hM : M := by
            rcases Classical.em M with z | z
            · exact z
            · rw [if_neg z] at h6; exact absurd h6 c2
          by_cases c3 : ((plc w st k : Nat) : Int) = v7 + 1
          · rw [b01_f (fun z => z c3), if_pos ⟨hM, Or.inr (by omega)⟩]
          · rw [b01_t c3, if_neg (by rintro ⟨-, z | z⟩ <;> omega)]
      · rw [hrk] at c
        refine ih (k + 1) _ g (by omega) (by omega) (by omega) (by omega) (fun s => ?_) hfr
        rw [hb1]
        by_cases hh : hb w st p s
        · have h9 := hb_plc hh
          have hne : sbW w st s ≠ k := fun z => by rw [z] at h9; omega
          by_cases hl : sbW w st s < k
          · rw [if_pos (show hb w st p s ∧ sbW w st s < k from ⟨hh, hl⟩), if_pos (show hb w st p s ∧ sbW w st s < k + 1 from ⟨hh, by omega⟩)]
          · rw [if_neg (fun z => hl z.2), if_neg (by rintro ⟨-, z⟩; omega)]
        · rw [if_neg (fun z => hh z.1), if_neg (fun z => hh z.1)]
    · have hk : k = e := by omega
      subst hk
      exact b84_27 ho ⟨fun c => absurd c (by omega), fun _ g2 e2 => fin g g2 hb1 hfr e2⟩
theorem giveBeats_ok {Q : GG → FF → Prop} (ho : o = 21 ∨ o = 29) {p e z k : Nat} {m v2 v3 v4 : Int} (hpe : p < e) (hez : e ≤ p + z) (he : p + z ≤ 60) (h2 : v2 = k) (h3 : v3 = e) (h4 : v4 = w 7) (hk : k < 30) (hm1 : -1 ≤ m) (hF : g 14 k = p) (hz : g 15 k = z) (hm : g 16 k = m) (hr : ∀ s, p ≤ s → s < e → g (o + 1) s = stW mo w p e s) (hr2 : ∀ s, 0 < stW mo w p e s → g (o + 2) s = plc w (stW mo w p e) s) (hmo : ∀ s, p ≤ s → s < e → g 20 s = mo s) (h0 : ∀ s, p ≤ s → s < p + z → g (o + 4) s = 0)
    (h : ∀ g' : GG, (∀ s, p ≤ s → s < p + z → g' (o + 4) s = btW mo w p e m z s) → (∀ a i, ¬ (a = o + 4 ∧ p ≤ i ∧ i < p + z) → g' a i = g a i) → Q g' fl) : cV E 84 [amR o, amR 11, amI v2, amI v3, amI v4] g fl Q := by
  have hf := stW_fs (mo := mo) (w := w) hpe
  obtain ⟨mn, hmn, hm2, hm3⟩ := mainW_in (mo := mo) (w := w) (m := m) hpe hez hm1
  have e14 : rd g 14 30 v2 = p := by rw [rd_in h2 hk]; exact hF
  have fin : ∀ g' : GG, (∀ s, g' (o + 4) s = if s = mn then 2 else if hb w (stW mo w p e) p s then (if isMk m z ∧ ((s : Int) = mainW mo w p e m z - 1 ∨ (s : Int) = mainW mo w p e m z + 1) then 0 else 1) else g (o + 4) s) → (∀ a i, a ≠ o + 4 → g' a i = g a i) → Q g' fl := by
    intro g' q1 q2
    refine h g' (fun s z1 z2 => ?_) (fun a i z1 => ?_)
    · rw [q1]
      unfold btW
      by_cases c : s = mn
      · rw [if_pos c, if_pos (show (s : Int) = mainW mo w p e m z by omega)]
      · rw [if_neg c, if_neg (show ¬ (s : Int) = mainW mo w p e m z by omega)]
        by_cases c2 : hb w (stW mo w p e) p s
        · rw [if_pos c2]
          by_cases c3 : isMk m z ∧ ((s : Int) = mainW mo w p e m z - 1 ∨ (s : Int) = mainW mo w p e m z + 1)
          · rw [if_pos c3, if_neg (fun y => y.2 c3)]
          · rw [if_neg c3, if_pos ⟨c2, c3⟩]
        · rw [if_neg c2, if_neg (fun y => c2 y.1)]; exact h0 s z1 z2
    · by_cases ha : a = o + 4
      · subst ha
        rw [q1, if_neg (by omega), if_neg]
        intro y
        have := hb_in hf y
        omega
      · exact q2 a i ha
  have go : ∀ (x v7 : Int), x = (if isMk m z then 1 else 0) → v7 = mainW mo w p e m z → am_X E 84 (27, (0, 0), [some (amR o), some (amR 11), some (amI v2), some (amI v3), some (amI v4), some (amI (rd g 14 30 v2)), some (amI x), some (amI v7), some (amI (rd g 14 30 v2)), none, none], [], mk g fl) (RV Q) := by
    intro x v7 hx h7
    refine giveBeats_loop (st := stW mo w p e) (p := p) (e := e) (g0 := g) (main := mainW mo w p e m z) (M := isMk m z) ho hf (by omega) h3 hx h7 hmn (by omega) hr hr2 fin 60 p _ g (by omega) (by omega) (by omega) e14 (fun s => ?_) (fun _ _ _ => rfl)
    rw [if_neg]
    rintro ⟨z1, z2⟩
    have z3 := hb_plc z1
    have z4 := hf.inn _ z3.1
    omega
  refine b84 ho (isMarked_ok h2 hk hm hz ⟨fun c => ?_, fun c => ⟨?_, ?_⟩⟩)
  · have hM : ¬ isMk m z := fun y => by rw [if_pos y] at c; omega
    refine mainOfFeet_ok (mo := mo) (w := w) ho hf (by omega) (by omega) e14 h3 h4 hr hr2 hmo (go _ _ rfl ?_)
    unfold mainW; rw [if_neg hM]
  · have hM : isMk m z := by
      rcases Classical.em (isMk m z) with y | y
      · exact y
      · rw [if_neg y] at c; exact absurd rfl c
    rw [e14, rd_in h2 hk, hm]
    exact rgI (by omega) (by have := hM.2; omega)
  · have hM : isMk m z := by
      rcases Classical.em (isMk m z) with y | y
      · exact y
      · rw [if_neg y] at c; exact absurd rfl c
    refine go _ _ rfl ?_
    unfold mainW
    rw [if_pos hM, e14, rd_in h2 hk, hm]
end STRC
