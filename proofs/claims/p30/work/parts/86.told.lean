/-! the law's told: a text without a flaw, ways in range -/
def SC (t : Nat → Int) (m : Nat) (v : Bool) : Prop := (∀ i, i < m → 0 ≤ t i ∧ t i ≤ 255) ∧ ∀ (b' : Nat → Int) (N : Nat), m ≤ N → (∀ i, i < m → b' i = t i) → flF b' N N 0 false = flF b' N (N - m) m v
theorem SC.zero {t : Nat → Int} : SC t 0 false := ⟨fun i h => by omega, fun b' N _ _ => rfl⟩
theorem SC.pos {t : Nat → Int} {m : Nat} (h : SC t m true) : 0 < m := by
  rcases Nat.eq_zero_or_pos m with z | z
  · subst z
    have h1 := h.2 (fun _ => 0) 0 (Nat.le_refl _) (fun i hi => by omega)
    have e1 : flF (fun _ => 0) 0 0 0 false = 0 := rfl
    have e2 : flF (fun _ => 0) 0 (0 - 0) 0 true = -1 := rfl
    omega
  · exact z
theorem SC.letter {t t' : Nat → Int} {m : Nat} {v : Bool} {x : Int} (h : SC t m v) (hx : 97 ≤ x ∧ x ≤ 122) (h1 : ∀ i, i < m → t' i = t i) (h2 : t' m = x) : SC t' (m + 1) (v || decide (isV x)) := by
  refine ⟨fun i hi => ?_, fun b' N hN hb => ?_⟩
  · by_cases c : i = m
    · rw [c, h2]; omega
    · rw [h1 i (by omega)]; exact h.1 i (by omega)
  · rw [h.2 b' N (by omega) (fun i hi => by rw [hb i (by omega), h1 i hi])]
    obtain ⟨f, hf⟩ : ∃ f, N - m = f + 1 := ⟨N - m - 1, by omega⟩
    rw [hf, show N - (m + 1) = f by omega]
    have e : b' m = x := by rw [hb m (by omega), h2]
    show (if b' m = 32 then _ else if 97 ≤ b' m ∧ b' m ≤ 122 then _ else _ : Int) = _
    rw [e, if_neg (by omega), if_pos hx]
theorem SC.blank {t t' : Nat → Int} {m : Nat} (h : SC t m true) (h1 : ∀ i, i < m → t' i = t i) (h2 : t' m = 32) : SC t' (m + 1) false := by
  refine ⟨fun i hi => ?_, fun b' N hN hb => ?_⟩
  · by_cases c : i = m
    · rw [c, h2]; omega
    · rw [h1 i (by omega)]; exact h.1 i (by omega)
  · rw [h.2 b' N (by omega) (fun i hi => by rw [hb i (by omega), h1 i hi])]
    obtain ⟨f, hf⟩ : ∃ f, N - m = f + 1 := ⟨N - m - 1, by omega⟩
    rw [hf, show N - (m + 1) = f by omega]
    have e : b' m = 32 := by rw [hb m (by omega), h2]
    show (if b' m = 32 then (if true = true then _ else _) else _ : Int) = _
    rw [if_pos e, if_pos rfl]
theorem SC.flaw {t b' : Nat → Int} {m : Nat} (h : SC t m true) (hb : ∀ i, i < m → b' i = t i) : flaw b' m = -1 := by
  have h1 := h.2 b' m (Nat.le_refl _) hb
  rw [Nat.sub_self] at h1
  exact h1
section TOLD
variable {E : am_E} {g g0 : GG} {fl : FF} {Q : Int → GG → FF → Prop}
theorem low5 {v : Int} : 0 ≤ lowI v 5 ∧ lowI v 5 < 5 := lowI_in (by decide)
theorem low20 {v : Int} : 0 ≤ lowI v 20 ∧ lowI v 20 < 20 := lowI_in (by decide)
/-- the bytes of the text, one by one -/
theorem told_text (hO : am_EO E) (hk : ∀ (m : Nat) (g : GG) (v8 v9 : Int), 0 < m → m ≤ 55 → SC (g 49) m true → (∀ a, a ≠ 49 → g a = g0 a) → am_X E 103 (141, (0, 0), [some (amR 0), some (amR 1002), some (amI 0), some (amI 54), some (amR 49), some (amR 50), some (amI m), some (amI 1), some (amI v8), some (amI v9), none, none, none, none], [], mk g fl) (RI Q)) :
    ∀ (f k m : Nat) (v6 v8 v9 : Int) (vb : Bool) (g : GG), k + f = 54 → m ≤ k → v6 = m → v8 = bI vb → v9 = k → SC (g 49) m vb → (∀ a, a ≠ 49 → g a = g0 a) → am_X E 103 (8, (0, 0), [some (amR 0), some (amR 1002), some (amI 0), some (amI 54), some (amR 49), some (amR 50), some (amI v6), some (amI 1), some (amI v8), some (amI v9), none, none, none, none], [], mk g fl) (RI Q) := by
  intro f
  induction f with
  | zero =>
    intro k m v6 v8 v9 vb g hkf hmk h6 h8 h9 hsc hfr
    refine b103_8 hO ⟨fun c => absurd c (by omega), fun _ => ⟨fun c8 => ⟨fun _ => ⟨by omega, fun g4 e4 => ⟨rgI (by omega) (by omega), ?_⟩⟩, fun c => absurd (by omega) c⟩, fun c8 => ?_⟩⟩
    · rw [toNat_eq h6] at e4
      rw [h6]
      refine hk (m + 1) g4 v8 v9 (by omega) (by omega) ?_ (fun a ha => by rw [e4, up_cell ha]; exact hfr a ha)
      have := hsc.letter (t' := g4 49) (x := 97) ⟨by decide, by decide⟩ (fun i hi => by rw [e4, up_row (by omega)]) (by rw [e4, up_at])
      rwa [show decide (isV 97) = true from rfl, Bool.or_true] at this
    · have hvb : vb = true := by
        cases vb
        · exact absurd h8 (by rw [show bI false = 0 from rfl]; exact c8)
        · rfl
      subst hvb
      rw [h6]
      exact hk m g v8 v9 hsc.pos (by omega) hsc hfr
  | succ f ih =>
    intro k m v6 v8 v9 vb g hkf hmk h6 h8 h9 hsc hfr
    -- from a byte that is chosen, on
    have next : ∀ (m' : Nat) (v6' v8' v10 v11 v12 v13 : Int) (vb' : Bool) (g' : GG), m' ≤ k + 1 → v6' = m' → v8' = bI vb' → SC (g' 49) m' vb' → (∀ a, a ≠ 49 → g' a = g0 a) → am_X E 103 (129, (0, 0), [some (amR 0), some (amR 1002), some (amI 0), some (amI 54), some (amR 49), some (amR 50), some (amI v6'), some (amI 1), some (amI v8'), some (amI v9), some (amI v10), some (amI v11), some (amI v12), some (amI v13)], [], mk g' fl) (RI Q) :=
      fun m' v6' v8' v10 v11 v12 v13 vb' g' q1 q2 q3 q4 q5 => b103_129 hO ⟨rgI (by omega) (by omega), ih (k + 1) m' _ _ _ vb' g' (by omega) q1 q2 q3 (by omega) q4 q5⟩
    have byte : ∀ (v10 v11 v12 : Int), ((97 ≤ v12 ∧ v12 ≤ 122) ∨ v12 = 32) → am_X E 103 (97, (0, 0), [some (amR 0), some (amR 1002), some (amI 0), some (amI 54), some (amR 49), some (amR 50), some (amI v6), some (amI 1), some (amI v8), some (amI v9), some (amI v10), some (amI v11), some (amI v12), none], [], mk g fl) (RI Q) := by
      intro v10 v11 v12 h12
      refine b103_97 hO (b103_104 hO ⟨fun c13 => ?_, fun c13 => ⟨fun c8 => next m _ _ _ _ _ _ vb g (by omega) h6 h8 hsc hfr, fun c8 => ⟨rgI (by omega) (by omega), fun c => ?_, fun c => next m _ _ _ _ _ _ vb g (by omega) h6 h8 hsc hfr⟩⟩⟩)
      · have hl : ¬ v12 = 32 := fun z => by rw [b01_t z] at c13; omega
        have hx : 97 ≤ v12 ∧ v12 ≤ 122 := by omega
        refine b103_113 hO ⟨by omega, fun g1 e1 => ⟨rgI (by omega) (by omega), b103_118 hO ⟨fun _ => ?_, fun c => absurd c13 c⟩⟩⟩
        rw [toNat_eq h6] at e1
        have hs := hsc.letter (t' := g1 49) hx (fun i hi => by rw [e1, up_row (by omega)]) (by rw [e1, up_at])
        have hf1 : ∀ a, a ≠ 49 → g1 a = g0 a := fun a ha => by rw [e1, up_cell ha]; exact hfr a ha
        refine ⟨fun c8 => ?_, fun c8 => ?_⟩
        · have hvb : vb = false := by
            cases vb
            · rfl
            · rw [show bI true = 1 from rfl] at h8; omega
          rw [hvb, Bool.false_or] at hs
          refine next (m + 1) _ _ _ _ _ _ _ g1 (by omega) (by omega) ?_ hs hf1
          by_cases y : isV v12
          · rw [b01_t y, decide_eq_true y]; rfl
          · rw [b01_f y, decide_eq_false y]; rfl
        · have hvb : vb = true := by
            cases vb
            · rw [show bI false = 0 from rfl] at h8; omega
            · rfl
          rw [hvb, Bool.true_or] at hs
          exact next (m + 1) _ _ _ _ _ _ true g1 (by omega) (by omega) rfl hs hf1
      · have hx : v12 = 32 := by
          rcases Classical.em (v12 = 32) with z | z
          · exact z
          · rw [b01_f z] at c13; omega
        have hvb : vb = true := by
          cases vb
          · rw [show bI false = 0 from rfl] at h8; omega
          · rfl
        rw [hvb] at hsc
        refine b103_113 hO ⟨by omega, fun g1 e1 => ⟨rgI (by omega) (by omega), b103_118 hO ⟨fun c => absurd c c13, fun _ => ?_⟩⟩⟩
        rw [toNat_eq h6] at e1
        have hs := hsc.blank (t' := g1 49) (fun i hi => by rw [e1, up_row (by omega)]) (by rw [e1, up_at]; exact hx)
        exact next (m + 1) _ _ _ _ _ _ false g1 (by omega) (by omega) rfl hs (fun a ha => by rw [e1, up_cell ha]; exact hfr a ha)
    have pick : ∀ (v10 v11 v12 : Int), (v11 < 4 ∨ (97 ≤ v12 ∧ v12 ≤ 122) ∨ v12 = 32) → am_X E 103 (55, (0, 0), [some (amR 0), some (amR 1002), some (amI 0), some (amI 54), some (amR 49), some (amR 50), some (amI v6), some (amI 1), some (amI v8), some (amI v9), some (amI v10), some (amI v11), some (amI v12), none], [], mk g fl) (RI Q) := by
      intro v10 v11 v12 h12
      refine b103_55 hO ⟨fun _ => ⟨fun _ => byte _ _ _ (by omega), fun _ => ⟨fun _ => byte _ _ _ (by omega), fun _ => ⟨fun _ => byte _ _ _ (by omega), fun _ => byte _ _ _ ?_⟩⟩⟩, fun c => byte _ _ _ (by omega)⟩
      left; split <;> omega
    have q1 : 0 ≤ v9 / 3 ∧ v9 / 3 ≤ 18 := by omega
    have q2 : 0 ≤ v9 % 3 ∧ v9 % 3 ≤ 2 := by omega
    refine b103_8 hO ⟨fun _ => ⟨by omega, rgI (by omega) (by omega), by omega, rgI (by omega) (by omega), fun c => ?_, fun c => ⟨fun c2 => ?_, fun c2 => pick _ _ _ (by omega)⟩⟩, fun c => absurd (by omega) c⟩
    · have := low5 (v := am_shr (am_shr (cellE E (0 + v9 / 3)) (10 * (v9 % 3))) 3)
      exact ⟨rgI (by omega) (by omega), rgI (by omega) (by omega), pick _ _ _ (Or.inl c)⟩
    · have := low20 (v := am_shr (am_shr (cellE E (0 + v9 / 3)) (10 * (v9 % 3))) 3)
      exact ⟨rgI (by omega) (by omega), pick _ _ _ (by omega)⟩
/-- the ways, one by one -/
theorem told_ways (hE : EW E) (hO : am_EO E) {b : Nat → Int} {m : Nat} {T : Nat → List Int} {P : Nat → Int} {mk1 td : Nat → Int} {v6 v8 v9 : Int} (hq : ∀ (g : GG) (w : Nat → Int), LI b m w mk1 td 0 T P w g → Q 1 g fl) :
    ∀ (f k : Nat) (v10 : Int) (w w0 : Nat → Int) (g : GG), k + f = 9 → v10 = k → LI b m w mk1 td 0 T P w0 g → (∀ i, i < 9 → k ≤ i → w i = loW i) → (∀ i, i < k → w i = w0 i) → am_X E 103 (175, (0, 0), [some (amR 0), some (amR 1002), some (amI 0), some (amI 54), some (amR 49), some (amR 50), some (amI v6), some (amI 1), some (amI v8), some (amI v9), some (amI v10), none, none, none], [], mk g fl) (RI Q) := by
  intro f
  induction f with
  | zero =>
    intro k v10 w w0 g hk h10 H h1 h2
    refine b103_175 hO ⟨fun c => absurd c (by omega), fun _ => hq g w (LI.of ⟨H.1, H.2.1, H.2.2.1, fun i hi => by rw [H.2.2.2 i hi, h2 i (by omega)]⟩)⟩
  | succ f ih =>
    intro k v10 w w0 g hk h10 H h1 h2
    have hlo : b01 (v10 = 1) = loW k := by
      unfold loW
      by_cases y : k = 1
      · rw [if_pos y, b01_t (by omega)]
      · rw [if_neg y, b01_f (by omega)]
    have hlo2 : 0 ≤ loW k ∧ loW k ≤ 1 := by unfold loW; split <;> omega
    have way : ∀ v12 : Int, 0 < v12 → v12 ≤ 4 → loW k + v12 - 1 = hiW k → am_X E 103 (207, (0, 0), [some (amR 0), some (amR 1002), some (amI 0), some (amI 54), some (amR 49), some (amR 50), some (amI v6), some (amI 1), some (amI v8), some (amI v9), some (amI v10), some (amI (b01 (v10 = 1))), some (amI v12), none], [], mk g fl) (RI Q) := by
      intro v12 z1 z2 z3
      rw [hlo]
      have hl := lowI_in (v := am_shr v9 (3 * v10)) z1
      refine b103_207 hO ⟨rgI (by omega) (by omega), z1, rgI (by omega) (by omega), by omega, fun g1 e1 => ?_⟩
      rw [toNat_eq h10] at e1
      have ev : g1 50 (Int.toNat v10) = loW k + lowI (am_shr v9 (3 * v10)) v12 := by rw [toNat_eq h10, e1, up_at]
      rw [ev]
      have H1 : LI b m w mk1 td 0 T P (fun i => if i = k then loW k + lowI (am_shr v9 (3 * v10)) v12 else w0 i) g1 := by
        refine LI.of ⟨H.1.keep (fun a i z _ => by rw [e1, up_cell (by omega)]), fun i hi => by rw [e1, up_cell (by omega)]; exact H.2.1 i hi, by rw [e1, up_cell (by omega)]; exact H.2.2.1, fun i hi => ?_⟩
        show g1 50 i = if i = k then _ else _
        by_cases y : i = k
        · rw [if_pos y, y, e1, up_at]
        · rw [if_neg y, e1, up_row y]; exact H.2.2.2 i hi
      refine way_ok hE H1 h10 (by omega) (by omega) (by omega) (fun g2 H2 => ⟨h1 k (by omega) (Nat.le_refl _), rgI (by omega) (by omega), ih (k + 1) _ _ _ g2 (by omega) (by omega) H2 (fun i hi z => ?_) (fun i hi => ?_)⟩)
      · show (if i = k then _ else w i) = loW i
        rw [if_neg (by omega)]; exact h1 i hi (by omega)
      · show (if i = k then _ else w i) = (if i = k then _ else w0 i)
        by_cases y : i = k
        · rw [if_pos y, if_pos y]
        · rw [if_neg y, if_neg y]; exact h2 i (by omega)
    refine b103_175 hO ⟨fun _ => b103_187 hO ⟨fun c => way 2 (by omega) (by omega) ?_, fun c0 => ⟨fun c => way 2 (by omega) (by omega) ?_, fun c1 => ⟨fun c => way 2 (by omega) (by omega) ?_, fun c5 => ⟨fun c => way 2 (by omega) (by omega) ?_, fun c6 => way _ ?_ ?_ ?_⟩⟩⟩⟩, fun c => absurd (by omega) c⟩
    · rw [show k = 0 by omega]; rfl
    · rw [show k = 1 by omega]; rfl
    · rw [show k = 5 by omega]; rfl
    · rw [show k = 6 by omega]; rfl
    · split <;> omega
    · split <;> omega
    · unfold loW hiW
      rw [if_neg (show ¬ k = 1 by omega), if_neg (show ¬ (k = 0 ∨ k = 5 ∨ k = 6) by omega)]
      by_cases y : k = 8
      · rw [if_pos (show v10 = 8 by omega), if_pos y]; rfl
      · rw [if_neg (show ¬ v10 = 8 by omega), if_neg y]; rfl
theorem told_ok (hE : EW E) (hO : am_EO E) {b : Nat → Int} {w mk1 td w0 : Nat → Int} {T : Nat → List Int} {P : Nat → Int} (H : LI b 0 w mk1 td 0 T P w0 g) (hlw : ∀ i, i < 9 → w i = loW i)
    (h : ∀ (g' : GG) (b : Nat → Int) (n : Nat) (w mk1 td : Nat → Int), 0 < n → n ≤ 55 → flaw b n = -1 → LI b n w mk1 td 0 T P w g' → Q 1 g' fl) : cI E 103 [amR 0, amR 1002, amI 0, amI 54, amR 49, amR 50] g fl Q := by
  refine b103 hO (told_text (g0 := g) hO (fun m g1 v8 v9 hm0 hm hsc hfr => b103_141 hO (fun g2 e2 => ?_)) 54 0 0 0 0 0 false g (by omega) (by omega) rfl rfl rfl SC.zero (fun _ _ => rfl))
  have hf2 : ∀ a, a ≠ 49 → g2 a = g a := fun a ha => by rw [e2, up_cell ha]; exact hfr a ha
  have t2 : ∀ i, i < m → g2 49 i = g1 49 i := fun i hi => by rw [e2, up_row (by omega)]
  have n2 : g2 49 60 = m := by rw [e2, up_at]
  have R2 : RC b 0 w mk1 td 0 T P g2 := H.1.keep (fun a i z _ => by rw [hf2 a (by omega)])
  have key : ∀ (f k : Nat) (v9 : Int) (b : Nat → Int) (mk1 td : Nat → Int) (g3 : GG), k + f = m → v9 = k → RC b k w mk1 td 0 T P g3 → (∀ i, i < k → b i = g1 49 i) → g3 49 = g2 49 → g3 50 = g2 50 → am_X E 103 (147, (0, 0), [some (amR 0), some (amR 1002), some (amI 0), some (amI 54), some (amR 49), some (amR 50), some (amI m), some (amI 1), some (amI v8), some (amI v9), none, none, none, none], [], mk g3 fl) (RI Q) := by
    intro f
    induction f with
    | zero =>
      intro k v9 b mk1 td g3 hk h9 R hb e49 e50
      have : k = m := by omega
      subst this
      refine b103_147 hO ⟨fun c => absurd c (by omega), fun _ => ⟨rgI (by omega) (by omega), by omega, ?_⟩⟩
      refine told_ways hE hO (b := b) (m := k) (T := T) (P := P) (mk1 := mk1) (td := td) (fun g4 w4 H4 => h g4 b k w4 mk1 td hm0 hm (hsc.flaw hb) H4) 9 0 0 w w0 g3 (by omega) rfl (LI.of ⟨R, fun i hi => ?_, ?_, fun i hi => ?_⟩) (fun i hi _ => hlw i hi) (fun i hi => by omega)
      · rw [e49, t2 i hi, hb i hi]
      · rw [e49]; exact n2
      · rw [e50, hf2 50 (by omega)]; exact H.2.2.2 i hi
    | succ f ih =>
      intro k v9 b mk1 td g3 hk h9 R hb e49 e50
      have ev : g3 49 (Int.toNat v9) = g1 49 k := by rw [toNat_eq h9, e49, t2 k (by omega)]
      refine b103_147 hO ⟨fun _ => ⟨by omega, ?_⟩, fun c => absurd (by omega) c⟩
      rw [ev]
      refine type_ok R (by omega) (hsc.1 k (by omega)) (fun g4 td4 R4 q1 q2 => ⟨rgI (by omega) (by omega), by omega, ih (k + 1) _ _ _ td4 g4 (by omega) (by omega) R4 (fun i hi => ?_) (by rw [q1]; exact e49) (by rw [q2]; exact e50)⟩)
      show (if i = k then _ else b i) = g1 49 i
      by_cases y : i = k
      · rw [if_pos y, y]
      · rw [if_neg y]; exact hb i (by omega)
  exact key m 0 0 b mk1 td g2 (by omega) rfl R2 (fun i hi => by omega) rfl rfl
end TOLD
