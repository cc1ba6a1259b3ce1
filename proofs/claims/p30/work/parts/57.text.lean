/-! the text with its beats: both -/
theorem tx_snoc {r : Nat → Int} {p l : Nat} : tx r p (l + 1) = tx r p l ++ [r (p + l)] := by simp [tx, List.range_succ]
theorem tx_len {r : Nat → Int} {p l : Nat} : (tx r p l).length = l := by simp [tx]
/-- row q of g begins with L -/
def HL (q : Nat) (L : List Int) (g : GG) : Prop := tx (g q) 0 L.length = L
theorem HL.push {q : Nat} {L : List Int} {g g' : GG} {x : Int} (h : HL q L g) (h1 : g' q L.length = x) (h2 : ∀ i, i < L.length → g' q i = g q i) : HL q (L ++ [x]) g' := by
  unfold HL
  rw [List.length_append, List.length_singleton, tx_snoc, Nat.zero_add, h1]
  congr 1
  rw [show tx (g' q) 0 L.length = tx (g q) 0 L.length from tx_eq.2 ⟨rfl, fun i hi => by rw [Nat.zero_add]; exact h2 i hi⟩]
  exact h
theorem HL.at {q : Nat} {L : List Int} {g : GG} (h : HL q L g) {i : Nat} (hi : i < L.length) : g q i = L.getD i 0 := by
  have h1 : (tx (g q) 0 L.length).getD i 0 = L.getD i 0 := by rw [show tx (g q) 0 L.length = L from h]
  rw [← h1]; simp [tx, hi]
theorem HL.keep {q : Nat} {L : List Int} {g g' : GG} (h : HL q L g) (hf : ∀ i, i < L.length → g' q i = g q i) : HL q L g' := by
  unfold HL at h ⊢
  rw [show tx (g' q) 0 L.length = tx (g q) 0 L.length from tx_eq.2 ⟨rfl, fun i hi => by rw [Nat.zero_add]; exact hf i hi⟩]
  exact h
def prS (b : Nat → Int) (n : Nat) (w : Nat → Int) (s : Nat) : List Int := if s = 0 then [] else if wo b n w s = wo b n w (s - 1) then [46] else [32]
def bmS (h : Nat → Int) (s : Nat) : List Int := if 0 < h s then [if h s = 2 then 39 else 44] else []
def txA (b : Nat → Int) (n : Nat) (w : Nat → Int) (h : Nat → Int) : Nat → List Int
  | 0 => []
  | s + 1 => txA b n w h s ++ prS b n w s ++ bmS h s ++ tx b (frS b n w s) (toS b n w s - frS b n w s)
theorem prS_len {b : Nat → Int} {n : Nat} {w : Nat → Int} {s : Nat} : (prS b n w s).length ≤ 1 := by
  unfold prS; split
  · exact Nat.zero_le _
  · split <;> exact Nat.le_refl _
theorem bmS_len {h : Nat → Int} {s : Nat} : (bmS h s).length ≤ 1 := by
  unfold bmS; split
  · exact Nat.le_refl _
  · exact Nat.zero_le _
section TEXT
variable {E : am_E} {g : GG} {fl : FF} {b : Nat → Int} {n : Nat} {w : Nat → Int} {mk' : Nat → Int} {h : Nat → Int} {N : Nat} {T : Nat → List Int} {P : Nat → Int}
theorem txA_len (hn : n ≤ 60) (hwo : waysOK w) : ∀ m, m ≤ Sn b n w → (txA b n w h m).length ≤ 2 * m + (if m = 0 then 0 else toS b n w (m - 1))
  | 0, _ => Nat.le_refl _
  | m + 1, hm => by
    have ih := txA_len hn hwo m (by omega)
    have h1 := mo_S hn hwo (b := b) (w := w) (s := m) (by omega)
    have h2 := prS_len (b := b) (n := n) (w := w) (s := m)
    have h3 := bmS_len (h := h) (s := m)
    unfold txA
    rw [List.length_append, List.length_append, List.length_append, tx_len, if_neg (by omega), Nat.add_sub_cancel]
    by_cases c : m = 0
    · rw [if_pos c] at ih; omega
    · rw [if_neg c] at ih
      have := sy_next (b := b) (w := w) hn (s := m - 1) (by omega)
      rw [show m - 1 + 1 = m by omega] at this
      omega
theorem txA_le (hn : n ≤ 60) (hwo : waysOK w) {m : Nat} (hm : m ≤ Sn b n w) : (txA b n w h m).length ≤ 180 := by
  have h1 := txA_len hn hwo (h := h) (b := b) m hm
  have hSl := Sn_le (b := b) (w := w) hn
  by_cases c : m = 0
  · rw [if_pos c] at h1; omega
  · rw [if_neg c] at h1
    have := mo_S hn hwo (b := b) (w := w) (s := m - 1) (by omega)
    omega
theorem wo_prev (hn : n ≤ 60) {s : Nat} (hs : s < Sn b n w) (h0 : 0 < s) : (wo b n w s = wo b n w (s - 1) ↔ fs b n w (wo b n w s) < s) ∧ (fs b n w (wo b n w s) = s → 0 < wo b n w s) := by
  have hWl := Wn_le (b := b) (n := n) hn
  obtain ⟨o1, o2, o3, o4, o5⟩ := wo_ok (w := w) hn hs
  obtain ⟨p1, p2, p3, p4, p5⟩ := wo_ok (b := b) (w := w) hn (s := s - 1) (by omega)
  refine ⟨⟨fun e => by rw [e]; omega, fun e => ?_⟩, fun e => ?_⟩
  · exact (wo_is (b := b) (n := n) (w := w) (s := s - 1) (k := wo b n w s) (by omega) (by omega) (by omega)).symm
  · rcases Nat.eq_zero_or_pos (wo b n w s) with c | c
    · rw [c] at e
      have : fs b n w 0 = 0 := rfl
      omega
    · exact c
theorem showByte_ok {Q : GG → FF → Prop} {L : List Int} {x : Int} (hl : L.length < 180) (hH : HL 5 L g) (hs : g 0 11 = (L.length : Nat)) (hq : ∀ g' : GG, HL 5 (L ++ [x]) g' → g' 0 11 = ((L ++ [x]).length : Nat) → (∀ a i, ¬ (a = 5) → ¬ (a = 0 ∧ i = 11) → g' a i = g a i) → Q g' fl) : cV E 38 [amR 0, amI x] g fl Q := by
  refine b38 (fun g1 e1 => ?_)
  rw [wr_in hs hl] at e1
  have f1 : g1 0 11 = g 0 11 := by rw [e1]; (simp (disch := omega) only [up_at, up_ne])
  refine ⟨rgI (by omega) (by omega), fun g2 e2 => hq g2 (hH.push ?_ (fun i hi => ?_)) ?_ (fun a i z1 z2 => ?_)⟩
  · rw [e2, e1]; (simp (disch := omega) only [up_at, up_ne])
  · rw [e2, e1]; (simp (disch := omega) only [up_at, up_ne])
  · rw [e2, f1, hs, List.length_append]; (simp (disch := omega) only [up_at, up_ne]); rfl
  · rw [e2, e1]; (simp (disch := omega) only [up_at, up_ne])
theorem tx_back {r : Nat → Int} {p l : Nat} {L : List Int} : L ++ tx r p l ++ [r (p + l)] = L ++ tx r p (l + 1) := by rw [tx_snoc, List.append_assoc]
/-- the component's show -/
theorem show_ok {Q : GG → FF → Prop} (hn : n ≤ 60) (hwo : waysOK w) (hb : b = nz (g 1) n) (hC : CC b n w g) (hh : ∀ s, s < Sn b n w → g 26 s = h s)
    (hq : ∀ g' : GG, HL 5 (txA b n w h (Sn b n w)) g' → g' 0 11 = ((txA b n w h (Sn b n w)).length : Nat) → (∀ a i, ¬ (a = 5) → ¬ (a = 0 ∧ i = 11) → g' a i = g a i) → Q g' fl) : cV E 37 [amR 0] g fl Q := by
  have hWl := Wn_le (b := b) (n := n) hn
  have hSl := Sn_le (b := b) (w := w) hn
  have hbx : ∀ i, i < n → g 1 i = b i := fun i hi => by rw [hb, nz_in hi]
  have key : ∀ (f s : Nat) (v1 : Int) (g1 : GG), s + f = Sn b n w → v1 = s → HL 5 (txA b n w h s) g1 → g1 0 11 = ((txA b n w h s).length : Nat) → (∀ a i, ¬ (a = 5) → ¬ (a = 0 ∧ i = 11) → g1 a i = g a i) → am_X E 37 (5, (0, 0), [some (amR 0), some (amI v1), none, none, none], [], mk g1 fl) (RV Q) := by
    intro f
    induction f with
    | zero =>
      intro s v1 g1 hs h1 hH hl hfr
      have : s = Sn b n w := by omega
      subst this
      have hS : g1 11 11 = Sn b n w := by rw [hfr _ _ (by omega) (by omega)]; exact hC.S
      exact b37_5 ⟨fun c => absurd c (by omega), fun _ => hq g1 hH hl hfr⟩
    | succ f ih =>
      intro s v1 g1 hs h1 hH hl hfr
      have hsS : s < Sn b n w := by omega
      have hlen := txA_le hn hwo (h := h) (b := b) (m := s + 1) (by omega)
      have hlen' : (txA b n w h (s + 1)).length = (txA b n w h s).length + (prS b n w s).length + (bmS h s).length + (toS b n w s - frS b n w s) := by
        show (txA b n w h s ++ prS b n w s ++ bmS h s ++ tx b (frS b n w s) (toS b n w s - frS b n w s)).length = _
        rw [List.length_append, List.length_append, List.length_append, tx_len]
      have hm := mo_S hn hwo (b := b) (w := w) hsS
      obtain ⟨o1, o2, o3, o4, o5⟩ := wo_ok (w := w) hn hsS
      have hS : g1 11 11 = Sn b n w := by rw [hfr _ _ (by omega) (by omega)]; exact hC.S
      have e17 : rd g1 17 60 v1 = wo b n w s := by rw [rd_in h1 (by omega), hfr _ _ (by omega) (by omega)]; exact hC.sW s hsS
      have e14 : rd g1 14 30 (rd g1 17 60 v1) = fs b n w (wo b n w s) := by rw [e17, rd_in rfl (by omega), hfr _ _ (by omega) (by omega)]; exact hC.wF _ o1
      -- the bytes
      have bytes : ∀ (v2 v3 : Int) (f2 j : Nat) (v4 : Int) (g2 : GG), j + f2 = toS b n w s - frS b n w s → v4 = (frS b n w s + j : Nat) → HL 5 (txA b n w h s ++ prS b n w s ++ bmS h s ++ tx b (frS b n w s) j) g2 → g2 0 11 = ((txA b n w h s ++ prS b n w s ++ bmS h s ++ tx b (frS b n w s) j).length : Nat) → (∀ a i, ¬ (a = 5) → ¬ (a = 0 ∧ i = 11) → g2 a i = g a i) → am_X E 37 (54, (0, 0), [some (amR 0), some (amI v1), some (amI v2), some (amI v3), some (amI v4)], [], mk g2 fl) (RV Q) := by
        intro v2 v3 f2
        induction f2 with
        | zero =>
          intro j v4 g2 hj h4 hH2 hl2 hf2
          have : j = toS b n w s - frS b n w s := by omega
          subst this
          have e19 : rd g2 19 60 v1 = toS b n w s := by rw [rd_in h1 (by omega), hf2 _ _ (by omega) (by omega)]; exact hC.sE s hsS
          exact b37_54 ⟨fun c => absurd c (by omega), fun _ => ⟨rgI (by omega) (by omega), ih (s + 1) _ g2 (by omega) (by omega) hH2 hl2 hf2⟩⟩
        | succ f2 ih2 =>
          intro j v4 g2 hj h4 hH2 hl2 hf2
          have e19 : rd g2 19 60 v1 = toS b n w s := by rw [rd_in h1 (by omega), hf2 _ _ (by omega) (by omega)]; exact hC.sE s hsS
          have e1 : rd g2 1 60 v4 = b (frS b n w s + j) := by rw [rd_in h4 (by omega), hf2 _ _ (by omega) (by omega), hbx _ (by omega)]
          have hll : (txA b n w h s ++ prS b n w s ++ bmS h s ++ tx b (frS b n w s) j).length = (txA b n w h s).length + (prS b n w s).length + (bmS h s).length + j := by
            rw [List.length_append, List.length_append, List.length_append, tx_len]
          refine b37_54 ⟨fun _ => showByte_ok (by omega) hH2 hl2 (fun g3 q1 q2 q3 => ⟨rgI (by omega) (by omega), ?_⟩), fun c => absurd (by omega) c⟩
          rw [e1, tx_back] at q1 q2
          exact ih2 (j + 1) _ g3 (by omega) (by omega) q1 q2 (fun a i z1 z2 => by rw [q3 a i z1 z2]; exact hf2 a i z1 z2)
      -- the beat's mark
      have mark : ∀ (g2 : GG) (v2 : Int), HL 5 (txA b n w h s ++ prS b n w s) g2 → g2 0 11 = ((txA b n w h s ++ prS b n w s).length : Nat) → (∀ a i, ¬ (a = 5) → ¬ (a = 0 ∧ i = 11) → g2 a i = g a i) →
          (0 < (rd g2 26 60 v1) → cV E 38 [amR 0, amI (if (rd g2 26 60 v1) = 2 then (39 : Int) else 44)] g2 fl (fun g5 f5 => am_X E 37 (54, (0, 0), [some (amR 0), some (amI v1), some (amI v2), some (amI (rd g2 26 60 v1)), some (amI (rd g5 18 60 v1))], [], mk g5 f5) (RV Q))) ∧ (¬ (0 < (rd g2 26 60 v1)) → am_X E 37 (54, (0, 0), [some (amR 0), some (amI v1), some (amI v2), some (amI (rd g2 26 60 v1)), some (amI (rd g2 18 60 v1))], [], mk g2 fl) (RV Q)) := by
        intro g2 v2 hH2 hl2 hf2
        have e26 : rd g2 26 60 v1 = h s := by rw [rd_in h1 (by omega), hf2 _ _ (by omega) (by omega)]; exact hh s hsS
        have hll : (txA b n w h s ++ prS b n w s).length = (txA b n w h s).length + (prS b n w s).length := by rw [List.length_append]
        rw [e26]
        refine ⟨fun c => ?_, fun c => ?_⟩
        · have hbm : bmS h s = [if h s = 2 then 39 else 44] := by unfold bmS; rw [if_pos c]
          rw [hbm] at hlen' 
          rw [List.length_singleton] at hlen'
          refine showByte_ok (by omega) hH2 hl2 (fun g5 q1 q2 q3 => ?_)
          have f5 : ∀ a i, ¬ (a = 5) → ¬ (a = 0 ∧ i = 11) → g5 a i = g a i := fun a i z1 z2 => by rw [q3 a i z1 z2]; exact hf2 a i z1 z2
          have e18 : rd g5 18 60 v1 = frS b n w s := by rw [rd_in h1 (by omega), f5 _ _ (by omega) (by omega)]; exact hC.sS s hsS
          rw [e18]
          rw [← hbm] at q1 q2
          exact bytes _ _ (toS b n w s - frS b n w s) 0 _ g5 (by omega) rfl (by simpa [tx] using q1) (by simpa [tx] using q2) f5
        · have hbm : bmS h s = [] := by unfold bmS; rw [if_neg c]
          have e18 : rd g2 18 60 v1 = frS b n w s := by rw [rd_in h1 (by omega), hf2 _ _ (by omega) (by omega)]; exact hC.sS s hsS
          rw [e18]
          exact bytes _ _ (toS b n w s - frS b n w s) 0 _ g2 (by omega) rfl (by rw [hbm]; simpa [tx] using hH2) (by rw [hbm]; simpa [tx] using hl2) hf2
      refine b37_5 ⟨fun _ => ?_, fun c => absurd (by omega) c⟩
      rw [e14, e17]
      refine ⟨fun c => ?_, fun c => ⟨fun c2 => ?_, fun c2 => ?_⟩⟩
      · have hpr : prS b n w s = [46] := by
          unfold prS; rw [if_neg (by omega), if_pos ((wo_prev hn hsS (by omega)).1.2 (by omega))]
        have hl1 : (prS b n w s).length = 1 := by rw [hpr]; rfl
        refine showByte_ok (by omega) hH hl (fun g3 q1 q2 q3 => ?_)
        rw [← hpr] at q1 q2
        exact mark g3 _ q1 q2 (fun a i z1 z2 => by rw [q3 a i z1 z2]; exact hfr a i z1 z2)
      · have hs0 : 0 < s := by
          rcases Nat.eq_zero_or_pos s with y | y
          · have : fs b n w 0 = 0 := rfl
            have hz := (nc_word (w := w) hn (b := b) (k := 0) (by omega)).1
            have : wo b n w s = 0 := wo_is (by omega) (by omega) (by show s < fs b n w 0 + nc b n w 0; omega)
            omega
          · exact y
        have hpr : prS b n w s = [32] := by
          unfold prS; rw [if_neg (by omega), if_neg (fun y => by have := (wo_prev hn hsS hs0).1.1 y; omega)]
        have hl1 : (prS b n w s).length = 1 := by rw [hpr]; rfl
        refine showByte_ok (by omega) hH hl (fun g3 q1 q2 q3 => ?_)
        rw [← hpr] at q1 q2
        exact mark g3 _ q1 q2 (fun a i z1 z2 => by rw [q3 a i z1 z2]; exact hfr a i z1 z2)
      · have hs0 : s = 0 := by
          rcases Nat.eq_zero_or_pos s with y | y
          · exact y
          · have := (wo_prev hn hsS y).2 (by omega)
            omega
        have hpr : prS b n w s = [] := by unfold prS; rw [if_pos hs0]
        exact mark g1 _ (by rw [hpr, List.append_nil]; exact hH) (by rw [hpr, List.append_nil]; exact hl) hfr
  refine b37 (fun g1 e1 => key (Sn b n w) 0 0 g1 (by omega) rfl ?_ ?_ (fun a i z1 z2 => ?_))
  · rfl
  · rw [e1]; (simp (disch := omega) only [up_at, up_ne]); rfl
  · rw [e1]; (simp (disch := omega) only [up_at, up_ne])
end TEXT
