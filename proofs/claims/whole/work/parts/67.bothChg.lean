/-! both: the calls that change the text, the ways, what is told -/
section BCHG
variable {E : am_E} {g : GG} {fl : FF} {v1 v2 : Int}
theorem changed_ok {Q : GG → FF → Prop} (h : ∀ g' : GG, g' 0 15 = 1 → g' 0 16 = 1 → (∀ a i, ¬ (a = 0 ∧ (i = 15 ∨ i = 16)) → g' a i = g a i) → Q g' fl) : cV E 34 [amR 0] g fl Q :=
  b34 (fun g1 e1 g2 e2 => h g2 (by rw [e2, e1]; (simp (disch := omega) only [up_at, up_ne])) (by rw [e2]; (simp (disch := omega) only [up_at, up_ne])) (fun a i z => by rw [e2, e1]; (simp (disch := omega) only [up_at, up_ne])))
theorem textCh_ok {Q : GG → FF → Prop} (h : ∀ g' : GG, (∀ i, g' 4 i = if i < 60 then 0 else g 4 i) → g' 0 15 = 1 → g' 0 16 = 1 → (∀ a i, ¬ (a = 4) → ¬ (a = 0 ∧ (i = 15 ∨ i = 16)) → g' a i = g a i) → Q g' fl) : cV E 35 [amR 0] g fl Q := by
  have key : ∀ (f j : Nat) (v : Int) (g1 : GG), j + f = 60 → v = j → (∀ i, g1 4 i = if i < j then 0 else g 4 i) → (∀ a i, ¬ (a = 4) → g1 a i = g a i) → am_X E 35 (2, (0, 0), [some (amR 0), some (amI v)], [], mk g1 fl) (RV Q) := by
    intro f
    induction f with
    | zero =>
      intro j v g1 hj hv h4 hf
      have : j = 60 := by omega
      subst this
      refine b35_2 ⟨fun c => absurd c (by omega), fun _ => changed_ok (fun g2 q1 q2 q3 => h g2 (fun i => by rw [q3 _ _ (by omega)]; exact h4 i) q1 q2 (fun a i z1 z2 => by rw [q3 a i z2]; exact hf a i z1))⟩
    | succ f ih =>
      intro j v g1 hj hv h4 hf
      refine b35_2 ⟨fun _ g2 e2 => ⟨rgI (by omega) (by omega), ?_⟩, fun c => absurd (by omega) c⟩
      rw [wr_in hv (by omega)] at e2
      refine ih (j + 1) _ g2 (by omega) (by omega) (fun i => ?_) (fun a i z => by rw [e2]; (simp (disch := omega) only [up_at, up_ne]); exact hf a i z)
      rw [e2]
      by_cases c : i = j
      · rw [c]; (simp (disch := omega) only [up_at, up_ne]); rw [if_pos (by omega)]
      · (simp (disch := omega) only [up_at, up_ne]); rw [h4 i]
        by_cases c2 : i < j
        · rw [if_pos c2, if_pos (by omega)]
        · rw [if_neg c2, if_neg (by omega)]
  exact b35 (key 60 0 0 g (by omega) rfl (fun i => by rw [if_neg (by omega)]) (fun _ _ _ => rfl))
theorem forgets_ok {Q : GG → FF → Prop} (h : ∀ g' : GG, (∀ i, g' 52 i = if i < 60 then 0 else g 52 i) → (∀ a i, ¬ (a = 52) → g' a i = g a i) → Q g' fl) : cV E 98 [amR 49] g fl Q := by
  have key : ∀ (f j : Nat) (v : Int) (g1 : GG), j + f = 60 → v = j → (∀ i, g1 52 i = if i < j then 0 else g 52 i) → (∀ a i, ¬ (a = 52) → g1 a i = g a i) → am_X E 98 (2, (0, 0), [some (amR 49), some (amI v)], [], mk g1 fl) (RV Q) := by
    intro f
    induction f with
    | zero =>
      intro j v g1 hj hv h4 hf
      have : j = 60 := by omega
      subst this
      exact b98_2 ⟨fun c => absurd c (by omega), fun _ => h g1 h4 hf⟩
    | succ f ih =>
      intro j v g1 hj hv h4 hf
      refine b98_2 ⟨fun _ => ⟨by omega, fun g2 e2 => ⟨rgI (by omega) (by omega), ?_⟩⟩, fun c => absurd (by omega) c⟩
      rw [toNat_eq hv] at e2
      refine ih (j + 1) _ g2 (by omega) (by omega) (fun i => ?_) (fun a i z => by rw [e2]; (simp (disch := omega) only [up_at, up_ne]); exact hf a i z)
      rw [e2]
      by_cases c : i = j
      · rw [c]; (simp (disch := omega) only [up_at, up_ne]); rw [if_pos (by omega)]
      · (simp (disch := omega) only [up_at, up_ne]); rw [h4 i]
        by_cases c2 : i < j
        · rw [if_pos c2, if_pos (by omega)]
        · rw [if_neg c2, if_neg (by omega)]
  exact b98 (key 60 0 0 g (by omega) rfl (fun i => by rw [if_neg (by omega)]) (fun _ _ _ => rfl))
/-- behind a change of the text alone -/
theorem Rel.text {n : Nat} {g' : GG} {b0 : Nat → Int} {n0 : Nat} {w : Nat → Int} {mk1 : Nat → Int} {td : Nat → Int} {N : Nat} {T : Nat → List Int} {P : Nat → Int} {b' : Nat → Int} {mk' : Nat → Int} {T' : Nat → List Int} {P' : Nat → Int}
    (H : Bo b0 n0 w mk1 td N T P b' mk' T' P' g fl) (n60 : n ≤ 60) (gn : g' 0 10 = n) (gm : g' 49 1 = n) (h4 : ∀ i, g' 4 i = if i < 60 then 0 else g 4 i) (h52 : ∀ i, g' 52 i = if i < 60 then 0 else g 52 i) (s1 : g' 0 15 = 1) (s2 : g' 0 16 = 1) (br : ∀ i, i < n → bR (g' 1 i) (g' 50 i))
    (hf : ∀ a i, ¬ (a = 0 ∧ (i = 10 ∨ i = 15 ∨ i = 16)) → ¬ (a = 49 ∧ i = 1) → ¬ (a = 1) → ¬ (a = 4) → ¬ (a = 50) → ¬ (a = 52) → g' a i = g a i) : Rel g' fl := by
  have e2 : g' 2 = w := by rw [H.rc.ew]; exact funext fun i => hf _ _ (by omega) (by omega) (by omega) (by omega) (by omega) (by omega)
  have e51 : g' 51 = w := by rw [H.rm.ew]; exact funext fun i => hf _ _ (by omega) (by omega) (by omega) (by omega) (by omega) (by omega)
  refine Rel.new (T := T) (P := P) (T' := T') (P' := P') (N := N) n60 gn gm (by rw [e2]; exact H.rc.ok) (by rw [e2, e51]) (funext fun i => ?_) (H.rc.lx.keep (fun a i z => hf a i (by omega) (by omega) (by omega) (by omega) (by omega) (by omega))) H.rc.lt (H.rm.rb.lx.keep (fun a i z => hf a i (by omega) (by omega) (by omega) (by omega) (by omega) (by omega))) H.rm.rb.lt (fun i hi => ?_) s1 s2 br H.ls ?_ (fun s hs => (H.sh s hs).keep hs (fun a i z => hf a i (by omega) (by omega) (by omega) (by omega) (by omega) (by omega)) (fun _ _ _ => rfl))
  · rw [h4, h52, show g 52 i = g 4 i by rw [H.rm.et, H.rc.et]]
  · rw [e2, hf _ _ (by omega) (by omega) (by omega) (by omega) (by omega) (by omega)]; exact H.rc.w3 i hi
  · rw [hf _ _ (by omega) (by omega) (by omega) (by omega) (by omega) (by omega), hf _ _ (by omega) (by omega) (by omega) (by omega) (by omega) (by omega)]; exact H.fi
theorem al_type (h : Rel g fl) : AlI E 1 99 [amI v1] g fl := by
  obtain ⟨b, n, w, mk1, td, N, T, P, b', mk', T', P', H⟩ := h
  have hn := H.rc.n60
  have gn := H.rc.gn
  have gm := H.rm.rb.gn
  refine b1 ⟨fun c => ?_, fun c => ⟨fun c2 => ?_, fun c2 => ⟨fun c3 g4 e4 => ?_, fun c3 => ?_⟩⟩⟩
  · exact b99 ⟨fun y => absurd y (by omega), fun _ => ⟨rfl, H.rel⟩⟩
  · exact b99 ⟨fun y => absurd y (by omega), fun _ => ⟨rfl, H.rel⟩⟩
  · rw [wr_in gn (by omega)] at e4
    have f4 : g4 0 10 = n := by rw [e4]; (simp (disch := omega) only [up_at, up_ne]); exact gn
    refine ⟨rgI (by omega) (by omega), fun g5 e5 => textCh_ok (fun g6 q1 q2 q3 q4 => ?_)⟩
    rw [f4] at e5
    have f6 : ∀ a i, ¬ (a = 4) → ¬ (a = 0 ∧ (i = 10 ∨ i = 15 ∨ i = 16)) → ¬ (a = 1) → g6 a i = g a i := fun a i z1 z2 z3 => by rw [q4 a i z1 (by omega), e5, e4]; (simp (disch := omega) only [up_at, up_ne])
    have e6 : g6 0 10 = (n : Int) + 1 := by rw [q4 _ _ (by omega) (by omega), e5]; (simp (disch := omega) only [up_at, up_ne])
    have m6 : g6 49 1 = n := by rw [f6 _ _ (by omega) (by omega) (by omega)]; exact gm
    refine b99 ⟨fun _ => ⟨fun y => absurd y (by omega), fun _ => ⟨by omega, fun g7 e7 => ?_⟩⟩, fun y => absurd (by omega) y⟩
    rw [toNat_eq m6] at e7
    have m7 : g7 49 1 = n := by rw [e7]; (simp (disch := omega) only [up_at, up_ne]); exact m6
    refine ⟨rgI (by omega) (by omega), fun g8 e8 => forgets_ok (fun g9 r1 r2 => ?_)⟩
    rw [m7] at e8
    have m9 : g9 49 1 = (n : Int) + 1 := by rw [r2 _ _ (by omega), e8]; (simp (disch := omega) only [up_at, up_ne])
    have f9 : ∀ a i, ¬ (a = 52) → ¬ (a = 49 ∧ i = 1) → ¬ (a = 50) → g9 a i = g6 a i := fun a i z1 z2 z3 => by rw [r2 a i z1, e8, e7]; (simp (disch := omega) only [up_at, up_ne])
    refine ⟨by rw [e6, m9], Rel.text (n := n + 1) H (by omega) (by rw [f9 _ _ (by omega) (by omega) (by omega), e6]; omega) (by rw [m9]; omega) (fun i => ?_) (fun i => ?_) ?_ ?_ (fun i hi => ?_) (fun a i z1 z2 z3 z4 z5 z6 => by rw [f9 a i z6 z2 z5]; exact f6 a i z4 z1 z3)⟩
    · rw [f9 _ _ (by omega) (by omega) (by omega), q1, e5, e4]; (simp (disch := omega) only [up_at, up_ne])
    · rw [r1, e8, e7]; (simp (disch := omega) only [up_at, up_ne]); rw [f6 _ _ (by omega) (by omega) (by omega)]
    · rw [f9 _ _ (by omega) (by omega) (by omega)]; exact q2
    · rw [f9 _ _ (by omega) (by omega) (by omega)]; exact q3
    · have x1 : g9 1 i = if i = n then v1 else g 1 i := by
        rw [f9 _ _ (by omega) (by omega) (by omega), q4 _ _ (by omega) (by omega), e5, e4]
        by_cases y : i = n
        · rw [y, if_pos rfl]; (simp (disch := omega) only [up_at, up_ne])
        · rw [if_neg y]; (simp (disch := omega) only [up_at, up_ne])
      have x2 : g9 50 i = if i = n then v1 else g 50 i := by
        rw [r2 _ _ (by omega), e8, e7]
        by_cases y : i = n
        · rw [y, if_pos rfl]; (simp (disch := omega) only [up_at, up_ne])
        · rw [if_neg y]; (simp (disch := omega) only [up_at, up_ne]); exact f6 _ _ (by omega) (by omega) (by omega)
      rw [x1, x2]
      by_cases y : i = n
      · rw [if_pos y, if_pos y]; exact Or.inl rfl
      · rw [if_neg y, if_neg y]; exact H.br i (by omega)
  · exact b99 ⟨fun _ => ⟨fun _ => ⟨rfl, H.rel⟩, fun y => absurd (by omega) y⟩, fun y => absurd (by omega) y⟩
theorem al_wipe (h : Rel g fl) : AlI E 2 100 [] g fl := by
  obtain ⟨b, n, w, mk1, td, N, T, P, b', mk', T', P', H⟩ := h
  have gn := H.rc.gn
  have gm := H.rm.rb.gn
  refine b2 (fun g1 e1 => textCh_ok (fun g6 q1 q2 q3 q4 => b100 (fun g7 e7 => forgets_ok (fun g9 r1 r2 => ?_))))
  have f6 : ∀ a i, ¬ (a = 4) → ¬ (a = 0 ∧ (i = 10 ∨ i = 15 ∨ i = 16)) → g6 a i = g a i := fun a i z1 z2 => by rw [q4 a i z1 (by omega), e1]; (simp (disch := omega) only [up_at, up_ne])
  have f9 : ∀ a i, ¬ (a = 52) → ¬ (a = 49 ∧ i = 1) → g9 a i = g6 a i := fun a i z1 z2 => by rw [r2 a i z1, e7]; (simp (disch := omega) only [up_at, up_ne])
  refine ⟨by rw [gn, f6 _ _ (by omega) (by omega), gm], Rel.text (n := 0) H (by omega) ?_ ?_ (fun i => ?_) (fun i => ?_) ?_ ?_ (fun i hi => by omega) (fun a i z1 z2 z3 z4 z5 z6 => by rw [f9 a i z6 z2]; exact f6 a i z4 z1)⟩
  · rw [f9 _ _ (by omega) (by omega), q4 _ _ (by omega) (by omega), e1]; (simp (disch := omega) only [up_at, up_ne]); rfl
  · rw [r2 _ _ (by omega), e7]; (simp (disch := omega) only [up_at, up_ne]); rfl
  · rw [f9 _ _ (by omega) (by omega), q1, e1]; (simp (disch := omega) only [up_at, up_ne])
  · rw [r1, e7]; (simp (disch := omega) only [up_at, up_ne]); rw [f6 _ _ (by omega) (by omega)]
  · rw [f9 _ _ (by omega) (by omega)]; exact q2
  · rw [f9 _ _ (by omega) (by omega)]; exact q3
/-- what the static rows hold -/
def EW (E : am_E) : Prop := (E 0).1 = 9 ∧ (E 1).1 = 9 ∧ (∀ i, i < 9 → (E 0).2 i = if i = 1 then 1 else 0) ∧ ((E 1).2 0 = 1 ∧ (E 1).2 1 = 2 ∧ (E 1).2 2 = 2 ∧ (E 1).2 3 = 2 ∧ (E 1).2 4 = 2 ∧ (E 1).2 5 = 1 ∧ (E 1).2 6 = 1 ∧ (E 1).2 7 = 2 ∧ (E 1).2 8 = 3)
def hiW (k : Nat) : Int := if k = 0 ∨ k = 5 ∨ k = 6 then 1 else if k = 8 then 3 else 2
def loW (k : Nat) : Int := if k = 1 then 1 else 0
theorem EW.at (h : EW E) {k : Nat} (hk : k < 9) {v : Int} (hv : v = k) : rdE E 0 v = loW k ∧ rdE E 1 v = hiW k := by
  obtain ⟨h1, h2, h3, h4, h5, h6, h7, h8, h9, h10, h11, h12⟩ := h
  subst hv
  unfold rdE
  rw [h1, h2, if_pos (by omega), if_pos (by omega), Int.toNat_natCast]
  refine ⟨h3 k hk, ?_⟩
  unfold hiW
  rcases (show k = 0 ∨ k = 1 ∨ k = 2 ∨ k = 3 ∨ k = 4 ∨ k = 5 ∨ k = 6 ∨ k = 7 ∨ k = 8 by omega) with rfl | rfl | rfl | rfl | rfl | rfl | rfl | rfl | rfl
  · rw [h4]; rfl
  · rw [h5]; rfl
  · rw [h6]; rfl
  · rw [h7]; rfl
  · rw [h8]; rfl
  · rw [h9]; rfl
  · rw [h10]; rfl
  · rw [h11]; rfl
  · rw [h12]; rfl
theorem waysOK_up {w w' : Nat → Int} {k : Nat} {v : Int} (hw : waysOK w) (hk : k < 9) (h1 : loW k ≤ v) (h2 : v ≤ hiW k) (hf : ∀ i, w' i = if i = k then v else w i) : waysOK w' := by
  obtain ⟨a0, a1, a2, a3, a4, a5, a6, a7, a8⟩ := hw
  unfold waysOK
  rw [hf 0, hf 1, hf 2, hf 3, hf 4, hf 5, hf 6, hf 7, hf 8]
  unfold loW at h1
  unfold hiW at h2
  rcases (show k = 0 ∨ k = 1 ∨ k = 2 ∨ k = 3 ∨ k = 4 ∨ k = 5 ∨ k = 6 ∨ k = 7 ∨ k = 8 by omega) with rfl | rfl | rfl | rfl | rfl | rfl | rfl | rfl | rfl
  all_goals simp at h1 h2 ⊢
  all_goals omega
theorem mostOf_ok {Q : Int → GG → FF → Prop} {k : Nat} (hk : k < 9) (hv : v1 = k) (h : Q (hiW k) g fl) : cI E 105 [amI v1] g fl Q := by
  subst hv
  unfold hiW at h
  refine b105 ⟨fun c => ?_, fun c => ?_, fun c => ?_, fun c => ?_, fun c => ?_, fun c => ?_, fun c => ?_, fun c => ?_, fun c => ?_, fun c => absurd (by omega) c⟩
  · rw [if_pos (by omega)] at h; exact h
  · rw [if_neg (by omega), if_neg (by omega)] at h; exact h
  · rw [if_neg (by omega), if_neg (by omega)] at h; exact h
  · rw [if_neg (by omega), if_neg (by omega)] at h; exact h
  · rw [if_neg (by omega), if_neg (by omega)] at h; exact h
  · rw [if_pos (by omega)] at h; exact h
  · rw [if_pos (by omega)] at h; exact h
  · rw [if_neg (by omega), if_neg (by omega)] at h; exact h
  · rw [if_neg (by omega), if_pos (by omega)] at h; exact h
theorem al_way (hE : EW E) (h : Rel g fl) : AlI E 5 106 [amI v1, amI v2] g fl := by
  obtain ⟨b, n, w, mk1, td, N, T, P, b', mk', T', P', H⟩ := h
  have hE1 := hE.1
  have hE2 := hE.2.1
  by_cases cv : 0 ≤ v1 ∧ v1 < 9
  · obtain ⟨k, hk⟩ : ∃ k : Nat, v1 = k := ⟨v1.toNat, by omega⟩
    have hk9 : k < 9 := by omega
    obtain ⟨e0, e1⟩ := hE.at hk9 hk
    have hb1 : b01 (v1 = 1) = loW k := by
      unfold loW
      by_cases y : k = 1
      · rw [if_pos y, b01_t (by omega)]
      · rw [if_neg y, b01_f (by omega)]
    have bad : ¬ (loW k ≤ v2 ∧ v2 ≤ hiW k) → cI E 106 [amR 49, amI v1, amI v2] g fl (fun y g2 f2 => (-2) = y ∧ Rel g2 f2) := fun cc =>
      b106 ⟨fun _ => mostOf_ok hk9 hk ⟨fun y => absurd (by rw [hb1] at y; exact y) cc, fun _ => ⟨rfl, H.rel⟩⟩, fun y => absurd (by omega) y⟩
    refine b5 ⟨fun c => absurd c (by omega), fun _ => ⟨fun _ => ⟨by omega, fun c2 => ?_, fun c2 => ⟨by omega, fun c3 => ?_, fun c3 g5 e5 => changed_ok (fun g6 q1 q2 q3 => ?_)⟩⟩, fun c => absurd (by omega) c⟩⟩
    · rw [e0] at c2; exact bad (by omega)
    · rw [e1] at c3; exact bad (by omega)
    · rw [e0] at c2
      rw [e1] at c3
      rw [wr_in hk hk9] at e5
      have e51 : g6 51 = w := by rw [H.rm.ew]; exact funext fun i => by rw [q3 _ _ (by omega), e5]; (simp (disch := omega) only [up_at, up_ne])
      refine b106 ⟨fun _ => mostOf_ok hk9 hk ⟨fun _ => ⟨by omega, fun g7 e7 => ?_⟩, fun y => absurd (by rw [hb1]; omega) y⟩, fun y => absurd (by omega) y⟩
      rw [toNat_eq hk] at e7 ⊢
      have f7 : ∀ a i, ¬ (a = 0 ∧ (i = 15 ∨ i = 16)) → ¬ (a = 2 ∧ i = k) → ¬ (a = 51 ∧ i = k) → g7 a i = g a i := fun a i z1 z2 z3 => by rw [e7]; (simp (disch := omega) only [up_at, up_ne]); rw [q3 a i z1, e5]; (simp (disch := omega) only [up_at, up_ne])
      have x2 : ∀ i, g7 2 i = if i = k then v2 else w i := fun i => by
        rw [e7]; (simp (disch := omega) only [up_at, up_ne]); rw [q3 _ _ (by omega), e5, H.rc.ew]
        by_cases y : i = k
        · rw [y, if_pos rfl]; (simp (disch := omega) only [up_at, up_ne])
        · rw [if_neg y]; (simp (disch := omega) only [up_at, up_ne])
      have x51 : ∀ i, g7 51 i = if i = k then v2 else w i := fun i => by
        rw [e7]
        by_cases y : i = k
        · rw [y, if_pos rfl]; (simp (disch := omega) only [up_at, up_ne])
        · rw [if_neg y]; (simp (disch := omega) only [up_at, up_ne]); rw [e51]
      refine ⟨by rw [rd_in hk hk9, e51, H.rc.ew], Rel.new (n := n) (T := T) (P := P) (T' := T') (P' := P') (N := N) H.rc.n60 ?_ ?_ (waysOK_up H.rc.ok hk9 (by omega) (by omega) x2) (funext fun i => by rw [x2, x51]) (funext fun i => ?_) (H.rc.lx.keep (fun a i z => f7 a i (by omega) (by omega) (by omega))) H.rc.lt (H.rm.rb.lx.keep (fun a i z => f7 a i (by omega) (by omega) (by omega))) H.rm.rb.lt (fun i hi => ?_) ?_ ?_ (fun i hi => ?_) H.ls ?_ (fun s hs => (H.sh s hs).keep hs (fun a i z => f7 a i (by omega) (by omega) (by omega)) (fun _ _ _ => rfl))⟩
      · rw [f7 _ _ (by omega) (by omega) (by omega)]; exact H.rc.gn
      · rw [f7 _ _ (by omega) (by omega) (by omega)]; exact H.rm.rb.gn
      · rw [f7 _ _ (by omega) (by omega) (by omega), f7 _ _ (by omega) (by omega) (by omega), H.rm.et, H.rc.et]
      · rw [x2, if_neg (by omega), f7 _ _ (by omega) (by omega) (by omega)]; exact H.rc.w3 i hi
      · rw [e7]; (simp (disch := omega) only [up_at, up_ne]); exact q1
      · rw [e7]; (simp (disch := omega) only [up_at, up_ne]); exact q2
      · rw [f7 _ _ (by omega) (by omega) (by omega), f7 _ _ (by omega) (by omega) (by omega)]; exact H.br i hi
      · rw [f7 _ _ (by omega) (by omega) (by omega), f7 _ _ (by omega) (by omega) (by omega)]; exact H.fi
  · have bad : cI E 106 [amR 49, amI v1, amI v2] g fl (fun y g2 f2 => (-2) = y ∧ Rel g2 f2) := b106 ⟨fun y => absurd (by omega) cv, fun _ => ⟨rfl, H.rel⟩⟩
    exact b5 ⟨fun _ => bad, fun c => ⟨fun y => absurd ⟨by omega, y⟩ cv, fun _ => bad⟩⟩
theorem RC.told {g' : GG} {b : Nat → Int} {n : Nat} {w : Nat → Int} {mk1 : Nat → Int} {td : Nat → Int} {N : Nat} {T : Nat → List Int} {P : Nat → Int} (h : RC b n w mk1 td N T P g) (hf : ∀ a i, a < 37 → ¬ (a = 4) → ¬ (a = 0 ∧ i = 12) → ¬ (a = 0 ∧ i = 16) → g' a i = g a i) (h16 : g' 0 16 = 1) : RC b n w mk1 (g' 4) N T P g' := by
  refine ⟨h.n60, by rw [hf _ _ (by omega) (by omega) (by omega) (by omega)]; exact h.gn, ?_, ?_, h.ok, h.lx.keep (fun a i z => hf a i (by omega) (by omega) (by omega) (by omega)), h.lt, h.em, rfl, fun i hi => by rw [hf _ _ (by omega) (by omega) (by omega) (by omega)]; exact h.w3 i hi, ?_, Or.inl h16⟩
  · rw [show g' 1 = g 1 from funext fun x => hf _ _ (by omega) (by omega) (by omega) (by omega)]; exact h.eb
  · rw [show g' 2 = g 2 from funext fun x => hf _ _ (by omega) (by omega) (by omega) (by omega)]; exact h.ew
  · rw [hf _ _ (by omega) (by omega) (by omega) (by omega)]
    rcases h.ca with z | ⟨z1, z2⟩
    · exact Or.inl z
    · exact Or.inr ⟨z1, z2.keep (fun a i z => hf a i (by omega) (by omega) (by omega) (by omega))⟩
theorem RM.told {g' : GG} {b : Nat → Int} {n : Nat} {w : Nat → Int} {mk1 : Nat → Int} {td : Nat → Int} {N : Nat} {T : Nat → List Int} {P : Nat → Int} (h : RM b n w mk1 td N T P g) (hf : ∀ a i, 49 ≤ a → a ≤ 65 → ¬ (a = 49 ∧ (i = 6 ∨ i = 13 ∨ (22 ≤ i ∧ i ≤ 26))) → ¬ (53 ≤ a ∧ a ≤ 62) → ¬ (a = 52) → g' a i = g a i) : RM b n w mk1 (g' 52) N T P g' := by
  refine ⟨h.rb.keep (fun a i z => hf a i (by omega) (by omega) (by omega) (by omega) (by omega)), ?_, ?_, h.em, rfl⟩
  · rw [show g' 50 = g 50 from funext fun x => hf _ _ (by omega) (by omega) (by omega) (by omega) (by omega)]; exact h.eb
  · rw [show g' 51 = g 51 from funext fun x => hf _ _ (by omega) (by omega) (by omega) (by omega) (by omega)]; exact h.ew
theorem Bo.told {g' : GG} {b : Nat → Int} {n : Nat} {w : Nat → Int} {mk1 : Nat → Int} {td : Nat → Int} {N : Nat} {T : Nat → List Int} {P : Nat → Int} {b' : Nat → Int} {mk' : Nat → Int} {T' : Nat → List Int} {P' : Nat → Int} (H : Bo b n w mk1 td N T P b' mk' T' P' g fl) (h16 : g' 0 16 = 1) (ht : g' 52 = g' 4)
    (hf : ∀ a i, ¬ (a = 49 ∧ (i = 6 ∨ i = 13 ∨ (22 ≤ i ∧ i ≤ 26))) → ¬ (53 ≤ a ∧ a ≤ 62) → ¬ (66 ≤ a ∧ a ≤ 68) → ¬ (a = 52) → ¬ (a = 4) → ¬ (a = 0 ∧ i = 16) → g' a i = g a i) : Rel g' fl := by
  have h1 := H.rc.told (g' := g') (fun a i z1 z2 z3 z4 => hf a i (by omega) (by omega) (by omega) (by omega) z2 z4) h16
  have h2 := H.rm.told (g' := g') (fun a i z1 z2 z3 z4 z5 => hf a i z3 z4 (by omega) z5 (by omega) (by omega))
  rw [ht] at h2
  exact ⟨b, n, w, mk1, g' 4, N, T, P, b', mk', T', P', h1, h2, fun i hi => by rw [hf _ _ (by omega) (by omega) (by omega) (by omega) (by omega) (by omega), hf _ _ (by omega) (by omega) (by omega) (by omega) (by omega) (by omega)]; exact H.br i hi, H.ls, by rw [hf _ _ (by omega) (by omega) (by omega) (by omega) (by omega) (by omega), hf _ _ (by omega) (by omega) (by omega) (by omega) (by omega) (by omega)]; exact H.fi, fun s hs => (H.sh s hs).keep hs (fun a i z => hf a i (by omega) (by omega) (by omega) (by omega) (by omega) (by omega)) (fun _ _ _ => rfl)⟩
theorem al_tell (h : Rel g fl) : AlI E 13 146 [amI v1, amI v2] g fl := by
  obtain ⟨b, n, w, mk1, td, N, T, P, b', mk', T', P', H⟩ := h
  have hn := H.rc.n60
  have hSl := Sn_le (b := b) (w := w) hn
  refine b13 (refresh_ok H.rc (fun g1 C1 h15 R1 k1 => ?_))
  have H1 := H.kc k1 R1
  have hSe := same_Sn (w := w) H.same
  rw [C1.cc.S]
  have bad : ¬ (0 ≤ v1 ∧ v1 < Sn b n w ∧ 0 ≤ v2 ∧ v2 ≤ 2) → cI E 146 [amR 49, amI v1, amI v2] g1 fl (fun y g2 f2 => (-2) = y ∧ Rel g2 f2) := fun cc =>
    b146 (isSyllM_ok H1.rm (fun g2 F2 k2 r2 c => ⟨fun y => absurd y (by omega), fun _ => ⟨fun y => absurd ⟨c.1, by omega, y.1, y.2⟩ cc, fun _ => ⟨rfl, (H1.km k2).rel⟩⟩⟩) (fun g2 F2 k2 r2 c => ⟨fun _ => ⟨rfl, (H1.km k2).rel⟩, fun y => absurd rfl y⟩))
  refine ⟨fun c => bad (by omega), fun c => ⟨fun c2 => ⟨fun c3 => bad (by omega), fun c3 => ⟨fun c4 => bad (by omega), fun c4 g6 e6 g7 e7 => ?_⟩⟩, fun c2 => bad (by omega)⟩⟩
  obtain ⟨s, hs⟩ : ∃ s : Nat, v1 = s := ⟨v1.toNat, by omega⟩
  rw [wr_in hs (by omega)] at e6
  rw [rd_in hs (by omega)]
  have f7 : ∀ a i, ¬ (a = 4 ∧ i = s) → ¬ (a = 0 ∧ i = 16) → g7 a i = g1 a i := fun a i z1 z2 => by rw [e7, e6]; (simp (disch := omega) only [up_at, up_ne])
  have r7 : RM b' n w mk' td N T' P' g7 := H1.rm.keep (fun a i _ _ _ => f7 a i (by omega) (by omega))
  refine b146 (isSyllM_ok r7 (fun g2 F2 k2 r2 c => ⟨fun y => absurd y (by omega), fun _ => ⟨fun _ => ⟨by omega, fun g4 e4 => ?_⟩, fun y => absurd (by omega) y⟩⟩) (fun g2 F2 k2 r2 c => absurd (by omega) c))
  rw [toNat_eq hs] at e4 ⊢
  have hf : ∀ a i, ¬ (a = 49 ∧ (i = 6 ∨ i = 13 ∨ (22 ≤ i ∧ i ≤ 26))) → ¬ (53 ≤ a ∧ a ≤ 62) → ¬ (66 ≤ a ∧ a ≤ 68) → ¬ (a = 52 ∧ i = s) → ¬ (a = 4 ∧ i = s) → ¬ (a = 0 ∧ i = 16) → g4 a i = g1 a i := fun a i z1 z2 z3 z4 z5 z6 => by rw [e4]; (simp (disch := omega) only [up_at, up_ne]); rw [k2 a i z1 z2 z3]; exact f7 a i z5 z6
  refine ⟨by rw [r2.et, H1.rc.et], H1.told ?_ (funext fun i => ?_) (fun a i z1 z2 z3 z4 z5 z6 => hf a i z1 z2 z3 (by omega) (by omega) z6)⟩
  · rw [e4]; (simp (disch := omega) only [up_at, up_ne]); rw [k2 _ _ (by omega) (by omega) (by omega), e7]; (simp (disch := omega) only [up_at, up_ne])
  · by_cases y : i = s
    · subst y
      rw [e4]; (simp (disch := omega) only [up_at, up_ne]); rw [k2 _ _ (by omega) (by omega) (by omega), e7, e6]; (simp (disch := omega) only [up_at, up_ne])
    · rw [hf _ _ (by omega) (by omega) (by omega) (by omega) (by omega) (by omega), hf _ _ (by omega) (by omega) (by omega) (by omega) (by omega) (by omega), H1.rm.et, H1.rc.et]
theorem al_copyHeard (h : Rel g fl) : AlI E 14 148 [] g fl := by
  obtain ⟨b, n, w, mk1, td, N, T, P, b', mk', T', P', H⟩ := h
  have hn := H.rc.n60
  have hSl := Sn_le (b := b) (w := w) hn
  refine b14 (refresh_ok H.rc (fun g1 C1 h15 R1 k1 => ?_))
  have H1 := H.kc k1 R1
  have hSe := same_Sn (w := w) H.same
  have kc : ∀ (f j : Nat) (v : Int) (g2 : GG), j + f = Sn b n w → v = j → (∀ i, g2 4 i = if i < j then (heP b n w mk1).1 i else td i) → (∀ a i, ¬ (a = 4) → g2 a i = g1 a i) → am_X E 14 (4, (0, 0), [some (amR 0), some (amI v)], [], mk g2 fl) (RI (fun x g1 f1 => cI E 148 [amR 49] g1 f1 (fun y g2 f2 => x = y ∧ Rel g2 f2))) := by
    intro f
    induction f with
    | zero =>
      intro j v g2 hj hv h4 hf
      have : j = Sn b n w := by omega
      subst this
      have hS2 : g2 11 11 = Sn b n w := by rw [hf _ _ (by omega)]; exact C1.cc.S
      refine b14_4 ⟨fun c => absurd c (by omega), fun _ g3 e3 => ?_⟩
      have f3 : ∀ a i, ¬ (a = 0 ∧ i = 16) → g3 a i = g2 a i := fun a i z => by rw [e3]; (simp (disch := omega) only [up_at, up_ne])
      refine heardBeats_ok (b := b) (n := n) (w := w) (mk' := mk1) (by omega) (by rw [f3 _ _ (by omega)]; exact hS2) (fun s hs => by rw [f3 _ _ (by omega), hf _ _ (by omega)]; exact C1.he s hs) ?_
      have r3 : RM b' n w mk' td N T' P' g3 := H1.rm.keep (fun a i _ _ _ => by rw [f3 a i (by omega)]; exact hf a i (by omega))
      refine b148 (findsM_ok r3 (fun g4 F4 k4 r4 => ?_))
      have km : ∀ (f j : Nat) (v : Int) (g5 : GG), j + f = Sn b' n w → v = j → (∀ i, g5 52 i = if i < j then (heP b' n w mk').1 i else td i) → (∀ a i, ¬ (a = 52) → g5 a i = g4 a i) → am_X E 148 (4, (0, 0), [some (amR 49), some (amI v)], [], mk g5 fl) (RI (fun y g2 f2 => ((hnA b n w mk1 : Nat) : Int) = y ∧ Rel g2 f2)) := by
        intro f
        induction f with
        | zero =>
          intro j v g5 hj hv h52 hf5
          have : j = Sn b' n w := by omega
          subst this
          have F5 : FA b' n w mk' g5 := F4.keep (fun a i z => hf5 a i (by omega))
          have hS5 := F5.x.c.S
          refine b148_4 ⟨fun c => absurd c (by omega), fun _ => heardMany_ok hn (r4.hI F4) F5 ⟨by rw [same_hn H.same], H1.told ?_ (funext fun i => ?_) (fun a i z1 z2 z3 z4 z5 z6 => ?_)⟩⟩
          · rw [hf5 _ _ (by omega), k4 _ _ (by omega) (by omega) (by omega), e3]; (simp (disch := omega) only [up_at, up_ne])
          · rw [h52, hf5 _ _ (by omega), k4 _ _ (by omega) (by omega) (by omega), f3 _ _ (by omega), h4, ← hSe]
            rcases H.same.2 with ⟨q1, q2⟩ | ⟨q1, q2⟩
            · rw [q1, q2]
            · have z := Sn_0 (w := w) q1
              rw [if_neg (by omega), if_neg (by omega)]
          · rw [hf5 a i z4, k4 a i z1 z2 z3, f3 a i z6]; exact hf a i z5
        | succ f ih =>
          intro j v g5 hj hv h52 hf5
          have F5 : FA b' n w mk' g5 := F4.keep (fun a i z => hf5 a i (by omega))
          have hS5 := F5.x.c.S
          refine b148_4 ⟨fun _ => ⟨by omega, fun g6 e6 => ⟨rgI (by omega) (by omega), ?_⟩⟩, fun c => absurd (by omega) c⟩
          rw [toNat_eq hv, F5.he j (by omega)] at e6
          refine ih (j + 1) _ g6 (by omega) (by omega) (fun i => ?_) (fun a i z => by rw [e6]; (simp (disch := omega) only [up_at, up_ne]); exact hf5 a i z)
          rw [e6]
          by_cases c : i = j
          · rw [c]; (simp (disch := omega) only [up_at, up_ne]); rw [if_pos (by omega)]
          · (simp (disch := omega) only [up_at, up_ne]); rw [h52 i]
            by_cases c2 : i < j
            · rw [if_pos c2, if_pos (by omega)]
            · rw [if_neg c2, if_neg (by omega)]
      exact km (Sn b' n w) 0 0 g4 (by omega) rfl (fun i => by rw [if_neg (by omega), r4.et]) (fun _ _ _ => rfl)
    | succ f ih =>
      intro j v g2 hj hv h4 hf
      have hS2 : g2 11 11 = Sn b n w := by rw [hf _ _ (by omega)]; exact C1.cc.S
      refine b14_4 ⟨fun _ g3 e3 => ⟨rgI (by omega) (by omega), ?_⟩, fun c => absurd (by omega) c⟩
      rw [wr_in hv (by omega), rd_in hv (by omega), hf 26 _ (by omega), C1.he j (by omega)] at e3
      refine ih (j + 1) _ g3 (by omega) (by omega) (fun i => ?_) (fun a i z => by rw [e3]; (simp (disch := omega) only [up_at, up_ne]); exact hf a i z)
      rw [e3]
      by_cases c : i = j
      · rw [c]; (simp (disch := omega) only [up_at, up_ne]); rw [if_pos (by omega)]
      · (simp (disch := omega) only [up_at, up_ne]); rw [h4 i]
        by_cases c2 : i < j
        · rw [if_pos c2, if_pos (by omega)]
        · rw [if_neg c2, if_neg (by omega)]
  exact kc (Sn b n w) 0 0 g1 (by omega) rfl (fun i => by rw [if_neg (by omega), R1.et]) (fun _ _ _ => rfl)
end BCHG
