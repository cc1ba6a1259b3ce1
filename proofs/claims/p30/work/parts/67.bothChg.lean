/-! both: the calls that change the text, the ways, what is told -/
section BCHG
variable {E : am_E} {g : GG} {fl : FF} {v1 v2 : Int}
theorem changed_ok {Q : GG → FF → Prop} (h : ∀ g' : GG, g' 0 15 = 1 → g' 0 16 = 1 → (∀ a i, ¬ (a = 0 ∧ (i = 15 ∨ i = 16)) → g' a i = g a i) → Q g' fl) : cV E 34 [amR 0] g fl Q :=
  b34 (fun g1 e1 g2 e2 => h g2 (by rw [e2, e1]; (simp (disch := omega) only [up_at, up_ne])) (by rw [e2]; (simp (disch := omega) only [up_at, up_ne])) (fun a i z => by rw [e2, e1]; (simp (disch := omega) only [up_at, up_ne])))
theorem textCh_ok {Q : GG → FF → Prop} (h : ∀ g' : GG, (∀ i, g' 4 i = if i < 60 then 0 else g 4 i) → g' 0 15 = 1 → g' 0 16 = 1 → (∀ a i, ¬ (a = 4) → ¬ (a = 0 ∧ (i = 15 ∨ i = 16)) → g' a i = g a i) → Q g' fl) : cV E 35 [amR 0] g fl Q := by
  have key : ∀ (f j : Nat) (v : Int) (g1 : GG), j + f = 60 → v = j → (∀ i, g1 4 i = if i < j then 0 else g 4 i) → (∀ a i, ¬ (a = 4) → g1 a i = g a i) → am_X E 35 (2, (0, 0), [some (amR 0), some (amI v)], [], mk g1 fl) (RV Q) := by
    intro f
    induction f with
    | zero =>
      intro j v g1 hj hv h4 hf
      have : j = 60 := by omega
      subst this
      refine b35_2 ⟨fun c => absurd c (by omega), fun _ => changed_ok (fun g2 q1 q2 q3 => h g2 (fun i => by rw [q3 _ _ (by omega)]; exact h4 i) q1 q2 (fun a i z1 z2 => by rw [q3 a i z2]; exact hf a i z1))⟩
    | succ f ih =>
      intro j v g1 hj hv h4 hf
      refine b35_2 ⟨fun _ g2 e2 => ⟨rgI (by omega) (by omega), ?_⟩, fun c => absurd (by omega) c⟩
      rw [wr_in hv (by omega)] at e2
      refine ih (j + 1) _ g2 (by omega) (by omega) (fun i => ?_) (fun a i z => by rw [e2]; (simp (disch := omega) only [up_at, up_ne]); exact hf a i z)
      rw [e2]
      by_cases c : i = j
      · rw [c]; (simp (disch := omega) only [up_at, up_ne]); rw [if_pos (by omega)]
      · (simp (disch := omega) only [up_at, up_ne]); rw [h4 i]
        by_cases c2 : i < j
        · rw [if_pos c2, if_pos (by omega)]
        · rw [if_neg c2, if_neg (by omega)]
  exact b35 (key 60 0 0 g (by omega) rfl (fun i => by rw [if_neg (by omega)]) (fun _ _ _ => rfl))
/-- behind a change of the text alone -/
theorem Rel.text {n : Nat} {g' : GG} {b0 : Nat → Int} {n0 : Nat} {w : Nat → Int} {mk1 : Nat → Int} {td : Nat → Int} {N : Nat} {T : Nat → List Int} {P : Nat → Int} {b' : Nat → Int} {mk' : Nat → Int} {T' : Nat → List Int} {P' : Nat → Int}
    (H : Bo b0 n0 w mk1 td N T P b' mk' T' P' g fl) (n60 : n ≤ 60) (gn : g' 0 10 = n) (gm : g' 49 1 = n) (h4 : ∀ i, g' 4 i = if i < 60 then 0 else g 4 i) (h52 : ∀ i, g' 52 i = if i < 60 then 0 else g 52 i) (s1 : g' 0 15 = 1) (s2 : g' 0 16 = 1) (br : ∀ i, i < n → bR (g' 1 i) (g' 50 i))
    (hf : ∀ a i, ¬ (a = 0 ∧ (i = 10 ∨ i = 15 ∨ i = 16)) → ¬ (a = 49 ∧ i = 1) → ¬ (a = 1) → ¬ (a = 4) → ¬ (a = 50) → ¬ (a = 52) → g' a i = g a i) : Rel g' fl := by
  have e2 : g' 2 = w := by rw [H.rc.ew]; exact funext fun i => hf _ _ (by omega) (by omega) (by omega) (by omega) (by omega) (by omega)
  have e51 : g' 51 = w := by rw [H.rm.ew]; exact funext fun i => hf _ _ (by omega) (by omega) (by omega) (by omega) (by omega) (by omega)
  refine Rel.new (T := T) (P := P) (T' := T') (P' := P') (N := N) n60 gn gm (by rw [e2]; exact H.rc.ok) (by rw [e2, e51]) (funext fun i => ?_) (H.rc.lx.keep (fun a i z => hf a i (by omega) (by omega) (by omega) (by omega) (by omega) (by omega))) H.rc.lt (H.rm.rb.lx.keep (fun a i z => hf a i (by omega) (by omega) (by omega) (by omega) (by omega) (by omega))) H.rm.rb.lt (fun i hi => ?_) s1 s2 br H.ls ?_ (fun s hs => (H.sh s hs).keep hs (fun a i z => hf a i (by omega) (by omega) (by omega) (by omega) (by omega) (by omega)) (fun _ _ _ => rfl))
  · rw [h4, h52, show g 52 i = g 4 i by rw [H.rm.et, H.rc.et]]
  · rw [e2, hf _ _ (by omega) (by omega) (by omega) (by omega) (by omega) (by omega)]; exact H.rc.w3 i hi
  · rw [hf _ _ (by omega) (by omega) (by omega) (by omega) (by omega) (by omega), hf _ _ (by omega) (by omega) (by omega) (by omega) (by omega) (by omega)]; exact H.fi
/-- what the static rows hold -/
def EW (E : am_E) : Prop := (E 0).1 = 9 ∧ (E 1).1 = 9 ∧ (∀ i, i < 9 → (E 0).2 i = if i = 1 then 1 else 0) ∧ ((E 1).2 0 = 1 ∧ (E 1).2 1 = 2 ∧ (E 1).2 2 = 2 ∧ (E 1).2 3 = 2 ∧ (E 1).2 4 = 2 ∧ (E 1).2 5 = 1 ∧ (E 1).2 6 = 1 ∧ (E 1).2 7 = 2 ∧ (E 1).2 8 = 3)
def hiW (k : Nat) : Int := if k = 0 ∨ k = 5 ∨ k = 6 then 1 else if k = 8 then 3 else 2
def loW (k : Nat) : Int := if k = 1 then 1 else 0
theorem EW.at (h : EW E) {k : Nat} (hk : k < 9) {v : Int} (hv : v = k) : rdE E 0 v = loW k ∧ rdE E 1 v = hiW k := by
  obtain ⟨h1, h2, h3, h4, h5, h6, h7, h8, h9, h10, h11, h12⟩ := h
  subst hv
  unfold rdE
  rw [h1, h2, if_pos (by omega), if_pos (by omega), Int.toNat_natCast]
  refine ⟨h3 k hk, ?_⟩
  unfold hiW
  rcases (show k = 0 ∨ k = 1 ∨ k = 2 ∨ k = 3 ∨ k = 4 ∨ k = 5 ∨ k = 6 ∨ k = 7 ∨ k = 8 by omega) with rfl | rfl | rfl | rfl | rfl | rfl | rfl | rfl | rfl
  · rw [h4]; rfl
  · rw [h5]; rfl
  · rw [h6]; rfl
  · rw [h7]; rfl
  · rw [h8]; rfl
  · rw [h9]; rfl
  · rw [h10]; rfl
  · rw [h11]; rfl
  · rw [h12]; rfl
theorem waysOK_up {w w' : Nat → Int} {k : Nat} {v : Int} (hw : waysOK w) (hk : k < 9) (h1 : loW k ≤ v) (h2 : v ≤ hiW k) (hf : ∀ i, w' i = if i = k then v else w i) : waysOK w' := by
  obtain ⟨a0, a1, a2, a3, a4, a5, a6, a7, a8⟩ := hw
  unfold waysOK
  rw [hf 0, hf 1, hf 2, hf 3, hf 4, hf 5, hf 6, hf 7, hf 8]
  unfold loW at h1
  unfold hiW at h2
  rcases (show k = 0 ∨ k = 1 ∨ k = 2 ∨ k = 3 ∨ k = 4 ∨ k = 5 ∨ k = 6 ∨ k = 7 ∨ k = 8 by omega) with rfl | rfl | rfl | rfl | rfl | rfl | rfl | rfl | rfl
  all_goals simp at h1 h2 ⊢
  all_goals omega
theorem RC.told {g' : GG} {b : Nat → Int} {n : Nat} {w : Nat → Int} {mk1 : Nat → Int} {td : Nat → Int} {N : Nat} {T : Nat → List Int} {P : Nat → Int} (h : RC b n w mk1 td N T P g) (hf : ∀ a i, a < 37 → ¬ (a = 4) → ¬ (a = 0 ∧ i = 12) → ¬ (a = 0 ∧ i = 16) → g' a i = g a i) (h16 : g' 0 16 = 1) : RC b n w mk1 (g' 4) N T P g' := by
  refine ⟨h.n60, by rw [hf _ _ (by omega) (by omega) (by omega) (by omega)]; exact h.gn, ?_, ?_, h.ok, h.lx.keep (fun a i z => hf a i (by omega) (by omega) (by omega) (by omega)), h.lt, h.em, rfl, fun i hi => by rw [hf _ _ (by omega) (by omega) (by omega) (by omega)]; exact h.w3 i hi, ?_, Or.inl h16⟩
  · rw [show g' 1 = g 1 from funext fun x => hf _ _ (by omega) (by omega) (by omega) (by omega)]; exact h.eb
  · rw [show g' 2 = g 2 from funext fun x => hf _ _ (by omega) (by omega) (by omega) (by omega)]; exact h.ew
  · rw [hf _ _ (by omega) (by omega) (by omega) (by omega)]
    rcases h.ca with z | ⟨z1, z2⟩
    · exact Or.inl z
    · exact Or.inr ⟨z1, z2.keep (fun a i z => hf a i (by omega) (by omega) (by omega) (by omega))⟩
theorem RM.told {g' : GG} {b : Nat → Int} {n : Nat} {w : Nat → Int} {mk1 : Nat → Int} {td : Nat → Int} {N : Nat} {T : Nat → List Int} {P : Nat → Int} (h : RM b n w mk1 td N T P g) (hf : ∀ a i, 49 ≤ a → a ≤ 65 → ¬ (a = 49 ∧ (i = 6 ∨ i = 13 ∨ (22 ≤ i ∧ i ≤ 26))) → ¬ (53 ≤ a ∧ a ≤ 62) → ¬ (a = 52) → g' a i = g a i) : RM b n w mk1 (g' 52) N T P g' := by
  refine ⟨h.rb.keep (fun a i z => hf a i (by omega) (by omega) (by omega) (by omega) (by omega)), ?_, ?_, h.em, rfl⟩
  · rw [show g' 50 = g 50 from funext fun x => hf _ _ (by omega) (by omega) (by omega) (by omega) (by omega)]; exact h.eb
  · rw [show g' 51 = g 51 from funext fun x => hf _ _ (by omega) (by omega) (by omega) (by omega) (by omega)]; exact h.ew
theorem Bo.told {g' : GG} {b : Nat → Int} {n : Nat} {w : Nat → Int} {mk1 : Nat → Int} {td : Nat → Int} {N : Nat} {T : Nat → List Int} {P : Nat → Int} {b' : Nat → Int} {mk' : Nat → Int} {T' : Nat → List Int} {P' : Nat → Int} (H : Bo b n w mk1 td N T P b' mk' T' P' g fl) (h16 : g' 0 16 = 1) (ht : g' 52 = g' 4)
    (hf : ∀ a i, ¬ (a = 49 ∧ (i = 6 ∨ i = 13 ∨ (22 ≤ i ∧ i ≤ 26))) → ¬ (53 ≤ a ∧ a ≤ 62) → ¬ (66 ≤ a ∧ a ≤ 68) → ¬ (a = 52) → ¬ (a = 4) → ¬ (a = 0 ∧ i = 16) → g' a i = g a i) : Rel g' fl := by
  have h1 := H.rc.told (g' := g') (fun a i z1 z2 z3 z4 => hf a i (by omega) (by omega) (by omega) (by omega) z2 z4) h16
  have h2 := H.rm.told (g' := g') (fun a i z1 z2 z3 z4 z5 => hf a i z3 z4 (by omega) z5 (by omega) (by omega))
  rw [ht] at h2
  exact ⟨b, n, w, mk1, g' 4, N, T, P, b', mk', T', P', h1, h2, fun i hi => by rw [hf _ _ (by omega) (by omega) (by omega) (by omega) (by omega) (by omega), hf _ _ (by omega) (by omega) (by omega) (by omega) (by omega) (by omega)]; exact H.br i hi, H.ls, by rw [hf _ _ (by omega) (by omega) (by omega) (by omega) (by omega) (by omega), hf _ _ (by omega) (by omega) (by omega) (by omega) (by omega) (by omega)]; exact H.fi, fun s hs => (H.sh s hs).keep hs (fun a i z => hf a i (by omega) (by omega) (by omega) (by omega) (by omega) (by omega)) (fun _ _ _ => rfl)⟩
end BCHG
