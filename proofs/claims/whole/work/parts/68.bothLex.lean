/-! both: learn, mark, unmark -/
section BLEX
variable {E : am_E} {g : GG} {fl : FF} {v1 v2 : Int} {b : Nat → Int} {n : Nat} {w : Nat → Int} {mk1 : Nat → Int} {td : Nat → Int} {N : Nat} {T : Nat → List Int} {P : Nat → Int} {b' : Nat → Int} {mk' : Nat → Int} {T' : Nat → List Int} {P' : Nat → Int}
theorem al_learn (h : Rel g fl) : AlI E 17 156 [] g fl := by
  obtain ⟨b, n, w, mk1, td, N, T, P, b', mk', T', P', H⟩ := h
  have hn := H.rc.n60
  obtain ⟨n1, n2, k, hk, nk1, nk2⟩ := nsA_in (b := b) (n := n) (w := w) (mk' := mk1) (td := td)
  refine b17 (refresh_ok H.rc (fun g0 C0 h15 R0 k0 => seek_ok R0 C0 h15 (fun g1 C1 h15' R1 k1 e13 e14 => ?_)))
  have H1 := H.kc (k0.trans k1) R1
  have kc : ∀ (f j : Nat) (v : Int) (g2 : GG), j + f = 8 → 4 ≤ j → v = j → (∀ i, g2 2 i = if i < j then wc w k i else w i) → (∀ a i, ¬ (a = 2) → g2 a i = g1 a i) → am_X E 17 (6, (0, 0), [some (amR 0), some (amI v)], [], mk g2 fl) (RI (fun x g1 f1 => cI E 156 [amR 49] g1 f1 (fun y g2 f2 => x = y ∧ Rel g2 f2))) := by
    intro f
    induction f with
    | zero =>
      intro j v g2 hj hj4 hv h2 hf
      refine b17_6 ⟨fun _ => changed_ok (fun g3 q1 q2 q3 => ?_), fun c => absurd (by omega) c⟩
      have f3 : ∀ a i, ¬ (a = 0 ∧ (i = 15 ∨ i = 16)) → ¬ (a = 2) → g3 a i = g1 a i := fun a i z1 z2 => by rw [q3 a i z1]; exact hf a i z2
      have e2 : g3 2 = wc w k := funext fun i => by
        rw [q3 _ _ (by omega), h2]
        by_cases c : i < j
        · rw [if_pos c]
        · rw [if_neg c, wc_o (by omega) (by omega) (by omega) (by omega)]
      have r3 : RM b' n w mk' td N T' P' g3 := H1.rm.keep (fun a i _ _ _ => f3 a i (by omega) (by omega))
      rw [f3 _ _ (by omega) (by omega), e14, nk2]
      refine learnM_ok r3 (c := k) (by rw [← same_ns H.same]; exact nk1) (fun g4 p1 p2 => ?_)
      have f4 : ∀ a i, ¬ (a = 0 ∧ (i = 15 ∨ i = 16)) → ¬ (a = 2) → ¬ (a = 51) → ¬ (a = 49 ∧ (i = 6 ∨ i = 13 ∨ (22 ≤ i ∧ i ≤ 26))) → ¬ (53 ≤ a ∧ a ≤ 62) → ¬ (66 ≤ a ∧ a ≤ 68) → g4 a i = g1 a i := fun a i z1 z2 z3 z4 z5 z6 => by rw [p2 a i z3 z4 z5 z6]; exact f3 a i z1 z2
      have e24 : g4 2 = wc w k := by rw [← e2]; exact funext fun i => p2 _ _ (by omega) (by omega) (by omega) (by omega)
      refine ⟨by rw [same_nr H.same], Rel.new (n := n) (T := T) (P := P) (T' := T') (P' := P') (N := N) hn ?_ ?_ (by rw [e24]; exact wc_ok H.rc.ok hk) (by rw [e24, p1]) (funext fun i => ?_) (H1.rc.lx.keep (fun a i z => f4 a i (by omega) (by omega) (by omega) (by omega) (by omega) (by omega))) H.rc.lt (H1.rm.rb.lx.keep (fun a i z => f4 a i (by omega) (by omega) (by omega) (by omega) (by omega) (by omega))) H.rm.rb.lt (fun i hi => ?_) ?_ ?_ (fun i hi => ?_) H.ls ?_ (fun s hs => (H1.sh s hs).keep hs (fun a i z => f4 a i (by omega) (by omega) (by omega) (by omega) (by omega) (by omega)) (fun _ _ _ => rfl))⟩
      · rw [f4 _ _ (by omega) (by omega) (by omega) (by omega) (by omega) (by omega)]; exact H1.rc.gn
      · rw [f4 _ _ (by omega) (by omega) (by omega) (by omega) (by omega) (by omega)]; exact H1.rm.rb.gn
      · rw [f4 _ _ (by omega) (by omega) (by omega) (by omega) (by omega) (by omega), f4 _ _ (by omega) (by omega) (by omega) (by omega) (by omega) (by omega), H1.rm.et, H1.rc.et]
      · rw [e24, wc_o (by omega) (by omega) (by omega) (by omega), f4 _ _ (by omega) (by omega) (by omega) (by omega) (by omega) (by omega)]; exact H1.rc.w3 i hi
      · rw [p2 _ _ (by omega) (by omega) (by omega) (by omega)]; exact q1
      · rw [p2 _ _ (by omega) (by omega) (by omega) (by omega)]; exact q2
      · rw [f4 _ _ (by omega) (by omega) (by omega) (by omega) (by omega) (by omega), f4 _ _ (by omega) (by omega) (by omega) (by omega) (by omega) (by omega)]; exact H1.br i hi
      · rw [f4 _ _ (by omega) (by omega) (by omega) (by omega) (by omega) (by omega), f4 _ _ (by omega) (by omega) (by omega) (by omega) (by omega) (by omega)]; exact H1.fi
    | succ f ih =>
      intro j v g2 hj hj4 hv h2 hf
      refine b17_6 ⟨fun c => absurd c (by omega), fun _ => footWay_ok (w := w) (c := k) (k := j) (by rw [hf _ _ (by omega), e13]; exact nk1) hv hk (by omega) (fun g3 e3 => ⟨rgI (by omega) (by omega), ?_⟩)⟩
      rw [wr_in hv (by omega)] at e3
      refine ih (j + 1) _ g3 (by omega) (by omega) (by omega) (fun i => ?_) (fun a i z => by rw [e3]; (simp (disch := omega) only [up_at, up_ne]); exact hf a i z)
      rw [e3]
      by_cases c : i = j
      · rw [c]; (simp (disch := omega) only [up_at, up_ne]); rw [if_pos (by omega)]
      · (simp (disch := omega) only [up_at, up_ne]); rw [h2 i]
        by_cases c2 : i < j
        · rw [if_pos c2, if_pos (by omega)]
        · rw [if_neg c2, if_neg (by omega)]
  refine kc 4 4 4 g1 (by omega) (by omega) rfl (fun i => ?_) (fun _ _ _ => rfl)
  by_cases c : i < 4
  · rw [if_pos c, wc_o (by omega) (by omega) (by omega) (by omega), ← R1.ew]
  · rw [if_neg c, ← R1.ew]
/-- the relation behind a change of the lexicon -/
theorem Bo.lex {g' : GG} {N2 : Nat} {T2 : Nat → List Int} {P2 : Nat → Int} {T3 : Nat → List Int} {P3 : Nat → Int} (H : Bo b n w mk1 td N T P b' mk' T' P' g fl) (lx : LX 7 8 9 6 3 N2 T2 P2 g') (lt : LT N2 T2 P2) (lx' : LX 63 64 65 49 19 N2 T3 P3 g') (lt' : LT N2 T3 P3) (ls : ∀ t p, LSet N2 T2 P2 t p ↔ LSet N2 T3 P3 t p) (s1 : g' 0 15 = 1) (s2 : g' 0 16 = 1)
    (hf : ∀ a i, ¬ (a = 0 ∧ (i = 15 ∨ i = 16)) → ¬ (a = 6 ∧ i = 3) → ¬ (a = 7 ∨ a = 8 ∨ a = 9) → ¬ (a = 49 ∧ (i = 6 ∨ i = 13 ∨ i = 19 ∨ (22 ≤ i ∧ i ≤ 26))) → ¬ (53 ≤ a ∧ a ≤ 68) → g' a i = g a i) : Rel g' fl := by
  have e2 : g' 2 = w := by rw [H.rc.ew]; exact funext fun i => hf _ _ (by omega) (by omega) (by omega) (by omega) (by omega)
  have e51 : g' 51 = w := by rw [H.rm.ew]; exact funext fun i => hf _ _ (by omega) (by omega) (by omega) (by omega) (by omega)
  refine Rel.new (n := n) (T := T2) (P := P2) (T' := T3) (P' := P3) (N := N2) H.rc.n60 ?_ ?_ (by rw [e2]; exact H.rc.ok) (by rw [e2, e51]) (funext fun i => ?_) lx lt lx' lt' (fun i hi => ?_) s1 s2 (fun i hi => ?_) ls ?_ (fun s hs => (H.sh s hs).keep hs (fun a i z => hf a i (by omega) (by omega) (by omega) (by omega) (by omega)) (fun _ _ _ => rfl))
  · rw [hf _ _ (by omega) (by omega) (by omega) (by omega) (by omega)]; exact H.rc.gn
  · rw [hf _ _ (by omega) (by omega) (by omega) (by omega) (by omega)]; exact H.rm.rb.gn
  · rw [hf _ _ (by omega) (by omega) (by omega) (by omega) (by omega), hf _ _ (by omega) (by omega) (by omega) (by omega) (by omega), H.rm.et, H.rc.et]
  · rw [e2, hf _ _ (by omega) (by omega) (by omega) (by omega) (by omega)]; exact H.rc.w3 i hi
  · rw [hf _ _ (by omega) (by omega) (by omega) (by omega) (by omega), hf _ _ (by omega) (by omega) (by omega) (by omega) (by omega)]; exact H.br i hi
  · rw [hf _ _ (by omega) (by omega) (by omega) (by omega) (by omega), hf _ _ (by omega) (by omega) (by omega) (by omega) (by omega)]; exact H.fi
theorem Bo.klm {g' : GG} (H : Bo b n w mk1 td N T P b' mk' T' P' g fl) (k : KL g g') (lx : LX 63 64 65 49 19 N T' P' g') : Rel g' fl := by
  have hk : ∀ a i, ¬ (a = 49 ∧ (i = 6 ∨ i = 13 ∨ i = 19 ∨ (22 ≤ i ∧ i ≤ 26))) → ¬ (53 ≤ a ∧ a ≤ 68) → g' a i = g a i := k
  refine ⟨b, n, w, mk1, td, N, T, P, b', mk', T', P', H.rc.keep (fun a i z _ => hk a i (by omega) (by omega)), ⟨⟨H.rm.rb.n60, by rw [hk _ _ (by omega) (by omega)]; exact H.rm.rb.gn, by rw [show g' 51 = g 51 from funext fun x => hk _ _ (by omega) (by omega)]; exact H.rm.rb.ok, lx, H.rm.rb.lt⟩, ?_, ?_, H.rm.em, ?_⟩, fun i hi => by rw [hk _ _ (by omega) (by omega), hk _ _ (by omega) (by omega)]; exact H.br i hi, H.ls, by rw [hk _ _ (by omega) (by omega), hk _ _ (by omega) (by omega)]; exact H.fi, fun s hs => (H.sh s hs).keep hs (fun a i z => hk a i (by omega) (by omega)) (fun _ _ _ => rfl)⟩
  · rw [show g' 50 = g 50 from funext fun x => hk _ _ (by omega) (by omega)]; exact H.rm.eb
  · rw [show g' 51 = g 51 from funext fun x => hk _ _ (by omega) (by omega)]; exact H.rm.ew
  · rw [show g' 52 = g 52 from funext fun x => hk _ _ (by omega) (by omega)]; exact H.rm.et
theorem Same.nc (h : Same b n mk1 b' mk') {k : Nat} (hk : k < Wn b n) : b = b' := by
  rcases h.2 with ⟨q, -⟩ | ⟨q, -⟩
  · exact q
  · rw [Wn_0 q] at hk; omega
/-- found in the one lexicon, found in the other -/
theorem ls_found {u : List Int} (hs : ∀ t p, LSet N T P t p ↔ LSet N T' P' t p) : (∃ m, m < N ∧ T m = u) ↔ (∃ m, m < N ∧ T' m = u) := by
  constructor
  · rintro ⟨m, m1, m2⟩
    obtain ⟨k, k1, k2, -⟩ := (hs u (P m)).1 ⟨m, m1, m2, rfl⟩
    exact ⟨k, k1, k2⟩
  · rintro ⟨m, m1, m2⟩
    obtain ⟨k, k1, k2, -⟩ := (hs u (P' m)).2 ⟨m, m1, m2, rfl⟩
    exact ⟨k, k1, k2⟩
theorem al_mark (h : Rel g fl) : AlI E 8 139 [amI v1, amI v2] g fl := by
  obtain ⟨b, n, w, mk1, td, N, T, P, b', mk', T', P', H⟩ := h
  have hn := H.rc.n60
  have hWl := Wn_le (b := b) (n := n) hn
  have hSl := Sn_le (b := b) (w := w) hn
  have hWe := same_Wn H.same
  have n6 := H.rc.lt.n6
  refine b8 (refresh_ok H.rc (fun g1 C1 h15 R1 k1 => ?_))
  have H1 := H.kc k1 R1
  rw [C1.cc.W]
  have bad : ¬ (0 ≤ v1 ∧ v1 < Wn b n ∧ 0 ≤ v2 ∧ v2 < nc b n w v1.toNat) → cI E 139 [amR 49, amI v1, amI v2] g1 fl (fun y g2 f2 => (-2) = y ∧ Rel g2 f2) := fun cc => by
    have back : ∀ k : Nat, v1 = k → k < Wn b' n → 0 ≤ v2 → v2 < nc b' n w k → False := fun k a1 a2 a3 a4 => cc ⟨by omega, by omega, a3, by
      have e := H.same.nc (k := k) (by omega)
      rw [show v1.toNat = k by omega, e]; exact a4⟩
    exact markM_ok H1.rm (fun _ g2 q1 q2 => ⟨rfl, H1.klm q1 q2⟩) (fun k a1 a2 a3 a4 => (back k a1 a2 a3 a4).elim) (fun k m a1 a2 a3 a4 => (back k a1 a2 a3 a4).elim) (fun k a1 a2 a3 a4 => (back k a1 a2 a3 a4).elim)
  refine ⟨fun c => bad (by omega), fun c => ⟨fun c2 => ⟨fun c3 => bad (by omega), fun c3 => ?_⟩, fun c2 => bad (by omega)⟩⟩
  obtain ⟨k, hk⟩ : ∃ k : Nat, v1 = k := ⟨v1.toNat, by omega⟩
  have hkt : v1.toNat = k := by omega
  have hkW : k < Wn b n := by omega
  have hbb := H.same.nc hkW
  have hfs1 : fs b n w (k + 1) = fs b n w k + nc b n w k := rfl
  have hfm : fs b n w (k + 1) ≤ fs b n w (Wn b n) := fs_mono (by omega)
  have hSn : Sn b n w = fs b n w (Wn b n) := rfl
  have e15 : rd g1 15 30 v1 = nc b n w k := by rw [rd_in hk (by omega)]; exact C1.cc.wN k hkW
  have e12 : rd g1 12 30 v1 = wf b n k := by rw [rd_in hk (by omega)]; exact C1.cc.wS k hkW
  have e13 : rd g1 13 30 v1 = wt b n k := by rw [rd_in hk (by omega)]; exact C1.cc.wE k hkW
  obtain ⟨f1, f2, f3, f4, f5, -, -⟩ := word_in (b := b) hn hkW
  rw [e15, e12, e13]
  refine ⟨fun c4 => ?_, fun c4 => bad (fun y => c4 (by have := y.2.2.2; rw [hkt] at this; omega))⟩
  have hwx : wtx b n k = tx (g1 1) (wf b n k) (wt b n k - wf b n k) := wtx_of hn R1.eb hkW
  have hv2 : 0 ≤ v2 ∧ v2 < 60 := by omega
  have yes : v1 = (k : Nat) ∧ k < Wn b' n ∧ 0 ≤ v2 ∧ v2 < nc b' n w k := ⟨hk, by omega, by omega, by rw [← hbb]; exact c4⟩
  have notbad : ¬ (0 ≤ v1 ∧ v1 < Wn b' n ∧ 0 ≤ v2 ∧ v2 < nc b' n w v1.toNat) → False := fun y => y ⟨by omega, by omega, by omega, by rw [hkt]; exact yes.2.2.2⟩
  have keq : ∀ k2 : Nat, v1 = k2 → k2 = k := fun k2 z => by omega
  refine add_ok R1.lx R1.lt rfl (l := wt b n k - wf b n k) (by omega) (by omega) (fun hN hno => ⟨fun _ => ?_, fun y => absurd rfl y⟩) (fun m g6 m1 m2 L6 f6 => ⟨fun y => absurd y (by omega), fun _ => changed_ok (fun g8 q1 q2 q3 => ?_)⟩) (fun g6 hN hno L6 f6 => ⟨fun y => absurd y (by omega), fun _ => changed_ok (fun g8 q1 q2 q3 => ?_)⟩)
  · have hno' : ∀ i, i < N → T' i ≠ wtx b' n k := fun i hi z => by
      obtain ⟨m, m1, m2⟩ := (ls_found H.ls).2 ⟨i, hi, z⟩
      rw [← hbb, hwx] at m2
      exact hno m m1 m2
    exact markM_ok H1.rm (fun z => (notbad z).elim) (fun k2 a1 a2 a3 a4 a5 a6 g2 p1 p2 => ⟨rfl, H1.klm p1 p2⟩) (fun k2 m a1 a2 a3 a4 a5 a6 => by rw [keq k2 a1] at a6; exact absurd a6 (hno' m a5)) (fun k2 a1 a2 a3 a4 a5 => absurd a5 (by omega))
  · rw [← hwx] at m2
    have L8 : LX 7 8 9 6 3 N T (fup P m v2) g8 := L6.keep (fun a i z => q3 a i (by omega))
    have f8 : ∀ a i, ¬ (a = 0 ∧ (i = 15 ∨ i = 16)) → ¬ (a = 9) → g8 a i = g1 a i := fun a i z1 z2 => by rw [q3 a i z1]; exact f6 a i z2
    obtain ⟨lt1, ls1⟩ := LT_over R1.lt m1 hv2
    have r8 : RM b' n w mk' td N T' P' g8 := H1.rm.keep (fun a i _ _ _ => f8 a i (by omega) (by omega))
    obtain ⟨m', m1', m2'⟩ := (ls_found H.ls).1 ⟨m, m1, m2⟩
    rw [L8.s]
    refine markM_ok r8 (fun z => (notbad z).elim) (fun k2 a1 a2 a3 a4 a5 a6 => ?_) (fun k2 m3 a1 a2 a3 a4 a5 a6 g9 p1 p2 => ⟨rfl, ?_⟩) (fun k2 a1 a2 a3 a4 a5 a6 => ?_)
    · have hke := keq k2 a1; rw [hke, ← hbb] at a6; exact absurd m2' (a6 m' m1')
    · have hke := keq k2 a1; rw [hke, ← hbb] at a6
      obtain ⟨lt2, ls2⟩ := LT_over H1.rm.rb.lt a5 hv2
      have k9 : ∀ a i, ¬ (a = 49 ∧ (i = 6 ∨ i = 13 ∨ i = 19 ∨ (22 ≤ i ∧ i ≤ 26))) → ¬ (53 ≤ a ∧ a ≤ 68) → g9 a i = g8 a i := p1
      refine H1.lex (L8.keep (fun a i z => k9 a i (by omega) (by omega))) lt1 p2 lt2 (fun t p => ?_) (by rw [k9 _ _ (by omega) (by omega)]; exact q1) (by rw [k9 _ _ (by omega) (by omega)]; exact q2) (fun a i z1 z2 z3 z4 z5 => by rw [k9 a i z4 z5]; exact f8 a i z1 (by omega))
      rw [ls1, ls2, m2, a6, H.ls]
    · have hke := keq k2 a1; rw [hke, ← hbb] at a6; exact absurd m2' (a6 m' m1')
  · rw [← hwx] at hno L6
    have L8 : LX 7 8 9 6 3 (N + 1) (fup T N (wtx b n k)) (fup P N v2) g8 := L6.keep (fun a i z => q3 a i (by omega))
    have f8 : ∀ a i, ¬ (a = 0 ∧ (i = 15 ∨ i = 16)) → ¬ (a = 7 ∨ a = 8 ∨ a = 9) → ¬ (a = 6 ∧ i = 3) → g8 a i = g1 a i := fun a i z1 z2 z3 => by rw [q3 a i z1]; exact f6 a i z2 z3
    obtain ⟨lt1, ls1⟩ := LT_app R1.lt (by omega) hno hv2
    have r8 : RM b' n w mk' td N T' P' g8 := H1.rm.keep (fun a i _ _ _ => f8 a i (by omega) (by omega) (by omega))
    rw [L8.s]
    refine markM_ok r8 (fun z => (notbad z).elim) (fun k2 a1 a2 a3 a4 a5 => absurd a5 (by omega)) (fun k2 m3 a1 a2 a3 a4 a5 a6 => ?_) (fun k2 a1 a2 a3 a4 a5 a6 g9 p1 p2 => ⟨rfl, ?_⟩)
    · have hke := keq k2 a1; rw [hke, ← hbb] at a6
      obtain ⟨m, m1, m2⟩ := (ls_found H.ls).2 ⟨m3, a5, a6⟩
      exact absurd m2 (hno m m1)
    · have hke := keq k2 a1; rw [hke, ← hbb] at a6 p2
      obtain ⟨lt2, ls2⟩ := LT_app H1.rm.rb.lt (by omega) a6 hv2
      have k9 : ∀ a i, ¬ (a = 49 ∧ (i = 6 ∨ i = 13 ∨ i = 19 ∨ (22 ≤ i ∧ i ≤ 26))) → ¬ (53 ≤ a ∧ a ≤ 68) → g9 a i = g8 a i := p1
      refine H1.lex (L8.keep (fun a i z => k9 a i (by omega) (by omega))) lt1 p2 lt2 (fun t p => ?_) (by rw [k9 _ _ (by omega) (by omega)]; exact q1) (by rw [k9 _ _ (by omega) (by omega)]; exact q2) (fun a i z1 z2 z3 z4 z5 => by rw [k9 a i z4 z5]; exact f8 a i z1 z3 z2)
      rw [ls1, ls2, H.ls]
theorem al_unmark (h : Rel g fl) : AlI E 9 140 [amI v1] g fl := by
  obtain ⟨b, n, w, mk1, td, N, T, P, b', mk', T', P', H⟩ := h
  have hn := H.rc.n60
  have hWl := Wn_le (b := b) (n := n) hn
  have hWe := same_Wn H.same
  refine b9 (refresh_ok H.rc (fun g1 C1 h15 R1 k1 => ?_))
  have H1 := H.kc k1 R1
  rw [C1.cc.W]
  have bad : ¬ (0 ≤ v1 ∧ v1 < Wn b n) → cI E 140 [amR 49, amI v1] g1 fl (fun y g2 f2 => (-2) = y ∧ Rel g2 f2) := fun cc =>
    unmarkM_ok H1.rm (fun _ g2 q1 q2 => ⟨rfl, H1.klm q1 q2⟩) (fun k a1 a2 => absurd ⟨by omega, by omega⟩ cc) (fun k m a1 a2 => absurd ⟨by omega, by omega⟩ cc)
  refine ⟨fun c => bad (by omega), fun c => ⟨fun c2 => ?_, fun c2 => bad (by omega)⟩⟩
  obtain ⟨k, hk⟩ : ∃ k : Nat, v1 = k := ⟨v1.toNat, by omega⟩
  have hkW : k < Wn b n := by omega
  have hbb := H.same.nc hkW
  have e12 : rd g1 12 30 v1 = wf b n k := by rw [rd_in hk (by omega)]; exact C1.cc.wS k hkW
  have e13 : rd g1 13 30 v1 = wt b n k := by rw [rd_in hk (by omega)]; exact C1.cc.wE k hkW
  obtain ⟨f1, f2, f3, f4, f5, -, -⟩ := word_in (b := b) hn hkW
  rw [e12, e13]
  have hwx : wtx b n k = tx (g1 1) (wf b n k) (wt b n k - wf b n k) := wtx_of hn R1.eb hkW
  have keq : ∀ k2 : Nat, v1 = k2 → k2 = k := fun k2 z => by omega
  refine find_ok R1.lx R1.lt rfl (l := wt b n k - wf b n k) (by omega) (by omega) (fun x hx => ⟨fun cx => ?_, fun cx => ?_⟩)
  · rw [← hwx] at hx
    rcases hx with ⟨m, m1, m2, m3⟩ | ⟨x1, hno⟩
    · omega
    · refine unmarkM_ok H1.rm (fun z => absurd ⟨by omega, by omega⟩ z) (fun k2 a1 a2 a3 g2 p1 p2 => ⟨rfl, H1.klm p1 p2⟩) (fun k2 m a1 a2 a3 a4 => ?_)
      have hke := keq k2 a1; rw [hke, ← hbb] at a4
      obtain ⟨m', m1, m2⟩ := (ls_found H.ls).2 ⟨m, a3, a4⟩
      exact absurd m2 (hno m' m1)
  · rw [← hwx] at hx
    rcases hx with ⟨m, m1, m2, m3⟩ | ⟨x1, -⟩
    · refine remove_ok R1.lx R1.lt m3 m1 (fun g6 L6 f6 => changed_ok (fun g8 q1 q2 q3 => ?_))
      have L8 : LX 7 8 9 6 3 (N - 1) (fup T m (T (N - 1))) (fup P m (P (N - 1))) g8 := L6.keep (fun a i z => q3 a i (by omega))
      have f8 : ∀ a i, ¬ (a = 0 ∧ (i = 15 ∨ i = 16)) → ¬ (a = 7 ∨ a = 8 ∨ a = 9) → ¬ (a = 6 ∧ i = 3) → g8 a i = g1 a i := fun a i z1 z2 z3 => by rw [q3 a i z1]; exact f6 a i z2 z3
      obtain ⟨lt1, ls1⟩ := LT_swap R1.lt m1
      have r8 : RM b' n w mk' td N T' P' g8 := H1.rm.keep (fun a i _ _ _ => f8 a i (by omega) (by omega) (by omega))
      obtain ⟨m', m1', m2'⟩ := (ls_found H.ls).1 ⟨m, m1, m2⟩
      rw [L8.s]
      refine unmarkM_ok r8 (fun z => absurd ⟨by omega, by omega⟩ z) (fun k2 a1 a2 a3 => ?_) (fun k2 m3' a1 a2 a3 a4 g9 p1 p2 => ⟨rfl, ?_⟩)
      · have hke := keq k2 a1; rw [hke, ← hbb] at a3; exact absurd m2' (a3 m' m1')
      · have hke := keq k2 a1; rw [hke, ← hbb] at a4
        obtain ⟨lt2, ls2⟩ := LT_shift H1.rm.rb.lt a3
        have k9 : ∀ a i, ¬ (a = 49 ∧ (i = 6 ∨ i = 13 ∨ i = 19 ∨ (22 ≤ i ∧ i ≤ 26))) → ¬ (53 ≤ a ∧ a ≤ 68) → g9 a i = g8 a i := p1
        refine H1.lex (L8.keep (fun a i z => k9 a i (by omega) (by omega))) lt1 p2 lt2 (fun t p => ?_) (by rw [k9 _ _ (by omega) (by omega)]; exact q1) (by rw [k9 _ _ (by omega) (by omega)]; exact q2) (fun a i z1 z2 z3 z4 z5 => by rw [k9 a i z4 z5]; exact f8 a i z1 z3 z2)
        rw [ls1, ls2, m2, a4, H.ls]
    · exact absurd x1 cx
end BLEX
