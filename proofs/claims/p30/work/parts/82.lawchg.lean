/-! the calls that change, for the law -/
section LAWC
variable {E : am_E} {g : GG} {fl : FF} {v1 v2 : Int} {Q : Int → GG → FF → Prop} {b : Nat → Int} {n : Nat} {w mk1 td : Nat → Int} {N : Nat} {T : Nat → List Int} {P : Nat → Int} {w0 : Nat → Int}
/-- behind a change of the text, the ways or the lexicon -/
theorem RC.anew {n N : Nat} {T : Nat → List Int} {P : Nat → Int} {b w td : Nat → Int} (n60 : n ≤ 60) (gn : g 0 10 = n) (eb : b = nz (g 1) n) (ew : w = g 2) (ok : waysOK w) (lx : LX 7 8 9 6 3 N T P g) (lt : LT N T P) (et : g 4 = td) (w3 : ∀ i, 9 ≤ i → g 3 i = w i) (s1 : g 0 15 = 1) (s2 : g 0 16 = 1) : RC b n w (mkS T P N b n) td N T P g :=
  ⟨n60, gn, eb, ew, ok, lx, lt, rfl, et, w3, Or.inl s1, Or.inl s2⟩
theorem type_ok (R : RC b n w mk1 td N T P g) (hn : n < 60) (hv : 0 ≤ v1 ∧ v1 ≤ 255)
    (h : ∀ (g' : GG) (td' : Nat → Int), RC (fun i => if i = n then v1 else b i) (n + 1) w (mkS T P N (fun i => if i = n then v1 else b i) (n + 1)) td' N T P g' → g' 49 = g 49 → g' 50 = g 50 → Q ((n : Int) + 1) g' fl) : cI E 1 [amR 0, amI v1] g fl Q := by
  have gn := R.gn
  refine b1 ⟨fun c => absurd c (by omega), fun c => ⟨fun c2 => absurd c2 (by omega), fun c2 => ⟨fun c3 g4 e4 => ?_, fun c3 => absurd (by omega) c3⟩⟩⟩
  rw [wr_in gn (by omega)] at e4
  have f4 : g4 0 10 = n := by rw [e4]; (simp (disch := omega) only [up_at, up_ne]); exact gn
  refine ⟨rgI (by omega) (by omega), fun g5 e5 => textCh_ok (fun g6 q1 q2 q3 q4 => ?_)⟩
  rw [f4] at e5
  have f6 : ∀ a i, ¬ (a = 4) → ¬ (a = 0 ∧ (i = 10 ∨ i = 15 ∨ i = 16)) → ¬ (a = 1) → g6 a i = g a i := fun a i z1 z2 z3 => by rw [q4 a i z1 (by omega), e5, e4]; (simp (disch := omega) only [up_at, up_ne])
  have e6 : g6 0 10 = (n : Int) + 1 := by rw [q4 _ _ (by omega) (by omega), e5]; (simp (disch := omega) only [up_at, up_ne])
  have x1 : ∀ i, g6 1 i = if i = n then v1 else g 1 i := fun i => by
    rw [q4 _ _ (by omega) (by omega), e5, e4]
    by_cases y : i = n
    · rw [y, if_pos rfl]; (simp (disch := omega) only [up_at, up_ne])
    · rw [if_neg y]; (simp (disch := omega) only [up_at, up_ne])
  rw [e6]
  refine h g6 (g6 4) (RC.anew (by omega) (by rw [e6]; omega) (funext fun i => ?_) ?_ R.ok (R.lx.keep (fun a i z => f6 a i (by omega) (by omega) (by omega))) R.lt rfl (fun i hi => ?_) q2 q3) (funext fun i => f6 _ _ (by omega) (by omega) (by omega)) (funext fun i => f6 _ _ (by omega) (by omega) (by omega))
  · show (if i = n then v1 else b i) = nz (g6 1) (n + 1) i
    unfold nz
    rw [x1]
    by_cases y : i = n
    · rw [if_pos y, if_pos y, if_pos (by omega)]
    · rw [if_neg y, if_neg y, R.eb]
      unfold nz
      by_cases y2 : i < n
      · rw [if_pos y2, if_pos (by omega)]
      · rw [if_neg y2, if_neg (by omega)]
  · rw [R.ew]; exact funext fun i => (f6 _ _ (by omega) (by omega) (by omega)).symm
  · rw [f6 _ _ (by omega) (by omega) (by omega)]; exact R.w3 i hi
theorem way_ok (hE : EW E) (H : LI b n w mk1 td N T P w0 g) {k : Nat} (hv : v1 = k) (hk : k < 9) (h1 : loW k ≤ v2) (h2 : v2 ≤ hiW k)
    (h : ∀ g' : GG, LI b n (fun i => if i = k then v2 else w i) mk1 td N T P w0 g' → Q (w k) g' fl) : cI E 5 [amR 0, amI v1, amI v2] g fl Q := by
  have hE1 := hE.1
  have hE2 := hE.2.1
  obtain ⟨R, H2, H3, H4⟩ := H
  obtain ⟨e0, e1⟩ := hE.at hk hv
  refine b5 ⟨fun c => absurd c (by omega), fun _ => ⟨fun _ => ⟨by omega, fun c2 => absurd (by rw [e0] at c2; exact c2) (by omega), fun c2 => ⟨by omega, fun c3 => absurd (by rw [e1] at c3; exact c3) (by omega), fun c3 g5 e5 => changed_ok (fun g6 q1 q2 q3 => ?_)⟩⟩, fun c => absurd (by omega) c⟩⟩
  rw [wr_in hv hk] at e5
  have f6 : ∀ a i, ¬ (a = 0 ∧ (i = 15 ∨ i = 16)) → ¬ (a = 2 ∧ i = k) → g6 a i = g a i := fun a i z1 z2 => by rw [q3 a i z1, e5]; (simp (disch := omega) only [up_at, up_ne])
  have x2 : ∀ i, g6 2 i = if i = k then v2 else w i := fun i => by
    rw [q3 _ _ (by omega), e5, R.ew]
    by_cases y : i = k
    · rw [y, if_pos rfl]; (simp (disch := omega) only [up_at, up_ne])
    · rw [if_neg y]; (simp (disch := omega) only [up_at, up_ne])
  rw [rd_in hv hk, ← R.ew]
  refine h g6 (LI.of ⟨?_, fun i hi => by rw [f6 _ _ (by omega) (by omega)]; exact H2 i hi, by rw [f6 _ _ (by omega) (by omega)]; exact H3, fun i hi => by rw [f6 _ _ (by omega) (by omega)]; exact H4 i hi⟩)
  rw [R.em]
  refine RC.anew R.n60 (by rw [f6 _ _ (by omega) (by omega)]; exact R.gn) ?_ (funext fun i => (x2 i).symm) (waysOK_up R.ok hk h1 h2 (fun _ => rfl)) (R.lx.keep (fun a i z => f6 a i (by omega) (by omega))) R.lt ?_ (fun i hi => ?_) q1 q2
  · rw [R.eb, show g6 1 = g 1 from funext fun i => f6 _ _ (by omega) (by omega)]
  · rw [← R.et]; exact funext fun i => f6 _ _ (by omega) (by omega)
  · show g6 3 i = if i = k then v2 else w i
    rw [if_neg (by omega), f6 _ _ (by omega) (by omega)]; exact R.w3 i hi
theorem copyH_ok (H : LI b n w mk1 td N T P w0 g)
    (h : ∀ (g' : GG) (td' : Nat → Int), (∀ s, s < Sn b n w → td' s = (heP b n w mk1).1 s) → LI b n w mk1 td' N T P w0 g' → Q (hnA b n w mk1 : Nat) g' fl) : cI E 14 [amR 0] g fl Q := by
  have hn := H.1.n60
  have hSl := Sn_le (b := b) (w := w) hn
  refine b14 (refresh_ok H.1 (fun g1 C1 h15 R1 k1 => ?_))
  have H1 := H.kc k1 R1
  have kc : ∀ (f j : Nat) (v : Int) (g2 : GG), j + f = Sn b n w → v = j → (∀ i, g2 4 i = if i < j then (heP b n w mk1).1 i else td i) → (∀ a i, ¬ (a = 4) → g2 a i = g1 a i) → am_X E 14 (4, (0, 0), [some (amR 0), some (amI v)], [], mk g2 fl) (RI Q) := by
    intro f
    induction f with
    | zero =>
      intro j v g2 hj hv h4 hf
      have : j = Sn b n w := by omega
      subst this
      have hS2 : g2 11 11 = Sn b n w := by rw [hf _ _ (by omega)]; exact C1.cc.S
      refine b14_4 ⟨fun c => absurd c (by omega), fun _ g3 e3 => ?_⟩
      have f3 : ∀ a i, ¬ (a = 0 ∧ i = 16) → g3 a i = g2 a i := fun a i z => by rw [e3]; (simp (disch := omega) only [up_at, up_ne])
      refine heardBeats_ok (b := b) (n := n) (w := w) (mk' := mk1) (by omega) (by rw [f3 _ _ (by omega)]; exact hS2) (fun s hs => by rw [f3 _ _ (by omega), hf _ _ (by omega)]; exact C1.he s hs) ?_
      refine h g3 (g3 4) (fun s hs => by rw [f3 _ _ (by omega), h4, if_pos hs]) (LI.of ⟨R1.told (fun a i z1 z2 z3 z4 => by rw [f3 a i z4]; exact hf a i z2) (by rw [e3]; (simp (disch := omega) only [up_at, up_ne])), fun i hi => ?_, ?_, fun i hi => ?_⟩)
      · rw [f3 _ _ (by omega), hf _ _ (by omega)]; exact H1.2.1 i hi
      · rw [f3 _ _ (by omega), hf _ _ (by omega)]; exact H1.2.2.1
      · rw [f3 _ _ (by omega), hf _ _ (by omega)]; exact H1.2.2.2 i hi
    | succ f ih =>
      intro j v g2 hj hv h4 hf
      have hS2 : g2 11 11 = Sn b n w := by rw [hf _ _ (by omega)]; exact C1.cc.S
      refine b14_4 ⟨fun _ g3 e3 => ⟨rgI (by omega) (by omega), ?_⟩, fun c => absurd (by omega) c⟩
      rw [wr_in hv (by omega), rd_in hv (by omega), hf 26 _ (by omega), C1.he j (by omega)] at e3
      refine ih (j + 1) _ g3 (by omega) (by omega) (fun i => ?_) (fun a i z => by rw [e3]; (simp (disch := omega) only [up_at, up_ne]); exact hf a i z)
      rw [e3]
      by_cases c : i = j
      · rw [c]; (simp (disch := omega) only [up_at, up_ne]); rw [if_pos (by omega)]
      · (simp (disch := omega) only [up_at, up_ne]); rw [h4 i]
        by_cases c2 : i < j
        · rw [if_pos c2, if_pos (by omega)]
        · rw [if_neg c2, if_neg (by omega)]
  exact kc (Sn b n w) 0 0 g1 (by omega) rfl (fun i => by rw [if_neg (by omega), R1.et]) (fun _ _ _ => rfl)
theorem learn_ok (H : LI b n w mk1 td N T P w0 g)
    (h : ∀ (g' : GG) (c : Nat), c < 36 → (nsA b n w mk1 td).1 = c → (nsA b n w mk1 td).2 = (nrA b n (wc w c) mk1 td : Nat) → LI b n (wc w c) mk1 td N T P w0 g' → Q (nrA b n (wc w c) mk1 td : Nat) g' fl) : cI E 17 [amR 0] g fl Q := by
  have hn := H.1.n60
  obtain ⟨n1, n2, k, hk, nk1, nk2⟩ := nsA_in (b := b) (n := n) (w := w) (mk' := mk1) (td := td)
  refine b17 (refresh_ok H.1 (fun g0 C0 h15 R0 k0 => seek_ok R0 C0 h15 (fun g1 C1 h15' R1 k1 e13 e14 => ?_)))
  have H1 := H.kc (k0.trans k1) R1
  have kc : ∀ (f j : Nat) (v : Int) (g2 : GG), j + f = 8 → 4 ≤ j → v = j → (∀ i, g2 2 i = if i < j then wc w k i else w i) → (∀ a i, ¬ (a = 2) → g2 a i = g1 a i) → am_X E 17 (6, (0, 0), [some (amR 0), some (amI v)], [], mk g2 fl) (RI Q) := by
    intro f
    induction f with
    | zero =>
      intro j v g2 hj hj4 hv h2 hf
      refine b17_6 ⟨fun _ => changed_ok (fun g3 q1 q2 q3 => ?_), fun c => absurd (by omega) c⟩
      have f3 : ∀ a i, ¬ (a = 0 ∧ (i = 15 ∨ i = 16)) → ¬ (a = 2) → g3 a i = g1 a i := fun a i z1 z2 => by rw [q3 a i z1]; exact hf a i z2
      have e2 : g3 2 = wc w k := funext fun i => by
        rw [q3 _ _ (by omega), h2]
        by_cases c : i < j
        · rw [if_pos c]
        · rw [if_neg c, wc_o (by omega) (by omega) (by omega) (by omega)]
      rw [f3 _ _ (by omega) (by omega), e14, nk2]
      refine h g3 k hk nk1 nk2 (LI.of ⟨?_, fun i hi => by rw [f3 _ _ (by omega) (by omega)]; exact H1.2.1 i hi, by rw [f3 _ _ (by omega) (by omega)]; exact H1.2.2.1, fun i hi => by rw [f3 _ _ (by omega) (by omega)]; exact H1.2.2.2 i hi⟩)
      rw [R1.em]
      refine RC.anew hn (by rw [f3 _ _ (by omega) (by omega)]; exact R1.gn) ?_ e2.symm (wc_ok R1.ok hk) (R1.lx.keep (fun a i z => f3 a i (by omega) (by omega))) R1.lt ?_ (fun i hi => ?_) q1 q2
      · rw [show g3 1 = g1 1 from funext fun i => f3 _ _ (by omega) (by omega)]; exact R1.eb
      · rw [← R1.et]; exact funext fun i => f3 _ _ (by omega) (by omega)
      · rw [wc_o (by omega) (by omega) (by omega) (by omega), f3 _ _ (by omega) (by omega)]; exact R1.w3 i hi
    | succ f ih =>
      intro j v g2 hj hj4 hv h2 hf
      refine b17_6 ⟨fun c => absurd c (by omega), fun _ => footWay_ok (w := w) (c := k) (k := j) (by rw [hf _ _ (by omega), e13]; exact nk1) hv hk (by omega) (fun g3 e3 => ⟨rgI (by omega) (by omega), ?_⟩)⟩
      rw [wr_in hv (by omega)] at e3
      refine ih (j + 1) _ g3 (by omega) (by omega) (by omega) (fun i => ?_) (fun a i z => by rw [e3]; (simp (disch := omega) only [up_at, up_ne]); exact hf a i z)
      rw [e3]
      by_cases c : i = j
      · rw [c]; (simp (disch := omega) only [up_at, up_ne]); rw [if_pos (by omega)]
      · (simp (disch := omega) only [up_at, up_ne]); rw [h2 i]
        by_cases c2 : i < j
        · rw [if_pos c2, if_pos (by omega)]
        · rw [if_neg c2, if_neg (by omega)]
  refine kc 4 4 4 g1 (by omega) (by omega) rfl (fun i => ?_) (fun _ _ _ => rfl)
  by_cases c : i < 4
  · rw [if_pos c, wc_o (by omega) (by omega) (by omega) (by omega), ← R1.ew]
  · rw [if_neg c, ← R1.ew]
theorem mark_ok (H : LI b n w mk1 td N T P w0 g) {k : Nat} (hk : v1 = k) (hkW : k < Wn b n) (hv2 : 0 ≤ v2 ∧ v2 < nc b n w k) (hN6 : N < 6)
    (h : ∀ (g' : GG) (N' : Nat) (T' : Nat → List Int) (P' : Nat → Int), 1 ≤ N' → N' ≤ N + 1 → mkS T' P' N' b n k = v2 → LI b n w (mkS T' P' N' b n) td N' T' P' w0 g' → Q (N' : Nat) g' fl) : cI E 8 [amR 0, amI v1, amI v2] g fl Q := by
  have hn := H.1.n60
  have hWl := Wn_le (b := b) (n := n) hn
  have hSl := Sn_le (b := b) (w := w) hn
  refine b8 (refresh_ok H.1 (fun g1 C1 h15 R1 k1 => ?_))
  have H1 := H.kc k1 R1
  rw [C1.cc.W]
  have e15 : rd g1 15 30 v1 = nc b n w k := by rw [rd_in hk (by omega)]; exact C1.cc.wN k hkW
  have e12 : rd g1 12 30 v1 = wf b n k := by rw [rd_in hk (by omega)]; exact C1.cc.wS k hkW
  have e13 : rd g1 13 30 v1 = wt b n k := by rw [rd_in hk (by omega)]; exact C1.cc.wE k hkW
  obtain ⟨f1, f2, f3, f4, f5, -, -⟩ := word_in (b := b) hn hkW
  have hncl := (nc_word (w := w) hn hkW).2.2.2
  refine ⟨fun c => absurd c (by omega), fun c => ⟨fun c2 => ⟨fun c3 => absurd c3 (by omega), fun c3 => ?_⟩, fun c2 => absurd (by omega) c2⟩⟩
  rw [e15, e12, e13]
  refine ⟨fun c4 => ?_, fun c4 => absurd hv2.2 c4⟩
  have hwx : wtx b n k = tx (g1 1) (wf b n k) (wt b n k - wf b n k) := wtx_of hn R1.eb hkW
  have hv60 : 0 ≤ v2 ∧ v2 < 60 := by omega
  have fin : ∀ (g8 : GG) (N' : Nat) (T' : Nat → List Int) (P' : Nat → Int), LX 7 8 9 6 3 N' T' P' g8 → LT N' T' P' → g8 0 15 = 1 → g8 0 16 = 1 → (∀ a i, ¬ (a = 0 ∧ (i = 15 ∨ i = 16)) → ¬ (a = 7 ∨ a = 8 ∨ a = 9) → ¬ (a = 6 ∧ i = 3) → g8 a i = g1 a i) → LI b n w (mkS T' P' N' b n) td N' T' P' w0 g8 := by
    intro g8 N' T' P' L8 lt8 q1 q2 f8
    refine LI.of ⟨RC.anew hn (by rw [f8 _ _ (by omega) (by omega) (by omega)]; exact R1.gn) ?_ ?_ R1.ok L8 lt8 ?_ (fun i hi => ?_) q1 q2, fun i hi => by rw [f8 _ _ (by omega) (by omega) (by omega)]; exact H1.2.1 i hi, by rw [f8 _ _ (by omega) (by omega) (by omega)]; exact H1.2.2.1, fun i hi => by rw [f8 _ _ (by omega) (by omega) (by omega)]; exact H1.2.2.2 i hi⟩
    · rw [show g8 1 = g1 1 from funext fun i => f8 _ _ (by omega) (by omega) (by omega)]; exact R1.eb
    · rw [show g8 2 = g1 2 from funext fun i => f8 _ _ (by omega) (by omega) (by omega)]; exact R1.ew
    · rw [← R1.et]; exact funext fun i => f8 _ _ (by omega) (by omega) (by omega)
    · rw [f8 _ _ (by omega) (by omega) (by omega)]; exact R1.w3 i hi
  refine add_ok R1.lx R1.lt rfl (l := wt b n k - wf b n k) (by omega) (by omega) (fun hN hno => absurd hN (by omega)) (fun m g6 m1 m2 L6 f6 => ⟨fun y => absurd y (by omega), fun _ => changed_ok (fun g8 q1 q2 q3 => ?_)⟩) (fun g6 hN hno L6 f6 => ⟨fun y => absurd y (by omega), fun _ => changed_ok (fun g8 q1 q2 q3 => ?_)⟩)
  · rw [← hwx] at m2
    have L8 : LX 7 8 9 6 3 N T (fup P m v2) g8 := L6.keep (fun a i z => q3 a i (by omega))
    obtain ⟨lt1, -⟩ := LT_over R1.lt m1 hv60
    rw [L8.s]
    refine h g8 N T (fup P m v2) (by omega) (by omega) ?_ (fin g8 N T _ L8 lt1 q1 q2 (fun a i z1 z2 z3 => by rw [q3 a i z1]; exact f6 a i (by omega)))
    show lk T (fup P m v2) (wtx b n k) N = v2
    rw [lk_some lt1.d m1 m2, fup_at]
  · rw [← hwx] at hno L6
    have L8 : LX 7 8 9 6 3 (N + 1) (fup T N (wtx b n k)) (fup P N v2) g8 := L6.keep (fun a i z => q3 a i (by omega))
    obtain ⟨lt1, -⟩ := LT_app R1.lt (by omega) hno hv60
    rw [L8.s]
    refine h g8 (N + 1) _ _ (by omega) (by omega) ?_ (fin g8 (N + 1) _ _ L8 lt1 q1 q2 (fun a i z1 z2 z3 => by rw [q3 a i z1]; exact f6 a i z2 z3))
    show lk (fup T N (wtx b n k)) (fup P N v2) (wtx b n k) (N + 1) = v2
    rw [lk_some lt1.d (k := N) (by omega) fup_at, fup_at]
end LAWC
