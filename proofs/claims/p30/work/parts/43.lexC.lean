/-! the lexicon of both, and marks of words -/
section LEXC
variable {E : am_E} {g : GG} {fl : FF} {N : Nat} {T : Nat → List Int} {P : Nat → Int}
theorem isText_loop {Q : Int → GG → FF → Prop} {k p l : Nat} {v1 v3 v4 : Int} (h1 : v1 = k) (h3 : v3 = p) (h4 : v4 = (p + l : Nat)) (hk : k < 6) (hl : p + l ≤ 60) (hy : (∀ i, i < l → g 7 (60 * k + i) = g 1 (p + i)) → Q 1 g fl) (hn : (¬ ∀ i, i < l → g 7 (60 * k + i) = g 1 (p + i)) → Q 0 g fl) :
    ∀ (f i : Nat) (v5 : Int), i + f = l → v5 = (p + i : Nat) → (∀ j, j < i → g 7 (60 * k + j) = g 1 (p + j)) →
      am_X E 54 (2, (0, 0), [some (amR 6), some (amI v1), some (amR 1), some (amI v3), some (amI v4), some (amI v5)], [], mk g fl) (RI Q) := by
  intro f
  induction f with
  | zero =>
    intro i v5 h0 h5 hi
    refine b54_2 ⟨fun c => absurd c (by omega), fun _ => hy (fun j hj => hi j (by omega))⟩
  | succ f ih =>
    intro i v5 h0 h5 hi
    have e7 : rd g 7 360 (((v1 * 60) + v5) - v3) = g 7 (60 * k + i) := rd_in (by omega) (by omega)
    have e1 : rd g 1 60 v5 = g 1 (p + i) := rd_in h5 (by omega)
    refine b54_2 ⟨fun _ => ⟨rgI (by omega) (by omega), rgI (by omega) (by omega), rgI (by omega) (by omega), fun c => ⟨rgI (by omega) (by omega), ih (i + 1) _ (by omega) (by omega) (fun j hj => ?_)⟩, fun c => hn (fun z => ?_)⟩, fun c => absurd (by omega) c⟩
    · rw [e7, e1] at c
      by_cases hji : j = i
      · subst hji; exact c
      · exact hi j (by omega)
    · rw [e7, e1] at c
      exact c (z i (by omega))
theorem find_ok {Q : Int → GG → FF → Prop} {p l : Nat} {v2 v3 : Int} (hL : LX 7 8 9 6 3 N T P g) (hT : LT N T P) (h2 : v2 = p) (h3 : v3 = (p + l : Nat)) (hl : p + l ≤ 60) (h : ∀ x : Int, isF N T (tx (g 1) p l) x → Q x g fl) : cI E 53 [amR 6, amR 1, amI v2, amI v3] g fl Q := by
  have n6 := hT.n6
  have key : ∀ (f k : Nat) (v4 : Int), k + f = N → v4 = k → (∀ j, j < k → T j ≠ tx (g 1) p l) → am_X E 53 (2, (0, 0), [some (amR 6), some (amR 1), some (amI v2), some (amI v3), some (amI v4)], [], mk g fl) (RI Q) := by
    intro f
    induction f with
    | zero =>
      intro k v4 h0 h4 hj
      have hs := hL.s
      exact b53_2 ⟨fun c => absurd c (by omega), fun _ => h (-1) (Or.inr ⟨rfl, fun j hj2 => hj j (by omega)⟩)⟩
    | succ f ih =>
      intro k v4 h0 h4 hj
      have hs := hL.s
      obtain ⟨m, m1, m2, m3⟩ := hL.l k (by omega)
      have e8 : rd g 8 6 v4 = m := by rw [rd_in h4 (by omega)]; exact m2
      have nxt : T k ≠ tx (g 1) p l → am_X E 53 (2, (0, 0), [some (amR 6), some (amR 1), some (amI v2), some (amI v3), some (amI (v4 + 1))], [], mk g fl) (RI Q) := by
        intro hne
        refine ih (k + 1) _ (by omega) (by omega) (fun j hj2 => ?_)
        by_cases hjk : j = k
        · subst hjk; exact hne
        · exact hj j (by omega)
      refine b53_2 ⟨fun _ => ⟨rgI (by omega) (by omega), fun c => ?_, fun c => ⟨rgI (by omega) (by omega), nxt ?_⟩⟩, fun c => absurd (by omega) c⟩
      · rw [e8] at c
        have hml : m = l := by omega
        refine b54 (isText_loop (k := k) (p := p) (l := l) h4 h2 h3 (by omega) hl (fun z => ⟨fun y => absurd y (by omega), fun _ => ?_⟩) (fun z => ⟨fun _ => ⟨rgI (by omega) (by omega), nxt ?_⟩, fun y => absurd rfl y⟩) l 0 _ (by omega) (by omega) (fun j hj2 => by omega))
        · refine h v4 (Or.inl ⟨k, by omega, ?_, h4⟩)
          rw [m3]; exact tx_eq.2 ⟨hml, fun i hi => z i (by omega)⟩
        · rw [m3]
          intro y
          exact z (fun i hi => (tx_eq.1 y).2 i (by omega))
      · rw [e8] at c
        rw [m3]
        intro y
        have := (tx_eq.1 y).1
        omega
  exact b53 (key N 0 0 (by omega) rfl (fun j hj => by omega))
theorem addLet_loop {Q : Int → GG → FF → Prop} {p l k : Nat} {g0 : GG} {v2 v3 v4 v5 : Int} (h2 : v2 = p) (h3 : v3 = (p + l : Nat)) (h5 : v5 = k) (hk : k < 6) (hl : p + l ≤ 60)
    (h : ∀ g' : GG, (∀ i, i < l → g' 7 (60 * k + i) = g0 1 (p + i)) → (∀ i, ¬ (60 * k ≤ i ∧ i < 60 * k + 60) → g' 7 i = g0 7 i) → g' 9 k = v4 → (∀ i, i ≠ k → g' 9 i = g0 9 i) → (∀ a i, a ≠ 7 → a ≠ 9 → g' a i = g0 a i) → Q 1 g' fl) :
    ∀ (f i : Nat) (v6 : Int) (g : GG), i + f = l → v6 = (p + i : Nat) → (∀ j, j < i → g 7 (60 * k + j) = g0 1 (p + j)) → (∀ i, ¬ (60 * k ≤ i ∧ i < 60 * k + 60) → g 7 i = g0 7 i) → (∀ a i, a ≠ 7 → g a i = g0 a i) →
      am_X E 55 (33, (0, 0), [some (amR 6), some (amR 1), some (amI v2), some (amI v3), some (amI v4), some (amI v5), some (amI v6)], [], mk g fl) (RI Q) := by
  intro f
  induction f with
  | zero =>
    intro i v6 g h0 h6 hi ho hfr
    refine b55_33 ⟨fun c => absurd c (by omega), fun _ g2 e2 => ?_⟩
    rw [wr_in h5 hk] at e2
    refine h g2 (fun j hj => ?_) (fun j hj => ?_) ?_ (fun j hj => ?_) (fun a j z1 z2 => ?_)
    · rw [e2]; (simp (disch := omega) only [up_at, up_ne]); exact hi j (by omega)
    · rw [e2]; (simp (disch := omega) only [up_at, up_ne]); exact ho j hj
    · rw [e2]; (simp (disch := omega) only [up_at, up_ne])
    · rw [e2]; (simp (disch := omega) only [up_at, up_ne]); exact hfr _ _ (by omega)
    · rw [e2]; (simp (disch := omega) only [up_at, up_ne]); exact hfr _ _ z1
  | succ f ih =>
    intro i v6 g h0 h6 hi ho hfr
    have e1 : rd g 1 60 v6 = g0 1 (p + i) := by rw [rd_in h6 (by omega)]; exact hfr _ _ (by omega)
    refine b55_33 ⟨fun _ => ⟨rgI (by omega) (by omega), rgI (by omega) (by omega), rgI (by omega) (by omega), fun g2 e2 => ⟨rgI (by omega) (by omega), ?_⟩⟩, fun c => absurd (by omega) c⟩
    rw [wr_in (k := 60 * k + i) (by omega) (by omega), e1] at e2
    refine ih (i + 1) _ g2 (by omega) (by omega) (fun j hj => ?_) (fun j hj => ?_) (fun a j z => ?_)
    · rw [e2]
      by_cases hji : j = i
      · subst hji; (simp (disch := omega) only [up_at, up_ne])
      · (simp (disch := omega) only [up_at, up_ne]); exact hi j (by omega)
    · rw [e2]; (simp (disch := omega) only [up_at, up_ne]); exact ho j hj
    · rw [e2]; (simp (disch := omega) only [up_at, up_ne]); exact hfr _ _ z
/-- a mark for a text: found or not -/
theorem add_ok {Q : Int → GG → FF → Prop} {p l : Nat} {v2 v3 v4 : Int} (hL : LX 7 8 9 6 3 N T P g) (hT : LT N T P) (h2 : v2 = p) (h3 : v3 = (p + l : Nat)) (hl : p + l ≤ 60)
    (h0 : N = 6 → (∀ k, k < N → T k ≠ tx (g 1) p l) → Q 0 g fl)
    (h1 : ∀ (k : Nat) (g' : GG), k < N → T k = tx (g 1) p l → LX 7 8 9 6 3 N T (fup P k v4) g' → (∀ a i, a ≠ 9 → g' a i = g a i) → Q 1 g' fl)
    (h9 : ∀ g' : GG, N < 6 → (∀ k, k < N → T k ≠ tx (g 1) p l) → LX 7 8 9 6 3 (N + 1) (fup T N (tx (g 1) p l)) (fup P N v4) g' → (∀ a i, ¬ (a = 7 ∨ a = 8 ∨ a = 9) → ¬ (a = 6 ∧ i = 3) → g' a i = g a i) → Q 1 g' fl) : cI E 55 [amR 6, amR 1, amI v2, amI v3, amI v4] g fl Q := by
  have n6 := hT.n6
  have hs := hL.s
  refine b55 (find_ok hL hT h2 h3 hl (fun x hx => ⟨fun c => ⟨fun c2 => ⟨rgI (by omega) (by omega), fun g4 e4 => ⟨rgI (by omega) (by omega), fun g5 e5 => ?_⟩⟩, fun c2 => ?_⟩, fun c => fun g3 e3 => ?_⟩))
  · have hno : ∀ k, k < N → T k ≠ tx (g 1) p l := by
      rcases hx with ⟨k, x1, x2, x3⟩ | ⟨x1, x2⟩
      · omega
      · exact x2
    rw [wr_in (k := N) hs (by omega)] at e5
    refine addLet_loop (p := p) (l := l) (k := N) (g0 := g5) h2 h3 hs (by omega) hl (fun g' q1 q2 q3 q4 q5 => ?_) l 0 _ g5 (by omega) h2 (fun j hj => by omega) (fun _ _ => rfl) (fun _ _ _ => rfl)
    have r1 : ∀ i, g5 1 i = g 1 i := by intro i; rw [e5, e4]; (simp (disch := omega) only [up_at, up_ne])
    have r7 : ∀ i, g5 7 i = g 7 i := by intro i; rw [e5, e4]; (simp (disch := omega) only [up_at, up_ne])
    refine h9 g' (by omega) hno ⟨?_, fun k hk => ?_, fun k hk => ?_⟩ (fun a i z1 z2 => ?_)
    · rw [q5 _ _ (by omega) (by omega), e5, e4]; (simp (disch := omega) only [up_at, up_ne]); omega
    · by_cases hkN : k = N
      · subst hkN
        refine ⟨l, by omega, ?_, ?_⟩
        · rw [q5 _ _ (by omega) (by omega), e5]; (simp (disch := omega) only [up_at, up_ne]); omega
        · rw [fup_at]
          exact tx_eq.2 ⟨rfl, fun i hi => by rw [q1 i hi, r1]⟩
      · obtain ⟨m, m1, m2, m3⟩ := hL.l k (by omega)
        refine ⟨m, m1, ?_, ?_⟩
        · rw [q5 _ _ (by omega) (by omega), e5, e4]; (simp (disch := omega) only [up_at, up_ne]); exact m2
        · rw [fup_ne hkN, m3]
          exact tx_eq.2 ⟨rfl, fun i hi => by rw [q2 _ (by omega), r7]⟩
    · by_cases hkN : k = N
      · subst hkN; rw [fup_at]; exact q3
      · rw [fup_ne hkN, q4 k hkN, e5, e4]; (simp (disch := omega) only [up_at, up_ne]); exact hL.p k (by omega)
    · rw [q5 _ _ (by omega) (by omega), e5, e4]; (simp (disch := omega) only [up_at, up_ne])
  · refine h0 (by omega) ?_
    rcases hx with ⟨k, x1, x2, x3⟩ | ⟨x1, x2⟩
    · omega
    · exact x2
  · rcases hx with ⟨k, x1, x2, x3⟩ | ⟨x1, x2⟩
    · rw [wr_in x3 (by omega)] at e3
      have fr : ∀ a i, a ≠ 9 → g3 a i = g a i := by intro a i z; rw [e3]; (simp (disch := omega) only [up_at, up_ne])
      refine h1 k g3 x1 x2 ⟨by rw [fr _ _ (by omega)]; exact hs, fun j hj => ?_, fun j hj => ?_⟩ fr
      · obtain ⟨m, m1, m2, m3⟩ := hL.l j hj
        refine ⟨m, m1, by rw [fr _ _ (by omega)]; exact m2, ?_⟩
        rw [m3]
        exact tx_eq.2 ⟨rfl, fun i hi => (fr _ _ (by omega)).symm⟩
      · by_cases hjk : j = k
        · subst hjk; rw [fup_at, e3]; (simp (disch := omega) only [up_at, up_ne])
        · rw [fup_ne hjk, e3]; (simp (disch := omega) only [up_at, up_ne]); exact hL.p j hj
    · exact absurd x1 c
/-- the text of a word -/
def wtx (b : Nat → Int) (n k : Nat) : List Int := tx b (wf b n k) (wt b n k - wf b n k)
def mkS (T : Nat → List Int) (P : Nat → Int) (N : Nat) (b : Nat → Int) (n k : Nat) : Int := lk T P (wtx b n k) N
theorem wtx_of {b : Nat → Int} {n k : Nat} {r : Nat → Int} (hn : n ≤ 60) (hb : b = nz r n) (hk : k < Wn b n) : wtx b n k = tx r (wf b n k) (wt b n k - wf b n k) := by
  obtain ⟨f1, f2, f3, f4, f5, -, -⟩ := word_in (b := b) hn hk
  exact tx_eq.2 ⟨rfl, fun i hi => by rw [hb, nz_in]; rw [← hb]; omega⟩
theorem lookUp_ok {Q : GG → FF → Prop} {b : Nat → Int} {n : Nat} {w : Nat → Int} (hn : n ≤ 60) (hb : b = nz (g 1) n) (hL : LX 7 8 9 6 3 N T P g) (hT : LT N T P) (hC : CC b n w g)
    (h : ∀ g' : GG, (∀ k, k < Wn b n → g' 16 k = mkS T P N b n k) → (∀ a i, a ≠ 16 → g' a i = g a i) → Q g' fl) : cV E 72 [amR 11, amR 6, amR 1] g fl Q := by
  have hWl := Wn_le (b := b) (n := n) hn
  have key : ∀ (f k : Nat) (v3 : Int) (g1 : GG), k + f = Wn b n → v3 = k → (∀ j, j < k → g1 16 j = mkS T P N b n j) → (∀ a i, a ≠ 16 → g1 a i = g a i) → am_X E 72 (2, (0, 0), [some (amR 11), some (amR 6), some (amR 1), some (amI v3), none], [], mk g1 fl) (RV Q) := by
    intro f
    induction f with
    | zero =>
      intro k v3 g1 h0 h3 hj hfr
      have hW : g1 11 10 = Wn b n := by rw [hfr _ _ (by omega)]; exact hC.W
      exact b72_2 ⟨fun c => absurd c (by omega), fun _ => h g1 (fun j hj2 => hj j (by omega)) hfr⟩
    | succ f ih =>
      intro k v3 g1 h0 h3 hj hfr
      have hkW : k < Wn b n := by omega
      have hW : g1 11 10 = Wn b n := by rw [hfr _ _ (by omega)]; exact hC.W
      obtain ⟨f1, f2, f3, f4, f5, -, -⟩ := word_in (b := b) hn hkW
      have hL1 : LX 7 8 9 6 3 N T P g1 := hL.keep (fun a i z => hfr _ _ (by omega))
      have e12 : rd g1 12 30 v3 = wf b n k := by rw [rd_in h3 (by omega), hfr _ _ (by omega)]; exact hC.wS k hkW
      have e13 : rd g1 13 30 v3 = (wf b n k + (wt b n k - wf b n k) : Nat) := by rw [rd_in h3 (by omega), hfr _ _ (by omega), hC.wE k hkW]; omega
      have hwx : wtx b n k = tx (g1 1) (wf b n k) (wt b n k - wf b n k) := by
        rw [wtx_of hn hb hkW]
        exact tx_eq.2 ⟨rfl, fun i hi => (hfr _ _ (by omega)).symm⟩
      have nxt : ∀ (g4 : GG) (x : Int), x = mkS T P N b n k → g4 = wr g1 16 30 v3 x → am_rg (v3 + 1) ∧ am_X E 72 (2, (0, 0), [some (amR 11), some (amR 6), some (amR 1), some (amI (v3 + 1)), none], [], mk g4 fl) (RV Q) := by
        intro g4 x hx e4
        rw [wr_in h3 (by omega)] at e4
        refine ⟨rgI (by omega) (by omega), ih (k + 1) _ g4 (by omega) (by omega) (fun j hj2 => ?_) (fun a i z => by rw [e4]; (simp (disch := omega) only [up_at, up_ne]); exact hfr a i z)⟩
        rw [e4]
        by_cases hjk : j = k
        · subst hjk; (simp (disch := omega) only [up_at, up_ne]); exact hx
        · (simp (disch := omega) only [up_at, up_ne]); exact hj j (by omega)
      refine b72_2 ⟨fun _ => find_ok hL1 hT (p := wf b n k) (l := wt b n k - wf b n k) e12 e13 (by omega) (fun x hx => ?_), fun c => absurd (by omega) c⟩
      rw [← hwx] at hx
      have hlk : mkS T P N b n k = if x = -1 then -1 else P x.toNat := lk_isF hT hx
      refine ⟨fun c => fun g4 e4 => nxt g4 _ (by rw [hlk, if_pos c]) e4, fun c => fun g4 e4 => nxt g4 _ ?_ e4⟩
      rw [hlk, if_neg c]
      rcases hx with ⟨j, x1, x2, x3⟩ | ⟨x1, x2⟩
      · have n6 := hT.n6
        rw [rd_in x3 (by omega), x3, Int.toNat_natCast]; exact hL1.p j x1
      · exact absurd x1 c
  exact b72 (key (Wn b n) 0 0 g (by omega) rfl (fun j hj => by omega) (fun _ _ _ => rfl))
end LEXC
