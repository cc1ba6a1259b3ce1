/-! the reference's marks, beats, numbers of feet -/
section BEATM
variable {E : am_E} {g : GG} {fl : FF} {N : Nat} {T : Nat → List Int} {P : Nat → Int} {b : Nat → Int} {n : Nat} {w : Nat → Int}
theorem isTextM_ok {Q : Int → GG → FF → Prop} (hn : n ≤ 60) (hb : b = nz (g 50) n) (hL : LX 63 64 65 49 19 N T P g) (hT : LT N T P) (hC : MC b n w g) {m k : Nat} {v1 v2 : Int} (h1 : v1 = m) (h2 : v2 = k) (hm : m < N) (hk : k < Wn b n) (hy : T m = wtx b n k → Q 1 g fl) (hno : T m ≠ wtx b n k → Q 0 g fl) : cI E 119 [amR 49, amI v1, amI v2] g fl Q := by
  have n6 := hT.n6
  obtain ⟨f1, f2, f3, f4, f5, -, -⟩ := word_in (b := b) hn hk
  obtain ⟨l, hl⟩ : ∃ l, l = wt b n k - wf b n k := ⟨_, rfl⟩
  have hwx := wtx_of hn hb hk
  rw [← hl] at hwx
  have e53 : g 53 (Int.toNat v2) = wf b n k := by rw [toNat_eq h2]; exact hC.wS k hk
  have e54 : g 54 (Int.toNat v2) = wt b n k := by rw [toNat_eq h2]; exact hC.wE k hk
  obtain ⟨lm, m1, m2, m3⟩ := hL.l m hm
  have e64 : g 64 (Int.toNat v1) = lm := by rw [toNat_eq h1]; exact m2
  have key : ∀ (f i : Nat) (v4 v5 : Int), i + f = l → v5 = i → (v4 = 1 ∧ lm = l ∧ (∀ j, j < i → g 63 (60 * m + j) = g 50 (wf b n k + j)) ∨ v4 = 0 ∧ T m ≠ wtx b n k) → am_X E 119 (22, (0, 0), [some (amR 49), some (amI v1), some (amI v2), some (amI (l : Nat)), some (amI v4), some (amI v5)], [], mk g fl) (RI Q) := by
    intro f
    induction f with
    | zero =>
      intro i v4 v5 h0 h5 hJ
      refine b119_22 ⟨fun c => absurd c (by omega), fun _ => ⟨by omega, ?_⟩⟩
      rcases hJ with ⟨j1, j2, j3⟩ | ⟨j1, j2⟩
      · rw [j1]; refine hy ?_
        rw [m3, hwx]; exact tx_eq.2 ⟨j2, fun i hi => j3 i (by omega)⟩
      · rw [j1]; exact hno j2
    | succ f ih =>
      intro i v4 v5 h0 h5 hJ
      refine b119_22 ⟨fun _ => ⟨fun c => ⟨by omega, ?_⟩, fun c => ?_⟩, fun c => absurd (by omega) c⟩
      · rcases hJ with ⟨j1, j2, j3⟩ | ⟨j1, j2⟩
        · omega
        · rw [c]; exact hno j2
      · rcases hJ with ⟨j1, j2, j3⟩ | ⟨j1, j2⟩
        · refine ⟨rgI (by omega) (by omega), rgI (by omega) (by omega), by omega, by omega, rgI (by rw [e53]; omega) (by rw [e53]; omega), by rw [e53]; omega, rgI (by omega) (by omega), ?_⟩
          rw [e53, toNat_eq (x := 60 * v1 + v5) (k := 60 * m + i) (by omega), toNat_eq (x := (wf b n k : Int) + v5) (k := wf b n k + i) (by omega)]
          refine ih (i + 1) _ _ (by omega) (by omega) ?_
          by_cases c2 : g 63 (60 * m + i) = g 50 (wf b n k + i)
          · refine Or.inl ⟨b01_t c2, j2, fun j hj => ?_⟩
            by_cases hji : j = i
            · subst hji; exact c2
            · exact j3 j (by omega)
          · refine Or.inr ⟨b01_f c2, fun z => c2 ?_⟩
            rw [m3, hwx] at z
            exact (tx_eq.1 z).2 i (by omega)
        · exact absurd j1 c
  refine b119 ⟨by omega, rgI (by rw [e53, e54]; omega) (by rw [e53, e54]; omega), by omega, ?_⟩
  rw [e53, e54, e64, show (wt b n k : Int) - (wf b n k : Int) = (l : Nat) by omega]
  refine key l 0 _ 0 (by omega) rfl ?_
  by_cases c : (lm : Int) = (l : Nat)
  · exact Or.inl ⟨b01_t c, by omega, fun j hj => by omega⟩
  · refine Or.inr ⟨b01_f c, fun z => c ?_⟩
    rw [m3, hwx] at z
    have := (tx_eq.1 z).1
    omega
theorem markOf_ok {Q : Int → GG → FF → Prop} (hn : n ≤ 60) (hb : b = nz (g 50) n) (hL : LX 63 64 65 49 19 N T P g) (hT : LT N T P) (hC : MC b n w g) {k : Nat} {v1 : Int} (h1 : v1 = k) (hk : k < Wn b n) (h : ∀ x : Int, isF N T (wtx b n k) x → Q x g fl) : cI E 120 [amR 49, amI v1] g fl Q := by
  have n6 := hT.n6
  have hs := hL.s
  have key : ∀ (f m : Nat) (v2 v3 : Int), m + f = N → v3 = m → isF m T (wtx b n k) v2 → am_X E 120 (4, (0, 0), [some (amR 49), some (amI v1), some (amI v2), some (amI v3)], [], mk g fl) (RI Q) := by
    intro f
    induction f with
    | zero =>
      intro m v2 v3 h0 h3 hJ
      have : m = N := by omega
      subst this
      exact b120_4 ⟨fun c => absurd c (by omega), fun _ => h v2 hJ⟩
    | succ f ih =>
      intro m v2 v3 h0 h3 hJ
      refine b120_4 ⟨fun _ => isTextM_ok hn hb hL hT hC h3 h1 (by omega) hk (fun z => ⟨rgI (by omega) (by omega), ?_⟩) (fun z => ⟨rgI (by omega) (by omega), ?_⟩), fun c => absurd (by omega) c⟩
      · refine ih (m + 1) _ _ (by omega) (by omega) ?_
        rw [if_neg (by omega)]
        exact Or.inl ⟨m, by omega, z, h3⟩
      · refine ih (m + 1) _ _ (by omega) (by omega) ?_
        rw [if_pos rfl]
        rcases hJ with ⟨j, j1, j2, j3⟩ | ⟨j1, j2⟩
        · exact Or.inl ⟨j, by omega, j2, j3⟩
        · refine Or.inr ⟨j1, fun i hi => ?_⟩
          by_cases him : i = m
          · subst him; exact z
          · exact j2 i (by omega)
  exact b120 (key N 0 (-1) 0 (by omega) rfl (Or.inr ⟨rfl, fun i hi => by omega⟩))
theorem markedAt_ok {Q : Int → GG → FF → Prop} (hn : n ≤ 60) (hb : b = nz (g 50) n) (hL : LX 63 64 65 49 19 N T P g) (hT : LT N T P) (hC : MC b n w g) {k : Nat} {v1 : Int} (h1 : v1 = k) (hk : k < Wn b n) (h : Q (mkS T P N b n k) g fl) : cI E 121 [amR 49, amI v1] g fl Q := by
  refine b121 (markOf_ok hn hb hL hT hC h1 hk (fun x hx => ?_))
  have hlk : mkS T P N b n k = if x = -1 then -1 else P x.toNat := lk_isF hT hx
  have n6 := hT.n6
  refine ⟨fun c => ?_, fun c => ?_⟩
  · rw [hlk, if_pos c] at h; exact h
  · rcases hx with ⟨j, x1, x2, x3⟩ | ⟨x1, x2⟩
    · refine ⟨by omega, ?_⟩
      rw [hlk, if_neg c] at h
      rw [toNat_eq x3] at h ⊢
      rw [hL.p j x1]; exact h
    · exact absurd x1 c
theorem mnF_over {mo : Nat → Nat} {st : Nat → Nat} {p e : Nat} (hf : FS st p e) : ∀ d, mnF mo w st p (e - p + d) = mnF mo w st p (e - p)
  | 0 => rfl
  | d + 1 => by
    rw [show e - p + (d + 1) = (e - p + d) + 1 by omega, mnF_s, if_neg]
    · exact mnF_over hf d
    · rintro ⟨h1, -⟩
      have := hb_in hf h1
      omega
theorem mainOf_ok {Q : Int → GG → FF → Prop} (hn : n ≤ 60) (hwo : waysOK w) (hX : MX b n w g) {k : Nat} {v1 : Int} (h1 : v1 = k) (hk : k < Wn b n) (hF : MF w (moS b n w) (fs b n w k) (nc b n w k) g)
    (h : Q (mnF (moS b n w) w (stW (moS b n w) w (fs b n w k) (eKw w (fs b n w k) (nc b n w k))) (fs b n w k) (eKw w (fs b n w k) (nc b n w k) - fs b n w k)) g fl) : cI E 122 [amR 49, amI v1] g fl Q := by
  have hWl := Wn_le (b := b) (n := n) hn
  have hSl := Sn_le (b := b) (w := w) hn
  have hnc := nc_word (w := w) hn hk
  obtain ⟨p, hp⟩ : ∃ p, p = fs b n w k := ⟨_, rfl⟩
  obtain ⟨z, hz⟩ : ∃ z, z = nc b n w k := ⟨_, rfl⟩
  have hfm : fs b n w (k + 1) ≤ fs b n w (Wn b n) := fs_mono (by omega)
  have hfs1 : fs b n w (k + 1) = fs b n w k + nc b n w k := rfl
  have hSn : Sn b n w = fs b n w (Wn b n) := rfl
  rw [← hp, ← hz] at hF h
  obtain ⟨he1, he2⟩ := eKw_in (w := w) (p := p) (z := z) (by omega)
  have hf := stW_fs (mo := moS b n w) (w := w) he1
  have e55 : g 55 (Int.toNat v1) = p := by rw [toNat_eq h1, hp]; exact hX.c.wF k (by omega)
  have e55' : g 55 (Int.toNat (v1 + 1)) = (p + z : Nat) := by rw [toNat_eq (x := v1 + 1) (k := k + 1) (by omega), hp, hz]; exact hX.c.wF (k + 1) (by omega)
  have e7 : g 51 7 = w 7 := by rw [hX.w]
  have key : ∀ (f l : Nat) (v2 v3 : Int), l + f = z → v3 = (p + l : Nat) → v2 = mnF (moS b n w) w (stW (moS b n w) w p (eKw w p z)) p l → am_X E 122 (7, (0, 0), [some (amR 49), some (amI v1), some (amI v2), some (amI v3), none], [], mk g fl) (RI Q) := by
    intro f
    induction f with
    | zero =>
      intro l v2 v3 h0 h3 h2
      refine b122_7 ⟨rgI (by omega) (by omega), by omega, fun c => absurd c (by omega), fun _ => ?_⟩
      rw [h2, show l = eKw w p z - p + (p + z - eKw w p z) by omega, mnF_over hf]
      exact h
    | succ f ih =>
      intro l v2 v3 h0 h3 h2
      have e62 : g 62 (Int.toNat v3) = if hb w (stW (moS b n w) w p (eKw w p z)) p (p + l) then 1 else 0 := by rw [toNat_eq h3]; exact hF.b _ (by omega) (by omega)
      have nxt : ∀ x : Int, x = mnF (moS b n w) w (stW (moS b n w) w p (eKw w p z)) p (l + 1) → am_X E 122 (7, (0, 0), [some (amR 49), some (amI v1), some (amI x), some (amI (v3 + 1)), none], [], mk g fl) (RI Q) := fun x hx => ih (l + 1) x _ (by omega) (by omega) hx
      refine b122_7 ⟨rgI (by omega) (by omega), by omega, fun _ => ⟨by omega, fun c => ?_, fun c => ?_⟩, fun c => absurd (by omega) c⟩
      · rw [e62] at c
        refine ⟨rgI (by omega) (by omega), nxt _ ?_⟩
        rw [mnF_s, if_neg]
        · exact h2
        · rintro ⟨y, -⟩; rw [if_pos y] at c; omega
      · have hhb : hb w (stW (moS b n w) w p (eKw w p z)) p (p + l) := by
          rcases Classical.em (hb w (stW (moS b n w) w p (eKw w p z)) p (p + l)) with y | y
          · exact y
          · rw [e62, if_neg y] at c; exact absurd rfl c
        refine ⟨fun c1 => ⟨rgI (by omega) (by omega), nxt _ ?_⟩, fun c1 => ⟨fun c2 => ⟨rgI (by omega) (by omega), nxt _ ?_⟩, fun c2 => ⟨fun c3 => ?_, fun c3 => ⟨rgI (by omega) (by omega), nxt _ ?_⟩⟩⟩⟩
        · rw [mnF_s, if_pos ⟨hhb, Or.inl (by omega)⟩]; exact h3
        · rw [mnF_s, if_pos ⟨hhb, Or.inr (Or.inl (by omega))⟩]; exact h3
        · rcases mnF_in (mo := moS b n w) (w := w) (st := stW (moS b n w) w p (eKw w p z)) (p := p) l with y | ⟨s, y1, y2, y3, y4⟩
          · omega
          · have hv2 : v2 = s := by omega
            have hv3 : v3 = ((p + l : Nat) : Int) := h3
            rw [hv2, hv3]
            refine morasOf_ok hn hX.w hwo hX.c (by omega) (morasOf_ok hn hX.w hwo hX.c (by omega) ⟨rgI (by omega) (by omega), ?_⟩)
            rw [← hv3]
            refine nxt _ ?_
            have e3 : (mnF (moS b n w) w (stW (moS b n w) w p (eKw w p z)) p l).toNat = s := by omega
            rw [mnF_s, e3]
            by_cases c4 : (moS b n w s : Int) < (moS b n w (p + l) : Nat)
            · rw [if_pos c4, if_pos ⟨hhb, Or.inr (Or.inr ⟨by omega, by omega⟩)⟩]; exact h3
            · rw [if_neg c4, if_neg (by rintro ⟨-, u⟩; omega)]; omega
        · rw [mnF_s, if_neg (by rintro ⟨-, u⟩; omega)]; exact h2
  refine b122 ⟨by omega, ?_⟩
  rw [e55]
  exact key z 0 (-1) _ (by omega) rfl rfl
theorem findsBeats_ok {Q : GG → FF → Prop} (hn : n ≤ 60) (hwo : waysOK w) (hb0 : b = nz (g 50) n) (hX : MX b n w g) (hL : LX 63 64 65 49 19 N T P g) (hT : LT N T P) {k : Nat} {v1 : Int} (h1 : v1 = k) (hk : k < Wn b n) (hF : MF w (moS b n w) (fs b n w k) (nc b n w k) g)
    (h : ∀ g' : GG, (∀ s, fs b n w k ≤ s → s < fs b n w k + nc b n w k → g' 66 s = btW (moS b n w) w (fs b n w k) (eKw w (fs b n w k) (nc b n w k)) (mkS T P N b n k) (nc b n w k) s) → (∀ a i, ¬ (a = 66 ∧ fs b n w k ≤ i ∧ i < fs b n w k + nc b n w k) → g' a i = g a i) → Q g' fl) : cV E 123 [amR 49, amI v1] g fl Q := by
  have hWl := Wn_le (b := b) (n := n) hn
  have hSl := Sn_le (b := b) (w := w) hn
  have hnc := nc_word (w := w) hn hk
  have hfm : fs b n w (k + 1) ≤ fs b n w (Wn b n) := fs_mono (by omega)
  have hfs1 : fs b n w (k + 1) = fs b n w k + nc b n w k := rfl
  have hSn : Sn b n w = fs b n w (Wn b n) := rfl
  obtain ⟨m, hm⟩ : ∃ m, m = mkS T P N b n k := ⟨_, rfl⟩
  have hm1 : -1 ≤ m ∧ m ≤ 60 := by rw [hm]; exact lk_in hT
  obtain ⟨p, hp⟩ : ∃ p, p = fs b n w k := ⟨_, rfl⟩
  obtain ⟨z, hz⟩ : ∃ z, z = nc b n w k := ⟨_, rfl⟩
  have hmain := fun Q' => mainOf_ok (E := E) (g := g) (fl := fl) (Q := Q') hn hwo hX h1 hk hF
  rw [← hp, ← hz, ← hm] at h
  rw [← hp, ← hz] at hF hmain
  obtain ⟨he1, he2⟩ := eKw_in (w := w) (p := p) (z := z) (by omega)
  have e55 : g 55 (Int.toNat v1) = p := by rw [toNat_eq h1, hp]; exact hX.c.wF k (by omega)
  have e55' : g 55 (Int.toNat (v1 + 1)) = (p + z : Nat) := by rw [toNat_eq (x := v1 + 1) (k := k + 1) (by omega), hp, hz]; exact hX.c.wF (k + 1) (by omega)
  obtain ⟨mn, hmn, hmn2, hmn3⟩ := mainW_in (mo := moS b n w) (w := w) (m := m) he1 he2 hm1.1
  have key : ∀ (v2 v3 v4 v5 : Int), v4 = (if isMk m z then 1 else 0) → v5 = mainW (moS b n w) w p (eKw w p z) m z → ∀ (f j : Nat) (v6 : Int) (g1 : GG), j + f = p + z → p ≤ j → v6 = j → (∀ s, p ≤ s → s < j → g1 66 s = btW (moS b n w) w p (eKw w p z) m z s) → (∀ a i, ¬ (a = 66 ∧ p ≤ i ∧ i < p + z) → g1 a i = g a i) → am_X E 123 (38, (0, 0), [some (amR 49), some (amI v1), some (amI v2), some (amI v3), some (amI v4), some (amI v5), some (amI v6), none], [], mk g1 fl) (RV Q) := by
    intro v2 v3 v4 v5 h4 h5 f
    induction f with
    | zero =>
      intro j v6 g1 h0 hpj h6 hj hfr
      have e : g1 55 (Int.toNat (v1 + 1)) = (p + z : Nat) := by rw [hfr _ _ (by omega)]; exact e55'
      exact b123_38 ⟨rgI (by omega) (by omega), by omega, fun c => absurd c (by omega), fun _ => h g1 (fun s z1 z2 => hj s z1 (by omega)) hfr⟩
    | succ f ih =>
      intro j v6 g1 h0 hpj h6 hj hfr
      have e : g1 55 (Int.toNat (v1 + 1)) = (p + z : Nat) := by rw [hfr _ _ (by omega)]; exact e55'
      have e62 : g1 62 (Int.toNat v6) = if hb w (stW (moS b n w) w p (eKw w p z)) p j then 1 else 0 := by rw [toNat_eq h6, hfr _ _ (by omega)]; exact hF.b _ hpj (by omega)
      have nxt : ∀ (x : Int) (g4 : GG), x = btW (moS b n w) w p (eKw w p z) m z j → g4 = am_up g1 66 (Int.toNat v6) x → am_rg (v6 + 1) ∧ am_X E 123 (38, (0, 0), [some (amR 49), some (amI v1), some (amI v2), some (amI v3), some (amI v4), some (amI v5), some (amI (v6 + 1)), none], [], mk g4 fl) (RV Q) := by
        intro x g4 hx e4
        rw [toNat_eq h6] at e4
        refine ⟨rgI (by omega) (by omega), ih (j + 1) _ g4 (by omega) (by omega) (by omega) (fun s z1 z2 => ?_) (fun a i y => by rw [e4]; (simp (disch := omega) only [up_at, up_ne]); exact hfr a i y)⟩
        rw [e4]
        by_cases hs : s = j
        · subst hs; (simp (disch := omega) only [up_at, up_ne]); exact hx
        · (simp (disch := omega) only [up_at, up_ne]); exact hj s z1 (by omega)
      have b2 : v6 = v5 → btW (moS b n w) w p (eKw w p z) m z j = 2 := fun c => btW_2.2 (by omega)
      have bh : ∀ y : g1 62 (Int.toNat v6) = 0, ¬ (v6 = v5) → btW (moS b n w) w p (eKw w p z) m z j = 0 := by
        intro y c
        unfold btW
        rw [if_neg (by omega), if_neg]
        rintro ⟨u, -⟩
        rw [e62, if_pos u] at y; omega
      have hh : ¬ g1 62 (Int.toNat v6) = 0 → hb w (stW (moS b n w) w p (eKw w p z)) p j := by
        intro y
        rcases Classical.em (hb w (stW (moS b n w) w p (eKw w p z)) p j) with u | u
        · exact u
        · rw [e62, if_neg u] at y; exact absurd rfl y
      have hM : ¬ (v4 = 0) → isMk m z := by
        intro y
        rcases Classical.em (isMk m z) with u | u
        · exact u
        · rw [if_neg u] at h4; exact absurd h4 y
      have hM0 : v4 = 0 → ¬ isMk m z := by
        intro y u
        rw [if_pos u] at h4; omega
      refine b123_38 ⟨rgI (by omega) (by omega), by omega, fun _ => ⟨fun c4 => ⟨fun c => ⟨by omega, fun g4 e4 => nxt _ g4 (b2 c).symm e4⟩, fun c => ⟨by omega, fun y => fun g5 e5 => nxt _ g5 (bh y c).symm e5, fun y => fun g5 e5 => nxt _ g5 ?_ e5⟩⟩, fun c4 => ⟨rgI (by omega) (by omega), fun c1 => ⟨fun c => ⟨by omega, fun g4 e4 => nxt _ g4 (b2 c).symm e4⟩, fun c => ⟨by omega, fun y => fun g5 e5 => nxt _ g5 (bh y c).symm e5, fun y => fun g5 e5 => nxt _ g5 ?_ e5⟩⟩, fun c1 => ⟨rgI (by omega) (by omega), fun c => ⟨by omega, fun g4 e4 => nxt _ g4 (b2 c).symm e4⟩, fun c => ⟨by omega, fun y => fun g5 e5 => nxt _ g5 (bh y c).symm e5, fun y => fun g5 e5 => nxt _ g5 ?_ e5⟩⟩⟩⟩, fun c => absurd (by omega) c⟩
      · unfold btW
        rw [if_neg (by omega), if_pos ⟨hh y, fun u => hM0 c4 u.1⟩]
      · unfold btW
        rw [if_neg (by omega), if_neg (fun u => u.2 ⟨hM c4, Or.inl (by omega)⟩)]
      · unfold btW
        by_cases c3 : v6 = v5 + 1
        · rw [b01_f (fun u => u c3), if_neg (by omega), if_neg (fun u => u.2 ⟨hM c4, Or.inr (by omega)⟩)]
        · rw [b01_t c3, if_neg (by omega), if_pos ⟨hh y, fun u => by omega⟩]
  refine b123 (markedAt_ok hn hb0 hL hT hX.c h1 hk ?_)
  rw [← hm, e55, e55']
  refine ⟨by omega, fun c => hmain _ ?_, fun c => ⟨rgI (by omega) (by omega), rgI (by omega) (by omega), by omega, fun c2 => ?_, fun c2 => hmain _ ?_⟩⟩
  · refine key _ _ _ _ ?_ ?_ z p _ g rfl (Nat.le_refl _) rfl (fun s z1 z2 => by omega) (fun _ _ _ => rfl)
    · rw [if_neg (fun u => u.1 c)]
    · unfold mainW; rw [if_neg (fun u => u.1 c)]
  · refine key _ _ _ _ ?_ ?_ z p _ g rfl (Nat.le_refl _) rfl (fun s z1 z2 => by omega) (fun _ _ _ => rfl)
    · rw [b01_t c2, if_pos ⟨c, by omega⟩]
    · unfold mainW; rw [if_pos ⟨c, by omega⟩]
  · have hnm : ¬ isMk m z := fun u => c2 (by have := u.2; omega)
    refine key _ _ _ _ ?_ ?_ z p _ g rfl (Nat.le_refl _) rfl (fun s z1 z2 => by omega) (fun _ _ _ => rfl)
    · rw [b01_f c2, if_neg hnm]
    · unfold mainW; rw [if_neg hnm]
theorem mfs_at {st : Nat → Nat} {p s : Nat} : (mfs st p s = s ↔ 0 < st s) ∧ (mfs st p s = -1 ↔ ¬ (0 < st s ∨ (p < s ∧ st (s - 1) = 2))) := by
  unfold mfs
  by_cases c : 0 < st s
  · rw [if_pos c]; omega
  · rw [if_neg c]
    by_cases c2 : p < s ∧ st (s - 1) = 2
    · rw [if_pos c2]; omega
    · rw [if_neg c2]; omega
theorem footOf_ok {Q : Int → GG → FF → Prop} (hn : n ≤ 60) (hC : MC b n w g) {k s : Nat} {v1 : Int} (h1 : v1 = s) (hk : k < Wn b n) (hks : fs b n w k ≤ s ∧ s < fs b n w k + nc b n w k) (hF : MF w (moS b n w) (fs b n w k) (nc b n w k) g)
    (h : Q (fo (stW (moS b n w) w (fs b n w k) (eKw w (fs b n w k) (nc b n w k))) (fs b n w k) s) g fl) : cI E 117 [amR 49, amI v1] g fl Q := by
  have hWl := Wn_le (b := b) (n := n) hn
  have hSl := Sn_le (b := b) (w := w) hn
  have hfm : fs b n w (k + 1) ≤ fs b n w (Wn b n) := fs_mono (by omega)
  have hfs1 : fs b n w (k + 1) = fs b n w k + nc b n w k := rfl
  have hSn : Sn b n w = fs b n w (Wn b n) := rfl
  have e56 : g 56 (Int.toNat v1) = k := by rw [toNat_eq h1, hC.sW s (by omega)]; rw [wo_is (k := k) (by omega) hks.1 (by omega)]
  have e55 : g 55 k = fs b n w k := hC.wF k (by omega)
  obtain ⟨p, hp⟩ : ∃ p, p = fs b n w k := ⟨_, rfl⟩
  obtain ⟨st, hst⟩ : ∃ st, st = stW (moS b n w) w p (eKw w p (nc b n w k)) := ⟨_, rfl⟩
  rw [← hp] at hF h e55 hks
  have hf := hF.f
  rw [← hst] at h hf
  have key : ∀ (f j : Nat) (v2 v3 : Int), j + f = s + 1 → p ≤ j → v3 = j → v2 = (cnt st p (j - p) : Int) - 1 → am_X E 117 (10, (0, 0), [some (amR 49), some (amI v1), some (amI v2), some (amI v3)], [], mk g fl) (RI Q) := by
    intro f
    induction f with
    | zero =>
      intro j v2 v3 h0 hpj h3 h2
      refine b117_10 ⟨fun _ => ⟨by omega, ?_⟩, fun c => absurd (by omega) c⟩
      rw [toNat_eq h1, hf s hks.1 hks.2]
      unfold fo at h
      by_cases c : 0 < st s ∨ (p < s ∧ st (s - 1) = 2)
      · rw [if_pos c] at h
        rw [if_neg (fun u => (mfs_at.2.1 u) c), h2, show j = s + 1 by omega]; exact h
      · rw [if_neg c] at h
        rw [if_pos (mfs_at.2.2 c)]; exact h
    | succ f ih =>
      intro j v2 v3 h0 hpj h3 h2
      have hcl := cnt_le (st := st) (p := p) (j - p)
      have e61 : g 61 (Int.toNat v3) = mfs st p j := by rw [toNat_eq h3]; exact hf j hpj (by omega)
      have hb := b01_01 (g 61 (Int.toNat v3) = v3)
      refine b117_10 ⟨fun c => absurd c (by omega), fun _ => ⟨by omega, rgI (by omega) (by omega), rgI (by omega) (by omega), ih (j + 1) _ _ (by omega) (by omega) (by omega) ?_⟩⟩
      rw [cnt_up hpj, e61, h2, h3]
      by_cases c : 0 < st j
      · rw [b01_t (mfs_at.1.2 c), if_pos c]; omega
      · rw [b01_f (fun u => c (mfs_at.1.1 u)), if_neg c]; omega
  refine b117 ⟨by omega, by omega, ?_⟩
  rw [e56, Int.toNat_natCast, e55]
  exact key (s + 1 - p) p (-1) _ (by omega) (Nat.le_refl _) rfl (by rw [Nat.sub_self]; rfl)
theorem cnt_over {st : Nat → Nat} {p e : Nat} (hf : FS st p e) : ∀ d, cnt st p (e - p + d) = cnt st p (e - p)
  | 0 => rfl
  | d + 1 => by
    rw [show e - p + (d + 1) = (e - p + d) + 1 by omega, cnt_s, if_neg]
    · exact cnt_over hf d
    · intro h1
      have := hf.inn _ h1
      omega
theorem feetMany_ok {Q : Int → GG → FF → Prop} (hn : n ≤ 60) (hC : MC b n w g) {k : Nat} {v1 : Int} (h1 : v1 = k) (hk : k < Wn b n) (hF : MF w (moS b n w) (fs b n w k) (nc b n w k) g)
    (h : Q (cnt (stW (moS b n w) w (fs b n w k) (eKw w (fs b n w k) (nc b n w k))) (fs b n w k) (eKw w (fs b n w k) (nc b n w k) - fs b n w k) : Nat) g fl) : cI E 118 [amR 49, amI v1] g fl Q := by
  have hWl := Wn_le (b := b) (n := n) hn
  have hSl := Sn_le (b := b) (w := w) hn
  have hnc := nc_word (w := w) hn hk
  have hfm : fs b n w (k + 1) ≤ fs b n w (Wn b n) := fs_mono (by omega)
  have hfs1 : fs b n w (k + 1) = fs b n w k + nc b n w k := rfl
  have hSn : Sn b n w = fs b n w (Wn b n) := rfl
  obtain ⟨p, hp⟩ : ∃ p, p = fs b n w k := ⟨_, rfl⟩
  obtain ⟨z, hz⟩ : ∃ z, z = nc b n w k := ⟨_, rfl⟩
  obtain ⟨st, hst⟩ : ∃ st, st = stW (moS b n w) w p (eKw w p z) := ⟨_, rfl⟩
  have e55 : g 55 (Int.toNat v1) = p := by rw [toNat_eq h1, hp]; exact hC.wF k (by omega)
  have e55' : g 55 (Int.toNat (v1 + 1)) = (p + z : Nat) := by rw [toNat_eq (x := v1 + 1) (k := k + 1) (by omega), hp, hz]; exact hC.wF (k + 1) (by omega)
  rw [← hp, ← hz] at hF h
  obtain ⟨he1, he2⟩ := eKw_in (w := w) (p := p) (z := z) (by omega)
  have hfs := stW_fs (mo := moS b n w) (w := w) he1
  have hf := hF.f
  rw [← hst] at h hf hfs
  have key : ∀ (f j : Nat) (v2 v3 : Int), j + f = p + z → p ≤ j → v3 = j → v2 = (cnt st p (j - p) : Nat) → am_X E 118 (7, (0, 0), [some (amR 49), some (amI v1), some (amI v2), some (amI v3)], [], mk g fl) (RI Q) := by
    intro f
    induction f with
    | zero =>
      intro j v2 v3 h0 hpj h3 h2
      refine b118_7 ⟨rgI (by omega) (by omega), by omega, fun c => absurd c (by omega), fun _ => ?_⟩
      rw [h2, show j - p = eKw w p z - p + (p + z - eKw w p z) by omega, cnt_over hfs]
      exact h
    | succ f ih =>
      intro j v2 v3 h0 hpj h3 h2
      have hcl := cnt_le (st := st) (p := p) (j - p)
      have e61 : g 61 (Int.toNat v3) = mfs st p j := by rw [toNat_eq h3]; exact hf j hpj (by omega)
      have hb := b01_01 (g 61 (Int.toNat v3) = v3)
      refine b118_7 ⟨rgI (by omega) (by omega), by omega, fun _ => ⟨by omega, rgI (by omega) (by omega), rgI (by omega) (by omega), ih (j + 1) _ _ (by omega) (by omega) (by omega) ?_⟩, fun c => absurd (by omega) c⟩
      rw [cnt_up hpj, e61, h2, h3]
      by_cases c : 0 < st j
      · rw [b01_t (mfs_at.1.2 c), if_pos c]; omega
      · rw [b01_f (fun u => c (mfs_at.1.1 u)), if_neg c]; omega
  refine b118 ⟨by omega, ?_⟩
  rw [e55]
  exact key z p 0 _ rfl (Nat.le_refl _) rfl (by rw [Nat.sub_self]; rfl)
end BEATM
