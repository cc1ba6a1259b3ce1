/-! the law's loops: words and their syllables -/
section LAWW
variable {E : am_E} {g : GG} {fl : FF} {Q : am_Q} {b : Nat → Int} {n : Nat} {w mk1 td : Nat → Int} {N : Nat} {T : Nat → List Int} {P : Nat → Int} {w0 : Nat → Int}
abbrev AX (E : am_E) (ip : Nat) (ls : am_LS) (g : GG) (fl : FF) (Q : am_Q) : Prop := am_X E 180 (ip, BDL, ls, [], mk g fl) Q
theorem LI.hm (H : LI b n w mk1 td N T P w0 g) : ∀ k, k < Wn b n → -1 ≤ mk1 k := fun k _ => (H.1.mk1 k).1
theorem wd_at {v x : Int} {k : Nat} (hv : v = k) (hk : k < Wn b n) : wordA b n w mk1 v x = wdA b n w mk1 k x := by
  unfold wordA; rw [if_pos (by omega), hv, Int.toNat_natCast]
theorem sy_at {v x : Int} {s : Nat} (hv : v = s) (hs : s < Sn b n w) : syllA b n w mk1 td v x = syA b n w mk1 td s x := by
  unfold syllA; rw [if_pos (by omega), hv, Int.toNat_natCast]
theorem law_bytes (hO : am_EO E) {p l : Nat} {v5 v6 v7 v8 v9 v10 v11 v12 v13 v14 : Int} (h9 : v9 = p) (h14 : v14 = l) (hpl : p + l ≤ n) (hn : n ≤ 60) (hvw : ∃ q, p ≤ q ∧ q < p + l ∧ isV (b q))
    (s0 : syllA b n w mk1 td v8 0 = v10) (s1 : syllA b n w mk1 td v8 1 = v9) (s3 : 0 < syllA b n w mk1 td v8 3) (wr : 0 ≤ wordA b n w mk1 v10 2 ∧ wordA b n w mk1 v10 2 ≤ 100) (s4 : -1 ≤ syllA b n w mk1 td v8 4 ∧ syllA b n w mk1 td v8 4 ≤ wordA b n w mk1 v10 2 - 1) (s6 : 0 ≤ syllA b n w mk1 td v8 6) (s56 : 0 < syllA b n w mk1 td v8 5 ∨ syllA b n w mk1 td v8 6 = 0)
    (hk : ∀ (v15 v16 : Int) (g : GG), LI b n w mk1 td N T P w0 g → AX E 186 (LS186 v5 v6 v7 v8 v9 v10 v11 v12 v13 v14 v15 v16) g fl Q) :
    ∀ (f i : Nat) (v15 v16 : Int) (g : GG), i + f = l → v16 = (p + i : Nat) → ((∃ q, p ≤ q ∧ q < p + i ∧ isV (b q)) → ¬ v15 = 0) → LI b n w mk1 td N T P w0 g → AX E 115 (LS115 v5 v6 v7 v8 v9 v10 v11 v12 v13 v14 v15 v16) g fl Q := by
  intro f
  induction f with
  | zero =>
    intro i v15 v16 g hi h16 hv H
    have : i = l := by omega
    subst this
    exact b180_115 hO H ⟨rgI (by omega) (by omega), fun c => absurd c (by omega), fun _ g2 H2 => ⟨s0, fun g3 H3 => ⟨s1, hv hvw, fun g4 H4 => ⟨s3, fun g5 H5 g6 H6 => ⟨rgI (by omega) (by omega), rgI (by omega) (by omega), s4, fun g7 H7 => ⟨by omega, fun g8 H8 => ⟨fun _ => hk _ _ g8 H8, fun c g10 H10 => ⟨by omega, hk _ _ g10 H10⟩⟩⟩⟩⟩⟩⟩⟩
  | succ f ih =>
    intro i v15 v16 g hi h16 hv H
    have ev : g 49 (Int.toNat v16) = b (p + i) := by rw [toNat_eq h16]; exact H.2.1 _ (by omega)
    refine b180_115 hO H ⟨rgI (by omega) (by omega), fun _ => ⟨fun c15 => ⟨by omega, rgI (by omega) (by omega), ih (i + 1) _ _ g (by omega) (by omega) ?_ H⟩, fun c15 => ⟨rgI (by omega) (by omega), ih (i + 1) _ _ g (by omega) (by omega) (fun _ => by omega) H⟩⟩, fun c => absurd (by omega) c⟩
    rintro ⟨q, q1, q2, q3⟩
    rw [ev]
    by_cases y : q = p + i
    · rw [y] at q3; rw [b01_t q3]; omega
    · exact absurd c15 (hv ⟨q, q1, by omega, q3⟩)
/-- a word's syllables -/
theorem law_syls (hO : am_EO E) (hn : n ≤ 60) (hwo : waysOK w) (hm : ∀ k, k < Wn b n → -1 ≤ mk1 k) {k : Nat} (hk : k < Wn b n) {v5 v6 v7 v10 : Int} (h10 : v10 = k)
    (hq : ∀ (g : GG) (v8 v9 v11 v12 v13 : Int), LI b n w mk1 td N T P w0 g → v8 = (fs b n w (k + 1) : Nat) → v9 = (wt b n k : Nat) → AX E 269 (LS269 v5 v6 v7 v8 v9 v10 v11 v12 v13) g fl Q) :
    ∀ (f j : Nat) (v8 v9 v11 v12 v13 : Int) (g : GG), j + f = nc b n w k → v8 = (fs b n w k + j : Nat) → v9 = (posK b n w k j : Nat) → v11 = mcB (btS b n w mk1) (fs b n w k) j → v12 = mcB (heP b n w mk1).1 (fs b n w k) j → v13 = j → LI b n w mk1 td N T P w0 g → AX E 98 (LS98 v5 v6 v7 v8 v9 v10 v11 v12 v13) g fl Q := by
  have hWl := Wn_le (b := b) (n := n) hn
  have hSl := Sn_le (b := b) (w := w) hn
  obtain ⟨f1, f2, f3, f4, f5, -, f7⟩ := word_in (b := b) hn hk
  have hncw := nc_word (w := w) hn hk
  have hIb := HI_bt (b := b) (w := w) (mk' := mk1) hn hm
  have hIh := (he_ok (b := b) (w := w) (mk1 := mk1) hn hm).1
  obtain ⟨mb, mb1, mb2, mb3, mb4⟩ := main_w hn hIb hk
  obtain ⟨mh, mh1, mh2, mh3, mh4⟩ := main_w hn hIh hk
  have w1 : wordA b n w mk1 v10 1 = (nc b n w k : Nat) := by rw [wd_at h10 hk]; rfl
  have w2 : wordA b n w mk1 v10 2 = (ftW b n w k : Nat) := by rw [wd_at h10 hk]; rfl
  have w3 : wordA b n w mk1 v10 3 = (mb : Nat) := by
    rw [wd_at h10 hk]
    exact tw_of mb1 mb2 mb3 mb4
  have w4 : wordA b n w mk1 v10 4 = (mh : Nat) := by
    rw [wd_at h10 hk]
    exact tw_of mh1 mh2 mh3 mh4
  have hft := ft_in (b := b) (w := w) hn hk
  intro f
  induction f with
  | zero =>
    intro j v8 v9 v11 v12 v13 g hj h8 h9 h11 h12 h13 H
    have : j = nc b n w k := by omega
    subst this
    rw [posK_end] at h9
    have h8' : v8 = (fs b n w (k + 1) : Nat) := h8
    refine b180_98 hO H (fun g1 H1 => ⟨fun c => absurd c (by omega), fun _ => ⟨by rw [h11]; exact mcB_1 mb1 mb2 mb3 mb4, by rw [h12]; exact mcB_1 mh1 mh2 mh3 mh4, fun _ => hq g1 _ _ _ _ _ H1 h8' h9, fun c => ⟨by omega, ?_, hq g1 _ _ _ _ _ H1 h8' h9⟩⟩⟩)
    rw [H1.2.2.1] at c
    rw [toNat_eq h9, H1.2.1 _ (by omega)]
    have hlt : wt b n k < n := by omega
    rw [wt_nb] at hlt ⊢
    exact nb_is (by omega) hlt
  | succ f ih =>
    intro j v8 v9 v11 v12 v13 g hj h8 h9 h11 h12 h13 H
    have hjn : j < nc b n w k := by omega
    have hsS := fs_in (w := w) hn hk hjn
    obtain ⟨p1, p2, p3, p4⟩ := sy_kj (b := b) (n := n) (w := w) (k := k) (by omega) hjn
    rw [posK_lt hjn] at h9
    have hin := syl_in (w := w) hn hk hjn
    have hmo := mo_in (w := w) hn hwo hk hjn
    have hft2 := ftS_in (w := w) hn hk p3
    have e0 : syllA b n w mk1 td v8 0 = (k : Nat) := by rw [sy_at h8 hsS]; show ((wo b n w (fs b n w k + j) : Nat) : Int) = _; rw [p3]
    have e1 : syllA b n w mk1 td v8 1 = (frK b n w k j : Nat) := by rw [sy_at h8 hsS]; show ((frS b n w (fs b n w k + j) : Nat) : Int) = _; rw [p1]
    have e2 : syllA b n w mk1 td v8 2 = (toK b n w k j : Nat) - (frK b n w k j : Nat) := by rw [sy_at h8 hsS]; show ((toS b n w (fs b n w k + j) : Nat) : Int) - (frS b n w (fs b n w k + j) : Nat) = _; rw [p1, p2]
    have e3 : syllA b n w mk1 td v8 3 = (moK b n w k j : Nat) := by
      rw [sy_at h8 hsS]; show ((moK b n w (wo b n w (fs b n w k + j)) (jS b n w (fs b n w k + j)) : Nat) : Int) = _; rw [p3, p4]
    have e4 : syllA b n w mk1 td v8 4 = ftS b n w (fs b n w k + j) := by rw [sy_at h8 hsS]; rfl
    have e5 : syllA b n w mk1 td v8 5 = btS b n w mk1 (fs b n w k + j) := by rw [sy_at h8 hsS]; rfl
    have e6 : syllA b n w mk1 td v8 6 = (heP b n w mk1).1 (fs b n w k + j) := by rw [sy_at h8 hsS]; rfl
    have vb := hIb.v _ hsS
    have vh := hIh.v _ hsS
    have hz : btS b n w mk1 (fs b n w k + j) = 0 → (heP b n w mk1).1 (fs b n w k + j) = 0 := fun z => he_nz hn hm z
    refine b180_98 hO H (fun g1 H1 => ⟨fun _ g3 H3 => ?_, fun c => absurd (by omega) c⟩)
    refine law_bytes hO (p := frK b n w k j) (l := toK b n w k j - frK b n w k j) h9 (by omega) (by omega) hn ?_ (by omega) (by omega) (by omega) (by omega) (by omega) (by omega) (by rw [e5, e6]; omega) (fun v15 v16 g4 H4 => ?_) (toK b n w k j - frK b n w k j) 0 0 v9 g3 (by omega) (by omega) (fun ⟨q, q1, q2, _⟩ => by omega) H3
    · obtain ⟨q, q1, q2, q3⟩ := sy_vow (w := w) hn hk hjn
      exact ⟨q, q1, by omega, q3⟩
    · have c1 := mcB_in (h := btS b n w mk1) (p := fs b n w k) (j := j)
      have c2 := mcB_in (h := (heP b n w mk1).1) (p := fs b n w k) (j := j)
      have d1 := b01_01 (syllA b n w mk1 td v8 5 = 2)
      have d2 := b01_01 (syllA b n w mk1 td v8 6 = 2)
      have s1 := mcB_s (h := btS b n w mk1) (p := fs b n w k) (j := j) (m := mb) (fun s z1 z2 z3 => mb4 s z1 (by omega) z3)
      have s2 := mcB_s (h := (heP b n w mk1).1) (p := fs b n w k) (j := j) (m := mh) (fun s z1 z2 z3 => mh4 s z1 (by omega) z3)
      have last : ∀ g, LI b n w mk1 td N T P w0 g → AX E 240 (LS240 v5 v6 v7 v8 v9 v10 (v11 + b01 (syllA b n w mk1 td v8 5 = 2)) (v12 + b01 (syllA b n w mk1 td v8 6 = 2)) v13 (syllA b n w mk1 td v8 2) v15 v16) g fl Q := fun g9 H9 =>
        b180_240 hO H9 ⟨rgI (by omega) (by omega), rgI (by omega) (by omega), rgI (by omega) (by omega), ih (j + 1) _ _ _ _ _ g9 (by omega) (by omega) (by rw [posK_s]; omega) (by rw [h11, ← s1, e5]) (by rw [h12, ← s2, e6]) (by omega) H9⟩
      have mid : ∀ g, LI b n w mk1 td N T P w0 g → AX E 224 (LS224 v5 v6 v7 v8 v9 v10 (v11 + b01 (syllA b n w mk1 td v8 5 = 2)) (v12 + b01 (syllA b n w mk1 td v8 6 = 2)) v13 (syllA b n w mk1 td v8 2) v15 v16) g fl Q := fun g9 H9 =>
        b180_224 hO H9 (fun g10 H10 => ⟨fun c g11 H11 => ⟨by rw [e6] at c; rw [w4, ← mh4 _ (by omega) (by omega) c]; omega, last g11 H11⟩, fun _ => last g10 H10⟩)
      refine b180_186 hO H4 (fun g5 H5 => ⟨rgI (by omega) (by omega), fun g6 H6 => ⟨rgI (by omega) (by omega), ?_⟩⟩)
      exact b180_210 hO H6 (fun g7 H7 => ⟨fun c g8 H8 => ⟨by rw [e5] at c; rw [w3, ← mb4 _ (by omega) (by omega) c]; omega, mid g8 H8⟩, fun _ => mid g7 H7⟩)
/-- the words -/
theorem law_words (hO : am_EO E) (hn : n ≤ 60) (hf : flaw b n = -1) (hwo : waysOK w) (hm : ∀ k, k < Wn b n → -1 ≤ mk1 k) {v5 v6 v7 : Int} (h5 : v5 = (Wn b n : Nat)) (h6 : v6 = (Sn b n w : Nat))
    (hq : ∀ (g : GG) (v8 v9 v10 : Int), LI b n w mk1 td N T P w0 g → AX E 288 (LS288 v5 v6 v7 v8 v9 v10) g fl Q) :
    ∀ (f k : Nat) (v8 v9 v10 : Int) (g : GG), k + f = Wn b n → v8 = (fs b n w k : Nat) → v9 = (wf b n k : Nat) → v10 = k → LI b n w mk1 td N T P w0 g → AX E 58 (LS58 v5 v6 v7 v8 v9 v10) g fl Q := by
  have hWl := Wn_le (b := b) (n := n) hn
  have hSl := Sn_le (b := b) (w := w) hn
  intro f
  induction f with
  | zero =>
    intro k v8 v9 v10 g hk h8 h9 h10 H
    have : k = Wn b n := by omega
    subst this
    obtain ⟨q1, q2, q3⟩ := Wn_is hf hn
    have e9 : wf b n (Wn b n) = n + 1 := by
      obtain ⟨W', hW'⟩ : ∃ W', Wn b n = W' + 1 := ⟨Wn b n - 1, by omega⟩
      rw [hW'] at q3 ⊢
      rw [wf_s, show W' = W' + 1 - 1 from rfl, q3]
    have e60 := H.2.2.1
    exact b180_58 hO H ⟨fun c => absurd c (by omega), fun _ => ⟨by rw [h8, h6]; rfl, rgI (by omega) (by omega), by omega, hq g _ _ _ H⟩⟩
  | succ f ih =>
    intro k v8 v9 v10 g hk h8 h9 h10 H
    have hkW : k < Wn b n := by omega
    have hncw := nc_word (w := w) hn hkW
    have hft := ft_in (b := b) (w := w) hn hkW
    obtain ⟨f1, f2, f3, f4, f5, -, -⟩ := word_in (b := b) hn hkW
    have w0' : wordA b n w mk1 v10 0 = (fs b n w k : Nat) := by rw [wd_at h10 hkW]; rfl
    have w1 : wordA b n w mk1 v10 1 = (nc b n w k : Nat) := by rw [wd_at h10 hkW]; rfl
    have w2 : wordA b n w mk1 v10 2 = (ftW b n w k : Nat) := by rw [wd_at h10 hkW]; rfl
    have hfs1 := fs_in (w := w) hn hkW (j := nc b n w k - 1) (by omega)
    refine b180_58 hO H ⟨fun _ g2 H2 => ⟨by omega, fun g3 H3 => ⟨by omega, fun g4 H4 => ⟨by omega, fun g5 H5 g6 H6 => ⟨by omega, ?_⟩⟩⟩⟩, fun c => absurd (by omega) c⟩
    refine b180_92 hO H6 ?_
    refine law_syls hO hn hwo hm hkW h10 (fun g7 v8' v9' v11 v12 v13 H7 z8 z9 => ?_) (nc b n w k) 0 v8 v9 0 0 0 g6 (by omega) (by omega) (by rw [posK_0 (by omega)]; exact h9) rfl rfl rfl H6
    have e : fs b n w (k + 1) = fs b n w k + nc b n w k := rfl
    have e2 : wf b n (k + 1) = wt b n k + 1 := rfl
    exact b180_269 hO H7 ⟨rgI (by omega) (by omega), rgI (by omega) (by omega), ih (k + 1) _ _ _ g7 (by omega) z8 (by omega) (by omega) H7⟩
end LAWW
