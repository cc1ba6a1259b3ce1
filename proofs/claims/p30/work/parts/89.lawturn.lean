/-! the law: its turn, its body -/
section LAWT
variable {E : am_E} {g : GG} {fl : FF} {Q : am_Q} {b : Nat → Int} {n : Nat} {w mk1 td : Nat → Int} {N : Nat} {T : Nat → List Int} {P : Nat → Int} {w0 : Nat → Int}
theorem fs_ge (hn : n ≤ 60) : ∀ k, k ≤ Wn b n → k ≤ fs b n w k
  | 0, _ => Nat.zero_le _
  | k + 1, h => by
    have ih := fs_ge hn k (by omega)
    have hz := (nc_word (b := b) (w := w) hn (k := k) (by omega)).1
    have e : fs b n w (k + 1) = fs b n w k + nc b n w k := rfl
    omega
theorem WS_pos (hn : n ≤ 60) (hf : flaw b n = -1) : 0 < Wn b n ∧ Wn b n ≤ Sn b n w := ⟨(Wn_is hf hn).2.1, fs_ge hn _ (Nat.le_refl _)⟩
/-- a word whose mark is m has its main beat there -/
theorem main_mk (hn : n ≤ 60) (hm : ∀ k, k < Wn b n → -1 ≤ mk1 k) {k j : Nat} (hk : k < Wn b n) (hj : j < nc b n w k) (hmk : mk1 k = j) : tw (btS b n w mk1) (fs b n w k) (nc b n w k) = ((fs b n w k + j : Nat) : Int) := by
  obtain ⟨m, m1, m2, m3, m4⟩ := main_w hn (HI_bt (b := b) (w := w) (mk' := mk1) hn hm) hk
  have h2 : btS b n w mk1 (fs b n w k + j) = 2 := by
    rw [btS_kj hn hk (by omega) (by omega), btW_2]
    unfold mainW
    rw [if_pos ⟨by omega, by omega⟩, hmk]
    rfl
  have e := m4 _ (by omega) (by omega) h2
  rw [tw_of m1 m2 m3 m4, e]
theorem near4 : nearA b n w mk1 td 4 = (nsA b n w mk1 td).2 := by
  unfold nearA
  rw [if_pos (by decide)]
  rfl
theorem near0 {c : Nat} (h : (nsA b n w mk1 td).1 = c) : nearA b n w mk1 td 0 = ((c / 12 : Nat) : Int) := by
  unfold nearA
  rw [if_pos (by decide)]
  show (nsA b n w mk1 td).1 / 12 = _
  rw [h]
  rfl
/-- the turn's end: a mark -/
theorem law_mark (hO : am_EO E) (hn : n ≤ 60) (hf : flaw b n = -1) {v5 v6 v7 v8 v9 v10 v11 v12 v13 v14 v15 v16 : Int} (h5 : v5 = (Wn b n : Nat)) (h7 : 0 ≤ v7 ∧ v7 ≤ 2) (hN : N < 6) (H : LI b n w mk1 td N T P w0 g)
    (hq : ∀ (g : GG) (mk2 : Nat → Int) (N' : Nat) (T' : Nat → List Int) (P' : Nat → Int), N' ≤ N + 1 → LI b n w mk2 td N' T' P' w0 g → AX E 47 (LS47 v5 v6 (v7 + 1)) g fl Q) : AX E 604 (LS604 v5 v6 v7 v8 v9 v10 v11 v12 v13 v14 v15 v16) g fl Q := by
  have hW := (WS_pos (b := b) (w := w) hn hf).1
  have h5p : (0 : Int) < v5 := by omega
  obtain ⟨l1, l2⟩ := lowI_in (v := cellE E (22 + v7)) h5p
  obtain ⟨k, hk⟩ : ∃ k : Nat, lowI (cellE E (22 + v7)) v5 = k := ⟨(lowI (cellE E (22 + v7)) v5).toNat, by omega⟩
  have hkW : k < Wn b n := by omega
  have hWl := Wn_le (b := b) (n := n) hn
  obtain ⟨z1, z2, z3, z4⟩ := nc_word (w := w) hn hkW
  obtain ⟨f1, f2, f3, f4, f5, -, -⟩ := word_in (b := b) hn hkW
  have e1 : wordA b n w mk1 (lowI (cellE E (22 + v7)) v5) 1 = (nc b n w k : Nat) := by rw [wd_at hk hkW]; rfl
  have e1p : (0 : Int) < wordA b n w mk1 (lowI (cellE E (22 + v7)) v5) 1 := by omega
  obtain ⟨q1, q2⟩ := lowI_in (v := am_shr (cellE E (22 + v7)) 6) e1p
  have hSl := Sn_le (b := b) (w := w) hn
  have hin := fs_in (w := w) hn hkW (j := 0) z1
  refine b180_604 hO H ⟨rgI (by omega) (by omega), by omega, h5p, fun g1 H1 => ⟨e1p, ?_⟩⟩
  generalize lowI (am_shr (cellE E (22 + v7)) 6) (wordA b n w mk1 (lowI (cellE E (22 + v7)) v5) 1) = v18 at q1 q2 ⊢
  generalize lowI (cellE E (22 + v7)) v5 = v17 at hk ⊢ e1 e1p l1 l2 q2
  obtain ⟨j, hj⟩ : ∃ j : Nat, v18 = j := ⟨v18.toNat, by omega⟩
  have hjz : j < nc b n w k := by omega
  refine mark_ok H1 hk hkW (by omega) hN (fun g2 N' T' P' n1 n2 hmk H2 => ⟨by omega, ?_⟩)
  have hm2 := H2.hm
  have a1 : markedA b n (mkS T' P' N' b n) v17 = v18 := by
    unfold markedA
    rw [if_pos (by omega), hk, Int.toNat_natCast]; exact hmk
  have a0 : wordA b n w (mkS T' P' N' b n) v17 0 = (fs b n w k : Nat) := by rw [wd_at hk hkW]; rfl
  have a3 : wordA b n w (mkS T' P' N' b n) v17 3 = ((fs b n w k + j : Nat) : Int) := by
    rw [wd_at hk hkW]
    exact main_mk hn hm2 hkW hjz (by rw [hmk]; exact hj)
  have a5 : wordA b n w (mkS T' P' N' b n) v17 5 = 1 := by
    rw [wd_at hk hkW]
    show (if isMk (mkS T' P' N' b n k) (nc b n w k) then (1 : Int) else 0) = 1
    rw [if_pos ⟨by omega, by omega⟩]
  have r0 : am_rg (wordA b n w (mkS T' P' N' b n) v17 0 + v18) := rgI (by omega) (by omega)
  have e3 : wordA b n w (mkS T' P' N' b n) v17 3 = wordA b n w (mkS T' P' N' b n) v17 0 + v18 := by omega
  have r7 : am_rg (v7 + 1) := rgI (by omega) (by omega)
  exact b180_633 hO H2 (fun g3 H3 => ⟨a1, fun g4 H4 g5 H5 => ⟨r0, e3, fun g6 H6 => ⟨a5, b180_659 hO H6 ⟨r7, hq g6 _ _ _ _ n2 H6⟩⟩⟩⟩)
/-- the turn behind the text: told what is heard, learnt -/
theorem law_tail (hE : EW E) (hO : am_EO E) (hn : n ≤ 60) (hf : flaw b n = -1) {v5 v6 v7 v8 v9 v10 v11 v12 v13 v14 v15 v16 : Int} (h5 : v5 = (Wn b n : Nat)) (h6 : v6 = (Sn b n w : Nat)) (h7 : 0 ≤ v7 ∧ v7 ≤ 2) (h12 : v12 = (hnA b n w mk1 : Nat)) (hN : N < 6) (H : LI b n w mk1 td N T P w g)
    (hq : ∀ (g : GG) (mk2 td2 : Nat → Int) (N' : Nat) (T' : Nat → List Int) (P' : Nat → Int), N' ≤ N + 1 → LI b n w mk2 td2 N' T' P' w g → AX E 47 (LS47 v5 v6 (v7 + 1)) g fl Q) : AX E 533 (LS533 v5 v6 v7 v8 v9 v10 v11 v12 v13 v14 v15 v16) g fl Q := by
  have hwo := H.1.ok
  have hWS := WS_pos (b := b) (w := w) hn hf
  have hSl := Sn_le (b := b) (w := w) hn
  refine b180_533 hO H (copyH_ok H (fun g1 td1 htd H1 => ⟨h12.symm, ?_⟩))
  have n1 := nr_all htd
  have n2 := ns_all hwo n1
  have a1 : ((nrA b n w mk1 td1 : Nat) : Int) = v6 := by rw [n1, h6]
  have a2 : nearA b n w mk1 td1 4 = v6 := by rw [near4, n2, h6]
  have a3 : shA b n w mk1 td1 0 = 1065353216 := by
    show shV (nrA b n w mk1 td1) (Sn b n w) = _
    rw [n1]; exact sh_one _ (by omega) (by omega)
  refine b180_539 hO H1 (fun g2 H2 => ⟨a1, fun g3 H3 => ⟨a2, fun g4 H4 => ⟨a3, b180_557 hO H4 (fun g5 H5 => learn_ok H5 (fun g6 c hc m1 m2 H6 => ?_))⟩⟩⟩)
  have b1 : ((nrA b n (wc w c) mk1 td1 : Nat) : Int) = v6 := by rw [← m2, n2, h6]
  have b2 : nearA b n w mk1 td1 0 = ((c / 12 : Nat) : Int) := near0 m1
  obtain ⟨y0, y1, y2, y3, y4, y5, y6, y7, y8⟩ := id hwo
  have c4 : loW 4 ≤ w 4 ∧ w 4 ≤ hiW 4 := ⟨by show (0 : Int) ≤ _; omega, by show _ ≤ (2 : Int); omega⟩
  have c5 : loW 5 ≤ w 5 ∧ w 5 ≤ hiW 5 := ⟨by show (0 : Int) ≤ _; omega, by show _ ≤ (1 : Int); omega⟩
  have c6 : loW 6 ≤ w 6 ∧ w 6 ≤ hiW 6 := ⟨by show (0 : Int) ≤ _; omega, by show _ ≤ (1 : Int); omega⟩
  have c7 : loW 7 ≤ w 7 ∧ w 7 ≤ hiW 7 := ⟨by show (0 : Int) ≤ _; omega, by show _ ≤ (2 : Int); omega⟩
  refine ⟨b1, b180_567 hO H6 (fun g7 H7 => ⟨b1, ?_⟩)⟩
  rw [H7.2.2.2 4 (by omega)]
  refine way_ok hE H7 (k := 4) rfl (by omega) c4.1 c4.2 (fun g8 H8 => ⟨by rw [b2]; rfl, b180_579 hO H8 ?_⟩)
  rw [H8.2.2.2 5 (by omega)]
  refine way_ok hE H8 (k := 5) rfl (by omega) c5.1 c5.2 (fun g9 H9 => ⟨?_, b180_586 hO H9 ?_⟩)
  · show ¬ ((c / 6 % 2 : Nat) : Int) < 0
    omega
  rw [H9.2.2.2 6 (by omega)]
  refine way_ok hE H9 (k := 6) rfl (by omega) c6.1 c6.2 (fun g10 H10 => ⟨?_, b180_593 hO H10 ?_⟩)
  · show ¬ ((c / 3 % 2 : Nat) : Int) < 0
    omega
  rw [H10.2.2.2 7 (by omega)]
  refine way_ok hE H10 (k := 7) rfl (by omega) c7.1 c7.2 (fun g11 H11 => ⟨?_, b180_600 hO H11 ?_⟩)
  · show ¬ ((c % 3 : Nat) : Int) < 0
    omega
  have ew : (fun i => if i = 7 then w 7 else if i = 6 then w 6 else if i = 5 then w 5 else if i = 4 then w 4 else wc w c i) = w := by
    funext i
    by_cases z7 : i = 7
    · rw [if_pos z7, z7]
    · rw [if_neg z7]
      by_cases z6 : i = 6
      · rw [if_pos z6, z6]
      · rw [if_neg z6]
        by_cases z5 : i = 5
        · rw [if_pos z5, z5]
        · rw [if_neg z5]
          by_cases z4 : i = 4
          · rw [if_pos z4, z4]
          · rw [if_neg z4]; exact wc_o z4 z5 z6 z7
  have H12 : LI b n w mk1 td1 N T P w g11 := by
    have h := H11
    rw [show (fun i => if i = 7 then w 7 else (fun i => if i = 6 then w 6 else (fun i => if i = 5 then w 5 else (fun i => if i = 4 then w 4 else wc w c i) i) i) i) = w from ew] at h
    exact h
  exact law_mark hO hn hf h5 h7 hN H12 (fun g12 mk2 N' T' P' hN' H13 => hq g12 mk2 td1 N' T' P' hN' H13)
/-- one turn -/
theorem law_turn (hE : EW E) (hO : am_EO E) (hn : n ≤ 60) (hf : flaw b n = -1) {v5 v6 v7 : Int} (h5 : v5 = (Wn b n : Nat)) (h6 : v6 = (Sn b n w : Nat)) (h7 : 0 ≤ v7 ∧ v7 ≤ 2) (hN : N < 6) (H : LI b n w mk1 td N T P w g)
    (hq : ∀ (g : GG) (mk2 td2 : Nat → Int) (N' : Nat) (T' : Nat → List Int) (P' : Nat → Int), N' ≤ N + 1 → LI b n w mk2 td2 N' T' P' w g → AX E 47 (LS47 v5 v6 (v7 + 1)) g fl Q) : AX E 58 (LS58 v5 v6 v7 0 0 0) g fl Q := by
  have hwo := H.1.ok
  have hm := H.hm
  have hWS := WS_pos (b := b) (w := w) hn hf
  have h8 := hwo.w8
  refine law_words hO hn hf hwo hm h5 h6 (fun g1 v8 v9 v10 H1 => b180_288 hO H1 ?_) (Wn b n) 0 0 0 0 g (by omega) rfl rfl rfl H
  refine law_beats hO hn hwo hm rfl h6 (fun g2 v10' v11 v12 v13 H2 h12 => ?_) (Sn b n w) 0 (-1) 0 0 0 g1 (by omega) rfl rfl (by omega) (by omega) (Or.inl ⟨rfl, fun s hs => by omega, rfl⟩) H1
  have on : ∀ g, LI b n w mk1 td N T P w g → AX E 438 (LS438 v5 v6 v7 v8 v9 v10' v11 v12 v13) g fl Q := fun g3 H3 =>
    b180_438 hO H3 (fun g4 H4 => law_text hO hn hf hwo hm (by omega) h5 h6 h12 rfl (fun g5 v14 v15 v16 H5 => law_tail hE hO hn hf h5 h6 h7 h12 hN H5 hq) (txL b n w mk1).length 0 0 0 0 g4 (by omega) rfl rfl rfl H4)
  have e8 : g2 50 8 = w 8 := H2.2.2.2 8 (by omega)
  refine b180_426 hO H2 ⟨fun _ => on g2 H2, fun c g3 H3 => ⟨?_, on g3 H3⟩⟩
  show ((cbA b n w mk1 : Nat) : Int) = 0
  rw [cb_0 (by omega)]; rfl
/-- the body behind what is made -/
theorem law_body (hE : EW E) (hO : am_EO E) (H : LI b 0 w mk1 td 0 T P w0 g) (hlw : ∀ i, i < 9 → w i = loW i) (hq : ∀ m, Q (some (amI 1)) m) : AX E 10 LS10 g fl Q := by
  refine b180_10 hO H (told_ok hE hO H hlw (fun g1 b n w mk1 td hn0 hn55 hf H1 => ?_))
  have hn : n ≤ 60 := by omega
  have hWS := WS_pos (b := b) (w := w) hn hf
  have e1 : cnt3 b n w mk1 0 1 = (Wn b n : Nat) := rfl
  have e2 : cnt3 b n w mk1 0 2 = (Sn b n w : Nat) := rfl
  refine b180_17 hO H1 ⟨by decide, fun g2 H2 => ⟨hf, b180_26 hO H2 (fun g3 H3 g4 H4 => ⟨by omega, by omega, b180_45 hO H4 ?_⟩)⟩⟩
  refine b180_47 hO H4 ⟨fun _ => law_turn hE hO hn hf e1 e2 (by omega) (by omega) H4 (fun g5 mk2 td2 N2 T2 P2 hN2 H5 => ?_), fun c => absurd (by omega) c⟩
  refine b180_47 hO H5 ⟨fun _ => law_turn hE hO hn hf e1 e2 (by omega) (by omega) H5 (fun g6 mk3 td3 N3 T3 P3 hN3 H6 => ?_), fun c => absurd (by omega) c⟩
  exact b180_47 hO H6 ⟨fun c => absurd c (by omega), fun _ => hq _⟩
end LAWT
