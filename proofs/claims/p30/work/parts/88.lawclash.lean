/-! the law's loops: clashes that are heard, the text -/
section LAWCL
variable {E : am_E} {g : GG} {fl : FF} {Q : am_Q} {b : Nat → Int} {n : Nat} {w mk1 td : Nat → Int} {N : Nat} {T : Nat → List Int} {P : Nat → Int} {w0 : Nat → Int}
/-- no lesser beat ahead -/
theorem law_ahead (hO : am_EO E) {i : Nat} {v5 v6 v7 v8 v9 v10 v11 v12 v13 : Int} (h10 : v10 = i) (hi : i < Sn b n w) (hi60 : i ≤ 60) (h13 : 0 ≤ v13 ∧ v13 ≤ 60) (hno : ∀ s, fs b n w (wo b n w i) ≤ s → s < i → (heP b n w mk1).1 s ≠ 1)
    (hk : ∀ (g : GG) (v14 : Int), LI b n w mk1 td N T P w0 g → v14 = v13 + 1 → AX E 371 (LS371 v5 v6 v7 v8 v9 v10 v11 v12 v13 v14) g fl Q) :
    ∀ (f a : Nat) (v14 : Int) (g : GG), a + f = i → v14 = a → fs b n w (wo b n w i) ≤ a → LI b n w mk1 td N T P w0 g → AX E 350 (LS350 v5 v6 v7 v8 v9 v10 v11 v12 v13 v14) g fl Q := by
  intro f
  induction f with
  | zero =>
    intro a v14 g ha h14 hlo H
    exact b180_350 hO H ⟨fun c => absurd c (by omega), fun _ => ⟨rgI (by omega) (by omega), hk g _ H rfl⟩⟩
  | succ f ih =>
    intro a v14 g ha h14 hlo H
    have e6 : syllA b n w mk1 td v14 6 = (heP b n w mk1).1 a := by rw [sy_at h14 (by omega)]; rfl
    refine b180_350 hO H ⟨fun _ g2 H2 => ⟨by rw [e6]; exact hno a hlo (by omega), ?_⟩, fun c => absurd (by omega) c⟩
    exact b180_365 hO H2 ⟨rgI (by omega) (by omega), ih (a + 1) _ g2 (by omega) (by omega) (by omega) H2⟩
/-- no lesser beat behind -/
theorem law_behind (hO : am_EO E) (hn : n ≤ 60) {j : Nat} {v5 v6 v7 v8 v9 v10 v11 v12 v13 : Int} (h13 : v13 = j) (hj : j < Sn b n w) (h6 : v6 = (Sn b n w : Nat)) (hno : ∀ s, j < s → s < fs b n w (wo b n w j) + nc b n w (wo b n w j) → (heP b n w mk1).1 s ≠ 1)
    (hk : ∀ (g : GG), LI b n w mk1 td N T P w0 g → AX E 397 (LS397 v5 v6 v7 v8 v9 v10 v11 v12 v13) g fl Q) :
    ∀ (f a : Nat) (v14 : Int) (g : GG), a + f = Sn b n w → v14 = a → j < a → LI b n w mk1 td N T P w0 g → AX E 371 (LS371 v5 v6 v7 v8 v9 v10 v11 v12 v13 v14) g fl Q := by
  have hSl := Sn_le (b := b) (w := w) hn
  intro f
  induction f with
  | zero =>
    intro a v14 g ha h14 hja H
    exact b180_371 hO H ⟨fun c => absurd c (by omega), fun _ => hk g H⟩
  | succ f ih =>
    intro a v14 g ha h14 hja H
    have haS : a < Sn b n w := by omega
    have e6 : syllA b n w mk1 td v14 6 = (heP b n w mk1).1 a := by rw [sy_at h14 haS]; rfl
    have e0 : syllA b n w mk1 td v14 0 = (wo b n w a : Nat) := by rw [sy_at h14 haS]; rfl
    have ej : syllA b n w mk1 td v13 0 = (wo b n w j : Nat) := by rw [sy_at h13 hj]; rfl
    have r1 : am_rg (v14 + 1) := rgI (by omega) (by omega)
    have r2 : v14 + 1 = ((a + 1 : Nat) : Int) := by omega
    have hno2 : syllA b n w mk1 td v14 0 = syllA b n w mk1 td v13 0 → ¬ syllA b n w mk1 td v14 6 = 1 := by
      intro e
      rw [e0, ej] at e
      obtain ⟨o1, o2, o3, -⟩ := wo_ok (w := w) hn haS
      have e1 : fs b n w (wo b n w a + 1) = fs b n w (wo b n w a) + nc b n w (wo b n w a) := rfl
      rw [e6]
      have ee : wo b n w a = wo b n w j := by omega
      exact hno a hja (by rw [← ee, ← e1]; exact o3)
    exact b180_371 hO H ⟨fun _ g2 H2 g3 H3 => ⟨fun e g5 H5 => ⟨hno2 e, b180_395 hO H5 ⟨r1, ih (a + 1) _ g5 (by omega) r2 (by omega) H5⟩⟩, fun _ => hk g3 H3⟩, fun _ => hk g H⟩
theorem cl_zero {S V : Nat} {h : Nat → Int} {s : Nat} (h0 : h s = 0) : ¬ cl S V h s := fun c => c.1 h0
/-- what has been seen of the beats before j -/
def Seen (S V : Nat) (h : Nat → Int) (j : Nat) (v10 v11 : Int) : Prop := (v10 = -1 ∧ (∀ s, s < j → h s = 0) ∧ v11 = 0) ∨ ∃ i : Nat, v10 = i ∧ i < j ∧ h i ≠ 0 ∧ (∀ s, i < s → s < j → h s = 0) ∧ v11 = (ctB (cl S V h) i : Nat)
theorem Seen.zero {S V : Nat} {h : Nat → Int} {j : Nat} {v10 v11 : Int} (hs : Seen S V h j v10 v11) (h0 : h j = 0) : Seen S V h (j + 1) v10 v11 := by
  rcases hs with ⟨a1, a2, a3⟩ | ⟨i, a1, a2, a3, a4, a5⟩
  · refine Or.inl ⟨a1, fun s hs => ?_, a3⟩
    by_cases y : s = j
    · rw [y]; exact h0
    · exact a2 s (by omega)
  · refine Or.inr ⟨i, a1, by omega, a3, fun s z1 z2 => ?_, a5⟩
    by_cases y : s = j
    · rw [y]; exact h0
    · exact a4 s z1 (by omega)
theorem Seen.end {S V : Nat} {h : Nat → Int} {v10 v11 : Int} (hs : Seen S V h S v10 v11) : ((ctB (cl S V h) S : Nat) : Int) = v11 := by
  rcases hs with ⟨a1, a2, a3⟩ | ⟨i, a1, a2, a3, a4, a5⟩
  · rw [a3, ctB_nil (fun s hs => cl_zero (a2 s hs))]; rfl
  · have hnx : nx h S (i + 1) = S := nx_of (by omega) (Nat.le_refl _) (fun s z1 z2 => a4 s (by omega) z2) (fun z => by omega)
    have e1 := ctB_gap (p := cl S V h) (a := i + 1) (c := S) (by omega) (fun s z1 z2 => cl_zero (a4 s (by omega) z2))
    rw [a5, e1, ctB_s, if_neg (fun c => by have := c.2.1; omega)]
    rfl
theorem Seen.first {S V : Nat} {h : Nat → Int} {j : Nat} {v11 : Int} (h0 : ∀ s, s < j → h s = 0) (h11 : v11 = 0) (hj : h j ≠ 0) : Seen S V h (j + 1) j v11 := by
  refine Or.inr ⟨j, rfl, by omega, hj, fun s z1 z2 => by omega, ?_⟩
  rw [h11, ctB_nil (fun s hs => cl_zero (h0 s hs))]; rfl
/-- all beats, one by one -/
theorem law_beats (hO : am_EO E) (hn : n ≤ 60) (hwo : waysOK w) (hm : ∀ k, k < Wn b n → -1 ≤ mk1 k) (hw8 : w0 8 = w 8) {v5 v6 v7 v8 v9 : Int} (h6 : v6 = (Sn b n w : Nat))
    (hq : ∀ (g : GG) (v10 v11 v12 v13 : Int), LI b n w mk1 td N T P w0 g → v12 = (hnA b n w mk1 : Nat) → AX E 426 (LS426 v5 v6 v7 v8 v9 v10 v11 v12 v13) g fl Q) :
    ∀ (f j : Nat) (v10 v11 v12 v13 : Int) (g : GG), j + f = Sn b n w → v13 = j → v12 = (ctB (fun s => (heP b n w mk1).1 s ≠ 0) j : Nat) → 0 ≤ v11 → v11 ≤ j → Seen (Sn b n w) (w 8).toNat (heP b n w mk1).1 j v10 v11 → LI b n w mk1 td N T P w0 g → AX E 296 (LS296 v5 v6 v7 v8 v9 v10 v11 v12 v13) g fl Q := by
  have hSl := Sn_le (b := b) (w := w) hn
  have hIh := (he_ok (b := b) (w := w) (mk1 := mk1) hn hm).1
  have h8 := hwo.w8
  intro f
  induction f with
  | zero =>
    intro j v10 v11 v12 v13 g hj h13 h12 h11a h11b hs H
    have : j = Sn b n w := by omega
    subst this
    have e1 : hdA b n w mk1 1 = v11 := hs.end
    have e3 : hdA b n w mk1 3 = v11 := hs.end
    have e6 : cnt3 b n w mk1 N 6 = v12 := h12.symm
    have e2 : hdA b n w mk1 2 = (cbA b n w mk1 : Nat) := rfl
    have e0 : hdA b n w mk1 0 = ((heP b n w mk1).2 : Nat) := rfl
    have em : ¬ (0 < hdA b n w mk1 2) → hdA b n w mk1 0 = 0 := fun c => by
      rw [e0, he_mv (by omega)]; rfl
    exact b180_296 hO H ⟨fun c => absurd c (by omega), fun _ g2 H2 => ⟨e1, fun g3 H3 => ⟨e3, fun g4 H4 => ⟨e6, fun g5 H5 => ⟨fun _ => hq g5 _ _ _ _ H5 h12, fun c g7 H7 => ⟨em c, hq g7 _ _ _ _ H7 h12⟩⟩⟩⟩⟩⟩
  | succ f ih =>
    intro j v10 v11 v12 v13 g hj h13 h12 h11a h11b hs H
    have hjS : j < Sn b n w := by omega
    have hct := ctB_le (p := fun s => (heP b n w mk1).1 s ≠ 0) j
    have e6 : syllA b n w mk1 td v13 6 = (heP b n w mk1).1 j := by rw [sy_at h13 hjS]; rfl
    have vj := hIh.v j hjS
    have r12 : am_rg (v12 + 1) := rgI (by omega) (by omega)
    have r11 : am_rg (v11 + 1) := rgI (by omega) (by omega)
    have r13 : am_rg (v13 + 1) := rgI (by omega) (by omega)
    have e13 : v13 + 1 = ((j + 1 : Nat) : Int) := by omega
    -- on to the next, with the beat at j
    have next : ∀ (v11' : Int) (g : GG), 0 < syllA b n w mk1 td v13 6 → 0 ≤ v11' → v11' ≤ (j + 1 : Nat) → Seen (Sn b n w) (w 8).toNat (heP b n w mk1).1 (j + 1) j v11' → LI b n w mk1 td N T P w0 g → AX E 397 (LS397 v5 v6 v7 v8 v9 v10 v11' (v12 + 1) v13) g fl Q := by
      intro v11' g hp q1 q2 q3 H9
      have hj0 : (heP b n w mk1).1 j ≠ 0 := by omega
      refine b180_397 hO H9 ⟨r13, ih (j + 1) _ _ _ _ g (by omega) e13 ?_ q1 q2 (by rw [h13]; exact q3) H9⟩
      rw [ctB_s, if_pos hj0, h12]; rfl
    refine b180_296 hO H ⟨fun _ g2 H2 => ⟨fun hp => ⟨r12, fun c10 => ?_, fun c10 => ?_⟩, fun hp => ⟨r13, ?_⟩⟩, fun c => absurd (by omega) c⟩
    · -- the first beat
      rcases hs with ⟨a1, a2, a3⟩ | ⟨i, a1, -⟩
      · exact next v11 g2 hp h11a (by omega) (Seen.first a2 a3 (by omega)) H2
      · omega
    · rcases hs with ⟨a1, -⟩ | ⟨i, a1, a2, a3, a4, a5⟩
      · omega
      · have hj0 : (heP b n w mk1).1 j ≠ 0 := by omega
        have hnx : nx (heP b n w mk1).1 (Sn b n w) (i + 1) = j := nx_of (by omega) (by omega) (fun s z1 z2 => a4 s (by omega) z2) (fun _ => hj0)
        have gap : ctB (cl (Sn b n w) (w 8).toNat (heP b n w mk1).1) j = ctB (cl (Sn b n w) (w 8).toNat (heP b n w mk1).1) i + (if cl (Sn b n w) (w 8).toNat (heP b n w mk1).1 i then 1 else 0) :=
          ctB_gap (p := cl (Sn b n w) (w 8).toNat (heP b n w mk1).1) (a := i + 1) (c := j) (by omega) (fun s z1 z2 => cl_zero (a4 s (by omega) z2))
        have e50 : ∀ g', LI b n w mk1 td N T P w0 g' → g' 50 8 = ((w 8).toNat : Nat) := fun g' H' => by rw [H'.2.2.2 8 (by omega), hw8]; exact h8.1
        have rr : am_rg (v13 - v10) := rgI (by omega) (by omega)
        refine ⟨rr, fun c8 => ?_, fun c8 => ⟨r11, ?_⟩⟩
        · rw [e50 g2 H2] at c8
          have hnc : ¬ cl (Sn b n w) (w 8).toNat (heP b n w mk1).1 i := fun c => by have := c.2.2; omega
          rw [if_neg hnc] at gap
          refine next v11 g2 hp h11a (by omega) (Or.inr ⟨j, rfl, by omega, hj0, fun s z1 z2 => by omega, ?_⟩) H2
          rw [gap]; exact a5
        · rw [e50 g2 H2] at c8
          have hc : cl (Sn b n w) (w 8).toNat (heP b n w mk1).1 i := ⟨a3, by omega, by omega⟩
          rw [if_pos hc] at gap
          obtain ⟨k1, k2, k3, k4, k5⟩ := he_clash hn hm (s := i) (t := j) (by omega) hc hnx
          have i6 : syllA b n w mk1 td v10 6 = (heP b n w mk1).1 i := by rw [sy_at a1 (by omega)]; rfl
          have i0 : syllA b n w mk1 td v10 0 = (wo b n w i : Nat) := by rw [sy_at a1 (by omega)]; rfl
          have j0 : syllA b n w mk1 td v13 0 = (wo b n w j : Nat) := by rw [sy_at h13 hjS]; rfl
          obtain ⟨o1, o2, o3, -⟩ := wo_ok (b := b) (w := w) hn (s := i) (by omega)
          have ew : wordA b n w mk1 (syllA b n w mk1 td v10 0) 0 = (fs b n w (wo b n w i) : Nat) := by rw [wd_at i0 o1]; rfl
          have ne : ¬ syllA b n w mk1 td v13 0 = syllA b n w mk1 td v10 0 := by omega
          have d1 : syllA b n w mk1 td v13 6 = 2 := by rw [e6]; exact k2
          have d2 : syllA b n w mk1 td v10 6 = 2 := by rw [i6]; exact k1
          have nx1 : ∀ g, LI b n w mk1 td N T P w0 g → AX E 397 (LS397 v5 v6 v7 v8 v9 v10 (v11 + 1) (v12 + 1) v13) g fl Q := fun g9 H9 => by
            refine next (v11 + 1) g9 hp (by omega) (by omega) (Or.inr ⟨j, rfl, by omega, hj0, fun s z1 z2 => by omega, ?_⟩) H9
            rw [gap, a5]; rfl
          refine fun g6 H6 => ⟨d1, fun g7 H7 => ⟨d2, fun g8 H8 g9 H9 => ⟨ne, b180_342 hO H9 (fun g10 H10 g11 H11 => ?_)⟩⟩⟩
          rw [ew]
          refine law_ahead hO a1 (by omega) (by omega) (by omega) k3 (fun g12 v14 H12 h14 => ?_) (i - fs b n w (wo b n w i)) (fs b n w (wo b n w i)) _ g11 (by omega) rfl (Nat.le_refl _) H11
          exact law_behind hO hn h13 hjS h6 k4 nx1 (Sn b n w - (j + 1)) (j + 1) v14 g12 (by omega) (by omega) (by omega) H12
    · have h0 : (heP b n w mk1).1 j = 0 := by omega
      refine ih (j + 1) _ _ _ _ g2 (by omega) e13 ?_ h11a (by omega) (hs.zero h0) H2
      rw [ctB_s, if_neg (fun z => z h0), h12]; rfl
theorem tx_at {v : Int} {i : Nat} (hv : v = i) (hi : i < (txL b n w mk1).length) : textA b n w mk1 v = (txL b n w mk1).getD i 0 := by
  unfold textA
  rw [if_neg (by omega), if_pos (by omega), hv, Int.toNat_natCast]
/-- the text, byte by byte -/
theorem law_text (hO : am_EO E) (hn : n ≤ 60) (hf : flaw b n = -1) (hwo : waysOK w) (hm : ∀ k, k < Wn b n → -1 ≤ mk1 k) (hS : 0 < Sn b n w) {v5 v6 v7 v8 v9 v10 v11 v12 v13 : Int} (h5 : v5 = (Wn b n : Nat)) (h6 : v6 = (Sn b n w : Nat)) (h12 : v12 = (hnA b n w mk1 : Nat)) (h13 : v13 = ((txL b n w mk1).length : Nat))
    (hq : ∀ (g : GG) (v14 v15 v16 : Int), LI b n w mk1 td N T P w0 g → AX E 533 (LS533 v5 v6 v7 v8 v9 v10 v11 v12 v13 v14 v15 v16) g fl Q) :
    ∀ (f i : Nat) (v14 v15 v16 : Int) (g : GG), i + f = (txL b n w mk1).length → v16 = i → v14 = ((unm ((txL b n w mk1).take i)).length : Nat) → v15 = (btC ((txL b n w mk1).take i) : Nat) → LI b n w mk1 td N T P w0 g → AX E 448 (LS448 v5 v6 v7 v8 v9 v10 v11 v12 v13 v14 v15 v16) g fl Q := by
  have hSl := Sn_le (b := b) (w := w) hn
  have hWl := Wn_le (b := b) (n := n) hn
  have hln : (txL b n w mk1).length ≤ 180 := txA_le hn hwo (Nat.le_refl _)
  obtain ⟨t1, t2, t3⟩ := txL_law (b := b) (w := w) (mk1 := mk1) hn hf hwo hm hS
  have hh : hnA b n w mk1 ≤ Sn b n w := ctB_le _
  intro f
  induction f with
  | zero =>
    intro i v14 v15 v16 g hi h16 h14 h15 H
    have : i = (txL b n w mk1).length := by omega
    subst this
    rw [List.take_length] at h14 h15
    rw [t1, tx_len] at h14
    rw [t2] at h15
    have e60 := H.2.2.1
    exact b180_448 hO H ⟨fun c => absurd c (by omega), fun _ => ⟨by omega, by omega, rgI (by omega) (by omega), rgI (by omega) (by omega), rgI (by omega) (by omega), by omega, hq g _ _ _ H⟩⟩
  | succ f ih =>
    intro i v14 v15 v16 g hi h16 h14 h15 H
    have hil : i < (txL b n w mk1).length := by omega
    have ev := tx_at (b := b) (n := n) (w := w) (mk1 := mk1) h16 hil
    have us := unm_s hil
    have bs := btC_s hil
    have ul : (unm ((txL b n w mk1).take i)).length ≤ i := by
      have h1 := List.length_filter_le (fun c => !mkB c) ((txL b n w mk1).take i)
      have h2 := List.length_take_le i (txL b n w mk1)
      unfold unm
      omega
    have bl : btC ((txL b n w mk1).take i) ≤ i := by
      have h1 := List.countP_le_length (p := btB) (l := (txL b n w mk1).take i)
      have h2 := List.length_take_le i (txL b n w mk1)
      unfold btC
      omega
    have r15 : am_rg (v15 + 1) := rgI (by omega) (by omega)
    have r15' : am_rg (v15 + 0) := rgI (by omega) (by omega)
    have r16 : am_rg (v16 + 1) := rgI (by omega) (by omega)
    have e16 : v16 + 1 = ((i + 1 : Nat) : Int) := by omega
    -- a mark
    have mark : ∀ (v15' v17 v18 : Int) (g : GG), mkB ((txL b n w mk1).getD i 0) = true → v15' = (btC ((txL b n w mk1).take (i + 1)) : Nat) → ¬ v18 = 0 → LI b n w mk1 td N T P w0 g → AX E 482 (LS482 v5 v6 v7 v8 v9 v10 v11 v12 v13 v14 v15' v16 v17 v18) g fl Q := by
      intro v15' v17 v18 g hc h15' h18 H9
      rw [if_pos hc] at us
      have e14 : v14 + b01 (v18 = 0) = ((unm ((txL b n w mk1).take (i + 1))).length : Nat) := by rw [b01_f h18, us]; omega
      exact b180_482 hO H9 ⟨fun c => absurd c h18, fun _ => b180_498 hO H9 ⟨rgI (by omega) (by omega), r16, ih (i + 1) _ _ _ g (by omega) e16 e14 h15' H9⟩⟩
    refine b180_448 hO H ⟨fun _ g2 H2 => ⟨fun c39 => ⟨r15, ?_⟩, fun c39 => ⟨fun c44 => ⟨r15, ?_⟩, fun c44 => ⟨r15', ?_⟩⟩⟩, fun c => absurd (by omega) c⟩
    · rw [ev] at c39
      have hbt : btB ((txL b n w mk1).getD i 0) = true := decide_eq_true (by omega)
      exact mark _ _ 1 g2 (decide_eq_true (by omega)) (by rw [bs, if_pos hbt, h15]; rfl) (by decide) H2
    · rw [ev] at c44
      have hbt : btB ((txL b n w mk1).getD i 0) = true := decide_eq_true (by omega)
      exact mark _ _ 1 g2 (decide_eq_true (by omega)) (by rw [bs, if_pos hbt, h15]; rfl) (by decide) H2
    · rw [ev] at c39 c44 ⊢
      have hbt : btB ((txL b n w mk1).getD i 0) = false := decide_eq_false (by omega)
      have e15 : v15 + 0 = (btC ((txL b n w mk1).take (i + 1)) : Nat) := by rw [bs, hbt, if_neg (by decide), h15]; rfl
      by_cases c46 : (txL b n w mk1).getD i 0 = 46
      · rw [b01_t c46]
        exact mark _ _ 1 g2 (decide_eq_true (by omega)) e15 (by decide) H2
      · rw [b01_f c46]
        have hc : mkB ((txL b n w mk1).getD i 0) = false := decide_eq_false (by omega)
        obtain ⟨u1, u2⟩ := unm_at hil hc t1
        rw [hc, if_neg (by decide)] at us
        have e14 : v14 + b01 ((0 : Int) = 0) = ((unm ((txL b n w mk1).take (i + 1))).length : Nat) := by rw [b01_t rfl, us]; omega
        have e60 := H2.2.2.1
        have eb : g2 49 (Int.toNat v14) = b (unm ((txL b n w mk1).take i)).length := by rw [toNat_eq h14]; exact H2.2.1 _ u1
        exact b180_482 hO H2 ⟨fun _ => ⟨by omega, by omega, by rw [eb]; exact u2, b180_498 hO H2 ⟨rgI (by omega) (by omega), r16, ih (i + 1) _ _ _ g2 (by omega) e16 e14 e15 H2⟩⟩, fun c => absurd rfl c⟩
end LAWCL
