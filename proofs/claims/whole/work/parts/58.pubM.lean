/-! the reference's calls that read -/
def dgI (h : Int64) (x : Int) : Int64 := ((Int64.ofInt 31) * h) + (am_i2l x)
def dgF (f : Nat → Int) : Nat → Int64 → Int64
  | 0, h => h
  | k + 1, h => dgI (dgF f k h) (f k)
section DGS
variable (b : Nat → Int) (n : Nat) (w : Nat → Int) (mk' : Nat → Int) (td : Nat → Int)
def shA (x : Int) : Int := if x = 0 then shV (nrA b n w mk' td) (Sn b n w) else if x = 1 then shV (hvA b n w) (Sn b n w) else if x = 2 then shV (mhA b n w mk') (maA b n w) else 0
def dgW : Nat → Int64 → Int64
  | 0, h => h
  | k + 1, h => dgI (dgF (fun x => wdA b n w mk' k x) 6 (dgW k h)) (mk' k)
def dgS : Nat → Int64 → Int64
  | 0, h => h
  | s + 1, h => dgF (fun x => syA b n w mk' td s x) 8 (dgS s h)
def txL : List Int := txA b n w (heP b n w mk').1 (Sn b n w)
def dg1 (N f : Int) : Int64 := dgI (dgF (fun x => cntA b n w mk' N f x) 8 (Int64.ofInt 17)) (flaw b n)
def dg2 (N f : Int) : Int64 := dgS b n w mk' td (Sn b n w) (dgW b n w mk' (Wn b n) (dg1 b n w mk' N f))
def dg3 (N f : Int) : Int64 := dgF (fun k => hdA b n w mk' k) 4 (dgF (fun k => clA b n w mk' k) (cbA b n w mk') (dg2 b n w mk' td N f))
def dg4 (N f : Int) : Int64 := dgF (fun x => nstA (nsA b n w mk' td) x) 5 (dgI (dg3 b n w mk' td N f) (nrA b n w mk' td : Nat))
def dg5 (N f : Int) : Int64 := dgI (dgF (fun x => shA b n w mk' td x) 3 (dg4 b n w mk' td N f)) ((txL b n w mk').length : Nat)
def dgA (N f : Int) : Int64 := dgF (fun i => (txL b n w mk').getD i 0) (txL b n w mk').length (dg5 b n w mk' td N f)
def textA (x : Int) : Int := if x = -1 then ((txL b n w mk').length : Nat) else if 0 ≤ x ∧ x < (txL b n w mk').length then (txL b n w mk').getD x.toNat 0 else -2
end DGS
abbrev RM (b : Nat → Int) (n : Nat) (w : Nat → Int) (mk' : Nat → Int) (td : Nat → Int) (N : Nat) (T : Nat → List Int) (P : Nat → Int) (g : GG) : Prop := (RB n N T P g) ∧ (b = nz (g 50) n) ∧ (w = g 51) ∧ (mk' = mkS T P N b n) ∧ (g 52 = td)
theorem RM.rb {b : Nat → Int} {n : Nat} {w : Nat → Int} {mk' : Nat → Int} {td : Nat → Int} {N : Nat} {T : Nat → List Int} {P : Nat → Int} {g : GG} (hx_ : RM b n w mk' td N T P g) : RB n N T P g := hx_.1
theorem RM.eb {b : Nat → Int} {n : Nat} {w : Nat → Int} {mk' : Nat → Int} {td : Nat → Int} {N : Nat} {T : Nat → List Int} {P : Nat → Int} {g : GG} (hx_ : RM b n w mk' td N T P g) : b = nz (g 50) n := hx_.2.1
theorem RM.ew {b : Nat → Int} {n : Nat} {w : Nat → Int} {mk' : Nat → Int} {td : Nat → Int} {N : Nat} {T : Nat → List Int} {P : Nat → Int} {g : GG} (hx_ : RM b n w mk' td N T P g) : w = g 51 := hx_.2.2.1
theorem RM.em {b : Nat → Int} {n : Nat} {w : Nat → Int} {mk' : Nat → Int} {td : Nat → Int} {N : Nat} {T : Nat → List Int} {P : Nat → Int} {g : GG} (hx_ : RM b n w mk' td N T P g) : mk' = mkS T P N b n := hx_.2.2.2.1
theorem RM.et {b : Nat → Int} {n : Nat} {w : Nat → Int} {mk' : Nat → Int} {td : Nat → Int} {N : Nat} {T : Nat → List Int} {P : Nat → Int} {g : GG} (hx_ : RM b n w mk' td N T P g) : g 52 = td := hx_.2.2.2.2
section PUBM
variable {E : am_E} {g : GG} {fl : FF} {b : Nat → Int} {n : Nat} {w : Nat → Int} {mk' : Nat → Int} {td : Nat → Int} {N : Nat} {T : Nat → List Int} {P : Nat → Int} {Q : Int → GG → FF → Prop}
theorem RM.km {g' : GG} (h : RM b n w mk' td N T P g) (k : KM g g') : RM b n w mk' td N T P g' := ⟨h.rb.km k, k.bb h.eb, k.ww h.ew, h.em, k.tt h.et⟩
theorem RM.hwo (h : RM b n w mk' td N T P g) : waysOK w := h.rb.hwo h.ew
theorem RM.mk1 (h : RM b n w mk' td N T P g) (k : Nat) : -1 ≤ mk' k ∧ mk' k ≤ 60 := by rw [h.em]; exact mkS_in h.rb.lt k
theorem RM.hI (h : RM b n w mk' td N T P g) (hF : FA b n w mk' g) : HI (Sn b n w) (loS b n w) (hiS b n w) (heP b n w mk').1 := (hF.h0 h.rb.n60 (fun k _ => (h.mk1 k).1)).1
theorem findsM_ok {Q : GG → FF → Prop} (hR : RM b n w mk' td N T P g) (h : ∀ g' : GG, FA b n w mk' g' → KM g g' → RM b n w mk' td N T P g' → Q g' fl) : cV E 131 [amR 49] g fl Q :=
  findsAll_km hR.rb hR.eb hR.ew hR.em (fun g' h1 h2 => h g' h1 h2 (hR.km h2))
theorem isWordM_ok {v1 : Int} (hR : RM b n w mk' td N T P g) (h1 : ∀ g' : GG, FA b n w mk' g' → KM g g' → RM b n w mk' td N T P g' → (0 ≤ v1 ∧ v1 < Wn b n) → Q 1 g' fl) (h0 : ∀ g' : GG, FA b n w mk' g' → KM g g' → RM b n w mk' td N T P g' → ¬ (0 ≤ v1 ∧ v1 < Wn b n) → Q 0 g' fl) : cI E 134 [amR 49, amI v1] g fl Q := by
  have hWl := Wn_le (b := b) (n := n) hR.rb.n60
  refine b134 (findsM_ok hR (fun g1 F1 k1 r1 => ?_))
  rw [F1.x.c.W]
  refine ⟨rgI (by omega) (by omega), ?_⟩
  by_cases c : 0 ≤ v1 ∧ v1 < Wn b n
  · rw [b01_t (by omega)]; exact h1 g1 F1 k1 r1 c
  · rw [b01_f (by omega)]; exact h0 g1 F1 k1 r1 c
theorem isSyllM_ok {v1 : Int} (hR : RM b n w mk' td N T P g) (h1 : ∀ g' : GG, FA b n w mk' g' → KM g g' → RM b n w mk' td N T P g' → (0 ≤ v1 ∧ v1 < Sn b n w) → Q 1 g' fl) (h0 : ∀ g' : GG, FA b n w mk' g' → KM g g' → RM b n w mk' td N T P g' → ¬ (0 ≤ v1 ∧ v1 < Sn b n w) → Q 0 g' fl) : cI E 137 [amR 49, amI v1] g fl Q := by
  have hn := hR.rb.n60
  have hSl := Sn_le (b := b) (w := w) hn
  refine b137 (findsM_ok hR (fun g1 F1 k1 r1 => ?_))
  rw [F1.x.c.S]
  refine ⟨rgI (by omega) (by omega), ?_⟩
  by_cases c : 0 ≤ v1 ∧ v1 < Sn b n w
  · rw [b01_t (by omega)]; exact h1 g1 F1 k1 r1 c
  · rw [b01_f (by omega)]; exact h0 g1 F1 k1 r1 c
theorem wordM_ok {v1 v2 : Int} (hR : RM b n w mk' td N T P g) (h : ∀ g' : GG, KM g g' → Q (wordA b n w mk' v1 v2) g' fl) : cI E 135 [amR 49, amI v1, amI v2] g fl Q := by
  unfold wordA at h
  refine b135 (isWordM_ok hR (fun g1 F1 k1 r1 c => ⟨fun y => absurd y (by omega), fun _ => ⟨fun c2 => ?_, fun c2 => ?_⟩⟩) (fun g1 F1 k1 r1 c => ⟨fun _ => ?_, fun y => absurd rfl y⟩))
  · have h := h g1 k1
    rw [if_pos c] at h
    exact wordBy_ok r1.rb.n60 r1.eb r1.rb.lx r1.rb.lt r1.em F1 (k := v1.toNat) (by omega) (by omega) c2 h
  · have h := h g1 k1
    rw [if_pos c] at h
    unfold wdA at h
    rw [if_neg (by omega), if_neg (by omega), if_neg (by omega), if_neg (by omega), if_neg (by omega), if_neg (by omega)] at h
    exact h
  · have h := h g1 k1
    rw [if_neg c] at h; exact h
theorem syllM_ok {v1 v2 : Int} (hR : RM b n w mk' td N T P g) (h : ∀ g' : GG, KM g g' → Q (syllA b n w mk' td v1 v2) g' fl) : cI E 138 [amR 49, amI v1, amI v2] g fl Q := by
  unfold syllA at h
  refine b138 (isSyllM_ok hR (fun g1 F1 k1 r1 c => ⟨fun y => absurd y (by omega), fun _ => ⟨fun c2 => ?_, fun c2 => ?_⟩⟩) (fun g1 F1 k1 r1 c => ⟨fun _ => ?_, fun y => absurd rfl y⟩))
  · have h := h g1 k1
    rw [if_pos c] at h
    exact syllableBy_ok r1.rb.n60 r1.hwo F1 r1.et (s := v1.toNat) (by omega) (by omega) c2 h
  · have h := h g1 k1
    rw [if_pos c] at h
    unfold syA at h
    rw [if_neg (by omega), if_neg (by omega), if_neg (by omega), if_neg (by omega), if_neg (by omega), if_neg (by omega), if_neg (by omega), if_neg (by omega)] at h
    exact h
  · have h := h g1 k1
    rw [if_neg c] at h; exact h
theorem markedM_ok {v1 : Int} (hR : RM b n w mk' td N T P g) (h : ∀ g' : GG, KM g g' → Q (markedA b n mk' v1) g' fl) : cI E 141 [amR 49, amI v1] g fl Q := by
  unfold markedA at h
  refine b141 (isWordM_ok hR (fun g1 F1 k1 r1 c => ⟨fun y => absurd y (by omega), fun _ => ?_⟩) (fun g1 F1 k1 r1 c => ⟨fun _ => ?_, fun y => absurd rfl y⟩))
  · have h := h g1 k1
    rw [if_pos c, r1.em] at h
    exact markedAt_ok r1.rb.n60 r1.eb r1.rb.lx r1.rb.lt F1.x.c (k := v1.toNat) (by omega) (by omega) h
  · have h := h g1 k1
    rw [if_neg c] at h; exact h
theorem clashM_ok {v1 : Int} (hv : am_rg v1) (hR : RM b n w mk' td N T P g) (h : ∀ g' : GG, KM g g' → Q (clA b n w mk' v1) g' fl) : cI E 143 [amR 49, amI v1] g fl Q := by
  refine b143 (findsM_ok hR (fun g1 F1 k1 r1 => ⟨fun c => ?_, fun c => clashBy_ok r1.rb.n60 r1.hwo F1 ⟨by omega, hv.2⟩ (h g1 k1)⟩))
  have h := h g1 k1
  unfold clA at h
  rw [nthF_no (Or.inl c)] at h; exact h
theorem heardM_ok {v1 : Int} (hR : RM b n w mk' td N T P g) (h : ∀ g' : GG, KM g g' → Q (hdA b n w mk' v1) g' fl) : cI E 145 [amR 49, amI v1] g fl Q := by
  refine b145 (findsM_ok hR (fun g1 F1 k1 r1 => ⟨fun c => heardBy_ok r1.rb.n60 r1.hwo (fun k _ => (r1.mk1 k).1) F1 c (h g1 k1), fun c => ?_⟩))
  have h := h g1 k1
  unfold hdA at h
  rw [if_neg (by omega), if_neg (by omega), if_neg (by omega), if_neg (by omega)] at h; exact h
theorem nearM_ok (hR : RM b n w mk' td N T P g) (h : ∀ g' : GG, KM g g' → Q (nrA b n w mk' td : Nat) g' fl) : cI E 150 [amR 49] g fl Q :=
  b150 (nearNow_ok hR.rb hR.eb hR.ew hR.em hR.et (fun g1 _ k1 => h g1 k1))
theorem nearestM_ok {v1 : Int} (hR : RM b n w mk' td N T P g) (h : ∀ g' : GG, KM g g' → Q (if 0 ≤ v1 ∧ v1 ≤ 4 then nstA (nsA b n w mk' td) v1 else -2) g' fl) : cI E 155 [amR 49, amI v1] g fl Q := by
  refine b155 ⟨fun c => nearestBy_ok hR.rb hR.eb hR.ew hR.em hR.et c (fun g1 _ k1 => ?_), fun c => ?_⟩
  · have h := h g1 k1
    rw [if_pos c] at h; exact h
  · have h := h g KM.refl
    rw [if_neg c] at h; exact h
theorem learnM_ok (hR : RM b n w mk' td N T P g) {c : Nat} (hc : (nsA b n w mk' td).1 = c) (h : ∀ g' : GG, g' 51 = wc w c → (∀ a i, a ≠ 51 → ¬ (a = 49 ∧ (i = 6 ∨ i = 13 ∨ (22 ≤ i ∧ i ≤ 26))) → ¬ (53 ≤ a ∧ a ≤ 62) → ¬ (66 ≤ a ∧ a ≤ 68) → g' a i = g a i) → Q (nrA b n (wc w c) mk' td : Nat) g' fl) : cI E 156 [amR 49] g fl Q := by
  obtain ⟨n1, n2, -⟩ := nsA_in (b := b) (n := n) (w := w) (mk' := mk') (td := td)
  have hwo := hR.hwo
  refine b156 (nearestCode_ok hR.rb hR.eb hR.ew hR.em hR.et (fun g1 F1 k1 e1 => takes_ok hc (by omega) (fun g2 q1 q2 => ?_)))
  have r1 := hR.km k1
  have hw2 : wc w c = g2 51 := by rw [q1, ← r1.ew]
  have hR2 : RB n N T P g2 := ⟨hR.rb.n60, by rw [q2 _ _ (by omega)]; exact r1.rb.gn, by rw [← hw2]; exact wc_ok hwo (by omega), r1.rb.lx.keep (fun a i z => q2 a i (by omega)), r1.rb.lt⟩
  have hb2 : b = nz (g2 50) n := r1.eb.trans (by rw [show g2 50 = g1 50 from funext fun x => q2 _ _ (by omega)])
  have ht2 : g2 52 = td := by rw [← r1.et]; funext x; exact q2 _ _ (by omega)
  exact nearNow_ok hR2 hb2 hw2 hR.em ht2 (fun g3 F3 k3 => h g3 (k3.ww hw2).symm (fun a i z z1 z2 z3 => by rw [k3 a i z1 z2 z3, q2 a i z]; exact k1 a i z1 z2 z3))
theorem feetAll_ok (hn : n ≤ 60) (hF : FA b n w mk' g) (h1 : Q (faA b n w : Nat) g fl) : cI E 175 [amR 49] g fl Q := by
  have hWl := Wn_le (b := b) (n := n) hn
  have hSl := Sn_le (b := b) (w := w) hn
  have hW := hF.x.c.W
  have hft : ∀ k, k < Wn b n → ftW b n w k ≤ 60 := fun k hk => by
    have hfm : fs b n w (k + 1) ≤ fs b n w (Wn b n) := fs_mono (by omega)
    have hfs1 : fs b n w (k + 1) = fs b n w k + nc b n w k := rfl
    have hSn : Sn b n w = fs b n w (Wn b n) := rfl
    have hz := (nc_word (w := w) hn hk).1
    have he := eKw_in (w := w) (p := fs b n w k) (z := nc b n w k) (by omega)
    have := cnt_le (st := stW (moS b n w) w (fs b n w k) (eKw w (fs b n w k) (nc b n w k))) (p := fs b n w k) (eKw w (fs b n w k) (nc b n w k) - fs b n w k)
    unfold ftW; omega
  have key : ∀ (f j : Nat) (v1 v2 : Int), j + f = Wn b n → v2 = j → v1 = (smF (ftW b n w) j : Nat) → am_X E 175 (4, (0, 0), [some (amR 49), some (amI v1), some (amI v2)], [], mk g fl) (RI Q) := by
    intro f
    induction f with
    | zero =>
      intro j v1 v2 hj h2 h3
      have : j = Wn b n := by omega
      subst this
      exact b175_4 ⟨fun c => absurd c (by omega), fun _ => by rw [h3]; exact h1⟩
    | succ f ih =>
      intro j v1 v2 hj h2 h3
      have hc := smF_const (f := ftW b n w) (c := 60) (n := j) (fun k hk => hft k (by omega))
      have hj2 := hft j (by omega)
      refine b175_4 ⟨fun _ => feetMany_ok hn hF.x.c h2 (by omega) (hF.f j (by omega)) ?_, fun c => absurd (by omega) c⟩
      refine ⟨?_, rgI (by omega) (by omega), ih (j + 1) _ _ (by omega) (by omega) ?_⟩
      · show am_rg (v1 + (ftW b n w j : Nat)); exact rgI (by omega) (by omega)
      · show v1 + (ftW b n w j : Nat) = _; rw [smF_s]; omega
  exact b175 (key (Wn b n) 0 0 0 (by omega) rfl rfl)
theorem countOfM_ok {v1 f : Int} (hR : RM b n w mk' td N T P g) (hF : FA b n w mk' g) (hf : g 49 33 = f) (h : Q (cntA b n w mk' N f v1) g fl) : cI E 176 [amR 49, amI v1] g fl Q := by
  have hn := hR.rb.n60
  have hwo := hR.hwo
  unfold cntA at h
  refine b176 ⟨fun c => ?_, fun c => ?_, fun c => ?_, fun c => feetAll_ok hn hF ?_, fun c => heavyMany_ok hn hwo hF ?_, fun c => ?_, fun c => heardMany_ok hn (hR.hI hF) hF ?_, fun c => morasAll_ok hn hwo (hR.hI hF) hF (fun _ => ?_) (fun y => absurd rfl y), fun c => ?_, fun c => ?_⟩
  · rw [if_pos c] at h; rw [hR.rb.gn]; exact h
  · rw [if_neg (by omega), if_pos c] at h; rw [hF.x.c.W]; exact h
  · rw [if_neg (by omega), if_neg (by omega), if_pos c] at h; rw [hF.x.c.S]; exact h
  · rw [if_neg (by omega), if_neg (by omega), if_neg (by omega), if_pos c] at h; exact h
  · rw [if_neg (by omega), if_neg (by omega), if_neg (by omega), if_neg (by omega), if_pos c] at h; exact h
  · rw [if_neg (by omega), if_neg (by omega), if_neg (by omega), if_neg (by omega), if_neg (by omega), if_pos c] at h; rw [hR.rb.lx.s]; exact h
  · rw [if_neg (by omega), if_neg (by omega), if_neg (by omega), if_neg (by omega), if_neg (by omega), if_neg (by omega), if_pos c] at h; exact h
  · rw [if_neg (by omega), if_neg (by omega), if_neg (by omega), if_neg (by omega), if_neg (by omega), if_neg (by omega), if_neg (by omega), if_pos c] at h; exact h
  · rw [if_neg (by omega), if_neg (by omega), if_neg (by omega), if_neg (by omega), if_neg (by omega), if_neg (by omega), if_neg (by omega), if_neg (by omega), if_pos c] at h; rw [hf]; exact h
  · rw [if_neg (by omega), if_neg (by omega), if_neg (by omega), if_neg (by omega), if_neg (by omega), if_neg (by omega), if_neg (by omega), if_neg (by omega), if_neg (by omega)] at h; exact h
theorem countM_ok {v1 : Int} (hR : RM b n w mk' td N T P g) (h : ∀ g' : GG, KM g g' → Q (cntA b n w mk' N (g 49 33) v1) g' fl) : cI E 177 [amR 49, amI v1] g fl Q :=
  b177 (findsM_ok hR (fun g1 F1 k1 r1 => countOfM_ok r1 F1 (k1 49 33 (by omega) (by omega) (by omega)) (h g1 k1)))
theorem shareOf_ok {v1 : Int} (hv : 0 ≤ v1 ∧ v1 ≤ 2) (hR : RM b n w mk' td N T P g) (h : ∀ g' : GG, FA b n w mk' g' → KM g g' → Q (shA b n w mk' td v1) g' fl) : cI E 160 [amR 49, amI v1] g fl Q := by
  have hn := hR.rb.n60
  have hwo := hR.hwo
  have hSl := Sn_le (b := b) (w := w) hn
  have hma := maA_le (b := b) hn hwo
  have hmh := mhA_le (b := b) (n := n) (w := w) (mk' := mk')
  have hnr : nrA b n w mk' td ≤ Sn b n w := ctB_le _
  have hhv : hvA b n w ≤ Sn b n w := ctB_le _
  refine b160 (nearNow_ok hR.rb hR.eb hR.ew hR.em hR.et (fun g1 F1 k1 => ?_))
  have h := h g1 F1 k1
  have r1 := hR.km k1
  have hS := F1.x.c.S
  unfold shA at h
  refine ⟨fun c => ?_, fun c => ⟨fun c0 => ⟨fun c2 => absurd c2 (by omega), fun _ => ?_⟩, fun c0 => ⟨fun c1 => heavyMany_ok hn hwo F1 ⟨fun c2 => absurd c2 (by omega), fun _ => ?_⟩, fun c1 => morasAll_ok hn hwo (r1.hI F1) F1 (fun y => absurd y (by omega)) (fun _ => ⟨fun c2 => morasAll_ok hn hwo (r1.hI F1) F1 (fun _ => ?_) (fun y => absurd rfl y), fun c2 => absurd (by omega) c2⟩)⟩⟩⟩
  · have hS0 : Sn b n w = 0 := by omega
    have e1 : shV (nrA b n w mk' td) (Sn b n w) = 0 := by unfold shV; rw [if_neg (by omega)]
    have e2 : shV (hvA b n w) (Sn b n w) = 0 := by unfold shV; rw [if_neg (by omega)]
    have e3 : maA b n w = 0 := by unfold maA; rw [hS0]; rfl
    have e4 : shV (mhA b n w mk') (maA b n w) = 0 := by unfold shV; rw [if_neg (by omega)]
    rw [e1, e2, e4, ite_self, ite_self, ite_self] at h; exact h
  · rw [if_pos c0] at h
    rw [hS]
    exact bitsM_ok rfl rfl (by omega) (by omega) hnr h
  · rw [if_neg c0, if_pos c1] at h
    rw [hS]
    exact bitsM_ok rfl rfl (by omega) (by omega) hhv h
  · rw [if_neg c0, if_neg c1, if_pos c2] at h
    have := maA_pos (b := b) hn hwo (by omega)
    exact bitsM_ok rfl rfl this hma hmh h
theorem shareM_ok {v1 : Int} (hR : RM b n w mk' td N T P g) (h : ∀ g' : GG, KM g g' → Q (shA b n w mk' td v1) g' fl) : cI E 161 [amR 49, amI v1] g fl Q := by
  refine b161 ⟨fun c => shareOf_ok c hR (fun g1 _ k1 => h g1 k1), fun c => ?_⟩
  have h := h g KM.refl
  unfold shA at h
  rw [if_neg (by omega), if_neg (by omega), if_neg (by omega)] at h; exact h
theorem textM_ok {v1 : Int} (hR : RM b n w mk' td N T P g) (h : ∀ g' : GG, KM g g' → Q (textA b n w mk' v1) g' fl) : cI E 164 [amR 49, amI v1] g fl Q := by
  have hl := txA_le hR.rb.n60 hR.hwo (h := (heP b n w mk').1) (b := b) (m := Sn b n w) (Nat.le_refl _)
  refine b164 (writes_ok hR.rb hR.eb hR.ew hR.em (fun g1 F1 q1 q2 k1 => ?_))
  have h := h g1 k1
  unfold textA txL at h
  refine ⟨fun c => ?_, fun c => ⟨rgI (by omega) (by omega), fun c2 => ⟨by omega, ?_⟩, fun c2 => ?_⟩⟩
  · rw [if_pos c] at h; rw [q2]; exact h
  · rw [if_neg c, if_pos (by omega)] at h
    rw [q1.at (by omega)]; exact h
  · rw [if_neg c, if_neg (by omega)] at h; exact h
end PUBM
