/-! beats and what is heard, as functions; the reference's findsAll -/
def btS (b : Nat → Int) (n : Nat) (w : Nat → Int) (mk : Nat → Int) (s : Nat) : Int := btW (moS b n w) w (fs b n w (wo b n w s)) (eKw w (fs b n w (wo b n w s)) (nc b n w (wo b n w s))) (mk (wo b n w s)) (nc b n w (wo b n w s)) s
def heP (b : Nat → Int) (n : Nat) (w : Nat → Int) (mk : Nat → Int) : (Nat → Int) × Nat := hearF (Sn b n w) (w 8).toNat (loS b n w) (hiS b n w) 60 (btS b n w mk) 0
abbrev FA (b : Nat → Int) (n : Nat) (w : Nat → Int) (mk : Nat → Int) (g : GG) : Prop := (MX b n w g) ∧ (∀ k, k < Wn b n → MF w (moS b n w) (fs b n w k) (nc b n w k) g) ∧ (∀ s, s < Sn b n w → g 66 s = btS b n w mk s) ∧ (∀ s, s < Sn b n w → g 67 s = (heP b n w mk).1 s) ∧ (g 49 22 = ((heP b n w mk).2 : Nat)) ∧ (g 49 23 = (ctB (cl (Sn b n w) (w 8).toNat (heP b n w mk).1) (Sn b n w) : Nat))
theorem FA.x {b : Nat → Int} {n : Nat} {w : Nat → Int} {mk : Nat → Int} {g : GG} (hx_ : FA b n w mk g) : MX b n w g := hx_.1
theorem FA.f {b : Nat → Int} {n : Nat} {w : Nat → Int} {mk : Nat → Int} {g : GG} (hx_ : FA b n w mk g) : ∀ k, k < Wn b n → MF w (moS b n w) (fs b n w k) (nc b n w k) g := hx_.2.1
theorem FA.bt {b : Nat → Int} {n : Nat} {w : Nat → Int} {mk : Nat → Int} {g : GG} (hx_ : FA b n w mk g) : ∀ s, s < Sn b n w → g 66 s = btS b n w mk s := hx_.2.2.1
theorem FA.he {b : Nat → Int} {n : Nat} {w : Nat → Int} {mk : Nat → Int} {g : GG} (hx_ : FA b n w mk g) : ∀ s, s < Sn b n w → g 67 s = (heP b n w mk).1 s := hx_.2.2.2.1
theorem FA.mv {b : Nat → Int} {n : Nat} {w : Nat → Int} {mk : Nat → Int} {g : GG} (hx_ : FA b n w mk g) : g 49 22 = ((heP b n w mk).2 : Nat) := hx_.2.2.2.2.1
theorem FA.ck {b : Nat → Int} {n : Nat} {w : Nat → Int} {mk : Nat → Int} {g : GG} (hx_ : FA b n w mk g) : g 49 23 = (ctB (cl (Sn b n w) (w 8).toNat (heP b n w mk).1) (Sn b n w) : Nat) := hx_.2.2.2.2.2
abbrev RB (n N : Nat) (T : Nat → List Int) (P : Nat → Int) (g : GG) : Prop := (n ≤ 60) ∧ (g 49 1 = n) ∧ (waysOK (g 51)) ∧ (LX 63 64 65 49 19 N T P g) ∧ (LT N T P)
theorem RB.n60 {n N : Nat} {T : Nat → List Int} {P : Nat → Int} {g : GG} (hx_ : RB n N T P g) : n ≤ 60 := hx_.1
theorem RB.gn {n N : Nat} {T : Nat → List Int} {P : Nat → Int} {g : GG} (hx_ : RB n N T P g) : g 49 1 = n := hx_.2.1
theorem RB.ok {n N : Nat} {T : Nat → List Int} {P : Nat → Int} {g : GG} (hx_ : RB n N T P g) : waysOK (g 51) := hx_.2.2.1
theorem RB.lx {n N : Nat} {T : Nat → List Int} {P : Nat → Int} {g : GG} (hx_ : RB n N T P g) : LX 63 64 65 49 19 N T P g := hx_.2.2.2.1
theorem RB.lt {n N : Nat} {T : Nat → List Int} {P : Nat → Int} {g : GG} (hx_ : RB n N T P g) : LT N T P := hx_.2.2.2.2
section FALL
variable {E : am_E} {g : GG} {fl : FF} {b : Nat → Int} {n : Nat} {w : Nat → Int} {mk' : Nat → Int} {N : Nat} {T : Nat → List Int} {P : Nat → Int}
theorem btS_kj (hn : n ≤ 60) {k s : Nat} (hk : k < Wn b n) (h1 : fs b n w k ≤ s) (h2 : s < fs b n w k + nc b n w k) : btS b n w mk' s = btW (moS b n w) w (fs b n w k) (eKw w (fs b n w k) (nc b n w k)) (mk' k) (nc b n w k) s := by
  have hWl := Wn_le (b := b) (n := n) hn
  have : wo b n w s = k := wo_is (by omega) h1 h2
  unfold btS; rw [this]
theorem HI_bt (hn : n ≤ 60) (hm : ∀ k, k < Wn b n → -1 ≤ mk' k) : HI (Sn b n w) (loS b n w) (hiS b n w) (btS b n w mk') := by
  have hWl := Wn_le (b := b) (n := n) hn
  refine ⟨fun s _ => btW_in, fun s hs => ?_, fun s i j hs i1 i2 j1 j2 h1 h2 => ?_⟩
  · obtain ⟨o1, o2, o3, o4, o5⟩ := wo_ok (w := w) hn hs
    have hz := (nc_word (w := w) hn o1).1
    obtain ⟨q1, q2⟩ := eKw_in (w := w) (p := fs b n w (wo b n w s)) (z := nc b n w (wo b n w s)) (by omega)
    obtain ⟨m, m1, m2, m3⟩ := mainW_in (mo := moS b n w) (w := w) (m := mk' (wo b n w s)) q1 q2 (hm _ o1)
    refine ⟨m, m2, m3, ?_⟩
    rw [btS_kj hn o1 m2 m3]
    exact btW_2.2 m1.symm
  · obtain ⟨o1, o2, o3, o4, o5⟩ := wo_ok (w := w) hn hs
    rw [btS_kj hn o1 i1 i2] at h1
    rw [btS_kj hn o1 j1 j2] at h2
    have e1 := btW_2.1 h1
    have e2 := btW_2.1 h2
    omega
theorem mkS_in (hT : LT N T P) (k : Nat) : -1 ≤ mkS T P N b n k ∧ mkS T P N b n k ≤ 60 := lk_in hT
theorem MF.keep {mo : Nat → Nat} {p z : Nat} {g' : GG} (h : MF w mo p z g) (hf : ∀ a i, (a = 61 ∨ a = 62) → p ≤ i → i < p + z → g' a i = g a i) : MF w mo p z g' :=
  ⟨fun s h1 h2 => by rw [hf _ _ (by omega) h1 h2]; exact h.f s h1 h2, fun s h1 h2 => by rw [hf _ _ (by omega) h1 h2]; exact h.b s h1 h2⟩
theorem waysOK.w8 (h : waysOK w) : w 8 = ((w 8).toNat : Nat) ∧ (w 8).toNat ≤ 3 := by
  have := h.2.2.2.2.2.2.2.2
  omega
theorem findsAll_ok {Q : GG → FF → Prop} (hR : RB n N T P g) (hb : b = nz (g 50) n) (hw : w = g 51) (hm : mk' = mkS T P N b n)
    (h : ∀ g' : GG, FA b n w mk' g' → (∀ a i, ¬ (a = 49 ∧ (i = 6 ∨ i = 13 ∨ i = 22 ∨ i = 23)) → ¬ (53 ≤ a ∧ a ≤ 62) → ¬ (a = 66 ∨ a = 67) → g' a i = g a i) → Q g' fl) : cV E 131 [amR 49] g fl Q := by
  have hn := hR.n60
  have hwo : waysOK w := by rw [hw]; exact hR.ok
  have hT := hR.lt
  have hWl := Wn_le (b := b) (n := n) hn
  have hSl := Sn_le (b := b) (w := w) hn
  refine b131 (findsSyllables_ok hn hR.gn hb hw hwo (fun g0 hC0 hf0 => ?_))
  have hL0 : LX 63 64 65 49 19 N T P g0 := hR.lx.keep (fun a i z => hf0 a i (by omega) (by omega))
  have hb0 : b = nz (g0 50) n := by rw [hb]; congr 1; funext x; exact (hf0 _ _ (by omega) (by omega)).symm
  have hX0 : MX b n w g0 := ⟨hC0, by rw [hw]; funext x; exact (hf0 _ _ (by omega) (by omega)).symm⟩
  have key : ∀ (f k : Nat) (v1 : Int) (g1 : GG), k + f = Wn b n → v1 = k → (∀ j, j < k → MF w (moS b n w) (fs b n w j) (nc b n w j) g1) → (∀ j, j < k → ∀ s, fs b n w j ≤ s → s < fs b n w j + nc b n w j → g1 66 s = btS b n w mk' s) → (∀ a i, ¬ (a = 61 ∨ a = 62 ∨ a = 66) → g1 a i = g0 a i) → am_X E 131 (4, (0, 0), [some (amR 49), some (amI v1)], [], mk g1 fl) (RV Q) := by
    intro f
    induction f with
    | zero =>
      intro k v1 g1 hf h1 hF hB hfr
      have hX : MX b n w g1 := hX0.keep (fun a i z => hfr a i (by omega))
      have hW : g1 49 6 = Wn b n := hX.c.W
      have hbt : ∀ s, s < Sn b n w → g1 66 s = btS b n w mk' s := fun s hs => by
        obtain ⟨o1, o2, o3, o4, o5⟩ := wo_ok (w := w) hn hs
        exact hB (wo b n w s) (by omega) s o2 o3
      have hV : g1 51 8 = ((w 8).toNat : Nat) := by rw [← hX.w]; exact hwo.w8.1
      refine b131_4 ⟨fun c => absurd c (by omega), fun _ => hearsM_ok hn hwo.w8.2 hX.c hV (HI_bt hn (fun k _ => by rw [hm]; exact (mkS_in hT k).1)) hbt (fun g' q1 q2 q3 q4 => h g' ⟨hX.keep (fun a i z => q4 a i (by omega) (by omega)), fun j hj => (hF j (by omega)).keep (fun a i z _ _ => q4 a i (by omega) (by omega)), fun s hs => by rw [q4 _ _ (by omega) (by omega)]; exact hbt s hs, q1, q2, q3⟩ (fun a i z1 z2 z3 => ?_))⟩
      rw [q4 a i (by omega) (by omega), hfr a i (by omega), hf0 a i (by omega) (by omega)]
    | succ f ih =>
      intro k v1 g1 hf h1 hF hB hfr
      have hX : MX b n w g1 := hX0.keep (fun a i z => hfr a i (by omega))
      have hW : g1 49 6 = Wn b n := hX.c.W
      have hkW : k < Wn b n := by omega
      refine b131_4 ⟨fun _ => findsFeet_ok hn hwo h1 hkW hX (fun g2 F2 r2 => ?_), fun c => absurd (by omega) c⟩
      have hX2 : MX b n w g2 := hX.keep (fun a i z => r2 a i (by omega))
      have hL2 : LX 63 64 65 49 19 N T P g2 := hL0.keep (fun a i z => by rw [r2 a i (by omega)]; exact hfr a i (by omega))
      have hb2 : b = nz (g2 50) n := by rw [hb0]; congr 1; funext x; rw [r2 _ _ (by omega)]; exact (hfr _ _ (by omega)).symm
      refine findsBeats_ok hn hwo hb2 hX2 hL2 hT h1 hkW F2 (fun g3 B3 r3 => ⟨rgI (by omega) (by omega), ?_⟩)
      have apart : ∀ j, j < k → fs b n w j + nc b n w j ≤ fs b n w k := fun j hj => fs_mono (b := b) (n := n) (w := w) (k := j + 1) (l := k) (by omega)
      refine ih (k + 1) _ g3 (by omega) (by omega) (fun j hj => ?_) (fun j hj s s1 s2 => ?_) (fun a i z => by rw [r3 a i (by omega), r2 a i (by omega)]; exact hfr a i z)
      · by_cases c : j = k
        · rw [c]; exact F2.keep (fun a i z _ _ => r3 a i (by omega))
        · have := apart j (by omega)
          exact (hF j (by omega)).keep (fun a i z z1 z2 => by rw [r3 a i (by omega)]; exact r2 a i (by omega))
      · by_cases c : j = k
        · subst c
          rw [B3 s s1 s2, btS_kj hn hkW s1 s2, hm]
        · have := apart j (by omega)
          rw [r3 _ _ (by omega), r2 _ _ (by omega)]
          exact hB j (by omega) s s1 s2
  exact key (Wn b n) 0 0 g0 (by omega) rfl (fun j hj => by omega) (fun j hj => by omega) (fun _ _ _ => rfl)
theorem FA.keep {g' : GG} (h : FA b n w mk' g) (hf : ∀ a i, (a = 49 ∧ (i = 6 ∨ i = 13 ∨ i = 22 ∨ i = 23)) ∨ a = 51 ∨ (53 ≤ a ∧ a ≤ 62) ∨ a = 66 ∨ a = 67 → g' a i = g a i) : FA b n w mk' g' :=
  ⟨h.x.keep (fun a i z => hf a i (by omega)), fun k hk => (h.f k hk).keep (fun a i z _ _ => hf a i (by omega)), fun s hs => by rw [hf _ _ (by omega)]; exact h.bt s hs, fun s hs => by rw [hf _ _ (by omega)]; exact h.he s hs, by rw [hf _ _ (by omega)]; exact h.mv, by rw [hf _ _ (by omega)]; exact h.ck⟩
theorem RB.keep {g' : GG} (h : RB n N T P g) (hf : ∀ a i, (a = 49 ∧ (i = 1 ∨ i = 19)) ∨ a = 51 ∨ a = 63 ∨ a = 64 ∨ a = 65 → g' a i = g a i) : RB n N T P g' :=
  ⟨h.n60, by rw [hf _ _ (by omega)]; exact h.gn, by rw [show g' 51 = g 51 from funext fun i => hf _ _ (by omega)]; exact h.ok, h.lx.keep (fun a i z => hf a i (by omega)), h.lt⟩
end FALL
