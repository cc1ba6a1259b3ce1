/-! beats and what is heard, as functions; the reference's findsAll -/
def btS (b : Nat → Int) (n : Nat) (w : Nat → Int) (mk : Nat → Int) (s : Nat) : Int := btW (moS b n w) w (fs b n w (wo b n w s)) (eKw w (fs b n w (wo b n w s)) (nc b n w (wo b n w s))) (mk (wo b n w s)) (nc b n w (wo b n w s)) s
def heP (b : Nat → Int) (n : Nat) (w : Nat → Int) (mk : Nat → Int) : (Nat → Int) × Nat := hearF (Sn b n w) (w 8).toNat (loS b n w) (hiS b n w) 60 (btS b n w mk) 0
abbrev FA (b : Nat → Int) (n : Nat) (w : Nat → Int) (mk : Nat → Int) (g : GG) : Prop := (MX b n w g) ∧ (∀ k, k < Wn b n → MF w (moS b n w) (fs b n w k) (nc b n w k) g) ∧ (∀ s, s < Sn b n w → g 66 s = btS b n w mk s) ∧ (∀ s, s < Sn b n w → g 67 s = (heP b n w mk).1 s) ∧ (g 49 22 = ((heP b n w mk).2 : Nat)) ∧ (g 49 23 = (ctB (cl (Sn b n w) (w 8).toNat (heP b n w mk).1) (Sn b n w) : Nat))
theorem FA.x {b : Nat → Int} {n : Nat} {w : Nat → Int} {mk : Nat → Int} {g : GG} (hx_ : FA b n w mk g) : MX b n w g := hx_.1
theorem FA.f {b : Nat → Int} {n : Nat} {w : Nat → Int} {mk : Nat → Int} {g : GG} (hx_ : FA b n w mk g) : ∀ k, k < Wn b n → MF w (moS b n w) (fs b n w k) (nc b n w k) g := hx_.2.1
theorem FA.bt {b : Nat → Int} {n : Nat} {w : Nat → Int} {mk : Nat → Int} {g : GG} (hx_ : FA b n w mk g) : ∀ s, s < Sn b n w → g 66 s = btS b n w mk s := hx_.2.2.1
theorem FA.he {b : Nat → Int} {n : Nat} {w : Nat → Int} {mk : Nat → Int} {g : GG} (hx_ : FA b n w mk g) : ∀ s, s < Sn b n w → g 67 s = (heP b n w mk).1 s := hx_.2.2.2.1
theorem FA.mv {b : Nat → Int} {n : Nat} {w : Nat → Int} {mk : Nat → Int} {g : GG} (hx_ : FA b n w mk g) : g 49 22 = ((heP b n w mk).2 : Nat) := hx_.2.2.2.2.1
theorem FA.ck {b : Nat → Int} {n : Nat} {w : Nat → Int} {mk : Nat → Int} {g : GG} (hx_ : FA b n w mk g) : g 49 23 = (ctB (cl (Sn b n w) (w 8).toNat (heP b n w mk).1) (Sn b n w) : Nat) := hx_.2.2.2.2.2
abbrev RB (n N : Nat) (T : Nat → List Int) (P : Nat → Int) (g : GG) : Prop := (n ≤ 60) ∧ (g 49 1 = n) ∧ (waysOK (g 51)) ∧ (LX 63 64 65 49 19 N T P g) ∧ (LT N T P)
theorem RB.n60 {n N : Nat} {T : Nat → List Int} {P : Nat → Int} {g : GG} (hx_ : RB n N T P g) : n ≤ 60 := hx_.1
theorem RB.gn {n N : Nat} {T : Nat → List Int} {P : Nat → Int} {g : GG} (hx_ : RB n N T P g) : g 49 1 = n := hx_.2.1
theorem RB.ok {n N : Nat} {T : Nat → List Int} {P : Nat → Int} {g : GG} (hx_ : RB n N T P g) : waysOK (g 51) := hx_.2.2.1
theorem RB.lx {n N : Nat} {T : Nat → List Int} {P : Nat → Int} {g : GG} (hx_ : RB n N T P g) : LX 63 64 65 49 19 N T P g := hx_.2.2.2.1
theorem RB.lt {n N : Nat} {T : Nat → List Int} {P : Nat → Int} {g : GG} (hx_ : RB n N T P g) : LT N T P := hx_.2.2.2.2
section FALL
variable {E : am_E} {g : GG} {fl : FF} {b : Nat → Int} {n : Nat} {w : Nat → Int} {mk' : Nat → Int} {N : Nat} {T : Nat → List Int} {P : Nat → Int}
theorem btS_kj (hn : n ≤ 60) {k s : Nat} (hk : k < Wn b n) (h1 : fs b n w k ≤ s) (h2 : s < fs b n w k + nc b n w k) : btS b n w mk' s = btW (moS b n w) w (fs b n w k) (eKw w (fs b n w k) (nc b n w k)) (mk' k) (nc b n w k) s := by
  have hWl := Wn_le (b := b) (n := n) hn
  have : wo b n w s = k := wo_is (by omega) h1 h2
  unfold btS; rw [this]
theorem HI_bt (hn : n ≤ 60) (hm : ∀ k, k < Wn b n → -1 ≤ mk' k) : HI (Sn b n w) (loS b n w) (hiS b n w) (btS b n w mk') := by
  have hWl := Wn_le (b := b) (n := n) hn
  refine ⟨fun s _ => btW_in, fun s hs => ?_, fun s i j hs i1 i2 j1 j2 h1 h2 => ?_⟩
  · obtain ⟨o1, o2, o3, o4, o5⟩ := wo_ok (w := w) hn hs
    have hz := (nc_word (w := w) hn o1).1
    obtain ⟨q1, q2⟩ := eKw_in (w := w) (p := fs b n w (wo b n w s)) (z := nc b n w (wo b n w s)) (by omega)
    obtain ⟨m, m1, m2, m3⟩ := mainW_in (mo := moS b n w) (w := w) (m := mk' (wo b n w s)) q1 q2 (hm _ o1)
    refine ⟨m, m2, m3, ?_⟩
    rw [btS_kj hn o1 m2 m3]
    exact btW_2.2 m1.symm
  · obtain ⟨o1, o2, o3, o4, o5⟩ := wo_ok (w := w) hn hs
    rw [btS_kj hn o1 i1 i2] at h1
    rw [btS_kj hn o1 j1 j2] at h2
    have e1 := btW_2.1 h1
    have e2 := btW_2.1 h2
    omega
theorem mkS_in (hT : LT N T P) (k : Nat) : -1 ≤ mkS T P N b n k ∧ mkS T P N b n k ≤ 60 := lk_in hT
theorem MF.keep {mo : Nat → Nat} {p z : Nat} {g' : GG} (h : MF w mo p z g) (hf : ∀ a i, (a = 61 ∨ a = 62) → p ≤ i → i < p + z → g' a i = g a i) : MF w mo p z g' :=
  ⟨fun s h1 h2 => by rw [hf _ _ (by omega) h1 h2]; exact h.f s h1 h2, fun s h1 h2 => by rw [hf _ _ (by omega) h1 h2]; exact h.b s h1 h2⟩
theorem waysOK.w8 (h : waysOK w) : w 8 = ((w 8).toNat : Nat) ∧ (w 8).toNat ≤ 3 := by
  have := h.2.2.2.2.2.2.2.2
  omega
theorem FA.keep {g' : GG} (h : FA b n w mk' g) (hf : ∀ a i, (a = 49 ∧ (i = 6 ∨ i = 13 ∨ i = 22 ∨ i = 23)) ∨ a = 51 ∨ (53 ≤ a ∧ a ≤ 62) ∨ a = 66 ∨ a = 67 → g' a i = g a i) : FA b n w mk' g' :=
  ⟨h.x.keep (fun a i z => hf a i (by omega)), fun k hk => (h.f k hk).keep (fun a i z _ _ => hf a i (by omega)), fun s hs => by rw [hf _ _ (by omega)]; exact h.bt s hs, fun s hs => by rw [hf _ _ (by omega)]; exact h.he s hs, by rw [hf _ _ (by omega)]; exact h.mv, by rw [hf _ _ (by omega)]; exact h.ck⟩
theorem RB.keep {g' : GG} (h : RB n N T P g) (hf : ∀ a i, (a = 49 ∧ (i = 1 ∨ i = 19)) ∨ a = 51 ∨ a = 63 ∨ a = 64 ∨ a = 65 → g' a i = g a i) : RB n N T P g' :=
  ⟨h.n60, by rw [hf _ _ (by omega)]; exact h.gn, by rw [show g' 51 = g 51 from funext fun i => hf _ _ (by omega)]; exact h.ok, h.lx.keep (fun a i z => hf a i (by omega)), h.lt⟩
end FALL
