/-! the component's refresh and seekNearest -/
def KC (g g' : GG) : Prop := ∀ a i, ¬ (a = 0 ∧ (i = 11 ∨ (13 ≤ i ∧ i ≤ 16))) → ¬ (a = 3 ∧ i < 9) → ¬ (a = 5) → ¬ (11 ≤ a ∧ a ≤ 36) → g' a i = g a i
theorem KC.refl {g : GG} : KC g g := fun _ _ _ _ _ _ => rfl
theorem KC.trans {g g1 g2 : GG} (h : KC g g1) (h2 : KC g1 g2) : KC g g2 := fun a i z1 z2 z3 z4 => by rw [h2 a i z1 z2 z3 z4]; exact h a i z1 z2 z3 z4
abbrev CA (b : Nat → Int) (n : Nat) (w : Nat → Int) (mk : Nat → Int) (g : GG) : Prop := (CC b n w g) ∧ (∀ k, k < Wn b n → g 16 k = mk k) ∧ (∀ k, k < Wn b n → WB 21 w (moS b n w) (fs b n w k) (nc b n w k) (mk k) k g) ∧ (∀ s, s < Sn b n w → g 26 s = (heP b n w mk).1 s) ∧ (g 21 10 = ((heP b n w mk).2 : Nat)) ∧ (g 21 7 = (cbA b n w mk : Nat)) ∧ (g 21 8 = (ckA b n w mk : Nat)) ∧ (g 21 9 = (ckA b n w mk : Nat)) ∧ (∀ s, s < Sn b n w → cl (Sn b n w) (w 8).toNat (btS b n w mk) s → g 27 (ctB (cl (Sn b n w) (w 8).toNat (btS b n w mk)) s) = s) ∧ (g 0 11 = ((txL b n w mk).length : Nat)) ∧ (HL 5 (txL b n w mk) g)
theorem CA.cc {b : Nat → Int} {n : Nat} {w : Nat → Int} {mk : Nat → Int} {g : GG} (hx_ : CA b n w mk g) : CC b n w g := hx_.1
theorem CA.mk1 {b : Nat → Int} {n : Nat} {w : Nat → Int} {mk : Nat → Int} {g : GG} (hx_ : CA b n w mk g) : ∀ k, k < Wn b n → g 16 k = mk k := hx_.2.1
theorem CA.wb {b : Nat → Int} {n : Nat} {w : Nat → Int} {mk : Nat → Int} {g : GG} (hx_ : CA b n w mk g) : ∀ k, k < Wn b n → WB 21 w (moS b n w) (fs b n w k) (nc b n w k) (mk k) k g := hx_.2.2.1
theorem CA.he {b : Nat → Int} {n : Nat} {w : Nat → Int} {mk : Nat → Int} {g : GG} (hx_ : CA b n w mk g) : ∀ s, s < Sn b n w → g 26 s = (heP b n w mk).1 s := hx_.2.2.2.1
theorem CA.mv {b : Nat → Int} {n : Nat} {w : Nat → Int} {mk : Nat → Int} {g : GG} (hx_ : CA b n w mk g) : g 21 10 = ((heP b n w mk).2 : Nat) := hx_.2.2.2.2.1
theorem CA.c7 {b : Nat → Int} {n : Nat} {w : Nat → Int} {mk : Nat → Int} {g : GG} (hx_ : CA b n w mk g) : g 21 7 = (cbA b n w mk : Nat) := hx_.2.2.2.2.2.1
theorem CA.c8 {b : Nat → Int} {n : Nat} {w : Nat → Int} {mk : Nat → Int} {g : GG} (hx_ : CA b n w mk g) : g 21 8 = (ckA b n w mk : Nat) := hx_.2.2.2.2.2.2.1
theorem CA.c9 {b : Nat → Int} {n : Nat} {w : Nat → Int} {mk : Nat → Int} {g : GG} (hx_ : CA b n w mk g) : g 21 9 = (ckA b n w mk : Nat) := hx_.2.2.2.2.2.2.2.1
theorem CA.cg {b : Nat → Int} {n : Nat} {w : Nat → Int} {mk : Nat → Int} {g : GG} (hx_ : CA b n w mk g) : ∀ s, s < Sn b n w → cl (Sn b n w) (w 8).toNat (btS b n w mk) s → g 27 (ctB (cl (Sn b n w) (w 8).toNat (btS b n w mk)) s) = s := hx_.2.2.2.2.2.2.2.2.1
theorem CA.tl {b : Nat → Int} {n : Nat} {w : Nat → Int} {mk : Nat → Int} {g : GG} (hx_ : CA b n w mk g) : g 0 11 = ((txL b n w mk).length : Nat) := hx_.2.2.2.2.2.2.2.2.2.1
theorem CA.tx {b : Nat → Int} {n : Nat} {w : Nat → Int} {mk : Nat → Int} {g : GG} (hx_ : CA b n w mk g) : HL 5 (txL b n w mk) g := hx_.2.2.2.2.2.2.2.2.2.2
abbrev RC (b : Nat → Int) (n : Nat) (w : Nat → Int) (mk' : Nat → Int) (td : Nat → Int) (N : Nat) (T : Nat → List Int) (P : Nat → Int) (g : GG) : Prop := (n ≤ 60) ∧ (g 0 10 = n) ∧ (b = nz (g 1) n) ∧ (w = g 2) ∧ (waysOK w) ∧ (LX 7 8 9 6 3 N T P g) ∧ (LT N T P) ∧ (mk' = mkS T P N b n) ∧ (g 4 = td) ∧ (∀ i, 9 ≤ i → g 3 i = w i) ∧ (g 0 15 = 1 ∨ (g 0 15 = 0 ∧ CA b n w mk' g)) ∧ (g 0 16 = 1 ∨ (g 0 16 = 0 ∧ g 0 13 = (nsA b n w mk' td).1 ∧ g 0 14 = (nsA b n w mk' td).2))
theorem RC.n60 {b : Nat → Int} {n : Nat} {w : Nat → Int} {mk' : Nat → Int} {td : Nat → Int} {N : Nat} {T : Nat → List Int} {P : Nat → Int} {g : GG} (hx_ : RC b n w mk' td N T P g) : n ≤ 60 := hx_.1
theorem RC.gn {b : Nat → Int} {n : Nat} {w : Nat → Int} {mk' : Nat → Int} {td : Nat → Int} {N : Nat} {T : Nat → List Int} {P : Nat → Int} {g : GG} (hx_ : RC b n w mk' td N T P g) : g 0 10 = n := hx_.2.1
theorem RC.eb {b : Nat → Int} {n : Nat} {w : Nat → Int} {mk' : Nat → Int} {td : Nat → Int} {N : Nat} {T : Nat → List Int} {P : Nat → Int} {g : GG} (hx_ : RC b n w mk' td N T P g) : b = nz (g 1) n := hx_.2.2.1
theorem RC.ew {b : Nat → Int} {n : Nat} {w : Nat → Int} {mk' : Nat → Int} {td : Nat → Int} {N : Nat} {T : Nat → List Int} {P : Nat → Int} {g : GG} (hx_ : RC b n w mk' td N T P g) : w = g 2 := hx_.2.2.2.1
theorem RC.ok {b : Nat → Int} {n : Nat} {w : Nat → Int} {mk' : Nat → Int} {td : Nat → Int} {N : Nat} {T : Nat → List Int} {P : Nat → Int} {g : GG} (hx_ : RC b n w mk' td N T P g) : waysOK w := hx_.2.2.2.2.1
theorem RC.lx {b : Nat → Int} {n : Nat} {w : Nat → Int} {mk' : Nat → Int} {td : Nat → Int} {N : Nat} {T : Nat → List Int} {P : Nat → Int} {g : GG} (hx_ : RC b n w mk' td N T P g) : LX 7 8 9 6 3 N T P g := hx_.2.2.2.2.2.1
theorem RC.lt {b : Nat → Int} {n : Nat} {w : Nat → Int} {mk' : Nat → Int} {td : Nat → Int} {N : Nat} {T : Nat → List Int} {P : Nat → Int} {g : GG} (hx_ : RC b n w mk' td N T P g) : LT N T P := hx_.2.2.2.2.2.2.1
theorem RC.em {b : Nat → Int} {n : Nat} {w : Nat → Int} {mk' : Nat → Int} {td : Nat → Int} {N : Nat} {T : Nat → List Int} {P : Nat → Int} {g : GG} (hx_ : RC b n w mk' td N T P g) : mk' = mkS T P N b n := hx_.2.2.2.2.2.2.2.1
theorem RC.et {b : Nat → Int} {n : Nat} {w : Nat → Int} {mk' : Nat → Int} {td : Nat → Int} {N : Nat} {T : Nat → List Int} {P : Nat → Int} {g : GG} (hx_ : RC b n w mk' td N T P g) : g 4 = td := hx_.2.2.2.2.2.2.2.2.1
theorem RC.w3 {b : Nat → Int} {n : Nat} {w : Nat → Int} {mk' : Nat → Int} {td : Nat → Int} {N : Nat} {T : Nat → List Int} {P : Nat → Int} {g : GG} (hx_ : RC b n w mk' td N T P g) : ∀ i, 9 ≤ i → g 3 i = w i := hx_.2.2.2.2.2.2.2.2.2.1
theorem RC.ca {b : Nat → Int} {n : Nat} {w : Nat → Int} {mk' : Nat → Int} {td : Nat → Int} {N : Nat} {T : Nat → List Int} {P : Nat → Int} {g : GG} (hx_ : RC b n w mk' td N T P g) : g 0 15 = 1 ∨ (g 0 15 = 0 ∧ CA b n w mk' g) := hx_.2.2.2.2.2.2.2.2.2.2.1
theorem RC.cn {b : Nat → Int} {n : Nat} {w : Nat → Int} {mk' : Nat → Int} {td : Nat → Int} {N : Nat} {T : Nat → List Int} {P : Nat → Int} {g : GG} (hx_ : RC b n w mk' td N T P g) : g 0 16 = 1 ∨ (g 0 16 = 0 ∧ g 0 13 = (nsA b n w mk' td).1 ∧ g 0 14 = (nsA b n w mk' td).2) := hx_.2.2.2.2.2.2.2.2.2.2.2
section REFR
variable {E : am_E} {g : GG} {fl : FF} {b : Nat → Int} {n : Nat} {w : Nat → Int} {mk' : Nat → Int} {td : Nat → Int} {N : Nat} {T : Nat → List Int} {P : Nat → Int} {Q : GG → FF → Prop}
theorem CC.keep {g' : GG} (h : CC b n w g) (hf : ∀ a i, (a = 11 ∧ (i = 9 ∨ i = 10 ∨ i = 11)) ∨ (12 ≤ a ∧ a ≤ 15) ∨ (17 ≤ a ∧ a ≤ 20) → g' a i = g a i) : CC b n w g' :=
  ⟨by rw [hf _ _ (by omega)]; exact h.fl, by rw [hf _ _ (by omega)]; exact h.W, by rw [hf _ _ (by omega)]; exact h.S, fun k hk => by rw [hf _ _ (by omega)]; exact h.wS k hk, fun k hk => by rw [hf _ _ (by omega)]; exact h.wE k hk, fun k hk => by rw [hf _ _ (by omega)]; exact h.wF k hk, fun k hk => by rw [hf _ _ (by omega)]; exact h.wN k hk, fun k hk => by rw [hf _ _ (by omega)]; exact h.sW k hk, fun k hk => by rw [hf _ _ (by omega)]; exact h.sS k hk, fun k hk => by rw [hf _ _ (by omega)]; exact h.sE k hk, fun k hk => by rw [hf _ _ (by omega)]; exact h.sM k hk⟩
theorem CC.cg (hn : n ≤ 60) (h : CC b n w g) (hm : ∀ k, k < Wn b n → g 16 k = mk' k) : CG (Wn b n) (Sn b n w) (fs b n w) (nc b n w) mk' (moS b n w) g :=
  ⟨h.W, h.S, h.wF, h.wN, hm, h.sM, fun k hk s h1 h2 => by
    have hWl := Wn_le (b := b) (n := n) hn
    have hfm : fs b n w (k + 1) ≤ fs b n w (Wn b n) := fs_mono (by omega)
    have hfs1 : fs b n w (k + 1) = fs b n w k + nc b n w k := rfl
    have hSn : Sn b n w = fs b n w (Wn b n) := rfl
    rw [h.sW s (by omega), wo_is (b := b) (n := n) (w := w) (s := s) (k := k) (by omega) h1 (by omega)]⟩
theorem WB.keep {o : Nat} {mo : Nat → Nat} {p z : Nat} {m : Int} {k : Nat} {g' : GG} (h : WB o w mo p z m k g) (hf : ∀ a i, a = o + 3 ∨ a = o + 4 ∨ a = o + 7 → g' a i = g a i) : WB o w mo p z m k g' :=
  ⟨by rw [hf _ _ (by omega)]; exact h.n, fun s h1 h2 => by rw [hf _ _ (by omega)]; exact h.fo s h1 h2, fun s h1 h2 => by rw [hf _ _ (by omega)]; exact h.bt s h1 h2⟩
theorem CA.keep {g' : GG} (h : CA b n w mk' g) (hf : ∀ a i, (a = 0 ∧ i = 11) ∨ a = 5 ∨ (11 ≤ a ∧ a ≤ 28) → g' a i = g a i) : CA b n w mk' g' :=
  ⟨h.cc.keep (fun a i z => hf a i (by omega)), fun k hk => by rw [hf _ _ (by omega)]; exact h.mk1 k hk, fun k hk => (h.wb k hk).keep (fun a i z => hf a i (by omega)), fun s hs => by rw [hf _ _ (by omega)]; exact h.he s hs, by rw [hf _ _ (by omega)]; exact h.mv, by rw [hf _ _ (by omega)]; exact h.c7, by rw [hf _ _ (by omega)]; exact h.c8, by rw [hf _ _ (by omega)]; exact h.c9, fun s hs hc => by rw [hf _ _ (by omega)]; exact h.cg s hs hc, by rw [hf _ _ (by omega)]; exact h.tl, h.tx.keep (fun i _ => hf _ _ (by omega))⟩
theorem CA.bt (hn : n ≤ 60) (h : CA b n w mk' g) {s : Nat} (hs : s < Sn b n w) : g 25 s = btS b n w mk' s := by
  obtain ⟨o1, o2, o3, o4, o5⟩ := wo_ok (w := w) hn hs
  rw [btS_kj hn o1 o2 o3]
  exact (h.wb _ o1).bt s o2 o3
theorem WS_mk (hn : n ≤ 60) (hT : LT N T P) (hm : mk' = mkS T P N b n) : WS (Wn b n) (Sn b n w) (fs b n w) (nc b n w) mk' (wo b n w) := WS_cut hn (fun k _ => by rw [hm]; exact mkS_in hT k)
theorem rd28 {g : GG} : rd g 2 9 8 = g 2 8 := rd_in (k := 8) rfl (by omega)
theorem refresh_ok (hR : RC b n w mk' td N T P g) (h : ∀ g' : GG, CA b n w mk' g' → g' 0 15 = 0 → RC b n w mk' td N T P g' → KC g g' → Q g' fl) : cV E 36 [amR 0] g fl Q := by
  have hn := hR.n60
  have hwo := hR.ok
  have hT := hR.lt
  have hm := hR.em
  have hm1 : ∀ k, k < Wn b n → -1 ≤ mk' k := fun k _ => by rw [hm]; exact (mkS_in hT k).1
  have hWl := Wn_le (b := b) (n := n) hn
  have hSl := Sn_le (b := b) (w := w) hn
  have hWS : WS (Wn b n) (Sn b n w) (fs b n w) (nc b n w) mk' (wo b n w) := WS_mk hn hT hm
  refine b36 ⟨fun c => ?_, fun c g2 e2 => ?_⟩
  · rcases hR.ca with z | ⟨z1, z2⟩
    · omega
    · exact h g z2 z1 hR KC.refl
  have f2 : ∀ a i, ¬ (a = 0 ∧ i = 15) → g2 a i = g a i := by intro a i z; rw [e2]; (simp (disch := omega) only [up_at, up_ne])
  have hb2 : b = nz (g2 1) n := hR.eb.trans (by rw [show g2 1 = g 1 from funext fun x => f2 _ _ (by omega)])
  have hw2 : w = g2 2 := hR.ew.trans (funext fun x => (f2 _ _ (by omega)).symm)
  rw [show g2 0 10 = (n : Int) by rw [f2 _ _ (by omega)]; exact hR.gn]
  refine cutMake_ok hn hb2 hw2 hwo (fun g3 C3 f3 => ?_)
  have hb3 : b = nz (g3 1) n := hb2.trans (by rw [show g3 1 = g2 1 from funext fun x => f3 _ _ (by omega) (by omega) (by omega)])
  have hL3 : LX 7 8 9 6 3 N T P g3 := hR.lx.keep (fun a i z => by rw [f3 a i (by omega) (by omega) (by omega)]; exact f2 a i (by omega))
  refine lookUp_ok hn hb3 hL3 hT C3 (fun g4 m4 f4 => ?_)
  have C4 : CC b n w g4 := C3.keep (fun a i z => f4 a i (by omega))
  have G4 := C4.cg (mk' := mk') hn (fun k hk => by rw [hm]; exact m4 k hk)
  have hw4 : w = g4 2 := hw2.trans (funext fun x => by rw [f4 _ _ (by omega), f3 _ _ (by omega) (by omega) (by omega)])
  refine makeC_ok (Or.inl rfl) (Or.inl rfl) hw4 hwo hWS.c G4 (fun g5 B5 f5 => ?_)
  have G5 := G4.keep (g' := g5) (fun a i z => f5 a i (by omega))
  have hw5 : w = g5 2 := hw4.trans (funext fun x => (f5 _ _ (by omega)).symm)
  have hV : (rd g5 2 9 8) = ((w 8).toNat : Nat) := by rw [rd28, ← hw5]; exact hwo.w8.1
  have bt5 : ∀ s, s < Sn b n w → g5 (21 + 4) s = btS b n w mk' s := fun s hs => by
    obtain ⟨o1, o2, o3, o4, o5⟩ := wo_ok (w := w) hn hs
    rw [btS_kj hn o1 o2 o3]
    exact (B5 _ o1).bt s o2 o3
  refine hear_ok (Or.inl rfl) hV hwo.w8.2 hWS G5 (HI_bt hn hm1) bt5 (fun g6 q1 q2 f6 => ?_)
  have hV6 : (rd g6 2 9 8) = ((w 8).toNat : Nat) := by rw [rd28, f6 _ _ (by omega) (by omega), ← hw5]; exact hwo.w8.1
  have G6 := G5.keep (g' := g6) (fun a i z => f6 a i (by omega) (by omega))
  have bt6 : ∀ s, s < Sn b n w → g6 (21 + 4) s = btS b n w mk' s := fun s hs => by rw [f6 _ _ (by omega) (by omega)]; exact bt5 s hs
  have he6 : ∀ s, s < Sn b n w → g6 (21 + 5) s = (heP b n w mk').1 s := q1
  refine listClashes_ok (Or.inl rfl) hV6 hwo.w8.2 hWS G6 bt6 he6 (fun g7 p1 p2 p3 p4 f7 => ?_)
  have fr7 : ∀ a i, ¬ (11 ≤ a ∧ a ≤ 28) → g7 a i = g2 a i := fun a i z => by
    rw [f7 a i (by omega) (by omega), f6 a i (by omega) (by omega), f5 a i (by omega), f4 a i (by omega), f3 a i (by omega) (by omega) (by omega)]
  have C7 : CC b n w g7 := C4.keep (fun a i z => by rw [f7 a i (by omega) (by omega), f6 a i (by omega) (by omega), f5 a i (by omega)])
  have hb7 : b = nz (g7 1) n := hb2.trans (by rw [show g7 1 = g2 1 from funext fun x => fr7 _ _ (by omega)])
  have he7 : ∀ s, s < Sn b n w → g7 26 s = (heP b n w mk').1 s := fun s hs => by rw [f7 _ _ (by omega) (by omega)]; exact he6 s hs
  refine show_ok hn hwo hb7 C7 he7 (fun g8 t1 t2 f8 => ?_)
  have nz1 := nzc_le (h := btS b n w mk') (Sn b n w)
  obtain ⟨-, nl, -, -⟩ := hearF_ok (V := (w 8).toNat) (WL_cut (b := b) (w := w) hn) 60 (btS b n w mk') 0 (HI_bt hn hm1) (by omega)
  have hCA : CA b n w mk' g8 := by
    refine ⟨C7.keep (fun a i z => f8 a i (by omega) (by omega)), fun k hk => ?_, fun k hk => ?_, fun s hs => ?_, ?_, ?_, ?_, ?_, fun s hs hc => ?_, t2, t1⟩
    · rw [f8 _ _ (by omega) (by omega), f7 _ _ (by omega) (by omega), f6 _ _ (by omega) (by omega), f5 _ _ (by omega), m4 k hk, hm]
    · exact (B5 k hk).keep (fun a i z => by rw [f8 a i (by omega) (by omega), f7 a i (by omega) (by omega), f6 a i (by omega) (by omega)])
    · rw [f8 _ _ (by omega) (by omega)]; exact he7 s hs
    · rw [f8 _ _ (by omega) (by omega), f7 _ _ (by omega) (by omega)]; exact q2
    · rw [f8 _ _ (by omega) (by omega)]; exact p1
    · rw [f8 _ _ (by omega) (by omega)]; exact p2
    · rw [f8 _ _ (by omega) (by omega), p3]
      refine congrArg (fun x : Nat => (x : Int)) (ctB_congr (q := cl (Sn b n w) (w 8).toNat (heP b n w mk').1) (fun s hs => ⟨fun y => y.1, fun y => ⟨y, ?_⟩⟩))
      rcases Classical.em (stk (wlo (fs b n w) (wo b n w)) (whi (fs b n w) (nc b n w) (wo b n w)) (heP b n w mk').1 s (nx (heP b n w mk').1 (Sn b n w) (s + 1))) with z | z
      · exact z
      · exact absurd ⟨y, z⟩ (nl s hs)
    · rw [f8 _ _ (by omega) (by omega)]; exact p4 s hs hc
  have fr8 : ∀ a i, ¬ (11 ≤ a ∧ a ≤ 28) → ¬ (a = 5) → ¬ (a = 0 ∧ i = 11) → ¬ (a = 0 ∧ i = 15) → g8 a i = g a i := fun a i z1 z2 z3 z4 => by rw [f8 a i z2 z3, fr7 a i z1, f2 a i z4]
  have h15 : g8 0 15 = 0 := by rw [f8 _ _ (by omega) (by omega), fr7 _ _ (by omega), e2]; (simp (disch := omega) only [up_at, up_ne])
  refine h g8 hCA h15 ⟨hn, ?_, ?_, ?_, hwo, ?_, hT, hm, ?_, ?_, Or.inr ⟨h15, hCA⟩, ?_⟩ (fun a i z1 z2 z3 z4 => fr8 a i (by omega) z3 (by omega) (by omega))
  · rw [fr8 _ _ (by omega) (by omega) (by omega) (by omega)]; exact hR.gn
  · exact hR.eb.trans (by rw [show g8 1 = g 1 from funext fun x => fr8 _ _ (by omega) (by omega) (by omega) (by omega)])
  · exact hR.ew.trans (funext fun x => (fr8 _ _ (by omega) (by omega) (by omega) (by omega)).symm)
  · exact hR.lx.keep (fun a i z => fr8 a i (by omega) (by omega) (by omega) (by omega))
  · rw [← hR.et]; exact funext fun x => fr8 _ _ (by omega) (by omega) (by omega) (by omega)
  · intro i hi; rw [fr8 _ _ (by omega) (by omega) (by omega) (by omega)]; exact hR.w3 i hi
  · rw [fr8 _ _ (by omega) (by omega) (by omega) (by omega), fr8 _ _ (by omega) (by omega) (by omega) (by omega), fr8 _ _ (by omega) (by omega) (by omega) (by omega)]; exact hR.cn
theorem footWay_ok {Q : Int → GG → FF → Prop} {c k : Nat} {v0 v1 : Int} (h0 : v0 = c) (h1 : v1 = k) (hc : c < 36) (hk : 4 ≤ k ∧ k ≤ 7) (h : Q (wc w c k) g fl) : cI E 39 [amI v0, amI v1] g fl Q := by
  refine b39 ⟨fun c1 => ⟨by omega, ?_⟩, fun c1 => ⟨by omega, by omega, ?_⟩, fun c1 => ⟨by omega, by omega, ?_⟩, fun c1 => ⟨by omega, ?_⟩⟩
  · rw [show k = 4 by omega, wc_4] at h; rw [show v0 / 12 = ((c / 12 : Nat) : Int) by omega]; exact h
  · rw [show k = 5 by omega, wc_5] at h; rw [show v0 / 6 % 2 = ((c / 6 % 2 : Nat) : Int) by omega]; exact h
  · rw [show k = 6 by omega, wc_6] at h; rw [show v0 / 3 % 2 = ((c / 3 % 2 : Nat) : Int) by omega]; exact h
  · rw [show k = 7 by omega, wc_7] at h; rw [show v0 % 3 = ((c % 3 : Nat) : Int) by omega]; exact h
theorem trial_ok {c : Nat} {Q : GG → FF → Prop} (hn : n ≤ 60) (hwo : waysOK w) (hT : LT N T P) (hm : mk' = mkS T P N b n) (hC : CA b n w mk' g) (hc : c < 36) (hw3 : wc w c = g 3) (hw2 : w = g 2)
    (h : ∀ g' : GG, (∀ s, s < Sn b n w → g' 34 s = (heP b n (wc w c) mk').1 s) → (∀ a i, ¬ (29 ≤ a ∧ a ≤ 36) → g' a i = g a i) → Q g' fl) : cV E 77 [amR 29, amR 11, amR 3] g fl (fun g2 f2 => cV E 86 [amR 29, amR 11, amI (rd g2 2 9 8)] g2 f2 Q) := by
  have hwc := wc_ok hwo hc
  have c4 := wc_c4 (w := w) (c := c)
  have hm1 : ∀ k, k < Wn b n → -1 ≤ mk' k := fun k _ => by rw [hm]; exact (mkS_in hT k).1
  have hWS : WS (Wn b n) (Sn b n w) (fs b n w) (nc b n w) mk' (wo b n w) := WS_mk hn hT hm
  have G0 := hC.cc.cg (mk' := mk') hn hC.mk1
  refine makeC_ok (Or.inr rfl) (Or.inr rfl) hw3 hwc hWS.c G0 (fun g5 B5 f5 => ?_)
  have G5 := G0.keep (g' := g5) (fun a i z => f5 a i (by omega))
  have hV : (rd g5 2 9 8) = ((w 8).toNat : Nat) := by rw [rd28, f5 _ _ (by omega), ← hw2]; exact hwo.w8.1
  have bt5 : ∀ s, s < Sn b n w → g5 (29 + 4) s = btS b n (wc w c) mk' s := fun s hs => by
    obtain ⟨o1, o2, o3, o4, o5⟩ := wo_ok (w := w) hn hs
    rw [btS_kj (k := wo b n w s) hn o1 (by rw [fs_c c4]; exact o2) (by rw [fs_c c4, nc_c c4]; exact o3), moS_c c4, fs_c c4, nc_c c4]
    exact (B5 _ o1).bt s o2 o3
  have hI : HI (Sn b n w) (wlo (fs b n w) (wo b n w)) (whi (fs b n w) (nc b n w) (wo b n w)) (btS b n (wc w c) mk') := by
    have := HI_bt (b := b) (n := n) (w := wc w c) (mk' := mk') hn hm1
    rw [Sn_c c4, loS_c c4, hiS_c c4] at this
    exact this
  refine hear_ok (Or.inr rfl) hV hwo.w8.2 hWS G5 hI bt5 (fun g6 q1 q2 f6 => h g6 (fun s hs => ?_) (fun a i z => by rw [f6 a i (by omega) (by omega), f5 a i (by omega)]))
  rw [q1 s hs]
  unfold heP
  rw [Sn_c c4, loS_c c4, hiS_c c4]; rfl
theorem seek_ok (hR : RC b n w mk' td N T P g) (hC : CA b n w mk' g) (h15 : g 0 15 = 0) (h : ∀ g' : GG, CA b n w mk' g' → g' 0 15 = 0 → RC b n w mk' td N T P g' → KC g g' → g' 0 13 = (nsA b n w mk' td).1 → g' 0 14 = (nsA b n w mk' td).2 → Q g' fl) : cV E 40 [amR 0] g fl Q := by
  have hn := hR.n60
  have hwo := hR.ok
  have hT := hR.lt
  have hm := hR.em
  have hSl := Sn_le (b := b) (w := w) hn
  refine b40 ⟨fun c => ?_, fun c g2 e2 => ?_⟩
  · rcases hR.cn with z | ⟨z1, z2, z3⟩
    · omega
    · exact h g hC h15 hR KC.refl z2 z3
  have head : ∀ (f c : Nat) (v1 : Int) (g1 : GG), c + f = 36 → v1 = c → (∀ i, i < 4 ∨ 8 ≤ i → g1 3 i = w i) → g1 0 14 = (nsF (fun c => nrA b n (wc w c) mk' td) c).2 → (0 < c → g1 0 13 = (nsF (fun c => nrA b n (wc w c) mk' td) c).1) → g1 0 16 = 0 → (∀ a i, ¬ (a = 3 ∧ i < 9) → ¬ (a = 0 ∧ (i = 13 ∨ i = 14 ∨ i = 16)) → ¬ (29 ≤ a ∧ a ≤ 36) → g1 a i = g a i) → am_X E 40 (27, (0, 0), [some (amR 0), some (amI v1), none], [], mk g1 fl) (RV Q) := by
    intro f
    induction f with
    | zero =>
      intro c v1 g1 hf h1 h3 h14 h13 h16 hfr
      have : c = 36 := by omega
      subst this
      have CA1 : CA b n w mk' g1 := hC.keep (fun a i z => hfr a i (by omega) (by omega) (by omega))
      have e15 : g1 0 15 = 0 := by rw [hfr _ _ (by omega) (by omega) (by omega)]; exact h15
      refine b40_27 ⟨fun y => absurd y (by omega), fun _ => h g1 CA1 e15 ⟨hn, ?_, ?_, ?_, hwo, ?_, hT, hm, ?_, ?_, Or.inr ⟨e15, CA1⟩, Or.inr ⟨h16, h13 (by omega), h14⟩⟩ (fun a i z1 z2 z3 z4 => hfr a i z2 (by omega) (by omega)) (h13 (by omega)) h14⟩
      · rw [hfr _ _ (by omega) (by omega) (by omega)]; exact hR.gn
      · exact hR.eb.trans (by rw [show g1 1 = g 1 from funext fun x => hfr _ _ (by omega) (by omega) (by omega)])
      · exact hR.ew.trans (funext fun x => (hfr _ _ (by omega) (by omega) (by omega)).symm)
      · exact hR.lx.keep (fun a i z => hfr a i (by omega) (by omega) (by omega))
      · rw [← hR.et]; exact funext fun x => hfr _ _ (by omega) (by omega) (by omega)
      · intro i hi; exact h3 i (by omega)
    | succ f ih =>
      intro c v1 g1 hf h1 h3 h14 h13 h16 hfr
      have inner : ∀ (f2 k : Nat) (v2 : Int) (g2 : GG), k + f2 = 8 → 4 ≤ k → v2 = k → (∀ i, i < k ∨ 8 ≤ i → g2 3 i = wc w c i) → (∀ a i, ¬ (a = 3 ∧ i < 9) → g2 a i = g1 a i) → am_X E 40 (32, (0, 0), [some (amR 0), some (amI v1), some (amI v2)], [], mk g2 fl) (RV Q) := by
        intro f2
        induction f2 with
        | zero =>
          intro k v2 g2 hf2 hk4 h2 hi3 hf2r
          have CA2 : CA b n w mk' g2 := hC.keep (fun a i z => by rw [hf2r a i (by omega)]; exact hfr a i (by omega) (by omega) (by omega))
          have hw2 : w = g2 2 := hR.ew.trans (funext fun x => by rw [hf2r _ _ (by omega), hfr _ _ (by omega) (by omega) (by omega)])
          refine b40_32 ⟨fun _ => trial_ok hn hwo hT hm CA2 (c := c) (by omega) (funext fun i => (hi3 i (by omega)).symm) hw2 (fun g3 q1 q2 => ?_), fun y => absurd (by omega) y⟩
          have hS3 : g3 11 11 = Sn b n w := by rw [q2 _ _ (by omega)]; exact CA2.cc.S
          have ht3 : ∀ s, s < Sn b n w → g3 4 s = td s := fun s _ => by rw [q2 _ _ (by omega), hf2r _ _ (by omega), hfr _ _ (by omega) (by omega) (by omega), ← hR.et]
          have hfr3 : ∀ a i, ¬ (a = 3 ∧ i < 9) → ¬ (a = 0 ∧ (i = 13 ∨ i = 14 ∨ i = 16)) → ¬ (29 ≤ a ∧ a ≤ 36) → g3 a i = g a i := fun a i z1 z2 z3 => by rw [q2 a i z3, hf2r a i z1]; exact hfr a i z1 z2 z3
          have h33 : ∀ i, i < 4 ∨ 8 ≤ i → g3 3 i = w i := fun i hi => by rw [q2 _ _ (by omega), hi3 i (by omega), wc_o (by omega) (by omega) (by omega) (by omega)]
          have e14 : g3 0 14 = (nsF (fun c => nrA b n (wc w c) mk' td) c).2 := by rw [q2 _ _ (by omega), hf2r _ _ (by omega)]; exact h14
          have e13 : g3 0 13 = g1 0 13 := by rw [q2 _ _ (by omega), hf2r _ _ (by omega)]
          have e16 : g3 0 16 = 0 := by rw [q2 _ _ (by omega), hf2r _ _ (by omega)]; exact h16
          refine likeTold_ok (Or.inr rfl) (S := Sn b n w) (td := td) hS3 (by omega) q1 ht3 ?_
          have hnr : ctB (fun s => (heP b n (wc w c) mk').1 s = td s) (Sn b n w) = nrA b n (wc w c) mk' td := by unfold nrA; rw [Sn_c wc_c4]
          rw [hnr, e14]
          refine ⟨fun y => fun g6 e6 g7 e7 => ⟨rgI (by omega) (by omega), ?_⟩, fun y => ⟨rgI (by omega) (by omega), ?_⟩⟩
          · refine ih (c + 1) _ g7 (by omega) (by omega) (fun i hi => by rw [e7, e6]; (simp (disch := omega) only [up_at, up_ne]); exact h33 i hi) ?_ (fun _ => ?_) (by rw [e7, e6]; (simp (disch := omega) only [up_at, up_ne]); exact e16) (fun a i z1 z2 z3 => by rw [e7, e6]; (simp (disch := omega) only [up_at, up_ne]); exact hfr3 a i z1 z2 z3)
            · rw [nsF_s, if_pos y, e7, e6]; (simp (disch := omega) only [up_at, up_ne])
            · rw [nsF_s, if_pos y, e7, e6]; (simp (disch := omega) only [up_at, up_ne]); exact h1
          · have c0 : 0 < c := by
              rcases Nat.eq_zero_or_pos c with z | z
              · subst z
                exact absurd (show (-1 : Int) < (nrA b n (wc w 0) mk' td : Nat) by omega) y
              · exact z
            refine ih (c + 1) _ g3 (by omega) (by omega) h33 (by rw [nsF_s, if_neg y]; exact e14) (fun _ => by rw [nsF_s, if_neg y, e13]; exact h13 c0) e16 hfr3
        | succ f2 ih2 =>
          intro k v2 g2 hf2 hk4 h2 hi3 hf2r
          refine b40_32 ⟨fun y => absurd y (by omega), fun _ => footWay_ok (w := w) h1 h2 (by omega) (by omega) (fun g3 e3 => ⟨rgI (by omega) (by omega), ?_⟩)⟩
          rw [wr_in h2 (by omega)] at e3
          refine ih2 (k + 1) _ g3 (by omega) (by omega) (by omega) (fun i hi => ?_) (fun a i z => by rw [e3]; (simp (disch := omega) only [up_at, up_ne]); exact hf2r a i z)
          rw [e3]
          by_cases y : i = k
          · rw [y]; (simp (disch := omega) only [up_at, up_ne])
          · (simp (disch := omega) only [up_at, up_ne]); exact hi3 i (by omega)
      refine b40_27 ⟨fun _ => inner 4 4 4 g1 (by omega) (by omega) rfl (fun i hi => ?_) (fun _ _ _ => rfl), fun y => absurd (by omega) y⟩
      rw [h3 i hi, wc_o (by omega) (by omega) (by omega) (by omega)]
  have f2 : ∀ a i, ¬ (a = 0 ∧ i = 16) → g2 a i = g a i := by intro a i z; rw [e2]; (simp (disch := omega) only [up_at, up_ne])
  have h16 : g2 0 16 = 0 := by rw [e2]; (simp (disch := omega) only [up_at, up_ne])
  have copy : ∀ (f k : Nat) (v1 : Int) (g1 : GG), k + f = 9 → v1 = k → (∀ i, i < k → g1 3 i = w i) → (∀ a i, ¬ (a = 3 ∧ i < 9) → g1 a i = g2 a i) → am_X E 40 (9, (0, 0), [some (amR 0), some (amI v1), none], [], mk g1 fl) (RV Q) := by
    intro f
    induction f with
    | zero =>
      intro k v1 g1 hf h1 h3 hfr
      refine b40_9 ⟨fun y => absurd y (by omega), fun _ g3 e3 => head 36 0 0 g3 (by omega) rfl (fun i hi => ?_) (by rw [e3]; (simp (disch := omega) only [up_at, up_ne]); rfl) (fun y => by omega) (by rw [e3]; (simp (disch := omega) only [up_at, up_ne]); rw [hfr _ _ (by omega)]; exact h16) (fun a i z1 z2 z3 => by rw [e3]; (simp (disch := omega) only [up_at, up_ne]); rw [hfr a i z1, f2 a i (by omega)])⟩
      rw [e3]; (simp (disch := omega) only [up_at, up_ne])
      by_cases y : i < 9
      · exact h3 i (by omega)
      · rw [hfr _ _ (by omega), f2 _ _ (by omega)]; exact hR.w3 i (by omega)
    | succ f ih =>
      intro k v1 g1 hf h1 h3 hfr
      refine b40_9 ⟨fun _ g3 e3 => ⟨rgI (by omega) (by omega), ?_⟩, fun y => absurd (by omega) y⟩
      rw [wr_in h1 (by omega), rd_in h1 (by omega)] at e3
      refine ih (k + 1) _ g3 (by omega) (by omega) (fun i hi => ?_) (fun a i z => by rw [e3]; (simp (disch := omega) only [up_at, up_ne]); exact hfr a i z)
      rw [e3]
      by_cases y : i = k
      · rw [y]; (simp (disch := omega) only [up_at, up_ne]); rw [hfr _ _ (by omega), f2 _ _ (by omega), ← hR.ew]
      · (simp (disch := omega) only [up_at, up_ne]); exact h3 i (by omega)
  exact copy 9 0 0 g2 (by omega) rfl (fun i hi => by omega) (fun _ _ _ => rfl)
end REFR
