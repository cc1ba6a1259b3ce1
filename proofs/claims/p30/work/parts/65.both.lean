/-! both side by side: the relation, the calls that read -/
def okM (x : UInt32) : Prop := vf_n32 (FP.fmul (UInt32.ofNat 1090519040) x)
def SR (s t : Nat) (g : GG) (fl : FF) : Prop :=
  (g t 2 = 1 ∧ g 69 s = -1) ∨ (g t 2 = 0 ∧ g 69 s = g t 3 ∧ 0 ≤ g t 3 ∧ g t 3 ≤ 2 ∧ g 70 s = g t 4 ∧ 0 ≤ g t 4 ∧ g t 4 ≤ 60 ∧
    ∀ i : Nat, (i : Int) < g t 4 → (g t 3 ≠ 2 → g (t + 1) i = g 71 (60 * s + i)) ∧ (g t 3 = 0 → -128 ≤ g 71 (60 * s + i) ∧ g 71 (60 * s + i) ≤ 127) ∧ (g t 3 = 2 → fl (t + 2) i = fl 72 (60 * s + i) ∧ okM (fl 72 (60 * s + i))))
abbrev Bo (b : Nat → Int) (n : Nat) (w : Nat → Int) (mk : Nat → Int) (td : Nat → Int) (N : Nat) (T : Nat → List Int) (P : Nat → Int) (b' : Nat → Int) (mk' : Nat → Int) (T' : Nat → List Int) (P' : Nat → Int) (g : GG) (fl : FF) : Prop := (RC b n w mk td N T P g) ∧ (RM b' n w mk' td N T' P' g) ∧ (∀ i, i < n → bR (g 1 i) (g 50 i)) ∧ (∀ t p, LSet N T P t p ↔ LSet N T' P' t p) ∧ (g 0 12 = g 49 33) ∧ (∀ s, s < 4 → SR s (37 + 3 * s) g fl)
theorem Bo.rc {b : Nat → Int} {n : Nat} {w : Nat → Int} {mk : Nat → Int} {td : Nat → Int} {N : Nat} {T : Nat → List Int} {P : Nat → Int} {b' : Nat → Int} {mk' : Nat → Int} {T' : Nat → List Int} {P' : Nat → Int} {g : GG} {fl : FF} (hx_ : Bo b n w mk td N T P b' mk' T' P' g fl) : RC b n w mk td N T P g := hx_.1
theorem Bo.rm {b : Nat → Int} {n : Nat} {w : Nat → Int} {mk : Nat → Int} {td : Nat → Int} {N : Nat} {T : Nat → List Int} {P : Nat → Int} {b' : Nat → Int} {mk' : Nat → Int} {T' : Nat → List Int} {P' : Nat → Int} {g : GG} {fl : FF} (hx_ : Bo b n w mk td N T P b' mk' T' P' g fl) : RM b' n w mk' td N T' P' g := hx_.2.1
theorem Bo.br {b : Nat → Int} {n : Nat} {w : Nat → Int} {mk : Nat → Int} {td : Nat → Int} {N : Nat} {T : Nat → List Int} {P : Nat → Int} {b' : Nat → Int} {mk' : Nat → Int} {T' : Nat → List Int} {P' : Nat → Int} {g : GG} {fl : FF} (hx_ : Bo b n w mk td N T P b' mk' T' P' g fl) : ∀ i, i < n → bR (g 1 i) (g 50 i) := hx_.2.2.1
theorem Bo.ls {b : Nat → Int} {n : Nat} {w : Nat → Int} {mk : Nat → Int} {td : Nat → Int} {N : Nat} {T : Nat → List Int} {P : Nat → Int} {b' : Nat → Int} {mk' : Nat → Int} {T' : Nat → List Int} {P' : Nat → Int} {g : GG} {fl : FF} (hx_ : Bo b n w mk td N T P b' mk' T' P' g fl) : ∀ t p, LSet N T P t p ↔ LSet N T' P' t p := hx_.2.2.2.1
theorem Bo.fi {b : Nat → Int} {n : Nat} {w : Nat → Int} {mk : Nat → Int} {td : Nat → Int} {N : Nat} {T : Nat → List Int} {P : Nat → Int} {b' : Nat → Int} {mk' : Nat → Int} {T' : Nat → List Int} {P' : Nat → Int} {g : GG} {fl : FF} (hx_ : Bo b n w mk td N T P b' mk' T' P' g fl) : g 0 12 = g 49 33 := hx_.2.2.2.2.1
theorem Bo.sh {b : Nat → Int} {n : Nat} {w : Nat → Int} {mk : Nat → Int} {td : Nat → Int} {N : Nat} {T : Nat → List Int} {P : Nat → Int} {b' : Nat → Int} {mk' : Nat → Int} {T' : Nat → List Int} {P' : Nat → Int} {g : GG} {fl : FF} (hx_ : Bo b n w mk td N T P b' mk' T' P' g fl) : ∀ s, s < 4 → SR s (37 + 3 * s) g fl := hx_.2.2.2.2.2
def Rel (g : GG) (fl : FF) : Prop := ∃ b n w mk td N T P b' mk' T' P', Bo b n w mk td N T P b' mk' T' P' g fl
section BOTH
variable {E : am_E} {g : GG} {fl : FF} {b : Nat → Int} {n : Nat} {w : Nat → Int} {mk1 : Nat → Int} {td : Nat → Int} {N : Nat} {T : Nat → List Int} {P : Nat → Int} {b' : Nat → Int} {mk' : Nat → Int} {T' : Nat → List Int} {P' : Nat → Int}
theorem mkS_same (h : LT N T P) (h' : LT N T' P') (hs : ∀ t p, LSet N T P t p ↔ LSet N T' P' t p) : mkS T P N b n = mkS T' P' N b n := by
  funext k
  exact lk_same h h' hs _
theorem Bo.same (h : Bo b n w mk1 td N T P b' mk' T' P' g fl) : Same b n mk1 b' mk' := by
  have hb := h.rc.eb
  have hb' := h.rm.eb
  refine ⟨by rw [hb, hb']; exact bR_fl h.br, ?_⟩
  rcases bR_nz h.br with z | z
  · left
    have e : b = b' := by rw [hb, hb', z]
    refine ⟨e, ?_⟩
    rw [h.rc.em, h.rm.em, e]
    exact mkS_same h.rc.lt h.rm.rb.lt h.ls
  · right
    rw [hb, hb']; exact z
theorem RC.keep {g' : GG} (h : RC b n w mk1 td N T P g) (hf : ∀ a i, a < 37 → ¬ (a = 0 ∧ i = 12) → g' a i = g a i) : RC b n w mk1 td N T P g' := by
  refine ⟨h.n60, by rw [hf _ _ (by omega) (by omega)]; exact h.gn, ?_, ?_, h.ok, h.lx.keep (fun a i z => hf a i (by omega) (by omega)), h.lt, h.em, ?_, fun i hi => by rw [hf _ _ (by omega) (by omega)]; exact h.w3 i hi, ?_, ?_⟩
  · rw [show g' 1 = g 1 from funext fun x => hf _ _ (by omega) (by omega)]; exact h.eb
  · rw [show g' 2 = g 2 from funext fun x => hf _ _ (by omega) (by omega)]; exact h.ew
  · rw [show g' 4 = g 4 from funext fun x => hf _ _ (by omega) (by omega)]; exact h.et
  · rw [hf _ _ (by omega) (by omega)]
    rcases h.ca with z | ⟨z1, z2⟩
    · exact Or.inl z
    · exact Or.inr ⟨z1, z2.keep (fun a i z => hf a i (by omega) (by omega))⟩
  · rw [hf _ _ (by omega) (by omega), hf _ _ (by omega) (by omega), hf _ _ (by omega) (by omega)]; exact h.cn
theorem RM.keep {g' : GG} (h : RM b' n w mk' td N T' P' g) (hf : ∀ a i, 49 ≤ a → a ≤ 65 → ¬ (a = 49 ∧ i = 33) → g' a i = g a i) : RM b' n w mk' td N T' P' g' := by
  refine ⟨h.rb.keep (fun a i z => hf a i (by omega) (by omega) (by omega)), ?_, ?_, h.em, ?_⟩
  · rw [show g' 50 = g 50 from funext fun x => hf _ _ (by omega) (by omega) (by omega)]; exact h.eb
  · rw [show g' 51 = g 51 from funext fun x => hf _ _ (by omega) (by omega) (by omega)]; exact h.ew
  · rw [show g' 52 = g 52 from funext fun x => hf _ _ (by omega) (by omega) (by omega)]; exact h.et
theorem SR.keep {s t : Nat} {g' : GG} {fl' : FF} (h : SR s t g fl) (hs : s < 4) (hf : ∀ a i, a = t ∨ a = t + 1 ∨ a = 69 ∨ a = 70 ∨ a = 71 → g' a i = g a i) (hff : ∀ a i, a = t + 2 ∨ a = 72 → fl' a i = fl a i) : SR s t g' fl' := by
  unfold SR at h ⊢
  simp only [hf t _ (by omega), hf 69 _ (by omega), hf 70 _ (by omega), hf (t + 1) _ (by omega), hf 71 _ (by omega), hff (t + 2) _ (by omega), hff 72 _ (by omega)]
  exact h
theorem Bo.kc {g' : GG} (h : Bo b n w mk1 td N T P b' mk' T' P' g fl) (k : KC g g') (hR : RC b n w mk1 td N T P g') : Bo b n w mk1 td N T P b' mk' T' P' g' fl :=
  ⟨hR, h.rm.keep (fun a i _ _ _ => k a i (by omega) (by omega) (by omega) (by omega)), fun i hi => by rw [k 1 i (by omega) (by omega) (by omega) (by omega), k 50 i (by omega) (by omega) (by omega) (by omega)]; exact h.br i hi, h.ls, by rw [k 0 12 (by omega) (by omega) (by omega) (by omega), k 49 33 (by omega) (by omega) (by omega) (by omega)]; exact h.fi, fun s hs => (h.sh s hs).keep hs (fun a i z => k a i (by omega) (by omega) (by omega) (by omega)) (fun _ _ _ => rfl)⟩
theorem Bo.km {g' : GG} (h : Bo b n w mk1 td N T P b' mk' T' P' g fl) (k : KM g g') : Bo b n w mk1 td N T P b' mk' T' P' g' fl :=
  ⟨h.rc.keep (fun a i _ _ => k a i (by omega) (by omega) (by omega)), h.rm.km k, fun i hi => by rw [k 1 i (by omega) (by omega) (by omega), k 50 i (by omega) (by omega) (by omega)]; exact h.br i hi, h.ls, by rw [k 0 12 (by omega) (by omega) (by omega), k 49 33 (by omega) (by omega) (by omega)]; exact h.fi, fun s hs => (h.sh s hs).keep hs (fun a i z => k a i (by omega) (by omega) (by omega)) (fun _ _ _ => rfl)⟩
theorem Bo.rel (h : Bo b n w mk1 td N T P b' mk' T' P' g fl) : Rel g fl := ⟨b, n, w, mk1, td, N, T, P, b', mk', T', P', h⟩
/-- method kx of the component and km of the reference answer alike, and what is between them stays -/
abbrev AlI (E : am_E) (kx km : Nat) (vs : List am_V) (g : GG) (fl : FF) : Prop := cI E kx (amR 0 :: vs) g fl (fun x g1 f1 => cI E km (amR 49 :: vs) g1 f1 (fun y g2 f2 => x = y ∧ Rel g2 f2))
abbrev AlL (E : am_E) (kx km : Nat) (g : GG) (fl : FF) : Prop := cL E kx [amR 0] g fl (fun x g1 f1 => cL E km [amR 49] g1 f1 (fun y g2 f2 => x = y ∧ Rel g2 f2))
/-- the relation anew, behind a change of the text, the ways or the lexicon -/
theorem Rel.new {n N : Nat} {T T' : Nat → List Int} {P P' : Nat → Int} (n60 : n ≤ 60) (gn : g 0 10 = n) (gm : g 49 1 = n) (ok : waysOK (g 2)) (hw : g 51 = g 2) (ht : g 52 = g 4) (lx : LX 7 8 9 6 3 N T P g) (lt : LT N T P) (lx' : LX 63 64 65 49 19 N T' P' g) (lt' : LT N T' P') (w3 : ∀ i, 9 ≤ i → g 3 i = g 2 i) (s1 : g 0 15 = 1) (s2 : g 0 16 = 1) (br : ∀ i, i < n → bR (g 1 i) (g 50 i)) (ls : ∀ t p, LSet N T P t p ↔ LSet N T' P' t p) (fi : g 0 12 = g 49 33) (sh : ∀ s, s < 4 → SR s (37 + 3 * s) g fl) : Rel g fl :=
  ⟨nz (g 1) n, n, g 2, mkS T P N (nz (g 1) n) n, g 4, N, T, P, nz (g 50) n, mkS T' P' N (nz (g 50) n) n, T', P', ⟨n60, gn, rfl, rfl, ok, lx, lt, rfl, rfl, w3, Or.inl s1, Or.inl s2⟩, ⟨⟨n60, gm, by rw [hw]; exact ok, lx', lt'⟩, rfl, hw.symm, rfl, ht⟩, br, ls, fi, sh⟩
end BOTH
