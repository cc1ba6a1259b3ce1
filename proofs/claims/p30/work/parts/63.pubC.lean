/-! the component's digest, its public reading calls -/
section PUBC
variable {E : am_E} {g : GG} {fl : FF} {b : Nat → Int} {n : Nat} {w : Nat → Int} {mk' : Nat → Int} {td : Nat → Int} {N : Nat} {T : Nat → List Int} {P : Nat → Int}
variable {Q : Int → GG → FF → Prop}
theorem flawC_ok (hR : RC b n w mk' td N T P g) (h : ∀ g' : GG, KC g g' → RC b n w mk' td N T P g' → Q (flaw b n) g' fl) : cI E 4 [amR 0] g fl Q :=
  b4 (refresh_ok hR (fun g1 C1 _ R1 k1 => by rw [C1.cc.fl]; exact h g1 k1 R1))
theorem wordC_ok {v1 v2 : Int} (hR : RC b n w mk' td N T P g) (h : ∀ g' : GG, KC g g' → RC b n w mk' td N T P g' → Q (wordA b n w mk' v1 v2) g' fl) : cI E 6 [amR 0, amI v1, amI v2] g fl Q := by
  refine b6 (refresh_ok hR (fun g1 C1 _ R1 k1 => ?_))
  have h := h g1 k1 R1
  unfold wordA at h
  rw [C1.cc.W]
  refine ⟨fun c => ?_, fun c => ⟨fun c2 => ?_, fun c2 => ?_⟩⟩
  · rw [if_neg (by omega)] at h; exact h
  · rw [if_pos (by omega)] at h; exact ofWord_ok R1 C1 (k := v1.toNat) (by omega) (by omega) h
  · rw [if_neg (by omega)] at h; exact h
theorem syllC_ok {v1 v2 : Int} (hR : RC b n w mk' td N T P g) (h : ∀ g' : GG, KC g g' → RC b n w mk' td N T P g' → Q (syllA b n w mk' td v1 v2) g' fl) : cI E 7 [amR 0, amI v1, amI v2] g fl Q := by
  refine b7 (refresh_ok hR (fun g1 C1 _ R1 k1 => ?_))
  have h := h g1 k1 R1
  unfold syllA at h
  rw [C1.cc.S]
  refine ⟨fun c => ?_, fun c => ⟨fun c2 => ?_, fun c2 => ?_⟩⟩
  · rw [if_neg (by omega)] at h; exact h
  · rw [if_pos (by omega)] at h; exact ofSyll_ok R1 C1 (s := v1.toNat) (by omega) (by omega) h
  · rw [if_neg (by omega)] at h; exact h
theorem markedC_ok {v1 : Int} (hR : RC b n w mk' td N T P g) (h : ∀ g' : GG, KC g g' → RC b n w mk' td N T P g' → Q (markedA b n mk' v1) g' fl) : cI E 10 [amR 0, amI v1] g fl Q := by
  have hWl := Wn_le (b := b) (n := n) hR.n60
  refine b10 (refresh_ok hR (fun g1 C1 _ R1 k1 => ?_))
  have h := h g1 k1 R1
  unfold markedA at h
  rw [C1.cc.W]
  refine ⟨fun c => ?_, fun c => ⟨fun c2 => ?_, fun c2 => ?_⟩⟩
  · rw [if_neg (by omega)] at h; exact h
  · rw [if_pos (by omega)] at h; rw [rd_in (k := v1.toNat) (by omega) (by omega), C1.mk1 _ (by omega)]; exact h
  · rw [if_neg (by omega)] at h; exact h
theorem heardC_ok {v1 : Int} (hR : RC b n w mk' td N T P g) (h : ∀ g' : GG, KC g g' → RC b n w mk' td N T P g' → Q (hdA b n w mk' v1) g' fl) : cI E 12 [amR 0, amI v1] g fl Q :=
  b12 (refresh_ok hR (fun g1 C1 _ R1 k1 => ofHear_ok C1 (h g1 k1 R1)))
theorem nearC_ok (hR : RC b n w mk' td N T P g) (h : ∀ g' : GG, KC g g' → RC b n w mk' td N T P g' → Q (nrA b n w mk' td : Nat) g' fl) : cI E 15 [amR 0] g fl Q :=
  b15 (refresh_ok hR (fun g1 C1 _ R1 k1 => likeC_ok R1 C1 (h g1 k1 R1)))
theorem nearestC_ok {v1 : Int} (hR : RC b n w mk' td N T P g) (h : ∀ g' : GG, KC g g' → RC b n w mk' td N T P g' → Q (if 0 ≤ v1 ∧ v1 ≤ 4 then nstA (nsA b n w mk' td) v1 else -2) g' fl) : cI E 16 [amR 0, amI v1] g fl Q := by
  refine b16 ⟨fun c => ?_, fun c => ⟨fun c2 => ?_, fun c2 => refresh_ok hR (fun g1 C1 h15 R1 k1 => seek_ok R1 C1 h15 (fun g2 C2 _ R2 k2 e13 e14 => ofNear_ok (by omega) e13 e14 ?_))⟩⟩
  · have h := h g KC.refl hR; rw [if_neg (by omega)] at h; exact h
  · have h := h g KC.refl hR; rw [if_neg (by omega)] at h; exact h
  · have h := h g2 (k1.trans k2) R2; rw [if_pos (by omega)] at h; exact h
theorem shareC_ok {v1 : Int} (hR : RC b n w mk' td N T P g) (h : ∀ g' : GG, KC g g' → RC b n w mk' td N T P g' → Q (shA b n w mk' td v1) g' fl) : cI E 18 [amR 0, amI v1] g fl Q :=
  b18 (refresh_ok hR (fun g1 C1 _ R1 k1 => shareBits_ok R1 C1 (h g1 k1 R1)))
theorem textC_ok {v1 : Int} (hR : RC b n w mk' td N T P g) (h : ∀ g' : GG, KC g g' → RC b n w mk' td N T P g' → Q (textA b n w mk' v1) g' fl) : cI E 19 [amR 0, amI v1] g fl Q := by
  have hl := txA_le hR.n60 hR.ok (h := (heP b n w mk').1) (b := b) (m := Sn b n w) (Nat.le_refl _)
  have hll : (txL b n w mk').length ≤ 180 := hl
  refine b19 (refresh_ok hR (fun g1 C1 _ R1 k1 => ?_))
  have h := h g1 k1 R1
  unfold textA at h
  rw [C1.tl]
  refine ⟨fun c => ?_, fun c => ⟨fun c2 => ?_, fun c2 => ⟨fun c3 => ?_, fun c3 => ?_⟩⟩⟩
  · rw [if_pos c] at h; exact h
  · rw [if_neg c, if_neg (by omega)] at h; exact h
  · rw [if_neg c, if_pos (by omega)] at h
    rw [rd_in (k := v1.toNat) (by omega) (by omega), C1.tx.at (by omega)]; exact h
  · rw [if_neg c, if_neg (by omega)] at h; exact h
theorem countC_ok {v1 : Int} (hR : RC b n w mk' td N T P g) (h : ∀ g' : GG, KC g g' → RC b n w mk' td N T P g' → Q (cntA b n w mk' N (g 0 12) v1) g' fl) : cI E 26 [amR 0, amI v1] g fl Q :=
  b26 (refresh_ok hR (fun g1 C1 _ R1 k1 => countOfC_ok R1 C1 (k1 0 12 (by omega) (by omega) (by omega) (by omega)) (h g1 k1 R1)))
end PUBC
