/-! the reference's answers of words, syllables, clashes, what is heard -/
section READM
variable {E : am_E} {g : GG} {fl : FF} {b : Nat → Int} {n : Nat} {w : Nat → Int} {mk' : Nat → Int} {td : Nat → Int} {N : Nat} {T : Nat → List Int} {P : Nat → Int} {Q : Int → GG → FF → Prop}
theorem RB.hwo (h : RB n N T P g) (hw : w = g 51) : waysOK w := by rw [hw]; exact h.ok
theorem FA.h0 (hn : n ≤ 60) (hF : FA b n w mk' g) (hm : ∀ k, k < Wn b n → -1 ≤ mk' k) : HI (Sn b n w) (loS b n w) (hiS b n w) (heP b n w mk').1 ∧ (heP b n w mk').2 ≤ 60 := by
  have hSl := Sn_le (b := b) (w := w) hn
  have hnz := nzc_le (h := btS b n w mk') (Sn b n w)
  obtain ⟨a1, a2, a3, a4⟩ := hearF_ok (V := (w 8).toNat) (WL_cut (b := b) (w := w) hn) 60 (btS b n w mk') 0 (HI_bt hn hm) (by omega)
  exact ⟨a1, by unfold heP; omega⟩
end READM
