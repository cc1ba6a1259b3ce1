/-! what the law asks, as plain mathematics: near, nearest, shares -/
theorem sh_one : ∀ a, a < 61 → 0 < a → shV a a = 1065353216 := by decide +kernel
section LMN
variable {b : Nat → Int} {n : Nat} {w mk1 td : Nat → Int}
theorem nr_all (h : ∀ s, s < Sn b n w → td s = (heP b n w mk1).1 s) : nrA b n w mk1 td = Sn b n w := ctB_all (fun s hs => (h s hs).symm)
theorem nsF_max {f : Nat → Nat} : ∀ {c i : Nat}, i < c → (f i : Int) ≤ (nsF f c).2
  | 0, i, h => by omega
  | c + 1, i, h => by
    rw [nsF_s]
    by_cases z : (nsF f c).2 < f c
    · rw [if_pos z]
      by_cases y : i = c
      · rw [y]; exact Int.le_refl _
      · have := nsF_max (f := f) (c := c) (i := i) (by omega)
        show (f i : Int) ≤ (f c : Int)
        omega
    · rw [if_neg z]
      by_cases y : i = c
      · rw [y]; omega
      · exact nsF_max (f := f) (c := c) (i := i) (by omega)
theorem ns_all (hwo : waysOK w) (h : nrA b n w mk1 td = Sn b n w) : (nsA b n w mk1 td).2 = (Sn b n w : Nat) := by
  obtain ⟨c1, c2, -⟩ := wc_cd hwo
  obtain ⟨-, -, k, k1, k2, k3⟩ := nsA_in (b := b) (n := n) (w := w) (mk' := mk1) (td := td)
  have h1 : ((nrA b n (wc w (cdW w)) mk1 td : Nat) : Int) ≤ (nsA b n w mk1 td).2 := nsF_max (f := fun c => nrA b n (wc w c) mk1 td) c1
  rw [c2, h] at h1
  have h2 : nrA b n (wc w k) mk1 td ≤ Sn b n (wc w k) := ctB_le _
  rw [Sn_c (wc_c4 (w := w) (c := k))] at h2
  rw [k3] at h1 ⊢
  omega
end LMN
