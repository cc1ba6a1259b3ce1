/-! what is heard: the reference -/
section HEARM
variable {E : am_E} {g : GG} {fl : FF} {b : Nat → Int} {n : Nat} {w : Nat → Int} {h : Nat → Int} {S V : Nat}
theorem CW_cut (hn : n ≤ 60) {mk' : Nat → Int} (hm : ∀ k, k < Wn b n → -1 ≤ mk' k ∧ mk' k ≤ 60) : CW (Wn b n) (Sn b n w) (fs b n w) (nc b n w) mk' :=
  ⟨Wn_le hn, by have := Sn_le (b := b) (w := w) hn; omega, hm, fun k hk => by have := (nc_word (w := w) hn hk).1; omega, fun k _ => rfl, rfl, rfl⟩
theorem WS_cut (hn : n ≤ 60) {mk' : Nat → Int} (hm : ∀ k, k < Wn b n → -1 ≤ mk' k ∧ mk' k ≤ 60) : WS (Wn b n) (Sn b n w) (fs b n w) (nc b n w) mk' (wo b n w) :=
  ⟨CW_cut hn hm, fun s hs => by
    obtain ⟨o1, o2, o3, o4, o5⟩ := wo_ok (w := w) hn hs
    exact ⟨o1, o2, o3⟩⟩
end HEARM
