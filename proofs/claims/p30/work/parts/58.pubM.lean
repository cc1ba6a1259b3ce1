/-! the reference's calls that read -/
def dgI (h : Int64) (x : Int) : Int64 := ((Int64.ofInt 31) * h) + (am_i2l x)
def dgF (f : Nat → Int) : Nat → Int64 → Int64
  | 0, h => h
  | k + 1, h => dgI (dgF f k h) (f k)
section DGS
variable (b : Nat → Int) (n : Nat) (w : Nat → Int) (mk' : Nat → Int) (td : Nat → Int)
def shA (x : Int) : Int := if x = 0 then shV (nrA b n w mk' td) (Sn b n w) else if x = 1 then shV (hvA b n w) (Sn b n w) else if x = 2 then shV (mhA b n w mk') (maA b n w) else 0
def dgW : Nat → Int64 → Int64
  | 0, h => h
  | k + 1, h => dgI (dgF (fun x => wdA b n w mk' k x) 6 (dgW k h)) (mk' k)
def dgS : Nat → Int64 → Int64
  | 0, h => h
  | s + 1, h => dgF (fun x => syA b n w mk' td s x) 8 (dgS s h)
def txL : List Int := txA b n w (heP b n w mk').1 (Sn b n w)
def dg1 (N f : Int) : Int64 := dgI (dgF (fun x => cntA b n w mk' N f x) 8 (Int64.ofInt 17)) (flaw b n)
def dg2 (N f : Int) : Int64 := dgS b n w mk' td (Sn b n w) (dgW b n w mk' (Wn b n) (dg1 b n w mk' N f))
def dg3 (N f : Int) : Int64 := dgF (fun k => hdA b n w mk' k) 4 (dgF (fun k => clA b n w mk' k) (cbA b n w mk') (dg2 b n w mk' td N f))
def dg4 (N f : Int) : Int64 := dgF (fun x => nstA (nsA b n w mk' td) x) 5 (dgI (dg3 b n w mk' td N f) (nrA b n w mk' td : Nat))
def dg5 (N f : Int) : Int64 := dgI (dgF (fun x => shA b n w mk' td x) 3 (dg4 b n w mk' td N f)) ((txL b n w mk').length : Nat)
def dgA (N f : Int) : Int64 := dgF (fun i => (txL b n w mk').getD i 0) (txL b n w mk').length (dg5 b n w mk' td N f)
def textA (x : Int) : Int := if x = -1 then ((txL b n w mk').length : Nat) else if 0 ≤ x ∧ x < (txL b n w mk').length then (txL b n w mk').getD x.toNat 0 else -2
end DGS
abbrev RM (b : Nat → Int) (n : Nat) (w : Nat → Int) (mk' : Nat → Int) (td : Nat → Int) (N : Nat) (T : Nat → List Int) (P : Nat → Int) (g : GG) : Prop := (RB n N T P g) ∧ (b = nz (g 50) n) ∧ (w = g 51) ∧ (mk' = mkS T P N b n) ∧ (g 52 = td)
theorem RM.rb {b : Nat → Int} {n : Nat} {w : Nat → Int} {mk' : Nat → Int} {td : Nat → Int} {N : Nat} {T : Nat → List Int} {P : Nat → Int} {g : GG} (hx_ : RM b n w mk' td N T P g) : RB n N T P g := hx_.1
theorem RM.eb {b : Nat → Int} {n : Nat} {w : Nat → Int} {mk' : Nat → Int} {td : Nat → Int} {N : Nat} {T : Nat → List Int} {P : Nat → Int} {g : GG} (hx_ : RM b n w mk' td N T P g) : b = nz (g 50) n := hx_.2.1
theorem RM.ew {b : Nat → Int} {n : Nat} {w : Nat → Int} {mk' : Nat → Int} {td : Nat → Int} {N : Nat} {T : Nat → List Int} {P : Nat → Int} {g : GG} (hx_ : RM b n w mk' td N T P g) : w = g 51 := hx_.2.2.1
theorem RM.em {b : Nat → Int} {n : Nat} {w : Nat → Int} {mk' : Nat → Int} {td : Nat → Int} {N : Nat} {T : Nat → List Int} {P : Nat → Int} {g : GG} (hx_ : RM b n w mk' td N T P g) : mk' = mkS T P N b n := hx_.2.2.2.1
theorem RM.et {b : Nat → Int} {n : Nat} {w : Nat → Int} {mk' : Nat → Int} {td : Nat → Int} {N : Nat} {T : Nat → List Int} {P : Nat → Int} {g : GG} (hx_ : RM b n w mk' td N T P g) : g 52 = td := hx_.2.2.2.2
section PUBM
variable {E : am_E} {g : GG} {fl : FF} {b : Nat → Int} {n : Nat} {w : Nat → Int} {mk' : Nat → Int} {td : Nat → Int} {N : Nat} {T : Nat → List Int} {P : Nat → Int} {Q : Int → GG → FF → Prop}
theorem RM.km {g' : GG} (h : RM b n w mk' td N T P g) (k : KM g g') : RM b n w mk' td N T P g' := ⟨h.rb.km k, k.bb h.eb, k.ww h.ew, h.em, k.tt h.et⟩
theorem RM.hwo (h : RM b n w mk' td N T P g) : waysOK w := h.rb.hwo h.ew
theorem RM.mk1 (h : RM b n w mk' td N T P g) (k : Nat) : -1 ≤ mk' k ∧ mk' k ≤ 60 := by rw [h.em]; exact mkS_in h.rb.lt k
theorem RM.hI (h : RM b n w mk' td N T P g) (hF : FA b n w mk' g) : HI (Sn b n w) (loS b n w) (hiS b n w) (heP b n w mk').1 := (hF.h0 h.rb.n60 (fun k _ => (h.mk1 k).1)).1
end PUBM
