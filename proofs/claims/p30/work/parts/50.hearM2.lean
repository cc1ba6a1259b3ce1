/-! what is heard: the reference, on -/
def loS (b : Nat → Int) (n : Nat) (w : Nat → Int) : Nat → Nat := wlo (fs b n w) (wo b n w)
def hiS (b : Nat → Int) (n : Nat) (w : Nat → Int) : Nat → Nat := whi (fs b n w) (nc b n w) (wo b n w)
section HEARN
variable {E : am_E} {g : GG} {fl : FF} {b : Nat → Int} {n : Nat} {w : Nat → Int} {h : Nat → Int} {V : Nat}
theorem WL_cut (hn : n ≤ 60) : WL (Sn b n w) (loS b n w) (hiS b n w) := (WS_cut (mk' := fun _ => -1) hn (fun k _ => by omega)).wl
end HEARN
