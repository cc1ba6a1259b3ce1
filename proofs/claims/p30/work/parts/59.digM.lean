/-! the reference's digest, mark, unmark -/
section DIGM
variable {E : am_E} {g : GG} {fl : FF} {b : Nat → Int} {n : Nat} {w : Nat → Int} {mk' : Nat → Int} {td : Nat → Int} {N : Nat} {T : Nat → List Int} {P : Nat → Int}
theorem dgF_s {f : Nat → Int} {k : Nat} {h : Int64} : dgF f (k + 1) h = dgI (dgF f k h) (f k) := rfl
end DIGM
