/-! the leaves: reading and writing a row with the index looked at, and pure questions -/
def rd (g : GG) (q n : Nat) (i : Int) : Int := if 0 ≤ i ∧ i < n then g q i.toNat else 0
def wr (g : GG) (q n : Nat) (i v : Int) : GG := if 0 ≤ i ∧ i < n then am_up g q i.toNat v else g
def rdE (E : am_E) (j : Nat) (i : Int) : Int := if 0 ≤ i ∧ i < (E j).1 then (E j).2 i.toNat else 0
abbrev isV (b : Int) : Prop := b = 97 ∨ b = 101 ∨ b = 105 ∨ b = 111 ∨ b = 117
section LEAF
variable {E : am_E} {g : GG} {fl : FF}
theorem at_gen {q n : Nat} {f : Nat → Int} {i : Int} {Q : Int → GG → FF → Prop} (ha : am_arr E (mk g fl) q = some (n, f)) (hl : am_alen E (mk g fl) q = some n) (hn : n < 2147483648) (h : Q (if 0 ≤ i ∧ i < n then f i.toNat else 0) g fl) : cI E 28 [amR q, amI i] g fl Q := by
  have hz : ¬ (0 ≤ i ∧ i < n) → am_X E 28 (12, (0, 0), [some (amR q), some (amI i)], [], mk g fl) (RI Q) := fun hc => by
    rw [if_neg hc] at h
    exact x_const cc28 rfl rfl (by decide) (x_iret cc28 rfl h)
  show am_X E 28 (0, (0, 0), [some (amR q), some (amI i)], [], mk g fl) (RI Q)
  refine x_al cc28 rfl rfl (x_nullR cc28 rfl (x_il cc28 rfl rfl (x_lt cc28 rfl (fun c => hz (by omega)) (fun c => x_il cc28 rfl rfl (x_al cc28 rfl rfl (x_len (n := n) cc28 rfl hl hn (x_ige cc28 rfl (fun c2 => ?_) (fun c2 => hz (by omega)))))))))
  rw [if_pos (by omega)] at h
  exact x_al cc28 rfl rfl (x_il cc28 rfl rfl (x_ial (v := f i.toNat) cc28 rfl ha rfl (by omega) (x_goto cc28 rfl (x_iret cc28 rfl h))))
theorem at_ok {q n : Nat} {i : Int} {Q : Int → GG → FF → Prop} (ha : am_arr E (mk g fl) q = some (n, g q)) (hl : am_alen E (mk g fl) q = some n) (hn : n < 2147483648) (h : Q (rd g q n i) g fl) : cI E 28 [amR q, amI i] g fl Q := at_gen ha hl hn h
theorem set_ok {q n : Nat} {i v : Int} {Q : GG → FF → Prop} (ht : am_tag (mk g fl) q 10 = some n) (hl : am_alen E (mk g fl) q = some n) (hn : n < 2147483648) (h : ∀ g2, g2 = wr g q n i v → Q g2 fl) : cV E 29 [amR q, amI i, amI v] g fl Q := by
  have h := h _ rfl
  have hz : ¬ (0 ≤ i ∧ i < n) → am_X E 29 (12, (0, 0), [some (amR q), some (amI i), some (amI v)], [], mk g fl) (RV Q) := fun hc => by
    rw [wr, if_neg hc] at h
    exact x_vret cc29 rfl h
  show am_X E 29 (0, (0, 0), [some (amR q), some (amI i), some (amI v)], [], mk g fl) (RV Q)
  refine x_al cc29 rfl rfl (x_nullR cc29 rfl (x_il cc29 rfl rfl (x_lt cc29 rfl (fun c => hz (by omega)) (fun c => x_il cc29 rfl rfl (x_al cc29 rfl rfl (x_len (n := n) cc29 rfl hl hn (x_ige cc29 rfl (fun c2 => ?_) (fun c2 => hz (by omega)))))))))
  rw [wr, if_pos (by omega)] at h
  exact x_al cc29 rfl rfl (x_il cc29 rfl rfl (x_il cc29 rfl rfl (x_ias (i := i.toNat) cc29 rfl ht rfl (by omega) (fun g2 e => by subst e; exact x_vret cc29 rfl h))))
end LEAF
