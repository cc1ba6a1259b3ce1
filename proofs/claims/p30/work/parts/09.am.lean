/-! THE ABSTRACT MACHINE: the same bytecode over whole numbers (Int, kept in range), cells numbered from 0 on, and predicates of the end. am_X k s Q: from the state s of method k the machine comes to a return, and Q holds there. -/
abbrev am_V : Type := Int ⊕ (Option Nat ⊕ (UInt32 ⊕ Int64))
abbrev amI (x : Int) : am_V := Sum.inl x
abbrev amA (r : Option Nat) : am_V := Sum.inr (Sum.inl r)
abbrev amR (a : Nat) : am_V := Sum.inr (Sum.inl (some a))
abbrev amN : am_V := Sum.inr (Sum.inl none)
abbrev amF (x : UInt32) : am_V := Sum.inr (Sum.inr (Sum.inl x))
abbrev amL (x : Int64) : am_V := Sum.inr (Sum.inr (Sum.inr x))
/-- cells (their tag, their size), whole numbers, floats, references -/
abbrev am_M : Type := List (Nat × Nat) × (Nat → Nat → Int) × (Nat → Nat → UInt32) × (Nat → Nat → Option Nat)
def am_up {α : Type} (f : Nat → Nat → α) (a i : Nat) (v : α) : Nat → Nat → α := fun b => if b = a then (fun j => if j = i then v else f a j) else f b
def am_clr {α : Type} (f : Nat → Nat → α) (a : Nat) (d : α) : Nat → Nat → α := fun b => if b = a then (fun _ => d) else f b
abbrev am_Q : Type := Option am_V → am_M → Prop
abbrev am_LS : Type := List (Option am_V)
abbrev am_St : Type := Nat × (Nat × Nat) × am_LS × List am_V × am_M
abbrev am_P : Type := Nat → am_St → am_Q → Prop
abbrev am_E : Type := Nat → Nat × (Nat → Int)
abbrev am_rg (z : Int) : Prop := -2147483648 ≤ z ∧ z ≤ 2147483647
abbrev am_R : Type := am_St ⊕ ((Prop × am_St) ⊕ ((Prop × am_St × am_St) ⊕ ((Prop × Option am_V × am_M) ⊕ (Nat × am_St × (Option am_V → am_M → am_St)))))
abbrev amGo (s : am_St) : Option am_R := some (Sum.inl s)
abbrev amNd (c : Prop) (s : am_St) : Option am_R := some (Sum.inr (Sum.inl (c, s)))
abbrev amBr (c : Prop) (s1 s2 : am_St) : Option am_R := some (Sum.inr (Sum.inr (Sum.inl (c, s1, s2))))
abbrev amRt (c : Prop) (r : Option am_V) (m : am_M) : Option am_R := some (Sum.inr (Sum.inr (Sum.inr (Sum.inl (c, r, m)))))
abbrev amCl (k : Nat) (s : am_St) (co : Option am_V → am_M → am_St) : Option am_R := some (Sum.inr (Sum.inr (Sum.inr (Sum.inr (k, s, co)))))
def am_run (K : am_P) (k : Nat) (Q : am_Q) : Option am_R → Prop
  | none => False
  | some (.inl s) => K k s Q
  | some (.inr (.inl (c, s))) => c ∧ K k s Q
  | some (.inr (.inr (.inl (c, s1, s2)))) => (c → K k s1 Q) ∧ (¬ c → K k s2 Q)
  | some (.inr (.inr (.inr (.inl (c, r, m))))) => c ∧ Q r m
  | some (.inr (.inr (.inr (.inr (k', s', co))))) => K k' s' (fun r m => K k (co r m) Q)
def am_put : am_LS → Nat → Option am_V → am_LS
  | [], _, _ => []
  | _ :: l, 0, v => v :: l
  | x :: l, n + 1, v => x :: am_put l n v
def am_okp (ls : am_LS) : Nat → Bool
  | 0 => true
  | n + 1 => match am_nth ls n with
    | some (some (.inr (.inr (.inr _)))) => false
    | _ => true
def am_cat : am_V → Nat
  | .inr (.inr (.inr _)) => 2
  | _ => 1
def am_cats : List am_V → Nat
  | [] => 0
  | v :: l => am_cat v + am_cats l
def am_pop : Nat → List am_V → List am_V → Option (List am_V × List am_V)
  | 0, acc, st => some (acc, st)
  | n + 1, acc, v :: st => am_pop n (v :: acc) st
  | _ + 1, _, [] => none
def am_exp : List am_V → am_LS
  | [] => []
  | .inr (.inr (.inr x)) :: l => some (amL x) :: none :: am_exp l
  | v :: l => some v :: am_exp l
def am_args (vs : List am_V) (n : Nat) : am_LS := am_exp vs ++ List.replicate (n - (am_exp vs).length) none
def am_push (r : Option am_V) (st : List am_V) : List am_V := match r with
  | some v => v :: st
  | none => st
/-- a row of whole numbers: its length, its items -/
def am_arr (E : am_E) (m : am_M) (q : Nat) : Option (Nat × (Nat → Int)) :=
  match Nat.blt q 1000 with
  | true => (match am_nth m.1 q with
    | some (t, n) => (match Nat.beq t 10 with
      | true => some (n, m.2.1 q)
      | false => none)
    | none => none)
  | false => (match Nat.blt (q - 1000) 3 with
    | true => some (E (q - 1000))
    | false => none)
/-- a cell of the world with the tag t: its size -/
def am_tag (m : am_M) (q t : Nat) : Option Nat :=
  match Nat.blt q 1000 with
  | true => (match am_nth m.1 q with
    | some (t', n) => (match Nat.beq t' t with
      | true => some n
      | false => none)
    | none => none)
  | false => none
abbrev am_O : Type := am_E → Nat → Int → Nat → Nat × Nat → am_LS → List am_V → am_M → Option am_R
def am_oF : am_O := fun _ _ _ _ _ _ _ _ => none
def am_o0 : am_O := fun _ _ _ ip bd ls st m => amGo (ip + 1, bd, ls, amN :: st, m)
def am_o1 : am_O := fun _ _ b ip bd ls st m => amNd (am_rg b) (ip + 1, bd, ls, amI b :: st, m)
def am_o2 : am_O := fun _ _ b ip bd ls st m => amNd (-128 ≤ b ∧ b ≤ 127) (ip + 1, bd, ls, amI b :: st, m)
def am_o3 : am_O := fun _ _ b ip bd ls st m => amNd (-32768 ≤ b ∧ b ≤ 32767) (ip + 1, bd, ls, amI b :: st, m)
def am_o5 : am_O := fun _ _ _ ip bd ls st m => amGo (ip + 1, bd, ls, amF FP.fconst0 :: st, m)
def am_o6 : am_O := fun _ _ _ ip bd ls st m => amGo (ip + 1, bd, ls, amF FP.fconst1 :: st, m)
def am_o7 : am_O := fun _ _ _ ip bd ls st m => amGo (ip + 1, bd, ls, amF FP.fconst2 :: st, m)
def am_o8 : am_O := fun _ a _ ip bd ls st m => amGo (ip + 1, bd, ls, amF (UInt32.ofNat a) :: st, m)
def am_o9 : am_O := fun _ _ b ip bd ls st m => amGo (ip + 1, bd, ls, amL (Int64.ofInt b) :: st, m)
def am_o10 : am_O := fun _ a _ ip bd ls st m => match am_nth ls a with
  | some (some (.inl x)) => amGo (ip + 1, bd, ls, amI x :: st, m)
  | _ => none
def am_o11 : am_O := fun _ a _ ip bd ls st m => match am_nth ls a with
  | some (some (.inr (.inr (.inr x)))) => amGo (ip + 1, bd, ls, amL x :: st, m)
  | _ => none
def am_o12 : am_O := fun _ a _ ip bd ls st m => match am_nth ls a with
  | some (some (.inr (.inr (.inl x)))) => amGo (ip + 1, bd, ls, amF x :: st, m)
  | _ => none
def am_o13 : am_O := fun _ a _ ip bd ls st m => match am_nth ls a with
  | some (some (.inr (.inl r))) => amGo (ip + 1, bd, ls, amA r :: st, m)
  | _ => none
def am_o14 : am_O := fun _ a _ ip bd ls st m => match st with
  | .inl x :: st => (match am_okp ls a with
    | true => amGo (ip + 1, bd, am_put ls a (some (amI x)), st, m)
    | false => none)
  | _ => none
def am_o15 : am_O := fun _ a _ ip bd ls st m => match st with
  | .inr (.inr (.inr x)) :: st => (match am_okp ls a with
    | true => amGo (ip + 1, bd, am_put (am_put ls a (some (amL x))) (a + 1) none, st, m)
    | false => none)
  | _ => none
def am_o16 : am_O := fun _ a _ ip bd ls st m => match st with
  | .inr (.inr (.inl x)) :: st => (match am_okp ls a with
    | true => amGo (ip + 1, bd, am_put ls a (some (amF x)), st, m)
    | false => none)
  | _ => none
def am_o17 : am_O := fun _ a _ ip bd ls st m => match st with
  | .inr (.inl r) :: st => (match am_okp ls a with
    | true => amGo (ip + 1, bd, am_put ls a (some (amA r)), st, m)
    | false => none)
  | _ => none
def am_o18 : am_O := fun _ a b ip bd ls st m => match am_nth ls a with
  | some (some (.inl x)) => (match am_okp ls a with
    | true => amNd (am_rg (x + b)) (ip + 1, bd, am_put ls a (some (amI (x + b))), st, m)
    | false => none)
  | _ => none
def am_o19 : am_O := fun _ _ _ ip bd ls st m => match st with
  | .inl y :: .inl x :: st => amNd (am_rg (x + y)) (ip + 1, bd, ls, amI (x + y) :: st, m)
  | _ => none
def am_o20 : am_O := fun _ _ _ ip bd ls st m => match st with
  | .inl y :: .inl x :: st => amNd (am_rg (x - y)) (ip + 1, bd, ls, amI (x - y) :: st, m)
  | _ => none
def am_o21 : am_O := fun _ _ _ ip bd ls st m => match st with
  | .inl y :: .inl x :: st => amNd (am_rg (x * y)) (ip + 1, bd, ls, amI (x * y) :: st, m)
  | _ => none
def am_o22 : am_O := fun _ _ _ ip bd ls st m => match st with
  | .inl y :: .inl x :: st => amNd (0 ≤ x ∧ 0 < y) (ip + 1, bd, ls, amI (x / y) :: st, m)
  | _ => none
def am_o23 : am_O := fun _ _ _ ip bd ls st m => match st with
  | .inl y :: .inl x :: st => amNd (0 ≤ x ∧ 0 < y) (ip + 1, bd, ls, amI (x % y) :: st, m)
  | _ => none
def am_o24 : am_O := fun _ _ _ ip bd ls st m => match st with
  | .inl x :: st => amNd (am_rg (-x)) (ip + 1, bd, ls, amI (-x) :: st, m)
  | _ => none
def am_and (x y : Int) : Int := (Int32.ofInt x &&& Int32.ofInt y).toInt
def am_or (x y : Int) : Int := (Int32.ofInt x ||| Int32.ofInt y).toInt
def am_shl (x y : Int) : Int := (Int32.ofInt x <<< (Int32.ofInt y &&& 31)).toInt
def am_shr (x y : Int) : Int := (Int32.ofInt x >>> (Int32.ofInt y &&& 31)).toInt
def am_i2b (x : Int) : Int := (Int32.ofInt x).toInt8.toInt32.toInt
def am_i2l (x : Int) : Int64 := (Int32.ofInt x).toInt64
def am_i2f (x : Int) : UInt32 := FP.i2f (Int32.ofInt x)
def am_f2i (x : UInt32) : Int := (FP.f2i x).toInt
def am_lcm (x y : Int64) : Int := (lg_cmp x y).toInt
def am_fcm (op : CmpOp) (x y : UInt32) : Int := (Op.cmpValue (FP.fcmp x y) op).toInt
def am_o25 : am_O := fun _ _ _ ip bd ls st m => match st with
  | .inl y :: .inl x :: st => amGo (ip + 1, bd, ls, amI (am_and x y) :: st, m)
  | _ => none
def am_o26 : am_O := fun _ _ _ ip bd ls st m => match st with
  | .inl y :: .inl x :: st => amGo (ip + 1, bd, ls, amI (am_or x y) :: st, m)
  | _ => none
def am_o27 : am_O := fun _ _ _ ip bd ls st m => match st with
  | .inl y :: .inl x :: st => amGo (ip + 1, bd, ls, amI (am_shl x y) :: st, m)
  | _ => none
def am_o90 : am_O := fun _ _ _ ip bd ls st m => match st with
  | .inl y :: .inl x :: st => amGo (ip + 1, bd, ls, amI (am_shr x y) :: st, m)
  | _ => none
def am_o28 : am_O := fun _ _ _ ip bd ls st m => match st with
  | .inl x :: st => amGo (ip + 1, bd, ls, amI (am_i2b x) :: st, m)
  | _ => none
def am_o29 : am_O := fun _ _ _ ip bd ls st m => match st with
  | .inl x :: st => amGo (ip + 1, bd, ls, amL (am_i2l x) :: st, m)
  | _ => none
def am_o30 : am_O := fun _ _ _ ip bd ls st m => match st with
  | .inl x :: st => amGo (ip + 1, bd, ls, amF (am_i2f x) :: st, m)
  | _ => none
def am_o31 : am_O := fun _ _ _ ip bd ls st m => match st with
  | .inr (.inr (.inl x)) :: st => amGo (ip + 1, bd, ls, amI (am_f2i x) :: st, m)
  | _ => none
def am_o32 : am_O := fun _ _ _ ip bd ls st m => match st with
  | .inr (.inr (.inr y)) :: .inr (.inr (.inr x)) :: st => amGo (ip + 1, bd, ls, amL (x + y) :: st, m)
  | _ => none
def am_o33 : am_O := fun _ _ _ ip bd ls st m => match st with
  | .inr (.inr (.inr y)) :: .inr (.inr (.inr x)) :: st => amGo (ip + 1, bd, ls, amL (x * y) :: st, m)
  | _ => none
def am_o34 : am_O := fun _ _ _ ip bd ls st m => match st with
  | .inr (.inr (.inr y)) :: .inr (.inr (.inr x)) :: st => amGo (ip + 1, bd, ls, amI (am_lcm x y) :: st, m)
  | _ => none
def am_o35 : am_O := fun _ _ _ ip bd ls st m => match st with
  | .inr (.inr (.inl y)) :: .inr (.inr (.inl x)) :: st => amNd (vf_n32 (FP.fmul x y)) (ip + 1, bd, ls, amF (FP.fmul x y) :: st, m)
  | _ => none
def am_o36 : am_O := fun _ _ _ ip bd ls st m => match st with
  | .inr (.inr (.inl y)) :: .inr (.inr (.inl x)) :: st => amNd (vf_n32 (FP.fdiv x y)) (ip + 1, bd, ls, amF (FP.fdiv x y) :: st, m)
  | _ => none
def am_o37 : am_O := fun _ _ _ ip bd ls st m => match st with
  | .inr (.inr (.inl y)) :: .inr (.inr (.inl x)) :: st => amNd (vf_n32 (FP.fsub x y)) (ip + 1, bd, ls, amF (FP.fsub x y) :: st, m)
  | _ => none
def am_o38 : am_O := fun _ a _ ip bd ls st m => match st with
  | .inr (.inr (.inl y)) :: .inr (.inr (.inl x)) :: st => amGo (ip + 1, bd, ls, amI (am_fcm (if a = 0 then .l else .g) x y) :: st, m)
  | _ => none
def am_o39 : am_O := fun _ a _ _ bd ls st m => amGo (a, bd, ls, st, m)
def am_o40 : am_O := fun _ a _ ip bd ls st m => match st with
  | .inl x :: st => amBr (x = 0) (a, bd, ls, st, m) (ip + 1, bd, ls, st, m)
  | _ => none
def am_o41 : am_O := fun _ a _ ip bd ls st m => match st with
  | .inl x :: st => amBr (x = 0) (ip + 1, bd, ls, st, m) (a, bd, ls, st, m)
  | _ => none
def am_o42 : am_O := fun _ a _ ip bd ls st m => match st with
  | .inl x :: st => amBr (x < 0) (a, bd, ls, st, m) (ip + 1, bd, ls, st, m)
  | _ => none
def am_o43 : am_O := fun _ a _ ip bd ls st m => match st with
  | .inl x :: st => amBr (x < 0) (ip + 1, bd, ls, st, m) (a, bd, ls, st, m)
  | _ => none
def am_o44 : am_O := fun _ a _ ip bd ls st m => match st with
  | .inl x :: st => amBr (0 < x) (a, bd, ls, st, m) (ip + 1, bd, ls, st, m)
  | _ => none
def am_o45 : am_O := fun _ a _ ip bd ls st m => match st with
  | .inl x :: st => amBr (0 < x) (ip + 1, bd, ls, st, m) (a, bd, ls, st, m)
  | _ => none
def am_o46 : am_O := fun _ a _ ip bd ls st m => match st with
  | .inl y :: .inl x :: st => amBr (x = y) (a, bd, ls, st, m) (ip + 1, bd, ls, st, m)
  | _ => none
def am_o47 : am_O := fun _ a _ ip bd ls st m => match st with
  | .inl y :: .inl x :: st => amBr (x = y) (ip + 1, bd, ls, st, m) (a, bd, ls, st, m)
  | _ => none
def am_o48 : am_O := fun _ a _ ip bd ls st m => match st with
  | .inl y :: .inl x :: st => amBr (x < y) (a, bd, ls, st, m) (ip + 1, bd, ls, st, m)
  | _ => none
def am_o49 : am_O := fun _ a _ ip bd ls st m => match st with
  | .inl y :: .inl x :: st => amBr (x < y) (ip + 1, bd, ls, st, m) (a, bd, ls, st, m)
  | _ => none
def am_o50 : am_O := fun _ a _ ip bd ls st m => match st with
  | .inl y :: .inl x :: st => amBr (y < x) (a, bd, ls, st, m) (ip + 1, bd, ls, st, m)
  | _ => none
def am_o51 : am_O := fun _ a _ ip bd ls st m => match st with
  | .inl y :: .inl x :: st => amBr (y < x) (ip + 1, bd, ls, st, m) (a, bd, ls, st, m)
  | _ => none
def am_o52 : am_O := fun _ a _ ip bd ls st m => match st with
  | .inr (.inl r) :: st => (match r with
    | none => amGo (a, bd, ls, st, m)
    | some _ => amGo (ip + 1, bd, ls, st, m))
  | _ => none
def am_o53 : am_O := fun _ a _ ip bd ls st m => match st with
  | .inr (.inl r) :: st => (match r with
    | none => amGo (ip + 1, bd, ls, st, m)
    | some _ => amGo (a, bd, ls, st, m))
  | _ => none
def am_o54 : am_O := fun _ a _ _ bd ls st m => match st with
  | .inl x :: st => amGo (am_swt a x, bd, ls, st, m)
  | _ => none
def am_o55 : am_O := fun _ a b ip bd ls st m => match st with
  | .inr (.inl (some q)) :: st => (match am_tag m q a with
    | some _ => (match am_fk a b.toNat with
      | 1 => amGo (ip + 1, bd, ls, amA (m.2.2.2 q b.toNat) :: st, m)
      | _ => amGo (ip + 1, bd, ls, amI (m.2.1 q b.toNat) :: st, m))
    | none => none)
  | _ => none
def am_o57 : am_O := fun _ a b ip bd ls st m => match st with
  | .inl x :: .inr (.inl (some q)) :: st => (match am_tag m q a with
    | some _ => (match am_fk a b.toNat with
      | 0 => amGo (ip + 1, bd, ls, st, (m.1, am_up m.2.1 q b.toNat x, m.2.2.1, m.2.2.2))
      | 2 => amNd (x = 0 ∨ x = 1) (ip + 1, bd, ls, st, (m.1, am_up m.2.1 q b.toNat x, m.2.2.1, m.2.2.2))
      | _ => none)
    | none => none)
  | _ => none
def am_o59 : am_O := fun _ a b ip bd ls st m => match st with
  | .inr (.inl (some r)) :: .inr (.inl (some q)) :: st => (match am_tag m q a with
    | some _ => (match am_fk a b.toNat with
      | 1 => amGo (ip + 1, bd, ls, st, (m.1, m.2.1, m.2.2.1, am_up m.2.2.2 q b.toNat (some r)))
      | _ => none)
    | none => none)
  | _ => none
def am_o60 : am_O := fun _ a _ ip bd ls st m => amGo (ip + 1, bd, ls, amR (1000 + a) :: st, m)
def am_o61 : am_O := fun E _ _ ip bd ls st m => match st with
  | .inl j :: .inr (.inl (some q)) :: st => (match am_arr E m q with
    | some (n, f) => amNd (0 ≤ j ∧ j < n) (ip + 1, bd, ls, amI (f j.toNat) :: st, m)
    | none => none)
  | _ => none
def am_o62 : am_O := fun _ _ _ ip bd ls st m => match st with
  | .inl x :: .inl j :: .inr (.inl (some q)) :: st => (match am_tag m q 10 with
    | some n => amNd (0 ≤ j ∧ j < n) (ip + 1, bd, ls, st, (m.1, am_up m.2.1 q j.toNat x, m.2.2.1, m.2.2.2))
    | none => none)
  | _ => none
def am_o63 : am_O := fun _ _ _ ip bd ls st m => match st with
  | .inl j :: .inr (.inl (some q)) :: st => (match am_tag m q 11 with
    | some n => amNd (0 ≤ j ∧ j < n) (ip + 1, bd, ls, amI (m.2.1 q j.toNat) :: st, m)
    | none => none)
  | _ => none
def am_o64 : am_O := fun _ _ _ ip bd ls st m => match st with
  | .inl x :: .inl j :: .inr (.inl (some q)) :: st => (match am_tag m q 11 with
    | some n => amNd ((0 ≤ j ∧ j < n) ∧ (x = 0 ∨ x = 1)) (ip + 1, bd, ls, st, (m.1, am_up m.2.1 q j.toNat x, m.2.2.1, m.2.2.2))
    | none => none)
  | _ => none
def am_o65 : am_O := fun _ _ _ ip bd ls st m => match st with
  | .inl j :: .inr (.inl (some q)) :: st => (match am_tag m q 12 with
    | some n => amNd (0 ≤ j ∧ j < n) (ip + 1, bd, ls, amF (m.2.2.1 q j.toNat) :: st, m)
    | none => none)
  | _ => none
def am_o66 : am_O := fun _ _ _ ip bd ls st m => match st with
  | .inr (.inr (.inl x)) :: .inl j :: .inr (.inl (some q)) :: st => (match am_tag m q 12 with
    | some n => amNd (0 ≤ j ∧ j < n) (ip + 1, bd, ls, st, (m.1, m.2.1, am_up m.2.2.1 q j.toNat x, m.2.2.2))
    | none => none)
  | _ => none
def am_alen (E : am_E) (m : am_M) (q : Nat) : Option Nat :=
  match Nat.blt q 1000 with
  | true => (match am_nth m.1 q with
    | some (t, n) => (match Nat.ble 10 t && Nat.ble t 13 with
      | true => some n
      | false => none)
    | none => none)
  | false => (match Nat.blt (q - 1000) 3 with
    | true => some (E (q - 1000)).1
    | false => none)
def am_o67 : am_O := fun E _ _ ip bd ls st m => match st with
  | .inr (.inl (some q)) :: st => (match am_alen E m q with
    | some n => amNd (n < 2147483648) (ip + 1, bd, ls, amI n :: st, m)
    | none => none)
  | _ => none
def am_o68 : am_O := fun _ _ _ ip bd ls st m => match st with
  | .inl j :: .inr (.inl (some q)) :: st => (match am_tag m q 13 with
    | some n => amNd (0 ≤ j ∧ j < n) (ip + 1, bd, ls, amA (m.2.2.2 q j.toNat) :: st, m)
    | none => none)
  | _ => none
def am_o69 : am_O := fun _ _ _ ip bd ls st m => match st with
  | .inr (.inl (some r)) :: .inl j :: .inr (.inl (some q)) :: st => (match am_tag m q 13 with
    | some n => (match am_tag m r 2 with
      | some _ => amNd (0 ≤ j ∧ j < n) (ip + 1, bd, ls, st, (m.1, m.2.1, m.2.2.1, am_up m.2.2.2 q j.toNat (some r)))
      | none => none)
    | none => none)
  | _ => none
def am_fits (bd : Nat × Nat) (a : Nat) (st vs : List am_V) : Bool := Nat.ble (am_b1 a) bd.1 && (Nat.ble (am_b2 a) bd.2 && (Nat.ble (am_cats st) 8 && Nat.ble (am_exp vs).length (am_L a)))
def am_o70 : am_O := fun _ a _ ip bd ls st m => match am_pop (am_na a) [] st with
  | some (vs, st) => (match st with
    | .inr (.inl (some q)) :: st => (match am_tag m q (am_own a) with
      | some _ => (match am_fits bd a st (amR q :: vs) with
        | true => amCl a (0, am_bud a, am_args (amR q :: vs) (am_L a), [], m) (fun r m' => (ip + 1, (bd.1 - am_b1 a, bd.2 - am_b2 a), ls, am_push r st, m'))
        | false => none)
      | none => none)
    | _ => none)
  | none => none
def am_o72 : am_O := fun _ a _ ip bd ls st m => match am_pop (am_na a) [] st with
  | some (vs, st) => (match am_fits bd a st vs with
    | true => amCl a (0, am_bud a, am_args vs (am_L a), [], m) (fun r m' => (ip + 1, (bd.1 - am_b1 a, bd.2 - am_b2 a), ls, am_push r st, m'))
    | false => none)
  | none => none
def am_o74 : am_O := fun _ a _ ip bd ls st m => match am_pop (am_na a) [] st with
  | some (vs, st) => (match st with
    | .inr (.inl (some q)) :: st => (match am_fits bd a st (amR q :: vs) with
        | true => amCl a (0, am_bud a, am_args (amR q :: vs) (am_L a), [], m) (fun r m' => (ip + 1, (bd.1 - am_b1 a, bd.2 - am_b2 a), ls, am_push r st, m'))
        | false => none)
    | _ => none)
  | none => none
def am_o76 : am_O := fun _ _ _ ip bd ls st m => match st with
  | .inr (.inl (some _)) :: st => (match Nat.ble (am_cats st) 8 with
    | true => amGo (ip + 1, bd, ls, st, m)
    | false => none)
  | _ => none
def am_o77 : am_O := fun _ _ _ ip bd ls st m => match st with
  | .inl y :: .inl x :: st => (match Nat.ble (am_cats st) 8 with
    | true => amGo (ip + 1, bd, ls, amI (if y < x then y else x) :: st, m)
    | false => none)
  | _ => none
def am_o78 : am_O := fun _ _ _ ip bd ls st m => match st with
  | .inl y :: .inl x :: st => (match Nat.ble (am_cats st) 8 with
    | true => amGo (ip + 1, bd, ls, amI (if x < y then y else x) :: st, m)
    | false => none)
  | _ => none
def am_o79 : am_O := fun _ _ _ _ bd _ st m => match st with
  | [.inl x] => (match Nat.beq bd.1 0 with
    | true => amRt True (some (amI x)) m
    | false => none)
  | _ => none
def am_o80 : am_O := fun _ _ _ _ bd _ st m => match st with
  | [.inr (.inr (.inr x))] => (match Nat.beq bd.1 0 with
    | true => amRt True (some (amL x)) m
    | false => none)
  | _ => none
def am_o81 : am_O := fun _ _ _ _ bd _ st m => match st with
  | [.inr (.inr (.inl x))] => (match Nat.beq bd.1 0 with
    | true => amRt True (some (amF x)) m
    | false => none)
  | _ => none
def am_o82 : am_O := fun _ _ _ _ bd _ st m => match st with
  | [.inr (.inl r)] => (match Nat.beq bd.1 0 with
    | true => amRt True (some (amA r)) m
    | false => none)
  | _ => none
def am_o83 : am_O := fun _ _ _ _ bd _ st m => match st with
  | [] => (match Nat.beq bd.1 0 with
    | true => amRt True none m
    | false => none)
  | _ => none
def am_o84 : am_O := fun _ _ _ _ bd _ st m => match st with
  | [.inl x] => (match Nat.beq bd.1 0 with
    | true => amRt (x = 0 ∨ x = 1) (some (amI x)) m
    | false => none)
  | _ => none
def am_o85 : am_O := fun _ _ _ ip bd ls st m => match st with
  | v :: st => (match Nat.beq (am_cat v) 1 with
    | true => amGo (ip + 1, bd, ls, v :: v :: st, m)
    | false => none)
  | _ => none
def am_o86 : am_O := fun _ _ _ ip bd ls st m => match st with
  | v :: st => (match Nat.beq (am_cat v) 1 with
    | true => amGo (ip + 1, bd, ls, st, m)
    | false => none)
  | _ => none
def am_mk (m : am_M) (t n : Nat) : am_M := (m.1 ++ [(t, n)], am_clr m.2.1 m.1.length 0, am_clr m.2.2.1 m.1.length 0, am_clr m.2.2.2 m.1.length none)
def am_o87 : am_O := fun _ a _ ip bd ls st m => match Nat.ble 1 bd.1 && (Nat.ble (am_N a) bd.2 && Nat.blt m.1.length 999) with
  | true => amGo (ip + 1, (bd.1 - 1, bd.2 - am_N a), ls, amR m.1.length :: st, am_mk m a 0)
  | false => none
def am_o88 : am_O := fun _ a _ ip bd ls st m => match st with
  | .inl n :: st => (match Nat.ble 1 bd.1 && (Nat.ble n.toNat bd.2 && (Nat.blt m.1.length 999 && Nat.blt a 3)) with
    | true => amNd (0 ≤ n ∧ n ≤ 100000) (ip + 1, (bd.1 - 1, bd.2 - n.toNat), ls, amR m.1.length :: st, am_mk m (10 + a) n.toNat)
    | false => none)
  | _ => none
/-- the law's own return: what it may still make is left -/
def am_o89 : am_O := fun _ _ _ _ _ _ st m => match st with
  | [.inl x] => amRt (x = 0 ∨ x = 1) (some (amI x)) m
  | _ => none
def am_o91 : am_O := fun _ _ _ ip bd ls st m => match st with
  | .inl n :: st => (match Nat.ble 1 bd.1 && (Nat.ble n.toNat bd.2 && Nat.blt m.1.length 999) with
    | true => amNd (0 ≤ n ∧ n ≤ 100000) (ip + 1, (bd.1 - 1, bd.2 - n.toNat), ls, amR m.1.length :: st, am_mk m 13 n.toNat)
    | false => none)
  | _ => none
def am_ops : List am_O := [am_o0, am_o1, am_o2, am_o3, am_o1, am_o5, am_o6, am_o7, am_o8, am_o9, am_o10, am_o11, am_o12, am_o13, am_o14, am_o15, am_o16, am_o17, am_o18, am_o19, am_o20, am_o21, am_o22, am_o23, am_o24, am_o25, am_o26, am_o27, am_o28, am_o29, am_o30, am_o31, am_o32, am_o33, am_o34, am_o35, am_o36, am_o37, am_o38, am_o39, am_o40, am_o41, am_o42, am_o43, am_o44, am_o45, am_o46, am_o47, am_o48, am_o49, am_o50, am_o51, am_o52, am_o53, am_o54, am_o55, am_o55, am_o57, am_o57, am_o59, am_o60, am_o61, am_o62, am_oF, am_oF, am_o65, am_o66, am_o67, am_o68, am_o69, am_o70, am_o70, am_o72, am_o72, am_o74, am_o74, am_o76, am_o77, am_o78, am_o79, am_o80, am_o81, am_o82, am_o83, am_o84, am_o85, am_o86, am_o87, am_o88, am_o89, am_o90, am_o91]
def am_step (E : am_E) (K : am_P) (k : Nat) (s : am_St) (Q : am_Q) : Prop :=
  match am_row k s.1 with
  | some (_, op, a, b, _, _) => (match am_nth am_ops op with
    | some f => am_run K k Q (f E a b s.1 s.2.1 s.2.2.1 s.2.2.2.1 s.2.2.2.2)
    | none => False)
  | none => False
def am_mono (P : am_P) : Prop := ∀ (k : Nat) (s : am_St) (Q Q' : am_Q), (∀ r m, Q r m → Q' r m) → P k s Q → P k s Q'
/-- what is known of locals may be forgotten -/
def am_ref : am_LS → am_LS → Prop
  | [], [] => True
  | none :: l, _ :: l' => am_ref l l'
  | some v :: l, w :: l' => w = some v ∧ am_ref l l'
  | _, _ => False
def am_forg (P : am_P) : Prop := ∀ (k ip : Nat) (bd : Nat × Nat) (ls ls' : am_LS) (st : List am_V) (m : am_M) (Q : am_Q), am_ref ls ls' → P k (ip, bd, ls, st, m) Q → P k (ip, bd, ls', st, m) Q
def am_X (E : am_E) : am_P := fun k s Q => ∀ P : am_P, am_mono P → am_forg P → (∀ k s Q, am_step E P k s Q → P k s Q) → P k s Q
theorem am_run_K {K K' : am_P} (h : ∀ k s Q, K k s Q → K' k s Q) (hm : am_mono K') {k : Nat} {Q : am_Q} : ∀ {r : Option am_R}, am_run K k Q r → am_run K' k Q r
  | none, h0 => h0
  | some (.inl _), h0 => h _ _ _ h0
  | some (.inr (.inl _)), h0 => ⟨h0.1, h _ _ _ h0.2⟩
  | some (.inr (.inr (.inl _))), h0 => ⟨fun c => h _ _ _ (h0.1 c), fun c => h _ _ _ (h0.2 c)⟩
  | some (.inr (.inr (.inr (.inl _)))), h0 => h0
  | some (.inr (.inr (.inr (.inr _)))), h0 => hm _ _ _ _ (fun _ _ => h _ _ _) (h _ _ _ h0)
theorem am_run_Q {K : am_P} (hm : am_mono K) {k : Nat} {Q Q' : am_Q} (hQ : ∀ r m, Q r m → Q' r m) : ∀ {r : Option am_R}, am_run K k Q r → am_run K k Q' r
  | none, h0 => h0
  | some (.inl _), h0 => hm _ _ _ _ hQ h0
  | some (.inr (.inl _)), h0 => ⟨h0.1, hm _ _ _ _ hQ h0.2⟩
  | some (.inr (.inr (.inl _))), h0 => ⟨fun c => hm _ _ _ _ hQ (h0.1 c), fun c => hm _ _ _ _ hQ (h0.2 c)⟩
  | some (.inr (.inr (.inr (.inl _)))), h0 => ⟨h0.1, hQ _ _ h0.2⟩
  | some (.inr (.inr (.inr (.inr _)))), h0 => hm _ _ _ _ (fun _ _ => hm _ _ _ _ hQ) h0
theorem am_step_K {E : am_E} {K K' : am_P} (h : ∀ k s Q, K k s Q → K' k s Q) (hm : am_mono K') {k : Nat} {s : am_St} {Q : am_Q} (h0 : am_step E K k s Q) : am_step E K' k s Q := by
  unfold am_step at h0 ⊢
  split at h0
  · split at h0
    · exact am_run_K h hm h0
    · exact h0
  · exact h0
theorem am_step_Q {E : am_E} {K : am_P} (hm : am_mono K) : am_mono (am_step E K) := by
  intro k s Q Q' hQ h0
  unfold am_step at h0 ⊢
  split at h0
  · split at h0
    · exact am_run_Q hm hQ h0
    · exact h0
  · exact h0
theorem am_X_mono (E : am_E) : am_mono (am_X E) := fun _ _ _ _ hQ h P hm hf hc => hm _ _ _ _ hQ (h P hm hf hc)
theorem am_X_forg (E : am_E) : am_forg (am_X E) := fun _ _ _ _ _ _ _ _ hr h P hm hf hc => hf _ _ _ _ _ _ _ _ hr (h P hm hf hc)
theorem am_X_fold {E : am_E} {k : Nat} {s : am_St} {Q : am_Q} (h : am_step E (am_X E) k s Q) : am_X E k s Q :=
  fun P hm hf hc => hc _ _ _ (am_step_K (fun _ _ _ h => h P hm hf hc) hm h)
/-- n steps at once -/
def am_wp (E : am_E) (K : am_P) : Nat → am_P
  | 0 => K
  | n + 1 => fun k s Q => am_step E (am_wp E K n) k s Q
theorem am_wp_mono {E : am_E} {K : am_P} (hm : am_mono K) : ∀ n, am_mono (am_wp E K n)
  | 0 => hm
  | n + 1 => am_step_Q (am_wp_mono hm n)
theorem am_seg {E : am_E} : ∀ (n : Nat) {k : Nat} {s : am_St} {Q : am_Q}, am_wp E (am_X E) n k s Q → am_X E k s Q
  | 0, _, _, _, h => h
  | n + 1, _, _, _, h => am_X_fold (am_step_K (fun _ _ _ h => am_seg n h) (am_X_mono E) h)
