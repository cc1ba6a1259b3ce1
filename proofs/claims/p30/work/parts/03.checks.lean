/-! what a row of the tables stands for, and that the tables are those of the machine's code (kernel) -/
def am_ld4 (n1 n2 : Instr) (a : Nat) : Option (Instr × Nat) := if a < 4 then some (n1, 1) else some (n2, 2)
def am_toI (op a : Nat) (b : Int) (cp : Nat) : Option (Instr × Nat) :=
  match op with
  | 0 => some (.aconst_null, 1)
  | 1 => some (.iconst b, 1)
  | 2 => some (.bipush b, 2)
  | 3 => some (.sipush b, 3)
  | 4 => if cp < 256 then some (.ldc cp, 2) else some (.ldc_w cp, 3)
  | 5 => some (.fconst 0, 1)
  | 6 => some (.fconst 1, 1)
  | 7 => some (.fconst 2, 1)
  | 8 => if cp < 256 then some (.ldc cp, 2) else some (.ldc_w cp, 3)
  | 9 => some (.ldc2_w cp, 3)
  | 10 => am_ld4 (.iload_n (Fin.ofNat 4 a)) (.iload a) a
  | 11 => am_ld4 (.lload_n (Fin.ofNat 4 a)) (.lload a) a
  | 12 => am_ld4 (.fload_n (Fin.ofNat 4 a)) (.fload a) a
  | 13 => am_ld4 (.aload_n (Fin.ofNat 4 a)) (.aload a) a
  | 14 => am_ld4 (.istore_n (Fin.ofNat 4 a)) (.istore a) a
  | 15 => am_ld4 (.lstore_n (Fin.ofNat 4 a)) (.lstore a) a
  | 16 => am_ld4 (.fstore_n (Fin.ofNat 4 a)) (.fstore a) a
  | 17 => am_ld4 (.astore_n (Fin.ofNat 4 a)) (.astore a) a
  | 18 => some (.iinc a b, 3)
  | 19 => some (.iadd, 1)
  | 20 => some (.isub, 1)
  | 21 => some (.imul, 1)
  | 22 => some (.idiv, 1)
  | 23 => some (.irem, 1)
  | 24 => some (.ineg, 1)
  | 25 => some (.iand, 1)
  | 26 => some (.ior, 1)
  | 27 => some (.ishl, 1)
  | 28 => some (.i2b, 1)
  | 29 => some (.i2l, 1)
  | 30 => some (.i2f, 1)
  | 31 => some (.f2i, 1)
  | 32 => some (.ladd, 1)
  | 33 => some (.lmul, 1)
  | 34 => some (.lcmp, 1)
  | 35 => some (.fmul, 1)
  | 36 => some (.fdiv, 1)
  | 37 => some (.fsub, 1)
  | 38 => if a = 0 then some (.fcmp .l, 1) else some (.fcmp .g, 1)
  | 39 => some (.goto b, 3)
  | 40 => some (.ifCond .eq b, 3)
  | 41 => some (.ifCond .ne b, 3)
  | 42 => some (.ifCond .lt b, 3)
  | 43 => some (.ifCond .ge b, 3)
  | 44 => some (.ifCond .gt b, 3)
  | 45 => some (.ifCond .le b, 3)
  | 46 => some (.if_icmp .eq b, 3)
  | 47 => some (.if_icmp .ne b, 3)
  | 48 => some (.if_icmp .lt b, 3)
  | 49 => some (.if_icmp .ge b, 3)
  | 50 => some (.if_icmp .gt b, 3)
  | 51 => some (.if_icmp .le b, 3)
  | 52 => some (.ifnull b, 3)
  | 53 => some (.ifnonnull b, 3)
  | 54 => match am_nth am_sws a with
    | some (lo, _, _, of, dd, ln) => some (.tableswitch dd lo (lo + of.length - 1) of.toArray, ln)
    | none => none
  | 55 => some (.getfield cp, 3)
  | 56 => some (.getfield cp, 3)
  | 57 => some (.putfield cp, 3)
  | 58 => some (.putfield cp, 3)
  | 59 => some (.putfield cp, 3)
  | 60 => some (.getstatic cp, 3)
  | 61 => some (.iaload, 1)
  | 62 => some (.iastore, 1)
  | 63 => some (.baload, 1)
  | 64 => some (.bastore, 1)
  | 65 => some (.faload, 1)
  | 66 => some (.fastore, 1)
  | 67 => some (.arraylength, 1)
  | 68 => some (.aaload, 1)
  | 69 => some (.aastore, 1)
  | 70 => some (.invokevirtual cp, 3)
  | 71 => some (.invokevirtual cp, 3)
  | 72 => some (.invokestatic cp, 3)
  | 73 => some (.invokestatic cp, 3)
  | 74 => some (.invokespecial cp, 3)
  | 75 => some (.invokespecial cp, 3)
  | 76 => some (.invokespecial cp, 3)
  | 77 => some (.invokestatic cp, 3)
  | 78 => some (.invokestatic cp, 3)
  | 79 => some (.ireturn, 1)
  | 80 => some (.lreturn, 1)
  | 81 => some (.freturn, 1)
  | 82 => some (.areturn, 1)
  | 83 => some (.return_, 1)
  | 84 => some (.ireturn, 1)
  | 85 => some (.dup, 1)
  | 86 => some (.pop, 1)
  | 87 => some (.new cp, 3)
  | 88 => if a = 0 then some (.newarray .int, 2) else if a = 1 then some (.newarray .int, 2) else some (.newarray .float, 2)
  | 89 => some (.ireturn, 1)
  | 90 => some (.ishr, 1)
  | 91 => some (.anewarray cp, 3)
  | _ => none
/-- the word of the tables that an instruction's link needs -/
def am_word (k op a : Nat) (b : Int) (cp : Nat) : Option Jvm.Cond :=
  match op with
  | 4 => some (.constant (am_cn (am_own k)) cp (Int32.ofInt b))
  | 8 => some (.constantFloat (am_cn (am_own k)) cp (UInt32.ofNat a))
  | 9 => some (.constantLong (am_cn (am_own k)) cp (Int64.ofInt b))
  | 55 => some (.fieldLink (am_cn (am_own k)) cp (am_cn a) (am_Tf a b.toNat).2.1 (am_Tf a b.toNat).2.2.1)
  | 56 => some (.fieldLinkNest (am_cn (am_own k)) cp (am_cn a) (am_Tf a b.toNat).2.1 (am_Tf a b.toNat).2.2.1 "BeatWords")
  | 57 => some (.fieldLink (am_cn (am_own k)) cp (am_cn a) (am_Tf a b.toNat).2.1 (am_Tf a b.toNat).2.2.1)
  | 58 => some (.fieldLinkNest (am_cn (am_own k)) cp (am_cn a) (am_Tf a b.toNat).2.1 (am_Tf a b.toNat).2.2.1 "BeatWords")
  | 59 => some (.fieldLink (am_cn (am_own k)) cp (am_cn a) (am_Tf a b.toNat).2.1 (am_Tf a b.toNat).2.2.1)
  | 60 => some (.fieldLink (am_cn (am_own k)) cp "BeatWords" (if a = 0 then "LEAST_WAYS" else "MOST_WAYS") "[I")
  | 70 => some (.methodLink (am_cn (am_own k)) cp (am_y a))
  | 71 => some (.methodLinkNest (am_cn (am_own k)) cp (am_y a) "BeatWords")
  | 72 => some (.methodLink (am_cn (am_own k)) cp (am_y a))
  | 73 => some (.methodLinkNest (am_cn (am_own k)) cp (am_y a) "BeatWords")
  | 74 => some (.methodLink (am_cn (am_own k)) cp (am_y a))
  | 75 => some (.methodLinkNest (am_cn (am_own k)) cp (am_y a) "BeatWords")
  | 76 => some (.methodLink (am_cn (am_own k)) cp Lib.objectInit)
  | 77 => some (.methodLink (am_cn (am_own k)) cp Lib.Math.min.name)
  | 78 => some (.methodLink (am_cn (am_own k)) cp Lib.Math.max.name)
  | 87 => some (.classLink (am_cn (am_own k)) cp (am_cn a))
  | 91 => some (.classLink (am_cn (am_own k)) cp (am_cn a))
  | _ => none
def am_len (op a : Nat) (b : Int) (cp : Nat) : Nat := match am_toI op a b cp with | some x => x.2 | none => 0
/-- all that must hold of a row beside its decoding and its link -/
def am_side (k op a : Nat) (b : Int) : Bool :=
  match op with
  | 14 => decide (a < am_L k)
  | 15 => decide (a + 1 < am_L k)
  | 16 => decide (a < am_L k)
  | 17 => decide (a < am_L k)
  | 18 => decide (a < am_L k)
  | 55 => decide (b.toNat < am_N a ∧ a < 6)
  | 56 => decide (b.toNat < am_N a ∧ a < 6)
  | 57 => decide (b.toNat < am_N a ∧ a < 6 ∧ (am_Tf a b.toNat).2.2.2 = false)
  | 58 => decide (b.toNat < am_N a ∧ a < 6 ∧ (am_Tf a b.toNat).2.2.2 = false)
  | 59 => decide (b.toNat < am_N a ∧ a < 6 ∧ (am_Tf a b.toNat).2.2.2 = true ∧ am_own k = a ∧ am_in k = true)
  | 60 => decide (a < 2)
  | 70 => decide (a < 180 ∧ am_st a = false ∧ am_in a = false ∧ am_fr a + 1 ≤ am_fr k ∧ 8 + (am_L a + 11) + am_lo a ≤ am_lo k)
  | 71 => decide (a < 180 ∧ am_st a = false ∧ am_in a = false ∧ am_fr a + 1 ≤ am_fr k ∧ 8 + (am_L a + 11) + am_lo a ≤ am_lo k)
  | 72 => decide (a < 180 ∧ am_st a = true ∧ am_own a = am_own k ∧ am_fr a + 1 ≤ am_fr k ∧ 8 + (am_L a + 11) + am_lo a ≤ am_lo k)
  | 73 => decide (a < 180 ∧ am_st a = true ∧ am_fr a + 1 ≤ am_fr k ∧ 8 + (am_L a + 11) + am_lo a ≤ am_lo k)
  | 74 => decide (a < 180 ∧ am_st a = false ∧ am_in a = true ∧ am_ret a = none ∧ am_fr a + 1 ≤ am_fr k ∧ 8 + (am_L a + 11) + am_lo a ≤ am_lo k)
  | 75 => decide (a < 180 ∧ am_st a = false ∧ am_in a = true ∧ am_ret a = none ∧ am_fr a + 1 ≤ am_fr k ∧ 8 + (am_L a + 11) + am_lo a ≤ am_lo k)
  | 76 => decide (1 ≤ am_fr k ∧ 21 ≤ am_lo k)
  | 77 => decide (1 ≤ am_fr k ∧ 21 ≤ am_lo k)
  | 78 => decide (1 ≤ am_fr k ∧ 21 ≤ am_lo k)
  | 79 => decide (am_ret k = some .int)
  | 80 => decide (am_ret k = some .long)
  | 81 => decide (am_ret k = some .float)
  | 82 => decide (am_ret k = some (.object "BeatWords$Sheet"))
  | 83 => decide (am_ret k = none)
  | 84 => decide (am_ret k = some .boolean)
  | 87 => decide (a < 6)
  | 89 => decide (am_ret k = some .boolean ∧ k = 180)
  | 91 => decide (a = 2)
  | _ => true
def am_pcl (c : List am_Row) (i : Nat) : Nat := match am_nth c i with | some r => r.1 | none => 0
def am_jump (c : List am_Row) (pc op a : Nat) (b : Int) : Bool :=
  if 39 ≤ op ∧ op ≤ 53 then decide ((pc : Int) + b = (am_pcl c a : Int))
  else if op = 54 then (match am_nth am_sws a with
    | some (_, tg, d, of, dd, _) => decide (tg.length = of.length ∧ (tg.map (fun t => (am_pcl c t : Int))) = of.map (fun o => (pc : Int) + o) ∧ (pc : Int) + dd = (am_pcl c d : Int))
    | none => false)
  else true
def am_term (op : Nat) : Bool := op == 39 || op == 54 || op == 89 || (79 ≤ op && op ≤ 84)
def am_rowOK (k : Nat) (c : List am_Row) (ip : Nat) (r : am_Row) : Bool :=
  match r with
  | (pc, op, a, b, cp, pl) =>
    (match am_toI op a b cp with
      | some il => decide (decode (am_b k) pc = .ok il)
      | none => false)
    && ((am_term op || decide (am_pcl c (ip + 1) = pc + am_len op a b cp))
    && (am_jump c pc op a b
    && ((match am_word k op a b cp with
      | some w => decide (am_nth lw_tbl pl = some w)
      | none => true)
    && am_side k op a b)))
def am_all (k : Nat) (c : List am_Row) : Nat → List am_Row → Bool
  | _, [] => true
  | ip, r :: l => am_rowOK k c ip r && am_all k c (ip + 1) l
