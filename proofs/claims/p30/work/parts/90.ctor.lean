/-! the constructors -/
def UL : List (Nat × Nat × Nat) := [(0, 0, 1), (0, 1, 2), (0, 2, 3), (0, 3, 4), (0, 4, 5), (6, 0, 7), (6, 1, 8), (6, 2, 9), (0, 5, 6), (0, 6, 10), (11, 0, 12), (11, 1, 13), (11, 2, 14), (11, 3, 15), (11, 4, 16), (11, 5, 17), (11, 6, 18), (11, 7, 19), (11, 8, 20), (0, 7, 11), (21, 0, 22), (21, 1, 23), (21, 2, 24), (21, 3, 25), (21, 4, 26), (21, 5, 27), (21, 6, 28), (0, 8, 21), (29, 0, 30), (29, 1, 31), (29, 2, 32), (29, 3, 33), (29, 4, 34), (29, 5, 35), (29, 6, 36), (0, 9, 29), (37, 0, 38), (37, 1, 39), (10, 0, 37), (40, 0, 41), (40, 1, 42), (10, 1, 40), (43, 0, 44), (43, 1, 45), (10, 2, 43), (46, 0, 47), (46, 1, 48), (10, 3, 46)]
def VL : List (Nat × Nat × Int) := [(0, 15, 1), (0, 16, 1), (2, 0, 0), (2, 1, 1), (2, 2, 0), (2, 3, 0), (2, 4, 0), (2, 5, 0), (2, 6, 0), (2, 7, 0), (2, 8, 0), (37, 2, 1), (40, 2, 1), (43, 2, 1), (46, 2, 1)]
def rfU : Nat → Nat → Nat → Option Nat
  | 0 => fun _ _ => none
  | r + 1 => match am_nth UL r with
    | some (q, i, v) => am_up (rfU r) q i (some v)
    | none => rfU r
def gU : Nat → Nat → Nat → Int
  | 0 => fun _ _ => 0
  | l + 1 => match am_nth VL l with
    | some (q, i, v) => am_up (gU l) q i v
    | none => gU l
def f00 : FF := fun _ _ => 0
abbrev Mem (j r l : Nat) : am_M := (List.take j SH, gU l, f00, rfU r)
def okU : Nat → Nat → Bool
  | 0, _ => true
  | r + 1, j => (match am_nth UL r with
    | some (q, _, _) => Nat.blt q j
    | none => true) && okU r j
def okV : Nat → Nat → Bool
  | 0, _ => true
  | r + 1, j => (match am_nth VL r with
    | some (q, _, _) => Nat.blt q j
    | none => true) && okV r j
theorem rfU_none {j : Nat} : ∀ {r : Nat}, okU r j = true → ∀ i, rfU r j i = none
  | 0, _, _ => rfl
  | r + 1, h, i => by
    unfold okU at h
    obtain ⟨h1, h2⟩ := Bool.and_eq_true_iff.mp h
    have ih := rfU_none h2 i
    unfold rfU
    cases e : am_nth UL r with
    | none => exact ih
    | some t =>
      obtain ⟨q, i', v⟩ := t
      rw [e] at h1
      have hq : q < j := by simpa using h1
      show am_up (rfU r) q i' (some v) j i = none
      rw [up_cell (by omega)]; exact ih
theorem gU_none {j : Nat} : ∀ {r : Nat}, okV r j = true → ∀ i, gU r j i = 0
  | 0, _, _ => rfl
  | r + 1, h, i => by
    unfold okV at h
    obtain ⟨h1, h2⟩ := Bool.and_eq_true_iff.mp h
    have ih := gU_none h2 i
    unfold gU
    cases e : am_nth VL r with
    | none => exact ih
    | some t =>
      obtain ⟨q, i', v⟩ := t
      rw [e] at h1
      have hq : q < j := by simpa using h1
      show am_up (gU r) q i' v j i = 0
      rw [up_cell (by omega)]; exact ih
theorem clr_id {α : Type} {f : Nat → Nat → α} {j : Nat} {d : α} (h : ∀ i, f j i = d) : am_clr f j d = f := by
  funext a i
  unfold am_clr
  by_cases c : a = j
  · rw [if_pos c, c, h]
  · rw [if_neg c]
theorem mk_ok {j r l t n : Nat} (hl : (List.take j SH).length = j) (hs : List.take j SH ++ [(t, n)] = List.take (j + 1) SH) (hR : okU r j = true) (hG : okV l j = true) : am_mk (Mem j r l) t n = Mem (j + 1) r l := by
  show (List.take j SH ++ [(t, n)], am_clr (gU l) (List.take j SH).length 0, am_clr f00 (List.take j SH).length 0, am_clr (rfU r) (List.take j SH).length none) = _
  rw [hs, hl, clr_id (gU_none hG), clr_id (fun _ => rfl), clr_id (rfU_none hR)]
section CTOR
variable {E : am_E} {k ip : Nat} {bd bd2 : Nat × Nat} {ls : am_LS} {st st2 vs : List am_V} {Q : am_Q} {c : List am_Row} {pc op a cp pl : Nat} {b : Int} {j r l : Nat}
theorem y_new (hc : am_nth am_code k = some c) (hr : am_nth c ip = some (pc, 87, a, b, cp, pl)) (hb : (Nat.ble 1 bd.1 && (Nat.ble (am_N a) bd.2 && Nat.blt j 999)) = true) (hl : (List.take j SH).length = j) (hs : List.take j SH ++ [(a, 0)] = List.take (j + 1) SH) (hR : okU r j = true) (hG : okV l j = true) (h2 : (bd.1 - 1, bd.2 - am_N a) = bd2) (h : am_X E k (ip + 1, bd2, ls, amR j :: st, Mem (j + 1) r l) Q) : am_X E k (ip, bd, ls, st, Mem j r l) Q := by
  refine xf hc hr rfl ?_
  unfold am_o87
  rw [mk_ok hl hs hR hG, h2]
  show am_run _ _ _ (match Nat.ble 1 bd.1 && (Nat.ble (am_N a) bd.2 && Nat.blt (List.take j SH).length 999) with
    | true => amGo (ip + 1, bd2, ls, amR (List.take j SH).length :: st, Mem (j + 1) r l)
    | false => none)
  rw [hl, hb]
  exact h
theorem y_newa {n : Int} (hc : am_nth am_code k = some c) (hr : am_nth c ip = some (pc, 88, a, b, cp, pl)) (hb : (Nat.ble 1 bd.1 && (Nat.ble n.toNat bd.2 && (Nat.blt j 999 && Nat.blt a 3))) = true) (hn : 0 ≤ n ∧ n ≤ 100000) (hl : (List.take j SH).length = j) (hs : List.take j SH ++ [(10 + a, n.toNat)] = List.take (j + 1) SH) (hR : okU r j = true) (hG : okV l j = true) (h2 : (bd.1 - 1, bd.2 - n.toNat) = bd2) (h : am_X E k (ip + 1, bd2, ls, amR j :: st, Mem (j + 1) r l) Q) : am_X E k (ip, bd, ls, amI n :: st, Mem j r l) Q := by
  refine xf hc hr rfl ?_
  unfold am_o88
  show am_run _ _ _ (match Nat.ble 1 bd.1 && (Nat.ble n.toNat bd.2 && (Nat.blt (List.take j SH).length 999 && Nat.blt a 3)) with
    | true => amNd (0 ≤ n ∧ n ≤ 100000) (ip + 1, (bd.1 - 1, bd.2 - n.toNat), ls, amR (List.take j SH).length :: st, am_mk (Mem j r l) (10 + a) n.toNat)
    | false => none)
  rw [mk_ok hl hs hR hG, h2, hl, hb]
  exact ⟨hn, h⟩
theorem y_anewa {n : Int} (hc : am_nth am_code k = some c) (hr : am_nth c ip = some (pc, 91, a, b, cp, pl)) (hb : (Nat.ble 1 bd.1 && (Nat.ble n.toNat bd.2 && Nat.blt j 999)) = true) (hn : 0 ≤ n ∧ n ≤ 100000) (hl : (List.take j SH).length = j) (hs : List.take j SH ++ [(13, n.toNat)] = List.take (j + 1) SH) (hR : okU r j = true) (hG : okV l j = true) (h2 : (bd.1 - 1, bd.2 - n.toNat) = bd2) (h : am_X E k (ip + 1, bd2, ls, amR j :: st, Mem (j + 1) r l) Q) : am_X E k (ip, bd, ls, amI n :: st, Mem j r l) Q := by
  refine xf hc hr rfl ?_
  unfold am_o91
  show am_run _ _ _ (match Nat.ble 1 bd.1 && (Nat.ble n.toNat bd.2 && Nat.blt (List.take j SH).length 999) with
    | true => amNd (0 ≤ n ∧ n ≤ 100000) (ip + 1, (bd.1 - 1, bd.2 - n.toNat), ls, amR (List.take j SH).length :: st, am_mk (Mem j r l) 13 n.toNat)
    | false => none)
  rw [mk_ok hl hs hR hG, h2, hl, hb]
  exact ⟨hn, h⟩
theorem y_oinit {q : Nat} {m : am_M} (hc : am_nth am_code k = some c) (hr : am_nth c ip = some (pc, 76, a, b, cp, pl)) (hb : Nat.ble (am_cats st) 8 = true) (h : am_X E k (ip + 1, bd, ls, st, m) Q) : am_X E k (ip, bd, ls, amR q :: st, m) Q := xf hc hr rfl (by unfold am_o76; simp only [hb]; exact h)
theorem rfU_s {q i v : Nat} (hu : am_nth UL r = some (q, i, v)) : am_up (rfU r) q i (some v) = rfU (r + 1) := by
  show _ = (match am_nth UL r with
    | some (q, i, v) => am_up (rfU r) q i (some v)
    | none => rfU r)
  rw [hu]
theorem gU_s {q i : Nat} {v : Int} (hu : am_nth VL l = some (q, i, v)) : am_up (gU l) q i v = gU (l + 1) := by
  show _ = (match am_nth VL l with
    | some (q, i, v) => am_up (gU l) q i v
    | none => gU l)
  rw [hu]
theorem y_putA {q v n : Nat} (hc : am_nth am_code k = some c) (hr : am_nth c ip = some (pc, op, a, b, cp, pl)) (hf : am_nth am_ops op = some am_o59) (ht : am_tag (Mem j r l) q a = some n) (hk : am_fk a b.toNat = 1) (hu : am_nth UL r = some (q, b.toNat, v)) (h : am_X E k (ip + 1, bd, ls, st, Mem j (r + 1) l) Q) : am_X E k (ip, bd, ls, amR v :: amR q :: st, Mem j r l) Q := by
  refine xf hc hr hf ?_
  unfold am_o59
  simp only [ht]
  rw [hk]
  show am_X E k (ip + 1, bd, ls, st, (List.take j SH, gU l, f00, am_up (rfU r) q b.toNat (some v))) Q
  rw [rfU_s hu]; exact h
theorem y_putZ {q n : Nat} {x : Int} (hc : am_nth am_code k = some c) (hr : am_nth c ip = some (pc, op, a, b, cp, pl)) (hf : am_nth am_ops op = some am_o57) (ht : am_tag (Mem j r l) q a = some n) (hk : am_fk a b.toNat = 2) (hz : x = 0 ∨ x = 1) (hu : am_nth VL l = some (q, b.toNat, x)) (h : am_X E k (ip + 1, bd, ls, st, Mem j r (l + 1)) Q) : am_X E k (ip, bd, ls, amI x :: amR q :: st, Mem j r l) Q := by
  refine xf hc hr hf ?_
  unfold am_o57
  simp only [ht]
  rw [hk]
  refine ⟨hz, ?_⟩
  show am_X E k (ip + 1, bd, ls, st, (List.take j SH, am_up (gU l) q b.toNat x, f00, rfU r)) Q
  rw [gU_s hu]; exact h
theorem y_ias {q n : Nat} {x i : Int} (hc : am_nth am_code k = some c) (hr : am_nth c ip = some (pc, 62, a, b, cp, pl)) (ht : am_tag (Mem j r l) q 10 = some n) (hi : 0 ≤ i ∧ i < n) (hu : am_nth VL l = some (q, i.toNat, x)) (h : am_X E k (ip + 1, bd, ls, st, Mem j r (l + 1)) Q) : am_X E k (ip, bd, ls, amI x :: amI i :: amR q :: st, Mem j r l) Q := by
  refine xf hc hr rfl ?_
  unfold am_o62
  simp only [ht]
  refine ⟨hi, ?_⟩
  show am_X E k (ip + 1, bd, ls, st, (List.take j SH, am_up (gU l) q i.toNat x, f00, rfU r)) Q
  rw [gU_s hu]; exact h
theorem y_aas {q v n n2 : Nat} {i : Int} (hc : am_nth am_code k = some c) (hr : am_nth c ip = some (pc, 69, a, b, cp, pl)) (ht : am_tag (Mem j r l) q 13 = some n) (ht2 : am_tag (Mem j r l) v 2 = some n2) (hi : 0 ≤ i ∧ i < n) (hu : am_nth UL r = some (q, i.toNat, v)) (h : am_X E k (ip + 1, bd, ls, st, Mem j (r + 1) l) Q) : am_X E k (ip, bd, ls, amR v :: amI i :: amR q :: st, Mem j r l) Q := by
  refine xf hc hr rfl ?_
  unfold am_o69
  simp only [ht, ht2]
  refine ⟨hi, ?_⟩
  show am_X E k (ip + 1, bd, ls, st, (List.take j SH, gU l, f00, am_up (rfU r) q i.toNat (some v))) Q
  rw [rfU_s hu]; exact h
theorem y_ctor {q : Nat} {m : am_M} (hc : am_nth am_code k = some c) (hr : am_nth c ip = some (pc, op, a, b, cp, pl)) (hf : am_nth am_ops op = some am_o74) (hp : am_pop (am_na a) [] st = some (vs, amR q :: st2)) (hb : am_fits bd a st2 (amR q :: vs) = true) (h : am_X E a (0, am_bud a, am_args (amR q :: vs) (am_L a), [], m) (fun r m' => am_X E k (ip + 1, (bd.1 - am_b1 a, bd.2 - am_b2 a), ls, am_push r st2, m') Q)) : am_X E k (ip, bd, ls, st, m) Q := by
  refine xf hc hr hf ?_
  unfold am_o74
  simp only [hp, hb]
  exact h
theorem y_sc {m : am_M} (hc : am_nth am_code k = some c) (hr : am_nth c ip = some (pc, op, a, b, cp, pl)) (hf : am_nth am_ops op = some am_o72) (hp : am_pop (am_na a) [] st = some (vs, st2)) (hb : am_fits bd a st2 vs = true) (h : am_X E a (0, am_bud a, am_args vs (am_L a), [], m) (fun r m' => am_X E k (ip + 1, (bd.1 - am_b1 a, bd.2 - am_b2 a), ls, am_push r st2, m') Q)) : am_X E k (ip, bd, ls, st, m) Q := by
  refine xf hc hr hf ?_
  unfold am_o72
  simp only [hp, hb]
  exact h
theorem y_vret {m : am_M} (hc : am_nth am_code k = some c) (hr : am_nth c ip = some (pc, 83, a, b, cp, pl)) (hb : Nat.beq bd.1 0 = true) (h : Q none m) : am_X E k (ip, bd, ls, [], m) Q := xf hc hr rfl (by unfold am_o83; simp only [hb]; exact ⟨trivial, h⟩)
theorem y_iret {m : am_M} {x : Int} (hc : am_nth am_code k = some c) (hr : am_nth c ip = some (pc, 79, a, b, cp, pl)) (hb : Nat.beq bd.1 0 = true) (h : Q (some (amI x)) m) : am_X E k (ip, bd, ls, [amI x], m) Q := xf hc hr rfl (by unfold am_o79; simp only [hb]; exact ⟨trivial, h⟩)
theorem EW.least (hE : EW E) {k : Nat} (hk : k < 9) {v : Int} (h : (if k = 1 then 1 else 0) = v) : (E 0).2 k = v := by rw [hE.2.2.1 k hk]; exact h
theorem y_at {m : am_M} {i v : Int} (hE : EW E) (h1 : 0 ≤ i) (h2 : i < 9) (hv : (E 0).2 i.toNat = v) (h : Q (some (amI v)) m) : am_X E 28 (0, (0, 0), [some (amR 1000), some (amI i)], [], m) Q := by
  have hn := hE.1
  refine x_al cc28 rfl rfl (x_nullR cc28 rfl (x_il cc28 rfl rfl (x_lt cc28 rfl (fun c => absurd c (by omega)) (fun c => x_il cc28 rfl rfl (x_al cc28 rfl rfl (x_len (n := (E 0).1) cc28 rfl rfl (by omega) (x_ige cc28 rfl (fun c2 => ?_) (fun c2 => absurd (by omega) c2))))))))
  exact x_al cc28 rfl rfl (x_il cc28 rfl rfl (x_ial (v := v) (n := (E 0).1) (f := (E 0).2) cc28 rfl rfl hv (by omega) (x_goto cc28 rfl (y_iret cc28 rfl rfl h))))
theorem y_set {q n : Nat} {i v : Int} (ht : am_tag (Mem j r l) q 10 = some n) (hl : am_alen E (Mem j r l) q = some n) (hn : n < 2147483648) (hi : 0 ≤ i ∧ i < n) (hu : am_nth VL l = some (q, i.toNat, v)) (h : Q none (Mem j r (l + 1))) : am_X E 29 (0, (0, 0), [some (amR q), some (amI i), some (amI v)], [], Mem j r l) Q := by
  refine x_al cc29 rfl rfl (x_nullR cc29 rfl (x_il cc29 rfl rfl (x_lt cc29 rfl (fun c => absurd c (by omega)) (fun c => x_il cc29 rfl rfl (x_al cc29 rfl rfl (x_len (n := n) cc29 rfl hl hn (x_ige cc29 rfl (fun c2 => ?_) (fun c2 => absurd (by omega) c2))))))))
  exact x_al cc29 rfl rfl (x_il cc29 rfl rfl (x_il cc29 rfl rfl (y_ias cc29 rfl ht (by omega) hu (y_vret cc29 rfl rfl h))))
end CTOR
