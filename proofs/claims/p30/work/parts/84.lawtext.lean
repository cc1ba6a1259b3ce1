/-! what the law asks, as plain mathematics: syllables, text, feet -/
section LMT
variable {b : Nat → Int} {n : Nat} {w mk1 td : Nat → Int} {h : Nat → Int}
theorem sy_kj {k j : Nat} (hk : k < 31) (hj : j < nc b n w k) : frS b n w (fs b n w k + j) = frK b n w k j ∧ toS b n w (fs b n w k + j) = toK b n w k j ∧ wo b n w (fs b n w k + j) = k ∧ jS b n w (fs b n w k + j) = j := by
  obtain ⟨e1, e2⟩ := wo_kj (b := b) (n := n) (w := w) hk hj
  unfold frS toS
  rw [e1, e2]
  exact ⟨rfl, rfl, rfl, rfl⟩
theorem fs_in (hn : n ≤ 60) {k j : Nat} (hk : k < Wn b n) (hj : j < nc b n w k) : fs b n w k + j < Sn b n w := by
  have : fs b n w (k + 1) ≤ fs b n w (Wn b n) := fs_mono (by omega)
  have e : fs b n w (k + 1) = fs b n w k + nc b n w k := rfl
  show _ < fs b n w (Wn b n)
  omega
/-- the bytes from one syllable to the next -/
theorem sy_adj (hn : n ≤ 60) {s : Nat} (hs : s + 1 < Sn b n w) : (wo b n w (s + 1) = wo b n w s ∧ frS b n w (s + 1) = toS b n w s) ∨ (wo b n w (s + 1) = wo b n w s + 1 ∧ frS b n w (s + 1) = toS b n w s + 1 ∧ b (toS b n w s) = 32) := by
  have hWl := Wn_le (b := b) (n := n) hn
  obtain ⟨o1, o2, o3, o4, o5⟩ := wo_ok (b := b) (w := w) hn (s := s) (by omega)
  generalize hk : wo b n w s = k at o1 o2 o3 o4 o5
  generalize hj : jS b n w s = j at o4 o5
  have et : toS b n w s = toK b n w k j := by show toK b n w (wo b n w s) (jS b n w s) = _; rw [hk, hj]
  by_cases c : j + 1 < nc b n w k
  · obtain ⟨f1, f2, f3, f4⟩ := sy_kj (b := b) (n := n) (w := w) (k := k) (by omega) c
    rw [show fs b n w k + (j + 1) = s + 1 by omega] at f1 f3
    refine Or.inl ⟨f3, ?_⟩
    rw [f1, et]
    unfold toK
    rw [if_neg (by omega)]
  · have e1 : fs b n w (k + 1) = fs b n w k + nc b n w k := rfl
    have hk1 : k + 1 < Wn b n := by
      rcases Nat.lt_or_ge (k + 1) (Wn b n) with z | z
      · exact z
      · have : fs b n w (k + 1) = Sn b n w := by
          have : k + 1 = Wn b n := by omega
          rw [this]; rfl
        omega
    obtain ⟨g1, g2, g3, g4, g5, g6, g7⟩ := word_in (b := b) hn o1
    have hz := (nc_word (w := w) hn hk1).1
    obtain ⟨f1, f2, f3, f4⟩ := sy_kj (b := b) (n := n) (w := w) (k := k + 1) (by omega) hz
    rw [show fs b n w (k + 1) + 0 = s + 1 by omega] at f1 f3
    have et2 : toS b n w s = wt b n k := by rw [et]; unfold toK; rw [if_pos (by omega)]
    refine Or.inr ⟨f3, ?_, ?_⟩
    · rw [f1, et2]; rfl
    · have h7 := g7 hk1
      rw [et2, wt_nb]
      rw [wt_nb] at h7
      exact nb_is (by omega) h7
theorem sy_first (hn : n ≤ 60) (hs : 0 < Sn b n w) : frS b n w 0 = 0 ∧ wo b n w 0 = 0 := by
  have hW : 0 < Wn b n := by
    rcases Nat.eq_zero_or_pos (Wn b n) with z | z
    · unfold Sn at hs; rw [z] at hs; exact absurd hs (by show ¬ 0 < 0; omega)
    · exact z
  have hz := (nc_word (w := w) hn hW).1
  obtain ⟨f1, f2, f3, f4⟩ := sy_kj (b := b) (n := n) (w := w) (k := 0) (by omega) hz
  exact ⟨f1, f3⟩
theorem sy_last (hn : n ≤ 60) (hf : flaw b n = -1) {s : Nat} (hs : s + 1 = Sn b n w) : toS b n w s = n ∧ wo b n w s + 1 = Wn b n := by
  have hWl := Wn_le (b := b) (n := n) hn
  obtain ⟨o1, o2, o3, o4, o5⟩ := wo_ok (b := b) (w := w) hn (s := s) (by omega)
  have e1 : fs b n w (wo b n w s + 1) = fs b n w (wo b n w s) + nc b n w (wo b n w s) := rfl
  have hk1 : wo b n w s + 1 = Wn b n := by
    rcases Nat.lt_or_ge (wo b n w s + 1) (Wn b n) with z | z
    · have hz := (nc_word (w := w) hn z).1
      have := fs_in (w := w) hn z hz
      omega
    · omega
  have hj : jS b n w s + 1 = nc b n w (wo b n w s) := by
    have : fs b n w (wo b n w s + 1) = Sn b n w := by rw [hk1]; rfl
    omega
  refine ⟨?_, hk1⟩
  show toK b n w (wo b n w s) (jS b n w s) = n
  unfold toK
  rw [if_pos hj, show wo b n w s = Wn b n - 1 by omega]
  exact (Wn_is hf hn).2.2
/-- in each syllable there is a vowel -/
theorem sy_vow (hn : n ≤ 60) {k j : Nat} (hk : k < Wn b n) (hj : j < nc b n w k) : ∃ i, frK b n w k j ≤ i ∧ i < toK b n w k j ∧ isV (b i) := by
  obtain ⟨f1, f2, f3, f4, f5, -, -⟩ := word_in (b := b) hn hk
  have h1 := (nc_word (w := w) hn hk).2.1 j hj
  have h2 := syl_in (w := w) hn hk hj
  exact ⟨npS b n w k j, h2.1, by omega, np_isV (by omega) j h1.1⟩
/-- where the j-th syllable of a word begins, or the word ends -/
def posK (b : Nat → Int) (n : Nat) (w : Nat → Int) (k j : Nat) : Nat := if j = nc b n w k then wt b n k else frK b n w k j
theorem posK_s {k j : Nat} : posK b n w k (j + 1) = toK b n w k j := rfl
theorem posK_0 {k : Nat} (h0 : 0 < nc b n w k) : posK b n w k 0 = wf b n k := by unfold posK; rw [if_neg (by omega)]; rfl
theorem posK_lt {k j : Nat} (hj : j < nc b n w k) : posK b n w k j = frK b n w k j := if_neg (by omega)
theorem posK_end {k : Nat} : posK b n w k (nc b n w k) = wt b n k := if_pos rfl
/-! feet -/
theorem ft_in (hn : n ≤ 60) {k : Nat} (hk : k < Wn b n) : 0 < ftW b n w k ∧ ftW b n w k ≤ nc b n w k := by
  have hz := (nc_word (w := w) hn hk).1
  obtain ⟨q1, q2⟩ := eKw_in (w := w) (p := fs b n w k) (z := nc b n w k) (by omega)
  unfold ftW
  refine ⟨?_, ?_⟩
  · rcases Nat.eq_zero_or_pos (cnt (stW (moS b n w) w (fs b n w k) (eKw w (fs b n w k) (nc b n w k))) (fs b n w k) (eKw w (fs b n w k) (nc b n w k) - fs b n w k)) with z | z
    · obtain ⟨s, s1, s2, s3⟩ := stW_some (mo := moS b n w) (w := w) q1
      have := cnt_0.1 z s s1 (by omega)
      omega
    · exact z
  · have := cnt_le (st := stW (moS b n w) w (fs b n w k) (eKw w (fs b n w k) (nc b n w k))) (p := fs b n w k) (eKw w (fs b n w k) (nc b n w k) - fs b n w k)
    omega
theorem cnt_mono {st : Nat → Nat} {p a : Nat} : ∀ {c : Nat}, a ≤ c → cnt st p a ≤ cnt st p c
  | 0, h => by rw [show a = 0 by omega]; exact Nat.le_refl _
  | c + 1, h => by
    by_cases y : a = c + 1
    · rw [y]; exact Nat.le_refl _
    · have := cnt_mono (st := st) (p := p) (a := a) (c := c) (by omega)
      rw [cnt_s]; omega
theorem fo_in {st : Nat → Nat} {p e s : Nat} (hf : FS st p e) : -1 ≤ fo st p s ∧ fo st p s ≤ (cnt st p (e - p) : Int) - 1 := by
  unfold fo
  by_cases c : 0 < st s ∨ (p < s ∧ st (s - 1) = 2)
  · rw [if_pos c]
    have hse : s < e := by
      rcases c with c | ⟨c1, c2⟩
      · have := hf.inn s c; omega
      · have := hf.inn (s - 1) (by omega); omega
    have := cnt_mono (st := st) (p := p) (a := s + 1 - p) (c := e - p) (by omega)
    omega
  · rw [if_neg c]; omega
theorem ftS_in (hn : n ≤ 60) {k s : Nat} (hk : k < Wn b n) (hs : wo b n w s = k) : -1 ≤ ftS b n w s ∧ ftS b n w s ≤ (ftW b n w k : Int) - 1 := by
  have hz := (nc_word (w := w) hn hk).1
  obtain ⟨q1, q2⟩ := eKw_in (w := w) (p := fs b n w k) (z := nc b n w k) (by omega)
  unfold ftS ftW
  rw [hs]
  exact fo_in (stW_fs q1)
/-! the text -/
def mkB (c : Int) : Bool := decide (c = 39 ∨ c = 44 ∨ c = 46)
def btB (c : Int) : Bool := decide (c = 39 ∨ c = 44)
def unm (L : List Int) : List Int := L.filter (fun c => !mkB c)
def btC (L : List Int) : Nat := L.countP btB
theorem tx_app {r : Nat → Int} {a l : Nat} : ∀ m, tx r a l ++ tx r (a + l) m = tx r a (l + m)
  | 0 => by show _ ++ [] = _; rw [List.append_nil]; rfl
  | m + 1 => by
    rw [tx_snoc, ← List.append_assoc, tx_app m, ← Nat.add_assoc l m 1, tx_snoc, Nat.add_assoc]
theorem tx_plain {r : Nat → Int} {a : Nat} : ∀ {l : Nat}, (∀ i, a ≤ i → i < a + l → r i = 32 ∨ (97 ≤ r i ∧ r i ≤ 122)) → unm (tx r a l) = tx r a l ∧ btC (tx r a l) = 0
  | 0, _ => ⟨rfl, rfl⟩
  | l + 1, h => by
    obtain ⟨h1, h2⟩ := tx_plain (r := r) (a := a) (l := l) (fun i z1 z2 => h i z1 (by omega))
    have h3 := h (a + l) (by omega) (by omega)
    have m1 : mkB (r (a + l)) = false := decide_eq_false (by omega)
    have m2 : btB (r (a + l)) = false := decide_eq_false (by omega)
    unfold unm at h1 ⊢
    unfold btC at h2 ⊢
    rw [tx_snoc, List.filter_append, List.countP_append, h1, h2]
    exact ⟨by simp [m1], by simp [m2]⟩
theorem unm_app {L M : List Int} : unm (L ++ M) = unm L ++ unm M := List.filter_append ..
theorem btC_app {L M : List Int} : btC (L ++ M) = btC L + btC M := List.countP_append
theorem bm_ok {s : Nat} (hv : 0 ≤ h s) : unm (bmS h s) = [] ∧ btC (bmS h s) = (if h s ≠ 0 then 1 else 0) ∧ (bmS h s).length = (if h s ≠ 0 then 1 else 0) := by
  unfold bmS
  by_cases c : 0 < h s
  · have c3 : h s ≠ 0 := by omega
    simp only [if_pos c, if_pos c3]
    by_cases c2 : h s = 2
    · rw [if_pos c2]; exact ⟨rfl, rfl, rfl⟩
    · rw [if_neg c2]; exact ⟨rfl, rfl, rfl⟩
  · have c3 : ¬ h s ≠ 0 := by omega
    simp only [if_neg c, if_neg c3]
    exact ⟨rfl, rfl, rfl⟩
theorem txA_law (hn : n ≤ 60) (hf : flaw b n = -1) (hwo : waysOK w) (hv : ∀ s, s < Sn b n w → 0 ≤ h s) : ∀ s, s < Sn b n w → unm (txA b n w h (s + 1)) = tx b 0 (toS b n w s) ∧ btC (txA b n w h (s + 1)) = ctB (fun s => h s ≠ 0) (s + 1) ∧ (txA b n w h (s + 1)).length + wo b n w s = toS b n w s + ctB (fun s => h s ≠ 0) (s + 1) + s := by
  have hpl := flF_none (b := b) (n := n) n 0 false (by omega) hf
  intro s
  induction s with
  | zero =>
    intro hs
    obtain ⟨f1, f2⟩ := sy_first (w := w) hn hs
    have hm := mo_S hn hwo (b := b) (w := w) hs
    obtain ⟨t1, t2⟩ := tx_plain (r := b) (a := frS b n w 0) (l := toS b n w 0 - frS b n w 0) (fun i z1 z2 => hpl i (by omega) (by omega))
    obtain ⟨b1, b2, b3⟩ := bm_ok (h := h) (s := 0) (hv 0 hs)
    have e : txA b n w h (0 + 1) = [] ++ [] ++ bmS h 0 ++ tx b (frS b n w 0) (toS b n w 0 - frS b n w 0) := rfl
    rw [e, ctB_s, List.nil_append, List.nil_append, unm_app, btC_app, List.length_append, t1, t2, b1, b2, b3, tx_len, f1, f2]
    exact ⟨rfl, by show _ + 0 = 0 + _; omega, by show _ + (toS b n w 0 - 0) + 0 = toS b n w 0 + (0 + _) + 0; omega⟩
  | succ s ih =>
    intro hs
    obtain ⟨i1, i2, i3⟩ := ih (by omega)
    have hm := mo_S hn hwo (b := b) (w := w) hs
    have hm0 := mo_S hn hwo (b := b) (w := w) (s := s) (by omega)
    obtain ⟨t1, t2⟩ := tx_plain (r := b) (a := frS b n w (s + 1)) (l := toS b n w (s + 1) - frS b n w (s + 1)) (fun i z1 z2 => hpl i (by omega) (by omega))
    obtain ⟨b1, b2, b3⟩ := bm_ok (h := h) (s := s + 1) (hv _ hs)
    have e : txA b n w h (s + 1 + 1) = txA b n w h (s + 1) ++ prS b n w (s + 1) ++ bmS h (s + 1) ++ tx b (frS b n w (s + 1)) (toS b n w (s + 1) - frS b n w (s + 1)) := rfl
    rw [e, ctB_s (n := s + 1), unm_app, unm_app, unm_app, btC_app, btC_app, btC_app, List.length_append, List.length_append, List.length_append, t1, t2, b1, b2, b3, tx_len, i1, i2, List.append_nil]
    have ep : prS b n w (s + 1) = if wo b n w (s + 1) = wo b n w s then [46] else [32] := rfl
    rcases sy_adj (w := w) hn hs with ⟨a1, a2⟩ | ⟨a1, a2, a3⟩
    · rw [ep, if_pos a1]
      refine ⟨?_, by show _ + 0 + _ + 0 = _; omega, by show _ + 1 + _ + _ + _ = _; omega⟩
      show tx b 0 (toS b n w s) ++ [] ++ _ = _
      rw [List.append_nil, a2]
      have := tx_app (r := b) (a := 0) (l := toS b n w s) (toS b n w (s + 1) - toS b n w s)
      rw [Nat.zero_add] at this
      rw [this]
      congr 1
      omega
    · rw [ep, if_neg (by omega)]
      refine ⟨?_, by show _ + 0 + _ + 0 = _; omega, by show _ + 1 + _ + _ + _ = _; omega⟩
      show tx b 0 (toS b n w s) ++ [32] ++ _ = _
      have h2 := tx_snoc (r := b) (p := 0) (l := toS b n w s)
      rw [Nat.zero_add, a3] at h2
      rw [← h2, a2]
      have := tx_app (r := b) (a := 0) (l := toS b n w s + 1) (toS b n w (s + 1) - (toS b n w s + 1))
      rw [Nat.zero_add] at this
      rw [this]
      congr 1
      omega
theorem txL_law (hn : n ≤ 60) (hf : flaw b n = -1) (hwo : waysOK w) (hm : ∀ k, k < Wn b n → -1 ≤ mk1 k) (hS : 0 < Sn b n w) : unm (txL b n w mk1) = tx b 0 n ∧ btC (txL b n w mk1) = hnA b n w mk1 ∧ (txL b n w mk1).length + Wn b n = n + hnA b n w mk1 + Sn b n w := by
  obtain ⟨s, hs⟩ : ∃ s, s + 1 = Sn b n w := ⟨Sn b n w - 1, by omega⟩
  obtain ⟨l1, l2⟩ := sy_last (w := w) hn hf hs
  obtain ⟨i1, i2, i3⟩ := txA_law (h := (heP b n w mk1).1) hn hf hwo (fun s hs => ((he_ok (w := w) hn hm).1.v s hs).1) s (by omega)
  rw [l1] at i1 i3
  rw [hs] at i1 i2 i3
  exact ⟨i1, i2, by show (txA b n w (heP b n w mk1).1 (Sn b n w)).length + _ = n + ctB (fun s => (heP b n w mk1).1 s ≠ 0) (Sn b n w) + _; omega⟩
theorem getD_lt {L : List Int} {i : Nat} (hi : i < L.length) : L.getD i 0 = L[i] := by
  show (L[i]?).getD 0 = L[i]
  rw [List.getElem?_eq_getElem hi]; rfl
theorem unm_at {L : List Int} {i : Nat} (hi : i < L.length) (hc : mkB (L.getD i 0) = false) {r : Nat → Int} {m : Nat} (hL : unm L = tx r 0 m) : (unm (L.take i)).length < m ∧ L.getD i 0 = r (unm (L.take i)).length := by
  have e : L = L.take i ++ L.getD i 0 :: L.drop (i + 1) := by
    rw [getD_lt hi, ← List.drop_eq_getElem_cons hi, List.take_append_drop]
  have e2 : unm L = unm (L.take i) ++ L.getD i 0 :: unm (L.drop (i + 1)) := by
    have h1 : unm L = unm (L.take i ++ L.getD i 0 :: L.drop (i + 1)) := congrArg unm e
    rw [h1, unm_app]
    congr 1
    unfold unm
    rw [List.filter_cons_of_pos (by rw [hc]; rfl)]
  rw [hL] at e2
  have e3 : (tx r 0 m).length = (unm (L.take i) ++ L.getD i 0 :: unm (L.drop (i + 1))).length := congrArg List.length e2
  rw [tx_len, List.length_append, List.length_cons] at e3
  have hlt : (unm (L.take i)).length < m := by omega
  refine ⟨hlt, ?_⟩
  have e4 : (tx r 0 m)[(unm (L.take i)).length]? = (unm (L.take i) ++ L.getD i 0 :: unm (L.drop (i + 1)))[(unm (L.take i)).length]? := by rw [e2]
  rw [List.getElem?_append_right (Nat.le_refl _), Nat.sub_self, List.getElem?_cons_zero] at e4
  have e5 : (tx r 0 m)[(unm (L.take i)).length]? = some (r (unm (L.take i)).length) := by
    unfold tx
    rw [List.getElem?_map, List.getElem?_range hlt, Option.map_some, Nat.zero_add]
  rw [e5] at e4
  exact (Option.some.inj e4).symm
theorem take_s {L : List Int} {i : Nat} (hi : i < L.length) : L.take (i + 1) = L.take i ++ [L.getD i 0] := by
  rw [getD_lt hi]
  exact List.take_succ_eq_append_getElem hi
theorem unm_s {L : List Int} {i : Nat} (hi : i < L.length) : (unm (L.take (i + 1))).length = (unm (L.take i)).length + (if mkB (L.getD i 0) = true then 0 else 1) := by
  rw [take_s hi, unm_app, List.length_append]
  generalize L.getD i 0 = x
  congr 1
  unfold unm
  cases c : mkB x <;> simp [c]
theorem btC_s {L : List Int} {i : Nat} (hi : i < L.length) : btC (L.take (i + 1)) = btC (L.take i) + (if btB (L.getD i 0) = true then 1 else 0) := by
  rw [take_s hi, btC_app]
  generalize L.getD i 0 = x
  congr 1
  unfold btC
  cases c : btB x <;> simp [c]
end LMT
