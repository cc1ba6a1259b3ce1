/-! what the law asks, as plain mathematics: what is heard -/
section LMH
theorem settle_nz {S V : Nat} {lo hi : Nat → Nat} {h : Nat → Int} (hh : HI S lo hi h) {s i : Nat} (hs : s < S) (hl : loose S V lo hi h s) (h0 : h i = 0) : settle lo hi h s (nx h S (s + 1)) i = 0 := by
  obtain ⟨⟨l1, l2, l3⟩, l4⟩ := hl
  obtain ⟨n1, n2, n3, n4⟩ := nx_ok (h := h) (S := S) (s := s + 1) (by omega)
  obtain ⟨t, ht⟩ : ∃ t, t = nx h S (s + 1) := ⟨_, rfl⟩
  rw [← ht] at l2 l3 l4 n1 n2 n3 n4 ⊢
  have n4 := n4 l2
  have vs := hh.v s hs
  have vt := hh.v t l2
  have z : ∀ k, fup h k 0 i = 0 := fun k => by
    by_cases c : i = k
    · rw [c, fup_at]
    · rw [fup_ne c]; exact h0
  have y : ∀ k a : Nat, h a = 1 → fup (fup h a 2) k 0 i = 0 := fun k a ha => by
    by_cases c : i = k
    · rw [c, fup_at]
    · rw [fup_ne c, fup_ne (fun e => by rw [e, ha] at h0; omega)]; exact h0
  unfold settle
  by_cases c1 : h s < h t ∨ (h s = 1 ∧ h t = 1)
  · rw [if_pos c1]; exact z s
  · rw [if_neg c1]
    by_cases c2 : h t < h s
    · rw [if_pos c2]; exact z t
    · rw [if_neg c2]
      by_cases c3 : ahF h (lo s) s ≠ -1
      · rw [if_pos c3]
        rcases ahF_ok (h := h) (l := lo s) s with ⟨a1, a2⟩ | ⟨a, a1, a2, a3, a4, a5⟩
        · exact absurd a1 c3
        · rw [a1, Int.toNat_natCast]; exact y s a a4
      · rw [if_neg c3]
        rcases bh_ok (h := h) (e := hi t) (s := t) with ⟨a1, a2⟩ | ⟨a, a1, a2, a3, a4, a5⟩
        · exact absurd ⟨by omega, by omega, by omega, a1⟩ l4
        · rw [a1, Int.toNat_natCast]; exact y t a a4
theorem hearF_nz {S V : Nat} {lo hi : Nat → Nat} (hw : WL S lo hi) {i : Nat} : ∀ (f : Nat) (h : Nat → Int) (m : Nat), HI S lo hi h → h i = 0 → (hearF S V lo hi f h m).1 i = 0
  | 0, h, m, hh, h0 => h0
  | f + 1, h, m, hh, h0 => by
    obtain ⟨a1, a2, a3⟩ := fLo_ok (S := S) (V := V) (lo := lo) (hi := hi) (h := h)
    unfold hearF
    by_cases c : fLo S V lo hi h 0 < S
    · rw [if_pos c]
      obtain ⟨b1, -⟩ := settle_ok hw hh c (a3 c)
      exact hearF_nz hw f _ _ b1 (settle_nz hh c (a3 c) h0)
    · rw [if_neg c]; exact h0
theorem ctB_none {p : Nat → Prop} [DecidablePred p] : ∀ {m : Nat}, ctB p m = 0 → ∀ s, s < m → ¬ p s
  | 0, _, s, hs => by omega
  | m + 1, h, s, hs => by
    rw [ctB_s] at h
    by_cases c : p m
    · rw [if_pos c] at h; omega
    · rw [if_neg c] at h
      by_cases y : s = m
      · rw [y]; exact c
      · exact ctB_none (m := m) (by omega) s (by omega)
theorem ctB_nil {p : Nat → Prop} [DecidablePred p] : ∀ {m : Nat}, (∀ s, s < m → ¬ p s) → ctB p m = 0
  | 0, _ => rfl
  | m + 1, h => by rw [ctB_s, if_neg (h m (by omega)), ctB_nil (fun s hs => h s (by omega))]
theorem ctB_all {p : Nat → Prop} [DecidablePred p] : ∀ {m : Nat}, (∀ s, s < m → p s) → ctB p m = m
  | 0, _ => rfl
  | m + 1, h => by rw [ctB_s, if_pos (h m (by omega)), ctB_all (fun s hs => h s (by omega))]
/-- between a and c nothing counts -/
theorem ctB_gap {p : Nat → Prop} [DecidablePred p] {a : Nat} : ∀ {c : Nat}, a ≤ c → (∀ s, a ≤ s → s < c → ¬ p s) → ctB p c = ctB p a
  | 0, h, _ => by rw [show a = 0 by omega]
  | c + 1, h, h2 => by
    by_cases y : a = c + 1
    · rw [y]
    · rw [ctB_s, if_neg (h2 c (by omega) (by omega)), ctB_gap (c := c) (by omega) (fun s z1 z2 => h2 s z1 (by omega))]
      rfl
variable {b : Nat → Int} {n : Nat} {w mk1 td : Nat → Int}
theorem he_ok (hn : n ≤ 60) (hm : ∀ k, k < Wn b n → -1 ≤ mk1 k) : HI (Sn b n w) (loS b n w) (hiS b n w) (heP b n w mk1).1 ∧ (∀ s, s < Sn b n w → ¬ loose (Sn b n w) (w 8).toNat (loS b n w) (hiS b n w) (heP b n w mk1).1 s) := by
  have hS := Sn_le (b := b) (w := w) hn
  have h1 := hearF_ok (V := (w 8).toNat) (WL_cut (b := b) (w := w) hn) 60 (btS b n w mk1) 0 (HI_bt hn hm) (by have := nzc_le (h := btS b n w mk1) (Sn b n w); omega)
  exact ⟨h1.1, h1.2.1⟩
theorem he_nz (hn : n ≤ 60) (hm : ∀ k, k < Wn b n → -1 ≤ mk1 k) {s : Nat} (h0 : btS b n w mk1 s = 0) : (heP b n w mk1).1 s = 0 :=
  hearF_nz (WL_cut hn) 60 _ 0 (HI_bt hn hm) h0
theorem he_mv (h0 : cbA b n w mk1 = 0) : (heP b n w mk1).2 = 0 := by
  have h1 := ctB_none h0
  obtain ⟨a1, a2, a3⟩ := fLo_ok (S := Sn b n w) (V := (w 8).toNat) (lo := loS b n w) (hi := hiS b n w) (h := btS b n w mk1)
  unfold heP
  show (if fLo (Sn b n w) (w 8).toNat (loS b n w) (hiS b n w) (btS b n w mk1) 0 < Sn b n w then _ else _ : (Nat → Int) × Nat).2 = 0
  rw [if_neg (fun c => h1 _ c (a3 c).1)]
theorem cb_0 (h8 : (w 8).toNat = 0) : cbA b n w mk1 = 0 := ctB_nil (fun s hs c => by
  obtain ⟨n1, -⟩ := nx_ok (h := btS b n w mk1) (S := Sn b n w) (s := s + 1) (by omega)
  have := c.2.2
  omega)
/-- a clash that is heard is stuck -/
theorem he_clash (hn : n ≤ 60) (hm : ∀ k, k < Wn b n → -1 ≤ mk1 k) {s t : Nat} (hs : s < Sn b n w) (hc : cl (Sn b n w) (w 8).toNat (heP b n w mk1).1 s) (ht : nx (heP b n w mk1).1 (Sn b n w) (s + 1) = t) :
    (heP b n w mk1).1 s = 2 ∧ (heP b n w mk1).1 t = 2 ∧ (∀ i, fs b n w (wo b n w s) ≤ i → i < s → (heP b n w mk1).1 i ≠ 1) ∧ (∀ i, t < i → i < fs b n w (wo b n w t) + nc b n w (wo b n w t) → (heP b n w mk1).1 i ≠ 1) ∧ wo b n w s ≠ wo b n w t := by
  obtain ⟨hI, hL⟩ := he_ok (w := w) hn hm
  have hl := hL s hs
  have hst : stk (loS b n w) (hiS b n w) (heP b n w mk1).1 s (nx (heP b n w mk1).1 (Sn b n w) (s + 1)) := by
    rcases Classical.em (stk (loS b n w) (hiS b n w) (heP b n w mk1).1 s (nx (heP b n w mk1).1 (Sn b n w) (s + 1))) with z | z
    · exact z
    · exact absurd ⟨hc, z⟩ hl
  obtain ⟨n1, n2, n3, n4⟩ := nx_ok (h := (heP b n w mk1).1) (S := Sn b n w) (s := s + 1) (by omega)
  have hc2 := hc.2.1
  rw [ht] at hst n1 hc2
  obtain ⟨s1, s2, s3, s4⟩ := hst
  refine ⟨s1, s2, fun i z1 z2 => ?_, fun i z1 z2 => ?_, fun e => ?_⟩
  · rcases ahF_ok (h := (heP b n w mk1).1) (l := loS b n w s) s with ⟨a1, a2⟩ | ⟨a, a1, a2, a3, a4, a5⟩
    · exact a2 i z1 z2
    · omega
  · rcases bh_ok (h := (heP b n w mk1).1) (e := hiS b n w t) (s := t) with ⟨a1, a2⟩ | ⟨a, a1, a2, a3, a4, a5⟩
    · exact a2 i z1 z2
    · omega
  · obtain ⟨o1, o2, o3, -⟩ := wo_ok (w := w) hn hs
    obtain ⟨p1, p2, p3, -⟩ := wo_ok (w := w) hn hc2
    have e1 : fs b n w (wo b n w s + 1) = fs b n w (wo b n w s) + nc b n w (wo b n w s) := rfl
    have := hI.u s s t hs o2 (by show s < fs b n w (wo b n w s) + nc b n w (wo b n w s); omega) (by show fs b n w (wo b n w s) ≤ t; omega) (by show t < fs b n w (wo b n w s) + nc b n w (wo b n w s); rw [← e1, e]; exact p3) s1 s2
    omega
/-- one main beat in each word -/
theorem main_w (hn : n ≤ 60) {h : Nat → Int} (hI : HI (Sn b n w) (loS b n w) (hiS b n w) h) {k : Nat} (hk : k < Wn b n) : ∃ m : Nat, fs b n w k ≤ m ∧ m < fs b n w k + nc b n w k ∧ h m = 2 ∧ ∀ s, fs b n w k ≤ s → s < fs b n w k + nc b n w k → h s = 2 → s = m := by
  have hWl := Wn_le (b := b) (n := n) hn
  have hz := (nc_word (w := w) hn hk).1
  have hin : fs b n w k + nc b n w k ≤ Sn b n w := by
    have : fs b n w (k + 1) ≤ fs b n w (Wn b n) := fs_mono (by omega)
    exact this
  obtain ⟨e1, -⟩ := wo_kj (b := b) (n := n) (w := w) (k := k) (j := 0) (by omega) hz
  have hlo : loS b n w (fs b n w k) = fs b n w k := by
    show fs b n w (wo b n w (fs b n w k)) = _
    rw [show wo b n w (fs b n w k) = k from e1]
  have hhi : hiS b n w (fs b n w k) = fs b n w k + nc b n w k := by
    show fs b n w (wo b n w (fs b n w k)) + nc b n w (wo b n w (fs b n w k)) = _
    rw [show wo b n w (fs b n w k) = k from e1]
  obtain ⟨m, m1, m2, m3⟩ := hI.e (fs b n w k) (by omega)
  rw [hlo] at m1
  rw [hhi] at m2
  exact ⟨m, m1, m2, m3, fun s z1 z2 z3 => hI.u (fs b n w k) s m (by omega) (by rw [hlo]; exact z1) (by rw [hhi]; exact z2) (by rw [hlo]; exact m1) (by rw [hhi]; exact m2) z3 m3⟩
theorem tw_none {h : Nat → Int} {p : Nat} : ∀ {l : Nat}, (∀ s, p ≤ s → s < p + l → h s ≠ 2) → tw h p l = -1
  | 0, _ => rfl
  | l + 1, h0 => by
    unfold tw
    rw [if_neg (h0 (p + l) (by omega) (by omega))]
    exact tw_none (fun s z1 z2 => h0 s z1 (by omega))
/-- how many main beats among the first j -/
def mcB (h : Nat → Int) (p j : Nat) : Int := if tw h p j = -1 then 0 else 1
theorem mcB_0 {h : Nat → Int} {p : Nat} : mcB h p 0 = 0 := rfl
theorem mcB_s {h : Nat → Int} {p j m : Nat} (hu : ∀ s, p ≤ s → s < p + j + 1 → h s = 2 → s = m) : mcB h p j + b01 (h (p + j) = 2) = mcB h p (j + 1) := by
  unfold mcB
  have e : tw h p (j + 1) = if h (p + j) = 2 then ((p + j : Nat) : Int) else tw h p j := rfl
  rw [e]
  by_cases c : h (p + j) = 2
  · have hm := hu (p + j) (by omega) (by omega) c
    rw [tw_none (p := p) (l := j) (fun s z1 z2 z3 => by have := hu s z1 (by omega) z3; omega), if_pos rfl, b01_t c, if_pos c, if_neg (by omega)]
    rfl
  · rw [if_neg c, b01_f c, Int.add_zero]
theorem mcB_1 {h : Nat → Int} {p j m : Nat} (h1 : p ≤ m) (h2 : m < p + j) (h3 : h m = 2) (hu : ∀ s, p ≤ s → s < p + j → h s = 2 → s = m) : mcB h p j = 1 := by
  unfold mcB
  rw [tw_of h1 h2 h3 hu, if_neg (by omega)]
theorem mcB_in {h : Nat → Int} {p j : Nat} : 0 ≤ mcB h p j ∧ mcB h p j ≤ 1 := by unfold mcB; split <;> omega
end LMH
