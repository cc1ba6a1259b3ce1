/-! the reference's answers of words, syllables, clashes, what is heard -/
section READM
variable {E : am_E} {g : GG} {fl : FF} {b : Nat → Int} {n : Nat} {w : Nat → Int} {mk' : Nat → Int} {td : Nat → Int} {N : Nat} {T : Nat → List Int} {P : Nat → Int} {Q : Int → GG → FF → Prop}
theorem RB.hwo (h : RB n N T P g) (hw : w = g 51) : waysOK w := by rw [hw]; exact h.ok
theorem twoOf_ok (hn : n ≤ 60) (hX : MX b n w g) {q : Nat} (hq : q = 66 ∨ q = 67) {h : Nat → Int} {k : Nat} {v2 : Int} (h2 : v2 = k) (hk : k < Wn b n) (hh : ∀ s, s < Sn b n w → g q s = h s) (h1 : Q (tw h (fs b n w k) (nc b n w k)) g fl) : cI E 132 [amR 49, amR q, amI v2] g fl Q := by
  have hWl := Wn_le (b := b) (n := n) hn
  have hSl := Sn_le (b := b) (w := w) hn
  have hfm : fs b n w (k + 1) ≤ fs b n w (Wn b n) := fs_mono (by omega)
  have hSn : Sn b n w = fs b n w (Wn b n) := rfl
  have hfs1 : fs b n w (k + 1) = fs b n w k + nc b n w k := rfl
  have e1 : g 55 (Int.toNat v2) = fs b n w k := by rw [toNat_eq h2]; exact hX.c.wF k (by omega)
  have e2 : g 55 (Int.toNat (v2 + 1)) = fs b n w (k + 1) := by rw [toNat_eq (x := v2 + 1) (k := k + 1) (by omega)]; exact hX.c.wF (k + 1) (by omega)
  have key : ∀ (f l : Nat) (v3 v4 : Int), l + f = nc b n w k → v4 = (fs b n w k + l : Nat) → v3 = tw h (fs b n w k) l → am_X E 132 (7, (0, 0), [some (amR 49), some (amR q), some (amI v2), some (amI v3), some (amI v4)], [], mk g fl) (RI Q) := by
    intro f
    induction f with
    | zero =>
      intro l v3 v4 hl h4 h3
      have : l = nc b n w k := by omega
      subst this
      exact b132_7 hq ⟨rgI (by omega) (by omega), by omega, fun c => absurd c (by omega), fun _ => by rw [h3]; exact h1⟩
    | succ f ih =>
      intro l v3 v4 hl h4 h3
      refine b132_7 hq ⟨rgI (by omega) (by omega), by omega, fun _ => ⟨by omega, rgI (by omega) (by omega), ih (l + 1) _ _ (by omega) (by omega) ?_⟩, fun c => absurd (by omega) c⟩
      rw [toNat_eq h4, hh _ (by omega), h4, h3]; rfl
  refine b132 hq ⟨by omega, ?_⟩
  rw [e1]
  exact key (nc b n w k) 0 _ _ (by omega) rfl rfl
theorem wordBy_ok (hn : n ≤ 60) (hb : b = nz (g 50) n) (hL : LX 63 64 65 49 19 N T P g) (hT : LT N T P) (hm : mk' = mkS T P N b n) (hF : FA b n w mk' g) {k : Nat} {v1 v2 : Int} (hv1 : v1 = k) (hk : k < Wn b n) (hv2 : 0 ≤ v2 ∧ v2 ≤ 5) (h1 : Q (wdA b n w mk' k v2) g fl) : cI E 133 [amR 49, amI v1, amI v2] g fl Q := by
  have hWl := Wn_le (b := b) (n := n) hn
  have hSl := Sn_le (b := b) (w := w) hn
  have hfs1 : fs b n w (k + 1) = fs b n w k + nc b n w k := rfl
  have hfm : fs b n w (k + 1) ≤ fs b n w (Wn b n) := fs_mono (by omega)
  have hSn : Sn b n w = fs b n w (Wn b n) := rfl
  have e1 : g 55 (Int.toNat v1) = fs b n w k := by rw [toNat_eq hv1]; exact hF.x.c.wF k (by omega)
  have e2 : g 55 (Int.toNat (v1 + 1)) = fs b n w (k + 1) := by rw [toNat_eq (x := v1 + 1) (k := k + 1) (by omega)]; exact hF.x.c.wF (k + 1) (by omega)
  unfold wdA at h1
  refine b133 ⟨fun c => ⟨by omega, ?_⟩, fun c => ⟨rgI (by omega) (by omega), by omega, by omega, rgI (by omega) (by omega), ?_⟩, fun c => feetMany_ok hn hF.x.c hv1 hk (hF.f k hk) ?_, fun c => twoOf_ok hn hF.x (Or.inl rfl) hv1 hk hF.bt ?_, fun c => twoOf_ok hn hF.x (Or.inr rfl) hv1 hk hF.he ?_, fun c => markedAt_ok hn hb hL hT hF.x.c hv1 hk ⟨fun c2 => ?_, fun c2 => ⟨by omega, markedAt_ok hn hb hL hT hF.x.c hv1 hk ⟨?_, rgI (by omega) (by omega), by omega, ?_⟩⟩⟩⟩
  · rw [if_pos c] at h1; rw [e1]; exact h1
  · rw [if_neg (by omega), if_pos c] at h1; rw [e1, e2, show ((fs b n w (k + 1) : Nat) : Int) - (fs b n w k : Nat) = (nc b n w k : Nat) by omega]; exact h1
  · rw [if_neg (by omega), if_neg (by omega), if_pos c] at h1; exact h1
  · rw [if_neg (by omega), if_neg (by omega), if_neg (by omega), if_pos c] at h1; exact h1
  · rw [if_neg (by omega), if_neg (by omega), if_neg (by omega), if_neg (by omega), if_pos c] at h1; exact h1
  · rw [if_neg (by omega), if_neg (by omega), if_neg (by omega), if_neg (by omega), if_neg (by omega), if_pos (by omega), if_neg (fun y => y.1 (by rw [hm]; exact c2))] at h1; exact h1
  · have := mkS_in (b := b) (n := n) hT k
    rw [e1]; exact rgI (by omega) (by omega)
  · rw [if_neg (by omega), if_neg (by omega), if_neg (by omega), if_neg (by omega), if_neg (by omega), if_pos (by omega)] at h1
    rw [e1, e2]
    by_cases c3 : isMk (mk' k) (nc b n w k)
    · rw [if_pos c3] at h1
      rw [b01_t (by have := c3.2; rw [hm] at this; omega)]; exact h1
    · rw [if_neg c3] at h1
      rw [b01_f (fun y => c3 ⟨by rw [hm]; exact c2, by rw [hm]; omega⟩)]; exact h1
theorem syllableBy_ok (hn : n ≤ 60) (hwo : waysOK w) (hF : FA b n w mk' g) (ht : g 52 = td) {s : Nat} {v1 v2 : Int} (hv1 : v1 = s) (hs : s < Sn b n w) (hv2 : 0 ≤ v2 ∧ v2 ≤ 7) (h1 : Q (syA b n w mk' td s v2) g fl) : cI E 136 [amR 49, amI v1, amI v2] g fl Q := by
  have hSl := Sn_le (b := b) (w := w) hn
  obtain ⟨o1, o2, o3, o4, o5⟩ := wo_ok (w := w) hn hs
  have hm := mo_S hn hwo hs
  have e : Int.toNat v1 = s := toNat_eq hv1
  unfold syA at h1
  refine b136 ⟨fun c => ⟨by omega, ?_⟩, fun c => ⟨by omega, ?_⟩, fun c => ⟨by omega, ?_, ?_⟩, fun c => ?_, fun c => footOf_ok hn hF.x.c hv1 o1 ⟨o2, o3⟩ (hF.f _ o1) ?_, fun c => ⟨by omega, ?_⟩, fun c => ⟨by omega, ?_⟩, fun c => ⟨by omega, ?_⟩⟩
  · rw [if_pos c] at h1; rw [e, hF.x.c.sW s hs]; exact h1
  · rw [if_neg (by omega), if_pos c] at h1; rw [e, hF.x.c.sS s hs]; exact h1
  · rw [e, hF.x.c.sS s hs, hF.x.c.sE s hs]; exact rgI (by omega) (by omega)
  · rw [if_neg (by omega), if_neg (by omega), if_pos c] at h1; rw [e, hF.x.c.sS s hs, hF.x.c.sE s hs]; exact h1
  · rw [if_neg (by omega), if_neg (by omega), if_neg (by omega), if_pos c] at h1
    subst hv1
    exact morasOf_ok hn hF.x.w hwo hF.x.c hs h1
  · rw [if_neg (by omega), if_neg (by omega), if_neg (by omega), if_neg (by omega), if_pos c] at h1; exact h1
  · rw [if_neg (by omega), if_neg (by omega), if_neg (by omega), if_neg (by omega), if_neg (by omega), if_pos c] at h1; rw [e, hF.bt s hs]; exact h1
  · rw [if_neg (by omega), if_neg (by omega), if_neg (by omega), if_neg (by omega), if_neg (by omega), if_neg (by omega), if_pos c] at h1; rw [e, hF.he s hs]; exact h1
  · rw [if_neg (by omega), if_neg (by omega), if_neg (by omega), if_neg (by omega), if_neg (by omega), if_neg (by omega), if_neg (by omega), if_pos (by omega)] at h1; rw [e, ht]; exact h1
theorem FA.h0 (hn : n ≤ 60) (hF : FA b n w mk' g) (hm : ∀ k, k < Wn b n → -1 ≤ mk' k) : HI (Sn b n w) (loS b n w) (hiS b n w) (heP b n w mk').1 ∧ (heP b n w mk').2 ≤ 60 := by
  have hSl := Sn_le (b := b) (w := w) hn
  have hnz := nzc_le (h := btS b n w mk') (Sn b n w)
  obtain ⟨a1, a2, a3, a4⟩ := hearF_ok (V := (w 8).toNat) (WL_cut (b := b) (w := w) hn) 60 (btS b n w mk') 0 (HI_bt hn hm) (by omega)
  exact ⟨a1, by unfold heP; omega⟩
theorem clashBy_ok (hn : n ≤ 60) (hwo : waysOK w) (hF : FA b n w mk' g) {v1 : Int} (hv : 0 ≤ v1 ∧ v1 ≤ 2147483647) (h1 : Q (clA b n w mk' v1) g fl) : cI E 142 [amR 49, amI v1] g fl Q := by
  have hSl := Sn_le (b := b) (w := w) hn
  have hV : g 51 8 = ((w 8).toNat : Nat) := by rw [← hF.x.w]; exact hwo.w8.1
  have hbi : ∀ s, s < Sn b n w → 0 ≤ btS b n w mk' s := fun s _ => btW_in.1
  have key : ∀ (f j : Nat) (v2 v3 v4 : Int), j + f = Sn b n w → v4 = j → v2 = v1 - (ctB (cl (Sn b n w) (w 8).toNat (btS b n w mk')) j : Nat) → v3 = nthF (cl (Sn b n w) (w 8).toNat (btS b n w mk')) v1 j → am_X E 142 (6, (0, 0), [some (amR 49), some (amI v1), some (amI v2), some (amI v3), some (amI v4), none], [], mk g fl) (RI Q) := by
    intro f
    induction f with
    | zero =>
      intro j v2 v3 v4 hj h4 h2 h3
      have : j = Sn b n w := by omega
      subst this
      have hS := hF.x.c.S
      refine b142_6 ⟨fun c => absurd c (by omega), fun _ => by rw [h3]; exact h1⟩
    | succ f ih =>
      intro j v2 v3 v4 hj h4 h2 h3
      have hS := hF.x.c.S
      have hc := ctB_le (p := cl (Sn b n w) (w 8).toNat (btS b n w mk')) j
      refine b142_6 ⟨fun _ => isClash_ok (Or.inl rfl) h4 hS (by omega) hV hwo.w8.2 (by omega) hF.bt (hbi j (by omega)) ⟨fun c => ⟨rgI (by omega) (by omega), rgI (by omega) (by omega), ih (j + 1) _ _ _ (by omega) (by omega) ?_ ?_⟩, fun c => ⟨rgI (by omega) (by omega), rgI (by omega) (by omega), ih (j + 1) _ _ _ (by omega) (by omega) ?_ ?_⟩⟩, fun c => absurd (by omega) c⟩
      · have y : ¬ cl (Sn b n w) (w 8).toNat (btS b n w mk') j := fun y => by rw [if_pos y] at c; omega
        rw [ctB_s, if_neg y]; omega
      · have y : ¬ cl (Sn b n w) (w 8).toNat (btS b n w mk') j := fun y => by rw [if_pos y] at c; omega
        rw [nthF_s, if_neg (fun z => y z.1)]; exact h3
      · have y : cl (Sn b n w) (w 8).toNat (btS b n w mk') j := by
          rcases Classical.em (cl (Sn b n w) (w 8).toNat (btS b n w mk') j) with y | y
          · exact y
          · rw [if_neg y] at c; exact absurd rfl c
        rw [ctB_s, if_pos y]; omega
      · have y : cl (Sn b n w) (w 8).toNat (btS b n w mk') j := by
          rcases Classical.em (cl (Sn b n w) (w 8).toNat (btS b n w mk') j) with y | y
          · exact y
          · rw [if_neg y] at c; exact absurd rfl c
        rw [nthF_s]
        by_cases c2 : v2 = 0
        · rw [if_pos c2, if_pos ⟨y, by omega⟩]; exact h4
        · rw [if_neg c2, if_neg (fun z => c2 (by omega))]; exact h3
  exact b142 (key (Sn b n w) 0 _ _ 0 (by omega) rfl (by show v1 = v1 - ((0 : Nat) : Int); omega) rfl)
theorem heardBy_ok (hn : n ≤ 60) (hwo : waysOK w) (hm : ∀ k, k < Wn b n → -1 ≤ mk' k) (hF : FA b n w mk' g) {v1 : Int} (hv : 0 ≤ v1 ∧ v1 ≤ 3) (h1 : Q (hdA b n w mk' v1) g fl) : cI E 144 [amR 49, amI v1] g fl Q := by
  have hSl := Sn_le (b := b) (w := w) hn
  have hV : g 51 8 = ((w 8).toNat : Nat) := by rw [← hF.x.w]; exact hwo.w8.1
  obtain ⟨hI, -⟩ := hF.h0 hn hm
  unfold hdA at h1
  refine b144 ⟨fun c => ?_, fun c => ⟨fun c2 => ?_, fun c2 => ⟨fun c3 => clashes_ok (Or.inl rfl) hF.x.c.S (by omega) hV hwo.w8.2 hF.bt (fun s _ => btW_in.1) ?_, fun c3 => clashes_ok (Or.inr rfl) hF.x.c.S (by omega) hV hwo.w8.2 hF.he (fun s hs => (hI.v s hs).1) ?_⟩⟩⟩
  · rw [if_pos c] at h1; rw [hF.mv]; exact h1
  · rw [if_neg c, if_pos c2] at h1; rw [hF.ck]; exact h1
  · rw [if_neg c, if_neg c2, if_pos c3] at h1; exact h1
  · rw [if_neg c, if_neg c2, if_neg c3, if_pos (by omega)] at h1; exact h1
end READM
