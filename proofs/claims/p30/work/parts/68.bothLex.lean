/-! both: learn, mark, unmark -/
section BLEX
variable {E : am_E} {g : GG} {fl : FF} {v1 v2 : Int} {b : Nat → Int} {n : Nat} {w : Nat → Int} {mk1 : Nat → Int} {td : Nat → Int} {N : Nat} {T : Nat → List Int} {P : Nat → Int} {b' : Nat → Int} {mk' : Nat → Int} {T' : Nat → List Int} {P' : Nat → Int}
/-- the relation behind a change of the lexicon -/
theorem Bo.lex {g' : GG} {N2 : Nat} {T2 : Nat → List Int} {P2 : Nat → Int} {T3 : Nat → List Int} {P3 : Nat → Int} (H : Bo b n w mk1 td N T P b' mk' T' P' g fl) (lx : LX 7 8 9 6 3 N2 T2 P2 g') (lt : LT N2 T2 P2) (lx' : LX 63 64 65 49 19 N2 T3 P3 g') (lt' : LT N2 T3 P3) (ls : ∀ t p, LSet N2 T2 P2 t p ↔ LSet N2 T3 P3 t p) (s1 : g' 0 15 = 1) (s2 : g' 0 16 = 1)
    (hf : ∀ a i, ¬ (a = 0 ∧ (i = 15 ∨ i = 16)) → ¬ (a = 6 ∧ i = 3) → ¬ (a = 7 ∨ a = 8 ∨ a = 9) → ¬ (a = 49 ∧ (i = 6 ∨ i = 13 ∨ i = 19 ∨ (22 ≤ i ∧ i ≤ 26))) → ¬ (53 ≤ a ∧ a ≤ 68) → g' a i = g a i) : Rel g' fl := by
  have e2 : g' 2 = w := by rw [H.rc.ew]; exact funext fun i => hf _ _ (by omega) (by omega) (by omega) (by omega) (by omega)
  have e51 : g' 51 = w := by rw [H.rm.ew]; exact funext fun i => hf _ _ (by omega) (by omega) (by omega) (by omega) (by omega)
  refine Rel.new (n := n) (T := T2) (P := P2) (T' := T3) (P' := P3) (N := N2) H.rc.n60 ?_ ?_ (by rw [e2]; exact H.rc.ok) (by rw [e2, e51]) (funext fun i => ?_) lx lt lx' lt' (fun i hi => ?_) s1 s2 (fun i hi => ?_) ls ?_ (fun s hs => (H.sh s hs).keep hs (fun a i z => hf a i (by omega) (by omega) (by omega) (by omega) (by omega)) (fun _ _ _ => rfl))
  · rw [hf _ _ (by omega) (by omega) (by omega) (by omega) (by omega)]; exact H.rc.gn
  · rw [hf _ _ (by omega) (by omega) (by omega) (by omega) (by omega)]; exact H.rm.rb.gn
  · rw [hf _ _ (by omega) (by omega) (by omega) (by omega) (by omega), hf _ _ (by omega) (by omega) (by omega) (by omega) (by omega), H.rm.et, H.rc.et]
  · rw [e2, hf _ _ (by omega) (by omega) (by omega) (by omega) (by omega)]; exact H.rc.w3 i hi
  · rw [hf _ _ (by omega) (by omega) (by omega) (by omega) (by omega), hf _ _ (by omega) (by omega) (by omega) (by omega) (by omega)]; exact H.br i hi
  · rw [hf _ _ (by omega) (by omega) (by omega) (by omega) (by omega), hf _ _ (by omega) (by omega) (by omega) (by omega) (by omega)]; exact H.fi
theorem Bo.klm {g' : GG} (H : Bo b n w mk1 td N T P b' mk' T' P' g fl) (k : KL g g') (lx : LX 63 64 65 49 19 N T' P' g') : Rel g' fl := by
  have hk : ∀ a i, ¬ (a = 49 ∧ (i = 6 ∨ i = 13 ∨ i = 19 ∨ (22 ≤ i ∧ i ≤ 26))) → ¬ (53 ≤ a ∧ a ≤ 68) → g' a i = g a i := k
  refine ⟨b, n, w, mk1, td, N, T, P, b', mk', T', P', H.rc.keep (fun a i z _ => hk a i (by omega) (by omega)), ⟨⟨H.rm.rb.n60, by rw [hk _ _ (by omega) (by omega)]; exact H.rm.rb.gn, by rw [show g' 51 = g 51 from funext fun x => hk _ _ (by omega) (by omega)]; exact H.rm.rb.ok, lx, H.rm.rb.lt⟩, ?_, ?_, H.rm.em, ?_⟩, fun i hi => by rw [hk _ _ (by omega) (by omega), hk _ _ (by omega) (by omega)]; exact H.br i hi, H.ls, by rw [hk _ _ (by omega) (by omega), hk _ _ (by omega) (by omega)]; exact H.fi, fun s hs => (H.sh s hs).keep hs (fun a i z => hk a i (by omega) (by omega)) (fun _ _ _ => rfl)⟩
  · rw [show g' 50 = g 50 from funext fun x => hk _ _ (by omega) (by omega)]; exact H.rm.eb
  · rw [show g' 51 = g 51 from funext fun x => hk _ _ (by omega) (by omega)]; exact H.rm.ew
  · rw [show g' 52 = g 52 from funext fun x => hk _ _ (by omega) (by omega)]; exact H.rm.et
theorem Same.nc (h : Same b n mk1 b' mk') {k : Nat} (hk : k < Wn b n) : b = b' := by
  rcases h.2 with ⟨q, -⟩ | ⟨q, -⟩
  · exact q
  · rw [Wn_0 q] at hk; omega
/-- found in the one lexicon, found in the other -/
theorem ls_found {u : List Int} (hs : ∀ t p, LSet N T P t p ↔ LSet N T' P' t p) : (∃ m, m < N ∧ T m = u) ↔ (∃ m, m < N ∧ T' m = u) := by
  constructor
  · rintro ⟨m, m1, m2⟩
    obtain ⟨k, k1, k2, -⟩ := (hs u (P m)).1 ⟨m, m1, m2, rfl⟩
    exact ⟨k, k1, k2⟩
  · rintro ⟨m, m1, m2⟩
    obtain ⟨k, k1, k2, -⟩ := (hs u (P' m)).2 ⟨m, m1, m2, rfl⟩
    exact ⟨k, k1, k2⟩
end BLEX
