/-! texts that are alike for a word's eye have the same answers -/
def Same (b : Nat → Int) (n : Nat) (mk : Nat → Int) (b' : Nat → Int) (mk' : Nat → Int) : Prop := flaw b n = flaw b' n ∧ ((b = b' ∧ mk = mk') ∨ (flaw b n ≠ -1 ∧ flaw b' n ≠ -1))
section SAME
variable {b b' : Nat → Int} {n : Nat} {w : Nat → Int} {mk' mk2 : Nat → Int} {td : Nat → Int}
theorem ctB_zero {p : Nat → Prop} [DecidablePred p] {S : Nat} (h : S = 0) : ctB p S = 0 := by subst h; rfl
theorem nthF_zero {p : Nat → Prop} [DecidablePred p] {S : Nat} {k : Int} (h : S = 0) : nthF p k S = -2 := by subst h; rfl
theorem smF_zero {f : Nat → Nat} {S : Nat} (h : S = 0) : smF f S = 0 := by subst h; rfl
theorem mv_zero (h : Sn b n w = 0) : (heP b n w mk').2 = 0 := by
  unfold heP
  show (if fLo (Sn b n w) (w 8).toNat (loS b n w) (hiS b n w) (btS b n w mk') 0 < Sn b n w then _ else _ : (Nat → Int) × Nat).2 = 0
  rw [if_neg (by omega)]
theorem same_word (h : Same b n mk' b' mk2) {k x : Int} : wordA b n w mk' k x = wordA b' n w mk2 k x := by
  rcases h.2 with ⟨rfl, rfl⟩ | ⟨h1, h2⟩
  · rfl
  · unfold wordA; rw [Wn_0 h1, Wn_0 h2, if_neg (by omega), if_neg (by omega)]
theorem same_marked (h : Same b n mk' b' mk2) {k : Int} : markedA b n mk' k = markedA b' n mk2 k := by
  rcases h.2 with ⟨rfl, rfl⟩ | ⟨h1, h2⟩
  · rfl
  · unfold markedA; rw [Wn_0 h1, Wn_0 h2, if_neg (by omega), if_neg (by omega)]
theorem same_syll (h : Same b n mk' b' mk2) {k x : Int} : syllA b n w mk' td k x = syllA b' n w mk2 td k x := by
  rcases h.2 with ⟨rfl, rfl⟩ | ⟨h1, h2⟩
  · rfl
  · have e1 := Sn_0 (w := w) h1
    have e2 := Sn_0 (w := w) h2
    unfold syllA; rw [if_neg (by omega), if_neg (by omega)]
theorem same_cl (h : Same b n mk' b' mk2) {k : Int} : clA b n w mk' k = clA b' n w mk2 k := by
  rcases h.2 with ⟨rfl, rfl⟩ | ⟨h1, h2⟩
  · rfl
  · unfold clA; rw [nthF_zero (Sn_0 h1), nthF_zero (Sn_0 h2)]
theorem same_ck (h : Same b n mk' b' mk2) : ckA b n w mk' = ckA b' n w mk2 := by
  rcases h.2 with ⟨rfl, rfl⟩ | ⟨h1, h2⟩
  · rfl
  · unfold ckA; rw [ctB_zero (Sn_0 h1), ctB_zero (Sn_0 h2)]
theorem same_cb (h : Same b n mk' b' mk2) : cbA b n w mk' = cbA b' n w mk2 := by
  rcases h.2 with ⟨rfl, rfl⟩ | ⟨h1, h2⟩
  · rfl
  · unfold cbA; rw [ctB_zero (Sn_0 h1), ctB_zero (Sn_0 h2)]
theorem same_mv (h : Same b n mk' b' mk2) : (heP b n w mk').2 = (heP b' n w mk2).2 := by
  rcases h.2 with ⟨rfl, rfl⟩ | ⟨h1, h2⟩
  · rfl
  · rw [mv_zero (Sn_0 h1), mv_zero (Sn_0 h2)]
theorem same_hd (h : Same b n mk' b' mk2) {x : Int} : hdA b n w mk' x = hdA b' n w mk2 x := by
  unfold hdA; rw [same_ck h, same_cb h, same_mv h]
theorem same_nr (h : Same b n mk' b' mk2) : nrA b n w mk' td = nrA b' n w mk2 td := by
  rcases h.2 with ⟨rfl, rfl⟩ | ⟨h1, h2⟩
  · rfl
  · unfold nrA; rw [ctB_zero (Sn_0 h1), ctB_zero (Sn_0 h2)]
theorem same_ns (h : Same b n mk' b' mk2) : nsA b n w mk' td = nsA b' n w mk2 td := nsF_congr (fun _ _ => same_nr h)
theorem same_Sn (h : Same b n mk' b' mk2) : Sn b n w = Sn b' n w := by
  rcases h.2 with ⟨rfl, rfl⟩ | ⟨h1, h2⟩
  · rfl
  · rw [Sn_0 h1, Sn_0 h2]
theorem same_Wn (h : Same b n mk' b' mk2) : Wn b n = Wn b' n := by
  rcases h.2 with ⟨rfl, rfl⟩ | ⟨h1, h2⟩
  · rfl
  · rw [Wn_0 h1, Wn_0 h2]
theorem same_hv (h : Same b n mk' b' mk2) : hvA b n w = hvA b' n w := by
  rcases h.2 with ⟨rfl, rfl⟩ | ⟨h1, h2⟩
  · rfl
  · unfold hvA; rw [ctB_zero (Sn_0 h1), ctB_zero (Sn_0 h2)]
theorem same_hn (h : Same b n mk' b' mk2) : hnA b n w mk' = hnA b' n w mk2 := by
  rcases h.2 with ⟨rfl, rfl⟩ | ⟨h1, h2⟩
  · rfl
  · unfold hnA; rw [ctB_zero (Sn_0 h1), ctB_zero (Sn_0 h2)]
theorem same_ma (h : Same b n mk' b' mk2) : maA b n w = maA b' n w := by
  rcases h.2 with ⟨rfl, rfl⟩ | ⟨h1, h2⟩
  · rfl
  · unfold maA; rw [smF_zero (Sn_0 h1), smF_zero (Sn_0 h2)]
theorem same_mh (h : Same b n mk' b' mk2) : mhA b n w mk' = mhA b' n w mk2 := by
  rcases h.2 with ⟨rfl, rfl⟩ | ⟨h1, h2⟩
  · rfl
  · unfold mhA; rw [smF_zero (Sn_0 h1), smF_zero (Sn_0 h2)]
theorem same_fa (h : Same b n mk' b' mk2) : faA b n w = faA b' n w := by
  rcases h.2 with ⟨rfl, rfl⟩ | ⟨h1, h2⟩
  · rfl
  · unfold faA; rw [smF_zero (Wn_0 h1), smF_zero (Wn_0 h2)]
theorem same_sh (h : Same b n mk' b' mk2) {x : Int} : shA b n w mk' td x = shA b' n w mk2 td x := by
  unfold shA; rw [same_nr h, same_Sn h, same_hv h, same_mh h, same_ma h]
theorem txA_zero {h : Nat → Int} {S : Nat} (e : S = 0) : txA b n w h S = [] := by subst e; rfl
theorem same_tx (h : Same b n mk' b' mk2) : txL b n w mk' = txL b' n w mk2 := by
  rcases h.2 with ⟨rfl, rfl⟩ | ⟨h1, h2⟩
  · rfl
  · unfold txL; rw [txA_zero (Sn_0 h1), txA_zero (Sn_0 h2)]
theorem same_text (h : Same b n mk' b' mk2) {x : Int} : textA b n w mk' x = textA b' n w mk2 x := by
  unfold textA; rw [same_tx h]
theorem same_cnt (h : Same b n mk' b' mk2) {N f x : Int} : cntA b n w mk' N f x = cntA b' n w mk2 N f x := by
  unfold cntA; rw [same_Wn h, same_Sn h, same_fa h, same_hv h, same_hn h, same_ma h]
theorem dgF_congr {f f' : Nat → Int} {d : Int64} : ∀ {k : Nat}, (∀ i, i < k → f i = f' i) → dgF f k d = dgF f' k d
  | 0, _ => rfl
  | k + 1, h => by rw [dgF_s, dgF_s, dgF_congr (fun i hi => h i (by omega)), h k (by omega)]
theorem same_dg1 (h : Same b n mk' b' mk2) {N f : Int} : dg1 b n w mk' N f = dg1 b' n w mk2 N f := by
  unfold dg1
  rw [h.1, dgF_congr (fun i _ => same_cnt h)]
theorem dgS_zero {S : Nat} {d : Int64} (h : S = 0) : dgS b n w mk' td S d = d := by subst h; rfl
theorem dgW_zero {W : Nat} {d : Int64} (h : W = 0) : dgW b n w mk' W d = d := by subst h; rfl
theorem same_dg2 (h : Same b n mk' b' mk2) {N f : Int} : dg2 b n w mk' td N f = dg2 b' n w mk2 td N f := by
  rcases h.2 with ⟨rfl, rfl⟩ | ⟨h1, h2⟩
  · rfl
  · unfold dg2
    rw [dgS_zero (Sn_0 h1), dgS_zero (Sn_0 h2), dgW_zero (Wn_0 h1), dgW_zero (Wn_0 h2)]
    exact same_dg1 h
theorem same_dg3 (h : Same b n mk' b' mk2) {N f : Int} : dg3 b n w mk' td N f = dg3 b' n w mk2 td N f := by
  unfold dg3
  rw [same_dg2 h, same_cb h, dgF_congr (f := fun k => clA b n w mk' k) (f' := fun k => clA b' n w mk2 k) (fun i _ => same_cl h), dgF_congr (fun i _ => same_hd h)]
theorem same_dg4 (h : Same b n mk' b' mk2) {N f : Int} : dg4 b n w mk' td N f = dg4 b' n w mk2 td N f := by
  unfold dg4; rw [same_dg3 h, same_nr h, same_ns h]
theorem same_dg5 (h : Same b n mk' b' mk2) {N f : Int} : dg5 b n w mk' td N f = dg5 b' n w mk2 td N f := by
  unfold dg5; rw [same_dg4 h, same_tx h, dgF_congr (fun i _ => same_sh h)]
theorem same_dg (h : Same b n mk' b' mk2) {N f : Int} : dgA b n w mk' td N f = dgA b' n w mk2 td N f := by
  unfold dgA; rw [same_dg5 h, same_tx h]
end SAME
