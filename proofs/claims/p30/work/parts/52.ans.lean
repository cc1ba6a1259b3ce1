/-! the answers as functions -/
def tw (h : Nat → Int) (p : Nat) : Nat → Int
  | 0 => -1
  | l + 1 => if h (p + l) = 2 then ((p + l : Nat) : Int) else tw h p l
theorem tw_of {h : Nat → Int} {p m : Nat} : ∀ {l : Nat}, p ≤ m → m < p + l → h m = 2 → (∀ s, p ≤ s → s < p + l → h s = 2 → s = m) → tw h p l = m
  | 0, h1, h2, _, _ => by omega
  | l + 1, h1, h2, h3, h4 => by
    unfold tw
    by_cases c : h (p + l) = 2
    · rw [if_pos c, h4 _ (by omega) (by omega) c]
    · rw [if_neg c]
      refine tw_of h1 ?_ h3 (fun s z1 z2 z3 => h4 s z1 (by omega) z3)
      rcases Nat.lt_or_ge m (p + l) with y | y
      · exact y
      · have : p + l = m := by omega
        rw [this] at c; exact absurd h3 c
/-- the k-th place, or -2 -/
def nthF (p : Nat → Prop) [DecidablePred p] (k : Int) : Nat → Int
  | 0 => -2
  | n + 1 => if p n ∧ (ctB p n : Int) = k then (n : Int) else nthF p k n
theorem nthF_s {p : Nat → Prop} [DecidablePred p] {k : Int} {n : Nat} : nthF p k (n + 1) = if p n ∧ (ctB p n : Int) = k then (n : Int) else nthF p k n := rfl
theorem nthF_of {p : Nat → Prop} [DecidablePred p] {s : Nat} {k : Int} (hp : p s) (hk : (ctB p s : Int) = k) : ∀ {n : Nat}, s < n → nthF p k n = s
  | 0, h => by omega
  | n + 1, h => by
    rw [nthF_s]
    by_cases c : p n ∧ (ctB p n : Int) = k
    · rw [if_pos c]
      by_cases c2 : s = n
      · rw [c2]
      · have := ctB_mono (p := p) (a := s + 1) (b := n) (by omega)
        rw [ctB_s, if_pos hp] at this
        omega
    · rw [if_neg c]
      refine nthF_of hp hk ?_
      by_cases c2 : s = n
      · rw [c2] at hp hk; exact absurd ⟨hp, hk⟩ c
      · omega
theorem nthF_no {p : Nat → Prop} [DecidablePred p] {k : Int} : ∀ {n : Nat}, (k < 0 ∨ (ctB p n : Int) ≤ k) → nthF p k n = -2
  | 0, _ => rfl
  | n + 1, h => by
    rw [nthF_s, if_neg (fun c => by rw [ctB_s, if_pos c.1] at h; omega)]
    exact nthF_no (by rw [ctB_s] at h; omega)
def smF (f : Nat → Nat) : Nat → Nat
  | 0 => 0
  | n + 1 => smF f n + f n
theorem smF_s {f : Nat → Nat} {n : Nat} : smF f (n + 1) = smF f n + f n := rfl
theorem smF_congr {f f' : Nat → Nat} : ∀ {n : Nat}, (∀ k, k < n → f k = f' k) → smF f n = smF f' n
  | 0, _ => rfl
  | n + 1, h => by rw [smF_s, smF_s, smF_congr (fun k hk => h k (by omega)), h n (by omega)]
theorem smF_le {f f' : Nat → Nat} : ∀ {n : Nat}, (∀ k, k < n → f k ≤ f' k) → smF f n ≤ smF f' n
  | 0, _ => Nat.le_refl _
  | n + 1, h => by have := smF_le (n := n) (fun k hk => h k (by omega)); have := h n (by omega); rw [smF_s, smF_s]; omega
theorem smF_const {f : Nat → Nat} {c : Nat} : ∀ {n : Nat}, (∀ k, k < n → f k ≤ c) → smF f n ≤ c * n
  | 0, _ => Nat.zero_le _
  | n + 1, h => by have := smF_const (n := n) (fun k hk => h k (by omega)); have := h n (by omega); rw [smF_s, Nat.mul_succ]; omega
section ANS
variable (b : Nat → Int) (n : Nat) (w : Nat → Int) (mk' : Nat → Int) (td : Nat → Int)
def ftW (k : Nat) : Nat := cnt (stW (moS b n w) w (fs b n w k) (eKw w (fs b n w k) (nc b n w k))) (fs b n w k) (eKw w (fs b n w k) (nc b n w k) - fs b n w k)
def wdA (k : Nat) (x : Int) : Int :=
  if x = 0 then (fs b n w k : Int) else if x = 1 then (nc b n w k : Int) else if x = 2 then (ftW b n w k : Int)
  else if x = 3 then tw (btS b n w mk') (fs b n w k) (nc b n w k) else if x = 4 then tw (heP b n w mk').1 (fs b n w k) (nc b n w k)
  else if x = 5 then (if isMk (mk' k) (nc b n w k) then 1 else 0) else -2
def ftS (s : Nat) : Int := fo (stW (moS b n w) w (fs b n w (wo b n w s)) (eKw w (fs b n w (wo b n w s)) (nc b n w (wo b n w s)))) (fs b n w (wo b n w s)) s
def syA (s : Nat) (x : Int) : Int :=
  if x = 0 then (wo b n w s : Int) else if x = 1 then (frS b n w s : Int) else if x = 2 then (toS b n w s : Int) - (frS b n w s : Int)
  else if x = 3 then (moS b n w s : Int) else if x = 4 then ftS b n w s else if x = 5 then btS b n w mk' s
  else if x = 6 then (heP b n w mk').1 s else if x = 7 then td s else -2
def ckA : Nat := ctB (cl (Sn b n w) (w 8).toNat (heP b n w mk').1) (Sn b n w)
def cbA : Nat := ctB (cl (Sn b n w) (w 8).toNat (btS b n w mk')) (Sn b n w)
def hdA (x : Int) : Int := if x = 0 then ((heP b n w mk').2 : Int) else if x = 1 then (ckA b n w mk' : Int) else if x = 2 then (cbA b n w mk' : Int) else if x = 3 then (ckA b n w mk' : Int) else -2
def clA (k : Int) : Int := nthF (cl (Sn b n w) (w 8).toNat (btS b n w mk')) k (Sn b n w)
def nrA : Nat := ctB (fun s => (heP b n w mk').1 s = td s) (Sn b n w)
def hvA : Nat := ctB (fun s => 2 ≤ moS b n w s) (Sn b n w)
def hnA : Nat := ctB (fun s => (heP b n w mk').1 s ≠ 0) (Sn b n w)
def maA : Nat := smF (moS b n w) (Sn b n w)
def mhA : Nat := smF (fun s => if (heP b n w mk').1 s ≠ 0 then moS b n w s else 0) (Sn b n w)
def faA : Nat := smF (ftW b n w) (Wn b n)
def wordA (k x : Int) : Int := if 0 ≤ k ∧ k < Wn b n then wdA b n w mk' k.toNat x else -2
def syllA (k x : Int) : Int := if 0 ≤ k ∧ k < Sn b n w then syA b n w mk' td k.toNat x else -2
def markedA (k : Int) : Int := if 0 ≤ k ∧ k < Wn b n then mk' k.toNat else -2
def cntA (N f x : Int) : Int :=
  if x = 0 then (n : Int) else if x = 1 then (Wn b n : Int) else if x = 2 then (Sn b n w : Int) else if x = 3 then (faA b n w : Int)
  else if x = 4 then (hvA b n w : Int) else if x = 5 then N else if x = 6 then (hnA b n w mk' : Int) else if x = 7 then (maA b n w : Int) else if x = 8 then f else -2
def wc (c : Nat) : Nat → Int := fun i => if i = 4 then ((c / 12 : Nat) : Int) else if i = 5 then ((c / 6 % 2 : Nat) : Int) else if i = 6 then ((c / 3 % 2 : Nat) : Int) else if i = 7 then ((c % 3 : Nat) : Int) else w i
end ANS
def nsF (f : Nat → Nat) : Nat → Int × Int
  | 0 => (-1, -1)
  | c + 1 => if (nsF f c).2 < f c then ((c : Int), (f c : Int)) else nsF f c
theorem nsF_s {f : Nat → Nat} {c : Nat} : nsF f (c + 1) = if (nsF f c).2 < f c then ((c : Int), (f c : Int)) else nsF f c := rfl
theorem nsF_in {f : Nat → Nat} : ∀ {c : Nat}, 0 < c → 0 ≤ (nsF f c).1 ∧ (nsF f c).1 < c ∧ ∃ k : Nat, k < c ∧ (nsF f c).1 = k ∧ (nsF f c).2 = f k
  | 0, h => by omega
  | c + 1, _ => by
    rw [nsF_s]
    by_cases z : (nsF f c).2 < f c
    · rw [if_pos z]; exact ⟨by show (0 : Int) ≤ (c : Int); omega, by show (c : Int) < _; omega, c, by omega, rfl, rfl⟩
    · rw [if_neg z]
      by_cases c0 : c = 0
      · subst c0
        exact absurd (show (-1 : Int) < (f 0 : Int) by omega) z
      · obtain ⟨a1, a2, k, a3, a4, a5⟩ := nsF_in (f := f) (c := c) (by omega)
        exact ⟨a1, by omega, k, by omega, a4, a5⟩
theorem nsF_congr {f f' : Nat → Nat} : ∀ {c : Nat}, (∀ k, k < c → f k = f' k) → nsF f c = nsF f' c
  | 0, _ => rfl
  | c + 1, h => by rw [nsF_s, nsF_s, nsF_congr (fun k hk => h k (by omega)), h c (by omega)]
theorem wc_ok {w : Nat → Int} {c : Nat} (h : waysOK w) (hc : c < 36) : waysOK (wc w c) := by
  obtain ⟨a0, a1, a2, a3, a4, a5, a6, a7, a8⟩ := h
  unfold wc
  refine ⟨a0, a1, a2, a3, ?_, ?_, ?_, ?_, a8⟩
  · simp; omega
  · simp; omega
  · simp; omega
  · simp; omega
