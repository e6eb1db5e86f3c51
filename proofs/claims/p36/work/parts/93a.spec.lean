/-! ===== the reference's year ===== -/
def clF (x : Int) : Int := if x < 0 then 0 else if x > 99 then 99 else x
def chF (c : Int → Int) (k by_ : Int) : Int → Int := updI c k (clF (c k + by_))
def lnF (so wh gr : Int → Int) (p : Int) : Int := if so (wh p) = 0 then gr p / 2 else if so (wh p) = 1 then 2 * gr p else gr p
def twF (far by_ : Int) : Int := if far > by_ then by_ else if far < -by_ then -by_ else far
def mkS (n : Int) (so wh gr md : Int → Int) (day p : Int) (σ : ST3) : ST3 := if md p = day ∧ wh p < n then (chF σ.1 (wh p) (lnF so wh gr p), σ.2.1, updI σ.2.2 p 1) else σ
def kpS (m0 nK : Int) (sz wh gr kd ko : Int → Int) (day i : Int) (σ : ST3) : ST3 := if kd i = day ∧ ¬ mAnd (mShr nK i) 1 = 1 ∧ ko i < m0 ∧ σ.2.2 (ko i) = 1 then (chF σ.1 (wh (ko i)) (twF (sz (wh (ko i)) - σ.1 (wh (ko i))) (gr (ko i))), σ.2.1, updI σ.2.2 (ko i) 2) else σ
def brS (so wh gr du : Int → Int) (day p : Int) (σ : ST3) : ST3 := if du p = day ∧ σ.2.2 p = 1 then (chF σ.1 (wh p) (if so (wh p) = 2 then - lnF so wh gr p + -2 else - lnF so wh gr p), updI σ.2.1 (wh p) (mAdd (σ.2.1 (wh p)) 1), updI σ.2.2 p 3) else σ
def liS (n nL : Int) (ld lw lm : Int → Int) (day i : Int) (c : Int → Int) : Int → Int := if ld i = day ∧ lw i < n ∧ ¬ mAnd (mShr nL i) 1 = 1 then chF c (lw i) (- lm i) else c
def leS (n : Int) (td tw tm : Int → Int) (day i : Int) (c : Int → Int) : Int → Int := if td i = day ∧ tw i < n then chF c (tw i) (tm i) else c
/-- a day's promises, keepings, breakings -/
def d3S (n m m0 nk nK : Int) (so sz wh gr md du kd ko : Int → Int) (day : Int) (σ : ST3) : ST3 := foldI (brS so wh gr du day) (foldI (kpS m0 nK sz wh gr kd ko day) (foldI (mkS n so wh gr md day) σ m.toNat) nk.toNat) m.toNat
def dyS (n m m0 nk nl nt nK nL : Int) (so sz wh gr md du kd ko ld lw lm td tw tm : Int → Int) (day : Int) (σ : ST3) : ST3 := (foldI (leS n td tw tm day) (foldI (liS n nL ld lw lm day) (d3S n m m0 nk nK so sz wh gr md du kd ko day σ).1 nl.toNat) nt.toNat, (d3S n m m0 nk nK so sz wh gr md du kd ko day σ).2)
/-- rows written from b on -/
def upF (a : Int → Int) (b : Int) (f : Int → Int) : Nat → (Int → Int) := foldI (fun k x => updI x (b + k) (f k)) a
theorem upF_at {a : Int → Int} {b : Int} {f : Int → Int} : ∀ (n : Nat) (j : Int), upF a b f n j = if b ≤ j ∧ j < b + n then f (j - b) else a j
  | 0, j => by
    rw [if_neg (by omega)]
    rfl
  | n + 1, j => by
    show updI (upF a b f n) (b + n) (f n) j = _
    by_cases h : j = b + n
    · subst h
      rw [updI_at, if_pos (by omega)]
      congr 1
      omega
    · rw [updI_ne h, upF_at n j]
      by_cases q : b ≤ j ∧ j < b + n
      · rw [if_pos q, if_pos (by omega)]
      · rw [if_neg q, if_neg (by omega)]
theorem upF_s {a : Int → Int} {b : Int} {f : Int → Int} {x : Int} (h : 0 ≤ x) : upF a b f (x + 1).toNat = updI (upF a b f x.toNat) (b + x) (f x) := foldI_s h
def inS (n m : Int) (sz c t s : Int → Int) : ST3 := (upF c 0 sz n.toNat, upF t 0 (fun _ => 0) n.toNat, upF s 0 (fun _ => 0) m.toNat)
def rnS (D : Int → ST3 → ST3) (σ : ST3) : Nat → ST3 := foldI D σ
/-- what the rows of all days hold -/
def roS (n m lim : Int) (D : Int → ST3 → ST3) (σ : ST3) (cA tA sA : Int → Int) : Prop := (∀ d k, 0 ≤ d → d < lim → 0 ≤ k → k < n → cA (8 * d + k) = (rnS D σ (d + 1).toNat).1 k ∧ tA (8 * d + k) = (rnS D σ (d + 1).toNat).2.1 k) ∧ ∀ d p, 0 ≤ d → d < lim → 0 ≤ p → p < m → sA (12 * d + p) = (rnS D σ (d + 1).toNat).2.2 p
theorem roS_z {n m : Int} {D : Int → ST3 → ST3} {σ : ST3} {cA tA sA : Int → Int} : roS n m 0 D σ cA tA sA := ⟨fun d k h1 h2 => by omega, fun d p h1 h2 => by omega⟩
theorem roS_s {n m d : Int} {D : Int → ST3 → ST3} {σ : ST3} {cA tA sA c t s : Int → Int} (h : roS n m d D σ cA tA sA) (hd : 0 ≤ d) (hn : 0 ≤ n ∧ n ≤ 8) (hm : 0 ≤ m ∧ m ≤ 12) (e : (c, t, s) = D d (rnS D σ d.toNat)) : roS n m (d + 1) D σ (upF cA (8 * d) c n.toNat) (upF tA (8 * d) t n.toNat) (upF sA (12 * d) s m.toNat) := by
  have er : rnS D σ (d + 1).toNat = (c, t, s) := by rw [e]; exact foldI_s hd
  refine ⟨fun w k h1 h2 h3 h4 => ?_, fun w p h1 h2 h3 h4 => ?_⟩
  · rw [upF_at, upF_at]
    by_cases q : w = d
    · subst q
      rw [if_pos (by omega), if_pos (by omega), er]
      rw [show 8 * w + k - 8 * w = k by omega]
      exact ⟨rfl, rfl⟩
    · rw [if_neg (by omega), if_neg (by omega)]
      exact h.1 w k h1 (by omega) h3 h4
  · rw [upF_at]
    by_cases q : w = d
    · subst q
      rw [if_pos (by omega), er]
      rw [show 12 * w + p - 12 * w = p by omega]
    · rw [if_neg (by omega)]
      exact h.2 w p h1 (by omega) h3 h4
