/-! ===== plans: what a try gives ===== -/
def keepQ (d n m nk nl nt : Int) (so sz wh gr md du kd ko ld lw lm td tw tm : Int → Int) (j v : Int) : Prop := ∃ kd' ko' : Int → Int, (∀ i, 0 ≤ i → i < nk → kd' i = kd i ∧ ko' i = ko i) ∧ kd' nk = d ∧ ko' nk = j ∧ fitQ n m (nk + 1) nl nt 0 0 so sz wh gr md du kd' ko' ld lw lm td tw tm 23 v
def keepY (d n m nk nl nt : Int) (so sz wh gr md du kd ko ld lw lm td tw tm : Int → Int) (j v : Int) : Prop := ∃ kd' ko' CA TA SA C U S : Int → Int, (∀ i, 0 ≤ i → i < nk → kd' i = kd i ∧ ko' i = ko i) ∧ kd' nk = d ∧ ko' nk = j ∧ yY n m (nk + 1) nl nt 0 0 so sz wh gr md du kd' ko' ld lw lm td tw tm CA TA SA C U S ∧ v = cntF (atD 23 CA) sz n
/-! ===== tears are broken promises ===== -/
def rpT3 (S : Int → Int) (m : Int) : Int := foldI (fun p b => if S p = 3 then b + 1 else b) 0 m.toNat
def sumN (T : Int → Int) : Nat → Int
  | 0 => 0
  | n + 1 => sumN T n + T (n : Int)
theorem sumN_up {T : Int → Int} {k v : Int} : ∀ (n : Nat), 0 ≤ k → sumN (updI T k v) n = if k < n then sumN T n - T k + v else sumN T n
  | 0, hk => by
    rw [if_neg (by omega)]
    rfl
  | n + 1, hk => by
    have ih := sumN_up (T := T) (k := k) (v := v) n hk
    show sumN (updI T k v) n + updI T k v (n : Int) = _
    rw [ih]
    show _ = if k < ((n + 1 : Nat) : Int) then sumN T n + T (n : Int) - T k + v else sumN T n + T (n : Int)
    by_cases q : (n : Int) = k
    · rw [q, updI_at, if_neg (by omega), if_pos (by omega)]
      omega
    · rw [updI_ne q]
      by_cases c : k < (n : Int)
      · rw [if_pos c, if_pos (by omega)]
        omega
      · rw [if_neg c, if_neg (by omega)]
def c3N (S : Int → Int) : Nat → Int
  | 0 => 0
  | n + 1 => c3N S n + if S (n : Int) = 3 then 1 else 0
theorem c3N_up {S : Int → Int} {k v : Int} : ∀ (n : Nat), 0 ≤ k → c3N (updI S k v) n = if k < n then c3N S n - (if S k = 3 then 1 else 0) + (if v = 3 then 1 else 0) else c3N S n
  | 0, hk => by
    rw [if_neg (by omega)]
    rfl
  | n + 1, hk => by
    have ih := c3N_up (S := S) (k := k) (v := v) n hk
    show c3N (updI S k v) n + (if updI S k v (n : Int) = 3 then 1 else 0) = _
    rw [ih]
    show _ = if k < ((n + 1 : Nat) : Int) then c3N S n + (if S (n : Int) = 3 then 1 else 0) - (if S k = 3 then 1 else 0) + (if v = 3 then 1 else 0) else c3N S n + (if S (n : Int) = 3 then 1 else 0)
    by_cases q : (n : Int) = k
    · rw [q, updI_at, if_neg (show ¬ k < k by omega), if_pos (show k < ((n + 1 : Nat) : Int) by omega)]
      omega
    · rw [updI_ne q]
      by_cases c : k < (n : Int)
      · rw [if_pos c, if_pos (show k < ((n + 1 : Nat) : Int) by omega)]
        omega
      · rw [if_neg c, if_neg (show ¬ k < ((n + 1 : Nat) : Int) by omega)]
theorem c3N_b (S : Int → Int) : ∀ n : Nat, 0 ≤ c3N S n ∧ c3N S n ≤ n
  | 0 => ⟨Int.le_refl _, Int.le_refl _⟩
  | n + 1 => by
    have ih := c3N_b S n
    show 0 ≤ c3N S n + (if S (n : Int) = 3 then 1 else 0) ∧ c3N S n + (if S (n : Int) = 3 then 1 else 0) ≤ ((n + 1 : Nat) : Int)
    split <;> omega
/-- in the course of the year: every tear is a broken promise's -/
def trI (n m : Int) (σ : ST3) : Prop := sumN σ.2.1 n.toNat = c3N σ.2.2 m.toNat ∧ ∀ k, 0 ≤ k → k < n → 0 ≤ σ.2.1 k
theorem foldI_inv {τ : Type} {f : Int → τ → τ} {s : τ} {P : Int → τ → Prop} {N : Nat} (h0 : P 0 s) (hs : ∀ i : Int, 0 ≤ i → i < N → ∀ t, P i t → P (i + 1) (f i t)) : ∀ n : Nat, n ≤ N → P (n : Int) (foldI f s n)
  | 0, _ => h0
  | n + 1, h => by
    have ih := foldI_inv (P := P) h0 hs n (by omega)
    have := hs (n : Int) (by omega) (by omega) _ ih
    rw [show ((n + 1 : Nat) : Int) = (n : Int) + 1 by omega]
    exact this
theorem sumN_le {T : Int → Int} : ∀ {n : Nat}, (∀ k : Int, 0 ≤ k → k < n → 0 ≤ T k) → 0 ≤ sumN T n ∧ ∀ k : Int, 0 ≤ k → k < n → T k ≤ sumN T n
  | 0, _ => ⟨Int.le_refl _, fun k h1 h2 => by omega⟩
  | n + 1, h => by
    obtain ⟨i1, i2⟩ := sumN_le (T := T) (n := n) (fun k h1 h2 => h k h1 (by omega))
    have hn := h (n : Int) (by omega) (by omega)
    have e : sumN T (n + 1) = sumN T n + T (n : Int) := rfl
    refine ⟨by omega, fun k h1 h2 => ?_⟩
    by_cases q : k = (n : Int)
    · rw [q]; omega
    · have := i2 k h1 (by omega)
      omega
def jS (n m : Int) (wh : Int → Int) (Z : Int → Prop) (σ : ST3) : Prop := (∀ p, 0 ≤ p → p < m → Z p → σ.2.2 p = 0) ∧ (∀ p, 0 ≤ p → p < m → ¬ σ.2.2 p = 0 → 0 ≤ wh p ∧ wh p < n) ∧ trI n m σ
section JS
variable {n m : Int} {wh : Int → Int} {Z Z' : Int → Prop} {σ : ST3}
theorem jS_z (h : jS n m wh Z σ) (hz : ∀ p, 0 ≤ p → p < m → Z' p → Z p) : jS n m wh Z' σ := ⟨fun p h1 h2 q => h.1 p h1 h2 (hz p h1 h2 q), h.2⟩
theorem jS_c {C : Int → Int} (h : jS n m wh Z σ) : jS n m wh Z (C, σ.2) := h
theorem jS_s {C : Int → Int} {p v : Int} (h : jS n m wh Z σ) (hp : 0 ≤ p ∧ p < m) (hv : ¬ v = 3 ∧ ¬ σ.2.2 p = 3) (hw : 0 ≤ wh p ∧ wh p < n) (hz : ∀ q, Z' q → Z q ∧ ¬ q = p) : jS n m wh Z' (C, σ.2.1, updI σ.2.2 p v) := by
  obtain ⟨h1, h2, h3, h4⟩ := h
  refine ⟨fun q q1 q2 q3 => ?_, fun q q1 q2 q3 => ?_, ?_, h4⟩
  · obtain ⟨z1, z2⟩ := hz q q3
    show updI σ.2.2 p v q = 0
    rw [updI_ne z2]
    exact h1 q q1 q2 z1
  · by_cases e : q = p
    · rw [e]; exact hw
    · have q3 : ¬ updI σ.2.2 p v q = 0 := q3
      rw [updI_ne e] at q3
      exact h2 q q1 q2 q3
  · show sumN σ.2.1 n.toNat = c3N (updI σ.2.2 p v) m.toNat
    rw [c3N_up _ hp.1, if_pos (by omega), if_neg hv.2, if_neg hv.1]
    omega
theorem jS_b {C : Int → Int} {p : Int} (h : jS n m wh Z σ) (hp : 0 ≤ p ∧ p < m) (hs : σ.2.2 p = 1) (hm : m ≤ 100) : jS n m wh Z (C, updI σ.2.1 (wh p) (mAdd (σ.2.1 (wh p)) 1), updI σ.2.2 p 3) := by
  obtain ⟨h1, h2, h3, h4⟩ := h
  have hw := h2 p hp.1 hp.2 (by omega)
  have hb := c3N_b σ.2.2 m.toNat
  have hl := (sumN_le (T := σ.2.1) (n := n.toNat) (fun k k1 k2 => h4 k k1 (by omega))).2 (wh p) hw.1 (by omega)
  have hn := h4 (wh p) hw.1 hw.2
  have e : mAdd (σ.2.1 (wh p)) 1 = σ.2.1 (wh p) + 1 := mAdd_in (by omega) (by omega) (by omega) (by omega) (by omega) (by omega)
  rw [e]
  refine ⟨fun q q1 q2 q3 => ?_, fun q q1 q2 q3 => ?_, ?_, fun k k1 k2 => ?_⟩
  · have z := h1 q q1 q2 q3
    show updI σ.2.2 p 3 q = 0
    rw [updI_ne (fun e => by rw [e] at z; omega)]
    exact z
  · by_cases e : q = p
    · rw [e]; exact hw
    · have q3 : ¬ updI σ.2.2 p 3 q = 0 := q3
      rw [updI_ne e] at q3
      exact h2 q q1 q2 q3
  · show sumN (updI σ.2.1 (wh p) (σ.2.1 (wh p) + 1)) n.toNat = c3N (updI σ.2.2 p 3) m.toNat
    rw [sumN_up _ hw.1, if_pos (by omega), c3N_up _ hp.1, if_pos (by omega), if_neg (by omega), if_pos rfl]
    omega
  · show 0 ≤ updI σ.2.1 (wh p) (σ.2.1 (wh p) + 1) k
    by_cases q : k = wh p
    · rw [q, updI_at]; omega
    · rw [updI_ne q]; exact h4 k k1 k2
theorem jS_day {nk nl nt u h d : Int} {so sz gr md du kd ko ld lw lm td tw tm : Int → Int} (hm : 0 ≤ m ∧ m ≤ 100) (hwn : ∀ p, 0 ≤ p → p < m → 0 ≤ wh p) (hk : ∀ i, 0 ≤ i → i < nk → 0 ≤ ko i) (h0 : jS n m wh (fun p => d ≤ md p) σ) : jS n m wh (fun p => d + 1 ≤ md p) (dyS n m m nk nl nt u h so sz wh gr md du kd ko ld lw lm td tw tm d σ) := by
  have a1 : jS n m wh (fun p => d + 1 ≤ md p) (foldI (mkS n so wh gr md d) σ m.toNat) := by
    have := foldI_inv (f := mkS n so wh gr md d) (s := σ) (P := fun i t => jS n m wh (fun p => d ≤ md p ∧ (md p = d → i ≤ p)) t) (N := m.toNat) (jS_z h0 (fun p h1 h2 q => q.1)) (fun i i1 i2 t ht => by
      show jS n m wh _ (mkS n so wh gr md d i t)
      unfold mkS
      by_cases c : md i = d ∧ wh i < n
      · rw [if_pos c]
        have z := ht.1 i i1 (by omega) ⟨by omega, fun _ => by omega⟩
        exact jS_s ht ⟨i1, by omega⟩ ⟨by omega, by omega⟩ ⟨hwn i i1 (by omega), c.2⟩ (fun q hq => ⟨⟨hq.1, fun e => by have := hq.2 e; omega⟩, fun e => by have := hq.2 (by rw [e]; exact c.1); omega⟩)
      · rw [if_neg c]
        exact jS_z ht (fun p h1 h2 q => ⟨q.1, fun e => by have := q.2 e; omega⟩)) m.toNat (Nat.le_refl _)
    exact jS_z this (fun p h1 h2 q => ⟨by omega, fun e => by omega⟩)
  have a2 : jS n m wh (fun p => d + 1 ≤ md p) (foldI (kpS m u sz wh gr kd ko d) (foldI (mkS n so wh gr md d) σ m.toNat) nk.toNat) := foldI_inv (f := kpS m u sz wh gr kd ko d) (P := fun _ t => jS n m wh (fun p => d + 1 ≤ md p) t) (N := nk.toNat) a1 (fun i i1 i2 t ht => by
    show jS n m wh _ (kpS m u sz wh gr kd ko d i t)
    unfold kpS
    by_cases c : kd i = d ∧ ¬ mAnd (mShr u i) 1 = 1 ∧ ko i < m ∧ t.2.2 (ko i) = 1
    · rw [if_pos c]
      have k0 := hk i i1 (by omega)
      exact jS_s ht ⟨k0, c.2.2.1⟩ ⟨by omega, by rw [c.2.2.2]; omega⟩ (ht.2.1 (ko i) k0 c.2.2.1 (by rw [c.2.2.2]; omega)) (fun q hq => ⟨hq, fun e => by
        have := ht.1 q (by omega) (by omega) hq
        rw [e, c.2.2.2] at this
        omega⟩)
    · rw [if_neg c]
      exact ht) nk.toNat (Nat.le_refl _)
  have a3 : jS n m wh (fun p => d + 1 ≤ md p) (d3S n m m nk u so sz wh gr md du kd ko d σ) := foldI_inv (f := brS so wh gr du d) (P := fun _ t => jS n m wh (fun p => d + 1 ≤ md p) t) (N := m.toNat) a2 (fun i i1 i2 t ht => by
    show jS n m wh _ (brS so wh gr du d i t)
    unfold brS
    by_cases c : du i = d ∧ t.2.2 i = 1
    · rw [if_pos c]
      exact jS_b ht ⟨i1, by omega⟩ c.2 hm.2
    · rw [if_neg c]
      exact ht) m.toNat (Nat.le_refl _)
  exact jS_c a3
theorem jS_year {nk nl nt u h : Int} {so sz gr md du kd ko ld lw lm td tw tm : Int → Int} (hm : 0 ≤ m ∧ m ≤ 100) (hwn : ∀ p, 0 ≤ p → p < m → 0 ≤ wh p) (hk : ∀ i, 0 ≤ i → i < nk → 0 ≤ ko i) (h0 : jS n m wh (fun p => 0 ≤ md p) σ) (N : Nat) : jS n m wh (fun p => (N : Int) ≤ md p) (rnS (dyS n m m nk nl nt u h so sz wh gr md du kd ko ld lw lm td tw tm) σ N) := by
  have := foldI_inv (f := dyS n m m nk nl nt u h so sz wh gr md du kd ko ld lw lm td tw tm) (s := σ) (P := fun i t => jS n m wh (fun p => i ≤ md p) t) (N := N) h0 (fun i i1 i2 t ht => jS_day hm hwn hk ht) N (Nat.le_refl _)
  exact this
end JS
theorem sumN_0 {T : Int → Int} : ∀ (n : Nat), (∀ k : Int, 0 ≤ k → k < n → T k = 0) → sumN T n = 0
  | 0, _ => rfl
  | n + 1, h => by
    have e : sumN T (n + 1) = sumN T n + T (n : Int) := rfl
    rw [e, sumN_0 n (fun k h1 h2 => h k h1 (by omega)), h (n : Int) (by omega) (by omega)]
    rfl
theorem c3N_0 {S : Int → Int} : ∀ (n : Nat), (∀ k : Int, 0 ≤ k → k < n → S k = 0) → c3N S n = 0
  | 0, _ => rfl
  | n + 1, h => by
    have e : c3N S (n + 1) = c3N S n + if S (n : Int) = 3 then 1 else 0 := rfl
    rw [e, c3N_0 n (fun k h1 h2 => h k h1 (by omega)), h (n : Int) (by omega) (by omega), if_neg (by omega)]
    rfl
theorem jS_in {n m : Int} {wh md sz c t s : Int → Int} (hn : 0 ≤ n) (hm : 0 ≤ m) : jS n m wh (fun p => 0 ≤ md p) (inS n m sz c t s) := by
  have q2 : ∀ k, 0 ≤ k → k < n → (inS n m sz c t s).2.1 k = 0 := fun k h1 h2 => by
    show upF t 0 (fun _ => 0) n.toNat k = 0
    rw [upF_at, if_pos (by omega)]
  have q3 : ∀ k, 0 ≤ k → k < m → (inS n m sz c t s).2.2 k = 0 := fun k h1 h2 => by
    show upF s 0 (fun _ => 0) m.toNat k = 0
    rw [upF_at, if_pos (by omega)]
  exact ⟨fun p h1 h2 _ => q3 p h1 h2, fun p h1 h2 q => absurd (q3 p h1 h2) q, by rw [sumN_0 _ (fun k h1 h2 => q2 k h1 (by omega)), c3N_0 _ (fun k h1 h2 => q3 k h1 (by omega))], fun k h1 h2 => by rw [q2 k h1 h2]; omega⟩
/-- the sum of the tears, and the broken promises counted -/
theorem rps_sum {T : Int → Int} {M : Int} (hM : M ≤ 1000) : ∀ (n : Nat), (∀ k : Int, 0 ≤ k → k < n → 0 ≤ T k) → sumN T n ≤ M → foldI (fun i b => mAdd b (T i)) 0 n = sumN T n
  | 0, _, _ => rfl
  | n + 1, h, hl => by
    have e : sumN T (n + 1) = sumN T n + T (n : Int) := rfl
    have hn := h (n : Int) (by omega) (by omega)
    have h0 := (sumN_le (T := T) (n := n) (fun k h1 h2 => h k h1 (by omega))).1
    have ih := rps_sum hM n (fun k h1 h2 => h k h1 (by omega)) (by omega)
    show mAdd (foldI (fun i b => mAdd b (T i)) 0 n) (T (n : Int)) = _
    rw [ih, mAdd_in (by omega) (by omega) (by omega) (by omega) (by omega) (by omega), e]
theorem rpT_c3 {S : Int → Int} : ∀ (n : Nat), foldI (fun p b => if S p = 3 then b + 1 else b) 0 n = c3N S n
  | 0 => rfl
  | n + 1 => by
    show (if S (n : Int) = 3 then foldI (fun p b => if S p = 3 then b + 1 else b) 0 n + 1 else foldI (fun p b => if S p = 3 then b + 1 else b) 0 n) = c3N S n + if S (n : Int) = 3 then 1 else 0
    rw [rpT_c3 n]
    split <;> omega
/-- of the reference's year: tears are broken promises, and no more than there are -/
theorem yY_rip {n m nk nl nt u h : Int} {so sz wh gr md du kd ko ld lw lm td tw tm CA TA SA C U S : Int → Int} (hy : yY n m nk nl nt u h so sz wh gr md du kd ko ld lw lm td tw tm CA TA SA C U S) (hn : 0 ≤ n) (hm : 0 ≤ m ∧ m ≤ 100) (hwn : ∀ p, 0 ≤ p → p < m → 0 ≤ wh p) (hk : ∀ i, 0 ≤ i → i < nk → 0 ≤ ko i) : rpsF U n = rpT3 S m ∧ 0 ≤ rpsF U n ∧ rpsF U n ≤ m := by
  obtain ⟨c, t, s, e, -⟩ := hy
  have J := jS_year (nl := nl) (nt := nt) (u := u) (h := h) (so := so) (sz := sz) (gr := gr) (du := du) (kd := kd) (ld := ld) (lw := lw) (lm := lm) (td := td) (tw := tw) (tm := tm) hm hwn hk (jS_in (wh := wh) (md := md) (sz := sz) (c := c) (t := t) (s := s) hn hm.1) (24 : Int).toNat
  rw [← e] at J
  obtain ⟨-, -, j1, j2⟩ := J
  have hb := c3N_b S m.toNat
  have j1 : sumN U n.toNat = c3N S m.toNat := j1
  have e1 : rpsF U n = sumN U n.toNat := rps_sum (M := 100) (by omega) n.toNat (fun k h1 h2 => j2 k h1 (by omega)) (by omega)
  have e2 : rpT3 S m = c3N S m.toNat := rpT_c3 _
  omega
/-! ===== the first least, below a bound ===== -/
def amn (i w v b : Int) (G : Int → Int) : Prop := (w = -1 ∧ v = b ∧ ∀ j, 0 ≤ j → j < i → b ≤ G j) ∨ (0 ≤ w ∧ w < i ∧ v = G w ∧ v < b ∧ (∀ j, 0 ≤ j → j < i → v ≤ G j) ∧ ∀ j, 0 ≤ j → j < w → v < G j)
def obM (Q : Int → Int → Prop) (i w v b : Int) : Prop := ∃ G, (∀ d, 0 ≤ d → d < i → Q d (G d)) ∧ amn i w v b G
theorem obM_z {Q : Int → Int → Prop} {b : Int} : obM Q 0 (-1) b b := ⟨fun _ => 0, fun d h1 h2 => by omega, Or.inl ⟨rfl, rfl, fun j h1 h2 => by omega⟩⟩
theorem obM_t {Q : Int → Int → Prop} {i w v b x : Int} (h : obM Q i w v b) (hi : 0 ≤ i) (hq : Q i x) (hv : x < v) : obM Q (i + 1) i x b := by
  obtain ⟨G, g1, g2⟩ := h
  have e : updI G i x i = x := updI_at _ _ _
  have en : ∀ j, 0 ≤ j → j < i → updI G i x j = G j := fun j h1 h2 => updI_ne (by omega)
  refine ⟨updI G i x, fun d h1 h2 => ?_, Or.inr ⟨hi, by omega, e.symm, ?_, fun j h1 h2 => ?_, fun j h1 h2 => ?_⟩⟩
  · by_cases q : d = i
    · rw [q, e]; exact hq
    · rw [updI_ne q]; exact g1 d h1 (by omega)
  · rcases g2 with ⟨-, q, -⟩ | ⟨-, -, -, q, -, -⟩ <;> omega
  · by_cases q : j = i
    · rw [q, e]; exact Int.le_refl _
    · rw [en j h1 (by omega)]
      rcases g2 with ⟨-, u, p⟩ | ⟨-, -, -, -, p, -⟩
      · have := p j h1 (by omega); omega
      · have := p j h1 (by omega); omega
  · rw [en j h1 h2]
    rcases g2 with ⟨-, u, p⟩ | ⟨-, -, -, -, p, -⟩
    · have := p j h1 h2; omega
    · have := p j h1 h2; omega
theorem obM_k {Q : Int → Int → Prop} {i w v b x : Int} (h : obM Q i w v b) (hi : 0 ≤ i) (hq : Q i x) (hv : v ≤ x) : obM Q (i + 1) w v b := by
  obtain ⟨G, g1, g2⟩ := h
  have e : updI G i x i = x := updI_at _ _ _
  have en : ∀ j, 0 ≤ j → j < i → updI G i x j = G j := fun j h1 h2 => updI_ne (by omega)
  refine ⟨updI G i x, fun d h1 h2 => ?_, ?_⟩
  · by_cases q : d = i
    · rw [q, e]; exact hq
    · rw [updI_ne q]; exact g1 d h1 (by omega)
  · rcases g2 with ⟨a, u, p⟩ | ⟨a1, a2, a3, a4, p, p2⟩
    · refine Or.inl ⟨a, u, fun j h1 h2 => ?_⟩
      by_cases q : j = i
      · rw [q, e]; omega
      · rw [en j h1 (by omega)]; exact p j h1 (by omega)
    · refine Or.inr ⟨a1, by omega, by rw [en w a1 a2]; exact a3, a4, fun j h1 h2 => ?_, fun j h1 h2 => ?_⟩
      · by_cases q : j = i
        · rw [q, e]; exact hv
        · rw [en j h1 (by omega)]; exact p j h1 (by omega)
      · rw [en j h1 (by omega)]; exact p2 j h1 h2
theorem obM_eq {Q Q' : Int → Int → Prop} {i w v b w' v' b' : Int} (h : obM Q i w v b) (h' : obM Q' i w' v' b') (hi : 0 < i) (hQ : ∀ d x y, 0 ≤ d → d < i → Q d x → Q' d y → x = y ∧ x < b ∧ x < b') : w = w' ∧ v = v' := by
  obtain ⟨G, g1, g2⟩ := h
  obtain ⟨G', g1', g2'⟩ := h'
  have hG : ∀ d, 0 ≤ d → d < i → G d = G' d ∧ G d < b ∧ G d < b' := fun d h1 h2 => hQ d _ _ h1 h2 (g1 d h1 h2) (g1' d h1 h2)
  have z := hG 0 (by omega) hi
  rcases g2 with ⟨-, -, p⟩ | ⟨a1, a2, a3, a4, p, p2⟩
  · have := p 0 (by omega) hi; omega
  · rcases g2' with ⟨-, -, p'⟩ | ⟨c1, c2, c3, c4, p', p2'⟩
    · have := p' 0 (by omega) hi; omega
    · have u1 := p w' c1 c2
      have u2 := p' w a1 a2
      have e1 := hG w a1 a2
      have e2 := hG w' c1 c2
      rcases Int.lt_trichotomy w w' with q | q | q
      · have := p2' w a1 q; omega
      · exact ⟨q, by rw [a3, c3, q]; exact e2.1⟩
      · have := p2 w' c1 q; omega
def dueQ (p n m nk nl nt : Int) (so sz wh gr md du kd ko ld lw lm td tw tm : Int → Int) (d v : Int) : Prop := ∃ du' C T S : Int → Int, (∀ q, ¬ q = p → du' q = du q) ∧ du' p = d ∧ yX (5 * (23 + 1)) n m nk nl nt 0 0 so sz wh gr md du' kd ko ld lw lm td tw tm C T S ∧ v = rpsF T n
def dueY (p n m nk nl nt : Int) (so sz wh gr md du kd ko ld lw lm td tw tm : Int → Int) (d v : Int) : Prop := ∃ du' CA TA SA C U S : Int → Int, (∀ q, ¬ q = p → du' q = du q) ∧ du' p = d ∧ yY n m nk nl nt 0 0 so sz wh gr md du' kd ko ld lw lm td tw tm CA TA SA C U S ∧ v = rpsF U n
/-! ===== what was seen ===== -/
def okS (n : Int) (C sw sm : Int → Int) (j : Int) : Prop := 0 ≤ sw j ∧ sw j < n ∧ C (sw j) = sm j
def shX1 (n m nk nl nt u h : Int) (so sz wh gr md du kd ko ld lw lm td tw tm sd sw sm : Int → Int) (j : Int) : Prop := ∃ C T S, yX (5 * (sd j + 1)) n m nk nl nt u h so sz wh gr md du kd ko ld lw lm td tw tm C T S ∧ okS n C sw sm j
def shX0 (n m nk nl nt u h : Int) (so sz wh gr md du kd ko ld lw lm td tw tm sd sw sm : Int → Int) (j : Int) : Prop := ∃ C T S, yX (5 * (sd j + 1)) n m nk nl nt u h so sz wh gr md du kd ko ld lw lm td tw tm C T S ∧ ¬ okS n C sw sm j
def shQ (ns n m nk nl nt u h : Int) (so sz wh gr md du kd ko ld lw lm td tw tm sd sw sm : Int → Int) (v : Int) : Prop := (v = 1 ∧ ∀ j, 0 ≤ j → j < ns → 0 ≤ sd j → sd j ≤ 23 → shX1 n m nk nl nt u h so sz wh gr md du kd ko ld lw lm td tw tm sd sw sm j) ∨ (v = 0 ∧ ∃ j, 0 ≤ j ∧ j < ns ∧ 0 ≤ sd j ∧ sd j ≤ 23 ∧ shX0 n m nk nl nt u h so sz wh gr md du kd ko ld lw lm td tw tm sd sw sm j)
def okT (n : Int) (CA sd sw sm : Int → Int) (j : Int) : Prop := sw j < n ∧ CA (8 * sd j + sw j) = sm j
def shT (ns n : Int) (CA sd sw sm : Int → Int) (v : Int) : Prop := (v = 1 ∧ ∀ j, 0 ≤ j → j < ns → okT n CA sd sw sm j) ∨ (v = 0 ∧ ∃ j, 0 ≤ j ∧ j < ns ∧ ¬ okT n CA sd sw sm j)
def shYQ (ns n m nk nl nt u h : Int) (so sz wh gr md du kd ko ld lw lm td tw tm sd sw sm : Int → Int) (v : Int) : Prop := ∃ CA TA SA C U S, yY n m nk nl nt u h so sz wh gr md du kd ko ld lw lm td tw tm CA TA SA C U S ∧ shT ns n CA sd sw sm v
/-- bits of those tries that come out -/
def gB (G : Int → Int) (i : Int) : Int := foldI (fun j b => if G j = 1 then mOr b (mShl 1 j) else b) 0 i.toNat
def obB (Q : Int → Int → Prop) (i b : Int) : Prop := ∃ G, (∀ j, 0 ≤ j → j < i → Q j (G j)) ∧ b = gB G i
theorem gB_cg {G G' : Int → Int} {i : Int} (h : ∀ j, 0 ≤ j → j < i → G j = G' j) : gB G i = gB G' i := foldI_cg _ (fun j h1 h2 t => by rw [h j h1 (by omega)])
theorem obB_z {Q : Int → Int → Prop} : obB Q 0 0 := ⟨fun _ => 0, fun j h1 h2 => by omega, rfl⟩
theorem obB_s {Q : Int → Int → Prop} {i b x b' : Int} (h : obB Q i b) (hi : 0 ≤ i) (hq : Q i x) (hb : b' = if x = 1 then mOr b (mShl 1 i) else b) : obB Q (i + 1) b' := by
  obtain ⟨G, g1, g2⟩ := h
  have e : updI G i x i = x := updI_at _ _ _
  refine ⟨updI G i x, fun d h1 h2 => ?_, ?_⟩
  · by_cases q : d = i
    · rw [q, e]; exact hq
    · rw [updI_ne q]; exact g1 d h1 (by omega)
  · unfold gB
    rw [foldI_s hi, e]
    have := gB_cg (G := updI G i x) (G' := G) (i := i) (fun j h1 h2 => updI_ne (by omega))
    unfold gB at this g2
    rw [this, ← g2]
    exact hb
theorem obB_eq {Q Q' : Int → Int → Prop} {i b b' : Int} (h : obB Q i b) (h' : obB Q' i b') (hQ : ∀ j x y, 0 ≤ j → j < i → Q j x → Q' j y → x = y) : b = b' := by
  obtain ⟨G, g1, g2⟩ := h
  obtain ⟨G', g1', g2'⟩ := h'
  rw [g2, g2']
  exact gB_cg (fun j h1 h2 => hQ j _ _ h1 h2 (g1 j h1 h2) (g1' j h1 h2))
/-! ===== of what size, of what sort one is ===== -/
def wsQ (k ns n m nk nl nt u h : Int) (so sz wh gr md du kd ko ld lw lm td tw tm sd sw sm : Int → Int) (v x : Int) : Prop := ∃ sz' : Int → Int, (∀ q, ¬ q = k → sz' q = sz q) ∧ sz' k = v ∧ shQ ns n m nk nl nt u h so sz' wh gr md du kd ko ld lw lm td tw tm sd sw sm x
def woQ (k ns n m nk nl nt u h : Int) (so sz wh gr md du kd ko ld lw lm td tw tm sd sw sm : Int → Int) (v x : Int) : Prop := ∃ so' : Int → Int, (∀ q, ¬ q = k → so' q = so q) ∧ so' k = v ∧ shQ ns n m nk nl nt u h so' sz wh gr md du kd ko ld lw lm td tw tm sd sw sm x
def wsY (k ns n m nk nl nt u h : Int) (so sz wh gr md du kd ko ld lw lm td tw tm sd sw sm : Int → Int) (v x : Int) : Prop := ∃ sz' : Int → Int, (∀ q, ¬ q = k → sz' q = sz q) ∧ sz' k = v ∧ shYQ ns n m nk nl nt u h so sz' wh gr md du kd ko ld lw lm td tw tm sd sw sm x
def woY (k ns n m nk nl nt u h : Int) (so sz wh gr md du kd ko ld lw lm td tw tm sd sw sm : Int → Int) (v x : Int) : Prop := ∃ so' : Int → Int, (∀ q, ¬ q = k → so' q = so q) ∧ so' k = v ∧ shYQ ns n m nk nl nt u h so' sz wh gr md du kd ko ld lw lm td tw tm sd sw sm x
/-- the coat of a person by its size, behind a day -/
def cbX (k n m nk nl nt u h : Int) (so sz wh gr md du kd ko ld lw lm td tw tm : Int → Int) (v d x : Int) : Prop := ∃ sz' C T S : Int → Int, (∀ q, ¬ q = k → sz' q = sz q) ∧ sz' k = v ∧ yX (5 * (d + 1)) n m nk nl nt u h so sz' wh gr md du kd ko ld lw lm td tw tm C T S ∧ x = C k
def cbY (k n m nk nl nt u h : Int) (so sz wh gr md du kd ko ld lw lm td tw tm : Int → Int) (v d x : Int) : Prop := ∃ sz' CA TA SA C U S : Int → Int, (∀ q, ¬ q = k → sz' q = sz q) ∧ sz' k = v ∧ yY n m nk nl nt u h so sz' wh gr md du kd ko ld lw lm td tw tm CA TA SA C U S ∧ x = CA (8 * d + k)
/-- while sizes are tried: the text as it was read, the row with one size in it, what came out so far -/
def wyS (i b k t ns n m nk nl nt : Int) (L T so D4 wh gr md du KD KO ld lw lm td tw tm sd sw sm CB : Int → Int) : Prop := ∃ a b' sz, rdP a n (L 0) T so sz ∧ rdV b' m (L 1) (sh T) wh gr md du ∧ (∀ q, ¬ q = k → D4 q = sz q) ∧ t = sz k ∧ obB (wsY k ns n m nk nl nt 0 0 so sz wh gr md du KD KO ld lw lm td tw tm sd sw sm) i b ∧ ∀ v d, 0 ≤ v → v < i → 0 ≤ d → d < 24 → cbY k n m nk nl nt 0 0 so sz wh gr md du KD KO ld lw lm td tw tm v d (CB (24 * v + d))
def wyT (v d b k t ns n m nk nl nt : Int) (L T so D4 wh gr md du KD KO ld lw lm td tw tm sd sw sm CB CA : Int → Int) : Prop := ∃ a b' sz, rdP a n (L 0) T so sz ∧ rdV b' m (L 1) (sh T) wh gr md du ∧ (∀ q, ¬ q = k → D4 q = sz q) ∧ D4 k = v ∧ t = sz k ∧ obB (wsY k ns n m nk nl nt 0 0 so sz wh gr md du KD KO ld lw lm td tw tm sd sw sm) (v + 1) b ∧ (∀ w e, 0 ≤ w → w < v → 0 ≤ e → e < 24 → cbY k n m nk nl nt 0 0 so sz wh gr md du KD KO ld lw lm td tw tm w e (CB (24 * w + e))) ∧ (∃ TA SA C U S, yY n m nk nl nt 0 0 so D4 wh gr md du KD KO ld lw lm td tw tm CA TA SA C U S) ∧ ∀ e, 0 ≤ e → e < d → CB (24 * v + e) = CA (8 * e + k)
theorem wyT_s {v d b k t ns n m nk nl nt : Int} {L T so D4 wh gr md du KD KO ld lw lm td tw tm sd sw sm CB CA : Int → Int} (h : wyT v d b k t ns n m nk nl nt L T so D4 wh gr md du KD KO ld lw lm td tw tm sd sw sm CB CA) (hv : 0 ≤ v) (hd : 0 ≤ d ∧ d < 24) : wyT v (d + 1) b k t ns n m nk nl nt L T so D4 wh gr md du KD KO ld lw lm td tw tm sd sw sm (updI CB (24 * v + d) (CA (8 * d + k))) CA := by
  obtain ⟨a, b', sz, h1, h2, h3, h4, h5, h6, h7, h8, h9⟩ := h
  refine ⟨a, b', sz, h1, h2, h3, h4, h5, h6, fun w e w1 w2 e1 e2 => ?_, h8, fun e e1 e2 => ?_⟩
  · rw [updI_ne (by omega)]
    exact h7 w e w1 w2 e1 e2
  · by_cases q : e = d
    · rw [q, updI_at]
    · rw [updI_ne (by omega)]
      exact h9 e e1 (by omega)
theorem wyT_e {v d b k t ns n m nk nl nt : Int} {L T so D4 wh gr md du KD KO ld lw lm td tw tm sd sw sm CB CA : Int → Int} (h : wyT v d b k t ns n m nk nl nt L T so D4 wh gr md du KD KO ld lw lm td tw tm sd sw sm CB CA) (hv : 0 ≤ v) (hd : 24 ≤ d) : wyS (v + 1) b k t ns n m nk nl nt L T so D4 wh gr md du KD KO ld lw lm td tw tm sd sw sm CB := by
  obtain ⟨a, b', sz, h1, h2, h3, h4, h5, h6, h7, ⟨TA, SA, C, U, S, h8⟩, h9⟩ := h
  refine ⟨a, b', sz, h1, h2, h3, h5, h6, fun w e w1 w2 e1 e2 => ?_⟩
  by_cases q : w = v
  · subst q
    rw [h9 e e1 (by omega)]
    exact ⟨D4, CA, TA, SA, C, U, S, h3, h4, h8, rfl⟩
  · exact h7 w e w1 (by omega) e1 e2
/-! ===== other years by a seed ===== -/
def nxF (s : Int) : Int := mAdd (mMul 1103515245 s) 12345
def sdF (s : Int) (i : Int) : Int := foldI (fun _ t => nxF (nxF t)) s i.toNat
def drD (s i : Int) : Int := mUsh (nxF (sdF s i)) 16 % 24
def drO (s m i : Int) : Int := mUsh (nxF (nxF (sdF s i))) 16 % m
theorem sdF_s {s i : Int} (h : 0 ≤ i) : sdF s (i + 1) = nxF (nxF (sdF s i)) := foldI_s h
def drS (s m i : Int) (D O : Int → Int) : Prop := ∀ j, 0 ≤ j → j < i → D j = drD s j ∧ O j = drO s m j
theorem drS_z {s m : Int} {D O : Int → Int} : drS s m 0 D O := fun j h1 h2 => by omega
theorem drS_s {s m i x y : Int} {D O : Int → Int} (h : drS s m i D O) (hx : x = drD s i) (hy : y = drO s m i) : drS s m (i + 1) (updI D i x) (updI O i y) := fun j h1 h2 => by
  by_cases q : j = i
  · rw [q, updI_at, updI_at]
    exact ⟨hx, hy⟩
  · rw [updI_ne q, updI_ne q]
    exact h j h1 (by omega)
/-! ===== lies that had better not be told ===== -/
def hqX (n m nk nl nt : Int) (so sz wh gr md du kd ko ld lw lm td tw tm : Int → Int) (h v : Int) : Prop := ∃ C T S, yX (5 * (23 + 1)) n m nk nl nt 0 h so sz wh gr md du kd ko ld lw lm td tw tm C T S ∧ ((v = 1 ∧ nkdF C n = 0) ∨ (v = 0 ∧ ¬ nkdF C n = 0))
def hqY (n m nk nl nt : Int) (so sz wh gr md du kd ko ld lw lm td tw tm : Int → Int) (h v : Int) : Prop := ∃ CA TA SA C U S, yY n m nk nl nt 0 h so sz wh gr md du kd ko ld lw lm td tw tm CA TA SA C U S ∧ ((v = 1 ∧ nkdF (atD 23 CA) n = 0) ∨ (v = 0 ∧ ¬ nkdF (atD 23 CA) n = 0))
def l1 (a : Int) : Int := mShl 1 a
def l2 (a b : Int) : Int := mOr (mShl 1 a) (mShl 1 b)
/-- none of the first i, of the pairs before (a, b) -/
def hu1 (Q : Int → Int → Prop) (i : Int) : Prop := Q 0 0 ∧ ∀ j, 0 ≤ j → j < i → Q (l1 j) 0
def hu2 (Q : Int → Int → Prop) (nl a b : Int) : Prop := hu1 Q nl ∧ (∀ j k, 0 ≤ j → j < a → j < k → k < nl → Q (l2 j k) 0) ∧ ∀ k, a < k → k < b → Q (l2 a k) 0
def hu3 (Q : Int → Int → Prop) (nl a : Int) : Prop := hu1 Q nl ∧ ∀ j k, 0 ≤ j → j < a → j < k → k < nl → Q (l2 j k) 0
/-- what comes out: how many, and which -/
def huR (Q : Int → Int → Prop) (nl c a b : Int) : Prop := (c = 0 ∧ Q 0 1) ∨ (c = 1 ∧ 0 ≤ a ∧ a < nl ∧ hu1 Q a ∧ Q (l1 a) 1) ∨ (c = 2 ∧ 0 ≤ a ∧ a < b ∧ b < nl ∧ hu2 Q nl a b ∧ Q (l2 a b) 1) ∨ (c = -1 ∧ hu3 Q nl nl)
theorem huR_eq {Q Q' : Int → Int → Prop} {nl c a b c' a' b' : Int} (hQ : ∀ h v v', Q h v → Q' h v' → v = v') (x : huR Q nl c a b) (y : huR Q' nl c' a' b') : c = c' ∧ (1 ≤ c → a = a') ∧ (c = 2 → b = b') := by
  have N : ∀ {h : Int}, Q h 0 → Q' h 1 → False := fun p q => by have := hQ _ _ _ p q; omega
  have N' : ∀ {h : Int}, Q h 1 → Q' h 0 → False := fun p q => by have := hQ _ _ _ p q; omega
  rcases x with ⟨x0, x1⟩ | ⟨x0, x1, x2, x3, x4⟩ | ⟨x0, x1, x2, x3, x4, x5⟩ | ⟨x0, x1⟩ <;> rcases y with ⟨y0, y1⟩ | ⟨y0, y1, y2, y3, y4⟩ | ⟨y0, y1, y2, y3, y4, y5⟩ | ⟨y0, y1⟩
  · exact ⟨by omega, by omega, by omega⟩
  · exact (N' x1 y3.1).elim
  · exact (N' x1 y4.1.1).elim
  · exact (N' x1 y1.1.1).elim
  · exact (N x3.1 y1).elim
  · have e : a = a' := by
      rcases Int.lt_trichotomy a a' with q | q | q
      · exact (N' x4 (y3.2 a x1 q)).elim
      · exact q
      · exact (N (x3.2 a' y1 q) y4).elim
    exact ⟨by omega, fun _ => e, by omega⟩
  · exact (N' x4 (y4.1.2 a x1 x2)).elim
  · exact (N' x4 (y1.1.2 a x1 x2)).elim
  · exact (N x4.1.1 y1).elim
  · exact (N (x4.1.2 a' y1 y2) y4).elim
  · have e : a = a' := by
      rcases Int.lt_trichotomy a a' with q | q | q
      · exact (N' x5 (y4.2.1 a b x1 q x2 x3)).elim
      · exact q
      · exact (N (x4.2.1 a' b' y1 q y2 y3) y5).elim
    subst e
    have e2 : b = b' := by
      rcases Int.lt_trichotomy b b' with q | q | q
      · exact (N' x5 (y4.2.2 b x2 q)).elim
      · exact q
      · exact (N (x4.2.2 b' y2 q) y5).elim
    exact ⟨by omega, fun _ => rfl, fun _ => e2⟩
  · exact (N' x5 (y1.2 a b x1 (by omega) x2 x3)).elim
  · exact (N x1.1.1 y1).elim
  · exact (N (x1.1.2 a' y1 y2) y4).elim
  · exact (N (x1.2 a' b' y1 (by omega) y2 y3) y5).elim
  · exact ⟨by omega, by omega, by omega⟩
def nt2 (n i : Int) : Int := if 4 < i then mAdd (n + 2) (mUsh (mUsh i 2) 1) else mAdd n (mUsh i 1)
def nt4 (n i : Int) : Int := if 16 < i then nt2 (n + 4) (mUsh i 4) else nt2 n i
def nt8 (n i : Int) : Int := if 256 < i then nt4 (n + 8) (mUsh i 8) else nt4 n i
def nt16 (n i : Int) : Int := if 65536 < i then nt8 (n + 16) (mUsh i 16) else nt8 n i
def ntF (x : Int) : Int := if mAnd (mXor x (-1)) (mSub x 1) ≤ 0 then mAnd (mAnd (mXor x (-1)) (mSub x 1)) 32 else nt16 1 (mAnd (mXor x (-1)) (mSub x 1))
def huV (c a b r : Int) : Prop := (c = 0 ∧ r = 0) ∨ (c = 1 ∧ 0 ≤ a ∧ a < 6 ∧ r = l1 a) ∨ (c = 2 ∧ 0 ≤ a ∧ a < b ∧ b < 6 ∧ r = l2 a b) ∨ (c = -1 ∧ r = -1)
set_option maxRecDepth 100000 in
theorem hu_t : (List.range 6).all (fun a => decide (bcF (l1 (a : Int)) = 1) && (decide (ntF (l1 (a : Int)) = (a : Int)) && (decide (¬ l1 (a : Int) = -1) && (List.range 6).all (fun b => !decide (a < b) || (decide (bcF (l2 (a : Int) (b : Int)) = 2) && (decide (ntF (l2 (a : Int) (b : Int)) = (a : Int)) && (decide (ntF (mAnd (l2 (a : Int) (b : Int)) (mSub (l2 (a : Int) (b : Int)) 1)) = (b : Int)) && decide (¬ l2 (a : Int) (b : Int) = -1)))))))) = true := by decide +kernel
theorem hu_1 {a : Int} (h : 0 ≤ a ∧ a < 6) : bcF (l1 a) = 1 ∧ ntF (l1 a) = a ∧ ¬ l1 a = -1 := by
  have := List.all_eq_true.mp hu_t a.toNat (List.mem_range.mpr (by omega))
  simp only [Bool.and_eq_true, decide_eq_true_eq, Int.toNat_of_nonneg h.1] at this
  exact ⟨this.1, this.2.1, this.2.2.1⟩
theorem hu_2 {a b : Int} (h : 0 ≤ a ∧ a < b ∧ b < 6) : bcF (l2 a b) = 2 ∧ ntF (l2 a b) = a ∧ ntF (mAnd (l2 a b) (mSub (l2 a b) 1)) = b ∧ ¬ l2 a b = -1 := by
  have := List.all_eq_true.mp hu_t a.toNat (List.mem_range.mpr (by omega))
  simp only [Bool.and_eq_true, decide_eq_true_eq] at this
  have := List.all_eq_true.mp this.2.2.2 b.toNat (List.mem_range.mpr (by omega))
  simp only [Bool.or_eq_true, Bool.not_eq_true', decide_eq_false_iff_not, Bool.and_eq_true, decide_eq_true_eq, Int.toNat_of_nonneg h.1, Int.toNat_of_nonneg (show 0 ≤ b by omega)] at this
  rcases this with q | q
  · exact absurd (by omega) q
  · exact q
theorem huV_of {Q : Int → Int → Prop} {nl c a b r : Int} (hn : nl ≤ 6) (h : huR Q nl c a b) (e0 : c = 0 → r = 0) (e1 : c = 1 → r = l1 a) (e2 : c = 2 → r = l2 a b) (e3 : c = -1 → r = -1) : huV c a b r := by
  rcases h with ⟨x0, -⟩ | ⟨x0, x1, x2, -⟩ | ⟨x0, x1, x2, x3, -⟩ | ⟨x0, -⟩
  · exact Or.inl ⟨x0, e0 x0⟩
  · exact Or.inr (Or.inl ⟨x0, x1, by omega, e1 x0⟩)
  · exact Or.inr (Or.inr (Or.inl ⟨x0, x1, x2, by omega, e2 x0⟩))
  · exact Or.inr (Or.inr (Or.inr ⟨x0, e3 x0⟩))
theorem huV_m {c a b r : Int} (h : huV c a b r) (hr : ¬ r = -1) : bcF r = c ∧ 0 ≤ c ∧ (1 ≤ c → ntF r = a) ∧ (c = 2 → ntF (mAnd r (mSub r 1)) = b) := by
  rcases h with ⟨x0, x1⟩ | ⟨x0, x1, x2, x3⟩ | ⟨x0, x1, x2, x3, x4⟩ | ⟨x0, x1⟩
  · subst x0 x1
    exact ⟨by decide +kernel, by omega, fun q => by omega, fun q => by omega⟩
  · obtain ⟨u1, u2, -⟩ := hu_1 ⟨x1, x2⟩
    subst x0 x3
    exact ⟨u1, by omega, fun _ => u2, fun q => by omega⟩
  · obtain ⟨u1, u2, u3, -⟩ := hu_2 ⟨x1, x2, x3⟩
    subst x0 x4
    exact ⟨u1, by omega, fun _ => u2, fun _ => u3⟩
  · exact absurd x1 hr
theorem huV_n {c a b r : Int} (h : huV c a b r) (hr : r = -1) : c = -1 := by
  rcases h with ⟨x0, x1⟩ | ⟨x0, x1, x2, x3⟩ | ⟨x0, x1, x2, x3, x4⟩ | ⟨x0, x1⟩
  · omega
  · exact absurd (x3 ▸ hr) (hu_1 ⟨x1, x2⟩).2.2
  · exact absurd (x4 ▸ hr) (hu_2 ⟨x1, x2, x3⟩).2.2.2
  · exact x0
/-! ===== the next day to look ===== -/
def rowC (v : Int) (a0 a1 a2 a3 a4 a5 a6 a7 a8 a9 : Int → Int) : Int → Int := if v = 0 then a0 else if v = 1 then a1 else if v = 2 then a2 else if v = 3 then a3 else if v = 4 then a4 else if v = 5 then a5 else if v = 6 then a6 else if v = 7 then a7 else if v = 8 then a8 else a9
section RC
variable {a0 a1 a2 a3 a4 a5 a6 a7 a8 a9 : Int → Int}
theorem rowC_0 : rowC 0 a0 a1 a2 a3 a4 a5 a6 a7 a8 a9 = a0 := by simp [rowC]
theorem rowC_1 : rowC 1 a0 a1 a2 a3 a4 a5 a6 a7 a8 a9 = a1 := by simp [rowC]
theorem rowC_2 : rowC 2 a0 a1 a2 a3 a4 a5 a6 a7 a8 a9 = a2 := by simp [rowC]
theorem rowC_3 : rowC 3 a0 a1 a2 a3 a4 a5 a6 a7 a8 a9 = a3 := by simp [rowC]
theorem rowC_4 : rowC 4 a0 a1 a2 a3 a4 a5 a6 a7 a8 a9 = a4 := by simp [rowC]
theorem rowC_5 : rowC 5 a0 a1 a2 a3 a4 a5 a6 a7 a8 a9 = a5 := by simp [rowC]
theorem rowC_6 : rowC 6 a0 a1 a2 a3 a4 a5 a6 a7 a8 a9 = a6 := by simp [rowC]
theorem rowC_7 : rowC 7 a0 a1 a2 a3 a4 a5 a6 a7 a8 a9 = a7 := by simp [rowC]
theorem rowC_8 : rowC 8 a0 a1 a2 a3 a4 a5 a6 a7 a8 a9 = a8 := by simp [rowC]
theorem rowC_9 : rowC 9 a0 a1 a2 a3 a4 a5 a6 a7 a8 a9 = a9 := by simp [rowC]
end RC
def ncS (Q : Int → Int → Int → Prop) (i d : Int) (R : Int → Int → Int) : Prop := (∀ v e, 0 ≤ v → v < i → 0 ≤ e → e < 24 → Q v e (R v e)) ∧ ∀ e, 0 ≤ e → e < d → Q i e (R i e)
theorem ncS_z {Q : Int → Int → Int → Prop} {R : Int → Int → Int} : ncS Q 0 0 R := ⟨fun v e h1 h2 => by omega, fun e h1 h2 => by omega⟩
theorem ncS_s {Q : Int → Int → Int → Prop} {R R' : Int → Int → Int} {i d x : Int} (h : ncS Q i d R) (hi : 0 ≤ i ∧ i < 10) (e1 : R' i = updI (R i) d x) (e2 : ∀ v, 0 ≤ v → v < 10 → ¬ v = i → R' v = R v) (hq : Q i d x) : ncS Q i (d + 1) R' := by
  refine ⟨fun v e v1 v2 h1 h2 => ?_, fun e h1 h2 => ?_⟩
  · rw [e2 v v1 (by omega) (by omega)]
    exact h.1 v e v1 v2 h1 h2
  · rw [e1]
    by_cases q : e = d
    · rw [q, updI_at]; exact hq
    · rw [updI_ne q]; exact h.2 e h1 (by omega)
theorem ncS_e {Q : Int → Int → Int → Prop} {R : Int → Int → Int} {i d : Int} (h : ncS Q i d R) (hd : 24 ≤ d) : ncS Q (i + 1) 0 R := by
  refine ⟨fun v e v1 v2 h1 h2 => ?_, fun e h1 h2 => by omega⟩
  by_cases q : v = i
  · subst q; exact h.2 e h1 (by omega)
  · exact h.1 v e v1 (by omega) h1 h2
def bit1 (s a : Int) : Prop := mAnd (mShr s a) 1 = 1
def alN (s : Int) (f : Int → Int) (a : Int) (b : Int) : Int := foldI (fun b c => if mAnd (mShr s a) 1 = 1 ∧ mAnd (mShr s b) 1 = 1 ∧ f a = f b then c + 1 else c) 0 b.toNat
def maN (s : Int) (f : Int → Int) (a : Int) : Int := foldI (fun a m => max m (alN s f a 10)) 0 a.toNat
theorem alN_s {s a b : Int} {f : Int → Int} (h : 0 ≤ b) : alN s f a (b + 1) = if mAnd (mShr s a) 1 = 1 ∧ mAnd (mShr s b) 1 = 1 ∧ f a = f b then alN s f a b + 1 else alN s f a b := foldI_s h
theorem maN_s {s a : Int} {f : Int → Int} (h : 0 ≤ a) : maN s f (a + 1) = max (maN s f a) (alN s f a 10) := foldI_s h
theorem alN_b {s a : Int} {f : Int → Int} : ∀ n : Nat, 0 ≤ alN s f a (n : Int) ∧ alN s f a (n : Int) ≤ n
  | 0 => ⟨Int.le_refl _, Int.le_refl _⟩
  | n + 1 => by
    have ih := alN_b (s := s) (a := a) (f := f) n
    rw [show ((n + 1 : Nat) : Int) = (n : Int) + 1 by omega, alN_s (by omega)]
    split <;> omega
theorem alN_cg {s a b : Int} {f g : Int → Int} (h : ∀ v, 0 ≤ v → v < 10 → f v = g v) (ha : 0 ≤ a ∧ a < 10) (hb : b ≤ 10) : alN s f a b = alN s g a b := foldI_cg _ (fun i h1 h2 t => by rw [h a ha.1 ha.2, h i h1 (by omega)])
theorem maN_cg {s : Int} {f g : Int → Int} (h : ∀ v, 0 ≤ v → v < 10 → f v = g v) : maN s f 10 = maN s g 10 := foldI_cg _ (fun i h1 h2 t => by rw [alN_cg h ⟨h1, by omega⟩ (by omega)])
theorem maN_b {s : Int} {f : Int → Int} : ∀ n : Nat, 0 ≤ maN s f (n : Int) ∧ maN s f (n : Int) ≤ 10
  | 0 => ⟨Int.le_refl _, show (0 : Int) ≤ 10 by omega⟩
  | n + 1 => by
    have ih := maN_b (s := s) (f := f) n
    have hb : 0 ≤ alN s f (n : Int) 10 ∧ alN s f (n : Int) 10 ≤ 10 := alN_b (s := s) (a := (n : Int)) (f := f) 10
    rw [show ((n + 1 : Nat) : Int) = (n : Int) + 1 by omega, maN_s (by omega)]
    omega
def askQ (C : Int → Int → Int → Prop) (s d v : Int) : Prop := ∃ f, (∀ w, 0 ≤ w → w < 10 → C w d (f w)) ∧ v = maN s f 10
/-- the first least -/
def lnS (k w v : Int) (G : Int → Int) : Prop := (k = 0 → w = -1) ∧ (0 < k → 0 ≤ w ∧ w < k ∧ v = G w ∧ (∀ j, 0 ≤ j → j < k → v ≤ G j) ∧ ∀ j, 0 ≤ j → j < w → v < G j)
def obN (Q : Int → Int → Prop) (i w v : Int) : Prop := ∃ G, (∀ d, 0 ≤ d → d < i → Q d (G d)) ∧ lnS i w v G
theorem obN_z {Q : Int → Int → Prop} {v : Int} : obN Q 0 (-1) v := ⟨fun _ => 0, fun d h1 h2 => by omega, fun _ => rfl, fun h => by omega⟩
theorem obN_t {Q : Int → Int → Prop} {i w v x : Int} (h : obN Q i w v) (hi : 0 ≤ i) (hq : Q i x) (hv : w = -1 ∨ x < v) : obN Q (i + 1) i x := by
  obtain ⟨G, g1, g2⟩ := h
  have e : updI G i x i = x := updI_at _ _ _
  have en : ∀ j, 0 ≤ j → j < i → updI G i x j = G j := fun j h1 h2 => updI_ne (by omega)
  refine ⟨updI G i x, fun d h1 h2 => ?_, fun q => by omega, fun _ => ⟨hi, by omega, e.symm, fun j h1 h2 => ?_, fun j h1 h2 => ?_⟩⟩
  · by_cases q : d = i
    · rw [q, e]; exact hq
    · rw [updI_ne q]; exact g1 d h1 (by omega)
  · by_cases q : j = i
    · rw [q, e]; exact Int.le_refl _
    · rw [en j h1 (by omega)]
      obtain ⟨a1, a2, a3, a4, a5⟩ := g2.2 (by omega)
      have := a4 j h1 (by omega)
      omega
  · rw [en j h1 h2]
    obtain ⟨a1, a2, a3, a4, a5⟩ := g2.2 (by omega)
    have := a4 j h1 h2
    omega
theorem obN_k {Q : Int → Int → Prop} {i w v x : Int} (h : obN Q i w v) (hi : 0 ≤ i) (hq : Q i x) (hw : ¬ w = -1) (hv : v ≤ x) : obN Q (i + 1) w v := by
  obtain ⟨G, g1, g2⟩ := h
  have e : updI G i x i = x := updI_at _ _ _
  have en : ∀ j, 0 ≤ j → j < i → updI G i x j = G j := fun j h1 h2 => updI_ne (by omega)
  have h0 : 0 < i := by
    by_cases q : i = 0
    · exact absurd (g2.1 q) hw
    · omega
  obtain ⟨a1, a2, a3, a4, a5⟩ := g2.2 h0
  refine ⟨updI G i x, fun d h1 h2 => ?_, fun q => by omega, fun _ => ⟨a1, by omega, by rw [en w a1 a2]; exact a3, fun j h1 h2 => ?_, fun j h1 h2 => ?_⟩⟩
  · by_cases q : d = i
    · rw [q, e]; exact hq
    · rw [updI_ne q]; exact g1 d h1 (by omega)
  · by_cases q : j = i
    · rw [q, e]; exact hv
    · rw [en j h1 (by omega)]; exact a4 j h1 (by omega)
  · rw [en j h1 (by omega)]; exact a5 j h1 h2
theorem obMN_eq {Q Q' : Int → Int → Prop} {i w v b w' v' : Int} (h : obM Q i w v b) (h' : obN Q' i w' v') (hi : 0 < i) (hQ : ∀ d x y, 0 ≤ d → d < i → Q d x → Q' d y → x = y ∧ x < b) : w = w' := by
  obtain ⟨G, g1, g2⟩ := h
  obtain ⟨G', g1', g2'⟩ := h'
  have hG : ∀ d, 0 ≤ d → d < i → G d = G' d ∧ G d < b := fun d h1 h2 => hQ d _ _ h1 h2 (g1 d h1 h2) (g1' d h1 h2)
  obtain ⟨c1, c2, c3, c4, c5⟩ := g2'.2 hi
  rcases g2 with ⟨-, -, p⟩ | ⟨a1, a2, a3, a4, p, p2⟩
  · have z := hG 0 (by omega) hi
    have := p 0 (by omega) hi
    omega
  · have u1 := p w' c1 c2
    have u2 := c4 w a1 a2
    have e1 := hG w a1 a2
    have e2 := hG w' c1 c2
    rcases Int.lt_trichotomy w w' with q | q | q
    · have := c5 w a1 q; omega
    · exact q
    · have := p2 w' c1 q; omega
theorem alN_i {s a b : Int} {f : Int → Int} (h : 0 ≤ b) : 0 ≤ alN s f a b ∧ alN s f a b ≤ b := by
  have := alN_b (s := s) (a := a) (f := f) b.toNat
  rw [Int.toNat_of_nonneg h] at this
  exact this
theorem maN_i {s a : Int} {f : Int → Int} (h : 0 ≤ a) : 0 ≤ maN s f a ∧ maN s f a ≤ 10 := by
  have := maN_b (s := s) (f := f) a.toNat
  rw [Int.toNat_of_nonneg h] at this
  exact this
