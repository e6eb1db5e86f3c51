/-! ===== word, pure: sums over sets of keepings ===== -/
def smN (g : Nat → Int) : Nat → Int
  | 0 => 0
  | n + 1 => smN g n + g n
theorem sN_cg {g h : Nat → Int} : ∀ {n : Nat}, (∀ s, s < n → g s = h s) → smN g n = smN h n
  | 0, _ => rfl
  | n + 1, e => by
    show smN g n + g n = smN h n + h n
    rw [sN_cg (fun s hs => e s (by omega)), e n (by omega)]
theorem sN_add {g : Nat → Int} {a : Nat} : ∀ {b : Nat}, smN g (a + b) = smN g a + smN (fun s => g (a + s)) b
  | 0 => by show smN g a = smN g a + 0; omega
  | b + 1 => by
    show smN g (a + b) + g (a + b) = smN g a + (smN (fun s => g (a + s)) b + g (a + b))
    rw [sN_add (b := b)]
    omega
theorem sN_mul {g : Nat → Int} {c : Int} : ∀ {n : Nat}, smN (fun s => c * g s) n = c * smN g n
  | 0 => by show (0 : Int) = c * 0; rw [Int.mul_zero]
  | n + 1 => by
    show smN (fun s => c * g s) n + c * g n = c * (smN g n + g n)
    rw [sN_mul (n := n), Int.mul_add]
/-- the weight of a set: of what stands in t alone -/
def wP (c : Int) (t : Nat → Bool) (s : Nat) : Nat → Int
  | 0 => 1
  | n + 1 => wP c t s n * (if t n = true then (if s.testBit n = true then 16 - c else c) else 1)
theorem wP_cg {c : Int} {t : Nat → Bool} {s s' : Nat} : ∀ {n : Nat}, (∀ i, i < n → s.testBit i = s'.testBit i) → wP c t s n = wP c t s' n
  | 0, _ => rfl
  | n + 1, h => by
    show wP c t s n * _ = wP c t s' n * _
    rw [wP_cg (n := n) (fun i hi => h i (by omega)), h n (by omega)]
theorem tb_hi {n s i : Nat} (h : i < n) : (2 ^ n + s).testBit i = s.testBit i := Nat.testBit_two_pow_add_gt h s
theorem tb_n {n s : Nat} (h : s < 2 ^ n) : (2 ^ n + s).testBit n = true := by
  rw [Nat.testBit_two_pow_add_eq, Nat.testBit_lt_two_pow h]
  rfl
theorem tb_lt {n s : Nat} (h : s < 2 ^ n) : s.testBit n = false := Nat.testBit_lt_two_pow h
/-- in what stands in t -/
def sbT (t : Nat → Bool) (s : Nat) : Nat → Bool
  | 0 => true
  | n + 1 => sbT t s n && (!s.testBit n || t n)
theorem sub_cg {t : Nat → Bool} {s s' : Nat} : ∀ {n : Nat}, (∀ i, i < n → s.testBit i = s'.testBit i) → sbT t s n = sbT t s' n
  | 0, _ => rfl
  | n + 1, h => by
    show (sbT t s n && _) = (sbT t s' n && _)
    rw [sub_cg (n := n) (fun i hi => h i (by omega)), h n (by omega)]
/-- the sum over the sets in t, bit by bit -/
def scT (c : Int) (t : Nat → Bool) : Nat → (Nat → Int) → Int
  | 0, f => f 0
  | n + 1, f => if t n = true then c * scT c t n f + (16 - c) * scT c t n (fun s => f (2 ^ n + s)) else scT c t n f
theorem sC_cg {c : Int} {t : Nat → Bool} : ∀ {n : Nat} {f g : Nat → Int}, (∀ s, s < 2 ^ n → f s = g s) → scT c t n f = scT c t n g
  | 0, f, g, h => h 0 (by decide)
  | n + 1, f, g, h => by
    have e : 2 ^ (n + 1) = 2 ^ n + 2 ^ n := by rw [Nat.pow_succ]; omega
    show (if t n = true then _ else _) = (if t n = true then _ else _)
    rw [sC_cg (n := n) (f := f) (g := g) (fun s hs => h s (by omega)), sC_cg (n := n) (f := fun s => f (2 ^ n + s)) (g := fun s => g (2 ^ n + s)) (fun s hs => h (2 ^ n + s) (by omega))]
theorem lin_C {c : Int} {t : Nat → Bool} : ∀ {n : Nat} {f : Nat → Int}, smN (fun s => if sbT t s n = true then f s * wP c t s n else 0) (2 ^ n) = scT c t n f
  | 0, f => by
    show (0 : Int) + (if sbT t 0 0 = true then f 0 * 1 else 0) = f 0
    rw [if_pos (show sbT t 0 0 = true from rfl)]
    omega
  | n + 1, f => by
    have e : 2 ^ (n + 1) = 2 ^ n + 2 ^ n := by rw [Nat.pow_succ]; omega
    rw [e, sN_add]
    have h1 : smN (fun s => if sbT t s (n + 1) = true then f s * wP c t s (n + 1) else 0) (2 ^ n) = (if t n = true then c else 1) * scT c t n f := by
      rw [← lin_C (n := n) (f := f), ← sN_mul]
      refine sN_cg (fun s hs => ?_)
      have b := tb_lt hs
      have a1 : sbT t s (n + 1) = sbT t s n := by
        show (sbT t s n && (!s.testBit n || t n)) = _
        rw [b]; simp
      rw [a1]
      have a2 : wP c t s (n + 1) = wP c t s n * (if t n = true then c else 1) := by
        show wP c t s n * (if t n = true then (if s.testBit n = true then 16 - c else c) else 1) = _
        rw [b]; simp
      rw [a2]
      by_cases q : sbT t s n = true
      · rw [if_pos q, if_pos q, Int.mul_comm (if t n = true then c else 1), Int.mul_assoc]
      · rw [if_neg q, if_neg q, Int.mul_zero]
    have h2 : smN (fun s => if sbT t (2 ^ n + s) (n + 1) = true then f (2 ^ n + s) * wP c t (2 ^ n + s) (n + 1) else 0) (2 ^ n) = (if t n = true then (16 - c) * scT c t n (fun s => f (2 ^ n + s)) else 0) := by
      by_cases ht : t n = true
      · rw [if_pos ht, ← lin_C (n := n) (f := fun s => f (2 ^ n + s)), ← sN_mul]
        refine sN_cg (fun s hs => ?_)
        have b := tb_n hs
        have a0 : sbT t (2 ^ n + s) n = sbT t s n := sub_cg (fun i hi => tb_hi hi)
        have a1 : sbT t (2 ^ n + s) (n + 1) = sbT t s n := by
          show (sbT t (2 ^ n + s) n && (!(2 ^ n + s).testBit n || t n)) = _
          rw [b, ht, a0]; simp
        have a3 : wP c t (2 ^ n + s) n = wP c t s n := wP_cg (fun i hi => tb_hi hi)
        have a2 : wP c t (2 ^ n + s) (n + 1) = wP c t s n * (16 - c) := by
          show wP c t (2 ^ n + s) n * (if t n = true then (if (2 ^ n + s).testBit n = true then 16 - c else c) else 1) = _
          rw [b, ht, a3]; simp
        rw [a1, a2]
        by_cases q : sbT t s n = true
        · rw [if_pos q, if_pos q, Int.mul_comm (16 - c), Int.mul_assoc]
        · rw [if_neg q, if_neg q, Int.mul_zero]
      · rw [if_neg ht]
        have z : ∀ N : Nat, smN (fun _ => (0 : Int)) N = 0 := fun N => by
          induction N with
          | zero => rfl
          | succ N ih => show smN (fun _ => (0 : Int)) N + 0 = 0; rw [ih]; rfl
        refine (sN_cg (h := fun _ => (0 : Int)) (fun s hs => ?_)).trans (z _)
        have b := tb_n hs
        have a1 : sbT t (2 ^ n + s) (n + 1) = false := by
          show (sbT t (2 ^ n + s) n && (!(2 ^ n + s).testBit n || t n)) = _
          have ht' : t n = false := by simpa using ht
          rw [b, ht']; simp
        rw [a1]
        rfl
    rw [h1, h2]
    show _ = (if t n = true then c * scT c t n f + (16 - c) * scT c t n (fun s => f (2 ^ n + s)) else scT c t n f)
    by_cases ht : t n = true
    · rw [if_pos ht, if_pos ht, if_pos ht]
    · rw [if_neg ht, if_neg ht, if_neg ht]; omega
/-- how many of the first n don't stand in t -/
def offN (t : Nat → Bool) : Nat → Nat
  | 0 => 0
  | n + 1 => offN t n + (if t n = true then 0 else 1)
def allT : Nat → Bool := fun _ => true
theorem sub_all {s : Nat} : ∀ {n : Nat}, sbT allT s n = true
  | 0 => rfl
  | n + 1 => by
    show (sbT allT s n && (!s.testBit n || true)) = true
    rw [sub_all (n := n)]; simp
/-- what doesn't stand in t doesn't matter: sixteen times for each -/
theorem sC_off {c : Int} {t : Nat → Bool} : ∀ {n : Nat} {f : Nat → Int}, (∀ i, i < n → t i = false → ∀ s, s + 2 ^ i < 2 ^ n → s.testBit i = false → f (s + 2 ^ i) = f s) → scT c allT n f = 16 ^ offN t n * scT c t n f
  | 0, f, _ => by show f 0 = 16 ^ 0 * f 0; rw [Int.pow_zero, Int.one_mul]
  | n + 1, f, h => by
    have e2 : 2 ^ (n + 1) = 2 ^ n + 2 ^ n := by rw [Nat.pow_succ]; omega
    have hp : 0 < 2 ^ n := Nat.pow_pos (by decide)
    have i1 := sC_off (c := c) (t := t) (n := n) (f := f) (fun i hi ht s hs => h i (by omega) ht s (by omega))
    have i2 := sC_off (c := c) (t := t) (n := n) (f := fun s => f (2 ^ n + s)) (fun i hi ht s hs hb => by
      show f (2 ^ n + (s + 2 ^ i)) = f (2 ^ n + s)
      rw [← Nat.add_assoc]
      exact h i (by omega) ht (2 ^ n + s) (by omega) (by rw [tb_hi hi]; exact hb))
    show c * scT c allT n f + (16 - c) * scT c allT n (fun s => f (2 ^ n + s)) = 16 ^ (offN t n + (if t n = true then 0 else 1)) * (if t n = true then c * scT c t n f + (16 - c) * scT c t n (fun s => f (2 ^ n + s)) else scT c t n f)
    rw [i1, i2]
    by_cases ht : t n = true
    · rw [if_pos ht, if_pos ht, Nat.add_zero, Int.mul_left_comm c, Int.mul_left_comm (16 - c), ← Int.mul_add]
    · rw [if_neg ht, if_neg ht]
      have e : scT c t n (fun s => f (2 ^ n + s)) = scT c t n f := sC_cg (fun s hs => by
        show f (2 ^ n + s) = f s
        rw [Nat.add_comm]
        exact h n (by omega) (by simpa using ht) s (by omega) (tb_lt hs))
      rw [e, ← Int.add_mul, show c + (16 - c) = 16 by omega, Int.pow_succ, Int.mul_comm ((16 : Int) ^ offN t n) 16, Int.mul_assoc]
theorem sC_ext {c : Int} {t : Nat → Bool} {n : Nat} {f : Nat → Int} : ∀ {m : Nat}, (∀ i, n ≤ i → i < n + m → t i = false) → scT c t (n + m) f = scT c t n f
  | 0, _ => rfl
  | m + 1, h => by
    show (if t (n + m) = true then _ else scT c t (n + m) f) = _
    rw [if_neg (by rw [h (n + m) (by omega) (by omega)]; decide)]
    exact sC_ext (m := m) (fun i h1 h2 => h i h1 (by omega))
