/-! ===== word, pure: lowest terms ===== -/
def gcI (x y : Int) : Nat := Nat.gcd x.toNat y.toNat
theorem gcI_s {x y : Int} (hx : 0 ≤ x) (hy : 0 < y) : gcI y (x % y) = gcI x y := by
  obtain ⟨m, rfl⟩ := Int.eq_ofNat_of_zero_le hx
  obtain ⟨n, rfl⟩ := Int.eq_ofNat_of_zero_le (Int.le_of_lt hy)
  unfold gcI
  rw [show ((m : Int) % (n : Int)) = ((m % n : Nat) : Int) from rfl, Int.toNat_natCast, Int.toNat_natCast, Int.toNat_natCast, Nat.gcd_comm, ← Nat.gcd_rec, Nat.gcd_comm]
theorem gcI_z {x : Int} (hx : 0 ≤ x) : (gcI x 0 : Int) = x := by
  unfold gcI
  rw [show (0 : Int).toNat = 0 from rfl, Nat.gcd_zero_right]
  omega
theorem odd_co {a : Nat} (h : a % 2 = 1) : ∀ e : Nat, Nat.gcd a (2 ^ e) = 1 := fun e => by
  have h2 : Nat.Coprime 2 a := by
    show Nat.gcd 2 a = 1
    rw [Nat.gcd_rec, h]
    rfl
  exact Nat.Coprime.pow_right e h2.symm
/-- both ways of going to the lowest terms come to the same -/
theorem low_eq {K S B a b q : Nat} (hK : 0 < K) (hq : 0 < q) (h1 : a * q = S) (h2 : b * q = B) (hc : Nat.gcd a b = 1) (hB : 0 < B) : Nat.gcd (K * S) (K * B) = K * q ∧ K * S / (K * q) = a ∧ K * B / (K * q) = b := by
  have hg : Nat.gcd (K * S) (K * B) = K * q := by
    rw [Nat.gcd_mul_left, ← h1, ← h2, Nat.gcd_mul_right, hc, Nat.one_mul]
  have hp : 0 < K * q := Nat.mul_pos hK hq
  refine ⟨hg, ?_, ?_⟩
  · rw [← h1, show K * (a * q) = a * (K * q) by rw [Nat.mul_left_comm], Nat.mul_div_cancel _ hp]
  · rw [← h2, show K * (b * q) = b * (K * q) by rw [Nat.mul_left_comm], Nat.mul_div_cancel _ hp]
