/-! ===== word, pure: the machine's bits and the sets ===== -/
set_option maxRecDepth 100000 in
theorem bt_t : (List.range 256).all (fun s => (List.range 8).all (fun i => decide (mAnd (mShr (s : Int) (i : Int)) 1 = if s.testBit i = true then 1 else 0))) = true := by decide +kernel
theorem bt_i {s i : Int} (h : 0 ≤ s ∧ s < 256) (hi : 0 ≤ i ∧ i < 8) : mAnd (mShr s i) 1 = if s.toNat.testBit i.toNat = true then 1 else 0 := by
  have h1 := List.all_eq_true.mp bt_t s.toNat (List.mem_range.mpr (by omega))
  have h2 := List.all_eq_true.mp h1 i.toNat (List.mem_range.mpr (by omega))
  have h3 := of_decide_eq_true h2
  rw [Int.toNat_of_nonneg h.1, Int.toNat_of_nonneg hi.1] at h3
  exact h3
theorem bt_1 {s i : Int} (h : 0 ≤ s ∧ s < 256) (hi : 0 ≤ i ∧ i < 8) : mAnd (mShr s i) 1 = 1 ↔ s.toNat.testBit i.toNat = true := by
  rw [bt_i h hi]
  split
  · rename_i q; exact ⟨fun _ => q, fun _ => rfl⟩
  · rename_i q; exact ⟨fun w => absurd w (by decide), fun w => absurd w q⟩
theorem bt_0 {s i : Int} (h : 0 ≤ s ∧ s < 256) (hi : 0 ≤ i ∧ i < 8) : mAnd (mShr s i) 1 = 0 ↔ s.toNat.testBit i.toNat = false := by
  rw [bt_i h hi]
  split
  · rename_i q; rw [q]; exact ⟨fun w => absurd w (by decide), fun w => absurd w (by decide)⟩
  · rename_i q; exact ⟨fun _ => by simpa using q, fun _ => rfl⟩
/-- the weight as the machine takes it -/
def wtF (c t u : Int) : Nat → Int := foldI (fun i b => if mAnd (mShr t i) 1 = 1 then b * (if mAnd (mShr u i) 1 = 1 then 16 - c else c) else b) 1
theorem wtF_wP {c t u : Int} (ht : 0 ≤ t ∧ t < 256) (hu : 0 ≤ u ∧ u < 256) : ∀ {n : Nat}, n ≤ 8 → wtF c t u n = wP c (fun i => t.toNat.testBit i) u.toNat n
  | 0, _ => rfl
  | n + 1, h => by
    have ih := wtF_wP (c := c) ht hu (n := n) (by omega)
    show (if mAnd (mShr t (n : Int)) 1 = 1 then wtF c t u n * (if mAnd (mShr u (n : Int)) 1 = 1 then 16 - c else c) else wtF c t u n) = wP c (fun i => t.toNat.testBit i) u.toNat n * (if t.toNat.testBit n = true then (if u.toNat.testBit n = true then 16 - c else c) else 1)
    have e1 := bt_1 (i := (n : Int)) ht (by omega)
    have e2 := bt_1 (i := (n : Int)) hu (by omega)
    rw [Int.toNat_natCast] at e1 e2
    rw [ih]
    by_cases a : t.toNat.testBit n = true
    · rw [if_pos (e1.mpr a), if_pos a]
      by_cases b : u.toNat.testBit n = true
      · rw [if_pos (e2.mpr b), if_pos b]
      · rw [if_neg (fun w => b (e2.mp w)), if_neg b]
    · rw [if_neg (fun w => a (e1.mp w)), if_neg a, Int.mul_one]
theorem wtF_b {c t u : Int} (hc : 0 ≤ c ∧ c ≤ 16) : ∀ n : Nat, 0 ≤ wtF c t u n ∧ wtF c t u n ≤ 16 ^ n
  | 0 => ⟨(by show (0 : Int) ≤ 1; decide), (by show (1 : Int) ≤ 16 ^ 0; decide)⟩
  | n + 1 => by
    obtain ⟨i1, i2⟩ := wtF_b (c := c) (t := t) (u := u) hc n
    have p : (0 : Int) ≤ 16 ^ n := Int.le_trans i1 i2
    have e : (16 : Int) ^ (n + 1) = 16 ^ n * 16 := Int.pow_succ _ _
    show 0 ≤ (if mAnd (mShr t (n : Int)) 1 = 1 then wtF c t u n * (if mAnd (mShr u (n : Int)) 1 = 1 then 16 - c else c) else wtF c t u n) ∧ (if mAnd (mShr t (n : Int)) 1 = 1 then wtF c t u n * (if mAnd (mShr u (n : Int)) 1 = 1 then 16 - c else c) else wtF c t u n) ≤ 16 ^ (n + 1)
    rw [e]
    have m : ∀ k : Int, 0 ≤ k → k ≤ 16 → 0 ≤ wtF c t u n * k ∧ wtF c t u n * k ≤ 16 ^ n * 16 := fun k k0 k1 => ⟨Int.mul_nonneg i1 k0, Int.mul_le_mul i2 k1 k0 p⟩
    split
    · split
      · exact m _ (by omega) (by omega)
      · exact m _ (by omega) (by omega)
    · exact ⟨i1, by omega⟩
theorem wtF_8 {c t u : Int} (hc : 0 ≤ c ∧ c ≤ 16) {n : Nat} (h : n ≤ 8) : 0 ≤ wtF c t u n ∧ wtF c t u n ≤ 4294967296 := by
  obtain ⟨i1, i2⟩ := wtF_b (t := t) (u := u) hc n
  refine ⟨i1, Int.le_trans i2 ?_⟩
  rcases (show n = 0 ∨ n = 1 ∨ n = 2 ∨ n = 3 ∨ n = 4 ∨ n = 5 ∨ n = 6 ∨ n = 7 ∨ n = 8 by omega) with q | q | q | q | q | q | q | q | q <;> subst q <;> decide
theorem i32_nat {x : Nat} (i : Nat) : (Int32.ofInt (x : Int)).toBitVec.getLsbD i = (decide (i < 32) && x.testBit i) := by
  show (BitVec.ofInt 32 (x : Int)).getLsbD i = _
  rw [BitVec.ofInt_natCast, BitVec.getLsbD_ofNat]
/-- nothing in the set that isn't in t -/
theorem an_sub {u t : Int} (hu : 0 ≤ u ∧ u < 256) (ht : 0 ≤ t ∧ t < 256) : mAnd u (mXor t (-1)) = 0 ↔ ∀ i : Nat, i < 8 → u.toNat.testBit i = true → t.toNat.testBit i = true := by
  have eu : u = ((u.toNat : Nat) : Int) := by omega
  have et : t = ((t.toNat : Nat) : Int) := by omega
  have b8 : ∀ i, 8 ≤ i → u.toNat.testBit i = false := fun i hi => Nat.testBit_lt_two_pow (Nat.lt_of_lt_of_le (show u.toNat < 2 ^ 8 by omega) (Nat.pow_le_pow_right (by decide) hi))
  have key : ∀ i : Nat, (Int32.ofInt u &&& (Int32.ofInt t ^^^ Int32.ofInt (-1))).toBitVec.getLsbD i = (decide (i < 32) && (u.toNat.testBit i && !t.toNat.testBit i)) := fun i => by
    rw [Int32.toBitVec_and, Int32.toBitVec_xor, BitVec.getLsbD_and, BitVec.getLsbD_xor]
    rw [show (Int32.ofInt (-1)).toBitVec = BitVec.allOnes 32 from by decide, BitVec.getLsbD_allOnes]
    rw [eu, et, i32_nat, i32_nat, Int.toNat_natCast, Int.toNat_natCast]
    by_cases h : i < 32
    · simp [h]
    · simp [h]
  unfold mAnd mXor
  rw [Int32.ofInt_toInt]
  have z : (0 : Int32).toInt = 0 := by decide
  rw [← z, Int32.toInt_inj, ← Int32.toBitVec_inj]
  constructor
  · intro h i hi hb
    have k := key i
    rw [h, show (0 : Int32).toBitVec = 0#32 from rfl, BitVec.getLsbD_zero] at k
    cases ct : t.toNat.testBit i with
    | true => rfl
    | false =>
      rw [hb, ct] at k
      simp [show i < 32 by omega] at k
  · intro h
    apply BitVec.eq_of_getLsbD_eq
    intro i hi
    rw [key i, show (0 : Int32).toBitVec = 0#32 from rfl, BitVec.getLsbD_zero]
    by_cases h8 : i < 8
    · cases cu : u.toNat.testBit i with
      | false => simp
      | true => rw [h i h8 cu]; simp
    · rw [b8 i (by omega)]; simp
theorem sub_iff {t : Nat → Bool} {s : Nat} : ∀ {n : Nat}, sbT t s n = true ↔ ∀ i, i < n → s.testBit i = true → t i = true
  | 0 => ⟨fun _ i hi => by omega, fun _ => rfl⟩
  | n + 1 => by
    have ih := sub_iff (t := t) (s := s) (n := n)
    show (sbT t s n && (!s.testBit n || t n)) = true ↔ _
    rw [Bool.and_eq_true, ih]
    constructor
    · intro h i hi hb
      by_cases e : i = n
      · subst e
        have := h.2
        rw [hb] at this
        simpa using this
      · exact h.1 i (by omega) hb
    · intro h
      refine ⟨fun i hi => h i (by omega), ?_⟩
      cases cb : s.testBit n with
      | false => rfl
      | true => rw [h n (by omega) cb]; rfl
