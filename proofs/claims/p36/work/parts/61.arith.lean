/-! ===== what an operation gives: exactly a name plus a constant, or a new name in bounds ===== -/
def newN (B : BD) (lo hi : Int) : BD × AN := (B ++ [(lo, hi)], (some B.length, 0))
def anyN (B : BD) : BD × AN := newN B (-2147483648) 2147483647
/-- r stands for the number x, over names that go on from before -/
def gives (B : BD) (ρ : Nat → Int) (r : BD × AN) (x : Int32) : Prop := ∃ ρ', okB r.1 ρ' ∧ ext B ρ r.1 ρ' ∧ rN r.1 ρ' r.2 x
theorem newN_ok {B : BD} {ρ : Nat → Int} (hB : okB B ρ) {lo hi : Int} {x : Int32} (h1 : lo ≤ x.toInt) (h2 : x.toInt ≤ hi) : gives B ρ (newN B lo hi) x := ⟨ups ρ B.length x.toInt, new_ok hB h1 h2, new_ext _ _, new_rN⟩
theorem anyN_ok {B : BD} {ρ : Nat → Int} (hB : okB B ρ) (x : Int32) : gives B ρ (anyN B) x := newN_ok hB (int32_lo x) (int32_hi x)
theorem same_ok {B : BD} {ρ : Nat → Int} (hB : okB B ρ) {n : AN} {x : Int32} (h : rN B ρ n x) : gives B ρ (B, n) x := ⟨ρ, hB, ext_rf, h⟩
theorem known_ok {B : BD} {ρ : Nat → Int} (hB : okB B ρ) {c : Int} {x : Int32} (h : x.toInt = c) : gives B ρ (B, (none, c)) x := same_ok hB ⟨fun j hj => (by cases hj), h⟩
theorem toInt_add_in {x y : Int32} (h1 : -2147483648 ≤ x.toInt + y.toInt) (h2 : x.toInt + y.toInt ≤ 2147483647) : (x + y).toInt = x.toInt + y.toInt := by
  rw [Int32.toInt_add]
  exact Int.bmod_eq_of_le (by omega) (by omega)
theorem toInt_sub_in {x y : Int32} (h1 : -2147483648 ≤ x.toInt - y.toInt) (h2 : x.toInt - y.toInt ≤ 2147483647) : (x - y).toInt = x.toInt - y.toInt := by
  rw [Int32.toInt_sub]
  exact Int.bmod_eq_of_le (by omega) (by omega)
theorem toInt_mul_in {x y : Int32} (h1 : -2147483648 ≤ x.toInt * y.toInt) (h2 : x.toInt * y.toInt ≤ 2147483647) : (x * y).toInt = x.toInt * y.toInt := by
  rw [Int32.toInt_mul]
  exact Int.bmod_eq_of_le (by omega) (by omega)
def addN (B : BD) (a b : AN) : BD × AN :=
  if i32 ((bnd B a).1 + (bnd B b).1) ((bnd B a).2 + (bnd B b).2) = true then
    (match a.1, b.1 with
    | none, _ => (B, (b.1, a.2 + b.2))
    | some _, none => (B, (a.1, a.2 + b.2))
    | some _, some _ => newN B ((bnd B a).1 + (bnd B b).1) ((bnd B a).2 + (bnd B b).2))
  else anyN B
theorem addN_ok {B : BD} {ρ : Nat → Int} (hB : okB B ρ) {a b : AN} {x y : Int32} (ha : rN B ρ a x) (hb : rN B ρ b y) : gives B ρ (addN B a b) (x + y) := by
  have h1 := bnd_ok hB ha
  have h2 := bnd_ok hB hb
  unfold addN
  split
  · rename_i hi
    unfold i32 at hi
    rw [Bool.and_eq_true, decide_eq_true_eq, decide_eq_true_eq] at hi
    have e := toInt_add_in (x := x) (y := y) (by omega) (by omega)
    have da := ha.2
    have db := hb.2
    unfold den at da db
    split
    · rename_i hn
      rw [hn] at da
      refine same_ok hB ⟨fun j hj => hb.1 j hj, ?_⟩
      rw [e]
      unfold den
      cases hm : b.1 with
      | none => rw [hm] at db; simp only at da db ⊢; omega
      | some j => rw [hm] at db; simp only at da db ⊢; omega
    · rename_i j hn hm
      rw [hm] at db
      refine same_ok hB ⟨fun j hj => ha.1 j hj, ?_⟩
      rw [e]
      unfold den
      rw [hn] at da ⊢
      simp only at da db ⊢
      omega
    · exact newN_ok hB (by omega) (by omega)
  · exact anyN_ok hB _
def subN (B : BD) (a b : AN) : BD × AN :=
  if i32 ((bnd B a).1 - (bnd B b).2) ((bnd B a).2 - (bnd B b).1) = true then
    (match b.1 with
    | none => (B, (a.1, a.2 - b.2))
    | some _ => newN B ((bnd B a).1 - (bnd B b).2) ((bnd B a).2 - (bnd B b).1))
  else anyN B
theorem subN_ok {B : BD} {ρ : Nat → Int} (hB : okB B ρ) {a b : AN} {x y : Int32} (ha : rN B ρ a x) (hb : rN B ρ b y) : gives B ρ (subN B a b) (x - y) := by
  have h1 := bnd_ok hB ha
  have h2 := bnd_ok hB hb
  unfold subN
  split
  · rename_i hi
    unfold i32 at hi
    rw [Bool.and_eq_true, decide_eq_true_eq, decide_eq_true_eq] at hi
    have e := toInt_sub_in (x := x) (y := y) (by omega) (by omega)
    have da := ha.2
    have db := hb.2
    unfold den at da db
    split
    · rename_i hm
      rw [hm] at db
      refine same_ok hB ⟨fun j hj => ha.1 j hj, ?_⟩
      rw [e]
      unfold den
      cases hn : a.1 with
      | none => rw [hn] at da; simp only at da db ⊢; omega
      | some j => rw [hn] at da; simp only at da db ⊢; omega
    · exact newN_ok hB (by omega) (by omega)
  · exact anyN_ok hB _
/-- a known factor that isn't negative -/
def mulN (B : BD) (a b : AN) : BD × AN :=
  if (bnd B a).1 = (bnd B a).2 ∧ 0 ≤ (bnd B a).1 ∧ i32 ((bnd B a).1 * (bnd B b).1) ((bnd B a).1 * (bnd B b).2) = true then
    (if (bnd B b).1 = (bnd B b).2 then (B, (none, (bnd B a).1 * (bnd B b).1)) else newN B ((bnd B a).1 * (bnd B b).1) ((bnd B a).1 * (bnd B b).2))
  else if (bnd B b).1 = (bnd B b).2 ∧ 0 ≤ (bnd B b).1 ∧ i32 ((bnd B b).1 * (bnd B a).1) ((bnd B b).1 * (bnd B a).2) = true then newN B ((bnd B b).1 * (bnd B a).1) ((bnd B b).1 * (bnd B a).2)
  else anyN B
theorem mulN_ok {B : BD} {ρ : Nat → Int} (hB : okB B ρ) {a b : AN} {x y : Int32} (ha : rN B ρ a x) (hb : rN B ρ b y) : gives B ρ (mulN B a b) (x * y) := by
  have h1 := bnd_ok hB ha
  have h2 := bnd_ok hB hb
  unfold mulN
  split
  · rename_i hc
    obtain ⟨c1, c2, c3⟩ := hc
    unfold i32 at c3
    rw [Bool.and_eq_true, decide_eq_true_eq, decide_eq_true_eq] at c3
    have ex : x.toInt = (bnd B a).1 := by omega
    have l1 : (bnd B a).1 * (bnd B b).1 ≤ x.toInt * y.toInt := by rw [ex]; exact Int.mul_le_mul_of_nonneg_left h2.1 c2
    have l2 : x.toInt * y.toInt ≤ (bnd B a).1 * (bnd B b).2 := by rw [ex]; exact Int.mul_le_mul_of_nonneg_left h2.2 c2
    have e := toInt_mul_in (x := x) (y := y) (by omega) (by omega)
    split
    · rename_i hk
      have ey : y.toInt = (bnd B b).1 := by omega
      exact known_ok hB (by rw [e, ex, ey])
    · exact newN_ok hB (by omega) (by omega)
  · split
    · rename_i hc
      obtain ⟨c1, c2, c3⟩ := hc
      unfold i32 at c3
      rw [Bool.and_eq_true, decide_eq_true_eq, decide_eq_true_eq] at c3
      have ey : y.toInt = (bnd B b).1 := by omega
      have l1 : (bnd B b).1 * (bnd B a).1 ≤ x.toInt * y.toInt := by rw [ey, Int.mul_comm x.toInt]; exact Int.mul_le_mul_of_nonneg_left h1.1 c2
      have l2 : x.toInt * y.toInt ≤ (bnd B b).1 * (bnd B a).2 := by rw [ey, Int.mul_comm x.toInt]; exact Int.mul_le_mul_of_nonneg_left h1.2 c2
      have e := toInt_mul_in (x := x) (y := y) (by omega) (by omega)
      exact newN_ok hB (by omega) (by omega)
    · exact anyN_ok hB _
/-- both known: the machine's own answer -/
def knwN (B : BD) (f : Int32 → Int32 → Int32) (a b : AN) : BD × AN :=
  if (bnd B a).1 = (bnd B a).2 ∧ (bnd B b).1 = (bnd B b).2 then (B, (none, (f (Int32.ofInt (bnd B a).1) (Int32.ofInt (bnd B b).1)).toInt)) else anyN B
theorem ofInt_toInt (x : Int32) : Int32.ofInt x.toInt = x := by simp
theorem knwN_ok {B : BD} {ρ : Nat → Int} (hB : okB B ρ) (f : Int32 → Int32 → Int32) {a b : AN} {x y : Int32} (ha : rN B ρ a x) (hb : rN B ρ b y) : gives B ρ (knwN B f a b) (f x y) := by
  have h1 := bnd_ok hB ha
  have h2 := bnd_ok hB hb
  unfold knwN
  split
  · rename_i hc
    have ex : (bnd B a).1 = x.toInt := by omega
    have ey : (bnd B b).1 = y.toInt := by omega
    rw [ex, ey, ofInt_toInt, ofInt_toInt]
    exact known_ok hB rfl
  · exact anyN_ok hB _
/-- what is left by a division: both not negative -/
def remN (B : BD) (a b : AN) : BD × AN :=
  if (bnd B a).1 = (bnd B a).2 ∧ (bnd B b).1 = (bnd B b).2 ∧ 0 ≤ (bnd B a).1 ∧ 1 ≤ (bnd B b).1 then (B, (none, (bnd B a).1 % (bnd B b).1))
  else if 0 ≤ (bnd B a).1 ∧ 1 ≤ (bnd B b).1 then newN B 0 ((bnd B b).2 - 1) else anyN B
theorem nI_toInt' {x : Int32} (h : 0 ≤ x.toInt) : ∃ j : Nat, j < 2 ^ 31 ∧ x = nI j ∧ x.toInt = j := by
  obtain ⟨j, hj, rfl⟩ := nI_of (x := x) (by rw [Int32.lt_iff_toInt_lt, Int32.toInt_zero]; omega)
  exact ⟨j, hj, rfl, nI_toInt hj⟩
theorem remN_ok {B : BD} {ρ : Nat → Int} (hB : okB B ρ) {a b : AN} {x y : Int32} (ha : rN B ρ a x) (hb : rN B ρ b y) : gives B ρ (remN B a b) (x - x / y * y) := by
  have h1 := bnd_ok hB ha
  have h2 := bnd_ok hB hb
  unfold remN
  split
  · rename_i hc
    obtain ⟨j, hj, rfl, e1⟩ := nI_toInt' (x := x) (by omega)
    obtain ⟨k, hk, rfl, e2⟩ := nI_toInt' (x := y) (by omega)
    have hk0 : 0 < k := by omega
    rw [pk_rem hj hk0 hk]
    have hm := Nat.mod_lt j hk0
    have f1 : (bnd B a).1 = (j : Int) := by omega
    have f2 : (bnd B b).1 = (k : Int) := by omega
    rw [f1, f2, ← Int.natCast_emod]
    exact known_ok hB (nI_toInt (by omega))
  split
  · rename_i hc
    obtain ⟨j, hj, rfl, e1⟩ := nI_toInt' (x := x) (by omega)
    obtain ⟨k, hk, rfl, e2⟩ := nI_toInt' (x := y) (by omega)
    have hk0 : 0 < k := by omega
    rw [pk_rem hj hk0 hk]
    have hm := Nat.mod_lt j hk0
    generalize j % k = q at hm ⊢
    have e3 : (nI q).toInt = (q : Int) := nI_toInt (by omega)
    exact newN_ok hB (by rw [e3]; omega) (by rw [e3]; omega)
  · exact anyN_ok hB _
def divN (B : BD) (a b : AN) : BD × AN :=
  if (bnd B a).1 = (bnd B a).2 ∧ (bnd B b).1 = (bnd B b).2 ∧ 0 ≤ (bnd B a).1 ∧ 1 ≤ (bnd B b).1 then (B, (none, (bnd B a).1 / (bnd B b).1))
  else if 0 ≤ (bnd B a).1 ∧ 1 ≤ (bnd B b).1 then newN B 0 (bnd B a).2 else anyN B
theorem divN_ok {B : BD} {ρ : Nat → Int} (hB : okB B ρ) {a b : AN} {x y : Int32} (ha : rN B ρ a x) (hb : rN B ρ b y) : gives B ρ (divN B a b) (x / y) := by
  have h1 := bnd_ok hB ha
  have h2 := bnd_ok hB hb
  unfold divN
  split
  · rename_i hc
    obtain ⟨j, hj, rfl, e1⟩ := nI_toInt' (x := x) (by omega)
    obtain ⟨k, hk, rfl, e2⟩ := nI_toInt' (x := y) (by omega)
    have hk0 : 0 < k := by omega
    rw [pk_div hj hk0 hk]
    have hm := Nat.div_le_self j k
    have f1 : (bnd B a).1 = (j : Int) := by omega
    have f2 : (bnd B b).1 = (k : Int) := by omega
    rw [f1, f2, ← Int.natCast_ediv]
    exact known_ok hB (nI_toInt (by omega))
  split
  · rename_i hc
    obtain ⟨j, hj, rfl, e1⟩ := nI_toInt' (x := x) (by omega)
    obtain ⟨k, hk, rfl, e2⟩ := nI_toInt' (x := y) (by omega)
    have hk0 : 0 < k := by omega
    rw [pk_div hj hk0 hk]
    have hm := Nat.div_le_self j k
    generalize j / k = q at hm ⊢
    have e3 : (nI q).toInt = (q : Int) := nI_toInt (by omega)
    exact newN_ok hB (by rw [e3]; omega) (by rw [e3]; omega)
  · exact anyN_ok hB _
/-- sixteen places to the right, zeros from the left -/
def shrN (B : BD) (a b : AN) : BD × AN := if (bnd B b).1 = 16 ∧ (bnd B b).2 = 16 then newN B 0 65535 else anyN B
theorem ushr16 (x : Int32) : 0 ≤ (x.toUInt32 >>> ((16 : Int32).toUInt32 &&& Int32.toUInt32 31)).toInt32.toInt ∧ (x.toUInt32 >>> ((16 : Int32).toUInt32 &&& Int32.toUInt32 31)).toInt32.toInt ≤ 65535 := by
  have e : ((16 : Int32).toUInt32 &&& Int32.toUInt32 31) = 16 := by decide
  rw [e]
  generalize x.toUInt32 = u
  have h : (u >>> 16).toNat ≤ 65535 := by
    rw [UInt32.toNat_shiftRight]
    have : (16 : UInt32).toNat % 32 = 16 := by decide
    rw [this, Nat.shiftRight_eq_div_pow]
    have := u.toNat_lt
    omega
  generalize u >>> 16 = w at h
  have h2 : w.toInt32.toInt = (w.toNat : Int) := by
    show w.toBitVec.toInt = _
    rw [BitVec.toInt_eq_toNat_of_lt (by show 2 * w.toNat < 2 ^ 32; omega)]
    rfl
  rw [h2]
  omega
theorem shrN_ok {B : BD} {ρ : Nat → Int} (hB : okB B ρ) {a b : AN} {x y : Int32} (ha : rN B ρ a x) (hb : rN B ρ b y) : gives B ρ (shrN B a b) (x.toUInt32 >>> (y.toUInt32 &&& Int32.toUInt32 31)).toInt32 := by
  have h2 := bnd_ok hB hb
  unfold shrN
  split
  · rename_i hc
    have ey : y = 16 := by
      apply Int32.toInt_inj.mp
      have : (16 : Int32).toInt = 16 := by decide
      omega
    subst ey
    exact newN_ok hB (ushr16 x).1 (ushr16 x).2
  · exact anyN_ok hB _
/-- a one, some places to the left -/
def shlN (B : BD) (a b : AN) : BD × AN := if (bnd B a).1 = 1 ∧ (bnd B a).2 = 1 ∧ 0 ≤ (bnd B b).1 ∧ (bnd B b).2 ≤ 30 ∧ (bnd B b).1 < (bnd B b).2 then newN B (((2 : Nat) ^ (bnd B b).1.toNat : Nat) : Int) (((2 : Nat) ^ (bnd B b).2.toNat : Nat) : Int) else knwN B (fun x y => x <<< (y &&& 31)) a b
set_option maxRecDepth 20000 in
theorem shl1 : ∀ j : Nat, j < 31 → ((1 : Int32) <<< (nI j &&& 31)).toInt = (((2 : Nat) ^ j : Nat) : Int) := by decide +kernel
theorem shlN_ok {B : BD} {ρ : Nat → Int} (hB : okB B ρ) {a b : AN} {x y : Int32} (ha : rN B ρ a x) (hb : rN B ρ b y) : gives B ρ (shlN B a b) (x <<< (y &&& 31)) := by
  have h1 := bnd_ok hB ha
  have h2 := bnd_ok hB hb
  unfold shlN
  split
  · rename_i hc
    obtain ⟨c1, c2, c3, c4, c5⟩ := hc
    have ex : x = 1 := by
      apply Int32.toInt_inj.mp
      have : (1 : Int32).toInt = 1 := by decide
      omega
    subst ex
    obtain ⟨j, hj, rfl, e1⟩ := nI_toInt' (x := y) (by omega)
    have e := shl1 j (by omega)
    have p1 : (2 : Nat) ^ (bnd B b).1.toNat ≤ 2 ^ j := Nat.pow_le_pow_right (by omega) (by omega)
    have p2 : (2 : Nat) ^ j ≤ 2 ^ (bnd B b).2.toNat := Nat.pow_le_pow_right (by omega) (by omega)
    exact newN_ok hB (by rw [e]; exact Int.ofNat_le.mpr p1) (by rw [e]; exact Int.ofNat_le.mpr p2)
  · exact knwN_ok hB _ ha hb
