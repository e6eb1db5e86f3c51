/-! ===== loops: heads with templates, and a measure that falls ===== -/
/-- true: the number grows; false: it falls. What falls by it lies within 0 and 2000 -/
def wgt (ρ : Nat → Int) (q : Bool × AN) : Int := if q.1 = true then 1000 - den ρ q.2 else den ρ q.2
def wgtB (B : BD) (q : Bool × AN) : Bool := okNB B q.2 && (decide (0 ≤ (bnd B q.2).1) && decide ((bnd B q.2).2 ≤ 1000))
theorem wgtB_ok {B : BD} {ρ : Nat → Int} (hB : okB B ρ) {q : Bool × AN} (h : wgtB B q = true) : 0 ≤ wgt ρ q ∧ wgt ρ q ≤ 1000 := by
  unfold wgtB at h
  simp only [Bool.and_eq_true, decide_eq_true_eq] at h
  have := bnd_den hB (okNB_ok h.1)
  unfold wgt
  split <;> omega
def mu (ρ : Nat → Int) : List (Bool × AN) → Int
  | [] => 0
  | q :: t => wgt ρ q * (2000 : Int) ^ t.length + mu ρ t
theorem mu_lt {B : BD} {ρ : Nat → Int} (hB : okB B ρ) : ∀ {l : List (Bool × AN)}, l.all (wgtB B) = true → 0 ≤ mu ρ l ∧ mu ρ l < (2000 : Int) ^ l.length
  | [], _ => ⟨Int.le_refl _, by show (0 : Int) < 1; omega⟩
  | q :: t, h => by
    rw [List.all_cons, Bool.and_eq_true] at h
    obtain ⟨h1, h2⟩ := wgtB_ok hB h.1
    obtain ⟨h3, h4⟩ := mu_lt hB h.2
    have hp : (0 : Int) < (2000 : Int) ^ t.length := Int.pow_pos (by omega)
    refine ⟨Int.add_nonneg (Int.mul_nonneg h1 (Int.le_of_lt hp)) h3, ?_⟩
    show wgt ρ q * (2000 : Int) ^ t.length + mu ρ t < (2000 : Int) ^ (t.length + 1)
    rw [Int.pow_succ]
    have : wgt ρ q * (2000 : Int) ^ t.length ≤ 1000 * (2000 : Int) ^ t.length := Int.mul_le_mul_of_nonneg_right h2 (Int.le_of_lt hp)
    omega
/-- b's weight is less than a's for sure -/
def wLess (B : BD) (a b : Bool × AN) : Bool := decide (a.1 = b.1) && (if a.1 = true then decide (a.2.1 = b.2.1 ∧ a.2.2 < b.2.2) || decide ((bnd B a.2).2 < (bnd B b.2).1) else decide (a.2.1 = b.2.1 ∧ b.2.2 < a.2.2) || decide ((bnd B b.2).2 < (bnd B a.2).1))
theorem wLess_ok {B : BD} {ρ : Nat → Int} (hB : okB B ρ) {a b : Bool × AN} (ha : okN B a.2) (hb : okN B b.2) (h : wLess B a b = true) : wgt ρ b < wgt ρ a := by
  unfold wLess at h
  rw [Bool.and_eq_true, decide_eq_true_eq] at h
  obtain ⟨e, h⟩ := h
  have h1 := bnd_den hB ha
  have h2 := bnd_den hB hb
  have hd : a.2.1 = b.2.1 → den ρ b.2 - den ρ a.2 = b.2.2 - a.2.2 := fun q => by
    unfold den
    rw [q]
    cases b.2.1 <;> simp only <;> omega
  unfold wgt
  rw [← e]
  split at h
  · rename_i ht
    rw [if_pos ht, if_pos ht]
    rw [Bool.or_eq_true, decide_eq_true_eq, decide_eq_true_eq] at h
    rcases h with ⟨q1, q2⟩ | h
    · have := hd q1; omega
    · omega
  · rename_i ht
    rw [if_neg ht, if_neg ht]
    rw [Bool.or_eq_true, decide_eq_true_eq, decide_eq_true_eq] at h
    rcases h with ⟨q1, q2⟩ | h
    · have := hd q1; omega
    · omega
/-- alike for sure -/
def wSame (B : BD) (a b : Bool × AN) : Bool := decide (a = b) || (decide (a.1 = b.1) && (decide ((bnd B a.2).1 = (bnd B a.2).2) && (decide ((bnd B b.2).1 = (bnd B b.2).2) && decide ((bnd B a.2).1 = (bnd B b.2).1))))
theorem wSame_ok {B : BD} {ρ : Nat → Int} (hB : okB B ρ) {a b : Bool × AN} (ha : okN B a.2) (hb : okN B b.2) (h : wSame B a b = true) : wgt ρ b = wgt ρ a := by
  unfold wSame at h
  simp only [Bool.or_eq_true, Bool.and_eq_true, decide_eq_true_eq] at h
  have h1 := bnd_den hB ha
  have h2 := bnd_den hB hb
  rcases h with rfl | ⟨q1, q2, q3, q4⟩
  · rfl
  · have : den ρ a.2 = den ρ b.2 := by omega
    unfold wgt
    rw [this, q1]
def lexB (B : BD) : List (Bool × AN) → List (Bool × AN) → Bool
  | a :: as, b :: bs => wgtB B a && (wgtB B b && (as.all (wgtB B) && (bs.all (wgtB B) && (decide (as.length = bs.length) && (wLess B a b || (wSame B a b && lexB B as bs))))))
  | _, _ => false
theorem lexB_ok {B : BD} {ρ : Nat → Int} (hB : okB B ρ) : ∀ {as bs : List (Bool × AN)}, lexB B as bs = true → mu ρ bs < mu ρ as ∧ 0 ≤ mu ρ bs
  | a :: as, b :: bs, h => by
    simp only [lexB, Bool.and_eq_true, decide_eq_true_eq, Bool.or_eq_true] at h
    obtain ⟨w1, w2, a1, a2, hl, h⟩ := h
    have m1 := mu_lt hB a1
    have m2 := mu_lt hB a2
    have v2 := wgtB_ok hB w2
    have hp : (0 : Int) < (2000 : Int) ^ bs.length := Int.pow_pos (by omega)
    have n2 : 0 ≤ wgt ρ b * (2000 : Int) ^ bs.length := Int.mul_nonneg v2.1 (Int.le_of_lt hp)
    refine ⟨?_, by show 0 ≤ wgt ρ b * (2000 : Int) ^ bs.length + mu ρ bs; omega⟩
    show wgt ρ b * (2000 : Int) ^ bs.length + mu ρ bs < wgt ρ a * (2000 : Int) ^ as.length + mu ρ as
    rw [hl]
    have okA : okN B a.2 := by unfold wgtB at w1; rw [Bool.and_eq_true] at w1; exact okNB_ok w1.1
    have okB2 : okN B b.2 := by unfold wgtB at w2; rw [Bool.and_eq_true] at w2; exact okNB_ok w2.1
    rcases h with h | ⟨h0, h⟩
    · have hw := wLess_ok hB okA okB2 h
      have h5 : (wgt ρ b + 1) * (2000 : Int) ^ bs.length ≤ wgt ρ a * (2000 : Int) ^ bs.length := Int.mul_le_mul_of_nonneg_right (by omega) (Int.le_of_lt hp)
      rw [Int.add_mul, Int.one_mul] at h5
      omega
    · have h6 := lexB_ok hB h
      rw [wSame_ok hB okA okB2 h0]
      omega
