/-! ===== abstract ints: a name plus a constant; names in bounds ===== -/
abbrev AN : Type := Option Nat × Int
abbrev BD : Type := List (Int × Int)
/-- an int, a reference, or a long (by a name, or any) -/
abbrev AVa : Type := AN ⊕ (Nat ⊕ Option AN)
def den (ρ : Nat → Int) (n : AN) : Int := match n.1 with
  | none => n.2
  | some j => ρ j + n.2
def okN (B : BD) (n : AN) : Prop := ∀ j, n.1 = some j → j < B.length
def rN (B : BD) (ρ : Nat → Int) (n : AN) (x : Int32) : Prop := okN B n ∧ x.toInt = den ρ n
def okB (B : BD) (ρ : Nat → Int) : Prop := ∀ (j : Nat) (b : Int × Int), B[j]? = some b → b.1 ≤ ρ j ∧ ρ j ≤ b.2
def ext (B : BD) (ρ : Nat → Int) (B' : BD) (ρ' : Nat → Int) : Prop := B.length ≤ B'.length ∧ ∀ j, j < B.length → ρ' j = ρ j
theorem ext_rf {B : BD} {ρ : Nat → Int} : ext B ρ B ρ := ⟨Nat.le_refl _, fun _ _ => rfl⟩
theorem ext_tr {B1 B2 B3 : BD} {r1 r2 r3 : Nat → Int} (h1 : ext B1 r1 B2 r2) (h2 : ext B2 r2 B3 r3) : ext B1 r1 B3 r3 := ⟨Nat.le_trans h1.1 h2.1, fun j hj => (h2.2 j (Nat.lt_of_lt_of_le hj h1.1)).trans (h1.2 j hj)⟩
theorem rN_ext {B B' : BD} {ρ ρ' : Nat → Int} (e : ext B ρ B' ρ') {n : AN} {x : Int32} (h : rN B ρ n x) : rN B' ρ' n x := by
  refine ⟨fun j hj => Nat.lt_of_lt_of_le (h.1 j hj) e.1, h.2.trans ?_⟩
  unfold den
  cases hn : n.1 with
  | none => rfl
  | some j => simp only; rw [e.2 j (h.1 j hn)]
def i32 (lo hi : Int) : Bool := decide (-2147483648 ≤ lo) && decide (hi ≤ 2147483647)
def bnd (B : BD) (n : AN) : Int × Int := match n.1 with
  | none => (n.2, n.2)
  | some j => match B[j]? with
    | some b => (b.1 + n.2, b.2 + n.2)
    | none => (-2147483648, 2147483647)
theorem int32_lo (x : Int32) : -2147483648 ≤ x.toInt := by
  have := x.le_toInt
  have h : Int32.minValue.toInt = -2147483648 := by decide
  omega
theorem int32_hi (x : Int32) : x.toInt ≤ 2147483647 := by
  have := x.toInt_le
  have h : Int32.maxValue.toInt = 2147483647 := by decide
  omega
theorem bnd_ok {B : BD} {ρ : Nat → Int} (hB : okB B ρ) {n : AN} {x : Int32} (h : rN B ρ n x) : (bnd B n).1 ≤ x.toInt ∧ x.toInt ≤ (bnd B n).2 := by
  have h1 := int32_lo x
  have h2 := int32_hi x
  have hd := h.2
  unfold bnd
  unfold den at hd
  cases hn : n.1 with
  | none => rw [hn] at hd; simp only at hd ⊢; omega
  | some j =>
    rw [hn] at hd
    simp only at hd ⊢
    cases hj : B[j]? with
    | none => simp only; omega
    | some b =>
      have := hB j b hj
      simp only
      omega
/-- a new name -/
def ups (ρ : Nat → Int) (k : Nat) (v : Int) : Nat → Int := fun j => if j = k then v else ρ j
theorem new_ext {B : BD} {ρ : Nat → Int} (b : Int × Int) (v : Int) : ext B ρ (B ++ [b]) (ups ρ B.length v) := by
  refine ⟨by rw [List.length_append]; omega, fun j hj => ?_⟩
  unfold ups
  rw [if_neg (by omega)]
theorem new_ok {B : BD} {ρ : Nat → Int} (hB : okB B ρ) {b : Int × Int} {v : Int} (h1 : b.1 ≤ v) (h2 : v ≤ b.2) : okB (B ++ [b]) (ups ρ B.length v) := by
  intro j q hj
  by_cases hl : j < B.length
  · rw [List.getElem?_append_left hl] at hj
    unfold ups
    rw [if_neg (by omega)]
    exact hB j q hj
  · rw [List.getElem?_append_right (by omega)] at hj
    have hz : j - B.length < 1 := (List.getElem?_eq_some_iff.mp hj).1
    have he : j = B.length := by omega
    subst he
    rw [Nat.sub_self] at hj
    cases hj
    unfold ups
    rw [if_pos rfl]
    exact ⟨h1, h2⟩
theorem new_rN {B : BD} {ρ : Nat → Int} {b : Int × Int} {x : Int32} : rN (B ++ [b]) (ups ρ B.length x.toInt) (some B.length, 0) x := by
  refine ⟨fun j hj => ?_, ?_⟩
  · cases hj; rw [List.length_append]; exact Nat.lt_succ_self _
  · unfold den ups
    simp
/-- narrowing a name's bounds -/
def narH (B : BD) (n : AN) (hi : Int) : BD := match n.1 with
  | none => B
  | some j => match B[j]? with
    | some b => B.set j (b.1, min b.2 (hi - n.2))
    | none => B
def narL (B : BD) (n : AN) (lo : Int) : BD := match n.1 with
  | none => B
  | some j => match B[j]? with
    | some b => B.set j (max b.1 (lo - n.2), b.2)
    | none => B
theorem set_okB {B : BD} {ρ : Nat → Int} (hB : okB B ρ) {j : Nat} {b : Int × Int} (h : b.1 ≤ ρ j ∧ ρ j ≤ b.2) : okB (B.set j b) ρ := by
  intro k q hk
  by_cases hkj : k = j
  · subst hkj
    by_cases hl : k < B.length
    · rw [List.getElem?_set_self hl] at hk
      cases hk
      exact h
    · rw [List.getElem?_eq_none (by rw [List.length_set]; omega)] at hk
      cases hk
  · rw [List.getElem?_set_ne (Ne.symm hkj)] at hk
    exact hB k q hk
theorem narH_len (B : BD) (n : AN) (hi : Int) : (narH B n hi).length = B.length := by
  unfold narH
  split
  · rfl
  · split
    · rw [List.length_set]
    · rfl
theorem narL_len (B : BD) (n : AN) (lo : Int) : (narL B n lo).length = B.length := by
  unfold narL
  split
  · rfl
  · split
    · rw [List.length_set]
    · rfl
theorem narH_ok {B : BD} {ρ : Nat → Int} (hB : okB B ρ) {n : AN} {x : Int32} (h : rN B ρ n x) {hi : Int} (h1 : x.toInt ≤ hi) : okB (narH B n hi) ρ := by
  unfold narH
  have hd := h.2
  unfold den at hd
  split
  · exact hB
  · rename_i j hj
    rw [hj] at hd
    split
    · rename_i b hb
      have := hB j b hb
      refine set_okB hB ?_
      simp only at hd ⊢
      omega
    · exact hB
theorem narL_ok {B : BD} {ρ : Nat → Int} (hB : okB B ρ) {n : AN} {x : Int32} (h : rN B ρ n x) {lo : Int} (h1 : lo ≤ x.toInt) : okB (narL B n lo) ρ := by
  unfold narL
  have hd := h.2
  unfold den at hd
  split
  · exact hB
  · rename_i j hj
    rw [hj] at hd
    split
    · rename_i b hb
      have := hB j b hb
      refine set_okB hB ?_
      simp only at hd ⊢
      omega
    · exact hB
theorem narH_ext {B : BD} {ρ : Nat → Int} {n : AN} {hi : Int} : ext B ρ (narH B n hi) ρ := ⟨by rw [narH_len]; exact Nat.le_refl _, fun _ _ => rfl⟩
theorem narL_ext {B : BD} {ρ : Nat → Int} {n : AN} {lo : Int} : ext B ρ (narL B n lo) ρ := ⟨by rw [narL_len]; exact Nat.le_refl _, fun _ _ => rfl⟩
/-! ===== comparing: what each way says of the two; none: it cannot be ===== -/
def leB (B : BD) (a b : AN) : Option BD := if (bnd B b).2 < (bnd B a).1 then none else some (narL (narH B a (bnd B b).2) b (bnd B a).1)
def ltB (B : BD) (a b : AN) : Option BD := if (bnd B b).2 ≤ (bnd B a).1 then none else some (narL (narH B a ((bnd B b).2 - 1)) b ((bnd B a).1 + 1))
def eqB (B : BD) (a b : AN) : Option BD := if (bnd B b).2 < (bnd B a).1 ∨ (bnd B a).2 < (bnd B b).1 then none else some (narL (narH (narL (narH B a (bnd B b).2) b (bnd B a).1) b (bnd B a).2) a (bnd B b).1)
/-- not alike: an end that is the other's only number is cut off -/
def neB (B : BD) (a b : AN) : Option BD :=
  if (bnd B b).1 = (bnd B b).2 then
    if (bnd B a).1 = (bnd B b).1 then (if (bnd B a).2 = (bnd B b).1 then none else some (narL B a ((bnd B a).1 + 1)))
    else if (bnd B a).2 = (bnd B b).1 then some (narH B a ((bnd B a).2 - 1)) else some B
  else some B
theorem leB_ok {B : BD} {ρ : Nat → Int} (hB : okB B ρ) {a b : AN} {x y : Int32} (ha : rN B ρ a x) (hb : rN B ρ b y) (h : x.toInt ≤ y.toInt) : ∃ B', leB B a b = some B' ∧ okB B' ρ ∧ ext B ρ B' ρ := by
  have h1 := bnd_ok hB ha
  have h2 := bnd_ok hB hb
  unfold leB
  rw [if_neg (by omega)]
  have e1 : okB (narH B a (bnd B b).2) ρ := narH_ok hB ha (by omega)
  exact ⟨_, rfl, narL_ok e1 (rN_ext narH_ext hb) (by omega), ext_tr narH_ext narL_ext⟩
theorem ltB_ok {B : BD} {ρ : Nat → Int} (hB : okB B ρ) {a b : AN} {x y : Int32} (ha : rN B ρ a x) (hb : rN B ρ b y) (h : x.toInt < y.toInt) : ∃ B', ltB B a b = some B' ∧ okB B' ρ ∧ ext B ρ B' ρ := by
  have h1 := bnd_ok hB ha
  have h2 := bnd_ok hB hb
  unfold ltB
  rw [if_neg (by omega)]
  have e1 : okB (narH B a ((bnd B b).2 - 1)) ρ := narH_ok hB ha (by omega)
  exact ⟨_, rfl, narL_ok e1 (rN_ext narH_ext hb) (by omega), ext_tr narH_ext narL_ext⟩
theorem eqB_ok {B : BD} {ρ : Nat → Int} (hB : okB B ρ) {a b : AN} {x y : Int32} (ha : rN B ρ a x) (hb : rN B ρ b y) (h : x.toInt = y.toInt) : ∃ B', eqB B a b = some B' ∧ okB B' ρ ∧ ext B ρ B' ρ := by
  have h1 := bnd_ok hB ha
  have h2 := bnd_ok hB hb
  unfold eqB
  rw [if_neg (by omega)]
  have e1 : okB (narH B a (bnd B b).2) ρ := narH_ok hB ha (by omega)
  have x1 : ext B ρ (narH B a (bnd B b).2) ρ := narH_ext
  have e2 : okB (narL (narH B a (bnd B b).2) b (bnd B a).1) ρ := narL_ok e1 (rN_ext x1 hb) (by omega)
  have x2 := ext_tr x1 (narL_ext (n := b) (lo := (bnd B a).1))
  have e3 : okB (narH (narL (narH B a (bnd B b).2) b (bnd B a).1) b (bnd B a).2) ρ := narH_ok e2 (rN_ext x2 hb) (by omega)
  have x3 := ext_tr x2 (narH_ext (n := b) (hi := (bnd B a).2))
  exact ⟨_, rfl, narL_ok e3 (rN_ext x3 ha) (by omega), ext_tr x3 narL_ext⟩
theorem neB_ok {B : BD} {ρ : Nat → Int} (hB : okB B ρ) {a b : AN} {x y : Int32} (ha : rN B ρ a x) (hb : rN B ρ b y) (h : ¬ x.toInt = y.toInt) : ∃ B', neB B a b = some B' ∧ okB B' ρ ∧ ext B ρ B' ρ := by
  have h1 := bnd_ok hB ha
  have h2 := bnd_ok hB hb
  unfold neB
  split
  · split
    · rw [if_neg (by omega)]
      exact ⟨_, rfl, narL_ok hB ha (by omega), narL_ext⟩
    · split
      · exact ⟨_, rfl, narH_ok hB ha (by omega), narH_ext⟩
      · exact ⟨_, rfl, hB, ext_rf⟩
  · exact ⟨_, rfl, hB, ext_rf⟩
/-- a comparison that holds, or doesn't -/
def cmpT (B : BD) (c : Jvm.ClassFile.Cond) (a b : AN) : Option BD := match c with
  | .eq => eqB B a b
  | .ne => neB B a b
  | .lt => ltB B a b
  | .ge => leB B b a
  | .gt => ltB B b a
  | .le => leB B a b
def cmpF (B : BD) (c : Jvm.ClassFile.Cond) (a b : AN) : Option BD := match c with
  | .eq => neB B a b
  | .ne => eqB B a b
  | .lt => leB B b a
  | .ge => ltB B a b
  | .gt => leB B a b
  | .le => ltB B b a
theorem cmpT_ok {B : BD} {ρ : Nat → Int} (hB : okB B ρ) {c : Jvm.ClassFile.Cond} {a b : AN} {x y : Int32} (ha : rN B ρ a x) (hb : rN B ρ b y) (h : cmpB c x y = true) : ∃ B', cmpT B c a b = some B' ∧ okB B' ρ ∧ ext B ρ B' ρ := by
  cases c <;> simp only [cmpB, decide_eq_true_eq, Int32.lt_iff_toInt_lt, Int32.le_iff_toInt_le, ← Int32.toInt_inj] at h
  · exact eqB_ok hB ha hb h
  · exact neB_ok hB ha hb h
  · exact ltB_ok hB ha hb h
  · exact leB_ok hB hb ha h
  · exact ltB_ok hB hb ha h
  · exact leB_ok hB ha hb h
theorem cmpF_ok {B : BD} {ρ : Nat → Int} (hB : okB B ρ) {c : Jvm.ClassFile.Cond} {a b : AN} {x y : Int32} (ha : rN B ρ a x) (hb : rN B ρ b y) (h : cmpB c x y = false) : ∃ B', cmpF B c a b = some B' ∧ okB B' ρ ∧ ext B ρ B' ρ := by
  cases c <;> simp only [cmpB, decide_eq_false_iff_not, Int32.lt_iff_toInt_lt, Int32.le_iff_toInt_le, ← Int32.toInt_inj] at h
  · exact neB_ok hB ha hb h
  · exact eqB_ok hB ha hb (by omega)
  · exact leB_ok hB hb ha (by omega)
  · exact ltB_ok hB ha hb (by omega)
  · exact leB_ok hB ha hb (by omega)
  · exact ltB_ok hB hb ha (by omega)
/-! ===== what an operation gives: exactly a name plus a constant, or a new name in bounds ===== -/
def newN (B : BD) (lo hi : Int) : BD × AN := (B ++ [(lo, hi)], (some B.length, 0))
def anyN (B : BD) : BD × AN := newN B (-2147483648) 2147483647
/-- r stands for the number x, over names that go on from before -/
def gives (B : BD) (ρ : Nat → Int) (r : BD × AN) (x : Int32) : Prop := ∃ ρ', okB r.1 ρ' ∧ ext B ρ r.1 ρ' ∧ rN r.1 ρ' r.2 x
theorem newN_ok {B : BD} {ρ : Nat → Int} (hB : okB B ρ) {lo hi : Int} {x : Int32} (h1 : lo ≤ x.toInt) (h2 : x.toInt ≤ hi) : gives B ρ (newN B lo hi) x := ⟨ups ρ B.length x.toInt, new_ok hB h1 h2, new_ext _ _, new_rN⟩
theorem anyN_ok {B : BD} {ρ : Nat → Int} (hB : okB B ρ) (x : Int32) : gives B ρ (anyN B) x := newN_ok hB (int32_lo x) (int32_hi x)
theorem same_ok {B : BD} {ρ : Nat → Int} (hB : okB B ρ) {n : AN} {x : Int32} (h : rN B ρ n x) : gives B ρ (B, n) x := ⟨ρ, hB, ext_rf, h⟩
theorem known_ok {B : BD} {ρ : Nat → Int} (hB : okB B ρ) {c : Int} {x : Int32} (h : x.toInt = c) : gives B ρ (B, (none, c)) x := same_ok hB ⟨fun j hj => (by cases hj), h⟩
theorem toInt_add_in {x y : Int32} (h1 : -2147483648 ≤ x.toInt + y.toInt) (h2 : x.toInt + y.toInt ≤ 2147483647) : (x + y).toInt = x.toInt + y.toInt := by
  rw [Int32.toInt_add]
  exact Int.bmod_eq_of_le (by omega) (by omega)
theorem toInt_sub_in {x y : Int32} (h1 : -2147483648 ≤ x.toInt - y.toInt) (h2 : x.toInt - y.toInt ≤ 2147483647) : (x - y).toInt = x.toInt - y.toInt := by
  rw [Int32.toInt_sub]
  exact Int.bmod_eq_of_le (by omega) (by omega)
theorem toInt_mul_in {x y : Int32} (h1 : -2147483648 ≤ x.toInt * y.toInt) (h2 : x.toInt * y.toInt ≤ 2147483647) : (x * y).toInt = x.toInt * y.toInt := by
  rw [Int32.toInt_mul]
  exact Int.bmod_eq_of_le (by omega) (by omega)
def addN (B : BD) (a b : AN) : BD × AN :=
  if i32 ((bnd B a).1 + (bnd B b).1) ((bnd B a).2 + (bnd B b).2) = true then
    (match a.1, b.1 with
    | none, _ => (B, (b.1, a.2 + b.2))
    | some _, none => (B, (a.1, a.2 + b.2))
    | some _, some _ => newN B ((bnd B a).1 + (bnd B b).1) ((bnd B a).2 + (bnd B b).2))
  else anyN B
theorem addN_ok {B : BD} {ρ : Nat → Int} (hB : okB B ρ) {a b : AN} {x y : Int32} (ha : rN B ρ a x) (hb : rN B ρ b y) : gives B ρ (addN B a b) (x + y) := by
  have h1 := bnd_ok hB ha
  have h2 := bnd_ok hB hb
  unfold addN
  split
  · rename_i hi
    unfold i32 at hi
    rw [Bool.and_eq_true, decide_eq_true_eq, decide_eq_true_eq] at hi
    have e := toInt_add_in (x := x) (y := y) (by omega) (by omega)
    have da := ha.2
    have db := hb.2
    unfold den at da db
    split
    · rename_i hn
      rw [hn] at da
      refine same_ok hB ⟨fun j hj => hb.1 j hj, ?_⟩
      rw [e]
      unfold den
      cases hm : b.1 with
      | none => rw [hm] at db; simp only at da db ⊢; omega
      | some j => rw [hm] at db; simp only at da db ⊢; omega
    · rename_i j hn hm
      rw [hm] at db
      refine same_ok hB ⟨fun j hj => ha.1 j hj, ?_⟩
      rw [e]
      unfold den
      rw [hn] at da ⊢
      simp only at da db ⊢
      omega
    · exact newN_ok hB (by omega) (by omega)
  · exact anyN_ok hB _
def subN (B : BD) (a b : AN) : BD × AN :=
  if i32 ((bnd B a).1 - (bnd B b).2) ((bnd B a).2 - (bnd B b).1) = true then
    (match b.1 with
    | none => (B, (a.1, a.2 - b.2))
    | some _ => newN B ((bnd B a).1 - (bnd B b).2) ((bnd B a).2 - (bnd B b).1))
  else anyN B
theorem subN_ok {B : BD} {ρ : Nat → Int} (hB : okB B ρ) {a b : AN} {x y : Int32} (ha : rN B ρ a x) (hb : rN B ρ b y) : gives B ρ (subN B a b) (x - y) := by
  have h1 := bnd_ok hB ha
  have h2 := bnd_ok hB hb
  unfold subN
  split
  · rename_i hi
    unfold i32 at hi
    rw [Bool.and_eq_true, decide_eq_true_eq, decide_eq_true_eq] at hi
    have e := toInt_sub_in (x := x) (y := y) (by omega) (by omega)
    have da := ha.2
    have db := hb.2
    unfold den at da db
    split
    · rename_i hm
      rw [hm] at db
      refine same_ok hB ⟨fun j hj => ha.1 j hj, ?_⟩
      rw [e]
      unfold den
      cases hn : a.1 with
      | none => rw [hn] at da; simp only at da db ⊢; omega
      | some j => rw [hn] at da; simp only at da db ⊢; omega
    · exact newN_ok hB (by omega) (by omega)
  · exact anyN_ok hB _
/-- a known factor that isn't negative -/
def mulN (B : BD) (a b : AN) : BD × AN :=
  if (bnd B a).1 = (bnd B a).2 ∧ 0 ≤ (bnd B a).1 ∧ i32 ((bnd B a).1 * (bnd B b).1) ((bnd B a).1 * (bnd B b).2) = true then
    (if (bnd B b).1 = (bnd B b).2 then (B, (none, (bnd B a).1 * (bnd B b).1)) else newN B ((bnd B a).1 * (bnd B b).1) ((bnd B a).1 * (bnd B b).2))
  else if (bnd B b).1 = (bnd B b).2 ∧ 0 ≤ (bnd B b).1 ∧ i32 ((bnd B b).1 * (bnd B a).1) ((bnd B b).1 * (bnd B a).2) = true then newN B ((bnd B b).1 * (bnd B a).1) ((bnd B b).1 * (bnd B a).2)
  else anyN B
theorem mulN_ok {B : BD} {ρ : Nat → Int} (hB : okB B ρ) {a b : AN} {x y : Int32} (ha : rN B ρ a x) (hb : rN B ρ b y) : gives B ρ (mulN B a b) (x * y) := by
  have h1 := bnd_ok hB ha
  have h2 := bnd_ok hB hb
  unfold mulN
  split
  · rename_i hc
    obtain ⟨c1, c2, c3⟩ := hc
    unfold i32 at c3
    rw [Bool.and_eq_true, decide_eq_true_eq, decide_eq_true_eq] at c3
    have ex : x.toInt = (bnd B a).1 := by omega
    have l1 : (bnd B a).1 * (bnd B b).1 ≤ x.toInt * y.toInt := by rw [ex]; exact Int.mul_le_mul_of_nonneg_left h2.1 c2
    have l2 : x.toInt * y.toInt ≤ (bnd B a).1 * (bnd B b).2 := by rw [ex]; exact Int.mul_le_mul_of_nonneg_left h2.2 c2
    have e := toInt_mul_in (x := x) (y := y) (by omega) (by omega)
    split
    · rename_i hk
      have ey : y.toInt = (bnd B b).1 := by omega
      exact known_ok hB (by rw [e, ex, ey])
    · exact newN_ok hB (by omega) (by omega)
  · split
    · rename_i hc
      obtain ⟨c1, c2, c3⟩ := hc
      unfold i32 at c3
      rw [Bool.and_eq_true, decide_eq_true_eq, decide_eq_true_eq] at c3
      have ey : y.toInt = (bnd B b).1 := by omega
      have l1 : (bnd B b).1 * (bnd B a).1 ≤ x.toInt * y.toInt := by rw [ey, Int.mul_comm x.toInt]; exact Int.mul_le_mul_of_nonneg_left h1.1 c2
      have l2 : x.toInt * y.toInt ≤ (bnd B b).1 * (bnd B a).2 := by rw [ey, Int.mul_comm x.toInt]; exact Int.mul_le_mul_of_nonneg_left h1.2 c2
      have e := toInt_mul_in (x := x) (y := y) (by omega) (by omega)
      exact newN_ok hB (by omega) (by omega)
    · exact anyN_ok hB _
/-- both known: the machine's own answer -/
def knwN (B : BD) (f : Int32 → Int32 → Int32) (a b : AN) : BD × AN :=
  if (bnd B a).1 = (bnd B a).2 ∧ (bnd B b).1 = (bnd B b).2 then (B, (none, (f (Int32.ofInt (bnd B a).1) (Int32.ofInt (bnd B b).1)).toInt)) else anyN B
theorem ofInt_toInt (x : Int32) : Int32.ofInt x.toInt = x := by simp
theorem knwN_ok {B : BD} {ρ : Nat → Int} (hB : okB B ρ) (f : Int32 → Int32 → Int32) {a b : AN} {x y : Int32} (ha : rN B ρ a x) (hb : rN B ρ b y) : gives B ρ (knwN B f a b) (f x y) := by
  have h1 := bnd_ok hB ha
  have h2 := bnd_ok hB hb
  unfold knwN
  split
  · rename_i hc
    have ex : (bnd B a).1 = x.toInt := by omega
    have ey : (bnd B b).1 = y.toInt := by omega
    rw [ex, ey, ofInt_toInt, ofInt_toInt]
    exact known_ok hB rfl
  · exact anyN_ok hB _
/-- what is left by a division: both not negative -/
def remN (B : BD) (a b : AN) : BD × AN :=
  if (bnd B a).1 = (bnd B a).2 ∧ (bnd B b).1 = (bnd B b).2 ∧ 0 ≤ (bnd B a).1 ∧ 1 ≤ (bnd B b).1 then (B, (none, (bnd B a).1 % (bnd B b).1))
  else if 0 ≤ (bnd B a).1 ∧ 1 ≤ (bnd B b).1 then newN B 0 ((bnd B b).2 - 1) else anyN B
theorem nI_toInt' {x : Int32} (h : 0 ≤ x.toInt) : ∃ j : Nat, j < 2 ^ 31 ∧ x = nI j ∧ x.toInt = j := by
  obtain ⟨j, hj, rfl⟩ := nI_of (x := x) (by rw [Int32.lt_iff_toInt_lt, Int32.toInt_zero]; omega)
  exact ⟨j, hj, rfl, nI_toInt hj⟩
theorem remN_ok {B : BD} {ρ : Nat → Int} (hB : okB B ρ) {a b : AN} {x y : Int32} (ha : rN B ρ a x) (hb : rN B ρ b y) : gives B ρ (remN B a b) (x - x / y * y) := by
  have h1 := bnd_ok hB ha
  have h2 := bnd_ok hB hb
  unfold remN
  split
  · rename_i hc
    obtain ⟨j, hj, rfl, e1⟩ := nI_toInt' (x := x) (by omega)
    obtain ⟨k, hk, rfl, e2⟩ := nI_toInt' (x := y) (by omega)
    have hk0 : 0 < k := by omega
    rw [pk_rem hj hk0 hk]
    have hm := Nat.mod_lt j hk0
    have f1 : (bnd B a).1 = (j : Int) := by omega
    have f2 : (bnd B b).1 = (k : Int) := by omega
    rw [f1, f2, ← Int.natCast_emod]
    exact known_ok hB (nI_toInt (by omega))
  split
  · rename_i hc
    obtain ⟨j, hj, rfl, e1⟩ := nI_toInt' (x := x) (by omega)
    obtain ⟨k, hk, rfl, e2⟩ := nI_toInt' (x := y) (by omega)
    have hk0 : 0 < k := by omega
    rw [pk_rem hj hk0 hk]
    have hm := Nat.mod_lt j hk0
    generalize j % k = q at hm ⊢
    have e3 : (nI q).toInt = (q : Int) := nI_toInt (by omega)
    exact newN_ok hB (by rw [e3]; omega) (by rw [e3]; omega)
  · exact anyN_ok hB _
def divN (B : BD) (a b : AN) : BD × AN :=
  if (bnd B a).1 = (bnd B a).2 ∧ (bnd B b).1 = (bnd B b).2 ∧ 0 ≤ (bnd B a).1 ∧ 1 ≤ (bnd B b).1 then (B, (none, (bnd B a).1 / (bnd B b).1))
  else if 0 ≤ (bnd B a).1 ∧ 1 ≤ (bnd B b).1 then newN B 0 (bnd B a).2 else anyN B
theorem divN_ok {B : BD} {ρ : Nat → Int} (hB : okB B ρ) {a b : AN} {x y : Int32} (ha : rN B ρ a x) (hb : rN B ρ b y) : gives B ρ (divN B a b) (x / y) := by
  have h1 := bnd_ok hB ha
  have h2 := bnd_ok hB hb
  unfold divN
  split
  · rename_i hc
    obtain ⟨j, hj, rfl, e1⟩ := nI_toInt' (x := x) (by omega)
    obtain ⟨k, hk, rfl, e2⟩ := nI_toInt' (x := y) (by omega)
    have hk0 : 0 < k := by omega
    rw [pk_div hj hk0 hk]
    have hm := Nat.div_le_self j k
    have f1 : (bnd B a).1 = (j : Int) := by omega
    have f2 : (bnd B b).1 = (k : Int) := by omega
    rw [f1, f2, ← Int.natCast_ediv]
    exact known_ok hB (nI_toInt (by omega))
  split
  · rename_i hc
    obtain ⟨j, hj, rfl, e1⟩ := nI_toInt' (x := x) (by omega)
    obtain ⟨k, hk, rfl, e2⟩ := nI_toInt' (x := y) (by omega)
    have hk0 : 0 < k := by omega
    rw [pk_div hj hk0 hk]
    have hm := Nat.div_le_self j k
    generalize j / k = q at hm ⊢
    have e3 : (nI q).toInt = (q : Int) := nI_toInt (by omega)
    exact newN_ok hB (by rw [e3]; omega) (by rw [e3]; omega)
  · exact anyN_ok hB _
/-- sixteen places to the right, zeros from the left -/
def shrN (B : BD) (a b : AN) : BD × AN := if (bnd B b).1 = 16 ∧ (bnd B b).2 = 16 then newN B 0 65535 else anyN B
theorem ushr16 (x : Int32) : 0 ≤ (x.toUInt32 >>> ((16 : Int32).toUInt32 &&& Int32.toUInt32 31)).toInt32.toInt ∧ (x.toUInt32 >>> ((16 : Int32).toUInt32 &&& Int32.toUInt32 31)).toInt32.toInt ≤ 65535 := by
  have e : ((16 : Int32).toUInt32 &&& Int32.toUInt32 31) = 16 := by decide
  rw [e]
  generalize x.toUInt32 = u
  have h : (u >>> 16).toNat ≤ 65535 := by
    rw [UInt32.toNat_shiftRight]
    have : (16 : UInt32).toNat % 32 = 16 := by decide
    rw [this, Nat.shiftRight_eq_div_pow]
    have := u.toNat_lt
    omega
  generalize u >>> 16 = w at h
  have h2 : w.toInt32.toInt = (w.toNat : Int) := by
    show w.toBitVec.toInt = _
    rw [BitVec.toInt_eq_toNat_of_lt (by show 2 * w.toNat < 2 ^ 32; omega)]
    rfl
  rw [h2]
  omega
theorem shrN_ok {B : BD} {ρ : Nat → Int} (hB : okB B ρ) {a b : AN} {x y : Int32} (ha : rN B ρ a x) (hb : rN B ρ b y) : gives B ρ (shrN B a b) (x.toUInt32 >>> (y.toUInt32 &&& Int32.toUInt32 31)).toInt32 := by
  have h2 := bnd_ok hB hb
  unfold shrN
  split
  · rename_i hc
    have ey : y = 16 := by
      apply Int32.toInt_inj.mp
      have : (16 : Int32).toInt = 16 := by decide
      omega
    subst ey
    exact newN_ok hB (ushr16 x).1 (ushr16 x).2
  · exact anyN_ok hB _
/-- a one, some places to the left -/
def shlN (B : BD) (a b : AN) : BD × AN := if (bnd B a).1 = 1 ∧ (bnd B a).2 = 1 ∧ 0 ≤ (bnd B b).1 ∧ (bnd B b).2 ≤ 30 ∧ (bnd B b).1 < (bnd B b).2 then newN B (((2 : Nat) ^ (bnd B b).1.toNat : Nat) : Int) (((2 : Nat) ^ (bnd B b).2.toNat : Nat) : Int) else knwN B (fun x y => x <<< (y &&& 31)) a b
set_option maxRecDepth 20000 in
theorem shl1 : ∀ j : Nat, j < 31 → ((1 : Int32) <<< (nI j &&& 31)).toInt = (((2 : Nat) ^ j : Nat) : Int) := by decide +kernel
theorem shlN_ok {B : BD} {ρ : Nat → Int} (hB : okB B ρ) {a b : AN} {x y : Int32} (ha : rN B ρ a x) (hb : rN B ρ b y) : gives B ρ (shlN B a b) (x <<< (y &&& 31)) := by
  have h1 := bnd_ok hB ha
  have h2 := bnd_ok hB hb
  unfold shlN
  split
  · rename_i hc
    obtain ⟨c1, c2, c3, c4, c5⟩ := hc
    have ex : x = 1 := by
      apply Int32.toInt_inj.mp
      have : (1 : Int32).toInt = 1 := by decide
      omega
    subst ex
    obtain ⟨j, hj, rfl, e1⟩ := nI_toInt' (x := y) (by omega)
    have e := shl1 j (by omega)
    have p1 : (2 : Nat) ^ (bnd B b).1.toNat ≤ 2 ^ j := Nat.pow_le_pow_right (by omega) (by omega)
    have p2 : (2 : Nat) ^ j ≤ 2 ^ (bnd B b).2.toNat := Nat.pow_le_pow_right (by omega) (by omega)
    exact newN_ok hB (by rw [e]; exact Int.ofNat_le.mpr p1) (by rw [e]; exact Int.ofNat_le.mpr p2)
  · exact knwN_ok hB _ ha hb
/-! ===== values, cells, locals ===== -/
def rV (B : BD) (ρ : Nat → Int) (a : AVa) (v : Value) : Prop := match a, v with
  | .inl n, .int x => rN B ρ n x
  | .inr (.inl r), .ref q => q = r
  | .inr (.inr o), .long z => ∀ n, o = some n → okN B n ∧ z.toInt = den ρ n
  | _, _ => False
theorem rV_ext {B B' : BD} {ρ ρ' : Nat → Int} (e : ext B ρ B' ρ') {a : AVa} {v : Value} (h : rV B ρ a v) : rV B' ρ' a v := by
  match a, v, h with
  | .inl n, .int x, h => exact rN_ext e h
  | .inr (.inl r), .ref q, h => exact h
  | .inr (.inr o), .long z, h =>
    intro n hn
    obtain ⟨h1, h2⟩ := h n hn
    refine ⟨fun j hj => Nat.lt_of_lt_of_le (h1 j hj) e.1, h2.trans ?_⟩
    unfold den
    cases hk : n.1 with
    | none => rfl
    | some j => simp only; rw [e.2 j (h1 j hk)]
theorem rV_int {B : BD} {ρ : Nat → Int} {n : AN} {v : Value} (h : rV B ρ (.inl n) v) : ∃ x, v = .int x ∧ rN B ρ n x := by
  match v, h with
  | .int x, h => exact ⟨x, rfl, h⟩
theorem rV_ref {B : BD} {ρ : Nat → Int} {r : Nat} {v : Value} (h : rV B ρ (.inr (.inl r)) v) : v = .ref r := by
  match v, h with
  | .ref q, h => rw [show q = r from h]
theorem rV_long {B : BD} {ρ : Nat → Int} {o : Option AN} {v : Value} (h : rV B ρ (.inr (.inr o)) v) : ∃ z, v = .long z ∧ ∀ n, o = some n → okN B n ∧ z.toInt = den ρ n := by
  match v, h with
  | .long z, h => exact ⟨z, rfl, h⟩
def rS (B : BD) (ρ : Nat → Int) : List AVa → List Value → Prop
  | [], [] => True
  | a :: as, v :: vs => rV B ρ a v ∧ rS B ρ as vs
  | _, _ => False
theorem rS_ext {B B' : BD} {ρ ρ' : Nat → Int} (e : ext B ρ B' ρ') : ∀ {as : List AVa} {vs : List Value}, rS B ρ as vs → rS B' ρ' as vs
  | [], [], _ => trivial
  | _ :: _, _ :: _, h => ⟨rV_ext e h.1, rS_ext e h.2⟩
  | [], _ :: _, h => h.elim
  | _ :: _, [], h => h.elim
theorem rS_cons {B : BD} {ρ : Nat → Int} {a : AVa} {as : List AVa} {st : List Value} (h : rS B ρ (a :: as) st) : ∃ v vs, st = v :: vs ∧ rV B ρ a v ∧ rS B ρ as vs := by
  match st, h with
  | v :: vs, h => exact ⟨v, vs, rfl, h.1, h.2⟩
theorem rS_len {B : BD} {ρ : Nat → Int} : ∀ {as : List AVa} {vs : List Value}, rS B ρ as vs → as.length = vs.length
  | [], [], _ => rfl
  | _ :: _, _ :: _, h => by rw [List.length_cons, List.length_cons, rS_len h.2]
  | [], _ :: _, h => h.elim
  | _ :: _, [], h => h.elim
def rL (B : BD) (ρ : Nat → Int) (la : List (Option AVa)) (lv : List (Option Value)) : Prop := la.length = lv.length ∧ ∀ (i : Nat) (a : AVa), la[i]? = some (some a) → ∃ v, lv[i]? = some (some v) ∧ rV B ρ a v
theorem rL_ext {B B' : BD} {ρ ρ' : Nat → Int} (e : ext B ρ B' ρ') {la : List (Option AVa)} {lv : List (Option Value)} (h : rL B ρ la lv) : rL B' ρ' la lv := ⟨h.1, fun i a hi => by
  obtain ⟨v, h1, h2⟩ := h.2 i a hi
  exact ⟨v, h1, rV_ext e h2⟩⟩
def catA (a : AVa) : Nat := match a with
  | .inr (.inr _) => 2
  | _ => 1
theorem catA_eq {B : BD} {ρ : Nat → Int} {a : AVa} {v : Value} (h : rV B ρ a v) : v.category = catA a := by
  match a, v, h with
  | .inl n, .int x, _ => rfl
  | .inr (.inl r), .ref q, _ => rfl
  | .inr (.inr o), .long z, _ => rfl
/-- a store of one place: what stood a place before it may have been a long's first half -/
def sta1 (la : List (Option AVa)) (i : Nat) (a : AVa) : List (Option AVa) := (match i with
  | 0 => la
  | j + 1 => match la[j]? with
    | some (some w) => if catA w == 2 then la.set j none else la
    | _ => la.set j none).set i (some a)
theorem sta1_ok {B : BD} {ρ : Nat → Int} {la : List (Option AVa)} {lv : List (Option Value)} (h : rL B ρ la lv) {i : Nat} {a : AVa} {v : Value} (hv : rV B ρ a v) : rL B ρ (sta1 la i a) (st1 lv i v) := by
  have hlen : (sta1 la i a).length = la.length := by
    unfold sta1
    rw [List.length_set]
    cases i with
    | zero => rfl
    | succ j =>
      simp only
      split
      · split
        · rw [List.length_set]
        · rfl
      · rw [List.length_set]
  refine ⟨by rw [hlen, h.1]; unfold st1; rw [List.length_set, clr1_length], fun k b hk => ?_⟩
  unfold sta1 at hk
  by_cases hki : k = i
  · subst hki
    have hl : k < (sta1 la k a).length := (List.getElem?_eq_some_iff.mp hk).1
    rw [hlen] at hl
    rw [List.getElem?_set_self (by unfold sta1 at hlen; rw [List.length_set] at hlen; omega)] at hk
    cases hk
    refine ⟨v, ?_, hv⟩
    unfold st1
    rw [List.getElem?_set_self (by rw [clr1_length, ← h.1]; exact hl)]
  · rw [List.getElem?_set_ne (Ne.symm hki)] at hk
    have key : la[k]? = some (some b) ∧ ¬ (k + 1 = i ∧ catA b = 2) := by
      cases i with
      | zero => exact ⟨hk, fun q => by omega⟩
      | succ j =>
        simp only at hk
        split at hk
        · rename_i w hw
          split at hk
          · by_cases hkj : k = j
            · subst hkj
              rw [List.getElem?_set_self (List.getElem?_eq_some_iff.mp hw).1] at hk
              cases hk
            · rw [List.getElem?_set_ne (Ne.symm hkj)] at hk
              exact ⟨hk, fun q => by omega⟩
          · rename_i hc
            refine ⟨hk, fun q => ?_⟩
            have : k = j := by omega
            subst this
            rw [hw] at hk
            cases hk
            exact hc (by rw [q.2]; rfl)
        · by_cases hkj : k = j
          · subst hkj
            by_cases hl : k < la.length
            · rw [List.getElem?_set_self hl] at hk
              cases hk
            · rw [List.getElem?_eq_none (by rw [List.length_set]; omega)] at hk
              cases hk
          · rw [List.getElem?_set_ne (Ne.symm hkj)] at hk
            exact ⟨hk, fun q => by omega⟩
    obtain ⟨w, h1, h2⟩ := h.2 k b key.1
    refine ⟨w, ?_, h2⟩
    unfold st1
    rw [List.getElem?_set_ne (Ne.symm hki)]
    -- the clearing leaves it
    unfold clr1
    cases i with
    | zero => exact h1
    | succ j =>
      simp only
      split
      · rename_i w0 hw0
        split
        · rename_i hc
          have hkj : ¬ k = j := fun q => by
            subst q
            rw [hw0] at h1
            cases h1
            exact key.2 ⟨rfl, by rw [← catA_eq h2]; simpa using hc⟩
          rw [List.getElem?_set_ne (Ne.symm hkj)]
          exact h1
        · exact h1
      · exact h1
def sta2 (la : List (Option AVa)) (i : Nat) (a : AVa) : List (Option AVa) := (sta1 la i a).set (i + 1) none
theorem sta2_ok {B : BD} {ρ : Nat → Int} {la : List (Option AVa)} {lv : List (Option Value)} (h : rL B ρ la lv) {i : Nat} {a : AVa} {v : Value} (hv : rV B ρ a v) : rL B ρ (sta2 la i a) (st2 lv i v) := by
  have h1 := sta1_ok (i := i) h hv
  have e : st2 lv i v = (st1 lv i v).set (i + 1) none := rfl
  rw [e]
  refine ⟨by unfold sta2; rw [List.length_set, List.length_set]; exact h1.1, fun k b hk => ?_⟩
  unfold sta2 at hk
  by_cases hki : k = i + 1
  · subst hki
    by_cases hl : i + 1 < (sta1 la i a).length
    · rw [List.getElem?_set_self hl] at hk
      cases hk
    · rw [List.getElem?_eq_none (by rw [List.length_set]; omega)] at hk
      cases hk
  · rw [List.getElem?_set_ne (Ne.symm hki)] at hk
    obtain ⟨w, g1, g2⟩ := h1.2 k b hk
    exact ⟨w, by rw [List.getElem?_set_ne (Ne.symm hki)]; exact g1, g2⟩
/-! ===== longs by names ===== -/
def i64 (lo hi : Int) : Bool := decide (-9223372036854775808 ≤ lo) && decide (hi ≤ 9223372036854775807)
theorem int64_lo (x : Int64) : -9223372036854775808 ≤ x.toInt := by
  have := x.le_toInt
  have h : Int64.minValue.toInt = -9223372036854775808 := by decide
  omega
theorem int64_hi (x : Int64) : x.toInt ≤ 9223372036854775807 := by
  have := x.toInt_le
  have h : Int64.maxValue.toInt = 9223372036854775807 := by decide
  omega
theorem bnd_dn {B : BD} {ρ : Nat → Int} (hB : okB B ρ) {n : AN} (hn : okN B n) : (bnd B n).1 ≤ den ρ n ∧ den ρ n ≤ (bnd B n).2 := by
  unfold bnd den
  cases h : n.1 with
  | none => exact ⟨Int.le_refl _, Int.le_refl _⟩
  | some j =>
    have hj := hn j h
    have := hB j B[j] (List.getElem?_eq_getElem hj)
    simp only [List.getElem?_eq_getElem hj]
    omega
/-- a new name for a long that is known to be the number v, or nothing -/
def lnw (B : BD) (o : Option (Int × Int)) : BD × Option AN := match o with
  | some b => (B ++ [b], some (some B.length, 0))
  | none => (B, none)
def laddB (B : BD) (a b : Option AN) : Option (Int × Int) := match a, b with
  | some x, some y => if i64 ((bnd B x).1 + (bnd B y).1) ((bnd B x).2 + (bnd B y).2) = true then some ((bnd B x).1 + (bnd B y).1, (bnd B x).2 + (bnd B y).2) else none
  | _, _ => none
def lsubB (B : BD) (a b : Option AN) : Option (Int × Int) := match a, b with
  | some x, some y => if i64 ((bnd B x).1 - (bnd B y).2) ((bnd B x).2 - (bnd B y).1) = true then some ((bnd B x).1 - (bnd B y).2, (bnd B x).2 - (bnd B y).1) else none
  | _, _ => none
def lmulB (B : BD) (a b : Option AN) : Option (Int × Int) := match a, b with
  | some x, some y => if 0 ≤ (bnd B x).1 ∧ 0 ≤ (bnd B y).1 ∧ i64 0 ((bnd B x).2 * (bnd B y).2) = true then some (0, (bnd B x).2 * (bnd B y).2) else none
  | _, _ => none
def lcmpB (a b : Option AN) : Bool := match a, b with
  | some _, some _ => true
  | _, _ => false
/-- what a long's operation gives, where the number lies within -/
def lgives (B : BD) (ρ : Nat → Int) (r : BD × Option AN) (z : Int64) : Prop := ∃ ρ', okB r.1 ρ' ∧ ext B ρ r.1 ρ' ∧ ∀ n, r.2 = some n → okN r.1 n ∧ z.toInt = den ρ' n
theorem lnw_ok {B : BD} {ρ : Nat → Int} (hB : okB B ρ) {o : Option (Int × Int)} {z : Int64} (h : ∀ b, o = some b → b.1 ≤ z.toInt ∧ z.toInt ≤ b.2) : lgives B ρ (lnw B o) z := by
  cases o with
  | none => exact ⟨ρ, hB, ext_rf, fun n hn => by cases hn⟩
  | some b =>
    obtain ⟨h1, h2⟩ := h b rfl
    refine ⟨ups ρ B.length z.toInt, new_ok hB h1 h2, new_ext _ _, fun n hn => ?_⟩
    cases hn
    refine ⟨fun j hj => by cases hj; show B.length < (B ++ [b]).length; rw [List.length_append]; exact Nat.lt_succ_self _, ?_⟩
    unfold den ups
    simp
theorem l_add {x y : Int64} (h1 : -9223372036854775808 ≤ x.toInt + y.toInt) (h2 : x.toInt + y.toInt ≤ 9223372036854775807) : (x + y).toInt = x.toInt + y.toInt := by
  rw [Int64.toInt_add]
  exact Int.bmod_eq_of_le (by omega) (by omega)
theorem l_sub {x y : Int64} (h1 : -9223372036854775808 ≤ x.toInt - y.toInt) (h2 : x.toInt - y.toInt ≤ 9223372036854775807) : (x - y).toInt = x.toInt - y.toInt := by
  rw [Int64.toInt_sub]
  exact Int.bmod_eq_of_le (by omega) (by omega)
theorem l_mul {x y : Int64} (h1 : -9223372036854775808 ≤ x.toInt * y.toInt) (h2 : x.toInt * y.toInt ≤ 9223372036854775807) : (x * y).toInt = x.toInt * y.toInt := by
  rw [Int64.toInt_mul]
  exact Int.bmod_eq_of_le (by omega) (by omega)
section LLN
variable {B : BD} {ρ : Nat → Int} {a b : Option AN} {x y : Int64}
theorem laddB_ok (hB : okB B ρ) (ha : ∀ n, a = some n → okN B n ∧ x.toInt = den ρ n) (hb : ∀ n, b = some n → okN B n ∧ y.toInt = den ρ n) : ∀ q, laddB B a b = some q → (x + y).toInt = x.toInt + y.toInt ∧ q.1 ≤ (x + y).toInt ∧ (x + y).toInt ≤ q.2 := by
  intro q h
  unfold laddB at h
  split at h
  · rename_i n m
    obtain ⟨n1, n2⟩ := ha n rfl
    obtain ⟨m1, m2⟩ := hb m rfl
    have c1 := bnd_dn hB n1
    have c2 := bnd_dn hB m1
    split at h
    · rename_i hi
      cases h
      unfold i64 at hi
      rw [Bool.and_eq_true, decide_eq_true_eq, decide_eq_true_eq] at hi
      have e := l_add (x := x) (y := y) (by omega) (by omega)
      exact ⟨e, by omega, by omega⟩
    · cases h
  · cases h
theorem lsubB_ok (hB : okB B ρ) (ha : ∀ n, a = some n → okN B n ∧ x.toInt = den ρ n) (hb : ∀ n, b = some n → okN B n ∧ y.toInt = den ρ n) : ∀ q, lsubB B a b = some q → (x - y).toInt = x.toInt - y.toInt ∧ q.1 ≤ (x - y).toInt ∧ (x - y).toInt ≤ q.2 := by
  intro q h
  unfold lsubB at h
  split at h
  · rename_i n m
    obtain ⟨n1, n2⟩ := ha n rfl
    obtain ⟨m1, m2⟩ := hb m rfl
    have c1 := bnd_dn hB n1
    have c2 := bnd_dn hB m1
    split at h
    · rename_i hi
      cases h
      unfold i64 at hi
      rw [Bool.and_eq_true, decide_eq_true_eq, decide_eq_true_eq] at hi
      have e := l_sub (x := x) (y := y) (by omega) (by omega)
      exact ⟨e, by omega, by omega⟩
    · cases h
  · cases h
theorem lmulB_ok (hB : okB B ρ) (ha : ∀ n, a = some n → okN B n ∧ x.toInt = den ρ n) (hb : ∀ n, b = some n → okN B n ∧ y.toInt = den ρ n) : ∀ q, lmulB B a b = some q → (x * y).toInt = x.toInt * y.toInt ∧ q.1 ≤ (x * y).toInt ∧ (x * y).toInt ≤ q.2 := by
  intro q h
  unfold lmulB at h
  split at h
  · rename_i n m
    obtain ⟨n1, n2⟩ := ha n rfl
    obtain ⟨m1, m2⟩ := hb m rfl
    have c1 := bnd_dn hB n1
    have c2 := bnd_dn hB m1
    split at h
    · rename_i hi
      obtain ⟨i1, i2, i3⟩ := hi
      cases h
      unfold i64 at i3
      rw [Bool.and_eq_true, decide_eq_true_eq, decide_eq_true_eq] at i3
      have p1 : 0 ≤ x.toInt * y.toInt := Int.mul_nonneg (by omega) (by omega)
      have p2 : x.toInt * y.toInt ≤ (bnd B n).2 * (bnd B m).2 := Int.mul_le_mul (by omega) (by omega) (by omega) (by omega)
      have e := l_mul (x := x) (y := y) (by omega) (by omega)
      exact ⟨e, by rw [e]; exact p1, by rw [e]; exact p2⟩
    · cases h
  · cases h
end LLN
theorem lg_cmp_b (x y : Int64) : -1 ≤ (lg_cmp x y).toInt ∧ (lg_cmp x y).toInt ≤ 1 := by
  unfold lg_cmp
  split
  · decide
  · split <;> decide
/-- known, or a one some places to the left -/
def lshlB (B : BD) (o : Option AN) (n : AN) : BD × Option AN := match o with
  | some c => if (bnd B n).1 = (bnd B n).2 ∧ (bnd B c).1 = (bnd B c).2 then (B, some (none, (Int64.ofInt (bnd B c).1 <<< ((Int32.ofInt (bnd B n).1).toInt64 &&& 63)).toInt)) else if (bnd B c).1 = 1 ∧ (bnd B c).2 = 1 ∧ 0 ≤ (bnd B n).1 ∧ (bnd B n).2 ≤ 62 then lnw B (some ((((2 : Nat) ^ (bnd B n).1.toNat : Nat) : Int), (((2 : Nat) ^ (bnd B n).2.toNat : Nat) : Int))) else (B, none)
  | none => (B, none)
set_option maxRecDepth 20000 in
theorem lsh1 : ∀ j : Nat, j < 63 → ((1 : Int64) <<< ((nI j).toInt64 &&& 63)).toInt = (((2 : Nat) ^ j : Nat) : Int) := by decide +kernel
theorem lshlB_ok {B : BD} {ρ : Nat → Int} (hB : okB B ρ) {o : Option AN} {n : AN} {x : Int32} {y : Int64} (hy : ∀ c, o = some c → okN B c ∧ y.toInt = den ρ c) (hx : rN B ρ n x) : lgives B ρ (lshlB B o n) (y <<< (x.toInt64 &&& 63)) := by
  have hb := bnd_ok hB hx
  unfold lshlB
  split
  · rename_i c
    obtain ⟨q1, q2⟩ := hy c rfl
    have hb2 := bnd_dn hB q1
    split
    · rename_i he
      have ex : (bnd B n).1 = x.toInt := by omega
      have ey : (bnd B c).1 = y.toInt := by omega
      refine ⟨ρ, hB, ext_rf, fun m hm => ?_⟩
      cases hm
      rw [ex, ofInt_toInt, ey, Int64.ofInt_toInt]
      exact ⟨fun j hj => (by cases hj), rfl⟩
    · split
      · rename_i he
        obtain ⟨c1, c2, c3, c4⟩ := he
        have ey : y = 1 := by
          apply Int64.toInt_inj.mp
          have : (1 : Int64).toInt = 1 := by decide
          omega
        subst ey
        obtain ⟨j, hj, rfl, e1⟩ := nI_toInt' (x := x) (by omega)
        have e := lsh1 j (by omega)
        have p1 : (2 : Nat) ^ (bnd B n).1.toNat ≤ 2 ^ j := Nat.pow_le_pow_right (by omega) (by omega)
        have p2 : (2 : Nat) ^ j ≤ 2 ^ (bnd B n).2.toNat := Nat.pow_le_pow_right (by omega) (by omega)
        exact lnw_ok hB (fun b hbb => by cases hbb; rw [e]; exact ⟨Int.ofNat_le.mpr p1, Int.ofNat_le.mpr p2⟩)
      · exact ⟨ρ, hB, ext_rf, fun m hm => by cases hm⟩
  · exact ⟨ρ, hB, ext_rf, fun m hm => by cases hm⟩
/-! ===== steps that touch neither heap nor calls, over names ===== -/
def binN (i : Instr) : Option (BD → AN → AN → BD × AN) := match i with
  | .iadd => some addN
  | .isub => some subN
  | .imul => some mulN
  | .iand => some (fun B => knwN B (fun x y => x &&& y))
  | .ior => some (fun B => knwN B (fun x y => x ||| y))
  | .ixor => some (fun B => knwN B (fun x y => x ^^^ y))
  | .ishl => some shlN
  | .ishr => some (fun B => knwN B (fun x y => x >>> (y &&& 31)))
  | .iushr => some shrN
  | _ => none
theorem binN_ok {i : Instr} {F : BD → AN → AN → BD × AN} (h : binN i = some F) {B : BD} {ρ : Nat → Int} (hB : okB B ρ) {a b : AN} {x y : Int32} (ha : rN B ρ a x) (hb : rN B ρ b y) (pc : Nat) (lv : List (Option Value)) (r : List Value) : ∃ z, sA i pc lv (.int y :: .int x :: r) = some (pc + 1, lv, .int z :: r) ∧ gives B ρ (F B a b) z := by
  unfold binN at h
  split at h <;> cases h
  · exact ⟨_, rfl, addN_ok hB ha hb⟩
  · exact ⟨_, rfl, subN_ok hB ha hb⟩
  · exact ⟨_, rfl, mulN_ok hB ha hb⟩
  · exact ⟨_, rfl, knwN_ok hB _ ha hb⟩
  · exact ⟨_, rfl, knwN_ok hB _ ha hb⟩
  · exact ⟨_, rfl, knwN_ok hB _ ha hb⟩
  · exact ⟨_, rfl, shlN_ok hB ha hb⟩
  · exact ⟨_, rfl, knwN_ok hB _ ha hb⟩
  · exact ⟨_, rfl, shrN_ok hB ha hb⟩
def aS (B : BD) (i : Instr) (pc : Nat) (la : List (Option AVa)) (st : List AVa) : Option (BD × Nat × List (Option AVa) × List AVa) := match i with
  | .iconst n => some (B, pc + 1, la, .inl (none, (Int32.ofInt n).toInt) :: st)
  | .bipush n => some (B, pc + 2, la, .inl (none, (Int8.ofInt n).toInt32.toInt) :: st)
  | .sipush n => some (B, pc + 3, la, .inl (none, (Int16.ofInt n).toInt32.toInt) :: st)
  | .lconst n => some (B, pc + 1, la, .inr (.inr (some (none, (Int64.ofNat (n : Nat)).toInt))) :: st)
  | .iload_n k => match la[(k : Nat)]? with
    | some (some (.inl n)) => some (B, pc + 1, la, .inl n :: st)
    | _ => none
  | .iload k => match la[k]? with
    | some (some (.inl n)) => some (B, pc + 2, la, .inl n :: st)
    | _ => none
  | .lload_n k => match la[(k : Nat)]? with
    | some (some (.inr (.inr o))) => some (B, pc + 1, la, .inr (.inr o) :: st)
    | _ => none
  | .lload k => match la[k]? with
    | some (some (.inr (.inr o))) => some (B, pc + 2, la, .inr (.inr o) :: st)
    | _ => none
  | .aload_n k => match la[(k : Nat)]? with
    | some (some (.inr (.inl r))) => some (B, pc + 1, la, .inr (.inl r) :: st)
    | _ => none
  | .aload k => match la[k]? with
    | some (some (.inr (.inl r))) => some (B, pc + 2, la, .inr (.inl r) :: st)
    | _ => none
  | .istore_n k => match st with
    | .inl n :: r => if (k : Nat) < la.length then some (B, pc + 1, sta1 la k (.inl n), r) else none
    | _ => none
  | .istore k => match st with
    | .inl n :: r => if k < la.length then some (B, pc + 2, sta1 la k (.inl n), r) else none
    | _ => none
  | .lstore_n k => match st with
    | .inr (.inr o) :: r => if (k : Nat) + 1 < la.length then some (B, pc + 1, sta2 la k (.inr (.inr o)), r) else none
    | _ => none
  | .lstore k => match st with
    | .inr (.inr o) :: r => if k + 1 < la.length then some (B, pc + 2, sta2 la k (.inr (.inr o)), r) else none
    | _ => none
  | .astore_n k => match st with
    | .inr (.inl q) :: r => if (k : Nat) < la.length then some (B, pc + 1, sta1 la k (.inr (.inl q)), r) else none
    | _ => none
  | .astore k => match st with
    | .inr (.inl q) :: r => if k < la.length then some (B, pc + 2, sta1 la k (.inr (.inl q)), r) else none
    | _ => none
  | .iinc k c => match la[k]? with
    | some (some (.inl n)) => match addN B n (none, (Int32.ofInt c).toInt) with
      | (B', m) => if k < la.length then some (B', pc + 3, sta1 la k (.inl m), st) else none
    | _ => none
  | .ineg => match st with
    | .inl _ :: r => some ((anyN B).1, pc + 1, la, .inl (anyN B).2 :: r)
    | _ => none
  | .i2b => match st with
    | .inl _ :: r => some ((anyN B).1, pc + 1, la, .inl (anyN B).2 :: r)
    | _ => none
  | .i2s => match st with
    | .inl _ :: r => some ((anyN B).1, pc + 1, la, .inl (anyN B).2 :: r)
    | _ => none
  | .i2l => match st with
    | .inl n :: r => some (B, pc + 1, la, .inr (.inr (some n)) :: r)
    | _ => none
  | .ladd => match st with
    | .inr (.inr b) :: .inr (.inr a) :: r => some ((lnw B (laddB B a b)).1, pc + 1, la, .inr (.inr (lnw B (laddB B a b)).2) :: r)
    | _ => none
  | .lsub => match st with
    | .inr (.inr b) :: .inr (.inr a) :: r => some ((lnw B (lsubB B a b)).1, pc + 1, la, .inr (.inr (lnw B (lsubB B a b)).2) :: r)
    | _ => none
  | .lmul => match st with
    | .inr (.inr b) :: .inr (.inr a) :: r => some ((lnw B (lmulB B a b)).1, pc + 1, la, .inr (.inr (lnw B (lmulB B a b)).2) :: r)
    | _ => none
  | .land => match st with
    | .inr (.inr _) :: .inr (.inr _) :: r => some (B, pc + 1, la, .inr (.inr none) :: r)
    | _ => none
  | .lshl => match st with
    | .inl n :: .inr (.inr o) :: r => some ((lshlB B o n).1, pc + 1, la, .inr (.inr (lshlB B o n).2) :: r)
    | _ => none
  | .lshr => match st with
    | .inl _ :: .inr (.inr _) :: r => some (B, pc + 1, la, .inr (.inr none) :: r)
    | _ => none
  | .lcmp => match st with
    | .inr (.inr _) :: .inr (.inr _) :: r => some ((newN B (-1) 1).1, pc + 1, la, .inl (newN B (-1) 1).2 :: r)
    | _ => none
  | .dup => match st with
    | a :: r => if catA a == 1 then some (B, pc + 1, la, a :: a :: r) else none
    | _ => none
  | .dup2 => match st with
    | a :: b :: r => if catA a == 1 && catA b == 1 then some (B, pc + 1, la, a :: b :: a :: b :: r) else none
    | _ => none
  | .pop => match st with
    | a :: r => if catA a == 1 then some (B, pc + 1, la, r) else none
    | _ => none
  | .goto off => match tgt pc off with
    | some t => some (B, t, la, st)
    | none => none
  | j => match binN j, st with
    | some F, .inl b :: .inl a :: r => some ((F B a b).1, pc + 1, la, .inl (F B a b).2 :: r)
    | _, _ => none
section ASOK
variable {B B' : BD} {ρ : Nat → Int} {i : Instr} {pc pc' : Nat} {la la' : List (Option AVa)} {lv : List (Option Value)} {sa sa' : List AVa} {st : List Value}
/-- what a step's soundness says -/
def stepOk (B : BD) (ρ : Nat → Int) (i : Instr) (pc : Nat) (lv : List (Option Value)) (st : List Value) (B' : BD) (pc' : Nat) (la' : List (Option AVa)) (sa' : List AVa) : Prop := ∃ ρ' lv' st', okB B' ρ' ∧ ext B ρ B' ρ' ∧ sA i pc lv st = some (pc', lv', st') ∧ rL B' ρ' la' lv' ∧ rS B' ρ' sa' st'
theorem bin_step {F : BD → AN → AN → BD × AN} (hF : binN i = some F) (hB : okB B ρ) (hL : rL B ρ la lv) {a b : AN} {r : List AVa} (hS : rS B ρ (.inl b :: .inl a :: r) st) : stepOk B ρ i pc lv st (F B a b).1 (pc + 1) la (.inl (F B a b).2 :: r) := by
  obtain ⟨v, vs, rfl, hv, hS1⟩ := rS_cons hS
  obtain ⟨w, ws, rfl, hw, hS2⟩ := rS_cons hS1
  obtain ⟨y, rfl, hy⟩ := rV_int hv
  obtain ⟨x, rfl, hx⟩ := rV_int hw
  obtain ⟨z, h1, ρ', h2, h3, h4⟩ := binN_ok hF hB hx hy pc lv ws
  exact ⟨ρ', lv, _, h2, h3, h1, rL_ext h3 hL, h4, rS_ext h3 hS2⟩
theorem any_step (hB : okB B ρ) (hL : rL B ρ la lv) {r : List AVa} {vs : List Value} (hS : rS B ρ r vs) {z : Int32} (h : sA i pc lv st = some (pc + 1, lv, .int z :: vs)) : stepOk B ρ i pc lv st (anyN B).1 (pc + 1) la (.inl (anyN B).2 :: r) := by
  obtain ⟨ρ', h2, h3, h4⟩ := anyN_ok hB z
  exact ⟨ρ', lv, _, h2, h3, h, rL_ext h3 hL, h4, rS_ext h3 hS⟩
theorem long_step (hB : okB B ρ) (hL : rL B ρ la lv) {r : List AVa} {vs : List Value} (hS : rS B ρ r vs) {z : Int64} (h : sA i pc lv st = some (pc + 1, lv, .long z :: vs)) : stepOk B ρ i pc lv st B (pc + 1) la (.inr (.inr none) :: r) :=
  ⟨ρ, lv, _, hB, ext_rf, h, hL, (fun c hc => by cases hc), hS⟩
theorem lnw_step (hL : rL B ρ la lv) {r : List AVa} {vs : List Value} (hS : rS B ρ r vs) {z : Int64} {q : BD × Option AN} (hg : lgives B ρ q z) (h : sA i pc lv st = some (pc + 1, lv, .long z :: vs)) : stepOk B ρ i pc lv st q.1 (pc + 1) la (.inr (.inr q.2) :: r) := by
  obtain ⟨ρ', g1, g2, g3⟩ := hg
  exact ⟨ρ', lv, _, g1, g2, h, rL_ext g2 hL, g3, rS_ext g2 hS⟩
theorem aS_ok (hB : okB B ρ) (hL : rL B ρ la lv) (hS : rS B ρ sa st) (h : aS B i pc la sa = some (B', pc', la', sa')) : stepOk B ρ i pc lv st B' pc' la' sa' := by
  cases i with
  | iconst n => cases h; exact ⟨ρ, lv, _, hB, ext_rf, rfl, hL, ⟨fun j hj => (by cases hj), rfl⟩, hS⟩
  | bipush n => cases h; exact ⟨ρ, lv, _, hB, ext_rf, rfl, hL, ⟨fun j hj => (by cases hj), rfl⟩, hS⟩
  | sipush n => cases h; exact ⟨ρ, lv, _, hB, ext_rf, rfl, hL, ⟨fun j hj => (by cases hj), rfl⟩, hS⟩
  | lconst n => cases h; exact ⟨ρ, lv, _, hB, ext_rf, rfl, hL, (fun c hc => by cases hc; exact ⟨fun j hj => (by cases hj), rfl⟩), hS⟩
  | iload_n k =>
    simp only [aS] at h
    split at h
    · rename_i n hk
      cases h
      obtain ⟨v, h1, h2⟩ := hL.2 _ _ hk
      obtain ⟨x, rfl, hx⟩ := rV_int h2
      exact ⟨ρ, lv, .int x :: st, hB, ext_rf, by simp only [sA, ldI, h1]; rfl, hL, hx, hS⟩
    · cases h
  | iload k =>
    simp only [aS] at h
    split at h
    · rename_i n hk
      cases h
      obtain ⟨v, h1, h2⟩ := hL.2 _ _ hk
      obtain ⟨x, rfl, hx⟩ := rV_int h2
      exact ⟨ρ, lv, .int x :: st, hB, ext_rf, by simp only [sA, ldI, h1]; rfl, hL, hx, hS⟩
    · cases h
  | lload_n k =>
    simp only [aS] at h
    split at h
    · rename_i n hk
      cases h
      obtain ⟨v, h1, h2⟩ := hL.2 _ _ hk
      obtain ⟨x, rfl, hx⟩ := rV_long h2
      exact ⟨ρ, lv, .long x :: st, hB, ext_rf, by simp only [sA, ldL, h1]; rfl, hL, hx, hS⟩
    · cases h
  | lload k =>
    simp only [aS] at h
    split at h
    · rename_i n hk
      cases h
      obtain ⟨v, h1, h2⟩ := hL.2 _ _ hk
      obtain ⟨x, rfl, hx⟩ := rV_long h2
      exact ⟨ρ, lv, .long x :: st, hB, ext_rf, by simp only [sA, ldL, h1]; rfl, hL, hx, hS⟩
    · cases h
  | aload_n k =>
    simp only [aS] at h
    split at h
    · rename_i n hk
      cases h
      obtain ⟨v, h1, h2⟩ := hL.2 _ _ hk
      cases rV_ref h2
      exact ⟨ρ, lv, .ref n :: st, hB, ext_rf, by simp only [sA, ldA, h1]; rfl, hL, rfl, hS⟩
    · cases h
  | aload k =>
    simp only [aS] at h
    split at h
    · rename_i n hk
      cases h
      obtain ⟨v, h1, h2⟩ := hL.2 _ _ hk
      cases rV_ref h2
      exact ⟨ρ, lv, .ref n :: st, hB, ext_rf, by simp only [sA, ldA, h1]; rfl, hL, rfl, hS⟩
    · cases h
  | istore_n k =>
    simp only [aS] at h
    split at h
    · split at h
      · rename_i hc
        cases h
        obtain ⟨v, vs, rfl, hv, hr⟩ := rS_cons hS
        obtain ⟨x, rfl, hx⟩ := rV_int hv
        exact ⟨ρ, st1 lv k (.int x), vs, hB, ext_rf, by simp only [sA, sto1]; rw [if_pos (by rw [← hL.1]; exact hc)]; rfl, sta1_ok hL hv, hr⟩
      · cases h
    · cases h
  | istore k =>
    simp only [aS] at h
    split at h
    · split at h
      · rename_i hc
        cases h
        obtain ⟨v, vs, rfl, hv, hr⟩ := rS_cons hS
        obtain ⟨x, rfl, hx⟩ := rV_int hv
        exact ⟨ρ, st1 lv k (.int x), vs, hB, ext_rf, by simp only [sA, sto1]; rw [if_pos (by rw [← hL.1]; exact hc)]; rfl, sta1_ok hL hv, hr⟩
      · cases h
    · cases h
  | lstore_n k =>
    simp only [aS] at h
    split at h
    · split at h
      · rename_i hc
        cases h
        obtain ⟨v, vs, rfl, hv, hr⟩ := rS_cons hS
        obtain ⟨x, rfl, hx⟩ := rV_long hv
        exact ⟨ρ, st2 lv k (.long x), vs, hB, ext_rf, by simp only [sA, sto2]; rw [if_pos (by rw [← hL.1]; exact hc)]; rfl, sta2_ok hL hv, hr⟩
      · cases h
    · cases h
  | lstore k =>
    simp only [aS] at h
    split at h
    · split at h
      · rename_i hc
        cases h
        obtain ⟨v, vs, rfl, hv, hr⟩ := rS_cons hS
        obtain ⟨x, rfl, hx⟩ := rV_long hv
        exact ⟨ρ, st2 lv k (.long x), vs, hB, ext_rf, by simp only [sA, sto2]; rw [if_pos (by rw [← hL.1]; exact hc)]; rfl, sta2_ok hL hv, hr⟩
      · cases h
    · cases h
  | astore_n k =>
    simp only [aS] at h
    split at h
    · split at h
      · rename_i q r hc
        cases h
        obtain ⟨v, vs, rfl, hv, hr⟩ := rS_cons hS
        cases rV_ref hv
        exact ⟨ρ, st1 lv k (.ref q), vs, hB, ext_rf, by simp only [sA, sto1]; rw [if_pos (by rw [← hL.1]; exact hc)]; rfl, sta1_ok hL hv, hr⟩
      · cases h
    · cases h
  | astore k =>
    simp only [aS] at h
    split at h
    · split at h
      · rename_i q r hc
        cases h
        obtain ⟨v, vs, rfl, hv, hr⟩ := rS_cons hS
        cases rV_ref hv
        exact ⟨ρ, st1 lv k (.ref q), vs, hB, ext_rf, by simp only [sA, sto1]; rw [if_pos (by rw [← hL.1]; exact hc)]; rfl, sta1_ok hL hv, hr⟩
      · cases h
    · cases h
  | iinc k c =>
    simp only [aS] at h
    split at h
    · rename_i n hk
      split at h
      · rename_i hc
        cases h
        obtain ⟨v, h1, h2⟩ := hL.2 _ _ hk
        obtain ⟨x, rfl, hx⟩ := rV_int h2
        obtain ⟨ρ', g1, g2, g3⟩ := addN_ok hB hx (b := (none, (Int32.ofInt c).toInt)) (y := Int32.ofInt c) ⟨fun j hj => (by cases hj), rfl⟩
        have g4 : rV _ ρ' (.inl (addN B n (none, (Int32.ofInt c).toInt)).2) (.int (x + Int32.ofInt c)) := g3
        exact ⟨ρ', st1 lv k (.int (x + Int32.ofInt c)), st, g1, g2, by simp only [sA, h1, sto1]; rw [if_pos (by rw [← hL.1]; exact hc)]; rfl, sta1_ok (rL_ext g2 hL) g4, rS_ext g2 hS⟩
      · cases h
    · cases h
  | ineg =>
    simp only [aS] at h
    split at h
    · cases h
      obtain ⟨v, vs, rfl, hv, hr⟩ := rS_cons hS
      obtain ⟨x, rfl, hx⟩ := rV_int hv
      exact any_step hB hL hr rfl
    · cases h
  | i2b =>
    simp only [aS] at h
    split at h
    · cases h
      obtain ⟨v, vs, rfl, hv, hr⟩ := rS_cons hS
      obtain ⟨x, rfl, hx⟩ := rV_int hv
      exact any_step hB hL hr rfl
    · cases h
  | i2s =>
    simp only [aS] at h
    split at h
    · cases h
      obtain ⟨v, vs, rfl, hv, hr⟩ := rS_cons hS
      obtain ⟨x, rfl, hx⟩ := rV_int hv
      exact any_step hB hL hr rfl
    · cases h
  | i2l =>
    simp only [aS] at h
    split at h
    · cases h
      obtain ⟨v, vs, rfl, hv, hr⟩ := rS_cons hS
      obtain ⟨x, rfl, hx⟩ := rV_int hv
      exact ⟨ρ, lv, .long x.toInt64 :: vs, hB, ext_rf, rfl, hL, (fun c hc => by cases hc; exact ⟨hx.1, by rw [Int32.toInt_toInt64]; exact hx.2⟩), hr⟩
    · cases h
  | ladd =>
    simp only [aS] at h
    split at h
    · cases h
      obtain ⟨v, vs, rfl, hv, hr⟩ := rS_cons hS
      obtain ⟨w, ws, rfl, hw, hr2⟩ := rS_cons hr
      obtain ⟨y, rfl, hy⟩ := rV_long hv
      obtain ⟨x, rfl, hx⟩ := rV_long hw
      exact lnw_step hL hr2 (lnw_ok hB (z := x + y) (fun q hq => (laddB_ok hB hx hy q hq).2)) rfl
    · cases h
  | lsub =>
    simp only [aS] at h
    split at h
    · cases h
      obtain ⟨v, vs, rfl, hv, hr⟩ := rS_cons hS
      obtain ⟨w, ws, rfl, hw, hr2⟩ := rS_cons hr
      obtain ⟨y, rfl, hy⟩ := rV_long hv
      obtain ⟨x, rfl, hx⟩ := rV_long hw
      exact lnw_step hL hr2 (lnw_ok hB (z := x - y) (fun q hq => (lsubB_ok hB hx hy q hq).2)) rfl
    · cases h
  | lmul =>
    simp only [aS] at h
    split at h
    · cases h
      obtain ⟨v, vs, rfl, hv, hr⟩ := rS_cons hS
      obtain ⟨w, ws, rfl, hw, hr2⟩ := rS_cons hr
      obtain ⟨y, rfl, hy⟩ := rV_long hv
      obtain ⟨x, rfl, hx⟩ := rV_long hw
      exact lnw_step hL hr2 (lnw_ok hB (z := x * y) (fun q hq => (lmulB_ok hB hx hy q hq).2)) rfl
    · cases h
  | land =>
    simp only [aS] at h
    split at h
    · cases h
      obtain ⟨v, vs, rfl, hv, hr⟩ := rS_cons hS
      obtain ⟨w, ws, rfl, hw, hr2⟩ := rS_cons hr
      obtain ⟨x, rfl, hx⟩ := rV_long hv
      obtain ⟨y, rfl, hy⟩ := rV_long hw
      exact long_step hB hL hr2 rfl
    · cases h
  | lshr =>
    simp only [aS] at h
    split at h
    · cases h
      obtain ⟨v, vs, rfl, hv, hr⟩ := rS_cons hS
      obtain ⟨w, ws, rfl, hw, hr2⟩ := rS_cons hr
      obtain ⟨x, rfl, hx⟩ := rV_int hv
      obtain ⟨y, rfl, hy⟩ := rV_long hw
      exact long_step hB hL hr2 rfl
    · cases h
  | lshl =>
    simp only [aS] at h
    split at h
    · rename_i n o r
      cases h
      obtain ⟨v, vs, rfl, hv, hr⟩ := rS_cons hS
      obtain ⟨w, ws, rfl, hw, hr2⟩ := rS_cons hr
      obtain ⟨x, rfl, hx⟩ := rV_int hv
      obtain ⟨y, rfl, hy⟩ := rV_long hw
      exact lnw_step hL hr2 (lshlB_ok hB hy hx) rfl
    · cases h
  | lcmp =>
    simp only [aS] at h
    split at h
    · cases h
      obtain ⟨v, vs, rfl, hv, hr⟩ := rS_cons hS
      obtain ⟨w, ws, rfl, hw, hr2⟩ := rS_cons hr
      obtain ⟨x, rfl, hx⟩ := rV_long hv
      obtain ⟨y, rfl, hy⟩ := rV_long hw
      obtain ⟨ρ', g1, g2, g3⟩ := newN_ok hB (lg_cmp_b y x).1 (lg_cmp_b y x).2
      exact ⟨ρ', lv, .int (lg_cmp y x) :: ws, g1, g2, rfl, rL_ext g2 hL, g3, rS_ext g2 hr2⟩
    · cases h
  | dup =>
    simp only [aS] at h
    split at h
    · split at h
      · rename_i hc
        cases h
        obtain ⟨v, vs, rfl, hv, hr⟩ := rS_cons hS
        exact ⟨ρ, lv, v :: v :: vs, hB, ext_rf, by simp only [sA, catA_eq hv, hc]; rfl, hL, hv, hv, hr⟩
      · cases h
    · cases h
  | dup2 =>
    simp only [aS] at h
    split at h
    · split at h
      · rename_i hc
        cases h
        obtain ⟨v, vs, rfl, hv, hr⟩ := rS_cons hS
        obtain ⟨w, ws, rfl, hw, hr2⟩ := rS_cons hr
        exact ⟨ρ, lv, v :: w :: v :: w :: ws, hB, ext_rf, by simp only [sA, catA_eq hv, catA_eq hw, hc]; rfl, hL, hv, hw, hv, hw, hr2⟩
      · cases h
    · cases h
  | pop =>
    simp only [aS] at h
    split at h
    · split at h
      · rename_i hc
        cases h
        obtain ⟨v, vs, rfl, hv, hr⟩ := rS_cons hS
        exact ⟨ρ, lv, vs, hB, ext_rf, by simp only [sA, catA_eq hv, hc]; rfl, hL, hr⟩
      · cases h
    · cases h
  | goto off =>
    simp only [aS] at h
    split at h
    · rename_i t ht
      cases h
      exact ⟨ρ, lv, st, hB, ext_rf, by simp only [sA, ht]; rfl, hL, hS⟩
    · cases h
  | iadd => simp only [aS] at h; split at h <;> first | (rename_i F b a r hF; cases h; exact bin_step hF hB hL hS) | cases h
  | isub => simp only [aS] at h; split at h <;> first | (rename_i F b a r hF; cases h; exact bin_step hF hB hL hS) | cases h
  | imul => simp only [aS] at h; split at h <;> first | (rename_i F b a r hF; cases h; exact bin_step hF hB hL hS) | cases h
  | iand => simp only [aS] at h; split at h <;> first | (rename_i F b a r hF; cases h; exact bin_step hF hB hL hS) | cases h
  | ior => simp only [aS] at h; split at h <;> first | (rename_i F b a r hF; cases h; exact bin_step hF hB hL hS) | cases h
  | ixor => simp only [aS] at h; split at h <;> first | (rename_i F b a r hF; cases h; exact bin_step hF hB hL hS) | cases h
  | ishl => simp only [aS] at h; split at h <;> first | (rename_i F b a r hF; cases h; exact bin_step hF hB hL hS) | cases h
  | ishr => simp only [aS] at h; split at h <;> first | (rename_i F b a r hF; cases h; exact bin_step hF hB hL hS) | cases h
  | iushr => simp only [aS] at h; split at h <;> first | (rename_i F b a r hF; cases h; exact bin_step hF hB hL hS) | cases h
  | _ => simp [aS, binN] at h
end ASOK
/-! ===== the heap over names: arrays by their length and the bounds of all they hold, or item by item ===== -/
abbrev ACa : Type := (FieldType × Nat × Int × Int) ⊕ ((FieldType × List AN) ⊕ (List Nat ⊕ (Nat × List AVa)))
abbrev AHa : Type := List ACa
/-- a field of which nothing is known but that it is there -/
def isAny (a : AVa) : Bool := match a with
  | .inr (.inl r) => r == 999
  | _ => false
def rF (B : BD) (ρ : Nat → Int) (fa : List AVa) (fs : List Value) : Prop := fa.length = fs.length ∧ ∀ (i : Nat) (a : AVa), fa[i]? = some a → ∃ v, fs[i]? = some v ∧ (isAny a = true ∨ rV B ρ a v)
def rI (B : BD) (ρ : Nat → Int) (na : List AN) (xs : List Int32) : Prop := na.length = xs.length ∧ ∀ (i : Nat) (n : AN), na[i]? = some n → ∃ x, xs[i]? = some x ∧ rN B ρ n x
def rC (B : BD) (ρ : Nat → Int) (a : ACa) (x : AC) : Prop := match a, x with
  | .inl (ty, n, lo, hi), .inl (ty', xs) => ty = ty' ∧ xs.length = n ∧ ∀ y ∈ xs, lo ≤ y.toInt ∧ y.toInt ≤ hi
  | .inr (.inl (ty, ns)), .inl (ty', xs) => ty = ty' ∧ rI B ρ ns xs
  | .inr (.inr (.inl rs)), .inr (.inl qs) => qs = rs
  | .inr (.inr (.inr (ci, fa))), .inr (.inr (cj, fs)) => cj = ci ∧ rF B ρ fa fs
  | _, _ => False
theorem rF_ext {B B' : BD} {ρ ρ' : Nat → Int} (e : ext B ρ B' ρ') {fa : List AVa} {fs : List Value} (h : rF B ρ fa fs) : rF B' ρ' fa fs := ⟨h.1, fun i a hi => by
  obtain ⟨v, h1, h2⟩ := h.2 i a hi
  exact ⟨v, h1, h2.imp id (rV_ext e)⟩⟩
theorem rI_ext {B B' : BD} {ρ ρ' : Nat → Int} (e : ext B ρ B' ρ') {na : List AN} {xs : List Int32} (h : rI B ρ na xs) : rI B' ρ' na xs := ⟨h.1, fun i a hi => by
  obtain ⟨v, h1, h2⟩ := h.2 i a hi
  exact ⟨v, h1, rN_ext e h2⟩⟩
theorem rC_ext {B B' : BD} {ρ ρ' : Nat → Int} (e : ext B ρ B' ρ') {a : ACa} {x : AC} (h : rC B ρ a x) : rC B' ρ' a x := by
  match a, x, h with
  | .inl (ty, n, lo, hi), .inl (ty', xs), h => exact h
  | .inr (.inl (ty, ns)), .inl (ty', xs), h => exact ⟨h.1, rI_ext e h.2⟩
  | .inr (.inr (.inl rs)), .inr (.inl qs), h => exact h
  | .inr (.inr (.inr (ci, fa))), .inr (.inr (cj, fs)), h => exact ⟨h.1, rF_ext e h.2⟩
def pair (_ : AH) : Prop := True
def rH (B : BD) (ρ : Nat → Int) (ha : AHa) (hp : AH) : Prop := ha.length = hp.length ∧ (∀ (k : Nat) (a : ACa), ha[k]? = some a → ∃ x, hp[k]? = some x ∧ rC B ρ a x) ∧ pair hp
theorem rH_at {B : BD} {ρ : Nat → Int} {ha : AHa} {hp : AH} (h : rH B ρ ha hp) {k : Nat} {a : ACa} (hk : ha[k]? = some a) : ∃ x, hp[k]? = some x ∧ rC B ρ a x := h.2.1 k a hk
theorem rH_ext {B B' : BD} {ρ ρ' : Nat → Int} (e : ext B ρ B' ρ') {ha : AHa} {hp : AH} (h : rH B ρ ha hp) : rH B' ρ' ha hp := ⟨h.1, fun i a hi => by
  obtain ⟨v, h1, h2⟩ := h.2.1 i a hi
  exact ⟨v, h1, rC_ext e h2⟩, h.2.2⟩
def wOk (_ : AHa) (_ : Nat) : Bool := true
theorem pair_set {hp : AH} (_ : pair hp) {k : Nat} {x : AC} : pair (hp.set k x) := trivial
theorem rH_set {B : BD} {ρ : Nat → Int} {ha : AHa} {hp : AH} (h : rH B ρ ha hp) {k : Nat} (_ : wOk ha k = true) {a : ACa} {x : AC} (hx : rC B ρ a x) : rH B ρ (ha.set k a) (hp.set k x) := by
  refine ⟨by rw [List.length_set, List.length_set]; exact h.1, fun j b hj => ?_, pair_set h.2.2⟩
  by_cases hjk : j = k
  · subst hjk
    by_cases hl : j < ha.length
    · rw [List.getElem?_set_self hl] at hj
      cases hj
      exact ⟨x, List.getElem?_set_self (by rw [← h.1]; exact hl), hx⟩
    · rw [List.getElem?_eq_none (by rw [List.length_set]; omega)] at hj
      cases hj
  · rw [List.getElem?_set_ne (Ne.symm hjk)] at hj
    obtain ⟨y, h1, h2⟩ := h.2.1 j b hj
    exact ⟨y, by rw [List.getElem?_set_ne (Ne.symm hjk)]; exact h1, h2⟩
/-- a cell that stays as it is known, though its contents change -/
theorem rH_keep {B : BD} {ρ : Nat → Int} {ha : AHa} {hp : AH} (h : rH B ρ ha hp) {k : Nat} (_ : wOk ha k = true) {a : ACa} {x : AC} (ha1 : ha[k]? = some a) (hx : rC B ρ a x) : rH B ρ ha (hp.set k x) := by
  have := rH_set (k := k) h (show wOk ha k = true from rfl) hx
  have e : ha.set k a = ha := by
    apply List.ext_getElem?
    intro j
    by_cases hjk : j = k
    · subst hjk
      rw [List.getElem?_set_self (List.getElem?_eq_some_iff.mp ha1).1, ha1]
    · rw [List.getElem?_set_ne (Ne.symm hjk)]
  rw [e] at this
  exact this
theorem rC_obj {B : BD} {ρ : Nat → Int} {ci : Nat} {fa : List AVa} {x : AC} (h : rC B ρ (.inr (.inr (.inr (ci, fa)))) x) : ∃ fs, x = .inr (.inr (ci, fs)) ∧ rF B ρ fa fs := by
  match x, h with
  | .inr (.inr (cj, fs)), h => exact ⟨fs, by rw [h.1], h.2⟩
theorem rC_sum {B : BD} {ρ : Nat → Int} {ty : FieldType} {n : Nat} {lo hi : Int} {x : AC} (h : rC B ρ (.inl (ty, n, lo, hi)) x) : ∃ xs, x = .inl (ty, xs) ∧ xs.length = n ∧ ∀ y ∈ xs, lo ≤ y.toInt ∧ y.toInt ≤ hi := by
  match x, h with
  | .inl (ty', xs), h => exact ⟨xs, by rw [h.1], h.2⟩
theorem rC_items {B : BD} {ρ : Nat → Int} {ty : FieldType} {ns : List AN} {x : AC} (h : rC B ρ (.inr (.inl (ty, ns))) x) : ∃ xs, x = .inl (ty, xs) ∧ rI B ρ ns xs := by
  match x, h with
  | .inl (ty', xs), h => exact ⟨xs, by rw [h.1], h.2⟩
theorem rC_rows {B : BD} {ρ : Nat → Int} {rs : List Nat} {x : AC} (h : rC B ρ (.inr (.inr (.inl rs))) x) : x = .inr (.inl rs) := by
  match x, h with
  | .inr (.inl qs), h => rw [show qs = rs from h]
/-- an index within -/
def inA (B : BD) (n : AN) (len : Nat) : Bool := decide (0 ≤ (bnd B n).1) && decide ((bnd B n).2 < len)
theorem inA_ok {B : BD} {ρ : Nat → Int} (hB : okB B ρ) {n : AN} {x : Int32} (h : rN B ρ n x) {len : Nat} (hi : inA B n len = true) : vp_in x len ∧ x.toNatClampNeg < len := by
  unfold inA at hi
  rw [Bool.and_eq_true, decide_eq_true_eq, decide_eq_true_eq] at hi
  have h1 := bnd_ok hB h
  have h2 : vp_in x len := vp_in_iff.mpr ⟨by omega, by omega⟩
  exact ⟨h2, Nat.not_le.mp fun q => h2 (Or.inr q)⟩
theorem inB_of {x : Int32} {n : Nat} (h : vp_in x n) : inB x n = true := by
  unfold inB
  rw [Bool.not_eq_true', Bool.or_eq_false_iff, decide_eq_false_iff_not, decide_eq_false_iff_not]
  exact ⟨fun q => h (Or.inl q), fun q => h (Or.inr q)⟩
theorem getD_mem {xs : List Int32} {k : Nat} (h : k < xs.length) : xs.getD k 0 ∈ xs := by
  rw [List.getD_eq_getElem?_getD, List.getElem?_eq_getElem h]
  exact List.getElem_mem h
theorem set_bounds {xs : List Int32} {k : Nat} {v : Int32} {lo hi : Int} (h : ∀ y ∈ xs, lo ≤ y.toInt ∧ y.toInt ≤ hi) (hv : lo ≤ v.toInt ∧ v.toInt ≤ hi) : ∀ y ∈ xs.set k v, lo ≤ y.toInt ∧ y.toInt ≤ hi := by
  intro y hy
  rcases List.mem_or_eq_of_mem_set hy with q | q
  · exact h y q
  · rw [q]; exact hv
/-! ===== steps over the heap, over names: every outcome that may be ===== -/
abbrev OUT : Type := BD × Nat × List AVa × AHa
def fHoldA (ty : FieldType) (a : AVa) : Bool := match ty, a with
  | .int, .inl _ => true
  | .object _, .inr (.inl _) => true
  | .array _, .inr (.inl _) => true
  | _, _ => false
theorem fHoldA_ok {B : BD} {ρ : Nat → Int} {ty : FieldType} {a : AVa} {v : Value} (h : fHoldA ty a = true) (hv : rV B ρ a v) : fHold ty v = true := by
  match ty, a, h with
  | .int, .inl n, _ => obtain ⟨x, rfl, -⟩ := rV_int hv; rfl
  | .object _, .inr (.inl r), _ => cases rV_ref hv; rfl
  | .array _, .inr (.inl r), _ => cases rV_ref hv; rfl
def knwA (B : BD) (n : AN) : Bool := decide ((bnd B n).1 = (bnd B n).2)
/-- reading an int array -/
def aldA (B : BD) (ty : FieldType) (n : AN) (c : ACa) : Option (BD × AN) := match c with
  | .inl (ty', len, lo, hi) => if ty' = ty ∧ inA B n len = true then some (newN B lo hi) else none
  | .inr (.inl (ty', ns)) => if ty' = ty ∧ inA B n ns.length = true then (if knwA B n = true then (match ns[(bnd B n).1.toNat]? with
      | some m => some (B, m)
      | none => none) else some (anyN B)) else none
  | _ => none
theorem aldA_ok {B : BD} {ρ : Nat → Int} (hB : okB B ρ) {ty : FieldType} {n : AN} {x : Int32} (hx : rN B ρ n x) {c : ACa} {y : AC} (hc : rC B ρ c y) {q : BD × AN} (h : aldA B ty n c = some q) : ∃ xs, y = .inl (ty, xs) ∧ inB x xs.length = true ∧ gives B ρ q (xs.getD x.toNatClampNeg 0) := by
  unfold aldA at h
  split at h
  · split at h
    · rename_i hi
      obtain ⟨rfl, hi⟩ := hi
      cases h
      obtain ⟨xs, rfl, hl, hb⟩ := rC_sum hc
      rw [← hl] at hi
      obtain ⟨g1, g2⟩ := inA_ok hB hx hi
      have := hb _ (getD_mem g2)
      exact ⟨xs, rfl, inB_of g1, newN_ok hB this.1 this.2⟩
    · cases h
  · split at h
    · rename_i hi
      obtain ⟨rfl, hi⟩ := hi
      obtain ⟨xs, rfl, hl⟩ := rC_items hc
      rw [hl.1] at hi
      obtain ⟨g1, g2⟩ := inA_ok hB hx hi
      split at h
      · rename_i hk
        split at h
        · rename_i m hm
          cases h
          have hk := of_decide_eq_true hk
          have hb := bnd_ok hB hx
          have e : (bnd B n).1.toNat = x.toNatClampNeg := by
            have e1 : (bnd B n).1 = x.toInt := by omega
            rw [e1]; rfl
          rw [e] at hm
          obtain ⟨z, h1, h2⟩ := hl.2 _ _ hm
          refine ⟨xs, rfl, inB_of g1, ?_⟩
          have e2 : xs.getD x.toNatClampNeg 0 = z := by rw [List.getD_eq_getElem?_getD, h1]; rfl
          rw [e2]
          exact same_ok hB h2
        · cases h
      · cases h
        exact ⟨xs, rfl, inB_of g1, anyN_ok hB _⟩
    · cases h
  · cases h
/-- writing to one -/
def astA (B : BD) (ty : FieldType) (n v : AN) (c : ACa) : Option ACa := match c with
  | .inl (ty', len, lo, hi) => if ty' = ty ∧ inA B n len = true ∧ lo ≤ (bnd B v).1 ∧ (bnd B v).2 ≤ hi then some (.inl (ty', len, lo, hi)) else none
  | .inr (.inl (ty', ns)) => if ty' = ty ∧ inA B n ns.length = true ∧ knwA B n = true then some (.inr (.inl (ty', ns.set (bnd B n).1.toNat v))) else none
  | _ => none
theorem astA_ok {B : BD} {ρ : Nat → Int} (hB : okB B ρ) {ty : FieldType} {n v : AN} {x z : Int32} (hx : rN B ρ n x) (hz : rN B ρ v z) {c c' : ACa} {y : AC} (hc : rC B ρ c y) (h : astA B ty n v c = some c') : ∃ xs, y = .inl (ty, xs) ∧ inB x xs.length = true ∧ rC B ρ c' (.inl (ty, xs.set x.toNatClampNeg z)) := by
  unfold astA at h
  have hbz := bnd_ok hB hz
  split at h
  · split at h
    · rename_i hi
      obtain ⟨rfl, hi, h1, h2⟩ := hi
      cases h
      obtain ⟨xs, rfl, hl, hb⟩ := rC_sum hc
      rw [← hl] at hi
      obtain ⟨g1, g2⟩ := inA_ok hB hx hi
      exact ⟨xs, rfl, inB_of g1, rfl, by rw [List.length_set]; exact hl, set_bounds hb ⟨by omega, by omega⟩⟩
    · cases h
  · split at h
    · rename_i hi
      obtain ⟨rfl, hi, hk⟩ := hi
      cases h
      obtain ⟨xs, rfl, hl⟩ := rC_items hc
      rw [hl.1] at hi
      obtain ⟨g1, g2⟩ := inA_ok hB hx hi
      have hk := of_decide_eq_true hk
      have hb := bnd_ok hB hx
      have e : (bnd B n).1.toNat = x.toNatClampNeg := by
        have e1 : (bnd B n).1 = x.toInt := by omega
        rw [e1]; rfl
      rw [e]
      refine ⟨xs, rfl, inB_of g1, rfl, by rw [List.length_set, List.length_set]; exact hl.1, fun j m hj => ?_⟩
      by_cases hjk : j = x.toNatClampNeg
      · rw [hjk, List.getElem?_set_self (by rw [hl.1]; exact g2)] at hj
        cases hj
        exact ⟨z, by rw [hjk]; exact List.getElem?_set_self g2, hz⟩
      · rw [List.getElem?_set_ne (Ne.symm hjk)] at hj
        obtain ⟨w, h1, h2⟩ := hl.2 j m hj
        exact ⟨w, by rw [List.getElem?_set_ne (Ne.symm hjk)]; exact h1, h2⟩
    · cases h
  · cases h
def outOk (B : BD) (ρ : Nat → Int) (d : Nat) (M : MT) (i : Instr) (pc : Nat) (st : List Value) (hp : AH) (o : OUT) : Prop := ∃ ρ' st' hp', okB o.1 ρ' ∧ ext B ρ o.1 ρ' ∧ hA d M i pc st hp = some (o.2.1, st', hp') ∧ rS o.1 ρ' o.2.2.1 st' ∧ rH o.1 ρ' o.2.2.2 hp'
def aH1 (d : Nat) (B : BD) (M : MT) (i : Instr) (pc : Nat) (sa : List AVa) (ha : AHa) : Option OUT := match i with
  | .getfield idx => match sa with
    | .inr (.inl r) :: s => match fRes M.cn idx, ha[r]? with
      | some (ci, sl, _), some (.inr (.inr (.inr (cj, fa)))) => if ci = cj then (match fa[sl]? with
        | some a => if isAny a = true then none else some (B, pc + 3, a :: s, ha)
        | none => none) else none
      | _, _ => none
    | _ => none
  | .putfield idx => match sa with
    | a :: .inr (.inl r) :: s => match fRes M.cn idx, ha[r]? with
      | some (ci, sl, _), some (.inr (.inr (.inr (cj, fa)))) => if ci = cj ∧ sl < fa.length ∧ fHoldA (fTy ci sl) a = true ∧ fFin ci sl = false ∧ wOk ha r = true then some (B, pc + 3, s, ha.set r (.inr (.inr (.inr (ci, fa.set sl a))))) else none
      | _, _ => none
    | _ => none
  | .iaload => match sa with
    | .inl n :: .inr (.inl r) :: s => match ha[r]? with
      | some c => match aldA B .int n c with
        | some q => some (q.1, pc + 1, .inl q.2 :: s, ha)
        | none => none
      | none => none
    | _ => none
  | .baload => match sa with
    | .inl n :: .inr (.inl r) :: s => match ha[r]? with
      | some c => match aldA B .boolean n c with
        | some q => some (q.1, pc + 1, .inl q.2 :: s, ha)
        | none => none
      | none => none
    | _ => none
  | .iastore => match sa with
    | .inl v :: .inl n :: .inr (.inl r) :: s => match ha[r]? with
      | some c => match astA B .int n v c with
        | some c' => if wOk ha r = true then some (B, pc + 1, s, ha.set r c') else none
        | none => none
      | none => none
    | _ => none
  | .bastore => match sa with
    | .inl v :: .inl n :: .inr (.inl r) :: s => match ha[r]? with
      | some c => if 0 ≤ (bnd B v).1 ∧ (bnd B v).2 ≤ 1 then (match astA B .boolean n v c with
        | some c' => if wOk ha r = true then some (B, pc + 1, s, ha.set r c') else none
        | none => none) else none
      | none => none
    | _ => none
  | .arraylength => match sa with
    | .inr (.inl r) :: s => match ha[r]? with
      | some (.inl (.int, len, _, _)) => some (B, pc + 1, .inl (none, (Int32.ofNat len).toInt) :: s, ha)
      | _ => none
    | _ => none
  | .idiv => match sa with
    | .inl b :: .inl a :: s => if 1 ≤ (bnd B b).1 then some ((divN B a b).1, pc + 1, .inl (divN B a b).2 :: s, ha) else none
    | _ => none
  | .irem => match sa with
    | .inl b :: .inl a :: s => if 1 ≤ (bnd B b).1 then some ((remN B a b).1, pc + 1, .inl (remN B a b).2 :: s, ha) else none
    | _ => none
  | .ldc idx => match ciRes M.cn idx with
    | some (v, _) => some (B, pc + 2, .inl (none, v.toInt) :: sa, ha)
    | none => none
  | .ldc_w idx => match ciRes M.cn idx with
    | some (v, _) => some (B, pc + 3, .inl (none, v.toInt) :: sa, ha)
    | none => none
  | .ldc2_w idx => match clRes M.cn idx with
    | some (v, _) => some (B, pc + 3, .inr (.inr (some (none, v.toInt))) :: sa, ha)
    | none => none
  | .invokestatic idx => match mRes M.cn idx, sa with
    | some (kd, _, _, _, _), .inl n :: .inl dp :: .inr (.inl k1) :: .inl sp :: .inr (.inl k0) :: s => match ha[k0]?, ha[k1]? with
      | some (.inl (.int, n0, lo0, hi0)), some (.inl (.int, n1, lo1, hi1)) => if kd = 6 ∧ (s.map catA).sum ≤ 8 ∧ 0 < d ∧ 0 ≤ (bnd B n).1 ∧ 0 ≤ (bnd B dp).1 ∧ 0 ≤ (bnd B sp).1 ∧ (bnd B sp).2 + (bnd B n).2 ≤ n0 ∧ (bnd B dp).2 + (bnd B n).2 ≤ n1 ∧ lo1 ≤ lo0 ∧ hi0 ≤ hi1 ∧ wOk ha k1 = true then some (B, pc + 3, s, ha) else none
      | _, _ => none
    | _, _ => none
  | _ => none
theorem cat_sum0 {B : BD} {ρ : Nat → Int} : ∀ {as : List AVa} {vs : List Value}, rS B ρ as vs → vs.map (fun v => v.category) = as.map catA
  | [], [], _ => rfl
  | _ :: _, _ :: _, h => by rw [List.map_cons, List.map_cons, catA_eq h.1, cat_sum0 h.2]
  | [], _ :: _, h => h.elim
  | _ :: _, [], h => h.elim
theorem cpyL_bounds {xs ys : List Int32} {sp dp n : Nat} {lo hi : Int} (h1 : sp + n ≤ xs.length) (hx : ∀ y ∈ xs, lo ≤ y.toInt ∧ y.toInt ≤ hi) (hy : ∀ y ∈ ys, lo ≤ y.toInt ∧ y.toInt ≤ hi) : ∀ y ∈ cpyL xs ys sp dp n, lo ≤ y.toInt ∧ y.toInt ≤ hi := by
  intro y hm
  unfold cpyL at hm
  obtain ⟨k, hk, rfl⟩ := List.mem_map.mp hm
  have hk := List.mem_range.mp hk
  split
  · exact hx _ (getD_mem (by omega))
  · exact hy _ (getD_mem hk)
section AHOK
variable {B : BD} {ρ : Nat → Int} {d : Nat} {M : MT} {i : Instr} {pc : Nat} {sa : List AVa} {ha : AHa} {st : List Value} {hp : AH}
theorem aH1_ok (hB : okB B ρ) (hS : rS B ρ sa st) (hH : rH B ρ ha hp) {o : OUT} (h : aH1 d B M i pc sa ha = some o) : outOk B ρ d M i pc st hp o := by
  cases i with
  | getfield idx =>
    simp only [aH1] at h
    split at h
    · split at h
      · rename_i ci sl w cj fa h1 h2
        split at h
        · rename_i hc
          split at h
          · rename_i a hf
            split at h
            · cases h
            rename_i hna
            cases h
            obtain ⟨v, vs, rfl, hv, hr⟩ := rS_cons hS
            cases rV_ref hv
            obtain ⟨x, g1, g2⟩ := hH.2.1 _ _ h2
            obtain ⟨fs, rfl, g3⟩ := rC_obj g2
            obtain ⟨u, g4, g5⟩ := g3.2 _ _ hf
            have g5 := g5.resolve_left hna
            exact ⟨ρ, u :: vs, hp, hB, ext_rf, by simp only [hA, h1, g1, if_pos hc, g4], ⟨g5, hr⟩, hH⟩
          · cases h
        · cases h
      · cases h
    · cases h
  | putfield idx =>
    simp only [aH1] at h
    split at h
    · rename_i a r s
      split at h
      · rename_i ci sl w cj fa h1 h2
        split at h
        · rename_i hc
          obtain ⟨c1, c2, c3, c4, c5⟩ := hc
          cases h
          obtain ⟨v, vs, rfl, hv, hr⟩ := rS_cons hS
          obtain ⟨u, us, rfl, hu, hr2⟩ := rS_cons hr
          cases rV_ref hu
          obtain ⟨x, g1, g2⟩ := hH.2.1 _ _ h2
          obtain ⟨fs, rfl, g3⟩ := rC_obj g2
          have hcond : ci = cj ∧ sl < fs.length ∧ fHold (fTy ci sl) v = true ∧ (fFin ci sl = false ∨ (ci = M.cn ∧ M.y.name = "<init>")) := ⟨c1, by rw [← g3.1]; exact c2, fHoldA_ok c3 hv, Or.inl c4⟩
          refine ⟨ρ, us, hp.set r (.inr (.inr (ci, fs.set sl v))), hB, ext_rf, ?_, hr2, rH_set hH c5 ⟨rfl, by rw [List.length_set, List.length_set]; exact g3.1, fun j b hj => ?_⟩⟩
          · simp only [hA, h1, g1, if_pos hcond]
          · by_cases hjk : j = sl
            · subst hjk
              rw [List.getElem?_set_self c2] at hj
              cases hj
              exact ⟨v, List.getElem?_set_self (by rw [← g3.1]; exact c2), Or.inr hv⟩
            · rw [List.getElem?_set_ne (Ne.symm hjk)] at hj
              obtain ⟨w, q1, q2⟩ := g3.2 j b hj
              exact ⟨w, by rw [List.getElem?_set_ne (Ne.symm hjk)]; exact q1, q2⟩
        · cases h
      · cases h
    · cases h
  | iaload =>
    simp only [aH1] at h
    split at h
    · split at h
      · rename_i c h2
        split at h
        · rename_i q hq
          cases h
          obtain ⟨v, vs, rfl, hv, hr⟩ := rS_cons hS
          obtain ⟨u, us, rfl, hu, hr2⟩ := rS_cons hr
          obtain ⟨x, rfl, hx⟩ := rV_int hv
          cases rV_ref hu
          obtain ⟨y, g1, g2⟩ := hH.2.1 _ _ h2
          obtain ⟨xs, rfl, g3, ρ', g4, g5, g6⟩ := aldA_ok hB hx g2 hq
          exact ⟨ρ', .int (xs.getD x.toNatClampNeg 0) :: us, hp, g4, g5, by simp only [hA, g1, if_pos g3], ⟨g6, rS_ext g5 hr2⟩, rH_ext g5 hH⟩
        · cases h
      · cases h
    · cases h
  | baload =>
    simp only [aH1] at h
    split at h
    · split at h
      · rename_i c h2
        split at h
        · rename_i q hq
          cases h
          obtain ⟨v, vs, rfl, hv, hr⟩ := rS_cons hS
          obtain ⟨u, us, rfl, hu, hr2⟩ := rS_cons hr
          obtain ⟨x, rfl, hx⟩ := rV_int hv
          cases rV_ref hu
          obtain ⟨y, g1, g2⟩ := hH.2.1 _ _ h2
          obtain ⟨xs, rfl, g3, ρ', g4, g5, g6⟩ := aldA_ok hB hx g2 hq
          exact ⟨ρ', .int (xs.getD x.toNatClampNeg 0) :: us, hp, g4, g5, by simp only [hA, g1, if_pos g3], ⟨g6, rS_ext g5 hr2⟩, rH_ext g5 hH⟩
        · cases h
      · cases h
    · cases h
  | iastore =>
    simp only [aH1] at h
    split at h
    · rename_i v0 n0 r s
      split at h
      · rename_i c h2
        split at h
        · rename_i c' hq
          split at h
          rotate_left
          · cases h
          rename_i hwo
          cases h
          obtain ⟨v, vs, rfl, hv, hr⟩ := rS_cons hS
          obtain ⟨u, us, rfl, hu, hr2⟩ := rS_cons hr
          obtain ⟨t, ts, rfl, ht, hr3⟩ := rS_cons hr2
          obtain ⟨z, rfl, hz⟩ := rV_int hv
          obtain ⟨x, rfl, hx⟩ := rV_int hu
          cases rV_ref ht
          obtain ⟨y, g1, g2⟩ := hH.2.1 _ _ h2
          obtain ⟨xs, rfl, g3, g4⟩ := astA_ok hB hx hz g2 hq
          exact ⟨ρ, ts, hp.set r (.inl (.int, xs.set x.toNatClampNeg z)), hB, ext_rf, by simp only [hA, g1, if_pos g3], hr3, rH_set hH hwo g4⟩
        · cases h
      · cases h
    · cases h
  | bastore =>
    simp only [aH1] at h
    split at h
    · rename_i v0 n0 r s
      split at h
      · rename_i c h2
        split at h
        · rename_i hb01
          split at h
          · rename_i c' hq
            split at h
            rotate_left
            · cases h
            rename_i hwo
            cases h
            obtain ⟨v, vs, rfl, hv, hr⟩ := rS_cons hS
            obtain ⟨u, us, rfl, hu, hr2⟩ := rS_cons hr
            obtain ⟨t, ts, rfl, ht, hr3⟩ := rS_cons hr2
            obtain ⟨z, rfl, hz⟩ := rV_int hv
            obtain ⟨x, rfl, hx⟩ := rV_int hu
            cases rV_ref ht
            obtain ⟨y, g1, g2⟩ := hH.2.1 _ _ h2
            obtain ⟨xs, rfl, g3, g4⟩ := astA_ok hB hx hz g2 hq
            have hbz := bnd_ok hB hz
            have hz01 : z = 0 ∨ z = 1 := by
              have e0 : (0 : Int32).toInt = 0 := by decide
              have e1 : (1 : Int32).toInt = 1 := by decide
              rcases (show z.toInt = 0 ∨ z.toInt = 1 by omega) with q | q
              · left; exact Int32.toInt_inj.mp (by omega)
              · right; exact Int32.toInt_inj.mp (by omega)
            have hnar : vp_nar .boolean z = z := by rcases hz01 with q | q <;> subst q <;> decide
            exact ⟨ρ, ts, hp.set r (.inl (.boolean, xs.set x.toNatClampNeg z)), hB, ext_rf, by simp only [hA, g1, if_pos g3, hnar], hr3, rH_set hH hwo g4⟩
          · cases h
        · cases h
      · cases h
    · cases h
  | arraylength =>
    simp only [aH1] at h
    split at h
    · split at h
      · rename_i len lo hi h2
        cases h
        obtain ⟨v, vs, rfl, hv, hr⟩ := rS_cons hS
        cases rV_ref hv
        obtain ⟨y, g1, g2⟩ := hH.2.1 _ _ h2
        obtain ⟨xs, rfl, hl, -⟩ := rC_sum g2
        exact ⟨ρ, .int (Int32.ofNat xs.length) :: vs, hp, hB, ext_rf, by simp only [hA, g1], ⟨⟨fun j hj => (by cases hj), by rw [hl]; rfl⟩, hr⟩, hH⟩
      · cases h
    · cases h
  | idiv =>
    simp only [aH1] at h
    split at h
    · split at h
      · rename_i hb
        cases h
        obtain ⟨v, vs, rfl, hv, hr⟩ := rS_cons hS
        obtain ⟨u, us, rfl, hu, hr2⟩ := rS_cons hr
        obtain ⟨y, rfl, hy⟩ := rV_int hv
        obtain ⟨x, rfl, hx⟩ := rV_int hu
        have hy0 : ¬ y = 0 := fun q => by
          have := bnd_ok hB hy
          rw [q, Int32.toInt_zero] at this
          omega
        obtain ⟨ρ', g1, g2, g3⟩ := divN_ok hB hx hy
        exact ⟨ρ', .int (x / y) :: us, hp, g1, g2, by simp only [hA, if_neg hy0], ⟨g3, rS_ext g2 hr2⟩, rH_ext g2 hH⟩
      · cases h
    · cases h
  | irem =>
    simp only [aH1] at h
    split at h
    · split at h
      · rename_i hb
        cases h
        obtain ⟨v, vs, rfl, hv, hr⟩ := rS_cons hS
        obtain ⟨u, us, rfl, hu, hr2⟩ := rS_cons hr
        obtain ⟨y, rfl, hy⟩ := rV_int hv
        obtain ⟨x, rfl, hx⟩ := rV_int hu
        have hy0 : ¬ y = 0 := fun q => by
          have := bnd_ok hB hy
          rw [q, Int32.toInt_zero] at this
          omega
        obtain ⟨ρ', g1, g2, g3⟩ := remN_ok hB hx hy
        exact ⟨ρ', .int (x - x / y * y) :: us, hp, g1, g2, by simp only [hA, if_neg hy0], ⟨g3, rS_ext g2 hr2⟩, rH_ext g2 hH⟩
      · cases h
    · cases h
  | ldc idx =>
    simp only [aH1] at h
    split at h
    · rename_i v w h1; cases h
      exact ⟨ρ, .int v :: st, hp, hB, ext_rf, by simp only [hA, h1], ⟨⟨fun j hj => (by cases hj), rfl⟩, hS⟩, hH⟩
    · cases h
  | ldc_w idx =>
    simp only [aH1] at h
    split at h
    · rename_i v w h1; cases h
      exact ⟨ρ, .int v :: st, hp, hB, ext_rf, by simp only [hA, h1], ⟨⟨fun j hj => (by cases hj), rfl⟩, hS⟩, hH⟩
    · cases h
  | ldc2_w idx =>
    simp only [aH1] at h
    split at h
    · rename_i v w h1; cases h
      exact ⟨ρ, .long v :: st, hp, hB, ext_rf, by simp only [hA, h1], ⟨(fun c hc => by cases hc; exact ⟨fun j hj => (by cases hj), rfl⟩), hS⟩, hH⟩
    · cases h
  | invokestatic idx =>
    simp only [aH1] at h
    split at h
    · rename_i kd a1 a2 a3 a4 n dp k1 sp k0 s1 h1
      split at h
      · rename_i n0 lo0 hi0 n1 lo1 hi1 g0 g1
        split at h
        · rename_i hc
          obtain ⟨c1, c2, c3, c4, c5, c6, c7, c8, c9, c10, c11⟩ := hc
          cases h
          obtain ⟨v1, t1, rfl, r1, hr1⟩ := rS_cons hS
          obtain ⟨v2, t2, rfl, r2, hr2⟩ := rS_cons hr1
          obtain ⟨v3, t3, rfl, r3, hr3⟩ := rS_cons hr2
          obtain ⟨v4, t4, rfl, r4, hr4⟩ := rS_cons hr3
          obtain ⟨v5, t5, rfl, r5, hr5⟩ := rS_cons hr4
          obtain ⟨xn, rfl, en⟩ := rV_int r1
          obtain ⟨xd, rfl, ed⟩ := rV_int r2
          cases rV_ref r3
          obtain ⟨xp, rfl, ep⟩ := rV_int r4
          cases rV_ref r5
          obtain ⟨y0, q0, q1⟩ := hH.2.1 _ _ g0
          obtain ⟨y1, q2, q3⟩ := hH.2.1 _ _ g1
          obtain ⟨xs, rfl, l0, b0⟩ := rC_sum q1
          obtain ⟨ys, rfl, l1, b1⟩ := rC_sum q3
          have bn := bnd_ok hB en
          have bd := bnd_ok hB ed
          have bp := bnd_ok hB ep
          obtain ⟨jn, -, rfl, en1⟩ := nI_toInt' (x := xn) (by omega)
          obtain ⟨jd, -, rfl, ed1⟩ := nI_toInt' (x := xd) (by omega)
          obtain ⟨jp, -, rfl, ep1⟩ := nI_toInt' (x := xp) (by omega)
          have tn : (nI jn).toNatClampNeg = jn := by show (nI jn).toInt.toNat = jn; omega
          have td : (nI jd).toNatClampNeg = jd := by show (nI jd).toInt.toNat = jd; omega
          have tp : (nI jp).toNatClampNeg = jp := by show (nI jp).toInt.toNat = jp; omega
          have z : ∀ j, (nI j).toInt = (j : Int) → ¬ nI j < 0 := fun j e q => by
            rw [Int32.lt_iff_toInt_lt, Int32.toInt_zero] at q; omega
          have hcond : kd = 6 ∧ catB t5 = true ∧ 0 < d ∧ ¬ nI jp < 0 ∧ ¬ nI jd < 0 ∧ ¬ nI jn < 0 ∧ (nI jp).toNatClampNeg + (nI jn).toNatClampNeg ≤ xs.length ∧ (nI jd).toNatClampNeg + (nI jn).toNatClampNeg ≤ ys.length := ⟨c1, by unfold catB; rw [cat_sum0 hr5]; exact decide_eq_true c2, c3, z _ ep1, z _ ed1, z _ en1, by omega, by omega⟩
          refine ⟨ρ, t5, hp.set k1 (.inl (.int, cpyL xs ys (nI jp).toNatClampNeg (nI jd).toNatClampNeg (nI jn).toNatClampNeg)), hB, ext_rf, ?_, hr5, rH_keep hH c11 g1 ⟨rfl, by rw [cpyL_length]; exact l1, cpyL_bounds (by omega) (fun y hy => by have := b0 y hy; omega) b1⟩⟩
          simp only [hA, h1, q0, q2, if_pos hcond]
        · cases h
      · cases h
    · cases h
  | _ => cases h
end AHOK
/-! ===== steps with more than one outcome; and arraycopy ===== -/
def eqTo (B : BD) (n : AN) (v : Int) : BD := narL (narH B n v) n v
theorem eqTo_ok {B : BD} {ρ : Nat → Int} (hB : okB B ρ) {n : AN} {x : Int32} (h : rN B ρ n x) {v : Int} (hv : x.toInt = v) : okB (eqTo B n v) ρ ∧ ext B ρ (eqTo B n v) ρ := by
  have e1 : okB (narH B n v) ρ := narH_ok hB h (by omega)
  exact ⟨narL_ok e1 (rN_ext narH_ext h) (by omega), ext_tr narH_ext narL_ext⟩
def inBd (B : BD) (n : AN) (v : Int) : Bool := decide ((bnd B n).1 ≤ v) && decide (v ≤ (bnd B n).2)
theorem inBd_ok {B : BD} {ρ : Nat → Int} (hB : okB B ρ) {n : AN} {x : Int32} (h : rN B ρ n x) {v : Int} (hv : x.toInt = v) : inBd B n v = true := by
  have := bnd_ok hB h
  unfold inBd
  rw [Bool.and_eq_true, decide_eq_true_eq, decide_eq_true_eq]
  omega
def aF (B : BD) (i : Instr) (pc : Nat) (sa : List AVa) (ha : AHa) : Option (List (Option OUT)) := match i with
  | .aaload => match sa with
    | .inl n :: .inr (.inl r) :: s => match ha[r]? with
      | some (.inr (.inr (.inl rs))) => if inA B n rs.length = true then some (((List.range rs.length).filter (fun (k : Nat) => inBd B n (k : Int))).map (fun (k : Nat) => some (eqTo B n (k : Int), pc + 1, .inr (.inl (rs.getD k 0)) :: s, ha))) else none
      | _ => none
    | _ => none
  | .tableswitch dflt lo hi offs => match sa with
    | .inl n :: s => some ((if (bnd B n).1 < lo ∨ hi < (bnd B n).2 then [(tgt pc dflt).map (fun t => (B, t, s, ha))] else []) ++ ((List.range (hi - lo + 1).toNat).filter (fun (k : Nat) => inBd B n (lo + (k : Int)))).map (fun (k : Nat) => (offs[k]?).bind (fun off => (tgt pc off).map (fun t => (eqTo B n (lo + (k : Int)), t, s, ha)))))
    | _ => none
  | .lookupswitch dflt ps => match sa with
    | .inl n :: s => if (ps.toList.zip (ps.toList.drop 1)).all (fun (a, next) => a.1 < next.1) = true then some ((if knwA B n = true ∧ ps.toList.any (fun q => decide (q.1 = (bnd B n).1)) = true then [] else [(tgt pc dflt).map (fun t => (B, t, s, ha))]) ++ (ps.toList.filter (fun q => inBd B n q.1)).map (fun q => (tgt pc q.2).map (fun t => (eqTo B n q.1, t, s, ha)))) else none
    | _ => none
  | _ => none
theorem off_mem (dflt k : Int) : ∀ l : List (Int × Int), (Op.lookupswitch.offset l dflt k = dflt ∧ l.any (fun q => decide (q.1 = k)) = false) ∨ ∃ q ∈ l, q.1 = k ∧ Op.lookupswitch.offset l dflt k = q.2
  | [] => Or.inl ⟨rfl, rfl⟩
  | (a, o) :: l => by
    rw [Op.lookupswitch.offset_cons]
    split
    · rename_i h
      exact Or.inr ⟨(a, o), List.mem_cons_self, by first | exact h | exact h.symm | (simpa using h) | (simpa using h.symm), rfl⟩
    · rename_i h
      rcases off_mem dflt k l with ⟨h1, h2⟩ | ⟨q, h1, h2, h3⟩
      · refine Or.inl ⟨h1, ?_⟩
        rw [List.any_cons, h2, Bool.or_false]
        exact decide_eq_false (fun e => h (by first | exact e | exact e.symm | (simpa using e)))
      · exact Or.inr ⟨q, List.mem_cons_of_mem _ h1, h2, h3⟩
section AFOK
variable {B : BD} {ρ : Nat → Int} {d : Nat} {M : MT} {i : Instr} {pc : Nat} {sa : List AVa} {ha : AHa} {st : List Value} {hp : AH}
theorem aF_ok (hB : okB B ρ) (hS : rS B ρ sa st) (hH : rH B ρ ha hp) {L : List (Option OUT)} (h : aF B i pc sa ha = some L) (hall : ∀ q ∈ L, ∃ o, q = some o) : ∃ o, some o ∈ L ∧ outOk B ρ d M i pc st hp o := by
  cases i with
  | aaload =>
    simp only [aF] at h
    split at h
    · rename_i n r s
      split at h
      · rename_i rs h2
        split at h
        · rename_i hi
          cases h
          obtain ⟨v, vs, rfl, hv, hr⟩ := rS_cons hS
          obtain ⟨u, us, rfl, hu, hr2⟩ := rS_cons hr
          obtain ⟨x, rfl, hx⟩ := rV_int hv
          cases rV_ref hu
          obtain ⟨y, g1, g2⟩ := hH.2.1 _ _ h2
          cases rC_rows g2
          obtain ⟨q1, q2⟩ := inA_ok hB hx hi
          have hxk : x.toInt = ((x.toNatClampNeg : Nat) : Int) := by
            have := vp_in_iff.mp q1
            show x.toInt = ((x.toInt.toNat : Nat) : Int)
            omega
          have hbd := inBd_ok hB hx hxk
          obtain ⟨e1, e2⟩ := eqTo_ok hB hx hxk
          refine ⟨(eqTo B n x.toNatClampNeg, pc + 1, .inr (.inl (rs.getD x.toNatClampNeg 0)) :: s, ha), ?_, ρ, .ref (rs.getD x.toNatClampNeg 0) :: us, hp, e1, e2, ?_, ⟨rfl, rS_ext e2 hr2⟩, rH_ext e2 hH⟩
          · exact List.mem_map.mpr ⟨x.toNatClampNeg, List.mem_filter.mpr ⟨List.mem_range.mpr q2, hbd⟩, rfl⟩
          · have e3 : rs[x.toNatClampNeg]? = some (rs.getD x.toNatClampNeg 0) := by
              rw [List.getD_eq_getElem?_getD, List.getElem?_eq_getElem q2]; rfl
            simp only [hA, g1, if_pos (inB_of q1), e3]
        · cases h
      · cases h
    · cases h
  | tableswitch dflt lo hi offs =>
    simp only [aF] at h
    split at h
    · rename_i n s
      cases h
      obtain ⟨v, vs, rfl, hv, hr⟩ := rS_cons hS
      obtain ⟨x, rfl, hx⟩ := rV_int hv
      have hb := bnd_ok hB hx
      by_cases hout : x.toInt < lo ∨ hi < x.toInt
      · have hc : (bnd B n).1 < lo ∨ hi < (bnd B n).2 := by omega
        obtain ⟨o, ho⟩ := hall ((tgt pc dflt).map (fun t => (B, t, s, ha))) (by rw [if_pos hc]; exact List.mem_append_left _ List.mem_cons_self)
        obtain ⟨t, ht, rfl⟩ := Option.map_eq_some_iff.mp ho
        refine ⟨(B, t, s, ha), by rw [if_pos hc]; exact List.mem_append_left _ (by rw [ho]; exact List.mem_cons_self), ρ, vs, hp, hB, ext_rf, ?_, hr, hH⟩
        have e : swT dflt lo hi offs pc x = some t := by unfold swT; rw [if_pos hout]; exact ht
        simp only [hA, e]
      · have hk : ((x.toInt - lo).toNat : Int) = x.toInt - lo := Int.toNat_of_nonneg (by omega)
        have hlt : (x.toInt - lo).toNat < (hi - lo + 1).toNat := by omega
        have hv2 : x.toInt = lo + ((x.toInt - lo).toNat : Int) := by omega
        have hmem : (offs[(x.toInt - lo).toNat]?).bind (fun off => (tgt pc off).map (fun t => (eqTo B n (lo + ((x.toInt - lo).toNat : Int)), t, s, ha))) ∈ ((if (bnd B n).1 < lo ∨ hi < (bnd B n).2 then [(tgt pc dflt).map (fun t => (B, t, s, ha))] else []) ++ ((List.range (hi - lo + 1).toNat).filter (fun (k : Nat) => inBd B n (lo + (k : Int)))).map (fun (k : Nat) => (offs[k]?).bind (fun off => (tgt pc off).map (fun t => (eqTo B n (lo + (k : Int)), t, s, ha))))) :=
          List.mem_append_right _ (List.mem_map.mpr ⟨(x.toInt - lo).toNat, List.mem_filter.mpr ⟨List.mem_range.mpr hlt, inBd_ok hB hx hv2⟩, rfl⟩)
        obtain ⟨o, ho⟩ := hall _ hmem
        obtain ⟨off, h1, h2⟩ := Option.bind_eq_some_iff.mp ho
        obtain ⟨t, ht, rfl⟩ := Option.map_eq_some_iff.mp h2
        obtain ⟨e1, e2⟩ := eqTo_ok hB hx hv2
        refine ⟨_, by rw [← ho]; exact hmem, ρ, vs, hp, e1, e2, ?_, rS_ext e2 hr, rH_ext e2 hH⟩
        have e : swT dflt lo hi offs pc x = some t := by unfold swT; rw [if_neg hout, h1]; exact ht
        simp only [hA, e]
    · cases h
  | lookupswitch dflt ps =>
    simp only [aF] at h
    split at h
    · rename_i n s
      split at h
      · rename_i hsrt
        cases h
        obtain ⟨v, vs, rfl, hv, hr⟩ := rS_cons hS
        obtain ⟨x, rfl, hx⟩ := rV_int hv
        have hb := bnd_ok hB hx
        rcases off_mem dflt x.toInt ps.toList with ⟨e1, e2⟩ | ⟨q, q1, q2, q3⟩
        · have hc : ¬ (knwA B n = true ∧ ps.toList.any (fun q => decide (q.1 = (bnd B n).1)) = true) := fun z => by
            have hk := of_decide_eq_true z.1
            have e3 : (bnd B n).1 = x.toInt := by omega
            have z2 := z.2
            rw [e3, e2] at z2
            cases z2
          obtain ⟨o, ho⟩ := hall ((tgt pc dflt).map (fun t => (B, t, s, ha))) (by rw [if_neg hc]; exact List.mem_append_left _ List.mem_cons_self)
          obtain ⟨t, ht, rfl⟩ := Option.map_eq_some_iff.mp ho
          refine ⟨(B, t, s, ha), by rw [if_neg hc, ho]; exact List.mem_append_left _ List.mem_cons_self, ρ, vs, hp, hB, ext_rf, ?_, hr, hH⟩
          simp only [hA, if_pos hsrt, e1, ht]
        · obtain ⟨e1, e2⟩ := eqTo_ok hB hx q2.symm
          have hmem : (tgt pc q.2).map (fun t => (eqTo B n q.1, t, s, ha)) ∈ ((if knwA B n = true ∧ ps.toList.any (fun q => decide (q.1 = (bnd B n).1)) = true then [] else [(tgt pc dflt).map (fun t => (B, t, s, ha))]) ++ (ps.toList.filter (fun q => inBd B n q.1)).map (fun q => (tgt pc q.2).map (fun t => (eqTo B n q.1, t, s, ha)))) := List.mem_append_right _ (List.mem_map.mpr ⟨q, List.mem_filter.mpr ⟨q1, inBd_ok hB hx q2.symm⟩, rfl⟩)
          obtain ⟨o, ho⟩ := hall _ hmem
          obtain ⟨t, ht, rfl⟩ := Option.map_eq_some_iff.mp ho
          refine ⟨_, by rw [← ho]; exact hmem, ρ, vs, hp, e1, e2, ?_, rS_ext e2 hr, rH_ext e2 hH⟩
          simp only [hA, if_pos hsrt, q3, ht]
      · cases h
    · cases h
  | _ => cases h
end AFOK
/-! ===== ends of methods, calls, Math's two, over names ===== -/
def rO (B : BD) (ρ : Nat → Int) (a : Option AVa) (v : Option Value) : Prop := match a, v with
  | none, none => True
  | some a, some v => rV B ρ a v
  | _, _ => False
theorem rO_list {B : BD} {ρ : Nat → Int} {a : Option AVa} {v : Option Value} (h : rO B ρ a v) {s : List AVa} {vs : List Value} (hs : rS B ρ s vs) : rS B ρ (a.toList ++ s) (v.toList ++ vs) := by
  match a, v, h with
  | none, none, _ => exact hs
  | some a, some v, h => exact ⟨h, hs⟩
def rAa (B : BD) (rt : Option FieldType) (i : Instr) (sa : List AVa) : Option (Option AVa) := match i with
  | .ireturn => match sa with
    | [.inl n] => match rt with
      | some .int => some (some (.inl n))
      | some .boolean => if 0 ≤ (bnd B n).1 ∧ (bnd B n).2 ≤ 1 then some (some (.inl n)) else none
      | _ => none
    | _ => none
  | .lreturn => match sa with
    | [.inr (.inr o)] => match rt with
      | some .long => some (some (.inr (.inr o)))
      | _ => none
    | _ => none
  | .areturn => match sa with
    | [.inr (.inl r)] => match rt with
      | some (.object _) => some (some (.inr (.inl r)))
      | some (.array _) => some (some (.inr (.inl r)))
      | _ => none
    | _ => none
  | .return_ => match sa with
    | [] => match rt with
      | none => some none
      | _ => none
    | _ => none
  | _ => none
theorem rS_nil {B : BD} {ρ : Nat → Int} {st : List Value} (h : rS B ρ [] st) : st = [] := by
  match st, h with
  | [], _ => rfl
theorem rAa_ok {B : BD} {ρ : Nat → Int} (hB : okB B ρ) {rt : Option FieldType} {i : Instr} {sa : List AVa} {st : List Value} (hS : rS B ρ sa st) {a : Option AVa} (h : rAa B rt i sa = some a) : ∃ v, rA rt i st = some v ∧ rO B ρ a v := by
  cases i with
  | ireturn =>
    simp only [rAa] at h
    split at h
    · obtain ⟨v, vs, rfl, hv, hr⟩ := rS_cons hS
      obtain ⟨x, rfl, hx⟩ := rV_int hv
      cases rS_nil hr
      split at h
      · cases h; exact ⟨_, rfl, hx⟩
      · split at h
        · rename_i hb
          cases h
          have := bnd_ok hB hx
          have e0 : (0 : Int32).toInt = 0 := by decide
          have e1 : (1 : Int32).toInt = 1 := by decide
          have hx01 : x = 0 ∨ x = 1 := by
            rcases (show x.toInt = 0 ∨ x.toInt = 1 by omega) with q | q
            · left; exact Int32.toInt_inj.mp (by omega)
            · right; exact Int32.toInt_inj.mp (by omega)
          exact ⟨some (.int x), by simp only [rA, if_pos hx01], hx⟩
        · cases h
      · cases h
    · cases h
  | lreturn =>
    simp only [rAa] at h
    split at h
    · obtain ⟨v, vs, rfl, hv, hr⟩ := rS_cons hS
      obtain ⟨x, rfl, hx⟩ := rV_long hv
      cases rS_nil hr
      split at h
      · cases h; exact ⟨_, rfl, hx⟩
      · cases h
    · cases h
  | areturn =>
    simp only [rAa] at h
    split at h
    · obtain ⟨v, vs, rfl, hv, hr⟩ := rS_cons hS
      cases rV_ref hv
      cases rS_nil hr
      split at h
      · cases h; exact ⟨_, rfl, rfl⟩
      · cases h; exact ⟨_, rfl, rfl⟩
      · cases h
    · cases h
  | return_ =>
    simp only [rAa] at h
    split at h
    · cases rS_nil hS
      split at h
      · cases h; exact ⟨none, rfl, trivial⟩
      · cases h
    · cases h
  | _ => cases h
theorem rS_take {B : BD} {ρ : Nat → Int} : ∀ (n : Nat) {as : List AVa} {vs : List Value}, rS B ρ as vs → rS B ρ (as.take n) (vs.take n)
  | 0, _, _, _ => trivial
  | _ + 1, [], [], _ => trivial
  | n + 1, _ :: _, _ :: _, h => ⟨h.1, rS_take n h.2⟩
  | _ + 1, [], _ :: _, h => h.elim
  | _ + 1, _ :: _, [], h => h.elim
theorem rS_drop {B : BD} {ρ : Nat → Int} : ∀ (n : Nat) {as : List AVa} {vs : List Value}, rS B ρ as vs → rS B ρ (as.drop n) (vs.drop n)
  | 0, _, _, h => h
  | _ + 1, [], [], _ => trivial
  | n + 1, _ :: _, _ :: _, h => rS_drop n h.2
  | _ + 1, [], _ :: _, h => h.elim
  | _ + 1, _ :: _, [], h => h.elim
theorem rS_app {B : BD} {ρ : Nat → Int} : ∀ {as bs : List AVa} {vs ws : List Value}, rS B ρ as vs → rS B ρ bs ws → rS B ρ (as ++ bs) (vs ++ ws)
  | [], _, [], _, _, h => h
  | _ :: _, _, _ :: _, _, h, h2 => ⟨h.1, rS_app h.2 h2⟩
  | [], _, _ :: _, _, h, _ => h.elim
  | _ :: _, _, [], _, h, _ => h.elim
theorem rS_rev {B : BD} {ρ : Nat → Int} : ∀ {as : List AVa} {vs : List Value}, rS B ρ as vs → rS B ρ as.reverse vs.reverse
  | [], [], _ => trivial
  | a :: as, v :: vs, h => by
    rw [List.reverse_cons, List.reverse_cons]
    exact rS_app (rS_rev h.2) ⟨h.1, trivial⟩
  | [], _ :: _, h => h.elim
  | _ :: _, [], h => h.elim
def kAa (cn : Nat) (i : Instr) (sa : List AVa) (ha : AHa) : Option (Nat × List AVa × List AVa) := match i with
  | .invokestatic idx => match mRes cn idx with
    | some (kd, N, _) => if (kd = 0 ∨ kd = 1) ∧ npL.getD N 0 ≤ sa.length then some (N, (sa.take (npL.getD N 0)).reverse, sa.drop (npL.getD N 0)) else none
    | none => none
  | .invokevirtual idx => match mRes cn idx with
    | some (kd, N, _) => match sa.drop (npL.getD N 0) with
      | .inr (.inl r) :: s => match ha[r]?, mtL[N]? with
        | some (.inr (.inr (.inr (ci, _)))), some M => if kd = 2 ∧ ci = M.cn ∧ ci < 8 then some (N, .inr (.inl r) :: (sa.take (npL.getD N 0)).reverse, s) else none
        | _, _ => none
      | _ => none
    | none => none
  | _ => none
theorem kAa_ok {B : BD} {ρ : Nat → Int} {cn : Nat} {i : Instr} {sa as s : List AVa} {ha : AHa} {st : List Value} {hp : AH} (hS : rS B ρ sa st) (hH : rH B ρ ha hp) {N : Nat} (h : kAa cn i sa ha = some (N, as, s)) : ∃ av sv, kA cn i st hp = some (N, av, sv) ∧ rS B ρ as av ∧ rS B ρ s sv := by
  cases i with
  | invokestatic idx =>
    simp only [kAa] at h
    split at h
    · rename_i kd N0 a1 h0
      split at h
      · rename_i hc
        cases h
        have hc2 : (kd = 0 ∨ kd = 1) ∧ npL.getD N 0 ≤ st.length := ⟨hc.1, by rw [← rS_len hS]; exact hc.2⟩
        exact ⟨_, _, by simp only [kA, h0, if_pos hc2], rS_rev (rS_take _ hS), rS_drop _ hS⟩
      · cases h
    · cases h
  | invokevirtual idx =>
    simp only [kAa] at h
    split at h
    · rename_i kd N0 a1 h0
      split at h
      · rename_i r s1 hdrop
        split at h
        · rename_i ci fa M0 g0 g1
          split at h
          · rename_i hc
            cases h
            have hd := rS_drop (npL.getD N 0) hS
            rw [hdrop] at hd
            obtain ⟨v, vs, e, hv, hr⟩ := rS_cons hd
            cases rV_ref hv
            obtain ⟨x, q1, q2⟩ := hH.2.1 _ _ g0
            obtain ⟨fs, rfl, -⟩ := rC_obj q2
            exact ⟨.ref r :: (st.take (npL.getD N 0)).reverse, vs, by simp only [kA, h0, e, q1, g1, if_pos hc], ⟨rfl, rS_rev (rS_take _ hS)⟩, hr⟩
          · cases h
        · cases h
      · cases h
    · cases h
  | _ => cases h
def lvaa : Nat → List AVa → List (Nat × AVa)
  | _, [] => []
  | i, v :: vs => (i, v) :: lvaa (if catA v = 2 then i + 2 else i + 1) vs
def entA (as : List AVa) (n : Nat) : List (Option AVa) := (List.range n).map (fun i => (lvaa 0 as).lookup i)
theorem lvaa_ok {B : BD} {ρ : Nat → Int} (k : Nat) : ∀ {as : List AVa} {vs : List Value} (i : Nat), rS B ρ as vs → ∀ a, (lvaa i as).lookup k = some a → ∃ v, (lv_args i vs).lookup k = some v ∧ rV B ρ a v
  | [], [], _, _, a, h => by cases h
  | b :: as, v :: vs, i, hS, a, h => by
    simp only [lvaa, List.lookup_cons] at h
    simp only [lv_args, List.lookup_cons, catA_eq hS.1]
    cases hk : k == i with
    | true => rw [hk] at h; simp only at h ⊢; cases h; exact ⟨v, rfl, hS.1⟩
    | false => rw [hk] at h; simp only at h ⊢; exact lvaa_ok k _ hS.2 a h
  | [], _ :: _, _, h, _, _ => h.elim
  | _ :: _, [], _, h, _, _ => h.elim
theorem entA_ok {B : BD} {ρ : Nat → Int} {as : List AVa} {vs : List Value} (hS : rS B ρ as vs) (n : Nat) : rL B ρ (entA as n) (entL vs n) := by
  refine ⟨by unfold entA entL; simp, fun i a hi => ?_⟩
  unfold entA at hi
  rw [List.getElem?_map] at hi
  cases hr : (List.range n)[i]? with
  | none => rw [hr] at hi; cases hi
  | some j =>
    rw [hr] at hi
    simp only [Option.map_some, Option.some.injEq] at hi
    obtain ⟨v, h1, h2⟩ := lvaa_ok j 0 hS a hi
    refine ⟨v, ?_, h2⟩
    unfold entL
    rw [List.getElem?_map, hr]
    simp only [Option.map_some, h1]
theorem cat_sum {B : BD} {ρ : Nat → Int} : ∀ {as : List AVa} {vs : List Value}, rS B ρ as vs → vs.map (fun v => v.category) = as.map catA
  | [], [], _ => rfl
  | _ :: _, _ :: _, h => by rw [List.map_cons, List.map_cons, catA_eq h.1, cat_sum h.2]
  | [], _ :: _, h => h.elim
  | _ :: _, [], h => h.elim
/-! ===== numbers, states written out before they are handed on: for the kernel's sake alone ===== -/
section FRC
variable {β : Type}
def frN (n : Nat) (k : Nat → β) : β := match n with
  | 0 => k 0
  | m + 1 => k (m + 1)
theorem frN_eq (n : Nat) (k : Nat → β) : frN n k = k n := by cases n <;> rfl
def frI (n : Int) (k : Int → β) : β := match n with
  | .ofNat m => frN m (fun m => k (.ofNat m))
  | .negSucc m => frN m (fun m => k (.negSucc m))
theorem frI_eq (n : Int) (k : Int → β) : frI n k = k n := by cases n <;> simp only [frI, frN_eq]
def frP (b : Int × Int) (k : Int × Int → β) : β := match b with
  | (x, y) => frI x (fun x => frI y (fun y => k (x, y)))
theorem frP_eq (b : Int × Int) (k : Int × Int → β) : frP b k = k b := by obtain ⟨x, y⟩ := b; simp only [frP, frI_eq]
def frA (n : AN) (k : AN → β) : β := match n with
  | (none, c) => frI c (fun c => k (none, c))
  | (some j, c) => frN j (fun j => frI c (fun c => k (some j, c)))
theorem frA_eq (n : AN) (k : AN → β) : frA n k = k n := by
  obtain ⟨x, y⟩ := n
  cases x <;> simp only [frA, frI_eq, frN_eq]
def frV (a : AVa) (k : AVa → β) : β := match a with
  | .inl n => frA n (fun n => k (.inl n))
  | .inr (.inl r) => frN r (fun r => k (.inr (.inl r)))
  | .inr (.inr none) => k (.inr (.inr none))
  | .inr (.inr (some c)) => frA c (fun c => k (.inr (.inr (some c))))
theorem frV_eq (a : AVa) (k : AVa → β) : frV a k = k a := by
  match a with
  | .inl n => simp only [frV, frA_eq]
  | .inr (.inl r) => simp only [frV, frN_eq]
  | .inr (.inr none) => rfl
  | .inr (.inr (some c)) => simp only [frV, frA_eq]
def frO (a : Option AVa) (k : Option AVa → β) : β := match a with
  | none => k none
  | some v => frV v (fun v => k (some v))
theorem frO_eq (a : Option AVa) (k : Option AVa → β) : frO a k = k a := by cases a <;> simp only [frO, frV_eq]
end FRC
def frLs {α β : Type} (f : α → (α → β) → β) : List α → (List α → β) → β
  | [], k => k []
  | a :: l, k => f a (fun a => frLs f l (fun l => k (a :: l)))
theorem frLs_eq {α β : Type} {f : α → (α → β) → β} (hf : ∀ a k, f a k = k a) : ∀ (l : List α) (k : List α → β), frLs f l k = k l
  | [], _ => rfl
  | a :: l, k => by simp only [frLs, hf, frLs_eq hf l]
section FRC2
variable {β : Type}
def frC (c : ACa) (k : ACa → β) : β := match c with
  | .inl q => k (.inl q)
  | .inr (.inl (ty, ns)) => frLs frA ns (fun ns => k (.inr (.inl (ty, ns))))
  | .inr (.inr (.inl rs)) => k (.inr (.inr (.inl rs)))
  | .inr (.inr (.inr (ci, fa))) => frLs frV fa (fun fa => k (.inr (.inr (.inr (ci, fa)))))
theorem frC_eq (c : ACa) (k : ACa → β) : frC c k = k c := by
  match c with
  | .inl q => rfl
  | .inr (.inl (ty, ns)) => simp only [frC, frLs_eq frA_eq]
  | .inr (.inr (.inl rs)) => rfl
  | .inr (.inr (.inr (ci, fa))) => simp only [frC, frLs_eq frV_eq]
def frB (B : BD) (k : BD → β) : β := frLs frP B k
theorem frB_eq (B : BD) (k : BD → β) : frB B k = k B := frLs_eq frP_eq B k
/-- only where a step makes names or bounds -/
def frBi (b : Bool) (B : BD) (k : BD → β) : β := match b with
  | true => frB B k
  | false => k B
theorem frBi_eq (b : Bool) (B : BD) (k : BD → β) : frBi b B k = k B := by cases b <;> simp only [frBi, frB_eq]
def frS (s : List AVa) (k : List AVa → β) : β := frLs frV s k
theorem frS_eq (s : List AVa) (k : List AVa → β) : frS s k = k s := frLs_eq frV_eq s k
def frT (s : List (Option AVa)) (k : List (Option AVa) → β) : β := frLs frO s k
theorem frT_eq (s : List (Option AVa)) (k : List (Option AVa) → β) : frT s k = k s := frLs_eq frO_eq s k
def frTi (b : Bool) (s : List (Option AVa)) (k : List (Option AVa) → β) : β := match b with
  | true => frT s k
  | false => k s
theorem frTi_eq (b : Bool) (s : List (Option AVa)) (k : List (Option AVa) → β) : frTi b s k = k s := by cases b <;> simp only [frTi, frT_eq]
def frH (h : AHa) (k : AHa → β) : β := frLs frC h k
theorem frH_eq (h : AHa) (k : AHa → β) : frH h k = k h := frLs_eq frC_eq h k
def frHi (b : Bool) (h : AHa) (k : AHa → β) : β := match b with
  | true => frH h k
  | false => k h
theorem frHi_eq (b : Bool) (h : AHa) (k : AHa → β) : frHi b h k = k h := by cases b <;> simp only [frHi, frH_eq]
end FRC2
def chB (i : Instr) : Bool := match i with
  | .iadd => true
  | .isub => true
  | .imul => true
  | .iand => true
  | .ior => true
  | .ixor => true
  | .ishl => true
  | .ishr => true
  | .iushr => true
  | .iinc _ _ => true
  | .ineg => true
  | .i2b => true
  | .i2s => true
  | .lcmp => true
  | .ladd => true
  | .lshl => true
  | .lsub => true
  | .lmul => true
  | .iaload => true
  | .baload => true
  | .idiv => true
  | .irem => true
  | _ => false
def chL (i : Instr) : Bool := match i with
  | .istore_n _ => true
  | .istore _ => true
  | .lstore_n _ => true
  | .lstore _ => true
  | .astore_n _ => true
  | .astore _ => true
  | .iinc _ _ => true
  | _ => false
def chH (i : Instr) : Bool := match i with
  | .putfield _ => true
  | .iastore => true
  | .bastore => true
  | _ => false
/-! ===== the abstract evaluator ===== -/
def xAa (B : BD) (cn : Nat) (i : Instr) (sa : List AVa) : Option (BD × AN × List AVa) := match i with
  | .invokestatic idx => match mRes cn idx, sa with
    | some (kd, _), .inl b :: .inl a :: s =>
      if kd = 7 then some ((newN B (min (bnd B a).1 (bnd B b).1) (min (bnd B a).2 (bnd B b).2)).1, (newN B (min (bnd B a).1 (bnd B b).1) (min (bnd B a).2 (bnd B b).2)).2, s)
      else if kd = 8 then some ((newN B (max (bnd B a).1 (bnd B b).1) (max (bnd B a).2 (bnd B b).2)).1, (newN B (max (bnd B a).1 (bnd B b).1) (max (bnd B a).2 (bnd B b).2)).2, s)
      else none
    | _, _ => none
  | _ => none
theorem xAa_ok {B B' : BD} {ρ : Nat → Int} (hB : okB B ρ) {cn : Nat} {i : Instr} {sa s : List AVa} {st : List Value} (hS : rS B ρ sa st) {n : AN} (h : xAa B cn i sa = some (B', n, s)) : ∃ ρ' z sv, okB B' ρ' ∧ ext B ρ B' ρ' ∧ xA cn i st = (some (.int z), sv) ∧ rN B' ρ' n z ∧ rS B' ρ' s sv := by
  cases i with
  | invokestatic idx =>
    simp only [xAa] at h
    split at h
    · rename_i kd e0 b a s1 h0
      obtain ⟨v, vs, rfl, hv, hr⟩ := rS_cons hS
      obtain ⟨u, us, rfl, hu, hr2⟩ := rS_cons hr
      obtain ⟨y, rfl, hy⟩ := rV_int hv
      obtain ⟨x, rfl, hx⟩ := rV_int hu
      have b1 := bnd_ok hB hx
      have b2 := bnd_ok hB hy
      split at h
      · rename_i hk
        cases h
        obtain ⟨ρ', g1, g2, g3⟩ := newN_ok hB (lo := min (bnd B a).1 (bnd B b).1) (hi := min (bnd B a).2 (bnd B b).2) (x := if y < x then y else x) (by split <;> omega) (by
          split
          · rename_i q; rw [Int32.lt_iff_toInt_lt] at q; omega
          · rename_i q; rw [Int32.lt_iff_toInt_lt] at q; omega)
        exact ⟨ρ', _, us, g1, g2, by simp only [xA, h0, if_pos hk], g3, rS_ext g2 hr2⟩
      · rename_i hk1
        split at h
        · rename_i hk
          cases h
          obtain ⟨ρ', g1, g2, g3⟩ := newN_ok hB (lo := max (bnd B a).1 (bnd B b).1) (hi := max (bnd B a).2 (bnd B b).2) (x := if x < y then y else x) (by
            split
            · rename_i q; rw [Int32.lt_iff_toInt_lt] at q; omega
            · rename_i q; rw [Int32.lt_iff_toInt_lt] at q; omega) (by split <;> omega)
          exact ⟨ρ', _, us, g1, g2, by simp only [xA, h0, if_neg hk1, if_pos hk], g3, rS_ext g2 hr2⟩
        · cases h
    · cases h
  | _ => cases h
def aBr (B : BD) (i : Instr) (pc : Nat) (sa : List AVa) : Option (Option BD × Option BD × Nat × List AVa) := match i with
  | .ifCond c off => match sa with
    | .inl a :: s => (tgt pc off).map (fun t => (cmpT B c a (none, 0), cmpF B c a (none, 0), t, s))
    | _ => none
  | .if_icmp c off => match sa with
    | .inl b :: .inl a :: s => (tgt pc off).map (fun t => (cmpT B c a b, cmpF B c a b, t, s))
    | _ => none
  | _ => none
theorem aBr_ok {B : BD} {ρ : Nat → Int} (hB : okB B ρ) {i : Instr} {pc : Nat} {sa s : List AVa} {st : List Value} (hS : rS B ρ sa st) {bt bf : Option BD} {t : Nat} (h : aBr B i pc sa = some (bt, bf, t, s)) : ∃ b sv, bA i pc st = some (b, t, sv) ∧ rS B ρ s sv ∧ (b = true → ∃ B', bt = some B' ∧ okB B' ρ ∧ ext B ρ B' ρ) ∧ (b = false → ∃ B', bf = some B' ∧ okB B' ρ ∧ ext B ρ B' ρ) := by
  cases i with
  | ifCond c off =>
    simp only [aBr] at h
    split at h
    · obtain ⟨t1, ht, he⟩ := Option.map_eq_some_iff.mp h
      cases he
      obtain ⟨v, vs, rfl, hv, hr⟩ := rS_cons hS
      obtain ⟨x, rfl, hx⟩ := rV_int hv
      have h0 : rN B ρ (none, 0) 0 := ⟨fun j hj => (by cases hj), Int32.toInt_zero⟩
      exact ⟨_, vs, by simp only [bA, ht]; rfl, hr, fun q => cmpT_ok hB hx h0 q, fun q => cmpF_ok hB hx h0 q⟩
    · cases h
  | if_icmp c off =>
    simp only [aBr] at h
    split at h
    · obtain ⟨t1, ht, he⟩ := Option.map_eq_some_iff.mp h
      cases he
      obtain ⟨v, vs, rfl, hv, hr⟩ := rS_cons hS
      obtain ⟨u, us, rfl, hu, hr2⟩ := rS_cons hr
      obtain ⟨y, rfl, hy⟩ := rV_int hv
      obtain ⟨x, rfl, hx⟩ := rV_int hu
      exact ⟨_, us, by simp only [bA, ht]; rfl, hr2, fun q => cmpT_ok hB hx hy q, fun q => cmpF_ok hB hx hy q⟩
    · cases h
  | _ => cases h
abbrev KT : Type := BD → Option AVa → AHa → Bool
abbrev CUT : Type := Nat → Option (BD → List (Option AVa) → AHa → Bool)
/-- what a call may come to: alternatives -/
abbrev ORA : Type := Nat → Nat → BD → List AVa → AHa → Option (List (BD × Option AVa × AHa))
def noCut : CUT := fun _ => none
def noORA : ORA := fun _ _ _ _ _ => none
def ai (O : ORA) : Nat → Bool → CUT → Nat → Nat → Nat → BD → List (Option AVa) → List AVa → AHa → KT → Bool
  | 0, _, _, _, _, _, _, _, _, _, _ => false
  | f + 1, go, cut, d, k, pc, B, la, sa, ha, K => match (if go = true then none else cut pc) with
    | some chk => decide (sa = []) && chk B la ha
    | none => match mtL[k]?, (cdL.getD k [])[pc]? with
      | some M, some (some (i, _)) => match aS B i pc la sa with
        | some (B', pc', la', sa') => frN pc' (fun pc' => frBi (chB i) B' (fun B' => frTi (chL i) la' (fun la' => frS sa' (fun sa' => ai O f false cut d k pc' B' la' sa' ha K))))
        | none => match aBr B i pc sa with
          | some (bt, bf, t, s) => (match bt with
            | none => true
            | some B' => frN t (fun t => frB B' (fun B' => ai O f false cut d k t B' la s ha K))) && (match bf with
            | none => true
            | some B' => frN (pc + 3) (fun t => frB B' (fun B' => ai O f false cut d k t B' la s ha K)))
          | none => match aH1 d B M i pc sa ha with
            | some o => frN o.2.1 (fun t => frBi (chB i) o.1 (fun B' => frS o.2.2.1 (fun sa' => frHi (chH i) o.2.2.2 (fun ha' => ai O f false cut d k t B' la sa' ha' K))))
            | none => match aF B i pc sa ha with
              | some L => L.all (fun q => match q with
                | some o => frN o.2.1 (fun t => frB o.1 (fun B' => frS o.2.2.1 (fun sa' => ai O f false cut d k t B' la sa' o.2.2.2 K)))
                | none => false)
              | none => match rAa B M.rt i sa with
                | some a => K B a ha
                | none => match kAa M.cn i sa ha with
                  | some (N, as, s) => match d, mtL[N]? with
                    | d' + 1, some NM => decide ((s.map catA).sum ≤ 8 ∧ (as.map catA).sum ≤ NM.ml) && frS s (fun s => frS as (fun as => match O d' N B as ha with
                      | some L => L.all (fun o => decide (o.2.2.length = ha.length) && frN (pc + 3) (fun t => frB o.1 (fun B' => frS (o.2.1.toList ++ s) (fun sa' => frH o.2.2 (fun ha' => ai O f false cut (d' + 1) k t B' la sa' ha' K)))))
                      | none => frT (entA as NM.ml) (fun la0 => ai O f true noCut d' N 0 B la0 [] ha (fun B' a ha' => decide (ha'.length = ha.length) && frN (pc + 3) (fun t => frS (a.toList ++ s) (fun sa' => ai O f false cut (d' + 1) k t B' la sa' ha' K))))))
                    | _, _ => false
                  | none => match xAa B M.cn i sa with
                    | some (B', n, s) => decide ((s.map catA).sum ≤ 8 ∧ 0 < d) && frN (pc + 3) (fun t => frB B' (fun B' => frS (.inl n :: s) (fun sa' => ai O f false cut d k t B' la sa' ha K)))
                    | none => false
      | _, _ => false
/-! ===== the abstract evaluator speaks true ===== -/
def oraOk (O : ORA) : Prop := ∀ (d N : Nat) (NM : MT) (B : BD) (as : List AVa) (ha : AHa) (L : List (BD × Option AVa × AHa)), O d N B as ha = some L → mtL[N]? = some NM → ∀ (ρ : Nat → Int) (av : List Value) (hp : AH), okB B ρ → rS B ρ as av → rH B ρ ha hp → Ct NM d 0 0 av hp (fun v hp' => ∃ o ∈ L, ∃ ρ', okB o.1 ρ' ∧ ext B ρ o.1 ρ' ∧ rO o.1 ρ' o.2.1 v ∧ rH o.1 ρ' o.2.2 hp')
theorem noORA_ok : oraOk noORA := fun d N NM B as ha L h => by cases h
/-- what is known where the evaluator goes on: its end, and its cuts -/
def aiEnd (K : KT) (B : BD) (ρ : Nat → Int) (Q : Option Value → AH → Prop) : Prop := ∀ (B' : BD) (ρ' : Nat → Int) (a : Option AVa) (v : Option Value) (ha' : AHa) (hp' : AH), K B' a ha' = true → okB B' ρ' → ext B ρ B' ρ' → rO B' ρ' a v → rH B' ρ' ha' hp' → Q v hp'
def aiCut (cut : CUT) (M : MT) (d : Nat) (B : BD) (ρ : Nat → Int) (Q : Option Value → AH → Prop) : Prop := ∀ (pc : Nat) (chk : BD → List (Option AVa) → AHa → Bool), cut pc = some chk → ∀ (B' : BD) (ρ' : Nat → Int) (la' : List (Option AVa)) (lv' : List (Option Value)) (ha' : AHa) (hp' : AH), chk B' la' ha' = true → okB B' ρ' → ext B ρ B' ρ' → rL B' ρ' la' lv' → rH B' ρ' ha' hp' → J M d 0 0 Q pc lv' [] hp' 0 0
theorem aiEnd_ext {K : KT} {B B1 : BD} {ρ ρ1 : Nat → Int} {Q : Option Value → AH → Prop} (h : aiEnd K B ρ Q) (e : ext B ρ B1 ρ1) : aiEnd K B1 ρ1 Q := fun B' ρ' a v ha' hp' h1 h2 h3 h4 h5 => h B' ρ' a v ha' hp' h1 h2 (ext_tr e h3) h4 h5
theorem aiCut_ext {cut : CUT} {M : MT} {d : Nat} {B B1 : BD} {ρ ρ1 : Nat → Int} {Q : Option Value → AH → Prop} (h : aiCut cut M d B ρ Q) (e : ext B ρ B1 ρ1) : aiCut cut M d B1 ρ1 Q := fun pc chk hc B' ρ' la' lv' ha' hp' h1 h2 h3 h4 h5 => h pc chk hc B' ρ' la' lv' ha' hp' h1 h2 (ext_tr e h3) h4 h5
set_option maxHeartbeats 4000000 in
theorem ai_ok {O : ORA} (hO : oraOk O) : ∀ (f : Nat) (go : Bool) (cut : CUT) (d k pc : Nat) (B : BD) (la : List (Option AVa)) (sa : List AVa) (ha : AHa) (K : KT), ai O f go cut d k pc B la sa ha K = true →
    ∀ (M : MT), mtL[k]? = some M → ∀ (ρ : Nat → Int) (lv : List (Option Value)) (st : List Value) (hp : AH) (Q : Option Value → AH → Prop), okB B ρ → rL B ρ la lv → rS B ρ sa st → rH B ρ ha hp → aiEnd K B ρ Q → aiCut cut M d B ρ Q → J M d 0 0 Q pc lv st hp 0 0 := by
  intro f
  induction f with
  | zero => intro go cut d k pc B la sa ha K h; simp only [ai] at h; cases h
  | succ f ih =>
    intro go cut d k pc B la sa ha K h M' hM' ρ lv st hp Q hB hL hS hH hK hC
    simp only [ai, frN_eq, frB_eq, frBi_eq, frT_eq, frTi_eq, frS_eq, frH_eq, frHi_eq] at h
    split at h
    · rename_i chk hchk
      rw [Bool.and_eq_true, decide_eq_true_eq] at h
      obtain ⟨rfl, h⟩ := h
      cases rS_nil hS
      have hcut : cut pc = some chk := by
        split at hchk
        · cases hchk
        · exact hchk
      exact hC pc chk hcut B ρ la lv ha hp h hB ext_rf hL hH
    · split at h
      · rename_i M i len hM hc
        rw [hM] at hM'; cases hM'
        obtain ⟨hd, hn⟩ := cd_at hM hc
        split at h
        · rename_i B1 pc1 la1 sa1 hs
          obtain ⟨ρ1, lv1, st1, g1, g2, g3, g4, g5⟩ := aS_ok hB hL hS hs
          have hl := sA_len g3 hn
          subst hl
          exact J_s hd g3 (ih _ _ _ _ _ _ _ _ _ _ h _ hM ρ1 lv1 st1 hp Q g1 g4 g5 (rH_ext g2 hH) (aiEnd_ext hK g2) (aiCut_ext hC g2))
        · split at h
          · rename_i bt bf t s hs
            rw [Bool.and_eq_true] at h
            obtain ⟨b, sv, g1, g2, g3, g4⟩ := aBr_ok hB hS hs
            have hl := bA_len g1 hn
            subst hl
            refine J_b hd g1 (fun q => ?_) (fun q => ?_)
            · obtain ⟨B1, e1, e2, e3⟩ := g3 q
              have h1 := h.1
              rw [e1] at h1
              exact ih _ _ _ _ _ _ _ _ _ _ h1 _ hM ρ lv sv hp Q e2 (rL_ext e3 hL) (rS_ext e3 g2) (rH_ext e3 hH) (aiEnd_ext hK e3) (aiCut_ext hC e3)
            · obtain ⟨B1, e1, e2, e3⟩ := g4 q
              have h1 := h.2
              rw [e1] at h1
              exact ih _ _ _ _ _ _ _ _ _ _ h1 _ hM ρ lv sv hp Q e2 (rL_ext e3 hL) (rS_ext e3 g2) (rH_ext e3 hH) (aiEnd_ext hK e3) (aiCut_ext hC e3)
          · split at h
            · rename_i o hs
              obtain ⟨ρ1, st1, hp1, g1, g2, g3, g4, g5⟩ := aH1_ok (d := d) hB hS hH hs
              exact J_h hd hn g3 (ih _ _ _ _ _ _ _ _ _ _ h _ hM ρ1 lv st1 hp1 Q g1 (rL_ext g2 hL) g4 g5 (aiEnd_ext hK g2) (aiCut_ext hC g2))
            · split at h
              · rename_i L hs
                have hall : ∀ q ∈ L, ∃ o, q = some o := fun q hq => by
                  have := List.all_eq_true.mp h q hq
                  cases q with
                  | none => cases this
                  | some o => exact ⟨o, rfl⟩
                obtain ⟨o, ho, ρ1, st1, hp1, g1, g2, g3, g4, g5⟩ := aF_ok (d := d) (M := M') hB hS hH hs hall
                have h1 := List.all_eq_true.mp h (some o) ho
                exact J_h hd hn g3 (ih _ _ _ _ _ _ _ _ _ _ h1 _ hM ρ1 lv st1 hp1 Q g1 (rL_ext g2 hL) g4 g5 (aiEnd_ext hK g2) (aiCut_ext hC g2))
              · split at h
                · rename_i a hs
                  obtain ⟨v, g1, g2⟩ := rAa_ok hB hS hs
                  exact J_r hd hn g1 (Nat.le_refl _) (Nat.le_refl _) (hK B ρ a v ha hp h hB ext_rf g2 hH)
                · split at h
                  · rename_i N as s hk
                    obtain ⟨av, sv, g1, g2, g3⟩ := kAa_ok hS hH hk
                    split at h
                    · rename mtL[N]? = some _ => hN
                      rw [Bool.and_eq_true, decide_eq_true_eq] at h
                      obtain ⟨hsum, h⟩ := h
                      have hcat : catB sv = true := by unfold catB; rw [cat_sum g3]; exact decide_eq_true hsum.1
                      split at h
                      · rename_i L hor
                        have C := hO _ _ _ _ _ _ _ hor hN ρ av hp hB g2 hH
                        refine J_k (c' := 0) (s' := 0) hd hn g1 hN hcat (Nat.le_refl _) (Nat.le_refl _) (Or.inl (fun v2 hp2 hq => ?_)) C (fun v2 hp2 hq => ?_)
                        · obtain ⟨o, ho, ρ1, -, -, -, e4⟩ := hq
                          have h1 := List.all_eq_true.mp h o ho
                          rw [Bool.and_eq_true, decide_eq_true_eq] at h1
                          rw [← e4.1, h1.1, hH.1]
                        · obtain ⟨o, ho, ρ1, e1, e2, e3, e4⟩ := hq
                          have h1 := List.all_eq_true.mp h o ho
                          rw [Bool.and_eq_true, decide_eq_true_eq] at h1
                          exact ih _ _ _ _ _ _ _ _ _ _ h1.2 _ hM ρ1 lv _ hp2 Q e1 (rL_ext e2 hL) (rO_list e3 (rS_ext e2 g3)) e4 (aiEnd_ext hK e2) (aiCut_ext hC e2)
                      · have j := ih _ _ _ _ _ _ _ _ _ _ h _ hN ρ _ [] hp (fun v2 hp2 => ∃ (B' : BD) (ρ' : Nat → Int) (a : Option AVa) (ha' : AHa), (decide (ha'.length = ha.length) && ai O f false cut _ k (pc + 3) B' la (a.toList ++ s) ha' K) = true ∧ okB B' ρ' ∧ ext B ρ B' ρ' ∧ rO B' ρ' a v2 ∧ rH B' ρ' ha' hp2) hB (entA_ok g2 _) trivial hH (fun B' ρ' a v ha' hp' q1 q2 q3 q4 q5 => ⟨B', ρ', a, ha', q1, q2, q3, q4, q5⟩) (fun pc chk hc => by cases hc)
                        have C := Ct_of_J (mt_ok hN).1 (fun ad => by rw [lg_len, cat_sum g2]; exact hsum.2) j
                        refine J_k (c' := 0) (s' := 0) hd hn g1 hN hcat (Nat.le_refl _) (Nat.le_refl _) (Or.inl (fun v2 hp2 hq => ?_)) C (fun v2 hp2 hq => ?_)
                        · obtain ⟨B1, ρ1, a, ha1, e0, e1, e2, e3, e4⟩ := hq
                          rw [Bool.and_eq_true, decide_eq_true_eq] at e0
                          rw [← e4.1, e0.1, hH.1]
                        · obtain ⟨B1, ρ1, a, ha1, e0, e1, e2, e3, e4⟩ := hq
                          rw [Bool.and_eq_true, decide_eq_true_eq] at e0
                          exact ih _ _ _ _ _ _ _ _ _ _ e0.2 _ hM ρ1 lv _ hp2 Q e1 (rL_ext e2 hL) (rO_list e3 (rS_ext e2 g3)) e4 (aiEnd_ext hK e2) (aiCut_ext hC e2)
                    · cases h
                  · split at h
                    · rename_i B1 n s hx
                      rw [Bool.and_eq_true, decide_eq_true_eq] at h
                      obtain ⟨ρ1, z, sv, g1, g2, g3, g4, g5⟩ := xAa_ok hB hS hx
                      have g4' : rV B1 ρ1 (.inl n) (.int z) := g4
                      exact J_x hd hn g3 (by unfold catB; rw [cat_sum g5]; exact decide_eq_true h.1.1) h.1.2 (Nat.le_refl _) (Nat.le_refl _) (ih _ _ _ _ _ _ _ _ _ _ h.2 _ hM ρ1 lv _ hp Q g1 (rL_ext g2 hL) ⟨g4', g5⟩ (rH_ext g2 hH) (aiEnd_ext hK g2) (aiCut_ext hC g2))
                    · cases h
      · cases h
/-! ===== templates: a state over names; whether another state lies within it ===== -/
def okNB (B : BD) (n : AN) : Bool := match n.1 with
  | none => true
  | some j => decide (j < B.length)
theorem okNB_ok {B : BD} {n : AN} (h : okNB B n = true) : okN B n := by
  intro j hj
  unfold okNB at h
  rw [hj] at h
  exact of_decide_eq_true h
theorem bnd_den {B : BD} {ρ : Nat → Int} (hB : okB B ρ) {n : AN} (hn : okN B n) : (bnd B n).1 ≤ den ρ n ∧ den ρ n ≤ (bnd B n).2 := by
  unfold bnd den
  cases h : n.1 with
  | none => exact ⟨Int.le_refl _, Int.le_refl _⟩
  | some j =>
    have hj := hn j h
    have := hB j B[j] (List.getElem?_eq_getElem hj)
    simp only [List.getElem?_eq_getElem hj]
    omega
def vOk (B : BD) (σ : Nat → AN) (m : Nat) (t a : AVa) : Bool := match t, a with
  | .inl (none, c), .inl n => decide ((bnd B n).1 = c) && decide ((bnd B n).2 = c)
  | .inl (some j, c), .inl n => decide (c = 0) && (decide (j < m) && decide (n = σ j))
  | .inr (.inl r), .inr (.inl q) => decide (r = q)
  | .inr (.inr none), .inr (.inr _) => true
  | .inr (.inr (some (none, c))), .inr (.inr (some n)) => decide ((bnd B n).1 = c) && decide ((bnd B n).2 = c)
  | .inr (.inr (some (some j, c))), .inr (.inr (some n)) => decide (c = 0) && (decide (j < m) && decide (n = σ j))
  | _, _ => false
def ρt (σ : Nat → AN) (ρ : Nat → Int) : Nat → Int := fun j => den ρ (σ j)
theorem vOk_ok {B Bt : BD} {ρ : Nat → Int} (hB : okB B ρ) {σ : Nat → AN} {t a : AVa} {v : Value} (h : vOk B σ Bt.length t a = true) (hv : rV B ρ a v) : rV Bt (ρt σ ρ) t v := by
  match t, a, h with
  | .inl (none, c), .inl n, h =>
    obtain ⟨x, rfl, hx⟩ := rV_int hv
    simp only [vOk, Bool.and_eq_true, decide_eq_true_eq] at h
    have := bnd_ok hB hx
    exact ⟨fun j hj => (by cases hj), by show x.toInt = c; omega⟩
  | .inl (some j, c), .inl n, h =>
    obtain ⟨x, rfl, hx⟩ := rV_int hv
    simp only [vOk, Bool.and_eq_true, decide_eq_true_eq] at h
    obtain ⟨rfl, h1, rfl⟩ := h
    refine ⟨fun k hk => by cases hk; exact h1, ?_⟩
    show x.toInt = den ρ (σ j) + 0
    rw [hx.2, Int.add_zero]
  | .inr (.inl r), .inr (.inl q), h =>
    cases rV_ref hv
    exact (of_decide_eq_true h).symm
  | .inr (.inr none), .inr (.inr o), _ =>
    obtain ⟨z, rfl, -⟩ := rV_long hv
    exact fun c hc => by cases hc
  | .inr (.inr (some (none, c))), .inr (.inr (some n)), h =>
    obtain ⟨z, rfl, hz⟩ := rV_long hv
    simp only [vOk, Bool.and_eq_true, decide_eq_true_eq] at h
    obtain ⟨h1, h2⟩ := hz n rfl
    have := bnd_den hB h1
    exact fun q hq => by cases hq; exact ⟨fun j hj => (by cases hj), by show z.toInt = c; omega⟩
  | .inr (.inr (some (some j, c))), .inr (.inr (some n)), h =>
    obtain ⟨z, rfl, hz⟩ := rV_long hv
    simp only [vOk, Bool.and_eq_true, decide_eq_true_eq] at h
    obtain ⟨rfl, h1, rfl⟩ := h
    obtain ⟨h3, h2⟩ := hz _ rfl
    exact fun q hq => by cases hq; exact ⟨fun k hk => by cases hk; exact h1, by show z.toInt = den ρ (σ j) + 0; rw [h2, Int.add_zero]⟩
def zipB {α β : Type} (f : α → β → Bool) : List α → List β → Bool
  | [], [] => true
  | a :: as, b :: bs => f a b && zipB f as bs
  | _, _ => false
theorem zipB_len {α β : Type} {f : α → β → Bool} : ∀ {as : List α} {bs : List β}, zipB f as bs = true → as.length = bs.length
  | [], [], _ => rfl
  | _ :: _, _ :: _, h => by
    simp only [zipB, Bool.and_eq_true] at h
    rw [List.length_cons, List.length_cons, zipB_len h.2]
theorem zipB_at {α β : Type} {f : α → β → Bool} : ∀ {as : List α} {bs : List β} (i : Nat) {a : α}, zipB f as bs = true → as[i]? = some a → ∃ b, bs[i]? = some b ∧ f a b = true
  | [], [], _, _, _, h => by simp at h
  | x :: as, y :: bs, i, a, h, hi => by
    simp only [zipB, Bool.and_eq_true] at h
    cases i with
    | zero => simp at hi; subst hi; exact ⟨y, rfl, h.1⟩
    | succ i =>
      rw [List.getElem?_cons_succ] at hi
      obtain ⟨b, h1, h2⟩ := zipB_at i h.2 hi
      exact ⟨b, by rw [List.getElem?_cons_succ]; exact h1, h2⟩
def lOk (B : BD) (σ : Nat → AN) (m : Nat) (t a : Option AVa) : Bool := match t, a with
  | none, _ => true
  | some t, some a => vOk B σ m t a
  | some _, none => false
theorem lOk_ok {B Bt : BD} {ρ : Nat → Int} (hB : okB B ρ) {σ : Nat → AN} {lt la : List (Option AVa)} {lv : List (Option Value)} (h : zipB (lOk B σ Bt.length) lt la = true) (hL : rL B ρ la lv) : rL Bt (ρt σ ρ) lt lv := by
  refine ⟨(zipB_len h).trans hL.1, fun i t hi => ?_⟩
  obtain ⟨a, h1, h2⟩ := zipB_at i h hi
  cases a with
  | none => cases h2
  | some a =>
    obtain ⟨v, h3, h4⟩ := hL.2 i a h1
    exact ⟨v, h3, vOk_ok hB h2 h4⟩
/-- a field: any, or as a value -/
def fldOk (B : BD) (σ : Nat → AN) (m : Nat) (t a : AVa) : Bool := isAny t || (!isAny a && vOk B σ m t a)
def cOkA (B : BD) (σ : Nat → AN) (m : Nat) (t a : ACa) : Bool := match t, a with
  | .inl (ty, n, lo, hi), .inl (ty', n', lo', hi') => decide (ty = ty') && (decide (n = n') && (decide (lo ≤ lo') && decide (hi' ≤ hi)))
  | .inl (ty, n, lo, hi), .inr (.inl (ty', ns)) => decide (ty = ty') && (decide (n = ns.length) && ns.all (fun q => decide (lo ≤ (bnd B q).1) && decide ((bnd B q).2 ≤ hi)))
  | .inr (.inl (ty, ts)), .inr (.inl (ty', ns)) => decide (ty = ty') && zipB (fun t n => vOk B σ m (.inl t) (.inl n)) ts ns
  | .inr (.inr (.inl rs)), .inr (.inr (.inl qs)) => decide (rs = qs)
  | .inr (.inr (.inr (ci, ft))), .inr (.inr (.inr (cj, fa))) => decide (ci = cj) && zipB (fldOk B σ m) ft fa
  | _, _ => false
theorem cOkA_ok {B Bt : BD} {ρ : Nat → Int} (hB : okB B ρ) {σ : Nat → AN} {t a : ACa} {x : AC} (h : cOkA B σ Bt.length t a = true) (hx : rC B ρ a x) : rC Bt (ρt σ ρ) t x := by
  match t, a, h with
  | .inl (ty, n, lo, hi), .inl (ty', n', lo', hi'), h =>
    simp only [cOkA, Bool.and_eq_true, decide_eq_true_eq] at h
    obtain ⟨rfl, rfl, h1, h2⟩ := h
    obtain ⟨xs, rfl, hl, hb⟩ := rC_sum hx
    exact ⟨rfl, hl, fun y hy => by have := hb y hy; omega⟩
  | .inl (ty, n, lo, hi), .inr (.inl (ty', ns)), h =>
    simp only [cOkA, Bool.and_eq_true, decide_eq_true_eq] at h
    obtain ⟨rfl, rfl, h1⟩ := h
    obtain ⟨xs, rfl, hl⟩ := rC_items hx
    refine ⟨rfl, hl.1.symm, fun y hy => ?_⟩
    obtain ⟨k, hk⟩ := List.getElem?_of_mem hy
    have hkl : k < ns.length := by rw [hl.1]; exact (List.getElem?_eq_some_iff.mp hk).1
    obtain ⟨z, q1, q2⟩ := hl.2 k ns[k] (List.getElem?_eq_getElem hkl)
    rw [hk] at q1
    cases q1
    have h2 := List.all_eq_true.mp h1 ns[k] (List.getElem_mem hkl)
    simp only [Bool.and_eq_true, decide_eq_true_eq] at h2
    have := bnd_ok hB q2
    omega
  | .inr (.inl (ty, ts)), .inr (.inl (ty', ns)), h =>
    simp only [cOkA, Bool.and_eq_true, decide_eq_true_eq] at h
    obtain ⟨rfl, h1⟩ := h
    obtain ⟨xs, rfl, hl⟩ := rC_items hx
    refine ⟨rfl, (zipB_len h1).trans hl.1, fun i t hi => ?_⟩
    obtain ⟨n, g1, g2⟩ := zipB_at i h1 hi
    obtain ⟨z, g3, g4⟩ := hl.2 i n g1
    have g5 : rV B ρ (.inl n) (.int z) := g4
    have g6 := vOk_ok (Bt := Bt) hB g2 g5
    exact ⟨z, g3, g6⟩
  | .inr (.inr (.inl rs)), .inr (.inr (.inl qs)), h =>
    cases rC_rows hx
    exact (of_decide_eq_true h).symm
  | .inr (.inr (.inr (ci, ft))), .inr (.inr (.inr (cj, fa))), h =>
    simp only [cOkA, Bool.and_eq_true, decide_eq_true_eq] at h
    obtain ⟨rfl, h1⟩ := h
    obtain ⟨fs, rfl, hf⟩ := rC_obj hx
    refine ⟨rfl, (zipB_len h1).trans hf.1, fun i t hi => ?_⟩
    obtain ⟨a, g1, g2⟩ := zipB_at i h1 hi
    obtain ⟨v, g3, g4⟩ := hf.2 i a g1
    refine ⟨v, g3, ?_⟩
    unfold fldOk at g2
    rw [Bool.or_eq_true, Bool.and_eq_true, Bool.not_eq_true'] at g2
    rcases g2 with q | ⟨q1, q2⟩
    · exact Or.inl q
    · exact Or.inr (vOk_ok hB q2 (g4.resolve_left (by rw [q1]; exact Bool.false_ne_true)))
theorem hOk_ok {B Bt : BD} {ρ : Nat → Int} (hB : okB B ρ) {σ : Nat → AN} {ht ha : AHa} {hp : AH} (h : zipB (cOkA B σ Bt.length) ht ha = true) (hH : rH B ρ ha hp) : rH Bt (ρt σ ρ) ht hp := by
  refine ⟨(zipB_len h).trans hH.1, fun i t hi => ?_, hH.2.2⟩
  obtain ⟨a, h1, h2⟩ := zipB_at i h hi
  obtain ⟨x, h3, h4⟩ := hH.2.1 i a h1
  exact ⟨x, h3, cOkA_ok hB h2 h4⟩
def bOk (B : BD) (σ : Nat → AN) (Bt : BD) : Bool := (List.range Bt.length).all (fun j => okNB B (σ j) && (match Bt[j]? with
  | some b => decide (b.1 ≤ (bnd B (σ j)).1) && decide ((bnd B (σ j)).2 ≤ b.2)
  | none => true))
theorem bOk_ok {B Bt : BD} {ρ : Nat → Int} (hB : okB B ρ) {σ : Nat → AN} (h : bOk B σ Bt = true) : okB Bt (ρt σ ρ) := by
  intro j b hj
  have hl : j < Bt.length := (List.getElem?_eq_some_iff.mp hj).1
  have h1 := List.all_eq_true.mp h j (List.mem_range.mpr hl)
  rw [hj] at h1
  simp only [Bool.and_eq_true, decide_eq_true_eq] at h1
  have := bnd_den hB (okNB_ok h1.1)
  unfold ρt
  omega
/-- the state lies within the template -/
def inT (Bt : BD) (lt : List (Option AVa)) (ht : AHa) (σ : Nat → AN) (B : BD) (la : List (Option AVa)) (ha : AHa) : Bool := zipB (lOk B σ Bt.length) lt la && (bOk B σ Bt && zipB (cOkA B σ Bt.length) ht ha)
theorem inT_ok {Bt B : BD} {lt la : List (Option AVa)} {ht ha : AHa} {σ : Nat → AN} {ρ : Nat → Int} (hB : okB B ρ) {lv : List (Option Value)} {hp : AH} (hL : rL B ρ la lv) (hH : rH B ρ ha hp) (h : inT Bt lt ht σ B la ha = true) : okB Bt (ρt σ ρ) ∧ rL Bt (ρt σ ρ) lt lv ∧ rH Bt (ρt σ ρ) ht hp := by
  unfold inT at h
  rw [Bool.and_eq_true, Bool.and_eq_true] at h
  exact ⟨bOk_ok hB h.2.1, lOk_ok hB h.1 hL, hOk_ok hB h.2.2 hH⟩
/-! ===== loops: heads with templates, and a measure that falls ===== -/
/-- true: the number grows; false: it falls. What falls by it lies within 0 and 2000 -/
def wgt (ρ : Nat → Int) (q : Bool × AN) : Int := if q.1 = true then 1000 - den ρ q.2 else den ρ q.2
def wgtB (B : BD) (q : Bool × AN) : Bool := okNB B q.2 && (decide (0 ≤ (bnd B q.2).1) && decide ((bnd B q.2).2 ≤ 1000))
theorem wgtB_ok {B : BD} {ρ : Nat → Int} (hB : okB B ρ) {q : Bool × AN} (h : wgtB B q = true) : 0 ≤ wgt ρ q ∧ wgt ρ q ≤ 1000 := by
  unfold wgtB at h
  simp only [Bool.and_eq_true, decide_eq_true_eq] at h
  have := bnd_den hB (okNB_ok h.1)
  unfold wgt
  split <;> omega
def mu (ρ : Nat → Int) : List (Bool × AN) → Int
  | [] => 0
  | q :: t => wgt ρ q * (2000 : Int) ^ t.length + mu ρ t
theorem mu_lt {B : BD} {ρ : Nat → Int} (hB : okB B ρ) : ∀ {l : List (Bool × AN)}, l.all (wgtB B) = true → 0 ≤ mu ρ l ∧ mu ρ l < (2000 : Int) ^ l.length
  | [], _ => ⟨Int.le_refl _, by show (0 : Int) < 1; omega⟩
  | q :: t, h => by
    rw [List.all_cons, Bool.and_eq_true] at h
    obtain ⟨h1, h2⟩ := wgtB_ok hB h.1
    obtain ⟨h3, h4⟩ := mu_lt hB h.2
    have hp : (0 : Int) < (2000 : Int) ^ t.length := Int.pow_pos (by omega)
    refine ⟨Int.add_nonneg (Int.mul_nonneg h1 (Int.le_of_lt hp)) h3, ?_⟩
    show wgt ρ q * (2000 : Int) ^ t.length + mu ρ t < (2000 : Int) ^ (t.length + 1)
    rw [Int.pow_succ]
    have : wgt ρ q * (2000 : Int) ^ t.length ≤ 1000 * (2000 : Int) ^ t.length := Int.mul_le_mul_of_nonneg_right h2 (Int.le_of_lt hp)
    omega
/-- b's weight is less than a's for sure -/
def wLess (B : BD) (a b : Bool × AN) : Bool := decide (a.1 = b.1) && (if a.1 = true then decide (a.2.1 = b.2.1 ∧ a.2.2 < b.2.2) || decide ((bnd B a.2).2 < (bnd B b.2).1) else decide (a.2.1 = b.2.1 ∧ b.2.2 < a.2.2) || decide ((bnd B b.2).2 < (bnd B a.2).1))
theorem wLess_ok {B : BD} {ρ : Nat → Int} (hB : okB B ρ) {a b : Bool × AN} (ha : okN B a.2) (hb : okN B b.2) (h : wLess B a b = true) : wgt ρ b < wgt ρ a := by
  unfold wLess at h
  rw [Bool.and_eq_true, decide_eq_true_eq] at h
  obtain ⟨e, h⟩ := h
  have h1 := bnd_den hB ha
  have h2 := bnd_den hB hb
  have hd : a.2.1 = b.2.1 → den ρ b.2 - den ρ a.2 = b.2.2 - a.2.2 := fun q => by
    unfold den
    rw [q]
    cases b.2.1 <;> simp only <;> omega
  unfold wgt
  rw [← e]
  split at h
  · rename_i ht
    rw [if_pos ht, if_pos ht]
    rw [Bool.or_eq_true, decide_eq_true_eq, decide_eq_true_eq] at h
    rcases h with ⟨q1, q2⟩ | h
    · have := hd q1; omega
    · omega
  · rename_i ht
    rw [if_neg ht, if_neg ht]
    rw [Bool.or_eq_true, decide_eq_true_eq, decide_eq_true_eq] at h
    rcases h with ⟨q1, q2⟩ | h
    · have := hd q1; omega
    · omega
/-- alike for sure -/
def wSame (B : BD) (a b : Bool × AN) : Bool := decide (a = b) || (decide (a.1 = b.1) && (decide ((bnd B a.2).1 = (bnd B a.2).2) && (decide ((bnd B b.2).1 = (bnd B b.2).2) && decide ((bnd B a.2).1 = (bnd B b.2).1))))
theorem wSame_ok {B : BD} {ρ : Nat → Int} (hB : okB B ρ) {a b : Bool × AN} (ha : okN B a.2) (hb : okN B b.2) (h : wSame B a b = true) : wgt ρ b = wgt ρ a := by
  unfold wSame at h
  simp only [Bool.or_eq_true, Bool.and_eq_true, decide_eq_true_eq] at h
  have h1 := bnd_den hB ha
  have h2 := bnd_den hB hb
  rcases h with rfl | ⟨q1, q2, q3, q4⟩
  · rfl
  · have : den ρ a.2 = den ρ b.2 := by omega
    unfold wgt
    rw [this, q1]
def lexB (B : BD) : List (Bool × AN) → List (Bool × AN) → Bool
  | a :: as, b :: bs => wgtB B a && (wgtB B b && (as.all (wgtB B) && (bs.all (wgtB B) && (decide (as.length = bs.length) && (wLess B a b || (wSame B a b && lexB B as bs))))))
  | _, _ => false
theorem lexB_ok {B : BD} {ρ : Nat → Int} (hB : okB B ρ) : ∀ {as bs : List (Bool × AN)}, lexB B as bs = true → mu ρ bs < mu ρ as ∧ 0 ≤ mu ρ bs
  | a :: as, b :: bs, h => by
    simp only [lexB, Bool.and_eq_true, decide_eq_true_eq, Bool.or_eq_true] at h
    obtain ⟨w1, w2, a1, a2, hl, h⟩ := h
    have m1 := mu_lt hB a1
    have m2 := mu_lt hB a2
    have v2 := wgtB_ok hB w2
    have hp : (0 : Int) < (2000 : Int) ^ bs.length := Int.pow_pos (by omega)
    have n2 : 0 ≤ wgt ρ b * (2000 : Int) ^ bs.length := Int.mul_nonneg v2.1 (Int.le_of_lt hp)
    refine ⟨?_, by show 0 ≤ wgt ρ b * (2000 : Int) ^ bs.length + mu ρ bs; omega⟩
    show wgt ρ b * (2000 : Int) ^ bs.length + mu ρ bs < wgt ρ a * (2000 : Int) ^ as.length + mu ρ as
    rw [hl]
    have okA : okN B a.2 := by unfold wgtB at w1; rw [Bool.and_eq_true] at w1; exact okNB_ok w1.1
    have okB2 : okN B b.2 := by unfold wgtB at w2; rw [Bool.and_eq_true] at w2; exact okNB_ok w2.1
    rcases h with h | ⟨h0, h⟩
    · have hw := wLess_ok hB okA okB2 h
      have h5 : (wgt ρ b + 1) * (2000 : Int) ^ bs.length ≤ wgt ρ a * (2000 : Int) ^ bs.length := Int.mul_le_mul_of_nonneg_right (by omega) (Int.le_of_lt hp)
      rw [Int.add_mul, Int.one_mul] at h5
      omega
    · have h6 := lexB_ok hB h
      rw [wSame_ok hB okA okB2 h0]
      omega
/-- a loop's head: its pc, its template (bounds, locals, heap), its measure -/
abbrev HD : Type := Nat × BD × List (Option AVa) × AHa × List (Bool × AN)
def colV (t a : AVa) : List (Nat × AN) := match t, a with
  | .inl (some j, _), .inl n => [(j, n)]
  | .inr (.inr (some (some j, _))), .inr (.inr (some n)) => [(j, n)]
  | _, _ => []
def colZ {α β : Type} (f : α → β → List (Nat × AN)) : List α → List β → List (Nat × AN)
  | a :: as, b :: bs => f a b ++ colZ f as bs
  | _, _ => []
def colO (t a : Option AVa) : List (Nat × AN) := match t, a with
  | some t, some a => colV t a
  | _, _ => []
def colC (t a : ACa) : List (Nat × AN) := match t, a with
  | .inr (.inl (_, ts)), .inr (.inl (_, ns)) => colZ (fun t n => colV (.inl t) (.inl n)) ts ns
  | .inr (.inr (.inr (_, ft))), .inr (.inr (.inr (_, fa))) => colZ colV ft fa
  | _, _ => []
def sgm (lt la : List (Option AVa)) (ht ha : AHa) : Nat → AN := fun j => ((colZ colO lt la ++ colZ colC ht ha).lookup j).getD (none, 0)
def subM (σ : Nat → AN) (q : Bool × AN) : Bool × AN := (q.1, match q.2.1 with
  | none => q.2
  | some j => ((σ j).1, (σ j).2 + q.2.2))
theorem subM_den (σ : Nat → AN) (ρ : Nat → Int) (q : Bool × AN) : wgt ρ (subM σ q) = wgt (ρt σ ρ) q := by
  have : den ρ (subM σ q).2 = den (ρt σ ρ) q.2 := by
    unfold subM
    unfold den ρt
    cases h : q.2.1 with
    | none => simp only [h]
    | some j =>
      simp only
      unfold den
      cases (σ j).1 <;> simp only <;> omega
  unfold wgt
  rw [this]
  rfl
theorem subM_mu (σ : Nat → AN) (ρ : Nat → Int) : ∀ l : List (Bool × AN), mu ρ (l.map (subM σ)) = mu (ρt σ ρ) l
  | [] => rfl
  | q :: t => by
    rw [List.map_cons]
    show wgt ρ (subM σ q) * (2000 : Int) ^ (t.map (subM σ)).length + mu ρ (t.map (subM σ)) = wgt (ρt σ ρ) q * (2000 : Int) ^ t.length + mu (ρt σ ρ) t
    rw [subM_den, subM_mu σ ρ t, List.length_map]
theorem mu_ext {B B' : BD} {ρ ρ' : Nat → Int} (e : ext B ρ B' ρ') : ∀ {l : List (Bool × AN)}, l.all (wgtB B) = true → mu ρ' l = mu ρ l
  | [], _ => rfl
  | q :: t, h => by
    rw [List.all_cons, Bool.and_eq_true] at h
    have hq : okN B q.2 := by
      have := h.1
      unfold wgtB at this
      rw [Bool.and_eq_true] at this
      exact okNB_ok this.1
    have hd : den ρ' q.2 = den ρ q.2 := by
      unfold den
      cases hn : q.2.1 with
      | none => rfl
      | some j => simp only; rw [e.2 j (hq j hn)]
    show wgt ρ' q * _ + mu ρ' t = wgt ρ q * _ + mu ρ t
    rw [mu_ext e h.2]
    unfold wgt
    rw [hd]
/-- the first p names stand for themselves -/
def sgp (p : Nat) (σ : Nat → AN) : Nat → AN := fun j => if j < p then (some j, 0) else σ j
def rig (p : Nat) (σ : Nat → AN) : Bool := (List.range p).all (fun j => decide (σ j = (some j, 0)))
def hcut (H : List HD) (p : Nat) (i : HD) : CUT := fun pc => if H.any (fun q => q.1 == pc) = true then some (fun B la ha => H.any (fun q => q.1 == pc && (inT q.2.1 q.2.2.1 q.2.2.2.1 (sgp p (sgm q.2.2.1 la q.2.2.2.1 ha)) B la ha && (rig p (sgp p (sgm q.2.2.1 la q.2.2.2.1 ha)) && lexB B i.2.2.2.2 (q.2.2.2.2.map (subM (sgp p (sgm q.2.2.1 la q.2.2.2.1 ha)))))))) else none
/-- every head of a method, from every state within its template -/
theorem loops {O : ORA} (hO : oraOk O) {k d f p : Nat} {M : MT} (hM : mtL[k]? = some M) (H : List HD) (K : KT) (r : Nat → Int) (Q : Option Value → AH → Prop) (hlen : ∀ q ∈ H, p ≤ q.2.1.length) (hmu : ∀ q ∈ H, q.2.2.2.2.all (wgtB q.2.1) = true)
    (hai : ∀ q ∈ H, ai O f true (hcut H p q) d k q.1 q.2.1 q.2.2.1 [] q.2.2.2.1 K = true) (hQ : ∀ q ∈ H, ∀ ρ : Nat → Int, (∀ j, j < p → ρ j = r j) → aiEnd K q.2.1 ρ Q) :
    ∀ (n : Nat) (q : HD), q ∈ H → ∀ (ρ : Nat → Int) (lv : List (Option Value)) (hp : AH), mu ρ q.2.2.2.2 < n → okB q.2.1 ρ → (∀ j, j < p → ρ j = r j) → rL q.2.1 ρ q.2.2.1 lv → rH q.2.1 ρ q.2.2.2.1 hp → J M d 0 0 Q q.1 lv [] hp 0 0 := by
  intro n
  induction n with
  | zero =>
    intro q hq ρ lv hp hn hB
    have := mu_lt hB (hmu q hq)
    exact absurd hn (by omega)
  | succ n ih =>
    intro q hq ρ lv hp hn hB hr hL hH
    refine ai_ok hO f true (hcut H p q) d k q.1 q.2.1 q.2.2.1 [] q.2.2.2.1 K (hai q hq) M hM ρ lv [] hp Q hB hL trivial hH (hQ q hq ρ hr) ?_
    intro pc chk hc B' ρ' la' lv' ha' hp' h1 hB' he hL' hH'
    unfold hcut at hc
    split at hc
    · cases hc
      obtain ⟨q', hm, h1⟩ := List.any_eq_true.mp h1
      simp only [Bool.and_eq_true, beq_iff_eq] at h1
      obtain ⟨hpc, i1, i2, i3⟩ := h1
      obtain ⟨o1, o2, o3⟩ := inT_ok hB' hL' hH' i1
      rw [← hpc]
      refine ih q' hm _ lv' hp' ?_ o1 (fun j hj => ?_) o2 o3
      · have h5 := lexB_ok hB' i3
        rw [subM_mu, mu_ext he (hmu q hq)] at h5
        omega
      · have h6 := of_decide_eq_true (List.all_eq_true.mp i2 j (List.mem_range.mpr hj))
        unfold ρt
        rw [h6]
        show ρ' j + 0 = r j
        rw [Int.add_zero, he.2 j (Nat.lt_of_lt_of_le hj (hlen q hq)), hr j hj]
    · cases hc
/-! ===== a method with loops, from its entry ===== -/
def hcut0 (H : List HD) (p : Nat) : CUT := fun pc => if H.any (fun q => q.1 == pc) = true then some (fun B la ha => H.any (fun q => q.1 == pc && (inT q.2.1 q.2.2.1 q.2.2.2.1 (sgp p (sgm q.2.2.1 la q.2.2.2.1 ha)) B la ha && rig p (sgp p (sgm q.2.2.1 la q.2.2.2.1 ha))))) else none
theorem meth {O : ORA} (hO : oraOk O) {k d f p : Nat} {M : MT} (hM : mtL[k]? = some M) (H : List HD) (K : KT) (r : Nat → Int) (Q : Option Value → AH → Prop) (hlen : ∀ q ∈ H, p ≤ q.2.1.length) (hmu : ∀ q ∈ H, q.2.2.2.2.all (wgtB q.2.1) = true)
    (hai : ∀ q ∈ H, ai O f true (hcut H p q) d k q.1 q.2.1 q.2.2.1 [] q.2.2.2.1 K = true) (hQ : ∀ q ∈ H, ∀ ρ : Nat → Int, (∀ j, j < p → ρ j = r j) → aiEnd K q.2.1 ρ Q)
    {B0 : BD} {as : List AVa} {ha : AHa} (hp0 : p ≤ B0.length) (hent : ai O f true (hcut0 H p) d k 0 B0 (entA as M.ml) [] ha K = true) (hsum : (as.map catA).sum ≤ M.ml)
    {ρ : Nat → Int} {av : List Value} {hp : AH} (hB : okB B0 ρ) (hr : ∀ j, j < p → ρ j = r j) (hS : rS B0 ρ as av) (hH : rH B0 ρ ha hp) (hQ0 : aiEnd K B0 ρ Q) : Ct M d 0 0 av hp Q := by
  refine Ct_of_J (mt_ok hM).1 (fun ad => by rw [lg_len, cat_sum hS]; exact hsum) ?_
  refine ai_ok hO f true (hcut0 H p) d k 0 B0 (entA as M.ml) [] ha K hent M hM ρ _ [] hp Q hB (entA_ok hS _) trivial hH hQ0 ?_
  intro pc chk hc B' ρ' la' lv' ha' hp' h1 hB' he hL' hH'
  unfold hcut0 at hc
  split at hc
  · cases hc
    obtain ⟨q, hm, h1⟩ := List.any_eq_true.mp h1
    simp only [Bool.and_eq_true, beq_iff_eq] at h1
    obtain ⟨hpc, i1, i2⟩ := h1
    obtain ⟨o1, o2, o3⟩ := inT_ok hB' hL' hH' i1
    rw [← hpc]
    refine loops hO hM H K r Q hlen hmu hai hQ ((mu (ρt (sgp p (sgm q.2.2.1 la' q.2.2.2.1 ha')) ρ') q.2.2.2.2).toNat + 1) q hm _ lv' hp' ?_ o1 (fun j hj => ?_) o2 o3
    · have := mu_lt o1 (hmu q hm)
      omega
    · have h6 := of_decide_eq_true (List.all_eq_true.mp i2 j (List.mem_range.mpr hj))
      unfold ρt
      rw [h6]
      show ρ' j + 0 = r j
      rw [Int.add_zero, he.2 j (Nat.lt_of_lt_of_le hj hp0), hr j hj]
  · cases hc
/-! a contract with less room serves where there is more; and with a weaker end -/
theorem Ct_deep {M : MT} {d d' mc ms : Nat} {as : List Value} {hp : AH} {Q : Option Value → AH → Prop} (h : Ct M d mc ms as hp Q) (hd : d ≤ d') : Ct M d' mc ms as hp Q := by
  intro l D cA ad sz hl p e ha hc hk s m args below hf happ hP hK
  refine h l D cA ad sz hl p e ha hc hk s m args below hf ?_ hP hK
  unfold Spec.appliesLoose at happ ⊢
  rw [hf] at happ ⊢
  simp only [Bool.and_eq_true] at happ ⊢
  refine ⟨⟨happ.1.1, hasRoom_mono ?_ ?_ ?_ ?_ happ.1.2⟩, happ.2⟩
  · exact hd
  · show 39 * d ≤ 39 * d'
    omega
  · exact Nat.le_refl _
  · exact Nat.le_refl _
theorem Ct_weak {M : MT} {d mc ms : Nat} {as : List Value} {hp : AH} {Q Q2 : Option Value → AH → Prop} (h : Ct M d mc ms as hp Q) (hq : ∀ v hp', Q v hp' → Q2 v hp') : Ct M d mc ms as hp Q2 := by
  intro l D cA ad sz hl p e ha hc hk s m args below hf happ hP hK
  obtain ⟨n, o, h1, h2, h3, h4, h5⟩ := h l D cA ad sz hl p e ha hc hk s m args below hf happ hP hK
  refine ⟨n, o, h1, h2, h3, ?_, h5⟩
  obtain ⟨⟨v, hp', x, g1, g2, g3⟩, g4⟩ := h4
  exact ⟨⟨v, hp', x, g1, hq v hp' g2, g3⟩, g4⟩
/-! ===== contracts as an oracle ===== -/
/-- method, depth; before: bounds, arguments, heap; behind: alternatives, each with bounds of the names of before and of new ones, answer, heap -/
abbrev CTR : Type := Nat × Nat × BD × List AVa × AHa × List (BD × Option AVa × AHa)
def ctrOk (c : CTR) : Prop := ∀ (NM : MT), mtL[c.1]? = some NM → ∀ (ρ : Nat → Int) (av : List Value) (hp : AH), okB c.2.2.1 ρ → rS c.2.2.1 ρ c.2.2.2.1 av → rH c.2.2.1 ρ c.2.2.2.2.1 hp → Ct NM c.2.1 0 0 av hp (fun v hp' => ∃ o ∈ c.2.2.2.2.2, ∃ ρ', okB o.1 ρ' ∧ ext c.2.2.1 ρ o.1 ρ' ∧ rO o.1 ρ' o.2.1 v ∧ rH o.1 ρ' o.2.2 hp')
def sbN (τ : Nat → AN) (n : AN) : AN := match n.1 with
  | none => n
  | some j => ((τ j).1, (τ j).2 + n.2)
def sbV (τ : Nat → AN) (a : AVa) : AVa := match a with
  | .inl n => .inl (sbN τ n)
  | .inr (.inl r) => .inr (.inl r)
  | .inr (.inr o) => .inr (.inr (o.map (sbN τ)))
def sbC (τ : Nat → AN) (c : ACa) : ACa := match c with
  | .inl q => .inl q
  | .inr (.inl (ty, ns)) => .inr (.inl (ty, ns.map (sbN τ)))
  | .inr (.inr (.inl rs)) => .inr (.inr (.inl rs))
  | .inr (.inr (.inr (ci, fa))) => .inr (.inr (.inr (ci, fa.map (sbV τ))))
/-- names by τ: each stands for the same number -/
def sbOk (B1 : BD) (r1 : Nat → Int) (B2 : BD) (r2 : Nat → Int) (τ : Nat → AN) : Prop := ∀ j, j < B1.length → okN B2 (τ j) ∧ den r2 (τ j) = r1 j
section SB
variable {B1 B2 : BD} {r1 r2 : Nat → Int} {τ : Nat → AN}
theorem sbN_ok (h : sbOk B1 r1 B2 r2 τ) {n : AN} {x : Int32} (hn : rN B1 r1 n x) : rN B2 r2 (sbN τ n) x := by
  unfold sbN
  cases e : n.1 with
  | none =>
    refine ⟨fun j hj => (by rw [e] at hj; cases hj), ?_⟩
    have := hn.2
    unfold den at this ⊢
    rw [e] at this ⊢
    exact this
  | some j =>
    obtain ⟨g1, g2⟩ := h j (hn.1 j e)
    refine ⟨fun k hk => g1 k hk, ?_⟩
    have := hn.2
    unfold den at this
    rw [e] at this
    simp only at this
    rw [this, ← g2]
    unfold den
    cases (τ j).1 <;> simp only <;> omega
theorem sbV_ok (h : sbOk B1 r1 B2 r2 τ) {a : AVa} {v : Value} (hv : rV B1 r1 a v) : rV B2 r2 (sbV τ a) v := by
  match a, v, hv with
  | .inl n, .int x, hv => exact sbN_ok h hv
  | .inr (.inl r), .ref q, hv => exact hv
  | .inr (.inr o), .long z, hv =>
    intro n hn
    obtain ⟨m, hm, rfl⟩ := Option.map_eq_some_iff.mp hn
    obtain ⟨h1, h2⟩ := hv m hm
    unfold sbN
    cases e : m.1 with
    | none =>
      refine ⟨fun j hj => (by rw [e] at hj; cases hj), ?_⟩
      unfold den at h2 ⊢
      rw [e] at h2 ⊢
      exact h2
    | some j =>
      obtain ⟨g1, g2⟩ := h j (h1 j e)
      refine ⟨fun k hk => g1 k hk, ?_⟩
      unfold den at h2
      rw [e] at h2
      simp only at h2
      rw [h2, ← g2]
      unfold den
      cases (τ j).1 <;> simp only <;> omega
theorem sbC_ok (h : sbOk B1 r1 B2 r2 τ) {a : ACa} {x : AC} (hx : rC B1 r1 a x) : rC B2 r2 (sbC τ a) x := by
  match a, x, hx with
  | .inl (ty, n, lo, hi), .inl (ty', xs), hx => exact hx
  | .inr (.inl (ty, ns)), .inl (ty', xs), hx =>
    refine ⟨hx.1, by rw [List.length_map]; exact hx.2.1, fun i n hi => ?_⟩
    rw [List.getElem?_map] at hi
    obtain ⟨m, hm, rfl⟩ := Option.map_eq_some_iff.mp hi
    obtain ⟨z, q1, q2⟩ := hx.2.2 i m hm
    exact ⟨z, q1, sbN_ok h q2⟩
  | .inr (.inr (.inl rs)), .inr (.inl qs), hx => exact hx
  | .inr (.inr (.inr (ci, fa))), .inr (.inr (cj, fs)), hx =>
    refine ⟨hx.1, by rw [List.length_map]; exact hx.2.1, fun i a hi => ?_⟩
    rw [List.getElem?_map] at hi
    obtain ⟨m, hm, rfl⟩ := Option.map_eq_some_iff.mp hi
    obtain ⟨z, q1, q2⟩ := hx.2.2 i m hm
    refine ⟨z, q1, ?_⟩
    rcases q2 with q2 | q2
    · left
      match m, q2 with
      | .inr (.inl r), q2 => exact q2
    · exact Or.inr (sbV_ok h q2)
theorem sbH_ok (h : sbOk B1 r1 B2 r2 τ) {ha : AHa} {hp : AH} (hH : rH B1 r1 ha hp) : rH B2 r2 (ha.map (sbC τ)) hp := by
  refine ⟨by rw [List.length_map]; exact hH.1, fun i a hi => ?_, hH.2.2⟩
  rw [List.getElem?_map] at hi
  obtain ⟨m, hm, rfl⟩ := Option.map_eq_some_iff.mp hi
  obtain ⟨z, q1, q2⟩ := hH.2.1 i m hm
  exact ⟨z, q1, sbC_ok h q2⟩
end SB
def inTa (Bt : BD) (ts : List AVa) (ht : AHa) (σ : Nat → AN) (B : BD) (as : List AVa) (ha : AHa) : Bool := bOk B σ Bt && (zipB (vOk B σ Bt.length) ts as && zipB (cOkA B σ Bt.length) ht ha)
theorem zip_rS {B Bt : BD} {ρ : Nat → Int} (hB : okB B ρ) {σ : Nat → AN} : ∀ {ts as : List AVa} {vs : List Value}, zipB (vOk B σ Bt.length) ts as = true → rS B ρ as vs → rS Bt (ρt σ ρ) ts vs
  | [], [], [], _, _ => trivial
  | t :: ts, a :: as, v :: vs, h, hS => by
    simp only [zipB, Bool.and_eq_true] at h
    exact ⟨vOk_ok hB h.1 hS.1, zip_rS hB h.2 hS.2⟩
  | [], [], _ :: _, _, hS => hS.elim
  | _ :: _, _ :: _, [], _, hS => hS.elim
theorem narH_den {B : BD} {ρ : Nat → Int} (hB : okB B ρ) {n : AN} {hi : Int} (h1 : den ρ n ≤ hi) : okB (narH B n hi) ρ := by
  unfold narH
  unfold den at h1
  split
  · exact hB
  · rename_i j hj
    rw [hj] at h1
    split
    · rename_i b hb
      have := hB j b hb
      refine set_okB hB ?_
      simp only at h1 ⊢
      omega
    · exact hB
theorem narL_den {B : BD} {ρ : Nat → Int} (hB : okB B ρ) {n : AN} {lo : Int} (h1 : lo ≤ den ρ n) : okB (narL B n lo) ρ := by
  unfold narL
  unfold den at h1
  split
  · exact hB
  · rename_i j hj
    rw [hj] at h1
    split
    · rename_i b hb
      have := hB j b hb
      refine set_okB hB ?_
      simp only at h1 ⊢
      omega
    · exact hB
/-- what a contract's end says of the names of before -/
def nrw (σ : Nat → AN) : Nat → BD → BD → BD → BD
  | j, b :: Bt, q :: Bp, B => nrw σ (j + 1) Bt Bp (if b = q then B else narL (narH B (σ j) q.2) (σ j) q.1)
  | _, _, _, B => B
theorem nrw_ok {σ : Nat → AN} {ρ : Nat → Int} : ∀ {Bt Bp B : BD} {j : Nat}, okB B ρ → (∀ i q, i < Bt.length → Bp[i]? = some q → q.1 ≤ den ρ (σ (j + i)) ∧ den ρ (σ (j + i)) ≤ q.2) → okB (nrw σ j Bt Bp B) ρ ∧ (nrw σ j Bt Bp B).length = B.length
  | [], _, _, _, hB, _ => by unfold nrw; exact ⟨hB, rfl⟩
  | _ :: _, [], _, _, hB, _ => by unfold nrw; exact ⟨hB, rfl⟩
  | b :: Bt, q :: Bp, B, j, hB, h => by
    unfold nrw
    have h0 := h 0 q (by rw [List.length_cons]; omega) rfl
    rw [Nat.add_zero] at h0
    have hn : ∀ i q', i < Bt.length → Bp[i]? = some q' → q'.1 ≤ den ρ (σ (j + 1 + i)) ∧ den ρ (σ (j + 1 + i)) ≤ q'.2 := fun i q' h1 h2 => by
      have := h (i + 1) q' (by rw [List.length_cons]; omega) (by rw [List.getElem?_cons_succ]; exact h2)
      rw [show j + 1 + i = j + (i + 1) by omega]
      exact this
    split
    · exact nrw_ok hB hn
    · have h1 := nrw_ok (Bt := Bt) (Bp := Bp) (narL_den (narH_den hB h0.2) h0.1) hn
      exact ⟨h1.1, h1.2.trans (by rw [narL_len, narH_len])⟩
def tauC (p : Nat) (σ : Nat → AN) (n : Nat) : Nat → AN := fun j => if j < p then σ j else (some (n + (j - p)), 0)
def sgA (ts as : List AVa) (ht ha : AHa) : Nat → AN := fun j => ((colZ colV ts as ++ colZ colC ht ha).lookup j).getD (none, 0)
def oraL (L : List CTR) : ORA := fun d N B as ha => match L.find? (fun c => c.1 == N && (decide (c.2.1 ≤ d) && inTa c.2.2.1 c.2.2.2.1 c.2.2.2.2.1 (sgA c.2.2.2.1 as c.2.2.2.2.1 ha) B as ha)) with
  | some c => some (c.2.2.2.2.2.map (fun o => (nrw (sgA c.2.2.2.1 as c.2.2.2.2.1 ha) 0 c.2.2.1 o.1 B ++ o.1.drop c.2.2.1.length, o.2.1.map (sbV (tauC c.2.2.1.length (sgA c.2.2.2.1 as c.2.2.2.2.1 ha) B.length)), o.2.2.map (sbC (tauC c.2.2.1.length (sgA c.2.2.2.1 as c.2.2.2.2.1 ha) B.length)))))
  | none => none
theorem oraL_ok {L : List CTR} (hL : ∀ c ∈ L, ctrOk c) : oraOk (oraL L) := by
  intro d N NM B as ha L2 h hN ρ av hp hB hS hH
  unfold oraL at h
  split at h
  · rename_i c hf
    have hm := List.mem_of_find?_eq_some hf
    have hfs := List.find?_some hf
    simp only [Bool.and_eq_true, beq_iff_eq, decide_eq_true_eq] at hfs
    obtain ⟨hcN, hd, hin⟩ := hfs
    · cases h
      generalize hσ : sgA c.2.2.2.1 as c.2.2.2.2.1 ha = σ at hin ⊢
      unfold inTa at hin
      rw [Bool.and_eq_true, Bool.and_eq_true] at hin
      obtain ⟨i1, i2, i3⟩ := hin
      have C := hL c hm NM (by rw [hcN]; exact hN) (ρt σ ρ) av hp (bOk_ok hB i1) (zip_rS hB i2 hS) (hOk_ok hB i3 hH)
      refine Ct_weak (Ct_deep C hd) (fun v hp' hq => ?_)
      obtain ⟨o, ho, r', g1, g2, g3, g4⟩ := hq
      obtain ⟨n1, n2⟩ := nrw_ok (σ := σ) (ρ := ρ) (Bt := c.2.2.1) (Bp := o.1) (B := B) (j := 0) hB (fun i q hi hq => by
        have := g1 i q hq
        rw [g2.2 i hi] at this
        rw [Nat.zero_add]
        exact this)
      refine ⟨_, List.mem_map_of_mem ho, fun k => if k < B.length then ρ k else r' (c.2.2.1.length + (k - B.length)), ?_, ⟨by show _ ≤ (_ ++ _ : BD).length; rw [List.length_append, n2]; omega, fun j hj => if_pos hj⟩, ?_⟩
      · intro k b hk
        simp only at hk
        by_cases hl : k < B.length
        · rw [List.getElem?_append_left (by rw [n2]; exact hl)] at hk
          simp only [if_pos hl]
          exact n1 k b hk
        · rw [List.getElem?_append_right (by rw [n2]; omega), n2, List.getElem?_drop] at hk
          simp only [if_neg hl]
          exact g1 _ b hk
      · have hsb : sbOk o.1 r' (nrw σ 0 c.2.2.1 o.1 B ++ o.1.drop c.2.2.1.length) (fun k => if k < B.length then ρ k else r' (c.2.2.1.length + (k - B.length))) (tauC c.2.2.1.length σ B.length) := by
          intro j hj
          unfold tauC
          by_cases hl : j < c.2.2.1.length
          · rw [if_pos hl]
            have h7 := List.all_eq_true.mp i1 j (List.mem_range.mpr hl)
            rw [Bool.and_eq_true] at h7
            have hok := okNB_ok h7.1
            refine ⟨fun k hk => by have := hok k hk; rw [List.length_append, n2]; omega, ?_⟩
            rw [g2.2 j hl]
            show _ = den ρ (σ j)
            unfold den
            cases e : (σ j).1 with
            | none => rfl
            | some k => simp only; rw [if_pos (hok k e)]
          · rw [if_neg hl]
            refine ⟨fun k hk => by cases hk; rw [List.length_append, n2, List.length_drop]; omega, ?_⟩
            show (if B.length + (j - c.2.2.1.length) < B.length then _ else _) + 0 = r' j
            rw [if_neg (by omega), Int.add_zero]
            congr 1
            omega
        refine ⟨?_, sbH_ok hsb g4⟩
        generalize o.2.1 = ra at g3
        match ra, v, g3 with
        | none, none, _ => exact trivial
        | some q, some w, g3 => exact sbV_ok hsb g3
  · cases h
/-! ===== a contract out of a method's evaluation ===== -/
def colP (t a : Option AVa) : List (Nat × AN) := match t, a with
  | some t, some a => colV t a
  | _, _ => []
def sgO (p : Nat) (o : BD × Option AVa × AHa) (a : Option AVa) (ha : AHa) : Nat → AN := sgp p (fun j => ((colP o.2.1 a ++ colZ colC o.2.2 ha).lookup j).getD (none, 0))
def vOkO (B : BD) (σ : Nat → AN) (m : Nat) (t a : Option AVa) : Bool := match t, a with
  | none, none => true
  | some t, some a' => vOk B σ m t a'
  | _, _ => false
def kC (c : CTR) : KT := fun B a ha => c.2.2.2.2.2.any (fun o => bOk B (sgO c.2.2.1.length o a ha) o.1 && (vOkO B (sgO c.2.2.1.length o a ha) o.1.length o.2.1 a && zipB (cOkA B (sgO c.2.2.1.length o a ha) o.1.length) o.2.2 ha))
def qC (c : CTR) (r : Nat → Int) : Option Value → AH → Prop := fun v hp' => ∃ o ∈ c.2.2.2.2.2, ∃ ρ', okB o.1 ρ' ∧ (∀ j, j < c.2.2.1.length → ρ' j = r j) ∧ rO o.1 ρ' o.2.1 v ∧ rH o.1 ρ' o.2.2 hp'
theorem kC_end (c : CTR) {Bt : BD} {ρ r : Nat → Int} (hl : c.2.2.1.length ≤ Bt.length) (hr : ∀ j, j < c.2.2.1.length → ρ j = r j) : aiEnd (kC c) Bt ρ (qC c r) := by
  intro B' ρ' a v ha' hp' h hB' he hO hH
  unfold kC at h
  obtain ⟨o, ho, h⟩ := List.any_eq_true.mp h
  rw [Bool.and_eq_true, Bool.and_eq_true] at h
  obtain ⟨h1, h2, h3⟩ := h
  refine ⟨o, ho, ρt (sgO c.2.2.1.length o a ha') ρ', bOk_ok hB' h1, fun j hj => ?_, ?_, hOk_ok hB' h3 hH⟩
  · unfold ρt sgO sgp
    rw [if_pos hj]
    show ρ' j + 0 = r j
    rw [Int.add_zero, he.2 j (by omega), hr j hj]
  · unfold vOkO at h2
    generalize sgO c.2.2.1.length o a ha' = σ at h2 ⊢
    generalize o.2.1 = t at h2 ⊢
    match t, a, v, hO, h2 with
    | none, none, none, _, _ => exact trivial
    | some t, some a', some w, hO, h2 => exact vOk_ok hB' h2 hO
theorem ctr_of {O : ORA} (hO : oraOk O) (c : CTR) {f : Nat} {M : MT} (hM : mtL[c.1]? = some M) (H : List HD) (hlen : ∀ q ∈ H, c.2.2.1.length ≤ q.2.1.length) (hmu : ∀ q ∈ H, q.2.2.2.2.all (wgtB q.2.1) = true)
    (hai : ∀ q ∈ H, ai O f true (hcut H c.2.2.1.length q) c.2.1 c.1 q.1 q.2.1 q.2.2.1 [] q.2.2.2.1 (kC c) = true) (hent : ai O f true (hcut0 H c.2.2.1.length) c.2.1 c.1 0 c.2.2.1 (entA c.2.2.2.1 M.ml) [] c.2.2.2.2.1 (kC c) = true) (hsum : (c.2.2.2.1.map catA).sum ≤ M.ml) (hpo : c.2.2.2.2.2.all (fun o => decide (c.2.2.1.length ≤ o.1.length)) = true) : ctrOk c := by
  intro NM hN ρ av hp hB hS hH
  rw [hM] at hN
  cases hN
  have C := meth hO hM H (kC c) ρ (qC c ρ) hlen hmu hai (fun q hq ρ1 hr => kC_end c (hlen q hq) hr) (Nat.le_refl _) hent hsum hB (fun _ _ => rfl) hS hH (kC_end c (Nat.le_refl _) (fun _ _ => rfl))
  refine Ct_weak C (fun v hp' hq => ?_)
  obtain ⟨o, ho, ρ', g1, g2, g3, g4⟩ := hq
  have hp1 := of_decide_eq_true (List.all_eq_true.mp hpo o ho)
  exact ⟨o, ho, ρ', g1, ⟨hp1, g2⟩, g3, g4⟩
/-! ===== a contract out of those over parts of a name's bounds ===== -/
def covB : Int → Int → List (Int × Int) → Bool
  | lo, hi, [] => decide (hi < lo)
  | lo, hi, b :: r => decide (b.1 ≤ lo) && covB (b.2 + 1) hi r
theorem covB_ok : ∀ {l : List (Int × Int)} {lo hi x : Int}, covB lo hi l = true → lo ≤ x → x ≤ hi → ∃ b ∈ l, b.1 ≤ x ∧ x ≤ b.2
  | [], lo, hi, x, h, h1, h2 => by
    have := of_decide_eq_true h
    omega
  | b :: r, lo, hi, x, h, h1, h2 => by
    simp only [covB, Bool.and_eq_true, decide_eq_true_eq] at h
    by_cases hx : x ≤ b.2
    · exact ⟨b, List.mem_cons_self, by omega, hx⟩
    · obtain ⟨q, q1, q2⟩ := covB_ok h.2 (by omega) h2
      exact ⟨q, List.mem_cons_of_mem _ q1, q2⟩
def cset (c : CTR) (j : Nat) (b : Int × Int) : CTR := (c.1, c.2.1, c.2.2.1.set j b, c.2.2.2)
theorem ctr_split (c : CTR) (j : Nat) {b : Int × Int} (hj : c.2.2.1[j]? = some b) (ivs : List (Int × Int)) (hcov : covB b.1 b.2 ivs = true) (h : ∀ q ∈ ivs, ctrOk (cset c j q)) : ctrOk c := by
  intro NM hN ρ av hp hB hS hH
  have h1 := hB j b hj
  obtain ⟨q, q1, q2, q3⟩ := covB_ok hcov h1.1 h1.2
  have hB' : okB (c.2.2.1.set j q) ρ := set_okB hB ⟨q2, q3⟩
  have e : ext c.2.2.1 ρ (c.2.2.1.set j q) ρ := ⟨by rw [List.length_set]; exact Nat.le_refl _, fun _ _ => rfl⟩
  refine Ct_weak (h q q1 NM hN ρ av hp hB' (rS_ext e hS) (rH_ext e hH)) (fun v hp' hq => ?_)
  obtain ⟨o, ho, ρ', g1, g2, g3⟩ := hq
  exact ⟨o, ho, ρ', g1, ext_tr e g2, g3⟩
/-! ===== a contract over an array as a whole out of one over its items ===== -/
def citm (c : CTR) (k n : Nat) (lo hi : Int) : CTR := (c.1, c.2.1, c.2.2.1 ++ List.replicate n (lo, hi), c.2.2.2.1, c.2.2.2.2.1.set k (.inr (.inl (.int, (List.range n).map (fun i => (some (c.2.2.1.length + i), 0))))), c.2.2.2.2.2)
theorem ctr_items (c : CTR) {k n : Nat} {lo hi : Int} (hk : c.2.2.2.2.1[k]? = some (.inl (.int, n, lo, hi))) (h : ctrOk (citm c k n lo hi)) : ctrOk c := by
  intro NM hN ρ av hp hB hS hH
  obtain ⟨x, hx, hc⟩ := rH_at hH hk
  obtain ⟨xs, rfl, hl, hb⟩ := rC_sum hc
  have e : ext c.2.2.1 ρ (c.2.2.1 ++ List.replicate n (lo, hi)) (fun j => if j < c.2.2.1.length then ρ j else (xs.getD (j - c.2.2.1.length) 0).toInt) := ⟨by rw [List.length_append]; omega, fun j hj => if_pos hj⟩
  have hB' : okB (c.2.2.1 ++ List.replicate n (lo, hi)) (fun j => if j < c.2.2.1.length then ρ j else (xs.getD (j - c.2.2.1.length) 0).toInt) := by
    intro j b hj
    by_cases hlt : j < c.2.2.1.length
    · rw [List.getElem?_append_left hlt] at hj
      simp only [if_pos hlt]
      exact hB j b hj
    · rw [List.getElem?_append_right (by omega)] at hj
      simp only [if_neg hlt]
      have hjn := (List.getElem?_eq_some_iff.mp hj).1
      rw [List.length_replicate] at hjn
      rw [List.getElem?_replicate_of_lt hjn] at hj
      cases hj
      exact hb _ (getD_mem (by omega))
  refine Ct_weak (h NM hN _ av hp hB' (rS_ext e hS) ?_) (fun v hp' hq => ?_)
  · have h2 := rH_ext e hH
    refine ⟨by show (c.2.2.2.2.1.set k _).length = _; rw [List.length_set]; exact hH.1, fun j a hj => ?_, hH.2.2⟩
    have hj : (c.2.2.2.2.1.set k (.inr (.inl (.int, (List.range n).map (fun i => (some (c.2.2.1.length + i), 0))))))[j]? = some a := hj
    by_cases hjk : j = k
    · subst hjk
      rw [List.getElem?_set_self (List.getElem?_eq_some_iff.mp hk).1] at hj
      cases hj
      refine ⟨_, hx, rfl, by rw [List.length_map, List.length_range, hl], fun i m hi => ?_⟩
      rw [List.getElem?_map] at hi
      obtain ⟨i', hi', rfl⟩ := Option.map_eq_some_iff.mp hi
      have hil := (List.getElem?_eq_some_iff.mp hi').1
      rw [List.length_range] at hil
      rw [List.getElem?_range hil] at hi'
      cases hi'
      refine ⟨xs.getD i 0, by rw [List.getD_eq_getElem?_getD, List.getElem?_eq_getElem (by omega)]; rfl, fun q hq => by cases hq; show c.2.2.1.length + i < (c.2.2.1 ++ List.replicate n _).length; rw [List.length_append, List.length_replicate]; omega, ?_⟩
      show _ = (if c.2.2.1.length + i < c.2.2.1.length then _ else _) + 0
      rw [if_neg (by omega), Int.add_zero, show c.2.2.1.length + i - c.2.2.1.length = i by omega]
    · rw [List.getElem?_set_ne (Ne.symm hjk)] at hj
      exact h2.2.1 j a hj
  · obtain ⟨o, ho, ρ', g1, g2, g3⟩ := hq
    exact ⟨o, ho, ρ', g1, ext_tr e g2, g3⟩
/-! ===== the checks of a contract, a Bool each ===== -/
def haiB (O : ORA) (f : Nat) (c : CTR) (H : List HD) (q : HD) : Bool := ai O f true (hcut H c.2.2.1.length q) c.2.1 c.1 q.1 q.2.1 q.2.2.1 [] q.2.2.2.1 (kC c)
def entB (O : ORA) (f : Nat) (c : CTR) (H : List HD) (ml : Nat) : Bool := ai O f true (hcut0 H c.2.2.1.length) c.2.1 c.1 0 c.2.2.1 (entA c.2.2.2.1 ml) [] c.2.2.2.2.1 (kC c)
def stB (c : CTR) (H : List HD) (ml : Nat) : Bool := H.all (fun q => decide (c.2.2.1.length ≤ q.2.1.length) && q.2.2.2.2.all (wgtB q.2.1)) && (decide ((c.2.2.2.1.map catA).sum ≤ ml) && c.2.2.2.2.2.all (fun o => decide (c.2.2.1.length ≤ o.1.length)))
theorem hn (O : ORA) (f : Nat) (c : CTR) (H : List HD) : ∀ x ∈ ([] : List HD), haiB O f c H x = true := fun _ h => absurd h List.not_mem_nil
theorem hc {O : ORA} {f : Nat} {c : CTR} {H : List HD} {q : HD} {l : List HD} (h : haiB O f c H q = true) (t : ∀ x ∈ l, haiB O f c H x = true) : ∀ x ∈ q :: l, haiB O f c H x = true := fun x hx => by
  rcases List.mem_cons.mp hx with rfl | q
  · exact h
  · exact t x q
theorem ctr_by {L : List CTR} (hL : ∀ c ∈ L, ctrOk c) (c : CTR) (f : Nat) (M : MT) (hM : mtL[c.1]? = some M) (H : List HD) (hst : stB c H M.ml = true) (hent : entB (oraL L) f c H M.ml = true) (hai : ∀ q ∈ H, haiB (oraL L) f c H q = true) : ctrOk c := by
  unfold stB at hst
  rw [Bool.and_eq_true, Bool.and_eq_true, decide_eq_true_eq] at hst
  obtain ⟨h1, h2, h3⟩ := hst
  have h4 : ∀ q ∈ H, c.2.2.1.length ≤ q.2.1.length ∧ q.2.2.2.2.all (wgtB q.2.1) = true := fun q hq => by
    have := List.all_eq_true.mp h1 q hq
    rw [Bool.and_eq_true, decide_eq_true_eq] at this
    exact this
  exact ctr_of (oraL_ok hL) c hM H (fun q hq => (h4 q hq).1) (fun q hq => (h4 q hq).2) hai hent h2 h3
/-! ===== general heaps of the class and of the reference; printed by wip/gen/emit.py ===== -/
def itn (p n : Nat) : List AN := (List.range n).map (fun i => (some (p + i), 0))
def hst : AHa → List (Nat × ACa) → AHa
  | h, [] => h
  | h, (i, c) :: r => hst (h.set i c) r
theorem al0 : ∀ c ∈ ([] : List CTR), ctrOk c := fun _ h => absurd h List.not_mem_nil
theorem al {c : CTR} {L : List CTR} (hc : ctrOk c) (h : ∀ x ∈ L, ctrOk x) : ∀ x ∈ c :: L, ctrOk x := fun x hx => by
  rcases List.mem_cons.mp hx with rfl | q
  · exact hc
  · exact h x q
theorem fmn {α : Type} {P : α → Prop} : ∀ x ∈ ([] : List α), P x := fun _ h => absurd h List.not_mem_nil
theorem fmc {α : Type} {P : α → Prop} {a : α} {l : List α} (h : P a) (t : ∀ x ∈ l, P x) : ∀ x ∈ a :: l, P x := fun x hx => by
  rcases List.mem_cons.mp hx with rfl | q
  · exact h
  · exact t x q
def bX : BD := [(0, 23), (0, 49), (0, 8), (0, 11), (0, 9), (0, 6), (0, 6), (0, 8), (0, 9), (0, 49), (0, 49), ((-2147483648), 2147483647), ((-2147483648), 2147483647), (0, 5)]
def bT : BD := [(0, 23), (0, 49), (0, 8), (0, 10), (0, 8), (0, 6), (0, 6), (0, 8), (0, 9), (0, 49), (0, 49), ((-2147483648), 2147483647), ((-2147483648), 2147483647), (0, 5)]
def bY : BD := [(0, 23), (0, 49), (0, 8), (0, 10), (0, 8), (0, 6), (0, 6), (0, 8), (0, 11), (0, 9), ((-2147483648), 2147483647), ((-2147483648), 2147483647), (0, 5)]
def gX (ch : Nat) : AHa := [
  .inr (.inr (.inr (6, [.inr (.inl 1), .inr (.inl 3), .inr (.inl 5), .inr (.inl 6), .inr (.inl 9), .inr (.inl 14), .inr (.inl 18), .inr (.inl 22), .inr (.inl 31), .inr (.inl 35), .inr (.inl 39), .inr (.inl 47), .inl (some 13, 0)]))),
  .inr (.inr (.inr (3, [.inr (.inl 2), .inl (none, 23), .inl (none, 0), .inl (some 0, 0)]))),
  .inl (.int, 49, 0, 255),
  .inr (.inr (.inr (3, [.inr (.inl 4), .inl (none, 49), .inl (none, 1), .inl (some 1, 0)]))),
  .inl (.int, 49, 0, 255),
  .inr (.inr (.inr (0, [.inr (.inl 6), .inr (.inl 9), .inr (.inl 14), .inr (.inl 18), .inr (.inl 22), .inr (.inl 26), .inr (.inl 27), .inr (.inl 28), .inr (.inl 29), .inr (.inl 30), .inl (some 9, 0), .inl (some 10, 0), .inl (some 11, 0), .inl (some 12, 0), .inr (.inl ch)]))),
  .inr (.inr (.inr (1, [.inr (.inl 7), .inr (.inl 8), .inl (some 2, 0)]))),
  .inl (.int, 8, 0, 2),
  .inl (.int, 8, 0, 9),
  .inr (.inr (.inr (5, [.inr (.inl 10), .inr (.inl 11), .inr (.inl 12), .inr (.inl 13), .inl (some 3, 0)]))),
  .inl (.int, 11, 0, 7),
  .inl (.int, 11, 0, 9),
  .inl (.int, 11, 0, 23),
  .inl (.int, 11, (-1), 23),
  .inr (.inr (.inr (4, [.inr (.inl 15), .inr (.inl 16), .inr (.inl 17), .inl (none, 8), .inl (some 4, 0)]))),
  .inl (.int, 9, 0, 23),
  .inl (.int, 9, 0, 9),
  .inl (.int, 9, 0, 0),
  .inr (.inr (.inr (4, [.inr (.inl 19), .inr (.inl 20), .inr (.inl 21), .inl (none, 6), .inl (some 5, 0)]))),
  .inl (.int, 9, 0, 23),
  .inl (.int, 9, 0, 7),
  .inl (.int, 9, 0, 9),
  .inr (.inr (.inr (4, [.inr (.inl 23), .inr (.inl 24), .inr (.inl 25), .inl (none, 6), .inl (some 6, 0)]))),
  .inl (.int, 9, 0, 23),
  .inl (.int, 9, 0, 7),
  .inl (.int, 9, 0, 9),
  .inl (.int, 49, 0, 119),
  .inl (.int, 49, 0, 10),
  .inl (.int, 8, 0, 99),
  .inl (.int, 8, (-2147483648), 2147483647),
  .inl (.int, 11, 0, 3),
  .inr (.inr (.inr (4, [.inr (.inl 32), .inr (.inl 33), .inr (.inl 34), .inl (none, 8), .inl (some 7, 0)]))),
  .inl (.int, 9, 0, 23),
  .inl (.int, 9, 0, 7),
  .inl (.int, 9, 0, 99),
  .inr (.inr (.inr (4, [.inr (.inl 36), .inr (.inl 37), .inr (.inl 38), .inl (none, 8), .inl (some 8, 0)]))),
  .inl (.int, 9, 0, 23),
  .inl (.int, 9, 0, 9),
  .inl (.int, 9, 0, 0),
  .inr (.inr (.inr (2, [.inr (.inl 40), .inr (.inl 45), .inr (.inl 46)]))),
  .inr (.inr (.inl [41, 42, 43, 44])),
  .inl (.int, 60, (-2147483648), 2147483647),
  .inl (.int, 60, (-2147483648), 2147483647),
  .inl (.int, 60, (-2147483648), 2147483647),
  .inl (.int, 60, (-2147483648), 2147483647),
  .inl (.int, 4, 0, 60),
  .inl (.int, 4, (-1), 2),
  .inr (.inr (.inl [48, 49, 50, 51, 52, 53, 54, 55, 56, 57])),
  .inl (.int, 24, 0, 99),
  .inl (.int, 24, 0, 99),
  .inl (.int, 24, 0, 99),
  .inl (.int, 24, 0, 99),
  .inl (.int, 24, 0, 99),
  .inl (.int, 24, 0, 99),
  .inl (.int, 24, 0, 99),
  .inl (.int, 24, 0, 99),
  .inl (.int, 24, 0, 99),
  .inl (.int, 24, 0, 99)]
def gY : AHa := [
  .inr (.inr (.inr (7, [.inr (.inl 1), .inr (.inl 2), .inl (some 2, 0), .inr (.inl 3), .inr (.inl 4), .inl (some 3, 0), .inr (.inl 5), .inr (.inl 6), .inr (.inl 7), .inr (.inl 8), .inl (some 4, 0), .inr (.inl 9), .inr (.inl 10), .inl (some 5, 0), .inr (.inl 11), .inr (.inl 12), .inr (.inl 13), .inl (some 6, 0), .inr (.inl 14), .inr (.inl 15), .inr (.inl 16), .inl (some 8, 0), .inl (some 9, 0), .inr (.inl 17), .inr (.inl 18), .inl (some 10, 0), .inl (some 11, 0), .inr (.inl 19), .inr (.inl 20), .inr (.inl 21), .inr (.inl 22), .inr (.inl 23), .inr (.inl 24), .inr (.inl 25), .inl (some 7, 0), .inr (.inl 26), .inr (.inl 27), .inr (.inl 28), .inr (.inl 29), .inr (.inl 30), .inr (.inl 31), .inr (.inl 32), .inr (.inl 33), .inr (.inl 34), .inl (some 12, 0)]))),
  .inr (.inl (.int, [(some 0, 0), (some 1, 0)])),
  .inl (.int, 98, 0, 255),
  .inl (.int, 9, 0, 2),
  .inl (.int, 9, 0, 9),
  .inl (.int, 12, 0, 7),
  .inl (.int, 12, 0, 9),
  .inl (.int, 12, 0, 23),
  .inl (.int, 12, (-1), 23),
  .inl (.int, 9, 0, 23),
  .inl (.int, 9, 0, 9),
  .inl (.int, 6, 0, 23),
  .inl (.int, 6, 0, 7),
  .inl (.int, 6, 0, 9),
  .inl (.int, 6, 0, 23),
  .inl (.int, 6, 0, 7),
  .inl (.int, 6, 0, 9),
  .inl (.int, 9, 0, 23),
  .inl (.int, 9, 0, 9),
  .inl (.int, 8, 0, 99),
  .inl (.int, 8, (-2147483648), 2147483647),
  .inl (.int, 12, 0, 3),
  .inl (.int, 192, 0, 99),
  .inl (.int, 192, (-2147483648), 2147483647),
  .inl (.int, 288, 0, 3),
  .inl (.int, 2, 0, 5),
  .inl (.int, 8, 0, 23),
  .inl (.int, 8, 0, 7),
  .inl (.int, 8, 0, 99),
  .inl (.int, 240, 0, 99),
  .inl (.boolean, 4, 0, 1),
  .inl (.int, 4, 0, 2),
  .inl (.int, 4, 0, 60),
  .inl (.int, 240, (-2147483648), 2147483647),
  .inl (.int, 60, (-2147483648), 2147483647)]
