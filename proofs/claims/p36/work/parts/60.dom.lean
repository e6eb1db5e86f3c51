/-! ===== abstract ints: a name plus a constant; names in bounds ===== -/
abbrev AN : Type := Option Nat × Int
abbrev BD : Type := List (Int × Int)
/-- an int, a reference, or a long (by a name, or any) -/
abbrev AVa : Type := AN ⊕ (Nat ⊕ Option AN)
def den (ρ : Nat → Int) (n : AN) : Int := match n.1 with
  | none => n.2
  | some j => ρ j + n.2
def okN (B : BD) (n : AN) : Prop := ∀ j, n.1 = some j → j < B.length
def rN (B : BD) (ρ : Nat → Int) (n : AN) (x : Int32) : Prop := okN B n ∧ x.toInt = den ρ n
def okB (B : BD) (ρ : Nat → Int) : Prop := ∀ (j : Nat) (b : Int × Int), B[j]? = some b → b.1 ≤ ρ j ∧ ρ j ≤ b.2
def ext (B : BD) (ρ : Nat → Int) (B' : BD) (ρ' : Nat → Int) : Prop := B.length ≤ B'.length ∧ ∀ j, j < B.length → ρ' j = ρ j
theorem ext_rf {B : BD} {ρ : Nat → Int} : ext B ρ B ρ := ⟨Nat.le_refl _, fun _ _ => rfl⟩
theorem ext_tr {B1 B2 B3 : BD} {r1 r2 r3 : Nat → Int} (h1 : ext B1 r1 B2 r2) (h2 : ext B2 r2 B3 r3) : ext B1 r1 B3 r3 := ⟨Nat.le_trans h1.1 h2.1, fun j hj => (h2.2 j (Nat.lt_of_lt_of_le hj h1.1)).trans (h1.2 j hj)⟩
theorem rN_ext {B B' : BD} {ρ ρ' : Nat → Int} (e : ext B ρ B' ρ') {n : AN} {x : Int32} (h : rN B ρ n x) : rN B' ρ' n x := by
  refine ⟨fun j hj => Nat.lt_of_lt_of_le (h.1 j hj) e.1, h.2.trans ?_⟩
  unfold den
  cases hn : n.1 with
  | none => rfl
  | some j => simp only; rw [e.2 j (h.1 j hn)]
def i32 (lo hi : Int) : Bool := decide (-2147483648 ≤ lo) && decide (hi ≤ 2147483647)
def bnd (B : BD) (n : AN) : Int × Int := match n.1 with
  | none => (n.2, n.2)
  | some j => match B[j]? with
    | some b => (b.1 + n.2, b.2 + n.2)
    | none => (-2147483648, 2147483647)
theorem int32_lo (x : Int32) : -2147483648 ≤ x.toInt := by
  have := x.le_toInt
  have h : Int32.minValue.toInt = -2147483648 := by decide
  omega
theorem int32_hi (x : Int32) : x.toInt ≤ 2147483647 := by
  have := x.toInt_le
  have h : Int32.maxValue.toInt = 2147483647 := by decide
  omega
theorem bnd_ok {B : BD} {ρ : Nat → Int} (hB : okB B ρ) {n : AN} {x : Int32} (h : rN B ρ n x) : (bnd B n).1 ≤ x.toInt ∧ x.toInt ≤ (bnd B n).2 := by
  have h1 := int32_lo x
  have h2 := int32_hi x
  have hd := h.2
  unfold bnd
  unfold den at hd
  cases hn : n.1 with
  | none => rw [hn] at hd; simp only at hd ⊢; omega
  | some j =>
    rw [hn] at hd
    simp only at hd ⊢
    cases hj : B[j]? with
    | none => simp only; omega
    | some b =>
      have := hB j b hj
      simp only
      omega
/-- a new name -/
def ups (ρ : Nat → Int) (k : Nat) (v : Int) : Nat → Int := fun j => if j = k then v else ρ j
theorem new_ext {B : BD} {ρ : Nat → Int} (b : Int × Int) (v : Int) : ext B ρ (B ++ [b]) (ups ρ B.length v) := by
  refine ⟨by rw [List.length_append]; omega, fun j hj => ?_⟩
  unfold ups
  rw [if_neg (by omega)]
theorem new_ok {B : BD} {ρ : Nat → Int} (hB : okB B ρ) {b : Int × Int} {v : Int} (h1 : b.1 ≤ v) (h2 : v ≤ b.2) : okB (B ++ [b]) (ups ρ B.length v) := by
  intro j q hj
  by_cases hl : j < B.length
  · rw [List.getElem?_append_left hl] at hj
    unfold ups
    rw [if_neg (by omega)]
    exact hB j q hj
  · rw [List.getElem?_append_right (by omega)] at hj
    have hz : j - B.length < 1 := (List.getElem?_eq_some_iff.mp hj).1
    have he : j = B.length := by omega
    subst he
    rw [Nat.sub_self] at hj
    cases hj
    unfold ups
    rw [if_pos rfl]
    exact ⟨h1, h2⟩
theorem new_rN {B : BD} {ρ : Nat → Int} {b : Int × Int} {x : Int32} : rN (B ++ [b]) (ups ρ B.length x.toInt) (some B.length, 0) x := by
  refine ⟨fun j hj => ?_, ?_⟩
  · cases hj; rw [List.length_append]; exact Nat.lt_succ_self _
  · unfold den ups
    simp
/-- narrowing a name's bounds -/
def narH (B : BD) (n : AN) (hi : Int) : BD := match n.1 with
  | none => B
  | some j => match B[j]? with
    | some b => B.set j (b.1, min b.2 (hi - n.2))
    | none => B
def narL (B : BD) (n : AN) (lo : Int) : BD := match n.1 with
  | none => B
  | some j => match B[j]? with
    | some b => B.set j (max b.1 (lo - n.2), b.2)
    | none => B
theorem set_okB {B : BD} {ρ : Nat → Int} (hB : okB B ρ) {j : Nat} {b : Int × Int} (h : b.1 ≤ ρ j ∧ ρ j ≤ b.2) : okB (B.set j b) ρ := by
  intro k q hk
  by_cases hkj : k = j
  · subst hkj
    by_cases hl : k < B.length
    · rw [List.getElem?_set_self hl] at hk
      cases hk
      exact h
    · rw [List.getElem?_eq_none (by rw [List.length_set]; omega)] at hk
      cases hk
  · rw [List.getElem?_set_ne (Ne.symm hkj)] at hk
    exact hB k q hk
theorem narH_len (B : BD) (n : AN) (hi : Int) : (narH B n hi).length = B.length := by
  unfold narH
  split
  · rfl
  · split
    · rw [List.length_set]
    · rfl
theorem narL_len (B : BD) (n : AN) (lo : Int) : (narL B n lo).length = B.length := by
  unfold narL
  split
  · rfl
  · split
    · rw [List.length_set]
    · rfl
theorem narH_ok {B : BD} {ρ : Nat → Int} (hB : okB B ρ) {n : AN} {x : Int32} (h : rN B ρ n x) {hi : Int} (h1 : x.toInt ≤ hi) : okB (narH B n hi) ρ := by
  unfold narH
  have hd := h.2
  unfold den at hd
  split
  · exact hB
  · rename_i j hj
    rw [hj] at hd
    split
    · rename_i b hb
      have := hB j b hb
      refine set_okB hB ?_
      simp only at hd ⊢
      omega
    · exact hB
theorem narL_ok {B : BD} {ρ : Nat → Int} (hB : okB B ρ) {n : AN} {x : Int32} (h : rN B ρ n x) {lo : Int} (h1 : lo ≤ x.toInt) : okB (narL B n lo) ρ := by
  unfold narL
  have hd := h.2
  unfold den at hd
  split
  · exact hB
  · rename_i j hj
    rw [hj] at hd
    split
    · rename_i b hb
      have := hB j b hb
      refine set_okB hB ?_
      simp only at hd ⊢
      omega
    · exact hB
theorem narH_ext {B : BD} {ρ : Nat → Int} {n : AN} {hi : Int} : ext B ρ (narH B n hi) ρ := ⟨by rw [narH_len]; exact Nat.le_refl _, fun _ _ => rfl⟩
theorem narL_ext {B : BD} {ρ : Nat → Int} {n : AN} {lo : Int} : ext B ρ (narL B n lo) ρ := ⟨by rw [narL_len]; exact Nat.le_refl _, fun _ _ => rfl⟩
/-! ===== comparing: what each way says of the two; none: it cannot be ===== -/
def leB (B : BD) (a b : AN) : Option BD := if (bnd B b).2 < (bnd B a).1 then none else some (narL (narH B a (bnd B b).2) b (bnd B a).1)
def ltB (B : BD) (a b : AN) : Option BD := if (bnd B b).2 ≤ (bnd B a).1 then none else some (narL (narH B a ((bnd B b).2 - 1)) b ((bnd B a).1 + 1))
def eqB (B : BD) (a b : AN) : Option BD := if (bnd B b).2 < (bnd B a).1 ∨ (bnd B a).2 < (bnd B b).1 then none else some (narL (narH (narL (narH B a (bnd B b).2) b (bnd B a).1) b (bnd B a).2) a (bnd B b).1)
/-- not alike: an end that is the other's only number is cut off -/
def neB (B : BD) (a b : AN) : Option BD :=
  if (bnd B b).1 = (bnd B b).2 then
    if (bnd B a).1 = (bnd B b).1 then (if (bnd B a).2 = (bnd B b).1 then none else some (narL B a ((bnd B a).1 + 1)))
    else if (bnd B a).2 = (bnd B b).1 then some (narH B a ((bnd B a).2 - 1)) else some B
  else some B
theorem leB_ok {B : BD} {ρ : Nat → Int} (hB : okB B ρ) {a b : AN} {x y : Int32} (ha : rN B ρ a x) (hb : rN B ρ b y) (h : x.toInt ≤ y.toInt) : ∃ B', leB B a b = some B' ∧ okB B' ρ ∧ ext B ρ B' ρ := by
  have h1 := bnd_ok hB ha
  have h2 := bnd_ok hB hb
  unfold leB
  rw [if_neg (by omega)]
  have e1 : okB (narH B a (bnd B b).2) ρ := narH_ok hB ha (by omega)
  exact ⟨_, rfl, narL_ok e1 (rN_ext narH_ext hb) (by omega), ext_tr narH_ext narL_ext⟩
theorem ltB_ok {B : BD} {ρ : Nat → Int} (hB : okB B ρ) {a b : AN} {x y : Int32} (ha : rN B ρ a x) (hb : rN B ρ b y) (h : x.toInt < y.toInt) : ∃ B', ltB B a b = some B' ∧ okB B' ρ ∧ ext B ρ B' ρ := by
  have h1 := bnd_ok hB ha
  have h2 := bnd_ok hB hb
  unfold ltB
  rw [if_neg (by omega)]
  have e1 : okB (narH B a ((bnd B b).2 - 1)) ρ := narH_ok hB ha (by omega)
  exact ⟨_, rfl, narL_ok e1 (rN_ext narH_ext hb) (by omega), ext_tr narH_ext narL_ext⟩
theorem eqB_ok {B : BD} {ρ : Nat → Int} (hB : okB B ρ) {a b : AN} {x y : Int32} (ha : rN B ρ a x) (hb : rN B ρ b y) (h : x.toInt = y.toInt) : ∃ B', eqB B a b = some B' ∧ okB B' ρ ∧ ext B ρ B' ρ := by
  have h1 := bnd_ok hB ha
  have h2 := bnd_ok hB hb
  unfold eqB
  rw [if_neg (by omega)]
  have e1 : okB (narH B a (bnd B b).2) ρ := narH_ok hB ha (by omega)
  have x1 : ext B ρ (narH B a (bnd B b).2) ρ := narH_ext
  have e2 : okB (narL (narH B a (bnd B b).2) b (bnd B a).1) ρ := narL_ok e1 (rN_ext x1 hb) (by omega)
  have x2 := ext_tr x1 (narL_ext (n := b) (lo := (bnd B a).1))
  have e3 : okB (narH (narL (narH B a (bnd B b).2) b (bnd B a).1) b (bnd B a).2) ρ := narH_ok e2 (rN_ext x2 hb) (by omega)
  have x3 := ext_tr x2 (narH_ext (n := b) (hi := (bnd B a).2))
  exact ⟨_, rfl, narL_ok e3 (rN_ext x3 ha) (by omega), ext_tr x3 narL_ext⟩
theorem neB_ok {B : BD} {ρ : Nat → Int} (hB : okB B ρ) {a b : AN} {x y : Int32} (ha : rN B ρ a x) (hb : rN B ρ b y) (h : ¬ x.toInt = y.toInt) : ∃ B', neB B a b = some B' ∧ okB B' ρ ∧ ext B ρ B' ρ := by
  have h1 := bnd_ok hB ha
  have h2 := bnd_ok hB hb
  unfold neB
  split
  · split
    · rw [if_neg (by omega)]
      exact ⟨_, rfl, narL_ok hB ha (by omega), narL_ext⟩
    · split
      · exact ⟨_, rfl, narH_ok hB ha (by omega), narH_ext⟩
      · exact ⟨_, rfl, hB, ext_rf⟩
  · exact ⟨_, rfl, hB, ext_rf⟩
/-- a comparison that holds, or doesn't -/
def cmpT (B : BD) (c : Jvm.ClassFile.Cond) (a b : AN) : Option BD := match c with
  | .eq => eqB B a b
  | .ne => neB B a b
  | .lt => ltB B a b
  | .ge => leB B b a
  | .gt => ltB B b a
  | .le => leB B a b
def cmpF (B : BD) (c : Jvm.ClassFile.Cond) (a b : AN) : Option BD := match c with
  | .eq => neB B a b
  | .ne => eqB B a b
  | .lt => leB B b a
  | .ge => ltB B a b
  | .gt => leB B a b
  | .le => ltB B b a
theorem cmpT_ok {B : BD} {ρ : Nat → Int} (hB : okB B ρ) {c : Jvm.ClassFile.Cond} {a b : AN} {x y : Int32} (ha : rN B ρ a x) (hb : rN B ρ b y) (h : cmpB c x y = true) : ∃ B', cmpT B c a b = some B' ∧ okB B' ρ ∧ ext B ρ B' ρ := by
  cases c <;> simp only [cmpB, decide_eq_true_eq, Int32.lt_iff_toInt_lt, Int32.le_iff_toInt_le, ← Int32.toInt_inj] at h
  · exact eqB_ok hB ha hb h
  · exact neB_ok hB ha hb h
  · exact ltB_ok hB ha hb h
  · exact leB_ok hB hb ha h
  · exact ltB_ok hB hb ha h
  · exact leB_ok hB ha hb h
theorem cmpF_ok {B : BD} {ρ : Nat → Int} (hB : okB B ρ) {c : Jvm.ClassFile.Cond} {a b : AN} {x y : Int32} (ha : rN B ρ a x) (hb : rN B ρ b y) (h : cmpB c x y = false) : ∃ B', cmpF B c a b = some B' ∧ okB B' ρ ∧ ext B ρ B' ρ := by
  cases c <;> simp only [cmpB, decide_eq_false_iff_not, Int32.lt_iff_toInt_lt, Int32.le_iff_toInt_le, ← Int32.toInt_inj] at h
  · exact neB_ok hB ha hb h
  · exact eqB_ok hB ha hb (by omega)
  · exact leB_ok hB hb ha (by omega)
  · exact ltB_ok hB ha hb (by omega)
  · exact leB_ok hB ha hb (by omega)
  · exact ltB_ok hB hb ha (by omega)
