/-! ===== longs by names ===== -/
def i64 (lo hi : Int) : Bool := decide (-9223372036854775808 ≤ lo) && decide (hi ≤ 9223372036854775807)
theorem int64_lo (x : Int64) : -9223372036854775808 ≤ x.toInt := by
  have := x.le_toInt
  have h : Int64.minValue.toInt = -9223372036854775808 := by decide
  omega
theorem int64_hi (x : Int64) : x.toInt ≤ 9223372036854775807 := by
  have := x.toInt_le
  have h : Int64.maxValue.toInt = 9223372036854775807 := by decide
  omega
theorem bnd_dn {B : BD} {ρ : Nat → Int} (hB : okB B ρ) {n : AN} (hn : okN B n) : (bnd B n).1 ≤ den ρ n ∧ den ρ n ≤ (bnd B n).2 := by
  unfold bnd den
  cases h : n.1 with
  | none => exact ⟨Int.le_refl _, Int.le_refl _⟩
  | some j =>
    have hj := hn j h
    have := hB j B[j] (List.getElem?_eq_getElem hj)
    simp only [List.getElem?_eq_getElem hj]
    omega
/-- a new name for a long that is known to be the number v, or nothing -/
def lnw (B : BD) (o : Option (Int × Int)) : BD × Option AN := match o with
  | some b => (B ++ [b], some (some B.length, 0))
  | none => (B, none)
def laddB (B : BD) (a b : Option AN) : Option (Int × Int) := match a, b with
  | some x, some y => if i64 ((bnd B x).1 + (bnd B y).1) ((bnd B x).2 + (bnd B y).2) = true then some ((bnd B x).1 + (bnd B y).1, (bnd B x).2 + (bnd B y).2) else none
  | _, _ => none
def lsubB (B : BD) (a b : Option AN) : Option (Int × Int) := match a, b with
  | some x, some y => if i64 ((bnd B x).1 - (bnd B y).2) ((bnd B x).2 - (bnd B y).1) = true then some ((bnd B x).1 - (bnd B y).2, (bnd B x).2 - (bnd B y).1) else none
  | _, _ => none
def lmulB (B : BD) (a b : Option AN) : Option (Int × Int) := match a, b with
  | some x, some y => if 0 ≤ (bnd B x).1 ∧ 0 ≤ (bnd B y).1 ∧ i64 0 ((bnd B x).2 * (bnd B y).2) = true then some (0, (bnd B x).2 * (bnd B y).2) else none
  | _, _ => none
def lcmpB (a b : Option AN) : Bool := match a, b with
  | some _, some _ => true
  | _, _ => false
/-- what a long's operation gives, where the number lies within -/
def lgives (B : BD) (ρ : Nat → Int) (r : BD × Option AN) (z : Int64) : Prop := ∃ ρ', okB r.1 ρ' ∧ ext B ρ r.1 ρ' ∧ ∀ n, r.2 = some n → okN r.1 n ∧ z.toInt = den ρ' n
theorem lnw_ok {B : BD} {ρ : Nat → Int} (hB : okB B ρ) {o : Option (Int × Int)} {z : Int64} (h : ∀ b, o = some b → b.1 ≤ z.toInt ∧ z.toInt ≤ b.2) : lgives B ρ (lnw B o) z := by
  cases o with
  | none => exact ⟨ρ, hB, ext_rf, fun n hn => by cases hn⟩
  | some b =>
    obtain ⟨h1, h2⟩ := h b rfl
    refine ⟨ups ρ B.length z.toInt, new_ok hB h1 h2, new_ext _ _, fun n hn => ?_⟩
    cases hn
    refine ⟨fun j hj => by cases hj; show B.length < (B ++ [b]).length; rw [List.length_append]; exact Nat.lt_succ_self _, ?_⟩
    unfold den ups
    simp
theorem l_add {x y : Int64} (h1 : -9223372036854775808 ≤ x.toInt + y.toInt) (h2 : x.toInt + y.toInt ≤ 9223372036854775807) : (x + y).toInt = x.toInt + y.toInt := by
  rw [Int64.toInt_add]
  exact Int.bmod_eq_of_le (by omega) (by omega)
theorem l_sub {x y : Int64} (h1 : -9223372036854775808 ≤ x.toInt - y.toInt) (h2 : x.toInt - y.toInt ≤ 9223372036854775807) : (x - y).toInt = x.toInt - y.toInt := by
  rw [Int64.toInt_sub]
  exact Int.bmod_eq_of_le (by omega) (by omega)
theorem l_mul {x y : Int64} (h1 : -9223372036854775808 ≤ x.toInt * y.toInt) (h2 : x.toInt * y.toInt ≤ 9223372036854775807) : (x * y).toInt = x.toInt * y.toInt := by
  rw [Int64.toInt_mul]
  exact Int.bmod_eq_of_le (by omega) (by omega)
section LLN
variable {B : BD} {ρ : Nat → Int} {a b : Option AN} {x y : Int64}
theorem laddB_ok (hB : okB B ρ) (ha : ∀ n, a = some n → okN B n ∧ x.toInt = den ρ n) (hb : ∀ n, b = some n → okN B n ∧ y.toInt = den ρ n) : ∀ q, laddB B a b = some q → (x + y).toInt = x.toInt + y.toInt ∧ q.1 ≤ (x + y).toInt ∧ (x + y).toInt ≤ q.2 := by
  intro q h
  unfold laddB at h
  split at h
  · rename_i n m
    obtain ⟨n1, n2⟩ := ha n rfl
    obtain ⟨m1, m2⟩ := hb m rfl
    have c1 := bnd_dn hB n1
    have c2 := bnd_dn hB m1
    split at h
    · rename_i hi
      cases h
      unfold i64 at hi
      rw [Bool.and_eq_true, decide_eq_true_eq, decide_eq_true_eq] at hi
      have e := l_add (x := x) (y := y) (by omega) (by omega)
      exact ⟨e, by omega, by omega⟩
    · cases h
  · cases h
theorem lsubB_ok (hB : okB B ρ) (ha : ∀ n, a = some n → okN B n ∧ x.toInt = den ρ n) (hb : ∀ n, b = some n → okN B n ∧ y.toInt = den ρ n) : ∀ q, lsubB B a b = some q → (x - y).toInt = x.toInt - y.toInt ∧ q.1 ≤ (x - y).toInt ∧ (x - y).toInt ≤ q.2 := by
  intro q h
  unfold lsubB at h
  split at h
  · rename_i n m
    obtain ⟨n1, n2⟩ := ha n rfl
    obtain ⟨m1, m2⟩ := hb m rfl
    have c1 := bnd_dn hB n1
    have c2 := bnd_dn hB m1
    split at h
    · rename_i hi
      cases h
      unfold i64 at hi
      rw [Bool.and_eq_true, decide_eq_true_eq, decide_eq_true_eq] at hi
      have e := l_sub (x := x) (y := y) (by omega) (by omega)
      exact ⟨e, by omega, by omega⟩
    · cases h
  · cases h
theorem lmulB_ok (hB : okB B ρ) (ha : ∀ n, a = some n → okN B n ∧ x.toInt = den ρ n) (hb : ∀ n, b = some n → okN B n ∧ y.toInt = den ρ n) : ∀ q, lmulB B a b = some q → (x * y).toInt = x.toInt * y.toInt ∧ q.1 ≤ (x * y).toInt ∧ (x * y).toInt ≤ q.2 := by
  intro q h
  unfold lmulB at h
  split at h
  · rename_i n m
    obtain ⟨n1, n2⟩ := ha n rfl
    obtain ⟨m1, m2⟩ := hb m rfl
    have c1 := bnd_dn hB n1
    have c2 := bnd_dn hB m1
    split at h
    · rename_i hi
      obtain ⟨i1, i2, i3⟩ := hi
      cases h
      unfold i64 at i3
      rw [Bool.and_eq_true, decide_eq_true_eq, decide_eq_true_eq] at i3
      have p1 : 0 ≤ x.toInt * y.toInt := Int.mul_nonneg (by omega) (by omega)
      have p2 : x.toInt * y.toInt ≤ (bnd B n).2 * (bnd B m).2 := Int.mul_le_mul (by omega) (by omega) (by omega) (by omega)
      have e := l_mul (x := x) (y := y) (by omega) (by omega)
      exact ⟨e, by rw [e]; exact p1, by rw [e]; exact p2⟩
    · cases h
  · cases h
end LLN
theorem lg_cmp_b (x y : Int64) : -1 ≤ (lg_cmp x y).toInt ∧ (lg_cmp x y).toInt ≤ 1 := by
  unfold lg_cmp
  split
  · decide
  · split <;> decide
/-- known, or a one some places to the left -/
def lshlB (B : BD) (o : Option AN) (n : AN) : BD × Option AN := match o with
  | some c => if (bnd B n).1 = (bnd B n).2 ∧ (bnd B c).1 = (bnd B c).2 then (B, some (none, (Int64.ofInt (bnd B c).1 <<< ((Int32.ofInt (bnd B n).1).toInt64 &&& 63)).toInt)) else if (bnd B c).1 = 1 ∧ (bnd B c).2 = 1 ∧ 0 ≤ (bnd B n).1 ∧ (bnd B n).2 ≤ 62 then lnw B (some ((((2 : Nat) ^ (bnd B n).1.toNat : Nat) : Int), (((2 : Nat) ^ (bnd B n).2.toNat : Nat) : Int))) else (B, none)
  | none => (B, none)
set_option maxRecDepth 20000 in
theorem lsh1 : ∀ j : Nat, j < 63 → ((1 : Int64) <<< ((nI j).toInt64 &&& 63)).toInt = (((2 : Nat) ^ j : Nat) : Int) := by decide +kernel
theorem lshlB_ok {B : BD} {ρ : Nat → Int} (hB : okB B ρ) {o : Option AN} {n : AN} {x : Int32} {y : Int64} (hy : ∀ c, o = some c → okN B c ∧ y.toInt = den ρ c) (hx : rN B ρ n x) : lgives B ρ (lshlB B o n) (y <<< (x.toInt64 &&& 63)) := by
  have hb := bnd_ok hB hx
  unfold lshlB
  split
  · rename_i c
    obtain ⟨q1, q2⟩ := hy c rfl
    have hb2 := bnd_dn hB q1
    split
    · rename_i he
      have ex : (bnd B n).1 = x.toInt := by omega
      have ey : (bnd B c).1 = y.toInt := by omega
      refine ⟨ρ, hB, ext_rf, fun m hm => ?_⟩
      cases hm
      rw [ex, ofInt_toInt, ey, Int64.ofInt_toInt]
      exact ⟨fun j hj => (by cases hj), rfl⟩
    · split
      · rename_i he
        obtain ⟨c1, c2, c3, c4⟩ := he
        have ey : y = 1 := by
          apply Int64.toInt_inj.mp
          have : (1 : Int64).toInt = 1 := by decide
          omega
        subst ey
        obtain ⟨j, hj, rfl, e1⟩ := nI_toInt' (x := x) (by omega)
        have e := lsh1 j (by omega)
        have p1 : (2 : Nat) ^ (bnd B n).1.toNat ≤ 2 ^ j := Nat.pow_le_pow_right (by omega) (by omega)
        have p2 : (2 : Nat) ^ j ≤ 2 ^ (bnd B n).2.toNat := Nat.pow_le_pow_right (by omega) (by omega)
        exact lnw_ok hB (fun b hbb => by cases hbb; rw [e]; exact ⟨Int.ofNat_le.mpr p1, Int.ofNat_le.mpr p2⟩)
      · exact ⟨ρ, hB, ext_rf, fun m hm => by cases hm⟩
  · exact ⟨ρ, hB, ext_rf, fun m hm => by cases hm⟩
/-! ===== steps that touch neither heap nor calls, over names ===== -/
def binN (i : Instr) : Option (BD → AN → AN → BD × AN) := match i with
  | .iadd => some addN
  | .isub => some subN
  | .imul => some mulN
  | .iand => some (fun B => knwN B (fun x y => x &&& y))
  | .ior => some (fun B => knwN B (fun x y => x ||| y))
  | .ixor => some (fun B => knwN B (fun x y => x ^^^ y))
  | .ishl => some shlN
  | .ishr => some (fun B => knwN B (fun x y => x >>> (y &&& 31)))
  | .iushr => some shrN
  | _ => none
theorem binN_ok {i : Instr} {F : BD → AN → AN → BD × AN} (h : binN i = some F) {B : BD} {ρ : Nat → Int} (hB : okB B ρ) {a b : AN} {x y : Int32} (ha : rN B ρ a x) (hb : rN B ρ b y) (pc : Nat) (lv : List (Option Value)) (r : List Value) : ∃ z, sA i pc lv (.int y :: .int x :: r) = some (pc + 1, lv, .int z :: r) ∧ gives B ρ (F B a b) z := by
  unfold binN at h
  split at h <;> cases h
  · exact ⟨_, rfl, addN_ok hB ha hb⟩
  · exact ⟨_, rfl, subN_ok hB ha hb⟩
  · exact ⟨_, rfl, mulN_ok hB ha hb⟩
  · exact ⟨_, rfl, knwN_ok hB _ ha hb⟩
  · exact ⟨_, rfl, knwN_ok hB _ ha hb⟩
  · exact ⟨_, rfl, knwN_ok hB _ ha hb⟩
  · exact ⟨_, rfl, shlN_ok hB ha hb⟩
  · exact ⟨_, rfl, knwN_ok hB _ ha hb⟩
  · exact ⟨_, rfl, shrN_ok hB ha hb⟩
def aS (B : BD) (i : Instr) (pc : Nat) (la : List (Option AVa)) (st : List AVa) : Option (BD × Nat × List (Option AVa) × List AVa) := match i with
  | .iconst n => some (B, pc + 1, la, .inl (none, (Int32.ofInt n).toInt) :: st)
  | .bipush n => some (B, pc + 2, la, .inl (none, (Int8.ofInt n).toInt32.toInt) :: st)
  | .sipush n => some (B, pc + 3, la, .inl (none, (Int16.ofInt n).toInt32.toInt) :: st)
  | .lconst n => some (B, pc + 1, la, .inr (.inr (some (none, (Int64.ofNat (n : Nat)).toInt))) :: st)
  | .iload_n k => match la[(k : Nat)]? with
    | some (some (.inl n)) => some (B, pc + 1, la, .inl n :: st)
    | _ => none
  | .iload k => match la[k]? with
    | some (some (.inl n)) => some (B, pc + 2, la, .inl n :: st)
    | _ => none
  | .lload_n k => match la[(k : Nat)]? with
    | some (some (.inr (.inr o))) => some (B, pc + 1, la, .inr (.inr o) :: st)
    | _ => none
  | .lload k => match la[k]? with
    | some (some (.inr (.inr o))) => some (B, pc + 2, la, .inr (.inr o) :: st)
    | _ => none
  | .aload_n k => match la[(k : Nat)]? with
    | some (some (.inr (.inl r))) => some (B, pc + 1, la, .inr (.inl r) :: st)
    | _ => none
  | .aload k => match la[k]? with
    | some (some (.inr (.inl r))) => some (B, pc + 2, la, .inr (.inl r) :: st)
    | _ => none
  | .istore_n k => match st with
    | .inl n :: r => if (k : Nat) < la.length then some (B, pc + 1, sta1 la k (.inl n), r) else none
    | _ => none
  | .istore k => match st with
    | .inl n :: r => if k < la.length then some (B, pc + 2, sta1 la k (.inl n), r) else none
    | _ => none
  | .lstore_n k => match st with
    | .inr (.inr o) :: r => if (k : Nat) + 1 < la.length then some (B, pc + 1, sta2 la k (.inr (.inr o)), r) else none
    | _ => none
  | .lstore k => match st with
    | .inr (.inr o) :: r => if k + 1 < la.length then some (B, pc + 2, sta2 la k (.inr (.inr o)), r) else none
    | _ => none
  | .astore_n k => match st with
    | .inr (.inl q) :: r => if (k : Nat) < la.length then some (B, pc + 1, sta1 la k (.inr (.inl q)), r) else none
    | _ => none
  | .astore k => match st with
    | .inr (.inl q) :: r => if k < la.length then some (B, pc + 2, sta1 la k (.inr (.inl q)), r) else none
    | _ => none
  | .iinc k c => match la[k]? with
    | some (some (.inl n)) => match addN B n (none, (Int32.ofInt c).toInt) with
      | (B', m) => if k < la.length then some (B', pc + 3, sta1 la k (.inl m), st) else none
    | _ => none
  | .ineg => match st with
    | .inl _ :: r => some ((anyN B).1, pc + 1, la, .inl (anyN B).2 :: r)
    | _ => none
  | .i2b => match st with
    | .inl _ :: r => some ((anyN B).1, pc + 1, la, .inl (anyN B).2 :: r)
    | _ => none
  | .i2s => match st with
    | .inl _ :: r => some ((anyN B).1, pc + 1, la, .inl (anyN B).2 :: r)
    | _ => none
  | .i2l => match st with
    | .inl n :: r => some (B, pc + 1, la, .inr (.inr (some n)) :: r)
    | _ => none
  | .ladd => match st with
    | .inr (.inr b) :: .inr (.inr a) :: r => some ((lnw B (laddB B a b)).1, pc + 1, la, .inr (.inr (lnw B (laddB B a b)).2) :: r)
    | _ => none
  | .lsub => match st with
    | .inr (.inr b) :: .inr (.inr a) :: r => some ((lnw B (lsubB B a b)).1, pc + 1, la, .inr (.inr (lnw B (lsubB B a b)).2) :: r)
    | _ => none
  | .lmul => match st with
    | .inr (.inr b) :: .inr (.inr a) :: r => some ((lnw B (lmulB B a b)).1, pc + 1, la, .inr (.inr (lnw B (lmulB B a b)).2) :: r)
    | _ => none
  | .land => match st with
    | .inr (.inr _) :: .inr (.inr _) :: r => some (B, pc + 1, la, .inr (.inr none) :: r)
    | _ => none
  | .lshl => match st with
    | .inl n :: .inr (.inr o) :: r => some ((lshlB B o n).1, pc + 1, la, .inr (.inr (lshlB B o n).2) :: r)
    | _ => none
  | .lshr => match st with
    | .inl _ :: .inr (.inr _) :: r => some (B, pc + 1, la, .inr (.inr none) :: r)
    | _ => none
  | .lcmp => match st with
    | .inr (.inr _) :: .inr (.inr _) :: r => some ((newN B (-1) 1).1, pc + 1, la, .inl (newN B (-1) 1).2 :: r)
    | _ => none
  | .dup => match st with
    | a :: r => if catA a == 1 then some (B, pc + 1, la, a :: a :: r) else none
    | _ => none
  | .dup2 => match st with
    | a :: b :: r => if catA a == 1 && catA b == 1 then some (B, pc + 1, la, a :: b :: a :: b :: r) else none
    | _ => none
  | .pop => match st with
    | a :: r => if catA a == 1 then some (B, pc + 1, la, r) else none
    | _ => none
  | .goto off => match tgt pc off with
    | some t => some (B, t, la, st)
    | none => none
  | j => match binN j, st with
    | some F, .inl b :: .inl a :: r => some ((F B a b).1, pc + 1, la, .inl (F B a b).2 :: r)
    | _, _ => none
section ASOK
variable {B B' : BD} {ρ : Nat → Int} {i : Instr} {pc pc' : Nat} {la la' : List (Option AVa)} {lv : List (Option Value)} {sa sa' : List AVa} {st : List Value}
/-- what a step's soundness says -/
def stepOk (B : BD) (ρ : Nat → Int) (i : Instr) (pc : Nat) (lv : List (Option Value)) (st : List Value) (B' : BD) (pc' : Nat) (la' : List (Option AVa)) (sa' : List AVa) : Prop := ∃ ρ' lv' st', okB B' ρ' ∧ ext B ρ B' ρ' ∧ sA i pc lv st = some (pc', lv', st') ∧ rL B' ρ' la' lv' ∧ rS B' ρ' sa' st'
theorem bin_step {F : BD → AN → AN → BD × AN} (hF : binN i = some F) (hB : okB B ρ) (hL : rL B ρ la lv) {a b : AN} {r : List AVa} (hS : rS B ρ (.inl b :: .inl a :: r) st) : stepOk B ρ i pc lv st (F B a b).1 (pc + 1) la (.inl (F B a b).2 :: r) := by
  obtain ⟨v, vs, rfl, hv, hS1⟩ := rS_cons hS
  obtain ⟨w, ws, rfl, hw, hS2⟩ := rS_cons hS1
  obtain ⟨y, rfl, hy⟩ := rV_int hv
  obtain ⟨x, rfl, hx⟩ := rV_int hw
  obtain ⟨z, h1, ρ', h2, h3, h4⟩ := binN_ok hF hB hx hy pc lv ws
  exact ⟨ρ', lv, _, h2, h3, h1, rL_ext h3 hL, h4, rS_ext h3 hS2⟩
theorem any_step (hB : okB B ρ) (hL : rL B ρ la lv) {r : List AVa} {vs : List Value} (hS : rS B ρ r vs) {z : Int32} (h : sA i pc lv st = some (pc + 1, lv, .int z :: vs)) : stepOk B ρ i pc lv st (anyN B).1 (pc + 1) la (.inl (anyN B).2 :: r) := by
  obtain ⟨ρ', h2, h3, h4⟩ := anyN_ok hB z
  exact ⟨ρ', lv, _, h2, h3, h, rL_ext h3 hL, h4, rS_ext h3 hS⟩
theorem long_step (hB : okB B ρ) (hL : rL B ρ la lv) {r : List AVa} {vs : List Value} (hS : rS B ρ r vs) {z : Int64} (h : sA i pc lv st = some (pc + 1, lv, .long z :: vs)) : stepOk B ρ i pc lv st B (pc + 1) la (.inr (.inr none) :: r) :=
  ⟨ρ, lv, _, hB, ext_rf, h, hL, (fun c hc => by cases hc), hS⟩
theorem lnw_step (hL : rL B ρ la lv) {r : List AVa} {vs : List Value} (hS : rS B ρ r vs) {z : Int64} {q : BD × Option AN} (hg : lgives B ρ q z) (h : sA i pc lv st = some (pc + 1, lv, .long z :: vs)) : stepOk B ρ i pc lv st q.1 (pc + 1) la (.inr (.inr q.2) :: r) := by
  obtain ⟨ρ', g1, g2, g3⟩ := hg
  exact ⟨ρ', lv, _, g1, g2, h, rL_ext g2 hL, g3, rS_ext g2 hS⟩
theorem aS_ok (hB : okB B ρ) (hL : rL B ρ la lv) (hS : rS B ρ sa st) (h : aS B i pc la sa = some (B', pc', la', sa')) : stepOk B ρ i pc lv st B' pc' la' sa' := by
  cases i with
  | iconst n => cases h; exact ⟨ρ, lv, _, hB, ext_rf, rfl, hL, ⟨fun j hj => (by cases hj), rfl⟩, hS⟩
  | bipush n => cases h; exact ⟨ρ, lv, _, hB, ext_rf, rfl, hL, ⟨fun j hj => (by cases hj), rfl⟩, hS⟩
  | sipush n => cases h; exact ⟨ρ, lv, _, hB, ext_rf, rfl, hL, ⟨fun j hj => (by cases hj), rfl⟩, hS⟩
  | lconst n => cases h; exact ⟨ρ, lv, _, hB, ext_rf, rfl, hL, (fun c hc => by cases hc; exact ⟨fun j hj => (by cases hj), rfl⟩), hS⟩
  | iload_n k =>
    simp only [aS] at h
    split at h
    · rename_i n hk
      cases h
      obtain ⟨v, h1, h2⟩ := hL.2 _ _ hk
      obtain ⟨x, rfl, hx⟩ := rV_int h2
      exact ⟨ρ, lv, .int x :: st, hB, ext_rf, by simp only [sA, ldI, h1]; rfl, hL, hx, hS⟩
    · cases h
  | iload k =>
    simp only [aS] at h
    split at h
    · rename_i n hk
      cases h
      obtain ⟨v, h1, h2⟩ := hL.2 _ _ hk
      obtain ⟨x, rfl, hx⟩ := rV_int h2
      exact ⟨ρ, lv, .int x :: st, hB, ext_rf, by simp only [sA, ldI, h1]; rfl, hL, hx, hS⟩
    · cases h
  | lload_n k =>
    simp only [aS] at h
    split at h
    · rename_i n hk
      cases h
      obtain ⟨v, h1, h2⟩ := hL.2 _ _ hk
      obtain ⟨x, rfl, hx⟩ := rV_long h2
      exact ⟨ρ, lv, .long x :: st, hB, ext_rf, by simp only [sA, ldL, h1]; rfl, hL, hx, hS⟩
    · cases h
  | lload k =>
    simp only [aS] at h
    split at h
    · rename_i n hk
      cases h
      obtain ⟨v, h1, h2⟩ := hL.2 _ _ hk
      obtain ⟨x, rfl, hx⟩ := rV_long h2
      exact ⟨ρ, lv, .long x :: st, hB, ext_rf, by simp only [sA, ldL, h1]; rfl, hL, hx, hS⟩
    · cases h
  | aload_n k =>
    simp only [aS] at h
    split at h
    · rename_i n hk
      cases h
      obtain ⟨v, h1, h2⟩ := hL.2 _ _ hk
      cases rV_ref h2
      exact ⟨ρ, lv, .ref n :: st, hB, ext_rf, by simp only [sA, ldA, h1]; rfl, hL, rfl, hS⟩
    · cases h
  | aload k =>
    simp only [aS] at h
    split at h
    · rename_i n hk
      cases h
      obtain ⟨v, h1, h2⟩ := hL.2 _ _ hk
      cases rV_ref h2
      exact ⟨ρ, lv, .ref n :: st, hB, ext_rf, by simp only [sA, ldA, h1]; rfl, hL, rfl, hS⟩
    · cases h
  | istore_n k =>
    simp only [aS] at h
    split at h
    · split at h
      · rename_i hc
        cases h
        obtain ⟨v, vs, rfl, hv, hr⟩ := rS_cons hS
        obtain ⟨x, rfl, hx⟩ := rV_int hv
        exact ⟨ρ, st1 lv k (.int x), vs, hB, ext_rf, by simp only [sA, sto1]; rw [if_pos (by rw [← hL.1]; exact hc)]; rfl, sta1_ok hL hv, hr⟩
      · cases h
    · cases h
  | istore k =>
    simp only [aS] at h
    split at h
    · split at h
      · rename_i hc
        cases h
        obtain ⟨v, vs, rfl, hv, hr⟩ := rS_cons hS
        obtain ⟨x, rfl, hx⟩ := rV_int hv
        exact ⟨ρ, st1 lv k (.int x), vs, hB, ext_rf, by simp only [sA, sto1]; rw [if_pos (by rw [← hL.1]; exact hc)]; rfl, sta1_ok hL hv, hr⟩
      · cases h
    · cases h
  | lstore_n k =>
    simp only [aS] at h
    split at h
    · split at h
      · rename_i hc
        cases h
        obtain ⟨v, vs, rfl, hv, hr⟩ := rS_cons hS
        obtain ⟨x, rfl, hx⟩ := rV_long hv
        exact ⟨ρ, st2 lv k (.long x), vs, hB, ext_rf, by simp only [sA, sto2]; rw [if_pos (by rw [← hL.1]; exact hc)]; rfl, sta2_ok hL hv, hr⟩
      · cases h
    · cases h
  | lstore k =>
    simp only [aS] at h
    split at h
    · split at h
      · rename_i hc
        cases h
        obtain ⟨v, vs, rfl, hv, hr⟩ := rS_cons hS
        obtain ⟨x, rfl, hx⟩ := rV_long hv
        exact ⟨ρ, st2 lv k (.long x), vs, hB, ext_rf, by simp only [sA, sto2]; rw [if_pos (by rw [← hL.1]; exact hc)]; rfl, sta2_ok hL hv, hr⟩
      · cases h
    · cases h
  | astore_n k =>
    simp only [aS] at h
    split at h
    · split at h
      · rename_i q r hc
        cases h
        obtain ⟨v, vs, rfl, hv, hr⟩ := rS_cons hS
        cases rV_ref hv
        exact ⟨ρ, st1 lv k (.ref q), vs, hB, ext_rf, by simp only [sA, sto1]; rw [if_pos (by rw [← hL.1]; exact hc)]; rfl, sta1_ok hL hv, hr⟩
      · cases h
    · cases h
  | astore k =>
    simp only [aS] at h
    split at h
    · split at h
      · rename_i q r hc
        cases h
        obtain ⟨v, vs, rfl, hv, hr⟩ := rS_cons hS
        cases rV_ref hv
        exact ⟨ρ, st1 lv k (.ref q), vs, hB, ext_rf, by simp only [sA, sto1]; rw [if_pos (by rw [← hL.1]; exact hc)]; rfl, sta1_ok hL hv, hr⟩
      · cases h
    · cases h
  | iinc k c =>
    simp only [aS] at h
    split at h
    · rename_i n hk
      split at h
      · rename_i hc
        cases h
        obtain ⟨v, h1, h2⟩ := hL.2 _ _ hk
        obtain ⟨x, rfl, hx⟩ := rV_int h2
        obtain ⟨ρ', g1, g2, g3⟩ := addN_ok hB hx (b := (none, (Int32.ofInt c).toInt)) (y := Int32.ofInt c) ⟨fun j hj => (by cases hj), rfl⟩
        have g4 : rV _ ρ' (.inl (addN B n (none, (Int32.ofInt c).toInt)).2) (.int (x + Int32.ofInt c)) := g3
        exact ⟨ρ', st1 lv k (.int (x + Int32.ofInt c)), st, g1, g2, by simp only [sA, h1, sto1]; rw [if_pos (by rw [← hL.1]; exact hc)]; rfl, sta1_ok (rL_ext g2 hL) g4, rS_ext g2 hS⟩
      · cases h
    · cases h
  | ineg =>
    simp only [aS] at h
    split at h
    · cases h
      obtain ⟨v, vs, rfl, hv, hr⟩ := rS_cons hS
      obtain ⟨x, rfl, hx⟩ := rV_int hv
      exact any_step hB hL hr rfl
    · cases h
  | i2b =>
    simp only [aS] at h
    split at h
    · cases h
      obtain ⟨v, vs, rfl, hv, hr⟩ := rS_cons hS
      obtain ⟨x, rfl, hx⟩ := rV_int hv
      exact any_step hB hL hr rfl
    · cases h
  | i2s =>
    simp only [aS] at h
    split at h
    · cases h
      obtain ⟨v, vs, rfl, hv, hr⟩ := rS_cons hS
      obtain ⟨x, rfl, hx⟩ := rV_int hv
      exact any_step hB hL hr rfl
    · cases h
  | i2l =>
    simp only [aS] at h
    split at h
    · cases h
      obtain ⟨v, vs, rfl, hv, hr⟩ := rS_cons hS
      obtain ⟨x, rfl, hx⟩ := rV_int hv
      exact ⟨ρ, lv, .long x.toInt64 :: vs, hB, ext_rf, rfl, hL, (fun c hc => by cases hc; exact ⟨hx.1, by rw [Int32.toInt_toInt64]; exact hx.2⟩), hr⟩
    · cases h
  | ladd =>
    simp only [aS] at h
    split at h
    · cases h
      obtain ⟨v, vs, rfl, hv, hr⟩ := rS_cons hS
      obtain ⟨w, ws, rfl, hw, hr2⟩ := rS_cons hr
      obtain ⟨y, rfl, hy⟩ := rV_long hv
      obtain ⟨x, rfl, hx⟩ := rV_long hw
      exact lnw_step hL hr2 (lnw_ok hB (z := x + y) (fun q hq => (laddB_ok hB hx hy q hq).2)) rfl
    · cases h
  | lsub =>
    simp only [aS] at h
    split at h
    · cases h
      obtain ⟨v, vs, rfl, hv, hr⟩ := rS_cons hS
      obtain ⟨w, ws, rfl, hw, hr2⟩ := rS_cons hr
      obtain ⟨y, rfl, hy⟩ := rV_long hv
      obtain ⟨x, rfl, hx⟩ := rV_long hw
      exact lnw_step hL hr2 (lnw_ok hB (z := x - y) (fun q hq => (lsubB_ok hB hx hy q hq).2)) rfl
    · cases h
  | lmul =>
    simp only [aS] at h
    split at h
    · cases h
      obtain ⟨v, vs, rfl, hv, hr⟩ := rS_cons hS
      obtain ⟨w, ws, rfl, hw, hr2⟩ := rS_cons hr
      obtain ⟨y, rfl, hy⟩ := rV_long hv
      obtain ⟨x, rfl, hx⟩ := rV_long hw
      exact lnw_step hL hr2 (lnw_ok hB (z := x * y) (fun q hq => (lmulB_ok hB hx hy q hq).2)) rfl
    · cases h
  | land =>
    simp only [aS] at h
    split at h
    · cases h
      obtain ⟨v, vs, rfl, hv, hr⟩ := rS_cons hS
      obtain ⟨w, ws, rfl, hw, hr2⟩ := rS_cons hr
      obtain ⟨x, rfl, hx⟩ := rV_long hv
      obtain ⟨y, rfl, hy⟩ := rV_long hw
      exact long_step hB hL hr2 rfl
    · cases h
  | lshr =>
    simp only [aS] at h
    split at h
    · cases h
      obtain ⟨v, vs, rfl, hv, hr⟩ := rS_cons hS
      obtain ⟨w, ws, rfl, hw, hr2⟩ := rS_cons hr
      obtain ⟨x, rfl, hx⟩ := rV_int hv
      obtain ⟨y, rfl, hy⟩ := rV_long hw
      exact long_step hB hL hr2 rfl
    · cases h
  | lshl =>
    simp only [aS] at h
    split at h
    · rename_i n o r
      cases h
      obtain ⟨v, vs, rfl, hv, hr⟩ := rS_cons hS
      obtain ⟨w, ws, rfl, hw, hr2⟩ := rS_cons hr
      obtain ⟨x, rfl, hx⟩ := rV_int hv
      obtain ⟨y, rfl, hy⟩ := rV_long hw
      exact lnw_step hL hr2 (lshlB_ok hB hy hx) rfl
    · cases h
  | lcmp =>
    simp only [aS] at h
    split at h
    · cases h
      obtain ⟨v, vs, rfl, hv, hr⟩ := rS_cons hS
      obtain ⟨w, ws, rfl, hw, hr2⟩ := rS_cons hr
      obtain ⟨x, rfl, hx⟩ := rV_long hv
      obtain ⟨y, rfl, hy⟩ := rV_long hw
      obtain ⟨ρ', g1, g2, g3⟩ := newN_ok hB (lg_cmp_b y x).1 (lg_cmp_b y x).2
      exact ⟨ρ', lv, .int (lg_cmp y x) :: ws, g1, g2, rfl, rL_ext g2 hL, g3, rS_ext g2 hr2⟩
    · cases h
  | dup =>
    simp only [aS] at h
    split at h
    · split at h
      · rename_i hc
        cases h
        obtain ⟨v, vs, rfl, hv, hr⟩ := rS_cons hS
        exact ⟨ρ, lv, v :: v :: vs, hB, ext_rf, by simp only [sA, catA_eq hv, hc]; rfl, hL, hv, hv, hr⟩
      · cases h
    · cases h
  | dup2 =>
    simp only [aS] at h
    split at h
    · split at h
      · rename_i hc
        cases h
        obtain ⟨v, vs, rfl, hv, hr⟩ := rS_cons hS
        obtain ⟨w, ws, rfl, hw, hr2⟩ := rS_cons hr
        exact ⟨ρ, lv, v :: w :: v :: w :: ws, hB, ext_rf, by simp only [sA, catA_eq hv, catA_eq hw, hc]; rfl, hL, hv, hw, hv, hw, hr2⟩
      · cases h
    · cases h
  | pop =>
    simp only [aS] at h
    split at h
    · split at h
      · rename_i hc
        cases h
        obtain ⟨v, vs, rfl, hv, hr⟩ := rS_cons hS
        exact ⟨ρ, lv, vs, hB, ext_rf, by simp only [sA, catA_eq hv, hc]; rfl, hL, hr⟩
      · cases h
    · cases h
  | goto off =>
    simp only [aS] at h
    split at h
    · rename_i t ht
      cases h
      exact ⟨ρ, lv, st, hB, ext_rf, by simp only [sA, ht]; rfl, hL, hS⟩
    · cases h
  | iadd => simp only [aS] at h; split at h <;> first | (rename_i F b a r hF; cases h; exact bin_step hF hB hL hS) | cases h
  | isub => simp only [aS] at h; split at h <;> first | (rename_i F b a r hF; cases h; exact bin_step hF hB hL hS) | cases h
  | imul => simp only [aS] at h; split at h <;> first | (rename_i F b a r hF; cases h; exact bin_step hF hB hL hS) | cases h
  | iand => simp only [aS] at h; split at h <;> first | (rename_i F b a r hF; cases h; exact bin_step hF hB hL hS) | cases h
  | ior => simp only [aS] at h; split at h <;> first | (rename_i F b a r hF; cases h; exact bin_step hF hB hL hS) | cases h
  | ixor => simp only [aS] at h; split at h <;> first | (rename_i F b a r hF; cases h; exact bin_step hF hB hL hS) | cases h
  | ishl => simp only [aS] at h; split at h <;> first | (rename_i F b a r hF; cases h; exact bin_step hF hB hL hS) | cases h
  | ishr => simp only [aS] at h; split at h <;> first | (rename_i F b a r hF; cases h; exact bin_step hF hB hL hS) | cases h
  | iushr => simp only [aS] at h; split at h <;> first | (rename_i F b a r hF; cases h; exact bin_step hF hB hL hS) | cases h
  | _ => simp [aS, binN] at h
end ASOK
