/-! ===== the facts that a step tells ===== -/
def mkF (B : BD) (t : Nat) (r : AN) (l : List AN) : List FC := if r.1 = some B.length then [(t, r :: l, [])] else []
def tgS (B : BD) (i : Instr) (a b : AN) : Option Nat := match i with
  | .iadd => some (if i32 ((bnd B a).1 + (bnd B b).1) ((bnd B a).2 + (bnd B b).2) = true then 4 else 16)
  | .isub => some (if i32 ((bnd B a).1 - (bnd B b).2) ((bnd B a).2 - (bnd B b).1) = true then 5 else 29)
  | .imul => some (if (bnd B a).1 = (bnd B a).2 ∧ 0 ≤ (bnd B a).1 ∧ i32 ((bnd B a).1 * (bnd B b).1) ((bnd B a).1 * (bnd B b).2) = true then 6 else if (bnd B b).1 = (bnd B b).2 ∧ 0 ≤ (bnd B b).1 ∧ i32 ((bnd B b).1 * (bnd B a).1) ((bnd B b).1 * (bnd B a).2) = true then 6 else 17)
  | .iand => some 10
  | .ior => some 11
  | .ixor => some 12
  | .ishl => some 13
  | .ishr => some 14
  | .iushr => some 15
  | _ => none
def opZ (i : Instr) (x y : Int32) : Int32 := match i with
  | .iadd => x + y
  | .isub => x - y
  | .imul => x * y
  | .iand => x &&& y
  | .ior => x ||| y
  | .ixor => x ^^^ y
  | .ishl => x <<< (y &&& 31)
  | .ishr => x >>> (y &&& 31)
  | .iushr => (x.toUInt32 >>> (y.toUInt32 &&& Int32.toUInt32 31)).toInt32
  | _ => 0
theorem opZ_ok {B : BD} {i : Instr} {a b : AN} {t : Nat} (h : tgS B i a b = some t) (pc : Nat) (lv : List (Option Value)) (x y : Int32) (r : List Value) : sA i pc lv (.int y :: .int x :: r) = some (pc + 1, lv, .int (opZ i x y) :: r) := by
  cases i <;> first | rfl | cases h
theorem tgS_ok {B : BD} {ρ : Nat → Int} (hB : okB B ρ) {i : Instr} {a b : AN} {x y : Int32} (ha : rN B ρ a x) (hb : rN B ρ b y) {t : Nat} (h : tgS B i a b = some t) : t < 64 ∧ hT t [(opZ i x y).toInt, x.toInt, y.toInt] [] := by
  have h1 := bnd_ok hB ha
  have h2 := bnd_ok hB hb
  cases i with
  | iadd =>
    simp only [tgS, Option.some.injEq] at h
    split at h
    · rename_i hi
      subst h
      unfold i32 at hi
      rw [Bool.and_eq_true, decide_eq_true_eq, decide_eq_true_eq] at hi
      exact ⟨by decide, toInt_add_in (by omega) (by omega)⟩
    · subst h
      refine ⟨by decide, ?_⟩
      show (x + y).toInt = mAdd x.toInt y.toInt
      unfold mAdd
      rw [ofInt_toInt, ofInt_toInt]
  | isub =>
    simp only [tgS, Option.some.injEq] at h
    split at h
    · rename_i hi
      subst h
      unfold i32 at hi
      rw [Bool.and_eq_true, decide_eq_true_eq, decide_eq_true_eq] at hi
      exact ⟨by decide, toInt_sub_in (by omega) (by omega)⟩
    · subst h
      refine ⟨by decide, ?_⟩
      show (x - y).toInt = mSub x.toInt y.toInt
      unfold mSub
      rw [ofInt_toInt, ofInt_toInt]
  | imul =>
    simp only [tgS, Option.some.injEq] at h
    split at h
    · rename_i hc
      obtain ⟨c1, c2, c3⟩ := hc
      unfold i32 at c3
      rw [Bool.and_eq_true, decide_eq_true_eq, decide_eq_true_eq] at c3
      have ex : x.toInt = (bnd B a).1 := by omega
      have l1 : (bnd B a).1 * (bnd B b).1 ≤ x.toInt * y.toInt := by rw [ex]; exact Int.mul_le_mul_of_nonneg_left h2.1 c2
      have l2 : x.toInt * y.toInt ≤ (bnd B a).1 * (bnd B b).2 := by rw [ex]; exact Int.mul_le_mul_of_nonneg_left h2.2 c2
      subst h
      exact ⟨by decide, toInt_mul_in (by omega) (by omega)⟩
    · split at h
      · rename_i hc
        obtain ⟨c1, c2, c3⟩ := hc
        unfold i32 at c3
        rw [Bool.and_eq_true, decide_eq_true_eq, decide_eq_true_eq] at c3
        have ey : y.toInt = (bnd B b).1 := by omega
        have l1 : (bnd B b).1 * (bnd B a).1 ≤ x.toInt * y.toInt := by rw [ey, Int.mul_comm x.toInt]; exact Int.mul_le_mul_of_nonneg_left h1.1 c2
        have l2 : x.toInt * y.toInt ≤ (bnd B b).1 * (bnd B a).2 := by rw [ey, Int.mul_comm x.toInt]; exact Int.mul_le_mul_of_nonneg_left h1.2 c2
        subst h
        exact ⟨by decide, toInt_mul_in (by omega) (by omega)⟩
      · subst h
        refine ⟨by decide, ?_⟩
        show (x * y).toInt = mMul x.toInt y.toInt
        unfold mMul
        rw [ofInt_toInt, ofInt_toInt]
  | iand => cases h; exact ⟨by decide, by show (x &&& y).toInt = mAnd x.toInt y.toInt; unfold mAnd; rw [ofInt_toInt, ofInt_toInt]⟩
  | ior => cases h; exact ⟨by decide, by show (x ||| y).toInt = mOr x.toInt y.toInt; unfold mOr; rw [ofInt_toInt, ofInt_toInt]⟩
  | ixor => cases h; exact ⟨by decide, by show (x ^^^ y).toInt = mXor x.toInt y.toInt; unfold mXor; rw [ofInt_toInt, ofInt_toInt]⟩
  | ishl => cases h; exact ⟨by decide, by show (x <<< (y &&& 31)).toInt = mShl x.toInt y.toInt; unfold mShl; rw [ofInt_toInt, ofInt_toInt]⟩
  | ishr => cases h; exact ⟨by decide, by show (x >>> (y &&& 31)).toInt = mShr x.toInt y.toInt; unfold mShr; rw [ofInt_toInt, ofInt_toInt]⟩
  | iushr => cases h; exact ⟨by decide, by show (x.toUInt32 >>> (y.toUInt32 &&& Int32.toUInt32 31)).toInt32.toInt = mUsh x.toInt y.toInt; unfold mUsh; rw [ofInt_toInt, ofInt_toInt]⟩
  | _ => cases h
section FST
variable {PT : PTy} {B B' : BD} {ρ ρ' : Nat → Int} {na : Nat} {α : Nat → Int → Int}
theorem mkF2 (e : ext B ρ B' ρ') {r a b : AN} {x y z : Int32} {t : Nat} (hr : rN B' ρ' r z) (ha : rN B ρ a x) (hb : rN B ρ b y) (ht : t < 64) (h : hT t [z.toInt, x.toInt, y.toInt] []) : okF PT B' na ρ' α (mkF B t r [a, b]) := by
  unfold mkF
  split
  · refine okF_one ⟨fun q hq => ?_, fun s hs => absurd hs List.not_mem_nil, ?_⟩
    · simp only [List.mem_cons, List.not_mem_nil, or_false] at hq
      rcases hq with rfl | rfl | rfl
      · exact hr.1
      · exact (rN_ext e ha).1
      · exact (rN_ext e hb).1
    · rw [hF_lo ht]
      show hT t [den ρ' r, den ρ' a, den ρ' b] []
      rw [← hr.2, ← (rN_ext e ha).2, ← (rN_ext e hb).2]
      exact h
  · exact okF_nil
theorem mkF1 (e : ext B ρ B' ρ') {r a : AN} {x z : Int32} {t : Nat} (hr : rN B' ρ' r z) (ha : rN B ρ a x) (ht : t < 64) (h : hT t [z.toInt, x.toInt] []) : okF PT B' na ρ' α (mkF B t r [a]) := by
  unfold mkF
  split
  · refine okF_one ⟨fun q hq => ?_, fun s hs => absurd hs List.not_mem_nil, ?_⟩
    · simp only [List.mem_cons, List.not_mem_nil, or_false] at hq
      rcases hq with rfl | rfl
      · exact hr.1
      · exact (rN_ext e ha).1
    · rw [hF_lo ht]
      show hT t [den ρ' r, den ρ' a] []
      rw [← hr.2, ← (rN_ext e ha).2]
      exact h
  · exact okF_nil
end FST
theorem mkF2i {PT : PTy} {B B' : BD} {ρ ρ' : Nat → Int} {na : Nat} {α : Nat → Int → Int} (e : ext B ρ B' ρ') {r a b : AN} {x y z : Int} {t : Nat} (hr : okN B' r) (er : z = den ρ' r) (ha : okN B a) (ea : x = den ρ a) (hb : okN B b) (eb : y = den ρ b) (ht : t < 64) (h : hT t [z, x, y] []) : okF PT B' na ρ' α (mkF B t r [a, b]) := by
  unfold mkF
  split
  · refine okF_one ⟨fun q hq => ?_, fun s hs => absurd hs List.not_mem_nil, ?_⟩
    · simp only [List.mem_cons, List.not_mem_nil, or_false] at hq
      rcases hq with rfl | rfl | rfl
      · exact hr
      · exact fun j hj => Nat.lt_of_lt_of_le (ha j hj) e.1
      · exact fun j hj => Nat.lt_of_lt_of_le (hb j hj) e.1
    · rw [hF_lo ht]
      show hT t [den ρ' r, den ρ' a, den ρ' b] []
      rw [← er, den_ext e ha, den_ext e hb, ← ea, ← eb]
      exact h
  · exact okF_nil
/-- longs -/
def fL (B : BD) (i : Instr) (sa sa' : List AVa) : List FC := match i with
  | .ladd => match sa, sa' with
    | .inr (.inr (some b)) :: .inr (.inr (some a)) :: _, .inr (.inr (some r)) :: _ => mkF B 4 r [a, b]
    | _, _ => []
  | .lsub => match sa, sa' with
    | .inr (.inr (some b)) :: .inr (.inr (some a)) :: _, .inr (.inr (some r)) :: _ => mkF B 5 r [a, b]
    | _, _ => []
  | .lmul => match sa, sa' with
    | .inr (.inr (some b)) :: .inr (.inr (some a)) :: _, .inr (.inr (some r)) :: _ => mkF B 6 r [a, b]
    | _, _ => []
  | .lcmp => match sa, sa' with
    | .inr (.inr (some b)) :: .inr (.inr (some a)) :: _, .inl r :: _ => mkF B 28 r [a, b]
    | _, _ => []
  | _ => []
theorem lg_cmp_i (x y : Int64) : (lg_cmp x y).toInt = cmpI x.toInt y.toInt := by
  unfold lg_cmp cmpI
  simp only [gt_iff_lt, Int64.lt_iff_toInt_lt, ← Int64.toInt_inj]
  split
  · rfl
  · split <;> rfl
theorem lnw_some {B : BD} {o : Option (Int × Int)} {n : AN} (h : (lnw B o).2 = some n) : ∃ q, o = some q := by
  cases o with
  | none => cases h
  | some q => exact ⟨q, rfl⟩
def fS2 (B : BD) (i : Instr) (sa sa' : List AVa) : List FC := match sa, sa' with
  | .inl b :: .inl a :: _, .inl r :: _ => match tgS B i a b with
    | some t => mkF B t r [a, b]
    | none => []
  | _, _ => []
def tgU (B : BD) (i : Instr) (a : AN) : Option Nat := match i with
  | .ineg => if -2147483648 < (bnd B a).1 then some 9 else none
  | .i2b => some 18
  | .i2s => some 19
  | _ => none
def fU (B : BD) (i : Instr) (sa sa' : List AVa) : List FC := match sa, sa' with
  | .inl a :: _, .inl r :: _ => match tgU B i a with
    | some t => mkF B t r [a]
    | none => []
  | _, _ => []
def fS (B : BD) (i : Instr) (sa sa' : List AVa) : List FC := fS2 B i sa sa' ++ (fU B i sa sa' ++ fL B i sa sa')
theorem neg_in {x : Int32} (h : -2147483648 < x.toInt) : (-x).toInt = - x.toInt := by
  have h2 := int32_hi x
  rw [Int32.toInt_neg]
  exact Int.bmod_eq_of_le (by omega) (by omega)
theorem tgU_ok {B : BD} {ρ : Nat → Int} (hB : okB B ρ) {i : Instr} {a : AN} {x : Int32} (ha : rN B ρ a x) {t : Nat} (h : tgU B i a = some t) (pc : Nat) (lv : List (Option Value)) (r : List Value) : ∃ z, sA i pc lv (.int x :: r) = some (pc + 1, lv, .int z :: r) ∧ t < 64 ∧ hT t [z.toInt, x.toInt] [] := by
  have h1 := bnd_ok hB ha
  cases i with
  | ineg =>
    simp only [tgU] at h
    split at h
    · cases h
      exact ⟨-x, rfl, by decide, neg_in (by omega)⟩
    · cases h
  | i2b => cases h; exact ⟨x.toInt8.toInt32, rfl, by decide, by show x.toInt8.toInt32.toInt = mI2b x.toInt; unfold mI2b; rw [ofInt_toInt]⟩
  | i2s => cases h; exact ⟨x.toInt16.toInt32, rfl, by decide, by show x.toInt16.toInt32.toInt = mI2s x.toInt; unfold mI2s; rw [ofInt_toInt]⟩
  | _ => cases h
section FST2
variable {PT : PTy} {B B' : BD} {ρ ρ' : Nat → Int} {na : Nat} {α : Nat → Int → Int} {i : Instr} {pc pc1 : Nat} {sa sa' : List AVa} {st st' : List Value} {lv lv' : List (Option Value)}
theorem fS2_ok (hB : okB B ρ) (hS : rS B ρ sa st) (e : ext B ρ B' ρ') (g : sA i pc lv st = some (pc1, lv', st')) (hS' : rS B' ρ' sa' st') : okF PT B' na ρ' α (fS2 B i sa sa') := by
  unfold fS2
  split
  · rename_i b a s r s'
    split
    · rename_i t ht
      obtain ⟨v, vs, rfl, hv, hr⟩ := rS_cons hS
      obtain ⟨u, us, rfl, hu, hr2⟩ := rS_cons hr
      obtain ⟨y, rfl, hy⟩ := rV_int hv
      obtain ⟨x, rfl, hx⟩ := rV_int hu
      rw [opZ_ok ht pc lv x y us] at g
      cases g
      obtain ⟨w, ws, hw, hv', -⟩ := rS_cons hS'
      cases hw
      obtain ⟨h1, h2⟩ := tgS_ok hB hx hy ht
      exact mkF2 e hv' hx hy h1 h2
    · exact okF_nil
  · exact okF_nil
theorem fU_ok (hB : okB B ρ) (hS : rS B ρ sa st) (e : ext B ρ B' ρ') (g : sA i pc lv st = some (pc1, lv', st')) (hS' : rS B' ρ' sa' st') : okF PT B' na ρ' α (fU B i sa sa') := by
  unfold fU
  split
  · rename_i a s r s'
    split
    · rename_i t ht
      obtain ⟨v, vs, rfl, hv, hr⟩ := rS_cons hS
      obtain ⟨x, rfl, hx⟩ := rV_int hv
      obtain ⟨z, h0, h1, h2⟩ := tgU_ok hB hx ht pc lv vs
      rw [h0] at g
      cases g
      obtain ⟨w, ws, hw, hv', -⟩ := rS_cons hS'
      cases hw
      exact mkF1 e hv' hx h1 h2
    · exact okF_nil
  · exact okF_nil
end FST2
/-- as aS, but a number that changes its sign keeps its bounds -/
def aSx (B : BD) (i : Instr) (pc : Nat) (la : List (Option AVa)) (sa : List AVa) : Option (BD × Nat × List (Option AVa) × List AVa) := match i with
  | .ineg => match sa with
    | .inl a :: s => if -2147483648 < (bnd B a).1 then some ((newN B (-(bnd B a).2) (-(bnd B a).1)).1, pc + 1, la, .inl (newN B (-(bnd B a).2) (-(bnd B a).1)).2 :: s) else none
    | _ => none
  | j => aS B j pc la sa
theorem aSx_ok {B B' : BD} {ρ : Nat → Int} {i : Instr} {pc pc' : Nat} {la la' : List (Option AVa)} {lv : List (Option Value)} {sa sa' : List AVa} {st : List Value} (hB : okB B ρ) (hL : rL B ρ la lv) (hS : rS B ρ sa st) (h : aSx B i pc la sa = some (B', pc', la', sa')) : stepOk B ρ i pc lv st B' pc' la' sa' := by
  unfold aSx at h
  split at h
  · split at h
    · rename_i a s
      split at h
      · rename_i hlo
        cases h
        obtain ⟨v, vs, rfl, hv, hr⟩ := rS_cons hS
        obtain ⟨x, rfl, hx⟩ := rV_int hv
        have hb := bnd_ok hB hx
        have hn := neg_in (x := x) (by omega)
        obtain ⟨ρ', g1, g2, g3⟩ := newN_ok hB (lo := -(bnd B a).2) (hi := -(bnd B a).1) (x := -x) (by omega) (by omega)
        exact ⟨ρ', lv, .int (-x) :: vs, g1, g2, rfl, rL_ext g2 hL, g3, rS_ext g2 hr⟩
      · cases h
    · cases h
  · exact aS_ok hB hL hS h
section FST3
variable {PT : PTy} {B B' : BD} {ρ ρ' : Nat → Int} {na : Nat} {α : Nat → Int → Int} {i : Instr} {pc pc1 : Nat} {sa sa' : List AVa} {st st' : List Value} {lv lv' : List (Option Value)} {la la' : List (Option AVa)}
theorem fL_add (h : aSx B .ladd pc la sa = some (B', pc1, la', sa')) (hB : okB B ρ) (hS : rS B ρ sa st) (e : ext B ρ B' ρ') (g : sA .ladd pc lv st = some (pc1, lv', st')) (hS' : rS B' ρ' sa' st') : okF PT B' na ρ' α (fL B .ladd sa sa') := by
  simp only [fL]
  split
  · rename_i b a s r s'
    obtain ⟨v, vs, rfl, hv, hr⟩ := rS_cons hS
    obtain ⟨u, us, rfl, hu, hr2⟩ := rS_cons hr
    obtain ⟨y, rfl, hy⟩ := rV_long hv
    obtain ⟨x, rfl, hx⟩ := rV_long hu
    have h2 : (lnw B (laddB B (some a) (some b))).2 = some r := by
      simp only [aSx, aS, Option.some.injEq, Prod.mk.injEq, List.cons.injEq, Sum.inr.injEq] at h
      exact h.2.2.2.1
    obtain ⟨q, hq⟩ := lnw_some h2
    have e1 := (laddB_ok hB hx hy q hq).1
    simp only [sA] at g
    cases g
    obtain ⟨w, ws, hw, hv', -⟩ := rS_cons hS'
    cases hw
    obtain ⟨k1, k2⟩ := hv' r rfl
    obtain ⟨a1, a2⟩ := hx a rfl
    obtain ⟨b1, b2⟩ := hy b rfl
    exact mkF2i e k1 k2 a1 a2 b1 b2 (by decide) e1
  · exact okF_nil
theorem fL_sub (h : aSx B .lsub pc la sa = some (B', pc1, la', sa')) (hB : okB B ρ) (hS : rS B ρ sa st) (e : ext B ρ B' ρ') (g : sA .lsub pc lv st = some (pc1, lv', st')) (hS' : rS B' ρ' sa' st') : okF PT B' na ρ' α (fL B .lsub sa sa') := by
  simp only [fL]
  split
  · rename_i b a s r s'
    obtain ⟨v, vs, rfl, hv, hr⟩ := rS_cons hS
    obtain ⟨u, us, rfl, hu, hr2⟩ := rS_cons hr
    obtain ⟨y, rfl, hy⟩ := rV_long hv
    obtain ⟨x, rfl, hx⟩ := rV_long hu
    have h2 : (lnw B (lsubB B (some a) (some b))).2 = some r := by
      simp only [aSx, aS, Option.some.injEq, Prod.mk.injEq, List.cons.injEq, Sum.inr.injEq] at h
      exact h.2.2.2.1
    obtain ⟨q, hq⟩ := lnw_some h2
    have e1 := (lsubB_ok hB hx hy q hq).1
    simp only [sA] at g
    cases g
    obtain ⟨w, ws, hw, hv', -⟩ := rS_cons hS'
    cases hw
    obtain ⟨k1, k2⟩ := hv' r rfl
    obtain ⟨a1, a2⟩ := hx a rfl
    obtain ⟨b1, b2⟩ := hy b rfl
    exact mkF2i e k1 k2 a1 a2 b1 b2 (by decide) e1
  · exact okF_nil
theorem fL_mul (h : aSx B .lmul pc la sa = some (B', pc1, la', sa')) (hB : okB B ρ) (hS : rS B ρ sa st) (e : ext B ρ B' ρ') (g : sA .lmul pc lv st = some (pc1, lv', st')) (hS' : rS B' ρ' sa' st') : okF PT B' na ρ' α (fL B .lmul sa sa') := by
  simp only [fL]
  split
  · rename_i b a s r s'
    obtain ⟨v, vs, rfl, hv, hr⟩ := rS_cons hS
    obtain ⟨u, us, rfl, hu, hr2⟩ := rS_cons hr
    obtain ⟨y, rfl, hy⟩ := rV_long hv
    obtain ⟨x, rfl, hx⟩ := rV_long hu
    have h2 : (lnw B (lmulB B (some a) (some b))).2 = some r := by
      simp only [aSx, aS, Option.some.injEq, Prod.mk.injEq, List.cons.injEq, Sum.inr.injEq] at h
      exact h.2.2.2.1
    obtain ⟨q, hq⟩ := lnw_some h2
    have e1 := (lmulB_ok hB hx hy q hq).1
    simp only [sA] at g
    cases g
    obtain ⟨w, ws, hw, hv', -⟩ := rS_cons hS'
    cases hw
    obtain ⟨k1, k2⟩ := hv' r rfl
    obtain ⟨a1, a2⟩ := hx a rfl
    obtain ⟨b1, b2⟩ := hy b rfl
    exact mkF2i e k1 k2 a1 a2 b1 b2 (by decide) e1
  · exact okF_nil
theorem fL_ok (h : aSx B i pc la sa = some (B', pc1, la', sa')) (hB : okB B ρ) (hS : rS B ρ sa st) (e : ext B ρ B' ρ') (g : sA i pc lv st = some (pc1, lv', st')) (hS' : rS B' ρ' sa' st') : okF PT B' na ρ' α (fL B i sa sa') := by
  cases i with
  | ladd => exact fL_add h hB hS e g hS'
  | lsub => exact fL_sub h hB hS e g hS'
  | lmul => exact fL_mul h hB hS e g hS'
  | lcmp =>
    simp only [fL]
    split
    · rename_i b a s r s'
      obtain ⟨v, vs, rfl, hv, hr⟩ := rS_cons hS
      obtain ⟨u, us, rfl, hu, hr2⟩ := rS_cons hr
      obtain ⟨y, rfl, hy⟩ := rV_long hv
      obtain ⟨x, rfl, hx⟩ := rV_long hu
      simp only [sA] at g
      cases g
      obtain ⟨w, ws, hw, hv', -⟩ := rS_cons hS'
      cases hw
      have hv' : rN B' ρ' r (lg_cmp x y) := hv'
      obtain ⟨a1, a2⟩ := hx a rfl
      obtain ⟨b1, b2⟩ := hy b rfl
      exact mkF2i e hv'.1 hv'.2 a1 a2 b1 b2 (by decide) (lg_cmp_i x y)
    · exact okF_nil
  | _ => exact okF_nil
theorem fS_ok (h : aSx B i pc la sa = some (B', pc1, la', sa')) (hB : okB B ρ) (hS : rS B ρ sa st) (e : ext B ρ B' ρ') (g : sA i pc lv st = some (pc1, lv', st')) (hS' : rS B' ρ' sa' st') : okF PT B' na ρ' α (fS B i sa sa') := fun f hf => by
  rcases List.mem_append.mp hf with q | q
  · exact fS2_ok hB hS e g hS' f q
  · rcases List.mem_append.mp q with q | q
    · exact fU_ok hB hS e g hS' f q
    · exact fL_ok h hB hS e g hS' f q
end FST3
/-! ===== a comparison's ===== -/
def fB (c : Jvm.ClassFile.Cond) (w : Bool) (x y : AN) : FC := match c, w with
  | .eq, true => (0, [x, y], [])
  | .eq, false => (1, [x, y], [])
  | .ne, true => (1, [x, y], [])
  | .ne, false => (0, [x, y], [])
  | .lt, true => (2, [x, y], [])
  | .lt, false => (3, [x, y], [])
  | .ge, true => (3, [x, y], [])
  | .ge, false => (2, [x, y], [])
  | .gt, true => (2, [y, x], [])
  | .gt, false => (3, [y, x], [])
  | .le, true => (3, [y, x], [])
  | .le, false => (2, [y, x], [])
def fBr (i : Instr) (sa : List AVa) (w : Bool) : List FC := match i with
  | .ifCond c _ => match sa with
    | .inl a :: _ => [fB c w a (none, 0)]
    | _ => []
  | .if_icmp c _ => match sa with
    | .inl b :: .inl a :: _ => [fB c w a b]
    | _ => []
  | _ => []
section FBR
variable {PT : PTy} {B : BD} {ρ : Nat → Int} {na : Nat} {α : Nat → Int → Int}
theorem two_ok {a b : AN} {x y : Int32} (ha : rN B ρ a x) (hb : rN B ρ b y) : ∀ q ∈ [a, b], okN B q := fun q hq => by
  simp only [List.mem_cons, List.not_mem_nil, or_false] at hq
  rcases hq with rfl | rfl
  · exact ha.1
  · exact hb.1
theorem fB_ok {c : Jvm.ClassFile.Cond} {w : Bool} {a b : AN} {x y : Int32} (ha : rN B ρ a x) (hb : rN B ρ b y) (h : cmpB c x y = w) : okF1 PT B na ρ α (fB c w a b) := by
  have da := ha.2
  have db := hb.2
  have n0 : ∀ s ∈ ([] : List Nat), s < na := fun s hs => absurd hs List.not_mem_nil
  cases w <;> cases c <;> simp only [cmpB, decide_eq_true_eq, decide_eq_false_iff_not, Int32.lt_iff_toInt_lt, Int32.le_iff_toInt_le, ← Int32.toInt_inj] at h
  · exact ⟨two_ok ha hb, n0, by show ¬ den ρ a = den ρ b; omega⟩
  · exact ⟨two_ok ha hb, n0, by show den ρ a = den ρ b; omega⟩
  · exact ⟨two_ok ha hb, n0, by show den ρ b ≤ den ρ a; omega⟩
  · exact ⟨two_ok ha hb, n0, by show den ρ a < den ρ b; omega⟩
  · exact ⟨two_ok hb ha, n0, by show den ρ a ≤ den ρ b; omega⟩
  · exact ⟨two_ok hb ha, n0, by show den ρ b < den ρ a; omega⟩
  · exact ⟨two_ok ha hb, n0, by show den ρ a = den ρ b; omega⟩
  · exact ⟨two_ok ha hb, n0, by show ¬ den ρ a = den ρ b; omega⟩
  · exact ⟨two_ok ha hb, n0, by show den ρ a < den ρ b; omega⟩
  · exact ⟨two_ok ha hb, n0, by show den ρ b ≤ den ρ a; omega⟩
  · exact ⟨two_ok hb ha, n0, by show den ρ b < den ρ a; omega⟩
  · exact ⟨two_ok hb ha, n0, by show den ρ a ≤ den ρ b; omega⟩
theorem fBr_ok {i : Instr} {pc t : Nat} {sa : List AVa} {st sv : List Value} {w : Bool} (hS : rS B ρ sa st) (h : bA i pc st = some (w, t, sv)) : okF PT B na ρ α (fBr i sa w) := by
  cases i with
  | ifCond c off =>
    simp only [fBr]
    split
    · obtain ⟨v, vs, rfl, hv, hr⟩ := rS_cons hS
      obtain ⟨x, rfl, hx⟩ := rV_int hv
      simp only [bA] at h
      obtain ⟨t1, -, he⟩ := Option.map_eq_some_iff.mp h
      cases he
      have h0 : rN B ρ (none, 0) 0 := ⟨fun j hj => (by cases hj), Int32.toInt_zero⟩
      exact okF_one (fB_ok hx h0 rfl)
    · exact okF_nil
  | if_icmp c off =>
    simp only [fBr]
    split
    · obtain ⟨v, vs, rfl, hv, hr⟩ := rS_cons hS
      obtain ⟨u, us, rfl, hu, hr2⟩ := rS_cons hr
      obtain ⟨y, rfl, hy⟩ := rV_int hv
      obtain ⟨x, rfl, hx⟩ := rV_int hu
      simp only [bA] at h
      obtain ⟨t1, -, he⟩ := Option.map_eq_some_iff.mp h
      cases he
      exact okF_one (fB_ok hx hy rfl)
    · exact okF_nil
  | _ => exact okF_nil
end FBR
