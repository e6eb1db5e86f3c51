/-! ===== steps over the heap, over names: every outcome that may be ===== -/
abbrev OUT : Type := BD × Nat × List AVa × AHa
def fHoldA (ty : FieldType) (a : AVa) : Bool := match ty, a with
  | .int, .inl _ => true
  | .object _, .inr (.inl _) => true
  | .array _, .inr (.inl _) => true
  | _, _ => false
theorem fHoldA_ok {B : BD} {ρ : Nat → Int} {ty : FieldType} {a : AVa} {v : Value} (h : fHoldA ty a = true) (hv : rV B ρ a v) : fHold ty v = true := by
  match ty, a, h with
  | .int, .inl n, _ => obtain ⟨x, rfl, -⟩ := rV_int hv; rfl
  | .object _, .inr (.inl r), _ => cases rV_ref hv; rfl
  | .array _, .inr (.inl r), _ => cases rV_ref hv; rfl
def knwA (B : BD) (n : AN) : Bool := decide ((bnd B n).1 = (bnd B n).2)
/-- reading an int array -/
def aldA (B : BD) (ty : FieldType) (n : AN) (c : ACa) : Option (BD × AN) := match c with
  | .inl (ty', len, lo, hi) => if ty' = ty ∧ inA B n len = true then some (newN B lo hi) else none
  | .inr (.inl (ty', ns)) => if ty' = ty ∧ inA B n ns.length = true then (if knwA B n = true then (match ns[(bnd B n).1.toNat]? with
      | some m => some (B, m)
      | none => none) else some (anyN B)) else none
  | _ => none
theorem aldA_ok {B : BD} {ρ : Nat → Int} (hB : okB B ρ) {ty : FieldType} {n : AN} {x : Int32} (hx : rN B ρ n x) {c : ACa} {y : AC} (hc : rC B ρ c y) {q : BD × AN} (h : aldA B ty n c = some q) : ∃ xs, y = .inl (ty, xs) ∧ inB x xs.length = true ∧ gives B ρ q (xs.getD x.toNatClampNeg 0) := by
  unfold aldA at h
  split at h
  · split at h
    · rename_i hi
      obtain ⟨rfl, hi⟩ := hi
      cases h
      obtain ⟨xs, rfl, hl, hb⟩ := rC_sum hc
      rw [← hl] at hi
      obtain ⟨g1, g2⟩ := inA_ok hB hx hi
      have := hb _ (getD_mem g2)
      exact ⟨xs, rfl, inB_of g1, newN_ok hB this.1 this.2⟩
    · cases h
  · split at h
    · rename_i hi
      obtain ⟨rfl, hi⟩ := hi
      obtain ⟨xs, rfl, hl⟩ := rC_items hc
      rw [hl.1] at hi
      obtain ⟨g1, g2⟩ := inA_ok hB hx hi
      split at h
      · rename_i hk
        split at h
        · rename_i m hm
          cases h
          have hk := of_decide_eq_true hk
          have hb := bnd_ok hB hx
          have e : (bnd B n).1.toNat = x.toNatClampNeg := by
            have e1 : (bnd B n).1 = x.toInt := by omega
            rw [e1]; rfl
          rw [e] at hm
          obtain ⟨z, h1, h2⟩ := hl.2 _ _ hm
          refine ⟨xs, rfl, inB_of g1, ?_⟩
          have e2 : xs.getD x.toNatClampNeg 0 = z := by rw [List.getD_eq_getElem?_getD, h1]; rfl
          rw [e2]
          exact same_ok hB h2
        · cases h
      · cases h
        exact ⟨xs, rfl, inB_of g1, anyN_ok hB _⟩
    · cases h
  · cases h
/-- writing to one -/
def astA (B : BD) (ty : FieldType) (n v : AN) (c : ACa) : Option ACa := match c with
  | .inl (ty', len, lo, hi) => if ty' = ty ∧ inA B n len = true ∧ lo ≤ (bnd B v).1 ∧ (bnd B v).2 ≤ hi then some (.inl (ty', len, lo, hi)) else none
  | .inr (.inl (ty', ns)) => if ty' = ty ∧ inA B n ns.length = true ∧ knwA B n = true then some (.inr (.inl (ty', ns.set (bnd B n).1.toNat v))) else none
  | _ => none
theorem astA_ok {B : BD} {ρ : Nat → Int} (hB : okB B ρ) {ty : FieldType} {n v : AN} {x z : Int32} (hx : rN B ρ n x) (hz : rN B ρ v z) {c c' : ACa} {y : AC} (hc : rC B ρ c y) (h : astA B ty n v c = some c') : ∃ xs, y = .inl (ty, xs) ∧ inB x xs.length = true ∧ rC B ρ c' (.inl (ty, xs.set x.toNatClampNeg z)) := by
  unfold astA at h
  have hbz := bnd_ok hB hz
  split at h
  · split at h
    · rename_i hi
      obtain ⟨rfl, hi, h1, h2⟩ := hi
      cases h
      obtain ⟨xs, rfl, hl, hb⟩ := rC_sum hc
      rw [← hl] at hi
      obtain ⟨g1, g2⟩ := inA_ok hB hx hi
      exact ⟨xs, rfl, inB_of g1, rfl, by rw [List.length_set]; exact hl, set_bounds hb ⟨by omega, by omega⟩⟩
    · cases h
  · split at h
    · rename_i hi
      obtain ⟨rfl, hi, hk⟩ := hi
      cases h
      obtain ⟨xs, rfl, hl⟩ := rC_items hc
      rw [hl.1] at hi
      obtain ⟨g1, g2⟩ := inA_ok hB hx hi
      have hk := of_decide_eq_true hk
      have hb := bnd_ok hB hx
      have e : (bnd B n).1.toNat = x.toNatClampNeg := by
        have e1 : (bnd B n).1 = x.toInt := by omega
        rw [e1]; rfl
      rw [e]
      refine ⟨xs, rfl, inB_of g1, rfl, by rw [List.length_set, List.length_set]; exact hl.1, fun j m hj => ?_⟩
      by_cases hjk : j = x.toNatClampNeg
      · rw [hjk, List.getElem?_set_self (by rw [hl.1]; exact g2)] at hj
        cases hj
        exact ⟨z, by rw [hjk]; exact List.getElem?_set_self g2, hz⟩
      · rw [List.getElem?_set_ne (Ne.symm hjk)] at hj
        obtain ⟨w, h1, h2⟩ := hl.2 j m hj
        exact ⟨w, by rw [List.getElem?_set_ne (Ne.symm hjk)]; exact h1, h2⟩
    · cases h
  · cases h
def outOk (B : BD) (ρ : Nat → Int) (d : Nat) (M : MT) (i : Instr) (pc : Nat) (st : List Value) (hp : AH) (o : OUT) : Prop := ∃ ρ' st' hp', okB o.1 ρ' ∧ ext B ρ o.1 ρ' ∧ hA d M i pc st hp = some (o.2.1, st', hp') ∧ rS o.1 ρ' o.2.2.1 st' ∧ rH o.1 ρ' o.2.2.2 hp'
def aH1 (d : Nat) (B : BD) (M : MT) (i : Instr) (pc : Nat) (sa : List AVa) (ha : AHa) : Option OUT := match i with
  | .getfield idx => match sa with
    | .inr (.inl r) :: s => match fRes M.cn idx, ha[r]? with
      | some (ci, sl, _), some (.inr (.inr (.inr (cj, fa)))) => if ci = cj then (match fa[sl]? with
        | some a => if isAny a = true then none else some (B, pc + 3, a :: s, ha)
        | none => none) else none
      | _, _ => none
    | _ => none
  | .putfield idx => match sa with
    | a :: .inr (.inl r) :: s => match fRes M.cn idx, ha[r]? with
      | some (ci, sl, _), some (.inr (.inr (.inr (cj, fa)))) => if ci = cj ∧ sl < fa.length ∧ fHoldA (fTy ci sl) a = true ∧ fFin ci sl = false ∧ wOk ha r = true then some (B, pc + 3, s, ha.set r (.inr (.inr (.inr (ci, fa.set sl a))))) else none
      | _, _ => none
    | _ => none
  | .iaload => match sa with
    | .inl n :: .inr (.inl r) :: s => match ha[r]? with
      | some c => match aldA B .int n c with
        | some q => some (q.1, pc + 1, .inl q.2 :: s, ha)
        | none => none
      | none => none
    | _ => none
  | .baload => match sa with
    | .inl n :: .inr (.inl r) :: s => match ha[r]? with
      | some c => match aldA B .boolean n c with
        | some q => some (q.1, pc + 1, .inl q.2 :: s, ha)
        | none => none
      | none => none
    | _ => none
  | .iastore => match sa with
    | .inl v :: .inl n :: .inr (.inl r) :: s => match ha[r]? with
      | some c => match astA B .int n v c with
        | some c' => if wOk ha r = true then some (B, pc + 1, s, ha.set r c') else none
        | none => none
      | none => none
    | _ => none
  | .bastore => match sa with
    | .inl v :: .inl n :: .inr (.inl r) :: s => match ha[r]? with
      | some c => if 0 ≤ (bnd B v).1 ∧ (bnd B v).2 ≤ 1 then (match astA B .boolean n v c with
        | some c' => if wOk ha r = true then some (B, pc + 1, s, ha.set r c') else none
        | none => none) else none
      | none => none
    | _ => none
  | .arraylength => match sa with
    | .inr (.inl r) :: s => match ha[r]? with
      | some (.inl (.int, len, _, _)) => some (B, pc + 1, .inl (none, (Int32.ofNat len).toInt) :: s, ha)
      | _ => none
    | _ => none
  | .idiv => match sa with
    | .inl b :: .inl a :: s => if 1 ≤ (bnd B b).1 then some ((divN B a b).1, pc + 1, .inl (divN B a b).2 :: s, ha) else none
    | _ => none
  | .irem => match sa with
    | .inl b :: .inl a :: s => if 1 ≤ (bnd B b).1 then some ((remN B a b).1, pc + 1, .inl (remN B a b).2 :: s, ha) else none
    | _ => none
  | .ldc idx => match ciRes M.cn idx with
    | some (v, _) => some (B, pc + 2, .inl (none, v.toInt) :: sa, ha)
    | none => none
  | .ldc_w idx => match ciRes M.cn idx with
    | some (v, _) => some (B, pc + 3, .inl (none, v.toInt) :: sa, ha)
    | none => none
  | .ldc2_w idx => match clRes M.cn idx with
    | some (v, _) => some (B, pc + 3, .inr (.inr (some (none, v.toInt))) :: sa, ha)
    | none => none
  | .invokestatic idx => match mRes M.cn idx, sa with
    | some (kd, _, _, _, _), .inl n :: .inl dp :: .inr (.inl k1) :: .inl sp :: .inr (.inl k0) :: s => match ha[k0]?, ha[k1]? with
      | some (.inl (.int, n0, lo0, hi0)), some (.inl (.int, n1, lo1, hi1)) => if kd = 6 ∧ (s.map catA).sum ≤ 8 ∧ 0 < d ∧ 0 ≤ (bnd B n).1 ∧ 0 ≤ (bnd B dp).1 ∧ 0 ≤ (bnd B sp).1 ∧ (bnd B sp).2 + (bnd B n).2 ≤ n0 ∧ (bnd B dp).2 + (bnd B n).2 ≤ n1 ∧ lo1 ≤ lo0 ∧ hi0 ≤ hi1 ∧ wOk ha k1 = true then some (B, pc + 3, s, ha) else none
      | _, _ => none
    | _, _ => none
  | _ => none
