/-! ===== the two constructors, by evaluation ===== -/
def rIs (r : Option (Option Value × AH × Nat × Nat)) (h0 : AH) (c s : Nat) : Bool := match r with
  | some (none, h, c', s') => decide (h = h0) && (decide (c' = c) && decide (s' = s))
  | _ => false
theorem rIs_spec {r : Option (Option Value × AH × Nat × Nat)} {h0 : AH} {c s : Nat} (h : rIs r h0 c s = true) : r = some (none, h0, c, s) := by
  unfold rIs at h
  split at h
  · simp only [Bool.and_eq_true, decide_eq_true_eq] at h
    obtain ⟨rfl, rfl, rfl⟩ := h
    rfl
  · cases h
set_option maxRecDepth 1000000 in
theorem rX0_is : rIs rX0 hX0 57 979 = true := by decide +kernel
set_option maxRecDepth 1000000 in
theorem rY0_is : rIs rY0 hY0 34 1516 = true := by decide +kernel
theorem ctX0 : Ct mX6_init 12 57 979 [.ref 0] [oX] (fun v2 hp2 => v2 = none ∧ hp2 = hX0) := Ct_ev noO_ok (k := 42) rfl (by decide) (rIs_spec rX0_is)
theorem ctY0 : Ct mX7_init 12 34 1516 [.ref 0] [oY] (fun v2 hp2 => v2 = none ∧ hp2 = hY0) := Ct_ev noO_ok (k := 103) rfl (by decide) (rIs_spec rY0_is)
def isObj (h : AH) (ci : Nat) : Bool := match (h[(0 : Nat)]? : Option AC) with
  | some (.inr (.inr (cj, _))) => decide (cj = ci)
  | _ => false
theorem isObj_spec {h : AH} {ci : Nat} (q : isObj h ci = true) : ∃ fs, (h[(0 : Nat)]? : Option AC) = some (.inr (.inr (ci, fs))) := by
  unfold isObj at q
  split at q
  · rename_i cj fs e
    have := of_decide_eq_true q
    subst this
    exact ⟨fs, e⟩
  · cases q
set_option maxRecDepth 1000000 in
theorem oX_is : isObj hX0 6 = true := by decide +kernel
set_option maxRecDepth 1000000 in
theorem oY_is : isObj hY0 7 = true := by decide +kernel
/-! ===== what the tables give at the law's entry: classes, arrays ===== -/
theorem arr_known {args : Array Value} {s : State} {ty : FieldType} (h : (Cond.arrayClass ty).before args s = true) : ∃ cA, ArrOfT s cA ty ∧ s.vm.findClass ("[" ++ ty.toString) = some cA := by
  obtain ⟨cA, kA, comp, h1, h2, h3⟩ := Cond.arrayClass_spec h
  exact ⟨cA, fun n z => ⟨fun k h => (by cases h), kA, h2, comp, h3⟩, h1⟩
