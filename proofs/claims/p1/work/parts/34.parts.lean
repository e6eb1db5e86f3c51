/-! ===== every argument falls into one of finitely many bounds ===== -/
def inC (x : AC) : SC := match x with
  | .inl (ty, xs) => .inl (ty, xs.map .inl)
  | .inr (.inl rs) => .inr (.inl rs)
  | .inr (.inr (ci, fs)) => .inr (.inr (ci, fs.map .inl))
theorem inC_eq (ρ : Nat → Int32) (x : AC) : sc ρ (inC x) = x := by
  match x with
  | .inl (ty, xs) =>
    simp only [inC, sc, List.map_map]
    have : xs.map (si ρ ∘ Sum.inl) = xs := by
      have : xs.map (si ρ ∘ Sum.inl) = xs.map id := List.map_congr_left (fun _ _ => rfl)
      rw [this, List.map_id]
    rw [this]
  | .inr (.inl rs) => rfl
  | .inr (.inr (ci, fs)) =>
    simp only [inC, sc, List.map_map]
    have : fs.map (sv ρ ∘ Sum.inl) = fs := by
      have : fs.map (sv ρ ∘ Sum.inl) = fs.map id := List.map_congr_left (fun _ _ => rfl)
      rw [this, List.map_id]
    rw [this]
theorem inC_map (ρ : Nat → Int32) (hp : AH) : (hp.map inC).map (sc ρ) = hp := by
  rw [List.map_map]
  have : hp.map (sc ρ ∘ inC) = hp.map id := List.map_congr_left (fun x _ => inC_eq ρ x)
  rw [this, List.map_id]
def covB : Int → List (Int32 × Int32) → Bool
  | a, [] => decide (2147483647 < a)
  | a, (lo, hi) :: t => decide (lo.toInt = a) && covB (hi.toInt + 1) t
theorem covB_spec : ∀ (P : List (Int32 × Int32)) (a : Int), covB a P = true → ∀ x : Int32, a ≤ x.toInt → ∃ b ∈ P, b.1 ≤ x ∧ x ≤ b.2
  | [], a, h, x, hx => by
    have h1 : 2147483647 < a := of_decide_eq_true h
    have h2 := x.toInt_le
    have h3 : Int32.maxValue.toInt = 2147483647 := by decide
    omega
  | (lo, hi) :: t, a, h, x, hx => by
    simp only [covB, Bool.and_eq_true, decide_eq_true_eq] at h
    by_cases hh : x ≤ hi
    · exact ⟨(lo, hi), List.mem_cons_self, by rw [Int32.le_iff_toInt_le]; simp only; omega, hh⟩
    · have h2 : hi.toInt + 1 ≤ x.toInt := by rw [Int32.le_iff_toInt_le] at hh; omega
      obtain ⟨q, h3, h4⟩ := covB_spec t _ h.2 x h2
      exact ⟨q, List.mem_cons_of_mem _ h3, h4⟩
def combos {β : Type} : List (List β) → List (List β)
  | [] => [[]]
  | P :: Ps => P.flatMap (fun q => (combos Ps).map (fun t => q :: t))
theorem combos_ok : ∀ (Ps : List (List (Int32 × Int32))), Ps.all (covB (-2147483648)) = true → ∀ ρ : Nat → Int32, ∃ I ∈ combos Ps, I.length = Ps.length ∧ inI I ρ
  | [], _, ρ => ⟨[], List.mem_cons_self, rfl, fun j lo hi h => by simp at h⟩
  | P :: Ps, h, ρ => by
    rw [List.all_cons, Bool.and_eq_true] at h
    obtain ⟨q, hq, h1, h2⟩ := covB_spec P _ h.1 (ρ 0) (by have := (ρ 0).le_toInt; have h3 : -(2 : Int) ^ 31 = -2147483648 := by decide
                                                          omega)
    obtain ⟨I, hI, hl, hin⟩ := combos_ok Ps h.2 (fun j => ρ (j + 1))
    refine ⟨q :: I, List.mem_flatMap.mpr ⟨q, hq, List.mem_map.mpr ⟨I, hI, rfl⟩⟩, by rw [List.length_cons, hl, List.length_cons], fun j lo hi hj => ?_⟩
    cases j with
    | zero => rw [List.getElem?_cons_zero] at hj; cases hj; exact ⟨h1, h2⟩
    | succ j => rw [List.getElem?_cons_succ] at hj; exact hin j lo hi hj
def argF : Nat → List (Int32 × Int32) → List SV
  | _, [] => []
  | j, q :: I => (if q.1 = q.2 then .inl (.int q.1) else .inr j) :: argF (j + 1) I
def argV (ρ : Nat → Int32) : Nat → Nat → List Value
  | _, 0 => []
  | j, n + 1 => .int (ρ j) :: argV ρ (j + 1) n
theorem argF_eq {ρ : Nat → Int32} : ∀ (I : List (Int32 × Int32)) (j : Nat), (∀ (k : Nat) (lo hi : Int32), I[k]? = some (lo, hi) → lo ≤ ρ (j + k) ∧ ρ (j + k) ≤ hi) → (argF j I).map (sv ρ) = argV ρ j I.length
  | [], _, _ => rfl
  | q :: I, j, h => by
    have h0 := h 0 q.1 q.2 rfl
    have ht := argF_eq I (j + 1) (fun k lo hi hk => by
      have := h (k + 1) lo hi (by rw [List.getElem?_cons_succ]; exact hk)
      rw [show j + 1 + k = j + (k + 1) by omega]; exact this)
    simp only [argF, List.map_cons, List.length_cons, argV, ht]
    congr 1
    split
    · rename_i e
      rw [← e] at h0
      rw [Nat.add_zero, Int32.le_iff_toInt_le, Int32.le_iff_toInt_le] at h0
      simp only [sv]
      congr 1
      exact Int32.toInt_inj.mp (by omega)
    · rfl
def sX0 : List SC := hX0.map inC
def sY0 : List SC := hY0.map inC
def numS (v : SV) : Bool := match v with
  | .inl w => numB w
  | .inr _ => true
theorem numS_eq {v : SV} (h : numS v = true) (ρ : Nat → Int32) : numB (sv ρ v) = true := by
  cases v with
  | inl w => exact h
  | inr j => rfl
/-- an int, or a long -/
def kindS (lg : Bool) (v : SV) : Bool := match lg, v with
  | false, .inl (.int _) => true
  | false, .inr _ => true
  | true, .inl (.long _) => true
  | _, _ => false
def kindV (lg : Bool) (w : Value) : Prop := (lg = false → ∃ z, w = .int z) ∧ (lg = true → ∃ z, w = .long z)
theorem kindS_eq {lg : Bool} {v : SV} (h : kindS lg v = true) (ρ : Nat → Int32) : kindV lg (sv ρ v) := by
  match lg, v, h with
  | false, .inl (.int x), _ => exact ⟨fun _ => ⟨x, rfl⟩, fun q => by cases q⟩
  | false, .inr j, _ => exact ⟨fun _ => ⟨_, rfl⟩, fun q => by cases q⟩
  | true, .inl (.long x), _ => exact ⟨fun q => (by cases q), fun _ => ⟨x, rfl⟩⟩
def alikeS (lg : Bool) (kX kY mX mY : Nat) (I : List (Int32 × Int32)) : Bool := match evs I 3000 12 kX 0 (entS (.inl (.ref 0) :: argF 0 I) mX) [] sX0, evs I 3000 12 kY 0 (entS (.inl (.ref 0) :: argF 0 I) mY) [] sY0 with
  | some (some v, h), some (some w, g) => decide (v = w) && (kindS lg v && (decide (h.length = 58) && decide (g.length = 35)))
  | _, _ => false
theorem catF : ∀ (I : List (Int32 × Int32)) (j : Nat), ((argF j I).map catS).sum = I.length
  | [], _ => rfl
  | q :: I, j => by
    simp only [argF, List.map_cons, List.sum_cons, catF I, List.length_cons]
    split <;> simp [catS, Value.category] <;> omega
/-- one call on fresh objects: both answer, and alike -/
theorem op_ok {lg : Bool} {kX kY : Nat} {MX MY : MT} (Ps : List (List (Int32 × Int32))) (hX : mtL[kX]? = some MX) (hY : mtL[kY]? = some MY) (hmX : Ps.length + 1 ≤ MX.ml) (hmY : Ps.length + 1 ≤ MY.ml) (hcov : Ps.all (covB (-2147483648)) = true) (hall : (combos Ps).all (alikeS lg kX kY MX.ml MY.ml) = true) (ρ : Nat → Int32) :
    ∃ (w : Value) (hx hy : AH), kindV lg w ∧ hx.length = 58 ∧ hy.length = 35 ∧ Ct MX 12 0 0 (.ref 0 :: argV ρ 0 Ps.length) hX0 (fun v2 hp2 => v2 = some w ∧ hp2 = hx) ∧ Ct MY 12 0 0 (.ref 0 :: argV ρ 0 Ps.length) hY0 (fun v2 hp2 => v2 = some w ∧ hp2 = hy) := by
  obtain ⟨I, hI, hl, hin⟩ := combos_ok Ps hcov ρ
  have h := List.all_eq_true.mp hall I hI
  have hargs : (argF 0 I).map (sv ρ) = argV ρ 0 Ps.length := by rw [← hl]; exact argF_eq I 0 (fun k lo hi hk => by rw [Nat.zero_add]; exact hin k lo hi hk)
  unfold alikeS at h
  split at h
  · rename_i v h1 w g1 e1 e2
    simp only [Bool.and_eq_true, decide_eq_true_eq] at h
    obtain ⟨rfl, hn, l1, l2⟩ := h
    have c1 := Ct_evs hin hX (by simp only [List.map_cons, List.sum_cons, catF, catS, Value.category]; omega) e1
    have c2 := Ct_evs hin hY (by simp only [List.map_cons, List.sum_cons, catF, catS, Value.category]; omega) e2
    rw [List.map_cons, hargs] at c1 c2
    unfold sX0 at c1
    unfold sY0 at c2
    rw [inC_map] at c1 c2
    exact ⟨sv ρ v, h1.map (sc ρ), g1.map (sc ρ), kindS_eq hn ρ, by rw [List.length_map]; exact l1, by rw [List.length_map]; exact l2, c1, c2⟩
  · cases h
