/-! ===== the heap over names: arrays by their length and the bounds of all they hold, or item by item ===== -/
abbrev ACa : Type := (FieldType × Nat × Int × Int) ⊕ ((FieldType × List AN) ⊕ (List Nat ⊕ (Nat × List AVa)))
abbrev AHa : Type := List ACa
/-- a field of which nothing is known but that it is there -/
def isAny (a : AVa) : Bool := match a with
  | .inr (.inl r) => r == 999
  | _ => false
def rF (B : BD) (ρ : Nat → Int) (fa : List AVa) (fs : List Value) : Prop := fa.length = fs.length ∧ ∀ (i : Nat) (a : AVa), fa[i]? = some a → ∃ v, fs[i]? = some v ∧ (isAny a = true ∨ rV B ρ a v)
def rI (B : BD) (ρ : Nat → Int) (na : List AN) (xs : List Int32) : Prop := na.length = xs.length ∧ ∀ (i : Nat) (n : AN), na[i]? = some n → ∃ x, xs[i]? = some x ∧ rN B ρ n x
def rC (B : BD) (ρ : Nat → Int) (a : ACa) (x : AC) : Prop := match a, x with
  | .inl (ty, n, lo, hi), .inl (ty', xs) => ty = ty' ∧ xs.length = n ∧ ∀ y ∈ xs, lo ≤ y.toInt ∧ y.toInt ≤ hi
  | .inr (.inl (ty, ns)), .inl (ty', xs) => ty = ty' ∧ rI B ρ ns xs
  | .inr (.inr (.inl rs)), .inr (.inl qs) => qs = rs
  | .inr (.inr (.inr (ci, fa))), .inr (.inr (cj, fs)) => cj = ci ∧ rF B ρ fa fs
  | _, _ => False
theorem rF_ext {B B' : BD} {ρ ρ' : Nat → Int} (e : ext B ρ B' ρ') {fa : List AVa} {fs : List Value} (h : rF B ρ fa fs) : rF B' ρ' fa fs := ⟨h.1, fun i a hi => by
  obtain ⟨v, h1, h2⟩ := h.2 i a hi
  exact ⟨v, h1, h2.imp id (rV_ext e)⟩⟩
theorem rI_ext {B B' : BD} {ρ ρ' : Nat → Int} (e : ext B ρ B' ρ') {na : List AN} {xs : List Int32} (h : rI B ρ na xs) : rI B' ρ' na xs := ⟨h.1, fun i a hi => by
  obtain ⟨v, h1, h2⟩ := h.2 i a hi
  exact ⟨v, h1, rN_ext e h2⟩⟩
theorem rC_ext {B B' : BD} {ρ ρ' : Nat → Int} (e : ext B ρ B' ρ') {a : ACa} {x : AC} (h : rC B ρ a x) : rC B' ρ' a x := by
  match a, x, h with
  | .inl (ty, n, lo, hi), .inl (ty', xs), h => exact h
  | .inr (.inl (ty, ns)), .inl (ty', xs), h => exact ⟨h.1, rI_ext e h.2⟩
  | .inr (.inr (.inl rs)), .inr (.inl qs), h => exact h
  | .inr (.inr (.inr (ci, fa))), .inr (.inr (cj, fs)), h => exact ⟨h.1, rF_ext e h.2⟩
def pair (_ : AH) : Prop := True
def rH (B : BD) (ρ : Nat → Int) (ha : AHa) (hp : AH) : Prop := ha.length = hp.length ∧ (∀ (k : Nat) (a : ACa), ha[k]? = some a → ∃ x, hp[k]? = some x ∧ rC B ρ a x) ∧ pair hp
theorem rH_at {B : BD} {ρ : Nat → Int} {ha : AHa} {hp : AH} (h : rH B ρ ha hp) {k : Nat} {a : ACa} (hk : ha[k]? = some a) : ∃ x, hp[k]? = some x ∧ rC B ρ a x := h.2.1 k a hk
theorem rH_ext {B B' : BD} {ρ ρ' : Nat → Int} (e : ext B ρ B' ρ') {ha : AHa} {hp : AH} (h : rH B ρ ha hp) : rH B' ρ' ha hp := ⟨h.1, fun i a hi => by
  obtain ⟨v, h1, h2⟩ := h.2.1 i a hi
  exact ⟨v, h1, rC_ext e h2⟩, h.2.2⟩
def wOk (_ : AHa) (_ : Nat) : Bool := true
theorem pair_set {hp : AH} (_ : pair hp) {k : Nat} {x : AC} : pair (hp.set k x) := trivial
theorem rH_set {B : BD} {ρ : Nat → Int} {ha : AHa} {hp : AH} (h : rH B ρ ha hp) {k : Nat} (_ : wOk ha k = true) {a : ACa} {x : AC} (hx : rC B ρ a x) : rH B ρ (ha.set k a) (hp.set k x) := by
  refine ⟨by rw [List.length_set, List.length_set]; exact h.1, fun j b hj => ?_, pair_set h.2.2⟩
  by_cases hjk : j = k
  · subst hjk
    by_cases hl : j < ha.length
    · rw [List.getElem?_set_self hl] at hj
      cases hj
      exact ⟨x, List.getElem?_set_self (by rw [← h.1]; exact hl), hx⟩
    · rw [List.getElem?_eq_none (by rw [List.length_set]; omega)] at hj
      cases hj
  · rw [List.getElem?_set_ne (Ne.symm hjk)] at hj
    obtain ⟨y, h1, h2⟩ := h.2.1 j b hj
    exact ⟨y, by rw [List.getElem?_set_ne (Ne.symm hjk)]; exact h1, h2⟩
/-- a cell that stays as it is known, though its contents change -/
theorem rH_keep {B : BD} {ρ : Nat → Int} {ha : AHa} {hp : AH} (h : rH B ρ ha hp) {k : Nat} (_ : wOk ha k = true) {a : ACa} {x : AC} (ha1 : ha[k]? = some a) (hx : rC B ρ a x) : rH B ρ ha (hp.set k x) := by
  have := rH_set (k := k) h (show wOk ha k = true from rfl) hx
  have e : ha.set k a = ha := by
    apply List.ext_getElem?
    intro j
    by_cases hjk : j = k
    · subst hjk
      rw [List.getElem?_set_self (List.getElem?_eq_some_iff.mp ha1).1, ha1]
    · rw [List.getElem?_set_ne (Ne.symm hjk)]
  rw [e] at this
  exact this
theorem rC_obj {B : BD} {ρ : Nat → Int} {ci : Nat} {fa : List AVa} {x : AC} (h : rC B ρ (.inr (.inr (.inr (ci, fa)))) x) : ∃ fs, x = .inr (.inr (ci, fs)) ∧ rF B ρ fa fs := by
  match x, h with
  | .inr (.inr (cj, fs)), h => exact ⟨fs, by rw [h.1], h.2⟩
theorem rC_sum {B : BD} {ρ : Nat → Int} {ty : FieldType} {n : Nat} {lo hi : Int} {x : AC} (h : rC B ρ (.inl (ty, n, lo, hi)) x) : ∃ xs, x = .inl (ty, xs) ∧ xs.length = n ∧ ∀ y ∈ xs, lo ≤ y.toInt ∧ y.toInt ≤ hi := by
  match x, h with
  | .inl (ty', xs), h => exact ⟨xs, by rw [h.1], h.2⟩
theorem rC_items {B : BD} {ρ : Nat → Int} {ty : FieldType} {ns : List AN} {x : AC} (h : rC B ρ (.inr (.inl (ty, ns))) x) : ∃ xs, x = .inl (ty, xs) ∧ rI B ρ ns xs := by
  match x, h with
  | .inl (ty', xs), h => exact ⟨xs, by rw [h.1], h.2⟩
theorem rC_rows {B : BD} {ρ : Nat → Int} {rs : List Nat} {x : AC} (h : rC B ρ (.inr (.inr (.inl rs))) x) : x = .inr (.inl rs) := by
  match x, h with
  | .inr (.inl qs), h => rw [show qs = rs from h]
/-- an index within -/
def inA (B : BD) (n : AN) (len : Nat) : Bool := decide (0 ≤ (bnd B n).1) && decide ((bnd B n).2 < len)
theorem inA_ok {B : BD} {ρ : Nat → Int} (hB : okB B ρ) {n : AN} {x : Int32} (h : rN B ρ n x) {len : Nat} (hi : inA B n len = true) : vp_in x len ∧ x.toNatClampNeg < len := by
  unfold inA at hi
  rw [Bool.and_eq_true, decide_eq_true_eq, decide_eq_true_eq] at hi
  have h1 := bnd_ok hB h
  have h2 : vp_in x len := vp_in_iff.mpr ⟨by omega, by omega⟩
  exact ⟨h2, Nat.not_le.mp fun q => h2 (Or.inr q)⟩
theorem inB_of {x : Int32} {n : Nat} (h : vp_in x n) : inB x n = true := by
  unfold inB
  rw [Bool.not_eq_true', Bool.or_eq_false_iff, decide_eq_false_iff_not, decide_eq_false_iff_not]
  exact ⟨fun q => h (Or.inl q), fun q => h (Or.inr q)⟩
theorem getD_mem {xs : List Int32} {k : Nat} (h : k < xs.length) : xs.getD k 0 ∈ xs := by
  rw [List.getD_eq_getElem?_getD, List.getElem?_eq_getElem h]
  exact List.getElem_mem h
theorem set_bounds {xs : List Int32} {k : Nat} {v : Int32} {lo hi : Int} (h : ∀ y ∈ xs, lo ≤ y.toInt ∧ y.toInt ≤ hi) (hv : lo ≤ v.toInt ∧ v.toInt ≤ hi) : ∀ y ∈ xs.set k v, lo ≤ y.toInt ∧ y.toInt ≤ hi := by
  intro y hy
  rcases List.mem_or_eq_of_mem_set hy with q | q
  · exact h y q
  · rw [q]; exact hv
