/-! ===== values, cells, locals ===== -/
def rV (B : BD) (ρ : Nat → Int) (a : AVa) (v : Value) : Prop := match a, v with
  | .inl n, .int x => rN B ρ n x
  | .inr (.inl r), .ref q => q = r
  | .inr (.inr o), .long z => ∀ n, o = some n → okN B n ∧ z.toInt = den ρ n
  | _, _ => False
theorem rV_ext {B B' : BD} {ρ ρ' : Nat → Int} (e : ext B ρ B' ρ') {a : AVa} {v : Value} (h : rV B ρ a v) : rV B' ρ' a v := by
  match a, v, h with
  | .inl n, .int x, h => exact rN_ext e h
  | .inr (.inl r), .ref q, h => exact h
  | .inr (.inr o), .long z, h =>
    intro n hn
    obtain ⟨h1, h2⟩ := h n hn
    refine ⟨fun j hj => Nat.lt_of_lt_of_le (h1 j hj) e.1, h2.trans ?_⟩
    unfold den
    cases hk : n.1 with
    | none => rfl
    | some j => simp only; rw [e.2 j (h1 j hk)]
theorem rV_int {B : BD} {ρ : Nat → Int} {n : AN} {v : Value} (h : rV B ρ (.inl n) v) : ∃ x, v = .int x ∧ rN B ρ n x := by
  match v, h with
  | .int x, h => exact ⟨x, rfl, h⟩
theorem rV_ref {B : BD} {ρ : Nat → Int} {r : Nat} {v : Value} (h : rV B ρ (.inr (.inl r)) v) : v = .ref r := by
  match v, h with
  | .ref q, h => rw [show q = r from h]
theorem rV_long {B : BD} {ρ : Nat → Int} {o : Option AN} {v : Value} (h : rV B ρ (.inr (.inr o)) v) : ∃ z, v = .long z ∧ ∀ n, o = some n → okN B n ∧ z.toInt = den ρ n := by
  match v, h with
  | .long z, h => exact ⟨z, rfl, h⟩
def rS (B : BD) (ρ : Nat → Int) : List AVa → List Value → Prop
  | [], [] => True
  | a :: as, v :: vs => rV B ρ a v ∧ rS B ρ as vs
  | _, _ => False
theorem rS_ext {B B' : BD} {ρ ρ' : Nat → Int} (e : ext B ρ B' ρ') : ∀ {as : List AVa} {vs : List Value}, rS B ρ as vs → rS B' ρ' as vs
  | [], [], _ => trivial
  | _ :: _, _ :: _, h => ⟨rV_ext e h.1, rS_ext e h.2⟩
  | [], _ :: _, h => h.elim
  | _ :: _, [], h => h.elim
theorem rS_cons {B : BD} {ρ : Nat → Int} {a : AVa} {as : List AVa} {st : List Value} (h : rS B ρ (a :: as) st) : ∃ v vs, st = v :: vs ∧ rV B ρ a v ∧ rS B ρ as vs := by
  match st, h with
  | v :: vs, h => exact ⟨v, vs, rfl, h.1, h.2⟩
theorem rS_len {B : BD} {ρ : Nat → Int} : ∀ {as : List AVa} {vs : List Value}, rS B ρ as vs → as.length = vs.length
  | [], [], _ => rfl
  | _ :: _, _ :: _, h => by rw [List.length_cons, List.length_cons, rS_len h.2]
  | [], _ :: _, h => h.elim
  | _ :: _, [], h => h.elim
def rL (B : BD) (ρ : Nat → Int) (la : List (Option AVa)) (lv : List (Option Value)) : Prop := la.length = lv.length ∧ ∀ (i : Nat) (a : AVa), la[i]? = some (some a) → ∃ v, lv[i]? = some (some v) ∧ rV B ρ a v
theorem rL_ext {B B' : BD} {ρ ρ' : Nat → Int} (e : ext B ρ B' ρ') {la : List (Option AVa)} {lv : List (Option Value)} (h : rL B ρ la lv) : rL B' ρ' la lv := ⟨h.1, fun i a hi => by
  obtain ⟨v, h1, h2⟩ := h.2 i a hi
  exact ⟨v, h1, rV_ext e h2⟩⟩
def catA (a : AVa) : Nat := match a with
  | .inr (.inr _) => 2
  | _ => 1
theorem catA_eq {B : BD} {ρ : Nat → Int} {a : AVa} {v : Value} (h : rV B ρ a v) : v.category = catA a := by
  match a, v, h with
  | .inl n, .int x, _ => rfl
  | .inr (.inl r), .ref q, _ => rfl
  | .inr (.inr o), .long z, _ => rfl
/-- a store of one place: what stood a place before it may have been a long's first half -/
def sta1 (la : List (Option AVa)) (i : Nat) (a : AVa) : List (Option AVa) := (match i with
  | 0 => la
  | j + 1 => match la[j]? with
    | some (some w) => if catA w == 2 then la.set j none else la
    | _ => la.set j none).set i (some a)
theorem sta1_ok {B : BD} {ρ : Nat → Int} {la : List (Option AVa)} {lv : List (Option Value)} (h : rL B ρ la lv) {i : Nat} {a : AVa} {v : Value} (hv : rV B ρ a v) : rL B ρ (sta1 la i a) (st1 lv i v) := by
  have hlen : (sta1 la i a).length = la.length := by
    unfold sta1
    rw [List.length_set]
    cases i with
    | zero => rfl
    | succ j =>
      simp only
      split
      · split
        · rw [List.length_set]
        · rfl
      · rw [List.length_set]
  refine ⟨by rw [hlen, h.1]; unfold st1; rw [List.length_set, clr1_length], fun k b hk => ?_⟩
  unfold sta1 at hk
  by_cases hki : k = i
  · subst hki
    have hl : k < (sta1 la k a).length := (List.getElem?_eq_some_iff.mp hk).1
    rw [hlen] at hl
    rw [List.getElem?_set_self (by unfold sta1 at hlen; rw [List.length_set] at hlen; omega)] at hk
    cases hk
    refine ⟨v, ?_, hv⟩
    unfold st1
    rw [List.getElem?_set_self (by rw [clr1_length, ← h.1]; exact hl)]
  · rw [List.getElem?_set_ne (Ne.symm hki)] at hk
    have key : la[k]? = some (some b) ∧ ¬ (k + 1 = i ∧ catA b = 2) := by
      cases i with
      | zero => exact ⟨hk, fun q => by omega⟩
      | succ j =>
        simp only at hk
        split at hk
        · rename_i w hw
          split at hk
          · by_cases hkj : k = j
            · subst hkj
              rw [List.getElem?_set_self (List.getElem?_eq_some_iff.mp hw).1] at hk
              cases hk
            · rw [List.getElem?_set_ne (Ne.symm hkj)] at hk
              exact ⟨hk, fun q => by omega⟩
          · rename_i hc
            refine ⟨hk, fun q => ?_⟩
            have : k = j := by omega
            subst this
            rw [hw] at hk
            cases hk
            exact hc (by rw [q.2]; rfl)
        · by_cases hkj : k = j
          · subst hkj
            by_cases hl : k < la.length
            · rw [List.getElem?_set_self hl] at hk
              cases hk
            · rw [List.getElem?_eq_none (by rw [List.length_set]; omega)] at hk
              cases hk
          · rw [List.getElem?_set_ne (Ne.symm hkj)] at hk
            exact ⟨hk, fun q => by omega⟩
    obtain ⟨w, h1, h2⟩ := h.2 k b key.1
    refine ⟨w, ?_, h2⟩
    unfold st1
    rw [List.getElem?_set_ne (Ne.symm hki)]
    -- the clearing leaves it
    unfold clr1
    cases i with
    | zero => exact h1
    | succ j =>
      simp only
      split
      · rename_i w0 hw0
        split
        · rename_i hc
          have hkj : ¬ k = j := fun q => by
            subst q
            rw [hw0] at h1
            cases h1
            exact key.2 ⟨rfl, by rw [← catA_eq h2]; simpa using hc⟩
          rw [List.getElem?_set_ne (Ne.symm hkj)]
          exact h1
        · exact h1
      · exact h1
def sta2 (la : List (Option AVa)) (i : Nat) (a : AVa) : List (Option AVa) := (sta1 la i a).set (i + 1) none
theorem sta2_ok {B : BD} {ρ : Nat → Int} {la : List (Option AVa)} {lv : List (Option Value)} (h : rL B ρ la lv) {i : Nat} {a : AVa} {v : Value} (hv : rV B ρ a v) : rL B ρ (sta2 la i a) (st2 lv i v) := by
  have h1 := sta1_ok (i := i) h hv
  have e : st2 lv i v = (st1 lv i v).set (i + 1) none := rfl
  rw [e]
  refine ⟨by unfold sta2; rw [List.length_set, List.length_set]; exact h1.1, fun k b hk => ?_⟩
  unfold sta2 at hk
  by_cases hki : k = i + 1
  · subst hki
    by_cases hl : i + 1 < (sta1 la i a).length
    · rw [List.getElem?_set_self hl] at hk
      cases hk
    · rw [List.getElem?_eq_none (by rw [List.length_set]; omega)] at hk
      cases hk
  · rw [List.getElem?_set_ne (Ne.symm hki)] at hk
    obtain ⟨w, g1, g2⟩ := h1.2 k b hk
    exact ⟨w, by rw [List.getElem?_set_ne (Ne.symm hki)]; exact g1, g2⟩
