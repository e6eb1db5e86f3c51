/-! ===== contracts as an oracle ===== -/
/-- method, depth; before: bounds, arguments, heap; behind: bounds of new names, answer, heap (names of before, then the new ones) -/
abbrev CTR : Type := Nat × Nat × BD × List AVa × AHa × BD × Option AVa × AHa
def ctrOk (c : CTR) : Prop := ∀ (NM : MT), mtL[c.1]? = some NM → ∀ (ρ : Nat → Int) (av : List Value) (hp : AH), okB c.2.2.1 ρ → rS c.2.2.1 ρ c.2.2.2.1 av → rH c.2.2.1 ρ c.2.2.2.2.1 hp → Ct NM c.2.1 0 0 av hp (fun v hp' => ∃ ρ', okB (c.2.2.1 ++ c.2.2.2.2.2.1) ρ' ∧ ext c.2.2.1 ρ (c.2.2.1 ++ c.2.2.2.2.2.1) ρ' ∧ rO (c.2.2.1 ++ c.2.2.2.2.2.1) ρ' c.2.2.2.2.2.2.1 v ∧ rH (c.2.2.1 ++ c.2.2.2.2.2.1) ρ' c.2.2.2.2.2.2.2 hp')
def sbN (τ : Nat → AN) (n : AN) : AN := match n.1 with
  | none => n
  | some j => ((τ j).1, (τ j).2 + n.2)
def sbV (τ : Nat → AN) (a : AVa) : AVa := match a with
  | .inl n => .inl (sbN τ n)
  | .inr q => .inr q
def sbC (τ : Nat → AN) (c : ACa) : ACa := match c with
  | .inl q => .inl q
  | .inr (.inl (ty, ns)) => .inr (.inl (ty, ns.map (sbN τ)))
  | .inr (.inr (.inl rs)) => .inr (.inr (.inl rs))
  | .inr (.inr (.inr (ci, fa))) => .inr (.inr (.inr (ci, fa.map (sbV τ))))
/-- names by τ: each stands for the same number -/
def sbOk (B1 : BD) (r1 : Nat → Int) (B2 : BD) (r2 : Nat → Int) (τ : Nat → AN) : Prop := ∀ j, j < B1.length → okN B2 (τ j) ∧ den r2 (τ j) = r1 j
section SB
variable {B1 B2 : BD} {r1 r2 : Nat → Int} {τ : Nat → AN}
theorem sbN_ok (h : sbOk B1 r1 B2 r2 τ) {n : AN} {x : Int32} (hn : rN B1 r1 n x) : rN B2 r2 (sbN τ n) x := by
  unfold sbN
  cases e : n.1 with
  | none =>
    refine ⟨fun j hj => (by rw [e] at hj; cases hj), ?_⟩
    have := hn.2
    unfold den at this ⊢
    rw [e] at this ⊢
    exact this
  | some j =>
    obtain ⟨g1, g2⟩ := h j (hn.1 j e)
    refine ⟨fun k hk => g1 k hk, ?_⟩
    have := hn.2
    unfold den at this
    rw [e] at this
    simp only at this
    rw [this, ← g2]
    unfold den
    cases (τ j).1 <;> simp only <;> omega
theorem sbV_ok (h : sbOk B1 r1 B2 r2 τ) {a : AVa} {v : Value} (hv : rV B1 r1 a v) : rV B2 r2 (sbV τ a) v := by
  match a, v, hv with
  | .inl n, .int x, hv => exact sbN_ok h hv
  | .inr (.inl r), .ref q, hv => exact hv
  | .inr (.inr o), .long z, hv => exact hv
theorem sbC_ok (h : sbOk B1 r1 B2 r2 τ) {a : ACa} {x : AC} (hx : rC B1 r1 a x) : rC B2 r2 (sbC τ a) x := by
  match a, x, hx with
  | .inl (ty, n, lo, hi), .inl (ty', xs), hx => exact hx
  | .inr (.inl (ty, ns)), .inl (ty', xs), hx =>
    refine ⟨hx.1, by rw [List.length_map]; exact hx.2.1, fun i n hi => ?_⟩
    rw [List.getElem?_map] at hi
    obtain ⟨m, hm, rfl⟩ := Option.map_eq_some_iff.mp hi
    obtain ⟨z, q1, q2⟩ := hx.2.2 i m hm
    exact ⟨z, q1, sbN_ok h q2⟩
  | .inr (.inr (.inl rs)), .inr (.inl qs), hx => exact hx
  | .inr (.inr (.inr (ci, fa))), .inr (.inr (cj, fs)), hx =>
    refine ⟨hx.1, by rw [List.length_map]; exact hx.2.1, fun i a hi => ?_⟩
    rw [List.getElem?_map] at hi
    obtain ⟨m, hm, rfl⟩ := Option.map_eq_some_iff.mp hi
    obtain ⟨z, q1, q2⟩ := hx.2.2 i m hm
    exact ⟨z, q1, sbV_ok h q2⟩
theorem sbH_ok (h : sbOk B1 r1 B2 r2 τ) {ha : AHa} {hp : AH} (hH : rH B1 r1 ha hp) : rH B2 r2 (ha.map (sbC τ)) hp := by
  refine ⟨by rw [List.length_map]; exact hH.1, fun i a hi => ?_⟩
  rw [List.getElem?_map] at hi
  obtain ⟨m, hm, rfl⟩ := Option.map_eq_some_iff.mp hi
  obtain ⟨z, q1, q2⟩ := hH.2 i m hm
  exact ⟨z, q1, sbC_ok h q2⟩
end SB
def inTa (Bt : BD) (ts : List AVa) (ht : AHa) (σ : Nat → AN) (B : BD) (as : List AVa) (ha : AHa) : Bool := bOk B σ Bt && (zipB (vOk B σ Bt.length) ts as && zipB (cOkA B σ Bt.length) ht ha)
theorem zip_rS {B Bt : BD} {ρ : Nat → Int} (hB : okB B ρ) {σ : Nat → AN} : ∀ {ts as : List AVa} {vs : List Value}, zipB (vOk B σ Bt.length) ts as = true → rS B ρ as vs → rS Bt (ρt σ ρ) ts vs
  | [], [], [], _, _ => trivial
  | t :: ts, a :: as, v :: vs, h, hS => by
    simp only [zipB, Bool.and_eq_true] at h
    exact ⟨vOk_ok hB h.1 hS.1, zip_rS hB h.2 hS.2⟩
  | [], [], _ :: _, _, hS => hS.elim
  | _ :: _, _ :: _, [], _, hS => hS.elim
def tauC (c : CTR) (σ : Nat → AN) (B : BD) : Nat → AN := fun j => if j < c.2.2.1.length then σ j else (some (B.length + (j - c.2.2.1.length)), 0)
def sgA (ts as : List AVa) (ht ha : AHa) : Nat → AN := fun j => ((colZ colV ts as ++ colZ colC ht ha).lookup j).getD (none, 0)
def oraL (L : List CTR) : ORA := fun d N B as ha => match L.find? (fun c => c.1 == N && (decide (c.2.1 ≤ d) && inTa c.2.2.1 c.2.2.2.1 c.2.2.2.2.1 (sgA c.2.2.2.1 as c.2.2.2.2.1 ha) B as ha)) with
  | some c => some (B ++ c.2.2.2.2.2.1, c.2.2.2.2.2.2.1.map (sbV (tauC c (sgA c.2.2.2.1 as c.2.2.2.2.1 ha) B)), c.2.2.2.2.2.2.2.map (sbC (tauC c (sgA c.2.2.2.1 as c.2.2.2.2.1 ha) B)))
  | none => none
theorem oraL_ok {L : List CTR} (hL : ∀ c ∈ L, ctrOk c) : oraOk (oraL L) := by
  intro d N NM B as ha B' a ha' h hN ρ av hp hB hS hH
  unfold oraL at h
  split at h
  · rename_i c hf
    have hm := List.mem_of_find?_eq_some hf
    have hfs := List.find?_some hf
    simp only [Bool.and_eq_true, beq_iff_eq, decide_eq_true_eq] at hfs
    obtain ⟨hcN, hd, hin⟩ := hfs
    · cases h
      generalize hσ : sgA c.2.2.2.1 as c.2.2.2.2.1 ha = σ at hin ⊢
      unfold inTa at hin
      rw [Bool.and_eq_true, Bool.and_eq_true] at hin
      obtain ⟨i1, i2, i3⟩ := hin
      have C := hL c hm NM (by rw [hcN]; exact hN) (ρt σ ρ) av hp (bOk_ok hB i1) (zip_rS hB i2 hS) (hOk_ok hB i3 hH)
      refine Ct_weak (Ct_deep C hd) (fun v hp' hq => ?_)
      obtain ⟨r', g1, g2, g3, g4⟩ := hq
      -- the numbers of the names, over both
      refine ⟨fun k => if k < B.length then ρ k else r' (c.2.2.1.length + (k - B.length)), ?_, ⟨by rw [List.length_append]; omega, fun j hj => if_pos hj⟩, ?_⟩
      · intro k b hk
        by_cases hl : k < B.length
        · rw [List.getElem?_append_left hl] at hk
          simp only [if_pos hl]
          exact hB k b hk
        · rw [List.getElem?_append_right (by omega)] at hk
          simp only [if_neg hl]
          refine g1 _ b ?_
          rw [List.getElem?_append_right (by omega)]
          rw [show c.2.2.1.length + (k - B.length) - c.2.2.1.length = k - B.length by omega]
          exact hk
      · have hsb : sbOk (c.2.2.1 ++ c.2.2.2.2.2.1) r' (B ++ c.2.2.2.2.2.1) (fun k => if k < B.length then ρ k else r' (c.2.2.1.length + (k - B.length))) (tauC c σ B) := by
          intro j hj
          unfold tauC
          by_cases hl : j < c.2.2.1.length
          · rw [if_pos hl]
            have h7 := List.all_eq_true.mp i1 j (List.mem_range.mpr hl)
            rw [Bool.and_eq_true] at h7
            have hok := okNB_ok h7.1
            refine ⟨fun k hk => by have := hok k hk; rw [List.length_append]; omega, ?_⟩
            rw [g2.2 j hl]
            show _ = den ρ (σ j)
            unfold den
            cases e : (σ j).1 with
            | none => rfl
            | some k => simp only; rw [if_pos (hok k e)]
          · rw [if_neg hl]
            rw [List.length_append] at hj
            refine ⟨fun k hk => by cases hk; rw [List.length_append]; omega, ?_⟩
            show (if B.length + (j - c.2.2.1.length) < B.length then _ else _) + 0 = r' j
            rw [if_neg (by omega), Int.add_zero]
            congr 1
            omega
        refine ⟨?_, sbH_ok hsb g4⟩
        generalize c.2.2.2.2.2.2.1 = ra at g3
        match ra, v, g3 with
        | none, none, _ => exact trivial
        | some q, some w, g3 => exact sbV_ok hsb g3
  · cases h
