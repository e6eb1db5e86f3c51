/-! ===== contracts as an oracle ===== -/
/-- method, depth; before: bounds, arguments, heap; behind: alternatives, each with bounds of the names of before and of new ones, answer, heap -/
abbrev CTR : Type := Nat × Nat × BD × List AVa × AHa × List (BD × Option AVa × AHa)
def ctrOk (c : CTR) : Prop := ∀ (NM : MT), mtL[c.1]? = some NM → ∀ (ρ : Nat → Int) (av : List Value) (hp : AH), okB c.2.2.1 ρ → rS c.2.2.1 ρ c.2.2.2.1 av → rH c.2.2.1 ρ c.2.2.2.2.1 hp → Ct NM c.2.1 0 0 av hp (fun v hp' => ∃ o ∈ c.2.2.2.2.2, ∃ ρ', okB o.1 ρ' ∧ ext c.2.2.1 ρ o.1 ρ' ∧ rO o.1 ρ' o.2.1 v ∧ rH o.1 ρ' o.2.2 hp')
def sbN (τ : Nat → AN) (n : AN) : AN := match n.1 with
  | none => n
  | some j => ((τ j).1, (τ j).2 + n.2)
def sbV (τ : Nat → AN) (a : AVa) : AVa := match a with
  | .inl n => .inl (sbN τ n)
  | .inr (.inl r) => .inr (.inl r)
  | .inr (.inr o) => .inr (.inr (o.map (sbN τ)))
def sbC (τ : Nat → AN) (c : ACa) : ACa := match c with
  | .inl q => .inl q
  | .inr (.inl (ty, ns)) => .inr (.inl (ty, ns.map (sbN τ)))
  | .inr (.inr (.inl rs)) => .inr (.inr (.inl rs))
  | .inr (.inr (.inr (ci, fa))) => .inr (.inr (.inr (ci, fa.map (sbV τ))))
/-- names by τ: each stands for the same number -/
def sbOk (B1 : BD) (r1 : Nat → Int) (B2 : BD) (r2 : Nat → Int) (τ : Nat → AN) : Prop := ∀ j, j < B1.length → okN B2 (τ j) ∧ den r2 (τ j) = r1 j
section SB
variable {B1 B2 : BD} {r1 r2 : Nat → Int} {τ : Nat → AN}
theorem sbN_ok (h : sbOk B1 r1 B2 r2 τ) {n : AN} {x : Int32} (hn : rN B1 r1 n x) : rN B2 r2 (sbN τ n) x := by
  unfold sbN
  cases e : n.1 with
  | none =>
    refine ⟨fun j hj => (by rw [e] at hj; cases hj), ?_⟩
    have := hn.2
    unfold den at this ⊢
    rw [e] at this ⊢
    exact this
  | some j =>
    obtain ⟨g1, g2⟩ := h j (hn.1 j e)
    refine ⟨fun k hk => g1 k hk, ?_⟩
    have := hn.2
    unfold den at this
    rw [e] at this
    simp only at this
    rw [this, ← g2]
    unfold den
    cases (τ j).1 <;> simp only <;> omega
theorem sbV_ok (h : sbOk B1 r1 B2 r2 τ) {a : AVa} {v : Value} (hv : rV B1 r1 a v) : rV B2 r2 (sbV τ a) v := by
  match a, v, hv with
  | .inl n, .int x, hv => exact sbN_ok h hv
  | .inr (.inl r), .ref q, hv => exact hv
  | .inr (.inr o), .long z, hv =>
    intro n hn
    obtain ⟨m, hm, rfl⟩ := Option.map_eq_some_iff.mp hn
    obtain ⟨h1, h2⟩ := hv m hm
    unfold sbN
    cases e : m.1 with
    | none =>
      refine ⟨fun j hj => (by rw [e] at hj; cases hj), ?_⟩
      unfold den at h2 ⊢
      rw [e] at h2 ⊢
      exact h2
    | some j =>
      obtain ⟨g1, g2⟩ := h j (h1 j e)
      refine ⟨fun k hk => g1 k hk, ?_⟩
      unfold den at h2
      rw [e] at h2
      simp only at h2
      rw [h2, ← g2]
      unfold den
      cases (τ j).1 <;> simp only <;> omega
theorem sbC_ok (h : sbOk B1 r1 B2 r2 τ) {a : ACa} {x : AC} (hx : rC B1 r1 a x) : rC B2 r2 (sbC τ a) x := by
  match a, x, hx with
  | .inl (ty, n, lo, hi), .inl (ty', xs), hx => exact hx
  | .inr (.inl (ty, ns)), .inl (ty', xs), hx =>
    refine ⟨hx.1, by rw [List.length_map]; exact hx.2.1, fun i n hi => ?_⟩
    rw [List.getElem?_map] at hi
    obtain ⟨m, hm, rfl⟩ := Option.map_eq_some_iff.mp hi
    obtain ⟨z, q1, q2⟩ := hx.2.2 i m hm
    exact ⟨z, q1, sbN_ok h q2⟩
  | .inr (.inr (.inl rs)), .inr (.inl qs), hx => exact hx
  | .inr (.inr (.inr (ci, fa))), .inr (.inr (cj, fs)), hx =>
    refine ⟨hx.1, by rw [List.length_map]; exact hx.2.1, fun i a hi => ?_⟩
    rw [List.getElem?_map] at hi
    obtain ⟨m, hm, rfl⟩ := Option.map_eq_some_iff.mp hi
    obtain ⟨z, q1, q2⟩ := hx.2.2 i m hm
    refine ⟨z, q1, ?_⟩
    rcases q2 with q2 | q2
    · left
      match m, q2 with
      | .inr (.inl r), q2 => exact q2
    · exact Or.inr (sbV_ok h q2)
theorem sbH_ok (h : sbOk B1 r1 B2 r2 τ) {ha : AHa} {hp : AH} (hH : rH B1 r1 ha hp) : rH B2 r2 (ha.map (sbC τ)) hp := by
  refine ⟨by rw [List.length_map]; exact hH.1, fun i a hi => ?_, hH.2.2⟩
  rw [List.getElem?_map] at hi
  obtain ⟨m, hm, rfl⟩ := Option.map_eq_some_iff.mp hi
  obtain ⟨z, q1, q2⟩ := hH.2.1 i m hm
  exact ⟨z, q1, sbC_ok h q2⟩
end SB
def inTa (Bt : BD) (ts : List AVa) (ht : AHa) (σ : Nat → AN) (B : BD) (as : List AVa) (ha : AHa) : Bool := bOk B σ Bt && (zipB (vOk B σ Bt.length) ts as && zipB (cOkA B σ Bt.length) ht ha)
theorem zip_rS {B Bt : BD} {ρ : Nat → Int} (hB : okB B ρ) {σ : Nat → AN} : ∀ {ts as : List AVa} {vs : List Value}, zipB (vOk B σ Bt.length) ts as = true → rS B ρ as vs → rS Bt (ρt σ ρ) ts vs
  | [], [], [], _, _ => trivial
  | t :: ts, a :: as, v :: vs, h, hS => by
    simp only [zipB, Bool.and_eq_true] at h
    exact ⟨vOk_ok hB h.1 hS.1, zip_rS hB h.2 hS.2⟩
  | [], [], _ :: _, _, hS => hS.elim
  | _ :: _, _ :: _, [], _, hS => hS.elim
theorem narH_den {B : BD} {ρ : Nat → Int} (hB : okB B ρ) {n : AN} {hi : Int} (h1 : den ρ n ≤ hi) : okB (narH B n hi) ρ := by
  unfold narH
  unfold den at h1
  split
  · exact hB
  · rename_i j hj
    rw [hj] at h1
    split
    · rename_i b hb
      have := hB j b hb
      refine set_okB hB ?_
      simp only at h1 ⊢
      omega
    · exact hB
theorem narL_den {B : BD} {ρ : Nat → Int} (hB : okB B ρ) {n : AN} {lo : Int} (h1 : lo ≤ den ρ n) : okB (narL B n lo) ρ := by
  unfold narL
  unfold den at h1
  split
  · exact hB
  · rename_i j hj
    rw [hj] at h1
    split
    · rename_i b hb
      have := hB j b hb
      refine set_okB hB ?_
      simp only at h1 ⊢
      omega
    · exact hB
/-- what a contract's end says of the names of before -/
def nrw (σ : Nat → AN) : Nat → BD → BD → BD → BD
  | j, b :: Bt, q :: Bp, B => nrw σ (j + 1) Bt Bp (if b = q then B else narL (narH B (σ j) q.2) (σ j) q.1)
  | _, _, _, B => B
theorem nrw_ok {σ : Nat → AN} {ρ : Nat → Int} : ∀ {Bt Bp B : BD} {j : Nat}, okB B ρ → (∀ i q, i < Bt.length → Bp[i]? = some q → q.1 ≤ den ρ (σ (j + i)) ∧ den ρ (σ (j + i)) ≤ q.2) → okB (nrw σ j Bt Bp B) ρ ∧ (nrw σ j Bt Bp B).length = B.length
  | [], _, _, _, hB, _ => by unfold nrw; exact ⟨hB, rfl⟩
  | _ :: _, [], _, _, hB, _ => by unfold nrw; exact ⟨hB, rfl⟩
  | b :: Bt, q :: Bp, B, j, hB, h => by
    unfold nrw
    have h0 := h 0 q (by rw [List.length_cons]; omega) rfl
    rw [Nat.add_zero] at h0
    have hn : ∀ i q', i < Bt.length → Bp[i]? = some q' → q'.1 ≤ den ρ (σ (j + 1 + i)) ∧ den ρ (σ (j + 1 + i)) ≤ q'.2 := fun i q' h1 h2 => by
      have := h (i + 1) q' (by rw [List.length_cons]; omega) (by rw [List.getElem?_cons_succ]; exact h2)
      rw [show j + 1 + i = j + (i + 1) by omega]
      exact this
    split
    · exact nrw_ok hB hn
    · have h1 := nrw_ok (Bt := Bt) (Bp := Bp) (narL_den (narH_den hB h0.2) h0.1) hn
      exact ⟨h1.1, h1.2.trans (by rw [narL_len, narH_len])⟩
def tauC (p : Nat) (σ : Nat → AN) (n : Nat) : Nat → AN := fun j => if j < p then σ j else (some (n + (j - p)), 0)
def sgA (ts as : List AVa) (ht ha : AHa) : Nat → AN := fun j => ((colZ colV ts as ++ colZ colC ht ha).lookup j).getD (none, 0)
def oraL (L : List CTR) : ORA := fun d N B as ha => match L.find? (fun c => c.1 == N && (decide (c.2.1 ≤ d) && inTa c.2.2.1 c.2.2.2.1 c.2.2.2.2.1 (sgA c.2.2.2.1 as c.2.2.2.2.1 ha) B as ha)) with
  | some c => some (c.2.2.2.2.2.map (fun o => (nrw (sgA c.2.2.2.1 as c.2.2.2.2.1 ha) 0 c.2.2.1 o.1 B ++ o.1.drop c.2.2.1.length, o.2.1.map (sbV (tauC c.2.2.1.length (sgA c.2.2.2.1 as c.2.2.2.2.1 ha) B.length)), o.2.2.map (sbC (tauC c.2.2.1.length (sgA c.2.2.2.1 as c.2.2.2.2.1 ha) B.length)))))
  | none => none
theorem oraL_ok {L : List CTR} (hL : ∀ c ∈ L, ctrOk c) : oraOk (oraL L) := by
  intro d N NM B as ha L2 h hN ρ av hp hB hS hH
  unfold oraL at h
  split at h
  · rename_i c hf
    have hm := List.mem_of_find?_eq_some hf
    have hfs := List.find?_some hf
    simp only [Bool.and_eq_true, beq_iff_eq, decide_eq_true_eq] at hfs
    obtain ⟨hcN, hd, hin⟩ := hfs
    · cases h
      generalize hσ : sgA c.2.2.2.1 as c.2.2.2.2.1 ha = σ at hin ⊢
      unfold inTa at hin
      rw [Bool.and_eq_true, Bool.and_eq_true] at hin
      obtain ⟨i1, i2, i3⟩ := hin
      have C := hL c hm NM (by rw [hcN]; exact hN) (ρt σ ρ) av hp (bOk_ok hB i1) (zip_rS hB i2 hS) (hOk_ok hB i3 hH)
      refine Ct_weak (Ct_deep C hd) (fun v hp' hq => ?_)
      obtain ⟨o, ho, r', g1, g2, g3, g4⟩ := hq
      obtain ⟨n1, n2⟩ := nrw_ok (σ := σ) (ρ := ρ) (Bt := c.2.2.1) (Bp := o.1) (B := B) (j := 0) hB (fun i q hi hq => by
        have := g1 i q hq
        rw [g2.2 i hi] at this
        rw [Nat.zero_add]
        exact this)
      refine ⟨_, List.mem_map_of_mem ho, fun k => if k < B.length then ρ k else r' (c.2.2.1.length + (k - B.length)), ?_, ⟨by show _ ≤ (_ ++ _ : BD).length; rw [List.length_append, n2]; omega, fun j hj => if_pos hj⟩, ?_⟩
      · intro k b hk
        simp only at hk
        by_cases hl : k < B.length
        · rw [List.getElem?_append_left (by rw [n2]; exact hl)] at hk
          simp only [if_pos hl]
          exact n1 k b hk
        · rw [List.getElem?_append_right (by rw [n2]; omega), n2, List.getElem?_drop] at hk
          simp only [if_neg hl]
          exact g1 _ b hk
      · have hsb : sbOk o.1 r' (nrw σ 0 c.2.2.1 o.1 B ++ o.1.drop c.2.2.1.length) (fun k => if k < B.length then ρ k else r' (c.2.2.1.length + (k - B.length))) (tauC c.2.2.1.length σ B.length) := by
          intro j hj
          unfold tauC
          by_cases hl : j < c.2.2.1.length
          · rw [if_pos hl]
            have h7 := List.all_eq_true.mp i1 j (List.mem_range.mpr hl)
            rw [Bool.and_eq_true] at h7
            have hok := okNB_ok h7.1
            refine ⟨fun k hk => by have := hok k hk; rw [List.length_append, n2]; omega, ?_⟩
            rw [g2.2 j hl]
            show _ = den ρ (σ j)
            unfold den
            cases e : (σ j).1 with
            | none => rfl
            | some k => simp only; rw [if_pos (hok k e)]
          · rw [if_neg hl]
            refine ⟨fun k hk => by cases hk; rw [List.length_append, n2, List.length_drop]; omega, ?_⟩
            show (if B.length + (j - c.2.2.1.length) < B.length then _ else _) + 0 = r' j
            rw [if_neg (by omega), Int.add_zero]
            congr 1
            omega
        refine ⟨?_, sbH_ok hsb g4⟩
        generalize o.2.1 = ra at g3
        match ra, v, g3 with
        | none, none, _ => exact trivial
        | some q, some w, g3 => exact sbV_ok hsb g3
  · cases h
