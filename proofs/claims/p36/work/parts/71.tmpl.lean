/-! ===== templates: a state over names; whether another state lies within it ===== -/
def okNB (B : BD) (n : AN) : Bool := match n.1 with
  | none => true
  | some j => decide (j < B.length)
theorem okNB_ok {B : BD} {n : AN} (h : okNB B n = true) : okN B n := by
  intro j hj
  unfold okNB at h
  rw [hj] at h
  exact of_decide_eq_true h
theorem bnd_den {B : BD} {ρ : Nat → Int} (hB : okB B ρ) {n : AN} (hn : okN B n) : (bnd B n).1 ≤ den ρ n ∧ den ρ n ≤ (bnd B n).2 := by
  unfold bnd den
  cases h : n.1 with
  | none => exact ⟨Int.le_refl _, Int.le_refl _⟩
  | some j =>
    have hj := hn j h
    have := hB j B[j] (List.getElem?_eq_getElem hj)
    simp only [List.getElem?_eq_getElem hj]
    omega
def vOk (B : BD) (σ : Nat → AN) (m : Nat) (t a : AVa) : Bool := match t, a with
  | .inl (none, c), .inl n => decide ((bnd B n).1 = c) && decide ((bnd B n).2 = c)
  | .inl (some j, c), .inl n => decide (c = 0) && (decide (j < m) && decide (n = σ j))
  | .inr (.inl r), .inr (.inl q) => decide (r = q)
  | .inr (.inr none), .inr (.inr _) => true
  | .inr (.inr (some (none, c))), .inr (.inr (some n)) => decide ((bnd B n).1 = c) && decide ((bnd B n).2 = c)
  | .inr (.inr (some (some j, c))), .inr (.inr (some n)) => decide (c = 0) && (decide (j < m) && decide (n = σ j))
  | _, _ => false
def ρt (σ : Nat → AN) (ρ : Nat → Int) : Nat → Int := fun j => den ρ (σ j)
theorem vOk_ok {B Bt : BD} {ρ : Nat → Int} (hB : okB B ρ) {σ : Nat → AN} {t a : AVa} {v : Value} (h : vOk B σ Bt.length t a = true) (hv : rV B ρ a v) : rV Bt (ρt σ ρ) t v := by
  match t, a, h with
  | .inl (none, c), .inl n, h =>
    obtain ⟨x, rfl, hx⟩ := rV_int hv
    simp only [vOk, Bool.and_eq_true, decide_eq_true_eq] at h
    have := bnd_ok hB hx
    exact ⟨fun j hj => (by cases hj), by show x.toInt = c; omega⟩
  | .inl (some j, c), .inl n, h =>
    obtain ⟨x, rfl, hx⟩ := rV_int hv
    simp only [vOk, Bool.and_eq_true, decide_eq_true_eq] at h
    obtain ⟨rfl, h1, rfl⟩ := h
    refine ⟨fun k hk => by cases hk; exact h1, ?_⟩
    show x.toInt = den ρ (σ j) + 0
    rw [hx.2, Int.add_zero]
  | .inr (.inl r), .inr (.inl q), h =>
    cases rV_ref hv
    exact (of_decide_eq_true h).symm
  | .inr (.inr none), .inr (.inr o), _ =>
    obtain ⟨z, rfl, -⟩ := rV_long hv
    exact fun c hc => by cases hc
  | .inr (.inr (some (none, c))), .inr (.inr (some n)), h =>
    obtain ⟨z, rfl, hz⟩ := rV_long hv
    simp only [vOk, Bool.and_eq_true, decide_eq_true_eq] at h
    obtain ⟨h1, h2⟩ := hz n rfl
    have := bnd_den hB h1
    exact fun q hq => by cases hq; exact ⟨fun j hj => (by cases hj), by show z.toInt = c; omega⟩
  | .inr (.inr (some (some j, c))), .inr (.inr (some n)), h =>
    obtain ⟨z, rfl, hz⟩ := rV_long hv
    simp only [vOk, Bool.and_eq_true, decide_eq_true_eq] at h
    obtain ⟨rfl, h1, rfl⟩ := h
    obtain ⟨h3, h2⟩ := hz _ rfl
    exact fun q hq => by cases hq; exact ⟨fun k hk => by cases hk; exact h1, by show z.toInt = den ρ (σ j) + 0; rw [h2, Int.add_zero]⟩
def zipB {α β : Type} (f : α → β → Bool) : List α → List β → Bool
  | [], [] => true
  | a :: as, b :: bs => f a b && zipB f as bs
  | _, _ => false
theorem zipB_len {α β : Type} {f : α → β → Bool} : ∀ {as : List α} {bs : List β}, zipB f as bs = true → as.length = bs.length
  | [], [], _ => rfl
  | _ :: _, _ :: _, h => by
    simp only [zipB, Bool.and_eq_true] at h
    rw [List.length_cons, List.length_cons, zipB_len h.2]
theorem zipB_at {α β : Type} {f : α → β → Bool} : ∀ {as : List α} {bs : List β} (i : Nat) {a : α}, zipB f as bs = true → as[i]? = some a → ∃ b, bs[i]? = some b ∧ f a b = true
  | [], [], _, _, _, h => by simp at h
  | x :: as, y :: bs, i, a, h, hi => by
    simp only [zipB, Bool.and_eq_true] at h
    cases i with
    | zero => simp at hi; subst hi; exact ⟨y, rfl, h.1⟩
    | succ i =>
      rw [List.getElem?_cons_succ] at hi
      obtain ⟨b, h1, h2⟩ := zipB_at i h.2 hi
      exact ⟨b, by rw [List.getElem?_cons_succ]; exact h1, h2⟩
def lOk (B : BD) (σ : Nat → AN) (m : Nat) (t a : Option AVa) : Bool := match t, a with
  | none, _ => true
  | some t, some a => vOk B σ m t a
  | some _, none => false
theorem lOk_ok {B Bt : BD} {ρ : Nat → Int} (hB : okB B ρ) {σ : Nat → AN} {lt la : List (Option AVa)} {lv : List (Option Value)} (h : zipB (lOk B σ Bt.length) lt la = true) (hL : rL B ρ la lv) : rL Bt (ρt σ ρ) lt lv := by
  refine ⟨(zipB_len h).trans hL.1, fun i t hi => ?_⟩
  obtain ⟨a, h1, h2⟩ := zipB_at i h hi
  cases a with
  | none => cases h2
  | some a =>
    obtain ⟨v, h3, h4⟩ := hL.2 i a h1
    exact ⟨v, h3, vOk_ok hB h2 h4⟩
/-- a field: any, or as a value -/
def fldOk (B : BD) (σ : Nat → AN) (m : Nat) (t a : AVa) : Bool := isAny t || (!isAny a && vOk B σ m t a)
def cOkA (B : BD) (σ : Nat → AN) (m : Nat) (t a : ACa) : Bool := match t, a with
  | .inl (ty, n, lo, hi), .inl (ty', n', lo', hi') => decide (ty = ty') && (decide (n = n') && (decide (lo ≤ lo') && decide (hi' ≤ hi)))
  | .inl (ty, n, lo, hi), .inr (.inl (ty', ns)) => decide (ty = ty') && (decide (n = ns.length) && ns.all (fun q => decide (lo ≤ (bnd B q).1) && decide ((bnd B q).2 ≤ hi)))
  | .inr (.inl (ty, ts)), .inr (.inl (ty', ns)) => decide (ty = ty') && zipB (fun t n => vOk B σ m (.inl t) (.inl n)) ts ns
  | .inr (.inr (.inl rs)), .inr (.inr (.inl qs)) => decide (rs = qs)
  | .inr (.inr (.inr (ci, ft))), .inr (.inr (.inr (cj, fa))) => decide (ci = cj) && zipB (fldOk B σ m) ft fa
  | _, _ => false
theorem cOkA_ok {B Bt : BD} {ρ : Nat → Int} (hB : okB B ρ) {σ : Nat → AN} {t a : ACa} {x : AC} (h : cOkA B σ Bt.length t a = true) (hx : rC B ρ a x) : rC Bt (ρt σ ρ) t x := by
  match t, a, h with
  | .inl (ty, n, lo, hi), .inl (ty', n', lo', hi'), h =>
    simp only [cOkA, Bool.and_eq_true, decide_eq_true_eq] at h
    obtain ⟨rfl, rfl, h1, h2⟩ := h
    obtain ⟨xs, rfl, hl, hb⟩ := rC_sum hx
    exact ⟨rfl, hl, fun y hy => by have := hb y hy; omega⟩
  | .inl (ty, n, lo, hi), .inr (.inl (ty', ns)), h =>
    simp only [cOkA, Bool.and_eq_true, decide_eq_true_eq] at h
    obtain ⟨rfl, rfl, h1⟩ := h
    obtain ⟨xs, rfl, hl⟩ := rC_items hx
    refine ⟨rfl, hl.1.symm, fun y hy => ?_⟩
    obtain ⟨k, hk⟩ := List.getElem?_of_mem hy
    have hkl : k < ns.length := by rw [hl.1]; exact (List.getElem?_eq_some_iff.mp hk).1
    obtain ⟨z, q1, q2⟩ := hl.2 k ns[k] (List.getElem?_eq_getElem hkl)
    rw [hk] at q1
    cases q1
    have h2 := List.all_eq_true.mp h1 ns[k] (List.getElem_mem hkl)
    simp only [Bool.and_eq_true, decide_eq_true_eq] at h2
    have := bnd_ok hB q2
    omega
  | .inr (.inl (ty, ts)), .inr (.inl (ty', ns)), h =>
    simp only [cOkA, Bool.and_eq_true, decide_eq_true_eq] at h
    obtain ⟨rfl, h1⟩ := h
    obtain ⟨xs, rfl, hl⟩ := rC_items hx
    refine ⟨rfl, (zipB_len h1).trans hl.1, fun i t hi => ?_⟩
    obtain ⟨n, g1, g2⟩ := zipB_at i h1 hi
    obtain ⟨z, g3, g4⟩ := hl.2 i n g1
    have g5 : rV B ρ (.inl n) (.int z) := g4
    have g6 := vOk_ok (Bt := Bt) hB g2 g5
    exact ⟨z, g3, g6⟩
  | .inr (.inr (.inl rs)), .inr (.inr (.inl qs)), h =>
    cases rC_rows hx
    exact (of_decide_eq_true h).symm
  | .inr (.inr (.inr (ci, ft))), .inr (.inr (.inr (cj, fa))), h =>
    simp only [cOkA, Bool.and_eq_true, decide_eq_true_eq] at h
    obtain ⟨rfl, h1⟩ := h
    obtain ⟨fs, rfl, hf⟩ := rC_obj hx
    refine ⟨rfl, (zipB_len h1).trans hf.1, fun i t hi => ?_⟩
    obtain ⟨a, g1, g2⟩ := zipB_at i h1 hi
    obtain ⟨v, g3, g4⟩ := hf.2 i a g1
    refine ⟨v, g3, ?_⟩
    unfold fldOk at g2
    rw [Bool.or_eq_true, Bool.and_eq_true, Bool.not_eq_true'] at g2
    rcases g2 with q | ⟨q1, q2⟩
    · exact Or.inl q
    · exact Or.inr (vOk_ok hB q2 (g4.resolve_left (by rw [q1]; exact Bool.false_ne_true)))
theorem hOk_ok {B Bt : BD} {ρ : Nat → Int} (hB : okB B ρ) {σ : Nat → AN} {ht ha : AHa} {hp : AH} (h : zipB (cOkA B σ Bt.length) ht ha = true) (hH : rH B ρ ha hp) : rH Bt (ρt σ ρ) ht hp := by
  refine ⟨(zipB_len h).trans hH.1, fun i t hi => ?_, hH.2.2⟩
  obtain ⟨a, h1, h2⟩ := zipB_at i h hi
  obtain ⟨x, h3, h4⟩ := hH.2.1 i a h1
  exact ⟨x, h3, cOkA_ok hB h2 h4⟩
def bOk (B : BD) (σ : Nat → AN) (Bt : BD) : Bool := (List.range Bt.length).all (fun j => okNB B (σ j) && (match Bt[j]? with
  | some b => decide (b.1 ≤ (bnd B (σ j)).1) && decide ((bnd B (σ j)).2 ≤ b.2)
  | none => true))
theorem bOk_ok {B Bt : BD} {ρ : Nat → Int} (hB : okB B ρ) {σ : Nat → AN} (h : bOk B σ Bt = true) : okB Bt (ρt σ ρ) := by
  intro j b hj
  have hl : j < Bt.length := (List.getElem?_eq_some_iff.mp hj).1
  have h1 := List.all_eq_true.mp h j (List.mem_range.mpr hl)
  rw [hj] at h1
  simp only [Bool.and_eq_true, decide_eq_true_eq] at h1
  have := bnd_den hB (okNB_ok h1.1)
  unfold ρt
  omega
/-- the state lies within the template -/
def inT (Bt : BD) (lt : List (Option AVa)) (ht : AHa) (σ : Nat → AN) (B : BD) (la : List (Option AVa)) (ha : AHa) : Bool := zipB (lOk B σ Bt.length) lt la && (bOk B σ Bt && zipB (cOkA B σ Bt.length) ht ha)
theorem inT_ok {Bt B : BD} {lt la : List (Option AVa)} {ht ha : AHa} {σ : Nat → AN} {ρ : Nat → Int} (hB : okB B ρ) {lv : List (Option Value)} {hp : AH} (hL : rL B ρ la lv) (hH : rH B ρ ha hp) (h : inT Bt lt ht σ B la ha = true) : okB Bt (ρt σ ρ) ∧ rL Bt (ρt σ ρ) lt lv ∧ rH Bt (ρt σ ρ) ht hp := by
  unfold inT at h
  rw [Bool.and_eq_true, Bool.and_eq_true] at h
  exact ⟨bOk_ok hB h.2.1, lOk_ok hB h.1 hL, hOk_ok hB h.2.2 hH⟩
