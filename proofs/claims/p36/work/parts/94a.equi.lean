/-! ===== both years alike ===== -/
def agE (n m : Int) (so sz wh gr md du so' sz' wh' gr' md' du' : Int → Int) : Prop := (∀ k, 0 ≤ k → k < n → so' k = so k ∧ sz' k = sz k ∧ 0 ≤ so k ∧ so k ≤ 2 ∧ 0 ≤ sz k ∧ sz k ≤ 9) ∧ (∀ p, 0 ≤ p → p < m → wh' p = wh p ∧ gr' p = gr p ∧ md' p = md p ∧ du' p = du p ∧ 0 ≤ wh p ∧ 0 ≤ gr p ∧ gr p ≤ 9 ∧ 0 ≤ md p ∧ -1 ≤ du p)
def agK (nk : Int) (kd ko kd' ko' : Int → Int) : Prop := ∀ i, 0 ≤ i → i < nk → kd' i = kd i ∧ ko' i = ko i ∧ 0 ≤ kd i ∧ 0 ≤ ko i
def agT (nl : Int) (ld lw lm ld' lw' lm' : Int → Int) : Prop := ∀ i, 0 ≤ i → i < nl → ld' i = ld i ∧ lw' i = lw i ∧ lm' i = lm i ∧ 0 ≤ ld i ∧ 0 ≤ lw i ∧ 0 ≤ lm i ∧ lm i ≤ 9
/-- alike where it counts -/
def RLk (n m : Int) (wh : Int → Int) (σ τ : ST3) : Prop := (∀ k, 0 ≤ k → k < n → σ.1 k = τ.1 k ∧ σ.2.1 k = τ.2.1 k ∧ 0 ≤ σ.1 k ∧ σ.1 k ≤ 99) ∧ (∀ p, 0 ≤ p → p < m → σ.2.2 p = τ.2.2 p ∧ (σ.2.2 p = 1 → wh p < n))
theorem RLk_c {n m : Int} {wh : Int → Int} {σ τ : ST3} (h : RLk n m wh σ τ) {k v w : Int} (hv : 0 ≤ k → k < n → v = w ∧ 0 ≤ v ∧ v ≤ 99) : RLk n m wh (updI σ.1 k v, σ.2) (updI τ.1 k w, τ.2) := by
  refine ⟨fun j h1 h2 => ?_, h.2⟩
  by_cases q : j = k
  · subst q
    simp only [updI_at]
    obtain ⟨e1, e2, e3⟩ := hv h1 h2
    exact ⟨e1, (h.1 j h1 h2).2.1, e2, e3⟩
  · simp only [updI_ne q]
    exact h.1 j h1 h2
theorem RLk_t {n m : Int} {wh : Int → Int} {σ τ : ST3} (h : RLk n m wh σ τ) {k v w : Int} (hv : 0 ≤ k → k < n → v = w) : RLk n m wh (σ.1, updI σ.2.1 k v, σ.2.2) (τ.1, updI τ.2.1 k w, τ.2.2) := by
  refine ⟨fun j h1 h2 => ?_, h.2⟩
  by_cases q : j = k
  · subst q
    simp only [updI_at]
    have := h.1 j h1 h2
    exact ⟨this.1, hv h1 h2, this.2.2⟩
  · simp only [updI_ne q]
    exact h.1 j h1 h2
theorem RLk_s {n m : Int} {wh : Int → Int} {σ τ : ST3} (h : RLk n m wh σ τ) {p v : Int} (hv : v = 1 → wh p < n) : RLk n m wh (σ.1, σ.2.1, updI σ.2.2 p v) (τ.1, τ.2.1, updI τ.2.2 p v) := by
  refine ⟨h.1, fun j h1 h2 => ?_⟩
  by_cases q : j = p
  · subst q
    show updI σ.2.2 j v j = updI τ.2.2 j v j ∧ (updI σ.2.2 j v j = 1 → wh j < n)
    rw [updI_at, updI_at]
    exact ⟨rfl, hv⟩
  · simp only [updI_ne q]
    exact h.2 j h1 h2
section EQ
variable {n m nk nl nt nK nL : Int} {so sz wh gr md du so' sz' wh' gr' md' du' kd ko kd' ko' ld lw lm ld' lw' lm' td tw tm td' tw' tm' : Int → Int}
theorem gn_ln (h : agE n m so sz wh gr md du so' sz' wh' gr' md' du') {p : Int} (h1 : 0 ≤ p) (h2 : p < m) (hw : wh p < n) : lnF so' wh' gr' p = gnF so wh gr p ∧ 0 ≤ gnF so wh gr p ∧ gnF so wh gr p ≤ 18 := by
  obtain ⟨e1, e2, -, -, e3, e4, e5, -⟩ := h.2 p h1 h2
  obtain ⟨s1, -, s2, s3, -⟩ := h.1 (wh p) e3 hw
  unfold lnF gnF
  rw [e1, e2, s1]
  by_cases q0 : so (wh p) = 0
  · rw [if_pos q0, if_neg (by omega), if_neg (by omega)]; omega
  · by_cases q1 : so (wh p) = 1
    · rw [if_neg q0, if_pos q1, if_pos q1]; omega
    · rw [if_neg q0, if_neg q1, if_neg q1, if_pos (by omega)]; omega
theorem clF_in {x : Int} (h1 : 0 ≤ x) (h2 : x ≤ 99) : clF x = x := by unfold clF; rw [if_neg (by omega), if_neg (by omega)]
theorem clF_b (x : Int) : 0 ≤ clF x ∧ clF x ≤ 99 := by
  unfold clF
  split
  · omega
  · split <;> omega
/-- a promise made -/
theorem eq_0 (h : agE n m so sz wh gr md du so' sz' wh' gr' md' du') {σ τ : ST3} (hR : RLk n m wh σ τ) {p : Int} (h1 : 0 ≤ p) (h2 : p < m) (hw : wh p < n) : RLk n m wh (lgF σ.1 (wh p) (gnF so wh gr p), σ.2.1, updI σ.2.2 p 1) (chF τ.1 (wh' p) (lnF so' wh' gr' p), τ.2.1, updI τ.2.2 p 1) := by
  obtain ⟨g1, g2, g3⟩ := gn_ln h h1 h2 hw
  have e1 := (h.2 p h1 h2).1
  refine RLk_s (p := p) (v := 1) (σ := (lgF σ.1 (wh p) (gnF so wh gr p), σ.2)) (τ := (chF τ.1 (wh' p) (lnF so' wh' gr' p), τ.2)) ?_ (fun _ => hw)
  rw [g1, e1]
  refine RLk_c hR (fun k1 k2 => ?_)
  have hc := hR.1 (wh p) k1 k2
  rw [← hc.1]
  unfold clF
  split <;> split <;> omega
/-- kept -/
theorem eq_1 (h : agE n m so sz wh gr md du so' sz' wh' gr' md' du') {σ τ : ST3} (hR : RLk n m wh σ τ) {p : Int} (h1 : 0 ≤ p) (h2 : p < m) : RLk n m wh (fuF sz wh gr p σ) (if τ.2.2 p = 1 then (chF τ.1 (wh' p) (twF (sz' (wh' p) - τ.1 (wh' p)) (gr' p)), τ.2.1, updI τ.2.2 p 2) else τ) := by
  have hs := hR.2 p h1 h2
  unfold fuF
  by_cases q : σ.2.2 p = 1
  · rw [if_pos q, if_pos (c := τ.2.2 p = 1) (by rw [← hs.1]; exact q)]
    obtain ⟨e1, e2, -, -, e3, e4, e5, -⟩ := h.2 p h1 h2
    have hw := hs.2 q
    obtain ⟨-, s1, -, -, s2, s3⟩ := h.1 (wh p) e3 hw
    have hc := hR.1 (wh p) e3 hw
    refine RLk_s (p := p) (v := 2) (σ := (updI σ.1 (wh p) _, σ.2)) (τ := (chF τ.1 (wh' p) _, τ.2)) ?_ (fun q => by omega)
    rw [e1, e2, s1]
    refine RLk_c hR (fun k1 k2 => ?_)
    rw [← hc.1]
    unfold twF
    have hb := clF_b
    by_cases a1 : sz (wh p) - σ.1 (wh p) > gr p
    · rw [if_pos a1, if_neg (by omega), clF_in (by omega) (by omega)]; omega
    · rw [if_neg a1]
      by_cases a2 : sz (wh p) - σ.1 (wh p) < - gr p
      · rw [if_pos a2, if_pos (by omega), clF_in (by omega) (by omega)]; omega
      · rw [if_neg a2, clF_in (by omega) (by omega)]
        split <;> omega
  · rw [if_neg q, if_neg (c := τ.2.2 p = 1) (by rw [← hs.1]; exact q)]
    exact hR
/-- broken -/
theorem eq_2 (h : agE n m so sz wh gr md du so' sz' wh' gr' md' du') {σ τ : ST3} (hR : RLk n m wh σ τ) {p : Int} (h1 : 0 ≤ p) (h2 : p < m) : RLk n m wh (faF so wh gr p σ) (if τ.2.2 p = 1 then (chF τ.1 (wh' p) (if so' (wh' p) = 2 then - lnF so' wh' gr' p + -2 else - lnF so' wh' gr' p), updI τ.2.1 (wh' p) (mAdd (τ.2.1 (wh' p)) 1), updI τ.2.2 p 3) else τ) := by
  have hs := hR.2 p h1 h2
  unfold faF
  by_cases q : σ.2.2 p = 1
  · rw [if_pos q, if_pos (c := τ.2.2 p = 1) (by rw [← hs.1]; exact q)]
    obtain ⟨e1, e2, -, -, e3, e4, e5, -⟩ := h.2 p h1 h2
    have hw := hs.2 q
    obtain ⟨s1, -, -, -, -, -⟩ := h.1 (wh p) e3 hw
    obtain ⟨g1, g2, g3⟩ := gn_ln h h1 h2 hw
    have hc := hR.1 (wh p) e3 hw
    rw [g1, e1, s1]
    refine RLk_s (p := p) (v := 3) (σ := (shF σ.1 (wh p) _, updI σ.2.1 (wh p) _, σ.2.2)) (τ := (chF τ.1 (wh p) _, updI τ.2.1 (wh p) _, τ.2.2)) ?_ (fun q => by omega)
    refine RLk_t (k := wh p) (σ := (shF σ.1 (wh p) _, σ.2)) (τ := (chF τ.1 (wh p) _, τ.2)) ?_ (fun _ _ => by rw [hc.2.1])
    refine RLk_c hR (fun k1 k2 => ?_)
    rw [← hc.1]
    unfold clF
    by_cases z : so (wh p) = 2
    · rw [if_pos z, if_pos z]
      split <;> split <;> omega
    · rw [if_neg z, if_neg z]
      split <;> split <;> omega
  · rw [if_neg q, if_neg (c := τ.2.2 p = 1) (by rw [← hs.1]; exact q)]
    exact hR
theorem eq_3 {σ τ : ST3} (hR : RLk n m wh σ τ) {k b : Int} (hb : 0 ≤ b) : RLk n m wh (shF σ.1 k b, σ.2) (chF τ.1 k (- b), τ.2) := by
  refine RLk_c hR (fun k1 k2 => ?_)
  have hc := hR.1 k k1 k2
  rw [← hc.1]
  unfold clF
  split <;> split <;> omega
theorem eq_4 {σ τ : ST3} (hR : RLk n m wh σ τ) {k b : Int} (hb : 0 ≤ b) : RLk n m wh (lgF σ.1 k b, σ.2) (chF τ.1 k b, τ.2) := by
  refine RLk_c hR (fun k1 k2 => ?_)
  have hc := hR.1 k k1 k2
  rw [← hc.1]
  unfold clF
  split <;> split <;> omega
end EQ
/-! acts of one key, in their order -/
def selL (key : Int) (P : Int → Bool) : Nat → AL
  | 0 => []
  | n + 1 => selL key P n ++ if P (n : Int) = true then [((key, (n : Int)) : Int × Int)] else []
def fK (k : Int) (l : AL) : AL := l.filter (fun y => decide (y.1 = k))
def fLt (k : Int) (l : AL) : AL := l.filter (fun y => decide (y.1 < k))
theorem fK_ins (k : Int) (x : Int × Int) (l : AL) : fK k (ins x l) = fK k l ++ if x.1 = k then [x] else [] := by
  unfold fK ins
  rw [List.filter_append, List.filter_cons, List.filter_filter, List.filter_filter]
  by_cases h : x.1 = k
  · have e1 : l.filter (fun a => decide (a.1 = k) && decide (a.1 ≤ x.1)) = l.filter (fun y => decide (y.1 = k)) := List.filter_congr (fun a _ => by
      by_cases q : a.1 = k <;> simp [q, h])
    have e2 : l.filter (fun a => decide (a.1 = k) && decide (x.1 < a.1)) = [] := List.filter_eq_nil_iff.mpr (fun a _ => by simp; omega)
    rw [e1, e2, if_pos (decide_eq_true h), if_pos h]
  · rw [if_neg (by simpa using h), if_neg h, List.append_nil]
    by_cases q : k < x.1
    · have e1 : l.filter (fun a => decide (a.1 = k) && decide (a.1 ≤ x.1)) = l.filter (fun y => decide (y.1 = k)) := List.filter_congr (fun a _ => by
        by_cases z : a.1 = k
        · simp [z]; omega
        · simp [z])
      have e2 : l.filter (fun a => decide (a.1 = k) && decide (x.1 < a.1)) = [] := List.filter_eq_nil_iff.mpr (fun a _ => by simp; omega)
      rw [e1, e2, List.append_nil]
    · have e1 : l.filter (fun a => decide (a.1 = k) && decide (a.1 ≤ x.1)) = [] := List.filter_eq_nil_iff.mpr (fun a _ => by simp; omega)
      have e2 : l.filter (fun a => decide (a.1 = k) && decide (x.1 < a.1)) = l.filter (fun y => decide (y.1 = k)) := List.filter_congr (fun a _ => by
        by_cases z : a.1 = k
        · simp [z]; omega
        · simp [z])
      rw [e1, e2, List.nil_append]
theorem fLt_s {a : Int} : ∀ {l : AL}, srt l → fLt (a + 1) l = fLt a l ++ fK a l
  | [], _ => rfl
  | x :: l, h => by
    have ih := fLt_s (a := a) h.2
    unfold fLt fK at ih ⊢
    rw [List.filter_cons, List.filter_cons, List.filter_cons]
    by_cases q : x.1 < a
    · rw [if_pos (decide_eq_true (by omega)), if_pos (decide_eq_true q), if_neg (by simp; omega), ih]; rfl
    · by_cases q2 : x.1 = a
      · have e : l.filter (fun y => decide (y.1 < a)) = [] := List.filter_eq_nil_iff.mpr (fun y hy => by have := h.1 y hy; simp; omega)
        rw [if_pos (decide_eq_true (by omega)), if_neg (by simp; omega), if_pos (decide_eq_true q2), ih, e]; rfl
      · rw [if_neg (by simp; omega), if_neg (by simp; omega), if_neg (by simp; omega), ih]
theorem fK_fold {f : Int → AL → AL} {k : Int} {P : Int → Bool} {s : AL} {N : Nat} (hf : ∀ i : Int, 0 ≤ i → i < N → ∀ l, fK k (f i l) = fK k l ++ if P i = true then [(k, i)] else []) : ∀ (j : Nat), j ≤ N → fK k (foldI f s j) = fK k s ++ selL k P j
  | 0, _ => (List.append_nil _).symm
  | j + 1, hj => by
    show fK k (f j (foldI f s j)) = _
    rw [hf j (by omega) (by omega), fK_fold hf j (by omega), List.append_assoc]
    rfl
theorem fK_same {f : Int → AL → AL} {k : Int} {s : AL} {N : Nat} (hf : ∀ i : Int, 0 ≤ i → i < N → ∀ l, fK k (f i l) = fK k l) : ∀ (j : Nat), j ≤ N → fK k (foldI f s j) = fK k s
  | 0, _ => rfl
  | j + 1, hj => by
    show fK k (f j (foldI f s j)) = _
    rw [hf j (by omega) (by omega), fK_same hf j (by omega)]
section AT
variable {n m nk nl nt d : Int} {wh md du kd ko ld lw td tw : Int → Int}
def pM (n d : Int) (wh md : Int → Int) (p : Int) : Bool := decide ((0 ≤ wh p ∧ wh p < n) ∧ md p = d)
def pB (n d : Int) (wh du : Int → Int) (p : Int) : Bool := decide ((0 ≤ wh p ∧ wh p < n) ∧ du p = d)
def pK (m d : Int) (kd ko : Int → Int) (i : Int) : Bool := decide ((0 ≤ ko i ∧ ko i < m) ∧ kd i = d)
theorem app_if {l : AL} {c : Prop} [Decidable c] {x y : Int × Int} (h : c → x = y) : (l ++ if c then [x] else []) = l ++ if c then [y] else [] := by
  by_cases q : c
  · rw [if_pos q, if_pos q, h q]
  · rw [if_neg q, if_neg q]
theorem stpV_0 (hd : 0 ≤ d) (i : Int) (l : AL) : fK (5 * d) (stpV n wh md du i l) = fK (5 * d) l ++ if pM n d wh md i = true then [(5 * d, i)] else [] := by
  unfold stpV pM
  by_cases h : 0 ≤ wh i ∧ wh i < n
  · rw [if_pos h]
    by_cases h2 : du i = -1
    · rw [if_pos h2, fK_ins]
      by_cases q : md i = d
      · rw [if_pos (by show 5 * md i = 5 * d; omega), if_pos (by simp [h, q]), q]
      · rw [if_neg (by show ¬ 5 * md i = 5 * d; omega), if_neg (by simp [q])]
    · rw [if_neg h2, fK_ins, fK_ins]
      rw [if_neg (c := (5 * du i + 2, i).1 = 5 * d) (by show ¬ 5 * du i + 2 = 5 * d; omega), List.append_nil]
      by_cases q : md i = d
      · rw [if_pos (by show 5 * md i = 5 * d; omega), if_pos (by simp [h, q]), q]
      · rw [if_neg (by show ¬ 5 * md i = 5 * d; omega), if_neg (by simp [q])]
  · rw [if_neg h, if_neg (by simp only [decide_eq_true_eq]; exact fun z => h z.1), List.append_nil]
theorem stpV_2 (hd : 0 ≤ d) (i : Int) (l : AL) : fK (5 * d + 2) (stpV n wh md du i l) = fK (5 * d + 2) l ++ if pB n d wh du i = true then [(5 * d + 2, i)] else [] := by
  unfold stpV pB
  by_cases h : 0 ≤ wh i ∧ wh i < n
  · rw [if_pos h]
    by_cases h2 : du i = -1
    · rw [if_pos h2, fK_ins, if_neg (by show ¬ 5 * md i = 5 * d + 2; omega), if_neg (by simp only [decide_eq_true_eq]; omega)]
    · rw [if_neg h2, fK_ins, fK_ins]
      rw [if_neg (c := (5 * md i, i).1 = 5 * d + 2) (by show ¬ 5 * md i = 5 * d + 2; omega), List.append_nil]
      by_cases q : du i = d
      · rw [if_pos (by show 5 * du i + 2 = 5 * d + 2; omega), if_pos (by simp [h, q]), q]
      · rw [if_neg (by show ¬ 5 * du i + 2 = 5 * d + 2; omega), if_neg (by simp [q])]
  · rw [if_neg h, if_neg (by simp only [decide_eq_true_eq]; exact fun z => h z.1), List.append_nil]
theorem stpV_n {k : Int} (hk : ¬ k % 5 = 0 ∧ ¬ k % 5 = 2) (i : Int) (l : AL) : fK k (stpV n wh md du i l) = fK k l := by
  unfold stpV
  split
  · split
    · rw [fK_ins, if_neg (by show ¬ 5 * md i = k; omega), List.append_nil]
    · rw [fK_ins, fK_ins, if_neg (by show ¬ 5 * md i = k; omega), if_neg (by show ¬ 5 * du i + 2 = k; omega), List.append_nil, List.append_nil]
  · rfl
theorem stpK_1 (i : Int) (l : AL) : fK (5 * d + 1) (stpK m kd ko i l) = fK (5 * d + 1) l ++ if pK m d kd ko i = true then [(5 * d + 1, i)] else [] := by
  unfold stpK pK
  by_cases h : 0 ≤ ko i ∧ ko i < m
  · rw [if_pos h, fK_ins]
    by_cases q : kd i = d
    · rw [if_pos (by show 5 * kd i + 1 = 5 * d + 1; omega), if_pos (by simp [h, q]), q]
    · rw [if_neg (by show ¬ 5 * kd i + 1 = 5 * d + 1; omega), if_neg (by simp [q])]
  · rw [if_neg h, if_neg (by simp only [decide_eq_true_eq]; exact fun z => h z.1), List.append_nil]
theorem stpK_n {k : Int} (hk : ¬ k % 5 = 1) (i : Int) (l : AL) : fK k (stpK m kd ko i l) = fK k l := by
  unfold stpK
  split
  · rw [fK_ins, if_neg (by show ¬ 5 * kd i + 1 = k; omega), List.append_nil]
  · rfl
theorem stpT_k {e : Int} (he : 0 ≤ e ∧ e ≤ 4) (i : Int) (l : AL) : fK (5 * d + e) (stpT n e td tw i l) = fK (5 * d + e) l ++ if pK n d td tw i = true then [(5 * d + e, i)] else [] := by
  unfold stpT pK
  by_cases h : 0 ≤ tw i ∧ tw i < n
  · rw [if_pos h, fK_ins]
    by_cases q : td i = d
    · rw [if_pos (by show 5 * td i + e = 5 * d + e; omega), if_pos (by simp [h, q]), q]
    · rw [if_neg (by show ¬ 5 * td i + e = 5 * d + e; omega), if_neg (by simp [q])]
  · rw [if_neg h, if_neg (by simp only [decide_eq_true_eq]; exact fun z => h z.1), List.append_nil]
theorem stpT_n {k e : Int} (he : 0 ≤ e ∧ e ≤ 4) (hk : ¬ k % 5 = e) (i : Int) (l : AL) : fK k (stpT n e td tw i l) = fK k l := by
  unfold stpT
  split
  · rw [fK_ins, if_neg (by show ¬ 5 * td i + e = k; omega), List.append_nil]
  · rfl
theorem aT_0 (hd : 0 ≤ d) : fK (5 * d) (aT n m nk nl nt wh md du kd ko ld lw td tw) = selL (5 * d) (pM n d wh md) m.toNat := by
  unfold aT aL aK aV
  rw [fK_same (N := nt.toNat) (fun i _ _ l => stpT_n (by omega) (by omega) i l) _ (Nat.le_refl _), fK_same (N := nl.toNat) (fun i _ _ l => stpT_n (by omega) (by omega) i l) _ (Nat.le_refl _), fK_same (N := nk.toNat) (fun i _ _ l => stpK_n (by omega) i l) _ (Nat.le_refl _), fK_fold (N := m.toNat) (fun i _ _ l => stpV_0 hd i l) _ (Nat.le_refl _)]
  rfl
theorem aT_1 (hd : 0 ≤ d) : fK (5 * d + 1) (aT n m nk nl nt wh md du kd ko ld lw td tw) = selL (5 * d + 1) (pK m d kd ko) nk.toNat := by
  unfold aT aL aK aV
  rw [fK_same (N := nt.toNat) (fun i _ _ l => stpT_n (by omega) (by omega) i l) _ (Nat.le_refl _), fK_same (N := nl.toNat) (fun i _ _ l => stpT_n (by omega) (by omega) i l) _ (Nat.le_refl _), fK_fold (N := nk.toNat) (fun i _ _ l => stpK_1 i l) _ (Nat.le_refl _), fK_same (N := m.toNat) (fun i _ _ l => stpV_n (by omega) i l) _ (Nat.le_refl _)]
  rfl
theorem aT_2 (hd : 0 ≤ d) : fK (5 * d + 2) (aT n m nk nl nt wh md du kd ko ld lw td tw) = selL (5 * d + 2) (pB n d wh du) m.toNat := by
  unfold aT aL aK aV
  rw [fK_same (N := nt.toNat) (fun i _ _ l => stpT_n (by omega) (by omega) i l) _ (Nat.le_refl _), fK_same (N := nl.toNat) (fun i _ _ l => stpT_n (by omega) (by omega) i l) _ (Nat.le_refl _), fK_same (N := nk.toNat) (fun i _ _ l => stpK_n (by omega) i l) _ (Nat.le_refl _), fK_fold (N := m.toNat) (fun i _ _ l => stpV_2 hd i l) _ (Nat.le_refl _)]
  rfl
theorem aT_3 (hd : 0 ≤ d) : fK (5 * d + 3) (aT n m nk nl nt wh md du kd ko ld lw td tw) = selL (5 * d + 3) (pK n d ld lw) nl.toNat := by
  unfold aT aL aK aV
  rw [fK_same (N := nt.toNat) (fun i _ _ l => stpT_n (by omega) (by omega) i l) _ (Nat.le_refl _), fK_fold (N := nl.toNat) (fun i _ _ l => stpT_k (by omega) i l) _ (Nat.le_refl _), fK_same (N := nk.toNat) (fun i _ _ l => stpK_n (by omega) i l) _ (Nat.le_refl _), fK_same (N := m.toNat) (fun i _ _ l => stpV_n (by omega) i l) _ (Nat.le_refl _)]
  rfl
theorem aT_4 (hd : 0 ≤ d) : fK (5 * d + 4) (aT n m nk nl nt wh md du kd ko ld lw td tw) = selL (5 * d + 4) (pK n d td tw) nt.toNat := by
  unfold aT aL aK aV
  rw [fK_fold (N := nt.toNat) (fun i _ _ l => stpT_k (by omega) i l) _ (Nat.le_refl _), fK_same (N := nl.toNat) (fun i _ _ l => stpT_n (by omega) (by omega) i l) _ (Nat.le_refl _), fK_same (N := nk.toNat) (fun i _ _ l => stpK_n (by omega) i l) _ (Nat.le_refl _), fK_same (N := m.toNat) (fun i _ _ l => stpV_n (by omega) i l) _ (Nat.le_refl _)]
  rfl
theorem fLt_5 {l : AL} (h : srt l) (d : Int) : fLt (5 * (d + 1)) l = fLt (5 * d) l ++ (fK (5 * d) l ++ (fK (5 * d + 1) l ++ (fK (5 * d + 2) l ++ (fK (5 * d + 3) l ++ fK (5 * d + 4) l)))) := by
  rw [show 5 * (d + 1) = 5 * d + 4 + 1 by omega, fLt_s h, show 5 * d + 4 = 5 * d + 3 + 1 by omega, fLt_s h, show 5 * d + 3 = 5 * d + 2 + 1 by omega, fLt_s h, show 5 * d + 2 = 5 * d + 1 + 1 by omega, fLt_s h, fLt_s h]
  simp only [List.append_assoc]
end AT
/-- a fold over the acts of a key against one over all numbers -/
def fdA (F : Int → Int → ST3 → ST3) (σ : ST3) (l : AL) : ST3 := l.foldl (fun s x => F x.1 x.2 s) σ
theorem fdA_app (F : Int → Int → ST3 → ST3) (σ : ST3) (l k : AL) : fdA F σ (l ++ k) = fdA F (fdA F σ l) k := List.foldl_append
theorem sel_rel {R : ST3 → ST3 → Prop} {F : Int → Int → ST3 → ST3} {key : Int} {P : Int → Bool} {g : Int → ST3 → ST3} {N : Nat} (h1 : ∀ i : Int, 0 ≤ i → i < N → P i = true → ∀ σ τ, R σ τ → R (F key i σ) (g i τ)) (h2 : ∀ i : Int, 0 ≤ i → i < N → ¬ P i = true → ∀ σ τ, R σ τ → R σ (g i τ)) {σ τ : ST3} (hR : R σ τ) : ∀ (j : Nat), j ≤ N → R (fdA F σ (selL key P j)) (foldI g τ j)
  | 0, _ => hR
  | j + 1, hj => by
    have ih := sel_rel h1 h2 hR j (by omega)
    show R (fdA F σ (selL key P j ++ if P (j : Int) = true then [((key, (j : Int)) : Int × Int)] else [])) (g j (foldI g τ j))
    rw [fdA_app]
    by_cases q : P (j : Int) = true
    · rw [if_pos q]
      exact h1 j (by omega) (by omega) q _ _ ih
    · rw [if_neg q]
      exact h2 j (by omega) (by omega) q _ _ ih
theorem foldI_fst {f : Int → (Int → Int) → (Int → Int)} {τ : ST3} : ∀ (N : Nat), foldI (fun i (t : ST3) => (f i t.1, t.2)) τ N = (foldI f τ.1 N, τ.2)
  | 0 => rfl
  | N + 1 => by
    show (f N (foldI (fun i (t : ST3) => (f i t.1, t.2)) τ N).1, (foldI (fun i (t : ST3) => (f i t.1, t.2)) τ N).2) = _
    rw [foldI_fst N]
    rfl
theorem and1 (b : BitVec 32) : b &&& 1#32 = 0#32 ∨ b &&& 1#32 = 1#32 := by
  rw [BitVec.and_one_eq_setWidth_ofBool_getLsbD]
  cases b.getLsbD 0
  · left; rfl
  · right; rfl
theorem mAnd_1 (x : Int) : mAnd x 1 = 0 ∨ mAnd x 1 = 1 := by
  unfold mAnd
  have e : Int32.ofInt 1 = 1 := rfl
  rw [e]
  generalize Int32.ofInt x = y
  rcases and1 y.toBitVec with q | q
  · left
    have : y &&& 1 = 0 := Int32.toBitVec_inj.mp q
    rw [this]; rfl
  · right
    have : y &&& 1 = 1 := Int32.toBitVec_inj.mp q
    rw [this]; rfl
section YR
variable {n m nk nl nt nK nL : Int} {so sz wh gr md du so' sz' wh' gr' md' du' kd ko kd' ko' ld lw lm ld' lw' lm' td tw tm td' tw' tm' : Int → Int}
theorem day_rel (hE : agE n m so sz wh gr md du so' sz' wh' gr' md' du') (hK : agK nk kd ko kd' ko') (hL : agT nl ld lw lm ld' lw' lm') (hT : agT nt td tw tm td' tw' tm') {σ τ : ST3} (hR : RLk n m wh σ τ) {d : Int} (hd : 0 ≤ d) :
    RLk n m wh (fdA (acF so sz wh gr ko lw lm tw tm nK nL) σ (selL (5 * d) (pM n d wh md) m.toNat ++ (selL (5 * d + 1) (pK m d kd ko) nk.toNat ++ (selL (5 * d + 2) (pB n d wh du) m.toNat ++ (selL (5 * d + 3) (pK n d ld lw) nl.toNat ++ selL (5 * d + 4) (pK n d td tw) nt.toNat))))) (dyS n m m nk nl nt nK nL so' sz' wh' gr' md' du' kd' ko' ld' lw' lm' td' tw' tm' d τ) := by
  unfold dyS d3S
  rw [fdA_app, fdA_app, fdA_app, fdA_app]
  have r0 := sel_rel (F := acF so sz wh gr ko lw lm tw tm nK nL) (key := 5 * d) (P := pM n d wh md) (g := mkS n so' wh' gr' md' d) (N := m.toNat) (R := RLk n m wh) (fun i i1 i2 hp σ τ h => by
      unfold pM at hp
      simp only [decide_eq_true_eq] at hp
      obtain ⟨e1, -, e2, -⟩ := hE.2 i i1 (by omega)
      rw [acF_0 (by omega)]
      unfold mkS
      rw [if_pos (by omega)]
      exact eq_0 hE h i1 (by omega) hp.1.2) (fun i i1 i2 hp σ τ h => by
      unfold pM at hp
      simp only [decide_eq_true_eq] at hp
      obtain ⟨e1, -, e2, -, e3, -⟩ := hE.2 i i1 (by omega)
      unfold mkS
      rw [if_neg (by omega)]
      exact h) hR m.toNat (Nat.le_refl _)
  have r1 := sel_rel (F := acF so sz wh gr ko lw lm tw tm nK nL) (key := 5 * d + 1) (P := pK m d kd ko) (g := kpS m nK sz' wh' gr' kd' ko' d) (N := nk.toNat) (R := RLk n m wh) (fun i i1 i2 hp σ τ h => by
      unfold pK at hp
      simp only [decide_eq_true_eq] at hp
      obtain ⟨e1, e2, -, -⟩ := hK i i1 (by omega)
      rw [acF_1 (by omega)]
      unfold kpS
      rw [e2]
      have hq := eq_1 hE h hp.1.1 hp.1.2
      rcases mAnd_1 (mShr nK i) with z | z
      · rw [if_pos z]
        by_cases q : τ.2.2 (ko i) = 1
        · rw [if_pos ⟨by omega, by omega, by omega, q⟩]
          rw [if_pos q] at hq
          exact hq
        · rw [if_neg (fun w => q w.2.2.2)]
          rw [if_neg q] at hq
          exact hq
      · rw [if_neg (by omega), if_neg (fun w => w.2.1 z)]
        exact h) (fun i i1 i2 hp σ τ h => by
      unfold pK at hp
      simp only [decide_eq_true_eq] at hp
      obtain ⟨e1, e2, e3, e4⟩ := hK i i1 (by omega)
      unfold kpS
      rw [if_neg (by omega)]
      exact h) r0 nk.toNat (Nat.le_refl _)
  have r2 := sel_rel (F := acF so sz wh gr ko lw lm tw tm nK nL) (key := 5 * d + 2) (P := pB n d wh du) (g := brS so' wh' gr' du' d) (N := m.toNat) (R := RLk n m wh) (fun i i1 i2 hp σ τ h => by
      unfold pB at hp
      simp only [decide_eq_true_eq] at hp
      obtain ⟨-, -, -, e2, -⟩ := hE.2 i i1 (by omega)
      rw [acF_2 (by omega)]
      unfold brS
      have hq := eq_2 hE h i1 (show i < m by omega)
      by_cases q : τ.2.2 i = 1
      · rw [if_pos ⟨by omega, q⟩]
        rw [if_pos q] at hq
        exact hq
      · rw [if_neg (fun w => q w.2)]
        rw [if_neg q] at hq
        exact hq) (fun i i1 i2 hp σ τ h => by
      unfold pB at hp
      simp only [decide_eq_true_eq] at hp
      obtain ⟨-, -, -, e2, e3, -⟩ := hE.2 i i1 (by omega)
      unfold brS
      have hs := h.2 i i1 (by omega)
      rw [if_neg (fun w => by
        have := hs.2 (by rw [hs.1]; exact w.2)
        omega)]
      exact h) r1 m.toNat (Nat.le_refl _)
  have r3 := sel_rel (F := acF so sz wh gr ko lw lm tw tm nK nL) (key := 5 * d + 3) (P := pK n d ld lw) (g := fun i t => (liS n nL ld' lw' lm' d i t.1, t.2)) (N := nl.toNat) (R := RLk n m wh) (fun i i1 i2 hp σ τ h => by
      unfold pK at hp
      simp only [decide_eq_true_eq] at hp
      obtain ⟨e1, e2, e3, -, -, e4, -⟩ := hL i i1 (by omega)
      rw [acF_3 (by omega)]
      unfold liS
      rcases mAnd_1 (mShr nL i) with z | z
      · rw [if_pos z, if_pos ⟨by omega, by omega, by omega⟩, e2, e3]
        exact eq_3 h e4
      · rw [if_neg (by omega), if_neg (fun w => w.2.2 z)]
        exact h) (fun i i1 i2 hp σ τ h => by
      unfold pK at hp
      simp only [decide_eq_true_eq] at hp
      obtain ⟨e1, e2, e3, -, e5, e4, -⟩ := hL i i1 (by omega)
      unfold liS
      rw [if_neg (by omega)]
      exact h) r2 nl.toNat (Nat.le_refl _)
  have r4 := sel_rel (F := acF so sz wh gr ko lw lm tw tm nK nL) (key := 5 * d + 4) (P := pK n d td tw) (g := fun i t => (leS n td' tw' tm' d i t.1, t.2)) (N := nt.toNat) (R := RLk n m wh) (fun i i1 i2 hp σ τ h => by
      unfold pK at hp
      simp only [decide_eq_true_eq] at hp
      obtain ⟨e1, e2, e3, -, -, e4, -⟩ := hT i i1 (by omega)
      rw [acF_4 (by omega)]
      unfold leS
      rw [if_pos ⟨by omega, by omega⟩, e2, e3]
      exact eq_4 h e4) (fun i i1 i2 hp σ τ h => by
      unfold pK at hp
      simp only [decide_eq_true_eq] at hp
      obtain ⟨e1, e2, e3, -, e5, e4, -⟩ := hT i i1 (by omega)
      unfold leS
      rw [if_neg (by omega)]
      exact h) r3 nt.toNat (Nat.le_refl _)
  rw [foldI_fst, foldI_fst] at r4
  exact r4
/-- no act stands ahead of day 0 -/
theorem ins_pos {x : Int × Int} {l : AL} (hx : 0 ≤ x.1) (h : ∀ y ∈ l, 0 ≤ y.1) : ∀ y ∈ ins x l, 0 ≤ y.1 := fun y hy => by
  unfold ins at hy
  rcases List.mem_append.mp hy with q | q
  · exact h y (List.mem_filter.mp q).1
  · rcases List.mem_cons.mp q with rfl | q
    · exact hx
    · exact h y (List.mem_filter.mp q).1
theorem fold_pos {f : Int → AL → AL} {s : AL} {N : Nat} (hf : ∀ i : Int, 0 ≤ i → i < N → ∀ l, (∀ y ∈ l, 0 ≤ y.1) → ∀ y ∈ f i l, 0 ≤ y.1) (hs : ∀ y ∈ s, 0 ≤ y.1) : ∀ (j : Nat), j ≤ N → ∀ y ∈ foldI f s j, 0 ≤ y.1
  | 0, _ => hs
  | j + 1, hj => hf j (by omega) (by omega) _ (fold_pos hf hs j (by omega))
theorem aT_pos (hE : agE n m so sz wh gr md du so' sz' wh' gr' md' du') (hK : agK nk kd ko kd' ko') (hL : agT nl ld lw lm ld' lw' lm') (hT : agT nt td tw tm td' tw' tm') : ∀ y ∈ aT n m nk nl nt wh md du kd ko ld lw td tw, 0 ≤ y.1 := by
  refine fold_pos (N := nt.toNat) (fun i i1 i2 l hl => ?_) (fold_pos (N := nl.toNat) (fun i i1 i2 l hl => ?_) (fold_pos (N := nk.toNat) (fun i i1 i2 l hl => ?_) (fold_pos (N := m.toNat) (fun i i1 i2 l hl => ?_) (fun y hy => absurd hy List.not_mem_nil) _ (Nat.le_refl _)) _ (Nat.le_refl _)) _ (Nat.le_refl _)) _ (Nat.le_refl _)
  · obtain ⟨-, -, -, e, -⟩ := hT i i1 (by omega)
    unfold stpT
    split
    · exact ins_pos (by show 0 ≤ 5 * td i + 4; omega) hl
    · exact hl
  · obtain ⟨-, -, -, e, -⟩ := hL i i1 (by omega)
    unfold stpT
    split
    · exact ins_pos (by show 0 ≤ 5 * ld i + 3; omega) hl
    · exact hl
  · obtain ⟨-, -, e, -⟩ := hK i i1 (by omega)
    unfold stpK
    split
    · exact ins_pos (by show 0 ≤ 5 * kd i + 1; omega) hl
    · exact hl
  · obtain ⟨-, -, -, -, -, -, -, e, e2⟩ := hE.2 i i1 (by omega)
    unfold stpV
    split
    · split
      · exact ins_pos (by show 0 ≤ 5 * md i; omega) hl
      · exact ins_pos (by show 0 ≤ 5 * du i + 2; omega) (ins_pos (by show 0 ≤ 5 * md i; omega) hl)
    · exact hl
theorem year_rel (hE : agE n m so sz wh gr md du so' sz' wh' gr' md' du') (hK : agK nk kd ko kd' ko') (hL : agT nl ld lw lm ld' lw' lm') (hT : agT nt td tw tm td' tw' tm') {σ τ : ST3} (hR : RLk n m wh σ τ) : ∀ (d : Nat), RLk n m wh (fdA (acF so sz wh gr ko lw lm tw tm nK nL) σ (fLt (5 * (d : Int)) (aT n m nk nl nt wh md du kd ko ld lw td tw))) (rnS (dyS n m m nk nl nt nK nL so' sz' wh' gr' md' du' kd' ko' ld' lw' lm' td' tw' tm') τ d)
  | 0 => by
    have e : fLt (5 * ((0 : Nat) : Int)) (aT n m nk nl nt wh md du kd ko ld lw td tw) = [] := List.filter_eq_nil_iff.mpr (fun y hy => by
      have := aT_pos hE hK hL hT y hy
      simp
      omega)
    rw [e]
    exact hR
  | d + 1 => by
    have ih := year_rel hE hK hL hT hR d
    rw [show 5 * ((d + 1 : Nat) : Int) = 5 * ((d : Int) + 1) by omega, fLt_5 aT_srt, fdA_app, aT_0 (by omega), aT_1 (by omega), aT_2 (by omega), aT_3 (by omega), aT_4 (by omega)]
    exact day_rel hE hK hL hT ih (by omega)
end YR
/-! a run over the rows, against the list -/
theorem rnF_fdA {F : Int → Int → ST3 → ST3} {f g : Int → Int} {l : AL} {n : Int} (h : isL l n f g) {σ : ST3} : ∀ (a b : Nat), a + b ≤ l.length → rnF F f g (a : Int) (fdA F σ (l.take a)) b = fdA F σ (l.take (a + b))
  | a, 0, _ => rfl
  | a, b + 1, hb => by
    have ih := rnF_fdA (F := F) h (σ := σ) a b (by omega)
    show F (f ((a : Int) + (b : Int))) (g ((a : Int) + (b : Int))) (rnF F f g (a : Int) (fdA F σ (l.take a)) b) = _
    rw [ih]
    have e := h.2 (a + b) (by omega)
    rw [show ((a : Int) + (b : Int)) = ((a + b : Nat) : Int) by omega, e.1, e.2, show a + (b + 1) = a + b + 1 by omega]
    have hl : a + b < l.length := by omega
    rw [List.take_succ, List.getElem?_eq_getElem hl, fdA_app]
    have e2 : l.getD (a + b) (0, 0) = l[a + b] := by rw [List.getD_eq_getElem?_getD, List.getElem?_eq_getElem hl]; rfl
    rw [e2]
    rfl
/-- the acts up to a place are those below a key -/
theorem take_fLt {l : AL} {n lim : Int} {f g : Int → Int} (hs : srt l) (h : isL l n f g) {b : Nat} (hb : b ≤ l.length) (h1 : ∀ i : Int, 0 ≤ i → i < b → f i < lim) (h2 : ¬ ((b : Int) < n ∧ f b < lim)) : l.take b = fLt lim l := by
  have hn := h.1
  unfold fLt
  conv => rhs; rw [← List.take_append_drop b l]
  rw [List.filter_append]
  have e1 : (l.take b).filter (fun y => decide (y.1 < lim)) = l.take b := List.filter_eq_self.mpr (fun y hy => by
    obtain ⟨i, hi⟩ := List.getElem?_of_mem hy
    have hlt : i < (l.take b).length := (List.getElem?_eq_some_iff.mp hi).1
    rw [List.length_take] at hlt
    rw [List.getElem?_take_of_lt (by omega)] at hi
    have := h1 i (by omega) (by omega)
    rw [(h.2 i (by omega)).1, List.getD_eq_getElem?_getD, hi] at this
    exact decide_eq_true this)
  have e2 : (l.drop b).filter (fun y => decide (y.1 < lim)) = [] := List.filter_eq_nil_iff.mpr (fun y hy => by
    by_cases hbl : b < l.length
    · have hf : ¬ f b < lim := fun q => h2 ⟨by omega, q⟩
      have hd : l.drop b = l[b] :: l.drop (b + 1) := List.drop_eq_getElem_cons hbl
      have hsd : srt (l.drop b) := (srt_app.mp (by rw [List.take_append_drop]; exact hs : srt (l.take b ++ l.drop b))).2.1
      have e3 : (l[b]).1 = f b := by rw [(h.2 b hbl).1, List.getD_eq_getElem?_getD, List.getElem?_eq_getElem hbl]; rfl
      rw [hd] at hy hsd
      simp only [decide_eq_true_eq]
      rcases List.mem_cons.mp hy with q | q
      · rw [q, e3]; exact hf
      · have := hsd.1 y q
        omega
    · rw [List.drop_eq_nil_of_le (by omega)] at hy
      exact absurd hy List.not_mem_nil)
  rw [e1, e2, List.append_nil]
