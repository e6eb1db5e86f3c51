/-! ===== a contract out of a method's evaluation ===== -/
def colP (t a : Option AVa) : List (Nat × AN) := match t, a with
  | some t, some a => colV t a
  | _, _ => []
def sgO (p : Nat) (o : BD × Option AVa × AHa) (a : Option AVa) (ha : AHa) : Nat → AN := sgp p (fun j => ((colP o.2.1 a ++ colZ colC o.2.2 ha).lookup j).getD (none, 0))
def vOkO (B : BD) (σ : Nat → AN) (m : Nat) (t a : Option AVa) : Bool := match t, a with
  | none, none => true
  | some t, some a' => vOk B σ m t a'
  | _, _ => false
def kC (c : CTR) : KT := fun B a ha => c.2.2.2.2.2.any (fun o => bOk B (sgO c.2.2.1.length o a ha) o.1 && (vOkO B (sgO c.2.2.1.length o a ha) o.1.length o.2.1 a && zipB (cOkA B (sgO c.2.2.1.length o a ha) o.1.length) o.2.2 ha))
def qC (c : CTR) (r : Nat → Int) : Option Value → AH → Prop := fun v hp' => ∃ o ∈ c.2.2.2.2.2, ∃ ρ', okB o.1 ρ' ∧ (∀ j, j < c.2.2.1.length → ρ' j = r j) ∧ rO o.1 ρ' o.2.1 v ∧ rH o.1 ρ' o.2.2 hp'
theorem kC_end (c : CTR) {Bt : BD} {ρ r : Nat → Int} (hl : c.2.2.1.length ≤ Bt.length) (hr : ∀ j, j < c.2.2.1.length → ρ j = r j) : aiEnd (kC c) Bt ρ (qC c r) := by
  intro B' ρ' a v ha' hp' h hB' he hO hH
  unfold kC at h
  obtain ⟨o, ho, h⟩ := List.any_eq_true.mp h
  rw [Bool.and_eq_true, Bool.and_eq_true] at h
  obtain ⟨h1, h2, h3⟩ := h
  refine ⟨o, ho, ρt (sgO c.2.2.1.length o a ha') ρ', bOk_ok hB' h1, fun j hj => ?_, ?_, hOk_ok hB' h3 hH⟩
  · unfold ρt sgO sgp
    rw [if_pos hj]
    show ρ' j + 0 = r j
    rw [Int.add_zero, he.2 j (by omega), hr j hj]
  · unfold vOkO at h2
    generalize sgO c.2.2.1.length o a ha' = σ at h2 ⊢
    generalize o.2.1 = t at h2 ⊢
    match t, a, v, hO, h2 with
    | none, none, none, _, _ => exact trivial
    | some t, some a', some w, hO, h2 => exact vOk_ok hB' h2 hO
theorem ctr_of {O : ORA} (hO : oraOk O) (c : CTR) {f : Nat} {M : MT} (hM : mtL[c.1]? = some M) (H : List HD) (hlen : ∀ q ∈ H, c.2.2.1.length ≤ q.2.1.length) (hmu : ∀ q ∈ H, q.2.2.2.2.all (wgtB q.2.1) = true)
    (hai : ∀ q ∈ H, ai O f true (hcut H c.2.2.1.length q) c.2.1 c.1 q.1 q.2.1 q.2.2.1 [] q.2.2.2.1 (kC c) = true) (hent : ai O f true (hcut0 H c.2.2.1.length) c.2.1 c.1 0 c.2.2.1 (entA c.2.2.2.1 M.ml) [] c.2.2.2.2.1 (kC c) = true) (hsum : (c.2.2.2.1.map catA).sum ≤ M.ml) (hpo : c.2.2.2.2.2.all (fun o => decide (c.2.2.1.length ≤ o.1.length)) = true) : ctrOk c := by
  intro NM hN ρ av hp hB hS hH
  rw [hM] at hN
  cases hN
  have C := meth hO hM H (kC c) ρ (qC c ρ) hlen hmu hai (fun q hq ρ1 hr => kC_end c (hlen q hq) hr) (Nat.le_refl _) hent hsum hB (fun _ _ => rfl) hS hH (kC_end c (Nat.le_refl _) (fun _ _ => rfl))
  refine Ct_weak C (fun v hp' hq => ?_)
  obtain ⟨o, ho, ρ', g1, g2, g3, g4⟩ := hq
  have hp1 := of_decide_eq_true (List.all_eq_true.mp hpo o ho)
  exact ⟨o, ho, ρ', g1, ⟨hp1, g2⟩, g3, g4⟩
/-! ===== a contract out of those over parts of a name's bounds ===== -/
def covB : Int → Int → List (Int × Int) → Bool
  | lo, hi, [] => decide (hi < lo)
  | lo, hi, b :: r => decide (b.1 ≤ lo) && covB (b.2 + 1) hi r
theorem covB_ok : ∀ {l : List (Int × Int)} {lo hi x : Int}, covB lo hi l = true → lo ≤ x → x ≤ hi → ∃ b ∈ l, b.1 ≤ x ∧ x ≤ b.2
  | [], lo, hi, x, h, h1, h2 => by
    have := of_decide_eq_true h
    omega
  | b :: r, lo, hi, x, h, h1, h2 => by
    simp only [covB, Bool.and_eq_true, decide_eq_true_eq] at h
    by_cases hx : x ≤ b.2
    · exact ⟨b, List.mem_cons_self, by omega, hx⟩
    · obtain ⟨q, q1, q2⟩ := covB_ok h.2 (by omega) h2
      exact ⟨q, List.mem_cons_of_mem _ q1, q2⟩
def cset (c : CTR) (j : Nat) (b : Int × Int) : CTR := (c.1, c.2.1, c.2.2.1.set j b, c.2.2.2)
theorem ctr_split (c : CTR) (j : Nat) {b : Int × Int} (hj : c.2.2.1[j]? = some b) (ivs : List (Int × Int)) (hcov : covB b.1 b.2 ivs = true) (h : ∀ q ∈ ivs, ctrOk (cset c j q)) : ctrOk c := by
  intro NM hN ρ av hp hB hS hH
  have h1 := hB j b hj
  obtain ⟨q, q1, q2, q3⟩ := covB_ok hcov h1.1 h1.2
  have hB' : okB (c.2.2.1.set j q) ρ := set_okB hB ⟨q2, q3⟩
  have e : ext c.2.2.1 ρ (c.2.2.1.set j q) ρ := ⟨by rw [List.length_set]; exact Nat.le_refl _, fun _ _ => rfl⟩
  refine Ct_weak (h q q1 NM hN ρ av hp hB' (rS_ext e hS) (rH_ext e hH)) (fun v hp' hq => ?_)
  obtain ⟨o, ho, ρ', g1, g2, g3⟩ := hq
  exact ⟨o, ho, ρ', g1, ext_tr e g2, g3⟩
/-! ===== a contract over an array as a whole out of one over its items ===== -/
def citm (c : CTR) (k n : Nat) (lo hi : Int) : CTR := (c.1, c.2.1, c.2.2.1 ++ List.replicate n (lo, hi), c.2.2.2.1, c.2.2.2.2.1.set k (.inr (.inl (.int, (List.range n).map (fun i => (some (c.2.2.1.length + i), 0))))), c.2.2.2.2.2)
theorem ctr_items (c : CTR) {k n : Nat} {lo hi : Int} (hk : c.2.2.2.2.1[k]? = some (.inl (.int, n, lo, hi))) (h : ctrOk (citm c k n lo hi)) : ctrOk c := by
  intro NM hN ρ av hp hB hS hH
  obtain ⟨x, hx, hc⟩ := rH_at hH hk
  obtain ⟨xs, rfl, hl, hb⟩ := rC_sum hc
  have e : ext c.2.2.1 ρ (c.2.2.1 ++ List.replicate n (lo, hi)) (fun j => if j < c.2.2.1.length then ρ j else (xs.getD (j - c.2.2.1.length) 0).toInt) := ⟨by rw [List.length_append]; omega, fun j hj => if_pos hj⟩
  have hB' : okB (c.2.2.1 ++ List.replicate n (lo, hi)) (fun j => if j < c.2.2.1.length then ρ j else (xs.getD (j - c.2.2.1.length) 0).toInt) := by
    intro j b hj
    by_cases hlt : j < c.2.2.1.length
    · rw [List.getElem?_append_left hlt] at hj
      simp only [if_pos hlt]
      exact hB j b hj
    · rw [List.getElem?_append_right (by omega)] at hj
      simp only [if_neg hlt]
      have hjn := (List.getElem?_eq_some_iff.mp hj).1
      rw [List.length_replicate] at hjn
      rw [List.getElem?_replicate_of_lt hjn] at hj
      cases hj
      exact hb _ (getD_mem (by omega))
  refine Ct_weak (h NM hN _ av hp hB' (rS_ext e hS) ?_) (fun v hp' hq => ?_)
  · have h2 := rH_ext e hH
    refine ⟨by show (c.2.2.2.2.1.set k _).length = _; rw [List.length_set]; exact hH.1, fun j a hj => ?_, hH.2.2⟩
    have hj : (c.2.2.2.2.1.set k (.inr (.inl (.int, (List.range n).map (fun i => (some (c.2.2.1.length + i), 0))))))[j]? = some a := hj
    by_cases hjk : j = k
    · subst hjk
      rw [List.getElem?_set_self (List.getElem?_eq_some_iff.mp hk).1] at hj
      cases hj
      refine ⟨_, hx, rfl, by rw [List.length_map, List.length_range, hl], fun i m hi => ?_⟩
      rw [List.getElem?_map] at hi
      obtain ⟨i', hi', rfl⟩ := Option.map_eq_some_iff.mp hi
      have hil := (List.getElem?_eq_some_iff.mp hi').1
      rw [List.length_range] at hil
      rw [List.getElem?_range hil] at hi'
      cases hi'
      refine ⟨xs.getD i 0, by rw [List.getD_eq_getElem?_getD, List.getElem?_eq_getElem (by omega)]; rfl, fun q hq => by cases hq; show c.2.2.1.length + i < (c.2.2.1 ++ List.replicate n _).length; rw [List.length_append, List.length_replicate]; omega, ?_⟩
      show _ = (if c.2.2.1.length + i < c.2.2.1.length then _ else _) + 0
      rw [if_neg (by omega), Int.add_zero, show c.2.2.1.length + i - c.2.2.1.length = i by omega]
    · rw [List.getElem?_set_ne (Ne.symm hjk)] at hj
      exact h2.2.1 j a hj
  · obtain ⟨o, ho, ρ', g1, g2, g3⟩ := hq
    exact ⟨o, ho, ρ', g1, ext_tr e g2, g3⟩
/-! ===== the checks of a contract, a Bool each ===== -/
def haiB (O : ORA) (f : Nat) (c : CTR) (H : List HD) (q : HD) : Bool := ai O f true (hcut H c.2.2.1.length q) c.2.1 c.1 q.1 q.2.1 q.2.2.1 [] q.2.2.2.1 (kC c)
def entB (O : ORA) (f : Nat) (c : CTR) (H : List HD) (ml : Nat) : Bool := ai O f true (hcut0 H c.2.2.1.length) c.2.1 c.1 0 c.2.2.1 (entA c.2.2.2.1 ml) [] c.2.2.2.2.1 (kC c)
def stB (c : CTR) (H : List HD) (ml : Nat) : Bool := H.all (fun q => decide (c.2.2.1.length ≤ q.2.1.length) && q.2.2.2.2.all (wgtB q.2.1)) && (decide ((c.2.2.2.1.map catA).sum ≤ ml) && c.2.2.2.2.2.all (fun o => decide (c.2.2.1.length ≤ o.1.length)))
theorem hn (O : ORA) (f : Nat) (c : CTR) (H : List HD) : ∀ x ∈ ([] : List HD), haiB O f c H x = true := fun _ h => absurd h List.not_mem_nil
theorem hc {O : ORA} {f : Nat} {c : CTR} {H : List HD} {q : HD} {l : List HD} (h : haiB O f c H q = true) (t : ∀ x ∈ l, haiB O f c H x = true) : ∀ x ∈ q :: l, haiB O f c H x = true := fun x hx => by
  rcases List.mem_cons.mp hx with rfl | q
  · exact h
  · exact t x q
theorem ctr_by {L : List CTR} (hL : ∀ c ∈ L, ctrOk c) (c : CTR) (f : Nat) (M : MT) (hM : mtL[c.1]? = some M) (H : List HD) (hst : stB c H M.ml = true) (hent : entB (oraL L) f c H M.ml = true) (hai : ∀ q ∈ H, haiB (oraL L) f c H q = true) : ctrOk c := by
  unfold stB at hst
  rw [Bool.and_eq_true, Bool.and_eq_true, decide_eq_true_eq] at hst
  obtain ⟨h1, h2, h3⟩ := hst
  have h4 : ∀ q ∈ H, c.2.2.1.length ≤ q.2.1.length ∧ q.2.2.2.2.all (wgtB q.2.1) = true := fun q hq => by
    have := List.all_eq_true.mp h1 q hq
    rw [Bool.and_eq_true, decide_eq_true_eq] at this
    exact this
  exact ctr_of (oraL_ok hL) c hM H (fun q hq => (h4 q hq).1) (fun q hq => (h4 q hq).2) hai hent h2 h3
