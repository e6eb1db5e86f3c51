/-! ===== a contract out of a method's evaluation ===== -/
def colP (t a : Option AVa) : List (Nat × AN) := match t, a with
  | some t, some a => colV t a
  | _, _ => []
def sgO (c : CTR) (a : Option AVa) (ha : AHa) : Nat → AN := sgp c.2.2.1.length (fun j => ((colP c.2.2.2.2.2.2.1 a ++ colZ colC c.2.2.2.2.2.2.2 ha).lookup j).getD (none, 0))
def kC (c : CTR) : KT := fun B a ha => bOk B (sgO c a ha) (c.2.2.1 ++ c.2.2.2.2.2.1) && ((match c.2.2.2.2.2.2.1, a with
  | none, none => true
  | some t, some a' => vOk B (sgO c a ha) (c.2.2.1 ++ c.2.2.2.2.2.1).length t a'
  | _, _ => false) && zipB (cOkA B (sgO c a ha) (c.2.2.1 ++ c.2.2.2.2.2.1).length) c.2.2.2.2.2.2.2 ha)
def qC (c : CTR) (r : Nat → Int) : Option Value → AH → Prop := fun v hp' => ∃ ρ', okB (c.2.2.1 ++ c.2.2.2.2.2.1) ρ' ∧ (∀ j, j < c.2.2.1.length → ρ' j = r j) ∧ rO (c.2.2.1 ++ c.2.2.2.2.2.1) ρ' c.2.2.2.2.2.2.1 v ∧ rH (c.2.2.1 ++ c.2.2.2.2.2.1) ρ' c.2.2.2.2.2.2.2 hp'
theorem kC_end (c : CTR) {Bt : BD} {ρ r : Nat → Int} (hl : c.2.2.1.length ≤ Bt.length) (hr : ∀ j, j < c.2.2.1.length → ρ j = r j) : aiEnd (kC c) Bt ρ (qC c r) := by
  intro B' ρ' a v ha' hp' h hB' he hO hH
  unfold kC at h
  rw [Bool.and_eq_true, Bool.and_eq_true] at h
  obtain ⟨h1, h2, h3⟩ := h
  refine ⟨ρt (sgO c a ha') ρ', bOk_ok hB' h1, fun j hj => ?_, ?_, hOk_ok hB' h3 hH⟩
  · unfold ρt sgO sgp
    rw [if_pos hj]
    show ρ' j + 0 = r j
    rw [Int.add_zero, he.2 j (by omega), hr j hj]
  · generalize c.2.2.2.2.2.2.1 = t at h2
    match t, a, v, hO, h2 with
    | none, none, none, _, _ => exact trivial
    | some t, some a', some w, hO, h2 => exact vOk_ok hB' h2 hO
theorem ctr_of {O : ORA} (hO : oraOk O) (c : CTR) {f : Nat} {M : MT} (hM : mtL[c.1]? = some M) (H : List HD) (hlen : ∀ q ∈ H, c.2.2.1.length ≤ q.2.1.length) (hmu : ∀ q ∈ H, q.2.2.2.2.all (wgtB q.2.1) = true)
    (hai : ∀ q ∈ H, ai O f true (hcut H c.2.2.1.length q) c.2.1 c.1 q.1 q.2.1 q.2.2.1 [] q.2.2.2.1 (kC c) = true) (hent : ai O f true (hcut0 H c.2.2.1.length) c.2.1 c.1 0 c.2.2.1 (entA c.2.2.2.1 M.ml) [] c.2.2.2.2.1 (kC c) = true) (hsum : (c.2.2.2.1.map catA).sum ≤ M.ml) : ctrOk c := by
  intro NM hN ρ av hp hB hS hH
  rw [hM] at hN
  cases hN
  have C := meth hO hM H (kC c) ρ (qC c ρ) hlen hmu hai (fun q hq ρ1 hr => kC_end c (hlen q hq) hr) (Nat.le_refl _) hent hsum hB (fun _ _ => rfl) hS hH (kC_end c (Nat.le_refl _) (fun _ _ => rfl))
  refine Ct_weak C (fun v hp' hq => ?_)
  obtain ⟨ρ', g1, g2, g3, g4⟩ := hq
  exact ⟨ρ', g1, ⟨by rw [List.length_append]; omega, g2⟩, g3, g4⟩
