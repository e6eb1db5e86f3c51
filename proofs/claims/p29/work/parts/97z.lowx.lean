/-! ===== lowest, by hand and exactly ===== -/
theorem ldiv_toInt {a x : Int64} (ha : 0 ≤ a.toInt) (hx : 0 < x.toInt) : (a / x).toInt = a.toInt / x.toInt := by
  have h1 := Int64.toInt_lt a
  have h2 : a.toInt / x.toInt ≤ a.toInt := Int.ediv_le_self _ ha
  have h3 : 0 ≤ a.toInt / x.toInt := Int.ediv_nonneg ha (by omega)
  rw [Int64.toInt_div, Int.tdiv_eq_ediv_of_nonneg ha]
  exact Int.bmod_eq_of_le (by omega) (by omega)
theorem cmpn0 (w : Int32) : cmpB .ne w 0 = decide (¬ w = 0) := by
  by_cases h : w = 0
  · subst h; decide
  · simp [cmpB, h]
set_option maxRecDepth 100000 in
theorem low_loopX {d : Nat} {Q : Option Value → AH → Prop} {a z : Int64} {w : Int32} {hp : AH} (ha : 0 ≤ a.toInt) (hz : 0 ≤ z.toInt) (hQ : ∀ v : Int64, (w = 0 → v.toInt = a.toInt / (gcI a.toInt z.toInt : Int)) → (¬ w = 0 → v.toInt = z.toInt / (gcI a.toInt z.toInt : Int)) → Q (some (.long v)) hp) : ∀ (n : Nat) (x y : Int64) (c9 c10 : Option Value), y.toInt.natAbs < n → (y = 0 → ¬ x = 0) → 0 ≤ x.toInt → 0 ≤ y.toInt → gcI x.toInt y.toInt = gcI a.toInt z.toInt → J mX7_lowest d 0 0 Q 6 (lvL a z w x y c9 c10) [] hp 0 0 := by
  intro n
  induction n with
  | zero => intro x y c9 c10 h; omega
  | succ n ih =>
    intro x y c9 c10 hn hxy x0 y0 hg
    refine T_s (k := 107) rfl rfl rfl ?_
    refine T_s (k := 107) rfl rfl rfl ?_
    refine T_s (k := 107) rfl rfl rfl ?_
    refine T_b (k := 107) (b := cmpB .eq (lg_cmp y 0) 0) rfl rfl rfl (fun q => ?_) (fun q => ?_)
    · rw [cmp0, decide_eq_true_eq] at q
      have hx := hxy q
      have hx1 : 0 < x.toInt := by
        have : x.toInt ≠ 0 := fun e => hx (Int64.toInt_inj.mp (by rw [e]; rfl))
        omega
      have hgx : (gcI a.toInt z.toInt : Int) = x.toInt := by
        rw [← hg, q, show (0 : Int64).toInt = 0 from by decide]
        exact gcI_z x0
      refine T_s (k := 107) rfl rfl rfl ?_
      refine T_b (k := 107) (b := cmpB .ne w 0) rfl rfl rfl (fun r => ?_) (fun r => ?_)
      · rw [cmpn0, decide_eq_true_eq] at r
        refine T_s (k := 107) rfl rfl rfl ?_
        refine T_s (k := 107) rfl rfl rfl ?_
        refine T_h (k := 107) rfl rfl (by simp only [hA, if_neg hx]; rfl) ?_
        exact T_r (k := 107) rfl rfl rfl (hQ _ (fun e => absurd e r) (fun _ => by rw [hgx]; exact ldiv_toInt hz hx1))
      · rw [cmpn0, decide_eq_false_iff_not] at r
        refine T_s (k := 107) rfl rfl rfl ?_
        refine T_s (k := 107) rfl rfl rfl ?_
        refine T_h (k := 107) rfl rfl (by simp only [hA, if_neg hx]; rfl) ?_
        refine T_s (k := 107) rfl rfl rfl ?_
        exact T_r (k := 107) rfl rfl rfl (hQ _ (fun _ => by rw [hgx]; exact ldiv_toInt ha hx1) (fun e => absurd e r))
    · rw [cmp0, decide_eq_false_iff_not] at q
      have hy1 : 0 < y.toInt := by
        have : y.toInt ≠ 0 := fun e => q (Int64.toInt_inj.mp (by rw [e]; rfl))
        omega
      have hr : (x - x / y * y).toInt = x.toInt % y.toInt := by
        rw [lrem_toInt x y q, Int.tmod_eq_emod_of_nonneg x0]
      refine T_s (k := 107) rfl rfl rfl ?_
      refine T_s (k := 107) rfl rfl rfl ?_
      refine T_h (k := 107) rfl rfl (by simp only [hA, if_neg q]; rfl) ?_
      refine T_s (k := 107) rfl rfl rfl ?_
      refine T_s (k := 107) rfl rfl rfl ?_
      refine T_s (k := 107) rfl rfl rfl ?_
      refine T_s (k := 107) rfl rfl rfl ?_
      refine T_s (k := 107) rfl rfl rfl ?_
      refine T_s (k := 107) rfl rfl rfl ?_
      have := lrem_less x y q
      exact ih y (x - x / y * y) (some (.long (x - x / y * y))) none (by omega) (fun _ => q) y0 (by rw [hr]; exact Int.emod_nonneg _ (by omega)) (by rw [hr, gcI_s x0 hy1]; exact hg)
theorem rO_longX {B : BD} {r : Nat → Int} {n : AN} {v : Option Value} (h : rO B r (some (.inr (.inr (some n)))) v) : ∃ z : Int64, v = some (.long z) ∧ z.toInt = den r n := by
  match v, h with
  | some w, h =>
    obtain ⟨x, rfl, hx⟩ := rV_long h
    exact ⟨x, rfl, (hx n rfl).2⟩
