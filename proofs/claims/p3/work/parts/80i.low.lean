/-! ===== lowest, by hand: what is left falls ===== -/
theorem lrem_toInt (x y : Int64) (hy : ¬ y = 0) : (x - x / y * y).toInt = x.toInt.tmod y.toInt := by
  have hy0 : y.toInt ≠ 0 := fun q => hy (Int64.toInt_inj.mp (by rw [q]; rfl))
  have h1 := Int64.le_toInt y
  have h2 := Int64.toInt_lt y
  have hm : (x.toInt.tmod y.toInt).natAbs = x.toInt.natAbs % y.toInt.natAbs := Int.natAbs_tmod _ _
  have hl : x.toInt.natAbs % y.toInt.natAbs < y.toInt.natAbs := Nat.mod_lt _ (by omega)
  rw [Int64.toInt_sub, Int64.toInt_mul, Int64.toInt_div, Int.sub_bmod_bmod, ← Int.sub_bmod_bmod, Int.bmod_mul_bmod, Int.sub_bmod_bmod]
  have h3 : x.toInt - x.toInt.tdiv y.toInt * y.toInt = x.toInt.tmod y.toInt := by
    have := Int.tmod_add_tdiv_mul x.toInt y.toInt
    omega
  rw [h3]
  exact Int.bmod_eq_of_le (by omega) (by omega)
theorem lrem_less (x y : Int64) (hy : ¬ y = 0) : (x - x / y * y).toInt.natAbs < y.toInt.natAbs := by
  have hy0 : y.toInt ≠ 0 := fun q => hy (Int64.toInt_inj.mp (by rw [q]; rfl))
  rw [lrem_toInt x y hy, Int.natAbs_tmod]
  exact Nat.mod_lt _ (by omega)
theorem cmp0 (y : Int64) : cmpB .eq (lg_cmp y 0) 0 = decide (y = 0) := by
  unfold lg_cmp
  by_cases h : y = 0
  · subst h; decide
  · rw [if_neg h]
    split
    · simp [cmpB, h]
    · simp [cmpB, h]
def lvL (a z : Int64) (w : Int32) (x y : Int64) (c9 c10 : Option Value) : List (Option Value) := [some (.long a), none, some (.long z), none, some (.int w), some (.long x), none, some (.long y), none, c9, c10]
set_option maxRecDepth 100000 in
theorem low_loop {d : Nat} {Q : Option Value → AH → Prop} {a z : Int64} {w : Int32} {hp : AH} (hQ : ∀ v, Q (some (.long v)) hp) : ∀ (n : Nat) (x y : Int64) (c9 c10 : Option Value), y.toInt.natAbs < n → (y = 0 → ¬ x = 0) → J mX7_lowest d 0 0 Q 6 (lvL a z w x y c9 c10) [] hp 0 0 := by
  intro n
  induction n with
  | zero => intro x y c9 c10 h; omega
  | succ n ih =>
    intro x y c9 c10 hn hxy
    refine T_s (k := 107) rfl rfl rfl ?_
    refine T_s (k := 107) rfl rfl rfl ?_
    refine T_s (k := 107) rfl rfl rfl ?_
    refine T_b (k := 107) (b := cmpB .eq (lg_cmp y 0) 0) rfl rfl rfl (fun q => ?_) (fun q => ?_)
    · rw [cmp0, decide_eq_true_eq] at q
      have hx := hxy q
      refine T_s (k := 107) rfl rfl rfl ?_
      refine T_b (k := 107) (b := cmpB .ne w 0) rfl rfl rfl (fun _ => ?_) (fun _ => ?_)
      · refine T_s (k := 107) rfl rfl rfl ?_
        refine T_s (k := 107) rfl rfl rfl ?_
        refine T_h (k := 107) rfl rfl (by simp only [hA, if_neg hx]; rfl) ?_
        exact T_r (k := 107) rfl rfl rfl (hQ _)
      · refine T_s (k := 107) rfl rfl rfl ?_
        refine T_s (k := 107) rfl rfl rfl ?_
        refine T_h (k := 107) rfl rfl (by simp only [hA, if_neg hx]; rfl) ?_
        refine T_s (k := 107) rfl rfl rfl ?_
        exact T_r (k := 107) rfl rfl rfl (hQ _)
    · rw [cmp0, decide_eq_false_iff_not] at q
      refine T_s (k := 107) rfl rfl rfl ?_
      refine T_s (k := 107) rfl rfl rfl ?_
      refine T_h (k := 107) rfl rfl (by simp only [hA, if_neg q]; rfl) ?_
      refine T_s (k := 107) rfl rfl rfl ?_
      refine T_s (k := 107) rfl rfl rfl ?_
      refine T_s (k := 107) rfl rfl rfl ?_
      refine T_s (k := 107) rfl rfl rfl ?_
      refine T_s (k := 107) rfl rfl rfl ?_
      refine T_s (k := 107) rfl rfl rfl ?_
      have := lrem_less x y q
      exact ih y (x - x / y * y) (some (.long (x - x / y * y))) none (by omega) (fun _ => q)
def cLow (z : Int64) : CTR := (107, 0, bY ++ [((-2147483648), 2147483647)], [.inr (.inr none), .inr (.inr (some z)), .inl (some 13, 0)], gY, [(bY ++ [((-2147483648), 2147483647)], some (.inr (.inr none)), gY)])
set_option maxRecDepth 100000 in
theorem low_ok {z : Int64} (hz : ¬ z = 0) : ctrOk (cLow z) := by
  intro NM hN ρ av hp hB hS hH
  have hNM : NM = mX7_lowest := (Option.some.inj (hN.symm.trans (show mtL[107]? = some mX7_lowest from rfl)))
  subst hNM
  obtain ⟨v0, t0, rfl, q0, hS1⟩ := rS_cons hS
  obtain ⟨v1, t1, rfl, q1, hS2⟩ := rS_cons hS1
  obtain ⟨v2, t2, rfl, q2, hS3⟩ := rS_cons hS2
  cases rS_nil hS3
  obtain ⟨a, rfl, -⟩ := rV_long q0
  obtain ⟨z', rfl, hz'⟩ := rV_long q1
  obtain ⟨w, rfl, -⟩ := rV_int q2
  have e : z' = z := hz' z rfl
  subst e
  refine Ct_of_J (mt_ok (k := 107) rfl).1 (fun ad => by rw [lg_len, cat_sum hS]; show 5 ≤ 11; omega) ?_
  refine T_s (k := 107) rfl rfl rfl ?_
  refine T_s (k := 107) rfl rfl rfl ?_
  refine T_s (k := 107) rfl rfl rfl ?_
  refine T_s (k := 107) rfl rfl rfl ?_
  exact low_loop (fun v => ⟨_, List.mem_cons_self, ρ, hB, ext_rf, (fun c hc => by cases hc), hH⟩) _ a z' none none (Nat.lt_succ_self _) (fun q => absurd q hz)
