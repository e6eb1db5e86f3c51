/-! ===== enter keeps the bounds and the pairs ===== -/
theorem getD_set_self {xs : List Int32} {k : Nat} {v : Int32} (h : k < xs.length) : (xs.set k v).getD k 0 = v := by
  rw [List.getD_eq_getElem?_getD, List.getElem?_set_self h]; rfl
theorem getD_set_ne {xs : List Int32} {j k : Nat} {v : Int32} (h : j ≠ k) : (xs.set k v).getD j 0 = xs.getD j 0 := by
  rw [List.getD_eq_getElem?_getD, List.getD_eq_getElem?_getD, List.getElem?_set_ne (Ne.symm h)]
theorem entR_b1 {lo hi : Int} {key sub : Int32} (hk : lo ≤ key.toInt ∧ key.toInt ≤ hi) : ∀ (a : Nat) (ks ss : List Int32), (∀ y ∈ ks, lo ≤ y.toInt ∧ y.toInt ≤ hi) → a < ks.length → ∀ y ∈ (entR a ks ss key sub).1, lo ≤ y.toInt ∧ y.toInt ≤ hi
  | 0, ks, ss, h, _ => set_bounds h hk
  | a + 1, ks, ss, h, ha => by
    unfold entR
    split
    · exact entR_b1 hk a _ _ (set_bounds h (h _ (getD_mem (by omega)))) (by rw [List.length_set]; omega)
    · exact set_bounds h hk
theorem entR_b2 {lo hi : Int} {key sub : Int32} (hk : lo ≤ sub.toInt ∧ sub.toInt ≤ hi) : ∀ (a : Nat) (ks ss : List Int32), (∀ y ∈ ss, lo ≤ y.toInt ∧ y.toInt ≤ hi) → a < ss.length → ∀ y ∈ (entR a ks ss key sub).2, lo ≤ y.toInt ∧ y.toInt ≤ hi
  | 0, ks, ss, h, _ => set_bounds h hk
  | a + 1, ks, ss, h, ha => by
    unfold entR
    split
    · exact entR_b2 hk a _ _ (set_bounds h (h _ (getD_mem (by omega)))) (by rw [List.length_set]; omega)
    · exact set_bounds h hk
theorem entR_pr {key sub : Int32} (hp : prP key sub) : ∀ (a : Nat) (ks ss : List Int32), ks.length = 49 → ss.length = 49 → a < 49 → (∀ k, k < 49 → k ≠ a → prP (ks.getD k 0) (ss.getD k 0)) → ∀ k, k < 49 → prP ((entR a ks ss key sub).1.getD k 0) ((entR a ks ss key sub).2.getD k 0)
  | 0, ks, ss, lk, ls, _, h, k, hk => by
    unfold entR
    by_cases h0 : k = 0
    · subst h0
      rw [getD_set_self (by omega), getD_set_self (by omega)]
      exact hp
    · rw [getD_set_ne h0, getD_set_ne h0]
      exact h k hk h0
  | a + 1, ks, ss, lk, ls, ha, h, k, hk => by
    unfold entR
    split
    · refine entR_pr hp a _ _ (by rw [List.length_set]; exact lk) (by rw [List.length_set]; exact ls) (by omega) (fun j hj hja => ?_) k hk
      by_cases h1 : j = a + 1
      · subst h1
        rw [getD_set_self (by omega), getD_set_self (by omega)]
        exact h a (by omega) (by omega)
      · rw [getD_set_ne h1, getD_set_ne h1]
        exact h j hj h1
    · by_cases h1 : k = a + 1
      · subst h1
        rw [getD_set_self (by omega), getD_set_self (by omega)]
        exact hp
      · rw [getD_set_ne h1, getD_set_ne h1]
        exact h k hk h1
/-- the object of cell 5, its slot sl now under a name -/
def fa5 (ha : AHa) (sl j : Nat) : ACa := match (ha[(5 : Nat)]? : Option ACa) with
  | some (.inr (.inr (.inr (ci, fa)))) => .inr (.inr (.inr (ci, fa.set sl (.inl (some j, 0)))))
  | _ => .inl (.int, 0, 0, 0)
def isSm (c : Option ACa) (n : Nat) (lo hi : Int) : Bool := match c with
  | some (.inl (ty, n', lo', hi')) => decide (ty = .int) && (decide (n' = n) && (decide (lo' = lo) && decide (hi' = hi)))
  | _ => false
theorem isSm_ok {c : Option ACa} {n : Nat} {lo hi : Int} (h : isSm c n lo hi = true) : c = some (.inl (.int, n, lo, hi)) := by
  unfold isSm at h
  split at h
  · simp only [Bool.and_eq_true, decide_eq_true_eq] at h
    obtain ⟨rfl, rfl, rfl, rfl⟩ := h
    rfl
  · cases h
def cEnter (B0 : BD) (ha : AHa) (kd hi : Int) : CTR := (3, 0, B0 ++ [(0, 23), (0, hi)], [.inr (.inl 5), .inl (some B0.length, 0), .inl (none, kd), .inl (some (B0.length + 1), 0)], ha, [(B0 ++ [(0, 23), (0, hi)] ++ [(0, 49)], none, ha.set 5 (fa5 ha 10 (B0.length + 2)))])
def entOk (B : BD) (ha : AHa) (kd hi : Int) : Bool := decide (ha.length = 58) && ((match (ha[(5 : Nat)]? : Option ACa) with
  | some (.inr (.inr (.inr (ci, fa)))) => decide (ci = 0) && (decide ((fa[(5 : Nat)]? : Option AVa) = some (.inr (.inl 26))) && (decide ((fa[(6 : Nat)]? : Option AVa) = some (.inr (.inl 27))) && (match (fa[(10 : Nat)]? : Option AVa) with
    | some (.inl n) => decide (0 ≤ (bnd B n).1) && decide ((bnd B n).2 ≤ 49)
    | _ => false)))
  | _ => false) && (isSm (ha[(26 : Nat)]? : Option ACa) 49 0 119 && (isSm (ha[(27 : Nat)]? : Option ACa) 49 0 10 && (decide (0 ≤ kd ∧ kd ≤ 4 ∧ hi ≤ 10) && (decide (kd = 0 ∨ kd = 2) || decide (hi ≤ 8))))))
theorem rF_val {B : BD} {ρ : Nat → Int} {fa : List AVa} {fs : List Value} (h : rF B ρ fa fs) {i : Nat} {a : AVa} (hi : fa[i]? = some a) (hn : isAny a = false) : ∃ v, fs[i]? = some v ∧ rV B ρ a v := by
  obtain ⟨v, h1, h2⟩ := h.2 i a hi
  exact ⟨v, h1, h2.resolve_left (by rw [hn]; exact Bool.false_ne_true)⟩
theorem ent_post {B : BD} {ρ : Nat → Int} {ha : AHa} {hp hp' : AH} {fa : List AVa} {fs : List Value} {ks ss : List Int32} {x : Int32} (hB : okB B ρ) (hH : rH B ρ ha hp) (h58 : ha.length = 58) (a5 : ha[5]? = some (.inr (.inr (.inr (0, fa))))) (hF : rF B ρ fa fs) (l10 : 10 < fa.length) (a26 : ha[26]? = some (.inl (.int, 49, 0, 119))) (a27 : ha[27]? = some (.inl (.int, 49, 0, 10)))
    (hx : 0 ≤ x.toInt ∧ x.toInt ≤ 49) (hl : hp'.length = hp.length) (h5 : hp'[5]? = some (.inr (.inr (0, fs.set 10 (.int x))))) (h26 : hp'[26]? = some (.inl (.int, ks))) (h27 : hp'[27]? = some (.inl (.int, ss))) (ho : ∀ k, k ≠ 5 → k ≠ 26 → k ≠ 27 → hp'[k]? = hp[k]?) (lk : ks.length = 49) (ls : ss.length = 49) (bk : ∀ y ∈ ks, 0 ≤ y.toInt ∧ y.toInt ≤ 119) (bs : ∀ y ∈ ss, 0 ≤ y.toInt ∧ y.toInt ≤ 10) (hpr : ∀ k, k < 49 → prP (ks.getD k 0) (ss.getD k 0)) :
    ∃ ρ', okB (B ++ [(0, 49)]) ρ' ∧ ext B ρ (B ++ [(0, 49)]) ρ' ∧ rH (B ++ [(0, 49)]) ρ' (ha.set 5 (fa5 ha 10 B.length)) hp' := by
  have e := new_ext (B := B) (ρ := ρ) (0, 49) x.toInt
  refine ⟨ups ρ B.length x.toInt, new_ok hB hx.1 hx.2, e, ?_⟩
  have hH' := rH_ext e hH
  have hF' := rF_ext e hF
  have e5 : fa5 ha 10 B.length = .inr (.inr (.inr (0, fa.set 10 (.inl (some B.length, 0))))) := by unfold fa5; rw [a5]
  rw [e5]
  refine ⟨by rw [List.length_set, hl]; exact hH.1, fun k a hk => ?_, fun _ ks' ss' q1 q2 k hk => ?_⟩
  · by_cases k5 : k = 5
    · subst k5
      rw [List.getElem?_set_self (by omega)] at hk
      cases hk
      refine ⟨_, h5, rfl, by rw [List.length_set, List.length_set]; exact hF.1, fun i b hi => ?_⟩
      by_cases i10 : i = 10
      · subst i10
        rw [List.getElem?_set_self l10] at hi
        cases hi
        refine ⟨_, List.getElem?_set_self (by rw [← hF.1]; exact l10), Or.inr ?_⟩
        have := new_rN (B := B) (ρ := ρ) (b := (0, 49)) (x := x)
        exact this
      · rw [List.getElem?_set_ne (Ne.symm i10)] at hi
        obtain ⟨v, g1, g2⟩ := hF'.2 i b hi
        exact ⟨v, by rw [List.getElem?_set_ne (Ne.symm i10)]; exact g1, g2⟩
    · rw [List.getElem?_set_ne (Ne.symm k5)] at hk
      by_cases k26 : k = 26
      · subst k26
        rw [a26] at hk
        cases hk
        exact ⟨_, h26, rfl, lk, bk⟩
      · by_cases k27 : k = 27
        · subst k27
          rw [a27] at hk
          cases hk
          exact ⟨_, h27, rfl, ls, bs⟩
        · obtain ⟨y, g1, g2⟩ := hH'.2.1 k a hk
          exact ⟨y, by rw [ho k k5 k26 k27]; exact g1, g2⟩
  · rw [h26] at q1
    rw [h27] at q2
    cases q1
    cases q2
    exact hpr k (by omega)
theorem key_ok {dy kd : Int32} (h1 : 0 ≤ dy.toInt ∧ dy.toInt ≤ 23) (h2 : 0 ≤ kd.toInt ∧ kd.toInt ≤ 4) : (Int32.ofInt 5 * dy + kd).toInt = 5 * dy.toInt + kd.toInt := by
  have h5 : (Int32.ofInt 5).toInt = 5 := by decide
  have e1 : (Int32.ofInt 5 * dy).toInt = 5 * dy.toInt := by
    rw [toInt_mul_in (by rw [h5]; omega) (by rw [h5]; omega), h5]
  rw [toInt_add_in (by rw [e1]; omega) (by rw [e1]; omega), e1]
set_option maxRecDepth 100000 in
set_option maxHeartbeats 4000000 in
theorem enter_ok (B0 : BD) (ha : AHa) (kd hi : Int) (h : entOk (B0 ++ [(0, 23), (0, hi)]) ha kd hi = true) : ctrOk (cEnter B0 ha kd hi) := by
  intro NM hN ρ av hp hB hS hH
  have hB : okB (B0 ++ [(0, 23), (0, hi)]) ρ := hB
  have hH : rH (B0 ++ [(0, 23), (0, hi)]) ρ ha hp := hH
  have hNM : NM = mX0_enter := (Option.some.inj (hN.symm.trans (show mtL[3]? = some mX0_enter from rfl)))
  subst hNM
  unfold entOk at h
  simp only [Bool.and_eq_true, decide_eq_true_eq, Bool.or_eq_true] at h
  obtain ⟨h58, h5, a26, a27, hk1, hk2⟩ := h
  have a26 := isSm_ok a26
  have a27 := isSm_ok a27
  split at h5
  rotate_left
  · cases h5
  rename_i ci fa a5
  simp only [Bool.and_eq_true, decide_eq_true_eq] at h5
  obtain ⟨rfl, f5, f6, h10⟩ := h5
  split at h10
  rotate_left
  · cases h10
  rename_i n10 f10
  rw [Bool.and_eq_true, decide_eq_true_eq, decide_eq_true_eq] at h10
  -- the cells
  obtain ⟨x5, p5, c5⟩ := rH_at hH a5
  obtain ⟨fs, rfl, hF⟩ := rC_obj c5
  obtain ⟨x26, p26, c26⟩ := rH_at hH a26
  obtain ⟨ks, rfl, lk, bk⟩ := rC_sum c26
  obtain ⟨x27, p27, c27⟩ := rH_at hH a27
  obtain ⟨ss, rfl, ls, bs⟩ := rC_sum c27
  obtain ⟨w5, g5, r5⟩ := rF_val hF f5 rfl
  cases rV_ref r5
  obtain ⟨w6, g6, r6⟩ := rF_val hF f6 rfl
  cases rV_ref r6
  obtain ⟨w10, g10, r10⟩ := rF_val hF f10 rfl
  obtain ⟨acts, rfl, n10r⟩ := rV_int r10
  have b10 := bnd_ok hB n10r
  have hlp : hp.length = 58 := by rw [← hH.1]; exact h58
  -- the arguments
  obtain ⟨v0, t0, rfl, q0, hS1⟩ := rS_cons hS
  obtain ⟨v1, t1, rfl, q1, hS2⟩ := rS_cons hS1
  obtain ⟨v2, t2, rfl, q2, hS3⟩ := rS_cons hS2
  obtain ⟨v3, t3, rfl, q3, hS4⟩ := rS_cons hS3
  cases rS_nil hS4
  cases rV_ref q0
  obtain ⟨dy, rfl, y1⟩ := rV_int q1
  obtain ⟨kv, rfl, y2⟩ := rV_int q2
  obtain ⟨sv, rfl, y3⟩ := rV_int q3
  have z1 : dy.toInt = ρ B0.length := by have := y1.2; unfold den at this; simp only [Int.add_zero] at this; exact this
  have z2 : kv.toInt = kd := y2.2
  have z3 : sv.toInt = ρ (B0.length + 1) := by have := y3.2; unfold den at this; simp only [Int.add_zero] at this; exact this
  have u1 := hB B0.length (0, 23) (by rw [List.getElem?_append_right (Nat.le_refl _), Nat.sub_self]; rfl)
  have u3 := hB (B0.length + 1) (0, hi) (by rw [List.getElem?_append_right (by omega), show B0.length + 1 - B0.length = 1 by omega]; rfl)
  simp only at u1 u3
  have lB : (B0 ++ [(0, 23), (0, hi)]).length = B0.length + 2 := by rw [List.length_append]; rfl
  have l10 : 10 < fa.length := (List.getElem?_eq_some_iff.mp f10).1
  have hpr0 : ∀ k, k < 49 → prP (ks.getD k 0) (ss.getD k 0) := fun k hk => hH.2.2 hlp ks ss p26 p27 k (by omega)
  have P : ∀ (hp' : AH) (ks' ss' : List Int32) (x : Int32), (0 ≤ x.toInt ∧ x.toInt ≤ 49) → hp'.length = hp.length → hp'[5]? = some (.inr (.inr (0, fs.set 10 (.int x)))) → hp'[26]? = some (.inl (.int, ks')) → hp'[27]? = some (.inl (.int, ss')) → (∀ k, k ≠ 5 → k ≠ 26 → k ≠ 27 → hp'[k]? = hp[k]?) → ks'.length = 49 → ss'.length = 49 → (∀ y ∈ ks', 0 ≤ y.toInt ∧ y.toInt ≤ 119) → (∀ y ∈ ss', 0 ≤ y.toInt ∧ y.toInt ≤ 10) → (∀ k, k < 49 → prP (ks'.getD k 0) (ss'.getD k 0)) →
      ∃ o ∈ (cEnter B0 ha kd hi).2.2.2.2.2, ∃ ρ', okB o.1 ρ' ∧ ext (cEnter B0 ha kd hi).2.2.1 ρ o.1 ρ' ∧ rO o.1 ρ' o.2.1 none ∧ rH o.1 ρ' o.2.2 hp' := by
    intro hp' ks' ss' x hx i1 i2 i3 i4 i5 i6 i7 i8 i9 i10
    obtain ⟨ρ', j1, j2, j3⟩ := ent_post hB hH h58 a5 hF l10 a26 a27 hx i1 i2 i3 i4 i5 i6 i7 i8 i9 i10
    rw [lB] at j3
    exact ⟨_, List.mem_cons_self, ρ', j1, j2, trivial, j3⟩
  refine Ct_of_J (mt_ok (k := 3) rfl).1 (fun ad => by rw [lg_len, cat_sum hS]; show 4 ≤ 6; omega) ?_
  refine T_s (k := 3) rfl rfl rfl ?_
  refine T_get (k := 3) rfl rfl rfl p5 g10 ?_
  refine T_s (k := 3) rfl rfl rfl ?_
  refine T_b (k := 3) (b := cmpB .lt acts 49) rfl rfl rfl (fun q => ?_) (fun q => ?_)
  · have ha49 : acts.toInt < 49 := by
      simp only [cmpB, decide_eq_true_eq, Int32.lt_iff_toInt_lt] at q
      exact q
    obtain ⟨a, -, rfl, ea⟩ := nI_toInt' (x := acts) (by omega)
    have hk4 : 0 ≤ kv.toInt ∧ kv.toInt ≤ 4 := by omega
    have ek := key_ok (dy := dy) (kd := kv) (by omega) hk4
    refine T_s (k := 3) rfl rfl rfl ?_
    refine T_s (k := 3) rfl rfl rfl ?_
    refine T_s (k := 3) rfl rfl (by simp only [sA]; rfl) ?_
    refine T_s (k := 3) rfl rfl rfl ?_
    refine T_s (k := 3) rfl rfl (by simp only [sA]; rfl) ?_
    refine T_s (k := 3) rfl rfl rfl ?_
    refine T_s (k := 3) rfl rfl rfl ?_
    refine T_get (k := 3) rfl rfl rfl p5 g10 ?_
    refine T_s (k := 3) rfl rfl rfl ?_
    have hpr : prP (Int32.ofInt 5 * dy + kv) sv := by
      intro hm
      rw [ek] at hm
      rcases hk2 with q9 | q9
      · omega
      · omega
    have hlen := entR_len a ks ss (Int32.ofInt 5 * dy + kv) sv
    refine enter_loop (fs := fs) (acts := nI a) a hp ks ss p5 g5 g6 g10 p26 p27 lk ls (by omega) ?_
    refine P _ (entR a ks ss (Int32.ofInt 5 * dy + kv) sv).1 (entR a ks ss (Int32.ofInt 5 * dy + kv) sv).2 (nI a + 1) ?_ (by rw [List.length_set, List.length_set, List.length_set]) ?_ ?_ ?_ (fun k k5 k26 k27 => ?_) (by rw [hlen.1]; exact lk) (by rw [hlen.2]; exact ls) (entR_b1 (by omega) a ks ss bk (by omega)) (entR_b2 (by omega) a ks ss bs (by omega)) (entR_pr hpr a ks ss lk ls (by omega) (fun k hk _ => hpr0 k hk))
    · have h1 : (1 : Int32).toInt = 1 := by decide
      rw [toInt_add_in (by rw [ea, h1]; omega) (by rw [ea, h1]; omega), ea, h1]
      omega
    · rw [List.getElem?_set_self (by rw [List.length_set, List.length_set]; omega)]
    · rw [List.getElem?_set_ne (by decide), List.getElem?_set_ne (by decide), List.getElem?_set_self (by omega)]
    · rw [List.getElem?_set_ne (by decide), List.getElem?_set_self (by rw [List.length_set]; omega)]
    · rw [List.getElem?_set_ne (Ne.symm k5), List.getElem?_set_ne (Ne.symm k27), List.getElem?_set_ne (Ne.symm k26)]
  · refine T_r (k := 3) rfl rfl rfl ?_
    have e10 : fs.set 10 (.int acts) = fs := by
      apply List.ext_getElem?
      intro j
      by_cases hj : j = 10
      · subst hj
        rw [List.getElem?_set_self (List.getElem?_eq_some_iff.mp g10).1, g10]
      · rw [List.getElem?_set_ne (Ne.symm hj)]
    exact P hp ks ss acts (by omega) rfl (by rw [e10]; exact p5) p26 p27 (fun _ _ _ _ => rfl) lk ls bk bs hpr0
