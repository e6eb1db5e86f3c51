/-! ===== by hand: steps by the tables ===== -/
section TB
variable {k d pc pc' len : Nat} {M : MT} {Q : Option Value → AH → Prop} {lv lv' : List (Option Value)} {st st' : List Value} {hp : AH} {i : Instr}
theorem T_s (hM : mtL[k]? = some M) (hc : (cdL.getD k [])[pc]? = some (some (i, len))) (hs : sA i pc lv st = some (pc', lv', st')) (kk : J M d 0 0 Q pc' lv' st' hp 0 0) : J M d 0 0 Q pc lv st hp 0 0 := by
  obtain ⟨hd, hn⟩ := cd_at hM hc
  have hl := sA_len hs hn
  subst hl
  exact J_s hd hs kk
theorem T_b {b : Bool} {t : Nat} (hM : mtL[k]? = some M) (hc : (cdL.getD k [])[pc]? = some (some (i, len))) (hs : bA i pc st = some (b, t, st')) (kt : b = true → J M d 0 0 Q t lv st' hp 0 0) (kf : b = false → J M d 0 0 Q (pc + 3) lv st' hp 0 0) : J M d 0 0 Q pc lv st hp 0 0 := by
  obtain ⟨hd, hn⟩ := cd_at hM hc
  have hl := bA_len hs hn
  subst hl
  exact J_b hd hs kt kf
theorem T_h {hp' : AH} (hM : mtL[k]? = some M) (hc : (cdL.getD k [])[pc]? = some (some (i, len))) (hs : hA d M i pc st hp = some (pc', st', hp')) (kk : J M d 0 0 Q pc' lv st' hp' 0 0) : J M d 0 0 Q pc lv st hp 0 0 := by
  obtain ⟨hd, hn⟩ := cd_at hM hc
  exact J_h hd hn hs kk
theorem T_r {v : Option Value} (hM : mtL[k]? = some M) (hc : (cdL.getD k [])[pc]? = some (some (i, len))) (hs : rA M.rt i st = some v) (hQ : Q v hp) : J M d 0 0 Q pc lv st hp 0 0 := by
  obtain ⟨hd, hn⟩ := cd_at hM hc
  exact J_r hd hn hs (Nat.le_refl _) (Nat.le_refl _) hQ
theorem T_get {idx ci sl w r : Nat} {fs : List Value} {v : Value} (hM : mtL[k]? = some M) (hc : (cdL.getD k [])[pc]? = some (some (.getfield idx, len))) (hf : fRes M.cn idx = some (ci, sl, w)) (hr : hp[r]? = some (.inr (.inr (ci, fs)))) (hv : fs[sl]? = some v) (kk : J M d 0 0 Q (pc + 3) lv (v :: st) hp 0 0) : J M d 0 0 Q pc lv (.ref r :: st) hp 0 0 :=
  T_h hM hc (by simp only [hA, hf, hr, hv, if_pos]) kk
theorem T_put {idx ci sl w r : Nat} {fs : List Value} {v : Value} (hM : mtL[k]? = some M) (hc : (cdL.getD k [])[pc]? = some (some (.putfield idx, len))) (hf : fRes M.cn idx = some (ci, sl, w)) (hr : hp[r]? = some (.inr (.inr (ci, fs)))) (hl : sl < fs.length) (hh : fHold (fTy ci sl) v = true) (hn : fFin ci sl = false) (kk : J M d 0 0 Q (pc + 3) lv st (hp.set r (.inr (.inr (ci, fs.set sl v)))) 0 0) : J M d 0 0 Q pc lv (v :: .ref r :: st) hp 0 0 := by
  exact T_h hM hc (by simp only [hA, hf, hr]; rw [if_pos ⟨trivial, hl, hh, Or.inl hn⟩]) kk
theorem T_ald {r : Nat} {xs : List Int32} {x : Int32} (hM : mtL[k]? = some M) (hc : (cdL.getD k [])[pc]? = some (some (.iaload, len))) (hr : hp[r]? = some (.inl (.int, xs))) (hi : inB x xs.length = true) (kk : J M d 0 0 Q (pc + 1) lv (.int (xs.getD x.toNatClampNeg 0) :: st) hp 0 0) : J M d 0 0 Q pc lv (.int x :: .ref r :: st) hp 0 0 :=
  T_h hM hc (by simp only [hA, hr, if_pos hi]) kk
theorem T_ast {r : Nat} {xs : List Int32} {x y : Int32} (hM : mtL[k]? = some M) (hc : (cdL.getD k [])[pc]? = some (some (.iastore, len))) (hr : hp[r]? = some (.inl (.int, xs))) (hi : inB x xs.length = true) (kk : J M d 0 0 Q (pc + 1) lv st (hp.set r (.inl (.int, xs.set x.toNatClampNeg y))) 0 0) : J M d 0 0 Q pc lv (.int y :: .int x :: .ref r :: st) hp 0 0 :=
  T_h hM hc (by simp only [hA, hr, if_pos hi]) kk
end TB
/-! ===== lowest, by hand: what is left falls ===== -/
theorem lrem_toInt (x y : Int64) (hy : ¬ y = 0) : (x - x / y * y).toInt = x.toInt.tmod y.toInt := by
  have hy0 : y.toInt ≠ 0 := fun q => hy (Int64.toInt_inj.mp (by rw [q]; rfl))
  have h1 := Int64.le_toInt y
  have h2 := Int64.toInt_lt y
  have hm : (x.toInt.tmod y.toInt).natAbs = x.toInt.natAbs % y.toInt.natAbs := Int.natAbs_tmod _ _
  have hl : x.toInt.natAbs % y.toInt.natAbs < y.toInt.natAbs := Nat.mod_lt _ (by omega)
  rw [Int64.toInt_sub, Int64.toInt_mul, Int64.toInt_div, Int.sub_bmod_bmod, ← Int.sub_bmod_bmod, Int.bmod_mul_bmod, Int.sub_bmod_bmod]
  have h3 : x.toInt - x.toInt.tdiv y.toInt * y.toInt = x.toInt.tmod y.toInt := by
    have := Int.tmod_add_tdiv_mul x.toInt y.toInt
    omega
  rw [h3]
  exact Int.bmod_eq_of_le (by omega) (by omega)
theorem lrem_less (x y : Int64) (hy : ¬ y = 0) : (x - x / y * y).toInt.natAbs < y.toInt.natAbs := by
  have hy0 : y.toInt ≠ 0 := fun q => hy (Int64.toInt_inj.mp (by rw [q]; rfl))
  rw [lrem_toInt x y hy, Int.natAbs_tmod]
  exact Nat.mod_lt _ (by omega)
theorem cmp0 (y : Int64) : cmpB .eq (lg_cmp y 0) 0 = decide (y = 0) := by
  unfold lg_cmp
  by_cases h : y = 0
  · subst h; decide
  · rw [if_neg h]
    split
    · simp [cmpB, h]
    · simp [cmpB, h]
def lvL (a z : Int64) (w : Int32) (x y : Int64) (c9 c10 : Option Value) : List (Option Value) := [some (.long a), none, some (.long z), none, some (.int w), some (.long x), none, some (.long y), none, c9, c10]
set_option maxRecDepth 100000 in
theorem low_loop {d : Nat} {Q : Option Value → AH → Prop} {a z : Int64} {w : Int32} {hp : AH} (hQ : ∀ v, Q (some (.long v)) hp) : ∀ (n : Nat) (x y : Int64) (c9 c10 : Option Value), y.toInt.natAbs < n → (y = 0 → ¬ x = 0) → J mX7_lowest d 0 0 Q 6 (lvL a z w x y c9 c10) [] hp 0 0 := by
  intro n
  induction n with
  | zero => intro x y c9 c10 h; omega
  | succ n ih =>
    intro x y c9 c10 hn hxy
    refine T_s (k := 107) rfl rfl rfl ?_
    refine T_s (k := 107) rfl rfl rfl ?_
    refine T_s (k := 107) rfl rfl rfl ?_
    refine T_b (k := 107) (b := cmpB .eq (lg_cmp y 0) 0) rfl rfl rfl (fun q => ?_) (fun q => ?_)
    · rw [cmp0, decide_eq_true_eq] at q
      have hx := hxy q
      refine T_s (k := 107) rfl rfl rfl ?_
      refine T_b (k := 107) (b := cmpB .ne w 0) rfl rfl rfl (fun _ => ?_) (fun _ => ?_)
      · refine T_s (k := 107) rfl rfl rfl ?_
        refine T_s (k := 107) rfl rfl rfl ?_
        refine T_h (k := 107) rfl rfl (by simp only [hA, if_neg hx]; rfl) ?_
        exact T_r (k := 107) rfl rfl rfl (hQ _)
      · refine T_s (k := 107) rfl rfl rfl ?_
        refine T_s (k := 107) rfl rfl rfl ?_
        refine T_h (k := 107) rfl rfl (by simp only [hA, if_neg hx]; rfl) ?_
        refine T_s (k := 107) rfl rfl rfl ?_
        exact T_r (k := 107) rfl rfl rfl (hQ _)
    · rw [cmp0, decide_eq_false_iff_not] at q
      refine T_s (k := 107) rfl rfl rfl ?_
      refine T_s (k := 107) rfl rfl rfl ?_
      refine T_h (k := 107) rfl rfl (by simp only [hA, if_neg q]; rfl) ?_
      refine T_s (k := 107) rfl rfl rfl ?_
      refine T_s (k := 107) rfl rfl rfl ?_
      refine T_s (k := 107) rfl rfl rfl ?_
      refine T_s (k := 107) rfl rfl rfl ?_
      refine T_s (k := 107) rfl rfl rfl ?_
      refine T_s (k := 107) rfl rfl rfl ?_
      have := lrem_less x y q
      exact ih y (x - x / y * y) (some (.long (x - x / y * y))) none (by omega) (fun _ => q)
def c_lowest : XC := (107, 0, bY ++ [(1, 4294967296), ((-2147483648), 2147483647)], [.inr (.inr none), .inr (.inr (some (some 13, 0))), .inl (some 14, 0)], gY2, [], [(bY ++ [(1, 4294967296), ((-2147483648), 2147483647)], some (.inr (.inr none)), gY2, List.range 35, 35, [])])
set_option maxRecDepth 100000 in
theorem k_lowest {PT : PTy} (_ : HP0 PT) : wfX c_lowest = true ∧ xcOk PT c_lowest := by
  refine ⟨by decide +kernel, ?_⟩
  intro NM hN ρ α av hp hB hS hH hA _
  have hNM : NM = mX7_lowest := (Option.some.inj (hN.symm.trans (show mtL[107]? = some mX7_lowest from rfl)))
  subst hNM
  obtain ⟨v0, t0, rfl, q0, hS1⟩ := rS_cons hS
  obtain ⟨v1, t1, rfl, q1, hS2⟩ := rS_cons hS1
  obtain ⟨v2, t2, rfl, q2, hS3⟩ := rS_cons hS2
  cases rS_nil hS3
  obtain ⟨a, rfl, -⟩ := rV_long q0
  obtain ⟨z, rfl, hz'⟩ := rV_long q1
  obtain ⟨w, rfl, -⟩ := rV_int q2
  obtain ⟨-, e⟩ := hz' (some 13, 0) rfl
  have b13 := hB 13 (1, 4294967296) rfl
  have hz : ¬ z = 0 := fun q => by
    rw [q] at e
    have e0 : (0 : Int64).toInt = 0 := by decide
    have e1 : den ρ (some 13, 0) = ρ 13 + 0 := rfl
    simp only at b13
    omega
  refine Ct_of_J (mt_ok (k := 107) rfl).1 (fun ad => by rw [lg_len, cat_sum hS]; show 5 ≤ 11; omega) ?_
  refine T_s (k := 107) rfl rfl rfl ?_
  refine T_s (k := 107) rfl rfl rfl ?_
  refine T_s (k := 107) rfl rfl rfl ?_
  refine T_s (k := 107) rfl rfl rfl ?_
  exact low_loop (fun v => ⟨_, List.mem_cons_self, ρ, α, hB, ext_rf, aext_rf, (fun c hc => by cases hc), hH, hA, fun f hf => absurd hf List.not_mem_nil⟩) _ a z none none (Nat.lt_succ_self _) (fun q => absurd q hz)
