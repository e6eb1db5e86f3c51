/-! ===== by hand: steps by the tables ===== -/
section TB
variable {k d pc pc' len : Nat} {M : MT} {Q : Option Value → AH → Prop} {lv lv' : List (Option Value)} {st st' : List Value} {hp : AH} {i : Instr}
theorem T_s (hM : mtL[k]? = some M) (hc : (cdL.getD k [])[pc]? = some (some (i, len))) (hs : sA i pc lv st = some (pc', lv', st')) (kk : J M d 0 0 Q pc' lv' st' hp 0 0) : J M d 0 0 Q pc lv st hp 0 0 := by
  obtain ⟨hd, hn⟩ := cd_at hM hc
  have hl := sA_len hs hn
  subst hl
  exact J_s hd hs kk
theorem T_b {b : Bool} {t : Nat} (hM : mtL[k]? = some M) (hc : (cdL.getD k [])[pc]? = some (some (i, len))) (hs : bA i pc st = some (b, t, st')) (kt : b = true → J M d 0 0 Q t lv st' hp 0 0) (kf : b = false → J M d 0 0 Q (pc + 3) lv st' hp 0 0) : J M d 0 0 Q pc lv st hp 0 0 := by
  obtain ⟨hd, hn⟩ := cd_at hM hc
  have hl := bA_len hs hn
  subst hl
  exact J_b hd hs kt kf
theorem T_h {hp' : AH} (hM : mtL[k]? = some M) (hc : (cdL.getD k [])[pc]? = some (some (i, len))) (hs : hA d M i pc st hp = some (pc', st', hp')) (kk : J M d 0 0 Q pc' lv st' hp' 0 0) : J M d 0 0 Q pc lv st hp 0 0 := by
  obtain ⟨hd, hn⟩ := cd_at hM hc
  exact J_h hd hn hs kk
theorem T_r {v : Option Value} (hM : mtL[k]? = some M) (hc : (cdL.getD k [])[pc]? = some (some (i, len))) (hs : rA M.rt i st = some v) (hQ : Q v hp) : J M d 0 0 Q pc lv st hp 0 0 := by
  obtain ⟨hd, hn⟩ := cd_at hM hc
  exact J_r hd hn hs (Nat.le_refl _) (Nat.le_refl _) hQ
theorem T_get {idx ci sl w r : Nat} {fs : List Value} {v : Value} (hM : mtL[k]? = some M) (hc : (cdL.getD k [])[pc]? = some (some (.getfield idx, len))) (hf : fRes M.cn idx = some (ci, sl, w)) (hr : hp[r]? = some (.inr (.inr (ci, fs)))) (hv : fs[sl]? = some v) (kk : J M d 0 0 Q (pc + 3) lv (v :: st) hp 0 0) : J M d 0 0 Q pc lv (.ref r :: st) hp 0 0 :=
  T_h hM hc (by simp only [hA, hf, hr, hv, if_pos]) kk
theorem T_put {idx ci sl w r : Nat} {fs : List Value} {v : Value} (hM : mtL[k]? = some M) (hc : (cdL.getD k [])[pc]? = some (some (.putfield idx, len))) (hf : fRes M.cn idx = some (ci, sl, w)) (hr : hp[r]? = some (.inr (.inr (ci, fs)))) (hl : sl < fs.length) (hh : fHold (fTy ci sl) v = true) (hn : fFin ci sl = false) (kk : J M d 0 0 Q (pc + 3) lv st (hp.set r (.inr (.inr (ci, fs.set sl v)))) 0 0) : J M d 0 0 Q pc lv (v :: .ref r :: st) hp 0 0 := by
  exact T_h hM hc (by simp only [hA, hf, hr]; rw [if_pos ⟨trivial, hl, hh, Or.inl hn⟩]) kk
theorem T_ald {r : Nat} {xs : List Int32} {x : Int32} (hM : mtL[k]? = some M) (hc : (cdL.getD k [])[pc]? = some (some (.iaload, len))) (hr : hp[r]? = some (.inl (.int, xs))) (hi : inB x xs.length = true) (kk : J M d 0 0 Q (pc + 1) lv (.int (xs.getD x.toNatClampNeg 0) :: st) hp 0 0) : J M d 0 0 Q pc lv (.int x :: .ref r :: st) hp 0 0 :=
  T_h hM hc (by simp only [hA, hr, if_pos hi]) kk
theorem T_ast {r : Nat} {xs : List Int32} {x y : Int32} (hM : mtL[k]? = some M) (hc : (cdL.getD k [])[pc]? = some (some (.iastore, len))) (hr : hp[r]? = some (.inl (.int, xs))) (hi : inB x xs.length = true) (kk : J M d 0 0 Q (pc + 1) lv st (hp.set r (.inl (.int, xs.set x.toNatClampNeg y))) 0 0) : J M d 0 0 Q pc lv (.int y :: .int x :: .ref r :: st) hp 0 0 :=
  T_h hM hc (by simp only [hA, hr, if_pos hi]) kk
end TB
theorem inB_nat {j n : Nat} (h : j < n) (hj : j < 2 ^ 31) : inB (nI j) n = true := inB_of (vp_in_iff.mpr (by rw [nI_toInt hj]; omega))
/-! ===== enter: an act comes behind those of its day and kind ===== -/
def entR : Nat → List Int32 → List Int32 → Int32 → Int32 → List Int32 × List Int32
  | 0, ks, ss, key, sub => (ks.set 0 key, ss.set 0 sub)
  | a + 1, ks, ss, key, sub => if key < ks.getD a 0 then entR a (ks.set (a + 1) (ks.getD a 0)) (ss.set (a + 1) (ss.getD a 0)) key sub else (ks.set (a + 1) key, ss.set (a + 1) sub)
theorem entR_len : ∀ (a : Nat) (ks ss : List Int32) (key sub : Int32), (entR a ks ss key sub).1.length = ks.length ∧ (entR a ks ss key sub).2.length = ss.length
  | 0, ks, ss, key, sub => by simp [entR]
  | a + 1, ks, ss, key, sub => by
    unfold entR
    split
    · have h := entR_len a (ks.set (a + 1) (ks.getD a 0)) (ss.set (a + 1) (ss.getD a 0)) key sub
      simpa using h
    · simp
theorem set2_26 {hp : AH} (a b c e : AC) : (((hp.set 26 a).set 27 b).set 26 c).set 27 e = (hp.set 26 c).set 27 e := by
  rw [List.set_comm _ _ (show (27 : Nat) ≠ 26 by decide), List.set_set, List.set_set]
def lvE (dy kd sub key : Int32) (a : Nat) : List (Option Value) := [some (.ref 5), some (.int dy), some (.int kd), some (.int sub), some (.int key), some (.int (nI a))]
theorem nI_dec (a : Nat) (h : a + 1 < 2 ^ 31) : nI (a + 1) - 1 = nI a := by
  apply Int32.toInt_inj.mp
  have h1 : (1 : Int32).toInt = 1 := by decide
  rw [toInt_sub_in (by rw [nI_toInt h, h1]; omega) (by rw [nI_toInt h, h1]; omega), nI_toInt h, nI_toInt (by omega), h1]
  omega
theorem nI_dec2 (a : Nat) (h : a + 1 < 2 ^ 31) : nI (a + 1) + (-1) = nI a := by
  rw [← nI_dec a h]
  exact (Int32.sub_eq_add_neg ..).symm
set_option maxRecDepth 100000 in
set_option maxHeartbeats 2000000 in
theorem enter_loop {d : Nat} {Q : Option Value → AH → Prop} {dy kd sub key : Int32} {fs : List Value} {acts : Int32} : ∀ (a : Nat) (hp : AH) (ks ss : List Int32), hp[5]? = some (.inr (.inr (0, fs))) → fs[5]? = some (.ref 26) → fs[6]? = some (.ref 27) → fs[10]? = some (.int acts) → hp[26]? = some (.inl (.int, ks)) → hp[27]? = some (.inl (.int, ss)) → ks.length = 49 → ss.length = 49 → a < 49 →
    Q none (((hp.set 26 (.inl (.int, (entR a ks ss key sub).1))).set 27 (.inl (.int, (entR a ks ss key sub).2))).set 5 (.inr (.inr (0, fs.set 10 (.int (acts + 1)))))) → J mX0_enter d 0 0 Q 23 (lvE dy kd sub key a) [] hp 0 0 := by
  have fin : ∀ (a : Nat) (hp : AH) (ks ss : List Int32), hp[5]? = some (.inr (.inr (0, fs))) → fs[5]? = some (.ref 26) → fs[6]? = some (.ref 27) → fs[10]? = some (.int acts) → hp[26]? = some (.inl (.int, ks)) → hp[27]? = some (.inl (.int, ss)) → ks.length = 49 → ss.length = 49 → a < 49 →
    Q none (((hp.set 26 (.inl (.int, ks.set a key))).set 27 (.inl (.int, ss.set a sub))).set 5 (.inr (.inr (0, fs.set 10 (.int (acts + 1)))))) → J mX0_enter d 0 0 Q 80 (lvE dy kd sub key a) [] hp 0 0 := by
    intro a hp ks ss h5 f5 f6 f10 h26 h27 lk ls ha hQ
    refine T_s (k := 3) rfl rfl rfl ?_
    refine T_get (k := 3) rfl rfl rfl h5 f5 ?_
    refine T_s (k := 3) rfl rfl rfl ?_
    refine T_s (k := 3) rfl rfl rfl ?_
    refine T_ast (k := 3) rfl rfl h26 (by rw [lk]; exact inB_nat ha (by omega)) ?_
    rw [nI_clamp (by omega)]
    have h5' : (hp.set 26 (.inl (.int, ks.set a key)))[5]? = some (.inr (.inr (0, fs))) := by rw [List.getElem?_set_ne (by decide)]; exact h5
    have h27' : (hp.set 26 (.inl (.int, ks.set a key)))[27]? = some (.inl (.int, ss)) := by rw [List.getElem?_set_ne (by decide)]; exact h27
    refine T_s (k := 3) rfl rfl rfl ?_
    refine T_get (k := 3) rfl rfl rfl h5' f6 ?_
    refine T_s (k := 3) rfl rfl rfl ?_
    refine T_s (k := 3) rfl rfl rfl ?_
    refine T_ast (k := 3) rfl rfl h27' (by rw [ls]; exact inB_nat ha (by omega)) ?_
    rw [nI_clamp (by omega)]
    have h5'' : ((hp.set 26 (.inl (.int, ks.set a key))).set 27 (.inl (.int, ss.set a sub)))[5]? = some (.inr (.inr (0, fs))) := by rw [List.getElem?_set_ne (by decide)]; exact h5'
    refine T_s (k := 3) rfl rfl rfl ?_
    refine T_s (k := 3) rfl rfl rfl ?_
    refine T_get (k := 3) rfl rfl rfl h5'' f10 ?_
    refine T_s (k := 3) rfl rfl rfl ?_
    refine T_s (k := 3) rfl rfl rfl ?_
    refine T_put (k := 3) rfl rfl rfl h5'' (List.getElem?_eq_some_iff.mp f10).1 rfl rfl ?_
    exact T_r (k := 3) rfl rfl rfl hQ
  intro a
  induction a with
  | zero =>
    intro hp ks ss h5 f5 f6 f10 h26 h27 lk ls ha hQ
    refine T_s (k := 3) rfl rfl rfl ?_
    refine T_b (k := 3) (b := true) rfl rfl rfl (fun _ => ?_) (fun q => by cases q)
    exact fin 0 hp ks ss h5 f5 f6 f10 h26 h27 lk ls ha hQ
  | succ a ih =>
    intro hp ks ss h5 f5 f6 f10 h26 h27 lk ls ha hQ
    have hpos : cmpB .le (nI (a + 1)) 0 = false := by
      simp only [cmpB, decide_eq_false_iff_not, Int32.le_iff_toInt_le, Int32.toInt_zero]
      rw [nI_toInt (by omega)]
      omega
    have e1 := nI_dec a (by omega)
    refine T_s (k := 3) rfl rfl rfl ?_
    refine T_b (k := 3) (b := false) rfl rfl (by simp only [bA]; rw [hpos]; rfl) (fun q => by cases q) (fun _ => ?_)
    refine T_s (k := 3) rfl rfl rfl ?_
    refine T_get (k := 3) rfl rfl rfl h5 f5 ?_
    refine T_s (k := 3) rfl rfl rfl ?_
    refine T_s (k := 3) rfl rfl rfl ?_
    refine T_s (k := 3) rfl rfl (by simp only [sA]; rfl) ?_
    have e2 : nI (a + 1) - Int32.ofInt 1 = nI a := e1
    rw [e2]
    refine T_ald (k := 3) rfl rfl h26 (by rw [lk]; exact inB_nat (by omega) (by omega)) ?_
    rw [nI_clamp (by omega)]
    refine T_s (k := 3) rfl rfl rfl ?_
    refine T_b (k := 3) (b := cmpB .le (ks.getD a 0) key) rfl rfl rfl (fun q => ?_) (fun q => ?_)
    · have hn : ¬ key < ks.getD a 0 := by
        simp only [cmpB, decide_eq_true_eq, Int32.le_iff_toInt_le] at q
        rw [Int32.lt_iff_toInt_lt]
        omega
      refine fin (a + 1) hp ks ss h5 f5 f6 f10 h26 h27 lk ls ha ?_
      unfold entR at hQ
      rw [if_neg hn] at hQ
      exact hQ
    · have hn : key < ks.getD a 0 := by
        simp only [cmpB, decide_eq_false_iff_not, Int32.le_iff_toInt_le] at q
        rw [Int32.lt_iff_toInt_lt]
        omega
      refine T_s (k := 3) rfl rfl rfl ?_
      refine T_get (k := 3) rfl rfl rfl h5 f5 ?_
      refine T_s (k := 3) rfl rfl rfl ?_
      refine T_s (k := 3) rfl rfl rfl ?_
      refine T_get (k := 3) rfl rfl rfl h5 f5 ?_
      refine T_s (k := 3) rfl rfl rfl ?_
      refine T_s (k := 3) rfl rfl rfl ?_
      refine T_s (k := 3) rfl rfl (by simp only [sA]; rfl) ?_
      rw [e2]
      refine T_ald (k := 3) rfl rfl h26 (by rw [lk]; exact inB_nat (by omega) (by omega)) ?_
      rw [nI_clamp (by omega)]
      refine T_ast (k := 3) rfl rfl h26 (by rw [lk]; exact inB_nat ha (by omega)) ?_
      rw [nI_clamp (by omega)]
      have h5' : (hp.set 26 (.inl (.int, ks.set (a + 1) (ks.getD a 0))))[5]? = some (.inr (.inr (0, fs))) := by rw [List.getElem?_set_ne (by decide)]; exact h5
      have h27' : (hp.set 26 (.inl (.int, ks.set (a + 1) (ks.getD a 0))))[27]? = some (.inl (.int, ss)) := by rw [List.getElem?_set_ne (by decide)]; exact h27
      refine T_s (k := 3) rfl rfl rfl ?_
      refine T_get (k := 3) rfl rfl rfl h5' f6 ?_
      refine T_s (k := 3) rfl rfl rfl ?_
      refine T_s (k := 3) rfl rfl rfl ?_
      refine T_get (k := 3) rfl rfl rfl h5' f6 ?_
      refine T_s (k := 3) rfl rfl rfl ?_
      refine T_s (k := 3) rfl rfl rfl ?_
      refine T_s (k := 3) rfl rfl (by simp only [sA]; rfl) ?_
      rw [e2]
      refine T_ald (k := 3) rfl rfl h27' (by rw [ls]; exact inB_nat (by omega) (by omega)) ?_
      rw [nI_clamp (by omega)]
      refine T_ast (k := 3) rfl rfl h27' (by rw [ls]; exact inB_nat ha (by omega)) ?_
      rw [nI_clamp (by omega)]
      refine T_s (k := 3) (lv' := lvE dy kd sub key a) rfl rfl (by
        show some (74 + 3, _, _) = _
        have : st1 (lvE dy kd sub key (a + 1)) 5 (.int (nI (a + 1) + Int32.ofInt (-1))) = lvE dy kd sub key a := by
          have e3 : nI (a + 1) + Int32.ofInt (-1) = nI a := nI_dec2 a (by omega)
          rw [e3]; rfl
        rw [← this]) ?_
      refine T_s (k := 3) rfl rfl rfl ?_
      refine ih _ (ks.set (a + 1) (ks.getD a 0)) (ss.set (a + 1) (ss.getD a 0)) ?_ f5 f6 f10 ?_ ?_ (by rw [List.length_set]; exact lk) (by rw [List.length_set]; exact ls) (by omega) ?_
      · rw [List.getElem?_set_ne (by decide)]; exact h5'
      · rw [List.getElem?_set_ne (by decide), List.getElem?_set_self (List.getElem?_eq_some_iff.mp h26).1]
      · rw [List.getElem?_set_self (by rw [List.length_set]; exact (List.getElem?_eq_some_iff.mp h27).1)]
      · rw [set2_26]
        unfold entR at hQ
        rw [if_pos hn] at hQ
        exact hQ
