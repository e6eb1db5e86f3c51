/-! ===== the methods' rows ===== -/
def eqBA (a b : ByteArray) : Bool := decide (a.data.toList = b.data.toList)
theorem eqBA_ok {a b : ByteArray} (h : eqBA a b = true) : a = b := by
  have h1 := of_decide_eq_true h
  cases a
  cases b
  congr 1
  exact Array.toList_inj.mp h1
def chkCo (i : Nat) (M : MT) : Bool := match lw_tbl[i]? with
  | some (.code y b l r) => decide (y = M.y) && (eqBA b M.by && (decide (l = M.ml) && (decide (r = M.rt) && goodWord (.code y b l r))))
  | _ => false
theorem chkCo_in {i : Nat} {M : MT} (h : chkCo i M = true) : Cond.code M.y M.by M.ml M.rt ∈ tb := by
  unfold chkCo at h
  split at h
  · rename_i y b l r hi
    simp only [Bool.and_eq_true, decide_eq_true_eq] at h
    obtain ⟨h1, h2, h3, h4, h5⟩ := h
    have h2 := eqBA_ok h2
    subst h1 h2 h3 h4
    exact tb_at i hi h5
  · cases h
def iniL : List Nat := [77, 78, 81, 75, 80, 79, 74, 83, 85, 0, 82]
def clsB (cn : Nat) : Bool := decide (cn = 9) || (chkW (iniL.getD cn 0) (.initialized (cnm cn)) && (decide (cnm cn ≠ "java/lang/invoke/MethodHandle") && (decide (cnm cn ≠ "java/lang/invoke/VarHandle") && plainName (cnm cn))))
set_option maxRecDepth 100000 in
theorem clsB_ok : (List.range 11).all clsB = true := by decide +kernel
def mOkC (k : Nat) : Bool := match mtL[k]?, mwL[k]?, npL[k]? with
  | some M, some (a, _), some n => chkCo a M && (decide (M.cn < 11) && (decide (¬ M.cn = 9) && (decide (M.ml ≤ 20) && (decide (M.y.cls = cnm M.cn) && decide (np M = some n)))))
  | _, _, _ => false
set_option maxRecDepth 100000 in
theorem mk_0 : (rng 0 15).all mOkC = true := by decide +kernel
set_option maxRecDepth 100000 in
theorem mk_15 : (rng 15 15).all mOkC = true := by decide +kernel
set_option maxRecDepth 100000 in
theorem mk_30 : (rng 30 15).all mOkC = true := by decide +kernel
set_option maxRecDepth 100000 in
theorem mk_45 : (rng 45 15).all mOkC = true := by decide +kernel
set_option maxRecDepth 100000 in
theorem mk_60 : (rng 60 15).all mOkC = true := by decide +kernel
set_option maxRecDepth 100000 in
theorem mk_75 : (rng 75 15).all mOkC = true := by decide +kernel
set_option maxRecDepth 100000 in
theorem mk_90 : (rng 90 15).all mOkC = true := by decide +kernel
set_option maxRecDepth 100000 in
theorem mk_105 : (rng 105 15).all mOkC = true := by decide +kernel
set_option maxRecDepth 100000 in
theorem mk_120 : (rng 120 15).all mOkC = true := by decide +kernel
set_option maxRecDepth 100000 in
theorem mk_135 : (rng 135 15).all mOkC = true := by decide +kernel
set_option maxRecDepth 100000 in
theorem mk_150 : (rng 150 15).all mOkC = true := by decide +kernel
set_option maxRecDepth 100000 in
theorem mk_165 : (rng 165 15).all mOkC = true := by decide +kernel
set_option maxRecDepth 100000 in
theorem mk_180 : (rng 180 15).all mOkC = true := by decide +kernel
set_option maxRecDepth 100000 in
theorem mk_195 : (rng 195 8).all mOkC = true := by decide +kernel
theorem mk_all {k : Nat} (h : k < 203) : mOkC k = true := by
  by_cases h0 : k < 15
  · exact List.all_eq_true.mp mk_0 k (rng_mem (by omega) (by omega))
  by_cases h15 : k < 30
  · exact List.all_eq_true.mp mk_15 k (rng_mem (by omega) (by omega))
  by_cases h30 : k < 45
  · exact List.all_eq_true.mp mk_30 k (rng_mem (by omega) (by omega))
  by_cases h45 : k < 60
  · exact List.all_eq_true.mp mk_45 k (rng_mem (by omega) (by omega))
  by_cases h60 : k < 75
  · exact List.all_eq_true.mp mk_60 k (rng_mem (by omega) (by omega))
  by_cases h75 : k < 90
  · exact List.all_eq_true.mp mk_75 k (rng_mem (by omega) (by omega))
  by_cases h90 : k < 105
  · exact List.all_eq_true.mp mk_90 k (rng_mem (by omega) (by omega))
  by_cases h105 : k < 120
  · exact List.all_eq_true.mp mk_105 k (rng_mem (by omega) (by omega))
  by_cases h120 : k < 135
  · exact List.all_eq_true.mp mk_120 k (rng_mem (by omega) (by omega))
  by_cases h135 : k < 150
  · exact List.all_eq_true.mp mk_135 k (rng_mem (by omega) (by omega))
  by_cases h150 : k < 165
  · exact List.all_eq_true.mp mk_150 k (rng_mem (by omega) (by omega))
  by_cases h165 : k < 180
  · exact List.all_eq_true.mp mk_165 k (rng_mem (by omega) (by omega))
  by_cases h180 : k < 195
  · exact List.all_eq_true.mp mk_180 k (rng_mem (by omega) (by omega))
  exact List.all_eq_true.mp mk_195 k (rng_mem (by omega) (by omega))
