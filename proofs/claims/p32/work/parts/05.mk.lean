set_option maxRecDepth 100000 in
theorem mk_0 : (rng 0 15).all mOkB = true := by decide +kernel
set_option maxRecDepth 100000 in
theorem mk_15 : (rng 15 15).all mOkB = true := by decide +kernel
set_option maxRecDepth 100000 in
theorem mk_30 : (rng 30 15).all mOkB = true := by decide +kernel
set_option maxRecDepth 100000 in
theorem mk_45 : (rng 45 15).all mOkB = true := by decide +kernel
set_option maxRecDepth 100000 in
theorem mk_60 : (rng 60 15).all mOkB = true := by decide +kernel
set_option maxRecDepth 100000 in
theorem mk_75 : (rng 75 15).all mOkB = true := by decide +kernel
set_option maxRecDepth 100000 in
theorem mk_90 : (rng 90 15).all mOkB = true := by decide +kernel
set_option maxRecDepth 100000 in
theorem mk_105 : (rng 105 15).all mOkB = true := by decide +kernel
set_option maxRecDepth 100000 in
theorem mk_120 : (rng 120 15).all mOkB = true := by decide +kernel
set_option maxRecDepth 100000 in
theorem mk_135 : (rng 135 15).all mOkB = true := by decide +kernel
set_option maxRecDepth 100000 in
theorem mk_150 : (rng 150 15).all mOkB = true := by decide +kernel
set_option maxRecDepth 100000 in
theorem mk_165 : (rng 165 15).all mOkB = true := by decide +kernel
set_option maxRecDepth 100000 in
theorem mk_180 : (rng 180 15).all mOkB = true := by decide +kernel
set_option maxRecDepth 100000 in
theorem mk_195 : (rng 195 8).all mOkB = true := by decide +kernel
theorem mk_all {k : Nat} (h : k < 203) : mOkB k = true := by
  by_cases h0 : k < 15
  · exact List.all_eq_true.mp mk_0 k (rng_mem (by omega) (by omega))
  by_cases h15 : k < 30
  · exact List.all_eq_true.mp mk_15 k (rng_mem (by omega) (by omega))
  by_cases h30 : k < 45
  · exact List.all_eq_true.mp mk_30 k (rng_mem (by omega) (by omega))
  by_cases h45 : k < 60
  · exact List.all_eq_true.mp mk_45 k (rng_mem (by omega) (by omega))
  by_cases h60 : k < 75
  · exact List.all_eq_true.mp mk_60 k (rng_mem (by omega) (by omega))
  by_cases h75 : k < 90
  · exact List.all_eq_true.mp mk_75 k (rng_mem (by omega) (by omega))
  by_cases h90 : k < 105
  · exact List.all_eq_true.mp mk_90 k (rng_mem (by omega) (by omega))
  by_cases h105 : k < 120
  · exact List.all_eq_true.mp mk_105 k (rng_mem (by omega) (by omega))
  by_cases h120 : k < 135
  · exact List.all_eq_true.mp mk_120 k (rng_mem (by omega) (by omega))
  by_cases h135 : k < 150
  · exact List.all_eq_true.mp mk_135 k (rng_mem (by omega) (by omega))
  by_cases h150 : k < 165
  · exact List.all_eq_true.mp mk_150 k (rng_mem (by omega) (by omega))
  by_cases h165 : k < 180
  · exact List.all_eq_true.mp mk_165 k (rng_mem (by omega) (by omega))
  by_cases h180 : k < 195
  · exact List.all_eq_true.mp mk_180 k (rng_mem (by omega) (by omega))
  exact List.all_eq_true.mp mk_195 k (rng_mem (by omega) (by omega))
