set_option maxRecDepth 100000 in
theorem ck_0 : (rng 0 15).all cdB = true := by decide +kernel
set_option maxRecDepth 100000 in
theorem ck_15 : (rng 15 15).all cdB = true := by decide +kernel
set_option maxRecDepth 100000 in
theorem ck_30 : (rng 30 15).all cdB = true := by decide +kernel
set_option maxRecDepth 100000 in
theorem ck_45 : (rng 45 15).all cdB = true := by decide +kernel
set_option maxRecDepth 100000 in
theorem ck_60 : (rng 60 15).all cdB = true := by decide +kernel
set_option maxRecDepth 100000 in
theorem ck_75 : (rng 75 15).all cdB = true := by decide +kernel
set_option maxRecDepth 100000 in
theorem ck_90 : (rng 90 15).all cdB = true := by decide +kernel
set_option maxRecDepth 100000 in
theorem ck_105 : (rng 105 15).all cdB = true := by decide +kernel
set_option maxRecDepth 100000 in
theorem ck_120 : (rng 120 15).all cdB = true := by decide +kernel
set_option maxRecDepth 100000 in
theorem ck_135 : (rng 135 15).all cdB = true := by decide +kernel
set_option maxRecDepth 100000 in
theorem ck_150 : (rng 150 15).all cdB = true := by decide +kernel
set_option maxRecDepth 100000 in
theorem ck_165 : (rng 165 15).all cdB = true := by decide +kernel
set_option maxRecDepth 100000 in
theorem ck_180 : (rng 180 15).all cdB = true := by decide +kernel
set_option maxRecDepth 100000 in
theorem ck_195 : (rng 195 8).all cdB = true := by decide +kernel
theorem ck_all {k : Nat} (h : k < 203) : cdB k = true := by
  by_cases h0 : k < 15
  · exact List.all_eq_true.mp ck_0 k (rng_mem (by omega) (by omega))
  by_cases h15 : k < 30
  · exact List.all_eq_true.mp ck_15 k (rng_mem (by omega) (by omega))
  by_cases h30 : k < 45
  · exact List.all_eq_true.mp ck_30 k (rng_mem (by omega) (by omega))
  by_cases h45 : k < 60
  · exact List.all_eq_true.mp ck_45 k (rng_mem (by omega) (by omega))
  by_cases h60 : k < 75
  · exact List.all_eq_true.mp ck_60 k (rng_mem (by omega) (by omega))
  by_cases h75 : k < 90
  · exact List.all_eq_true.mp ck_75 k (rng_mem (by omega) (by omega))
  by_cases h90 : k < 105
  · exact List.all_eq_true.mp ck_90 k (rng_mem (by omega) (by omega))
  by_cases h105 : k < 120
  · exact List.all_eq_true.mp ck_105 k (rng_mem (by omega) (by omega))
  by_cases h120 : k < 135
  · exact List.all_eq_true.mp ck_120 k (rng_mem (by omega) (by omega))
  by_cases h135 : k < 150
  · exact List.all_eq_true.mp ck_135 k (rng_mem (by omega) (by omega))
  by_cases h150 : k < 165
  · exact List.all_eq_true.mp ck_150 k (rng_mem (by omega) (by omega))
  by_cases h165 : k < 180
  · exact List.all_eq_true.mp ck_165 k (rng_mem (by omega) (by omega))
  by_cases h180 : k < 195
  · exact List.all_eq_true.mp ck_180 k (rng_mem (by omega) (by omega))
  exact List.all_eq_true.mp ck_195 k (rng_mem (by omega) (by omega))
