/-! ===== the class: what stays; printed by wip/gen/x ===== -/
def c_xf_coat : XC := (54, 4, (bT ++ [((-2147483648), 2147483647), ((-2147483648), 2147483647), ((-2147483648), 2147483647)]), [.inr (.inl 0), .inl (some 14, 0), .inl (some 15, 0), .inl (some 16, 0)], (gX 999), [], [((bT ++ [((-2147483648), 2147483647), ((-2147483648), 2147483647), ((-2147483648), 2147483647), ((-2147483648), 2147483647), (0, 49), (0, 49), ((-2147483648), 2147483647), ((-2147483648), 2147483647)]), some (.inl (some 17, 0)), (hst (gX 999) [(5, .inr (.inr (.inr (0, [.inr (.inl 6), .inr (.inl 9), .inr (.inl 14), .inr (.inl 18), .inr (.inl 22), .inr (.inl 26), .inr (.inl 27), .inr (.inl 28), .inr (.inl 29), .inr (.inl 30), .inl (some 18, 0), .inl (some 19, 0), .inl (some 20, 0), .inl (some 21, 0), .inr (.inl 999)]))))]), (ansT 58 [(26, 58), (27, 59), (28, 60), (29, 61), (30, 62)]), 63, [])])
def h_xf_coat : List XH := []
set_option maxRecDepth 1000000 in
theorem k_xf_coat {PT : PTy} (hp : HP19 PT) : wfX c_xf_coat = true ∧ xcOk PT c_xf_coat := xctr (xl (k_liveX hp.1.1.1.1.1.1.1.1) (xl0)) c_xf_coat 93 mX6_coat rfl h_xf_coat (by decide +kernel) (by decide +kernel) (by decide) (vcs_by [] (by decide +kernel) vn) fmn
def c_xf_stands : XC := (55, 4, (bT ++ [((-2147483648), 2147483647), ((-2147483648), 2147483647)]), [.inr (.inl 0), .inl (some 14, 0), .inl (some 15, 0)], (gX 999), [], [((bT ++ [((-2147483648), 2147483647), ((-2147483648), 2147483647), ((-2), 3), (0, 49), (0, 49), ((-2147483648), 2147483647), ((-2147483648), 2147483647)]), some (.inl (some 16, 0)), (hst (gX 999) [(5, .inr (.inr (.inr (0, [.inr (.inl 6), .inr (.inl 9), .inr (.inl 14), .inr (.inl 18), .inr (.inl 22), .inr (.inl 26), .inr (.inl 27), .inr (.inl 28), .inr (.inl 29), .inr (.inl 30), .inl (some 17, 0), .inl (some 18, 0), .inl (some 19, 0), .inl (some 20, 0), .inr (.inl 999)]))))]), (ansT 58 [(26, 58), (27, 59), (28, 60), (29, 61), (30, 62)]), 63, [])])
def h_xf_stands : List XH := []
set_option maxRecDepth 1000000 in
theorem k_xf_stands {PT : PTy} (hp : HP19 PT) : wfX c_xf_stands = true ∧ xcOk PT c_xf_stands := xctr (xl (k_liveX hp.1.1.1.1.1.1.1.1) (xl0)) c_xf_stands 58 mX6_stands rfl h_xf_stands (by decide +kernel) (by decide +kernel) (by decide) (vcs_by [] (by decide +kernel) vn) fmn
def c_xf_neat : XC := (56, 4, (bT ++ [((-2147483648), 2147483647)]), [.inr (.inl 0), .inl (some 14, 0)], (gX 999), [], [((bT ++ [((-2147483648), 2147483647), ((-2147483648), 2147483647), (0, 49), (0, 49), ((-2147483648), 2147483647), ((-2147483648), 2147483647)]), some (.inl (some 15, 0)), (hst (gX 999) [(5, .inr (.inr (.inr (0, [.inr (.inl 6), .inr (.inl 9), .inr (.inl 14), .inr (.inl 18), .inr (.inl 22), .inr (.inl 26), .inr (.inl 27), .inr (.inl 28), .inr (.inl 29), .inr (.inl 30), .inl (some 16, 0), .inl (some 17, 0), .inl (some 18, 0), .inl (some 19, 0), .inr (.inl 999)]))))]), (ansT 58 [(26, 58), (27, 59), (28, 60), (29, 61), (30, 62)]), 63, [])])
def h_xf_neat : List XH := []
set_option maxRecDepth 1000000 in
theorem k_xf_neat {PT : PTy} (hp : HP19 PT) : wfX c_xf_neat = true ∧ xcOk PT c_xf_neat := xctr (xl (k_fittingBits14 hp.1.1.1.1.1.1.1.1.1.1.1.1.1.1.1) (xl (k_liveX hp.1.1.1.1.1.1.1.1) (xl0))) c_xf_neat 42 mX6_neat rfl h_xf_neat (by decide +kernel) (by decide +kernel) (by decide) (vcs_by [] (by decide +kernel) vn) fmn
def c_xf_naked : XC := (57, 4, (bT ++ [((-2147483648), 2147483647)]), [.inr (.inl 0), .inl (some 14, 0)], (gX 999), [], [((bT ++ [((-2147483648), 2147483647), ((-2147483648), 2147483647), (0, 49), (0, 49), ((-2147483648), 2147483647), ((-2147483648), 2147483647)]), some (.inl (some 15, 0)), (hst (gX 999) [(5, .inr (.inr (.inr (0, [.inr (.inl 6), .inr (.inl 9), .inr (.inl 14), .inr (.inl 18), .inr (.inl 22), .inr (.inl 26), .inr (.inl 27), .inr (.inl 28), .inr (.inl 29), .inr (.inl 30), .inl (some 16, 0), .inl (some 17, 0), .inl (some 18, 0), .inl (some 19, 0), .inr (.inl 999)]))))]), (ansT 58 [(26, 58), (27, 59), (28, 60), (29, 61), (30, 62)]), 63, [])])
def h_xf_naked : List XH := []
set_option maxRecDepth 1000000 in
theorem k_xf_naked {PT : PTy} (hp : HP19 PT) : wfX c_xf_naked = true ∧ xcOk PT c_xf_naked := xctr (xl (k_nakedBits14 hp.1.1.1.1.1.1.1.1.1.1.1.1.1.1.1) (xl (k_liveX hp.1.1.1.1.1.1.1.1) (xl0))) c_xf_naked 42 mX6_naked rfl h_xf_naked (by decide +kernel) (by decide +kernel) (by decide) (vcs_by [] (by decide +kernel) vn) fmn
def c_xf_longest : XC := (58, 4, (bT ++ [((-2147483648), 2147483647)]), [.inr (.inl 0), .inl (some 14, 0)], (gX 999), [], [((bT ++ [((-2147483648), 2147483647), ((-2), 7), (0, 49), (0, 49), ((-2147483648), 2147483647), ((-2147483648), 2147483647)]), some (.inl (some 15, 0)), (hst (gX 999) [(5, .inr (.inr (.inr (0, [.inr (.inl 6), .inr (.inl 9), .inr (.inl 14), .inr (.inl 18), .inr (.inl 22), .inr (.inl 26), .inr (.inl 27), .inr (.inl 28), .inr (.inl 29), .inr (.inl 30), .inl (some 16, 0), .inl (some 17, 0), .inl (some 18, 0), .inl (some 19, 0), .inr (.inl 999)]))))]), (ansT 58 [(26, 58), (27, 59), (28, 60), (29, 61), (30, 62)]), 63, [])])
def h_xf_longest : List XH := [(22, (bT ++ [(0, 23), ((-1), 7), ((-1), 99), (0, 8), (0, 49), (0, 49)]), [some (.inr (.inl 0)), some (.inl (some 14, 0)), some (.inl (some 15, 0)), some (.inl (some 16, 0)), some (.inl (some 17, 0))], (hst (gX 14) [(5, .inr (.inr (.inr (0, [.inr (.inl 6), .inr (.inl 9), .inr (.inl 14), .inr (.inl 18), .inr (.inl 22), .inr (.inl 26), .inr (.inl 27), .inr (.inl 28), .inr (.inl 29), .inr (.inl 30), .inl (some 18, 0), .inl (some 19, 0), .inl (none, 0), .inl (none, 0), .inr (.inl 14)]))))]), (ansT 58 [(26, 58), (27, 59), (28, 60), (29, 61), (30, 62)]), 63, [], [(true, (none, 1)), (true, (some 17, 0))])]
set_option maxRecDepth 1000000 in
theorem k_xf_longest {PT : PTy} (hp : HP19 PT) : wfX c_xf_longest = true ∧ xcOk PT c_xf_longest := xctr (xl (k_liveX hp.1.1.1.1.1.1.1.1) (xl0)) c_xf_longest 45 mX6_longest rfl h_xf_longest (by decide +kernel) (by decide +kernel) (by decide) (vcs_by [] (by decide +kernel) vn) (fmc (vcs_by [] (by decide +kernel) vn) fmn)
def c_xf_splits : XC := (59, 4, (bT), [.inr (.inl 0)], (gX 999), [], [((bT ++ [((-2147483648), 2147483647), (0, 49), (0, 49)]), some (.inl (some 14, 0)), (hst (gX 14) [(5, .inr (.inr (.inr (0, [.inr (.inl 6), .inr (.inl 9), .inr (.inl 14), .inr (.inl 18), .inr (.inl 22), .inr (.inl 26), .inr (.inl 27), .inr (.inl 28), .inr (.inl 29), .inr (.inl 30), .inl (some 15, 0), .inl (some 16, 0), .inl (none, 0), .inl (none, 0), .inr (.inl 14)]))))]), (ansT 58 [(26, 58), (27, 59), (28, 60), (29, 61), (30, 62)]), 63, [])])
def h_xf_splits : List XH := []
set_option maxRecDepth 1000000 in
theorem k_xf_splits {PT : PTy} (hp : HP19 PT) : wfX c_xf_splits = true ∧ xcOk PT c_xf_splits := xctr (xl (k_allRips14 hp.1.1.1.1.1.1.1.1.1.1.1.1.1.1.1) (xl (k_liveX hp.1.1.1.1.1.1.1.1) (xl0))) c_xf_splits 27 mX6_splits rfl h_xf_splits (by decide +kernel) (by decide +kernel) (by decide) (vcs_by [] (by decide +kernel) vn) fmn
def c_xf_best : XC := (60, 3, (bT), [.inr (.inl 0)], (gX 999), [], [((bT ++ [((-1), 23), (0, 49), (0, 49), ((-2147483648), 2147483647), ((-2147483648), 2147483647)]), some (.inl (some 14, 0)), (hst (gX 999) [(5, .inr (.inr (.inr (0, [.inr (.inl 6), .inr (.inl 9), .inr (.inl 14), .inr (.inl 18), .inr (.inl 22), .inr (.inl 26), .inr (.inl 27), .inr (.inl 28), .inr (.inl 29), .inr (.inl 30), .inl (some 15, 0), .inl (some 16, 0), .inl (some 17, 0), .inl (some 18, 0), .inr (.inl 999)]))))]), (ansT 58 [(26, 58), (27, 59), (28, 60), (29, 61), (30, 62)]), 63, [])])
def h_xf_best : List XH := [(36, ([(0, 23), (0, 49), (1, 8), (0, 10), (0, 8), (0, 6), (0, 6), (0, 8), (0, 9), (0, 49), (0, 49), ((-2147483648), 2147483647), ((-2147483648), 2147483647), (0, 5), ((-1), 23), ((-1), 2147483647), (0, 24), (0, 49), (0, 49)]), [some (.inr (.inl 0)), some (.inl (some 14, 0)), some (.inl (some 15, 0)), some (.inl (some 16, 0)), none], (hst (gX 14) [(5, .inr (.inr (.inr (0, [.inr (.inl 6), .inr (.inl 9), .inr (.inl 14), .inr (.inl 18), .inr (.inl 22), .inr (.inl 26), .inr (.inl 27), .inr (.inl 28), .inr (.inl 29), .inr (.inl 30), .inl (some 17, 0), .inl (some 18, 0), .inl (none, 0), .inl (none, 0), .inr (.inl 14)]))))]), (ansT 58 [(26, 58), (27, 59), (28, 60), (29, 61), (30, 62)]), 63, [(87, [(some 17, 0)], [58, 59])], [(true, (none, 1)), (true, (some 16, 0))])]
def w_xf_best_0_0 : VC := (([(0, 23), (0, 49), (1, 8), (0, 10), (0, 8), (0, 6), (0, 6), (0, 8), (0, 9), (0, 49), (0, 49), ((-2147483648), 2147483647), ((-2147483648), 2147483647), (0, 5), (0, 49)]), [(89, [], [8, 60, 61, 62]), (86, [(some 2, 0), (some 3, 0), (some 4, 0), (some 5, 0), (some 6, 0), (some 14, 0)], [58, 59, 10, 12, 13, 15, 16, 19, 20, 23, 24]), (1, [(some 2, 0), (none, 0)], [])], (87, [(some 14, 0)], [58, 59]))
set_option maxRecDepth 20000 in
theorem v_xf_best_0_0 {PT : PTy} (hp : HP19 PT) : vcOk PT w_xf_best_0_0 := vc_of (fun ρ α hB hF => by
  obtain ⟨f0, f1, -, -⟩ := hF
  have e86 : PT 86 = P_arr := hp.1.1.1.1.1.1.1.1.1.1.1.1.1.1.1.1.2.2.2.2.2.2.2.1
  have e87 : PT 87 = P_pr := hp.1.1.1.1.1.1.1.1.1.1.1.1.1.1.1.1.2.2.2.2.2.2.2.2.1
  have e89 : PT 89 = P_bg := hp.1.1.1.1.1.1.1.1.1.1.1.1.1.1.1.1.2.2.2.2.2.2.2.2.2.2.1
  simp only [hFp_86, hFp_87, hFp_89, e86, e87, e89, P_arr, P_pr, P_bg, den_s, den_c, Int.add_zero, List.map_cons, List.map_nil] at f0 f1 ⊢
  have b2 : (1 : Int) ≤ ρ 2 ∧ ρ 2 ≤ 8 := hB 2 (1, 8) rfl
  have b3 : (0 : Int) ≤ ρ 3 ∧ ρ 3 ≤ 10 := hB 3 (0, 10) rfl
  have b4 : (0 : Int) ≤ ρ 4 ∧ ρ 4 ≤ 8 := hB 4 (0, 8) rfl
  have b5 : (0 : Int) ≤ ρ 5 ∧ ρ 5 ≤ 6 := hB 5 (0, 6) rfl
  have b6 : (0 : Int) ≤ ρ 6 ∧ ρ 6 ≤ 6 := hB 6 (0, 6) rfl
  have b14 : (0 : Int) ≤ ρ 14 ∧ ρ 14 ≤ 49 := hB 14 (0, 49) rfl
  exact (f1).1)
set_option maxRecDepth 1000000 in
theorem k_xf_best {PT : PTy} (hp : HP19 PT) : wfX c_xf_best = true ∧ xcOk PT c_xf_best := xctr (xl (k_arrange14 hp.1.1.1.1.1.1.1.1.1.1.1.1.1.1.1.1) (xl (k_begin14 hp.1.1.1.1.1.1.1.1.1.1.1.1.1.1.1) (xl (k_advance14 hp.1.1.1.1.1.1.1.1.1.1.1.1.1.1.1) (xl (k_fittingBits14 hp.1.1.1.1.1.1.1.1.1.1.1.1.1.1.1) (xl (k_bitCount hp.1.1.1.1.1.1.1.1) (xl0)))))) c_xf_best 42 mX6_best rfl h_xf_best (by decide +kernel) (by decide +kernel) (by decide) (vcs_by [w_xf_best_0_0] (by decide +kernel) (vc (v_xf_best_0_0 hp) vn)) (fmc (vcs_by [] (by decide +kernel) vn) fmn)
def c_xf_swear : XC := (61, 4, (bT ++ [((-2147483648), 2147483647), ((-2147483648), 2147483647)]), [.inr (.inl 0), .inl (some 14, 0), .inl (some 15, 0)], (gX 999), [], [((bT ++ [((-2147483648), 2147483647), ((-2147483648), 2147483647), ((-2), 9), (0, 49), (0, 49), ((-2147483648), 2147483647), ((-2147483648), 2147483647)]), some (.inl (some 16, 0)), (hst (gX 999) [(5, .inr (.inr (.inr (0, [.inr (.inl 6), .inr (.inl 9), .inr (.inl 14), .inr (.inl 18), .inr (.inl 22), .inr (.inl 26), .inr (.inl 27), .inr (.inl 28), .inr (.inl 29), .inr (.inl 30), .inl (some 17, 0), .inl (some 18, 0), .inl (some 19, 0), .inl (some 20, 0), .inr (.inl 999)]))))]), (ansT 58 [(10, 58), (11, 59), (12, 60), (13, 61), (26, 62), (27, 63), (28, 64), (29, 65), (30, 66)]), 67, [(186, [(some 3, 0)], [58, 10]), (186, [(some 3, 0)], [59, 11]), (186, [(some 3, 0)], [60, 12]), (186, [(some 3, 0)], [61, 13])])])
def h_xf_swear : List XH := [(26, ([(0, 23), (0, 49), (1, 8), (0, 10), (0, 8), (0, 6), (0, 6), (0, 8), (0, 9), (0, 49), (0, 49), ((-2147483648), 2147483647), ((-2147483648), 2147483647), (0, 5), (0, 7), (0, 23), ((-1), 9), (1, 10), (0, 49), (0, 49), ((-2147483648), 2147483647), ((-2147483648), 2147483647)]), [some (.inr (.inl 0)), some (.inl (some 14, 0)), some (.inl (some 15, 0)), some (.inl (some 16, 0)), some (.inl (some 17, 0))], (hst (gX 999) [(5, .inr (.inr (.inr (0, [.inr (.inl 6), .inr (.inl 9), .inr (.inl 14), .inr (.inl 18), .inr (.inl 22), .inr (.inl 26), .inr (.inl 27), .inr (.inl 28), .inr (.inl 29), .inr (.inl 30), .inl (some 18, 0), .inl (some 19, 0), .inl (some 20, 0), .inl (some 21, 0), .inr (.inl 999)]))))]), (ansT 58 [(10, 58), (11, 59), (12, 60), (13, 61), (26, 62), (27, 63), (28, 64), (29, 65), (30, 66)]), 67, [(186, [(some 3, 0)], [58, 10]), (186, [(some 3, 0)], [59, 11]), (186, [(some 3, 0)], [60, 12]), (186, [(some 3, 0)], [61, 13])], [(true, (none, 1)), (true, (some 17, 0))])]
def w_xf_swear_0_0 : VC := ((bT ++ [((-2147483648), (-1)), ((-2147483648), 2147483647)]), [(0, [(none, 0), (none, 0)], []), (2, [(some 14, 0), (none, 0)], [])], (186, [(some 3, 0)], [10, 10]))
set_option maxRecDepth 20000 in
theorem v_xf_swear_0_0 {PT : PTy} (hp : HP19 PT) : vcOk PT w_xf_swear_0_0 := vc_of (fun ρ α hB hF => by
  obtain ⟨f0, f1, -⟩ := hF
  have e186 : PT 186 = P_al := hp.1.1.1.1.1.1.2.2.2.2.2.2.2.1
  simp only [hF0, hF2, hFp_186, e186, P_al, den_s, den_c, Int.add_zero, List.map_cons, List.map_nil] at f0 f1 ⊢
  have b3 : (0 : Int) ≤ ρ 3 ∧ ρ 3 ≤ 10 := hB 3 (0, 10) rfl
  have b14 : ((-2147483648) : Int) ≤ ρ 14 ∧ ρ 14 ≤ (-1) := hB 14 ((-2147483648), (-1)) rfl
  clear hB
  generalize ρ 3 = r3, ρ 14 = r14, α 10 = a10 at *
  subst_vars
  first
    | exact fun i h1 h2 => (by first | rfl | trivial)
    | assumption
    | exact al_up (Int.le_refl _) (by assumption)
    | exact al_up (Int.le_refl _) (fun i h1 h2 => rfl)
    | exact al_tr (by assumption) (by assumption))
def w_xf_swear_0_1 : VC := ((bT ++ [((-2147483648), (-1)), ((-2147483648), 2147483647)]), [(0, [(none, 0), (none, 0)], []), (2, [(some 14, 0), (none, 0)], [])], (186, [(some 3, 0)], [11, 11]))
set_option maxRecDepth 20000 in
theorem v_xf_swear_0_1 {PT : PTy} (hp : HP19 PT) : vcOk PT w_xf_swear_0_1 := vc_of (fun ρ α hB hF => by
  obtain ⟨f0, f1, -⟩ := hF
  have e186 : PT 186 = P_al := hp.1.1.1.1.1.1.2.2.2.2.2.2.2.1
  simp only [hF0, hF2, hFp_186, e186, P_al, den_s, den_c, Int.add_zero, List.map_cons, List.map_nil] at f0 f1 ⊢
  have b3 : (0 : Int) ≤ ρ 3 ∧ ρ 3 ≤ 10 := hB 3 (0, 10) rfl
  have b14 : ((-2147483648) : Int) ≤ ρ 14 ∧ ρ 14 ≤ (-1) := hB 14 ((-2147483648), (-1)) rfl
  clear hB
  generalize ρ 3 = r3, ρ 14 = r14, α 11 = a11 at *
  subst_vars
  first
    | exact fun i h1 h2 => (by first | rfl | trivial)
    | assumption
    | exact al_up (Int.le_refl _) (by assumption)
    | exact al_up (Int.le_refl _) (fun i h1 h2 => rfl)
    | exact al_tr (by assumption) (by assumption))
def w_xf_swear_0_2 : VC := ((bT ++ [((-2147483648), (-1)), ((-2147483648), 2147483647)]), [(0, [(none, 0), (none, 0)], []), (2, [(some 14, 0), (none, 0)], [])], (186, [(some 3, 0)], [12, 12]))
set_option maxRecDepth 20000 in
theorem v_xf_swear_0_2 {PT : PTy} (hp : HP19 PT) : vcOk PT w_xf_swear_0_2 := vc_of (fun ρ α hB hF => by
  obtain ⟨f0, f1, -⟩ := hF
  have e186 : PT 186 = P_al := hp.1.1.1.1.1.1.2.2.2.2.2.2.2.1
  simp only [hF0, hF2, hFp_186, e186, P_al, den_s, den_c, Int.add_zero, List.map_cons, List.map_nil] at f0 f1 ⊢
  have b3 : (0 : Int) ≤ ρ 3 ∧ ρ 3 ≤ 10 := hB 3 (0, 10) rfl
  have b14 : ((-2147483648) : Int) ≤ ρ 14 ∧ ρ 14 ≤ (-1) := hB 14 ((-2147483648), (-1)) rfl
  clear hB
  generalize ρ 3 = r3, ρ 14 = r14, α 12 = a12 at *
  subst_vars
  first
    | exact fun i h1 h2 => (by first | rfl | trivial)
    | assumption
    | exact al_up (Int.le_refl _) (by assumption)
    | exact al_up (Int.le_refl _) (fun i h1 h2 => rfl)
    | exact al_tr (by assumption) (by assumption))
def w_xf_swear_0_3 : VC := ((bT ++ [((-2147483648), (-1)), ((-2147483648), 2147483647)]), [(0, [(none, 0), (none, 0)], []), (2, [(some 14, 0), (none, 0)], [])], (186, [(some 3, 0)], [13, 13]))
set_option maxRecDepth 20000 in
theorem v_xf_swear_0_3 {PT : PTy} (hp : HP19 PT) : vcOk PT w_xf_swear_0_3 := vc_of (fun ρ α hB hF => by
  obtain ⟨f0, f1, -⟩ := hF
  have e186 : PT 186 = P_al := hp.1.1.1.1.1.1.2.2.2.2.2.2.2.1
  simp only [hF0, hF2, hFp_186, e186, P_al, den_s, den_c, Int.add_zero, List.map_cons, List.map_nil] at f0 f1 ⊢
  have b3 : (0 : Int) ≤ ρ 3 ∧ ρ 3 ≤ 10 := hB 3 (0, 10) rfl
  have b14 : ((-2147483648) : Int) ≤ ρ 14 ∧ ρ 14 ≤ (-1) := hB 14 ((-2147483648), (-1)) rfl
  clear hB
  generalize ρ 3 = r3, ρ 14 = r14, α 13 = a13 at *
  subst_vars
  first
    | exact fun i h1 h2 => (by first | rfl | trivial)
    | assumption
    | exact al_up (Int.le_refl _) (by assumption)
    | exact al_up (Int.le_refl _) (fun i h1 h2 => rfl)
    | exact al_tr (by assumption) (by assumption))
def w_xf_swear_0_4 : VC := ((bT ++ [(0, 2147483647), ((-2147483648), 2147483647)]), [(0, [(none, 0), (none, 0)], []), (3, [(some 14, 0), (some 2, 0)], []), (3, [(some 14, 0), (none, 0)], [])], (186, [(some 3, 0)], [10, 10]))
set_option maxRecDepth 20000 in
theorem v_xf_swear_0_4 {PT : PTy} (hp : HP19 PT) : vcOk PT w_xf_swear_0_4 := vc_of (fun ρ α hB hF => by
  obtain ⟨f0, f1, f2, -⟩ := hF
  have e186 : PT 186 = P_al := hp.1.1.1.1.1.1.2.2.2.2.2.2.2.1
  simp only [hF0, hF3, hFp_186, e186, P_al, den_s, den_c, Int.add_zero, List.map_cons, List.map_nil] at f0 f1 f2 ⊢
  have b2 : (0 : Int) ≤ ρ 2 ∧ ρ 2 ≤ 8 := hB 2 (0, 8) rfl
  have b3 : (0 : Int) ≤ ρ 3 ∧ ρ 3 ≤ 10 := hB 3 (0, 10) rfl
  have b14 : (0 : Int) ≤ ρ 14 ∧ ρ 14 ≤ 2147483647 := hB 14 (0, 2147483647) rfl
  clear hB
  generalize ρ 2 = r2, ρ 3 = r3, ρ 14 = r14, α 10 = a10 at *
  subst_vars
  first
    | exact fun i h1 h2 => (by first | rfl | trivial)
    | assumption
    | exact al_up (Int.le_refl _) (by assumption)
    | exact al_up (Int.le_refl _) (fun i h1 h2 => rfl)
    | exact al_tr (by assumption) (by assumption))
def w_xf_swear_0_5 : VC := ((bT ++ [(0, 2147483647), ((-2147483648), 2147483647)]), [(0, [(none, 0), (none, 0)], []), (3, [(some 14, 0), (some 2, 0)], []), (3, [(some 14, 0), (none, 0)], [])], (186, [(some 3, 0)], [11, 11]))
set_option maxRecDepth 20000 in
theorem v_xf_swear_0_5 {PT : PTy} (hp : HP19 PT) : vcOk PT w_xf_swear_0_5 := vc_of (fun ρ α hB hF => by
  obtain ⟨f0, f1, f2, -⟩ := hF
  have e186 : PT 186 = P_al := hp.1.1.1.1.1.1.2.2.2.2.2.2.2.1
  simp only [hF0, hF3, hFp_186, e186, P_al, den_s, den_c, Int.add_zero, List.map_cons, List.map_nil] at f0 f1 f2 ⊢
  have b2 : (0 : Int) ≤ ρ 2 ∧ ρ 2 ≤ 8 := hB 2 (0, 8) rfl
  have b3 : (0 : Int) ≤ ρ 3 ∧ ρ 3 ≤ 10 := hB 3 (0, 10) rfl
  have b14 : (0 : Int) ≤ ρ 14 ∧ ρ 14 ≤ 2147483647 := hB 14 (0, 2147483647) rfl
  clear hB
  generalize ρ 2 = r2, ρ 3 = r3, ρ 14 = r14, α 11 = a11 at *
  subst_vars
  first
    | exact fun i h1 h2 => (by first | rfl | trivial)
    | assumption
    | exact al_up (Int.le_refl _) (by assumption)
    | exact al_up (Int.le_refl _) (fun i h1 h2 => rfl)
    | exact al_tr (by assumption) (by assumption))
def w_xf_swear_0_6 : VC := ((bT ++ [(0, 2147483647), ((-2147483648), 2147483647)]), [(0, [(none, 0), (none, 0)], []), (3, [(some 14, 0), (some 2, 0)], []), (3, [(some 14, 0), (none, 0)], [])], (186, [(some 3, 0)], [12, 12]))
set_option maxRecDepth 20000 in
theorem v_xf_swear_0_6 {PT : PTy} (hp : HP19 PT) : vcOk PT w_xf_swear_0_6 := vc_of (fun ρ α hB hF => by
  obtain ⟨f0, f1, f2, -⟩ := hF
  have e186 : PT 186 = P_al := hp.1.1.1.1.1.1.2.2.2.2.2.2.2.1
  simp only [hF0, hF3, hFp_186, e186, P_al, den_s, den_c, Int.add_zero, List.map_cons, List.map_nil] at f0 f1 f2 ⊢
  have b2 : (0 : Int) ≤ ρ 2 ∧ ρ 2 ≤ 8 := hB 2 (0, 8) rfl
  have b3 : (0 : Int) ≤ ρ 3 ∧ ρ 3 ≤ 10 := hB 3 (0, 10) rfl
  have b14 : (0 : Int) ≤ ρ 14 ∧ ρ 14 ≤ 2147483647 := hB 14 (0, 2147483647) rfl
  clear hB
  generalize ρ 2 = r2, ρ 3 = r3, ρ 14 = r14, α 12 = a12 at *
  subst_vars
  first
    | exact fun i h1 h2 => (by first | rfl | trivial)
    | assumption
    | exact al_up (Int.le_refl _) (by assumption)
    | exact al_up (Int.le_refl _) (fun i h1 h2 => rfl)
    | exact al_tr (by assumption) (by assumption))
def w_xf_swear_0_7 : VC := ((bT ++ [(0, 2147483647), ((-2147483648), 2147483647)]), [(0, [(none, 0), (none, 0)], []), (3, [(some 14, 0), (some 2, 0)], []), (3, [(some 14, 0), (none, 0)], [])], (186, [(some 3, 0)], [13, 13]))
set_option maxRecDepth 20000 in
theorem v_xf_swear_0_7 {PT : PTy} (hp : HP19 PT) : vcOk PT w_xf_swear_0_7 := vc_of (fun ρ α hB hF => by
  obtain ⟨f0, f1, f2, -⟩ := hF
  have e186 : PT 186 = P_al := hp.1.1.1.1.1.1.2.2.2.2.2.2.2.1
  simp only [hF0, hF3, hFp_186, e186, P_al, den_s, den_c, Int.add_zero, List.map_cons, List.map_nil] at f0 f1 f2 ⊢
  have b2 : (0 : Int) ≤ ρ 2 ∧ ρ 2 ≤ 8 := hB 2 (0, 8) rfl
  have b3 : (0 : Int) ≤ ρ 3 ∧ ρ 3 ≤ 10 := hB 3 (0, 10) rfl
  have b14 : (0 : Int) ≤ ρ 14 ∧ ρ 14 ≤ 2147483647 := hB 14 (0, 2147483647) rfl
  clear hB
  generalize ρ 2 = r2, ρ 3 = r3, ρ 14 = r14, α 13 = a13 at *
  subst_vars
  first
    | exact fun i h1 h2 => (by first | rfl | trivial)
    | assumption
    | exact al_up (Int.le_refl _) (by assumption)
    | exact al_up (Int.le_refl _) (fun i h1 h2 => rfl)
    | exact al_tr (by assumption) (by assumption))
def w_xf_swear_0_8 : VC := (([(0, 23), (0, 49), (1, 8), (0, 10), (0, 8), (0, 6), (0, 6), (0, 8), (0, 9), (0, 49), (0, 49), ((-2147483648), 2147483647), ((-2147483648), 2147483647), (0, 5), (0, 7), ((-2147483648), (-1))]), [(0, [(none, 0), (none, 0)], []), (2, [(some 15, 0), (none, 0)], []), (1, [(none, 1), (none, 0)], []), (2, [(some 14, 0), (some 2, 0)], []), (3, [(some 14, 0), (none, 0)], [])], (186, [(some 3, 0)], [10, 10]))
set_option maxRecDepth 20000 in
theorem v_xf_swear_0_8 {PT : PTy} (hp : HP19 PT) : vcOk PT w_xf_swear_0_8 := vc_of (fun ρ α hB hF => by
  obtain ⟨f0, f1, f2, f3, f4, -⟩ := hF
  have e186 : PT 186 = P_al := hp.1.1.1.1.1.1.2.2.2.2.2.2.2.1
  simp only [hF0, hF1, hF2, hF3, hFp_186, e186, P_al, den_s, den_c, Int.add_zero, List.map_cons, List.map_nil] at f0 f1 f2 f3 f4 ⊢
  have b2 : (1 : Int) ≤ ρ 2 ∧ ρ 2 ≤ 8 := hB 2 (1, 8) rfl
  have b3 : (0 : Int) ≤ ρ 3 ∧ ρ 3 ≤ 10 := hB 3 (0, 10) rfl
  have b14 : (0 : Int) ≤ ρ 14 ∧ ρ 14 ≤ 7 := hB 14 (0, 7) rfl
  have b15 : ((-2147483648) : Int) ≤ ρ 15 ∧ ρ 15 ≤ (-1) := hB 15 ((-2147483648), (-1)) rfl
  clear hB
  generalize ρ 2 = r2, ρ 3 = r3, ρ 14 = r14, ρ 15 = r15, α 10 = a10 at *
  subst_vars
  first
    | exact fun i h1 h2 => (by first | rfl | trivial)
    | assumption
    | exact al_up (Int.le_refl _) (by assumption)
    | exact al_up (Int.le_refl _) (fun i h1 h2 => rfl)
    | exact al_tr (by assumption) (by assumption))
def w_xf_swear_0_9 : VC := (([(0, 23), (0, 49), (1, 8), (0, 10), (0, 8), (0, 6), (0, 6), (0, 8), (0, 9), (0, 49), (0, 49), ((-2147483648), 2147483647), ((-2147483648), 2147483647), (0, 5), (0, 7), ((-2147483648), (-1))]), [(0, [(none, 0), (none, 0)], []), (2, [(some 15, 0), (none, 0)], []), (1, [(none, 1), (none, 0)], []), (2, [(some 14, 0), (some 2, 0)], []), (3, [(some 14, 0), (none, 0)], [])], (186, [(some 3, 0)], [11, 11]))
set_option maxRecDepth 20000 in
theorem v_xf_swear_0_9 {PT : PTy} (hp : HP19 PT) : vcOk PT w_xf_swear_0_9 := vc_of (fun ρ α hB hF => by
  obtain ⟨f0, f1, f2, f3, f4, -⟩ := hF
  have e186 : PT 186 = P_al := hp.1.1.1.1.1.1.2.2.2.2.2.2.2.1
  simp only [hF0, hF1, hF2, hF3, hFp_186, e186, P_al, den_s, den_c, Int.add_zero, List.map_cons, List.map_nil] at f0 f1 f2 f3 f4 ⊢
  have b2 : (1 : Int) ≤ ρ 2 ∧ ρ 2 ≤ 8 := hB 2 (1, 8) rfl
  have b3 : (0 : Int) ≤ ρ 3 ∧ ρ 3 ≤ 10 := hB 3 (0, 10) rfl
  have b14 : (0 : Int) ≤ ρ 14 ∧ ρ 14 ≤ 7 := hB 14 (0, 7) rfl
  have b15 : ((-2147483648) : Int) ≤ ρ 15 ∧ ρ 15 ≤ (-1) := hB 15 ((-2147483648), (-1)) rfl
  clear hB
  generalize ρ 2 = r2, ρ 3 = r3, ρ 14 = r14, ρ 15 = r15, α 11 = a11 at *
  subst_vars
  first
    | exact fun i h1 h2 => (by first | rfl | trivial)
    | assumption
    | exact al_up (Int.le_refl _) (by assumption)
    | exact al_up (Int.le_refl _) (fun i h1 h2 => rfl)
    | exact al_tr (by assumption) (by assumption))
def w_xf_swear_0_10 : VC := (([(0, 23), (0, 49), (1, 8), (0, 10), (0, 8), (0, 6), (0, 6), (0, 8), (0, 9), (0, 49), (0, 49), ((-2147483648), 2147483647), ((-2147483648), 2147483647), (0, 5), (0, 7), ((-2147483648), (-1))]), [(0, [(none, 0), (none, 0)], []), (2, [(some 15, 0), (none, 0)], []), (1, [(none, 1), (none, 0)], []), (2, [(some 14, 0), (some 2, 0)], []), (3, [(some 14, 0), (none, 0)], [])], (186, [(some 3, 0)], [12, 12]))
set_option maxRecDepth 20000 in
theorem v_xf_swear_0_10 {PT : PTy} (hp : HP19 PT) : vcOk PT w_xf_swear_0_10 := vc_of (fun ρ α hB hF => by
  obtain ⟨f0, f1, f2, f3, f4, -⟩ := hF
  have e186 : PT 186 = P_al := hp.1.1.1.1.1.1.2.2.2.2.2.2.2.1
  simp only [hF0, hF1, hF2, hF3, hFp_186, e186, P_al, den_s, den_c, Int.add_zero, List.map_cons, List.map_nil] at f0 f1 f2 f3 f4 ⊢
  have b2 : (1 : Int) ≤ ρ 2 ∧ ρ 2 ≤ 8 := hB 2 (1, 8) rfl
  have b3 : (0 : Int) ≤ ρ 3 ∧ ρ 3 ≤ 10 := hB 3 (0, 10) rfl
  have b14 : (0 : Int) ≤ ρ 14 ∧ ρ 14 ≤ 7 := hB 14 (0, 7) rfl
  have b15 : ((-2147483648) : Int) ≤ ρ 15 ∧ ρ 15 ≤ (-1) := hB 15 ((-2147483648), (-1)) rfl
  clear hB
  generalize ρ 2 = r2, ρ 3 = r3, ρ 14 = r14, ρ 15 = r15, α 12 = a12 at *
  subst_vars
  first
    | exact fun i h1 h2 => (by first | rfl | trivial)
    | assumption
    | exact al_up (Int.le_refl _) (by assumption)
    | exact al_up (Int.le_refl _) (fun i h1 h2 => rfl)
    | exact al_tr (by assumption) (by assumption))
def w_xf_swear_0_11 : VC := (([(0, 23), (0, 49), (1, 8), (0, 10), (0, 8), (0, 6), (0, 6), (0, 8), (0, 9), (0, 49), (0, 49), ((-2147483648), 2147483647), ((-2147483648), 2147483647), (0, 5), (0, 7), ((-2147483648), (-1))]), [(0, [(none, 0), (none, 0)], []), (2, [(some 15, 0), (none, 0)], []), (1, [(none, 1), (none, 0)], []), (2, [(some 14, 0), (some 2, 0)], []), (3, [(some 14, 0), (none, 0)], [])], (186, [(some 3, 0)], [13, 13]))
set_option maxRecDepth 20000 in
theorem v_xf_swear_0_11 {PT : PTy} (hp : HP19 PT) : vcOk PT w_xf_swear_0_11 := vc_of (fun ρ α hB hF => by
  obtain ⟨f0, f1, f2, f3, f4, -⟩ := hF
  have e186 : PT 186 = P_al := hp.1.1.1.1.1.1.2.2.2.2.2.2.2.1
  simp only [hF0, hF1, hF2, hF3, hFp_186, e186, P_al, den_s, den_c, Int.add_zero, List.map_cons, List.map_nil] at f0 f1 f2 f3 f4 ⊢
  have b2 : (1 : Int) ≤ ρ 2 ∧ ρ 2 ≤ 8 := hB 2 (1, 8) rfl
  have b3 : (0 : Int) ≤ ρ 3 ∧ ρ 3 ≤ 10 := hB 3 (0, 10) rfl
  have b14 : (0 : Int) ≤ ρ 14 ∧ ρ 14 ≤ 7 := hB 14 (0, 7) rfl
  have b15 : ((-2147483648) : Int) ≤ ρ 15 ∧ ρ 15 ≤ (-1) := hB 15 ((-2147483648), (-1)) rfl
  clear hB
  generalize ρ 2 = r2, ρ 3 = r3, ρ 14 = r14, ρ 15 = r15, α 13 = a13 at *
  subst_vars
  first
    | exact fun i h1 h2 => (by first | rfl | trivial)
    | assumption
    | exact al_up (Int.le_refl _) (by assumption)
    | exact al_up (Int.le_refl _) (fun i h1 h2 => rfl)
    | exact al_tr (by assumption) (by assumption))
def w_xf_swear_0_12 : VC := (([(0, 23), (0, 49), (1, 8), (0, 10), (0, 8), (0, 6), (0, 6), (0, 8), (0, 9), (0, 49), (0, 49), ((-2147483648), 2147483647), ((-2147483648), 2147483647), (0, 5), (0, 7), (24, 2147483647)]), [(0, [(none, 0), (none, 0)], []), (2, [(none, 23), (some 15, 0)], []), (3, [(some 15, 0), (none, 0)], []), (1, [(none, 1), (none, 0)], []), (2, [(some 14, 0), (some 2, 0)], []), (3, [(some 14, 0), (none, 0)], [])], (186, [(some 3, 0)], [10, 10]))
set_option maxRecDepth 20000 in
theorem v_xf_swear_0_12 {PT : PTy} (hp : HP19 PT) : vcOk PT w_xf_swear_0_12 := vc_of (fun ρ α hB hF => by
  obtain ⟨f0, f1, f2, f3, f4, f5, -⟩ := hF
  have e186 : PT 186 = P_al := hp.1.1.1.1.1.1.2.2.2.2.2.2.2.1
  simp only [hF0, hF1, hF2, hF3, hFp_186, e186, P_al, den_s, den_c, Int.add_zero, List.map_cons, List.map_nil] at f0 f1 f2 f3 f4 f5 ⊢
  have b2 : (1 : Int) ≤ ρ 2 ∧ ρ 2 ≤ 8 := hB 2 (1, 8) rfl
  have b3 : (0 : Int) ≤ ρ 3 ∧ ρ 3 ≤ 10 := hB 3 (0, 10) rfl
  have b14 : (0 : Int) ≤ ρ 14 ∧ ρ 14 ≤ 7 := hB 14 (0, 7) rfl
  have b15 : (24 : Int) ≤ ρ 15 ∧ ρ 15 ≤ 2147483647 := hB 15 (24, 2147483647) rfl
  clear hB
  generalize ρ 2 = r2, ρ 3 = r3, ρ 14 = r14, ρ 15 = r15, α 10 = a10 at *
  subst_vars
  first
    | exact fun i h1 h2 => (by first | rfl | trivial)
    | assumption
    | exact al_up (Int.le_refl _) (by assumption)
    | exact al_up (Int.le_refl _) (fun i h1 h2 => rfl)
    | exact al_tr (by assumption) (by assumption))
def w_xf_swear_0_13 : VC := (([(0, 23), (0, 49), (1, 8), (0, 10), (0, 8), (0, 6), (0, 6), (0, 8), (0, 9), (0, 49), (0, 49), ((-2147483648), 2147483647), ((-2147483648), 2147483647), (0, 5), (0, 7), (24, 2147483647)]), [(0, [(none, 0), (none, 0)], []), (2, [(none, 23), (some 15, 0)], []), (3, [(some 15, 0), (none, 0)], []), (1, [(none, 1), (none, 0)], []), (2, [(some 14, 0), (some 2, 0)], []), (3, [(some 14, 0), (none, 0)], [])], (186, [(some 3, 0)], [11, 11]))
set_option maxRecDepth 20000 in
theorem v_xf_swear_0_13 {PT : PTy} (hp : HP19 PT) : vcOk PT w_xf_swear_0_13 := vc_of (fun ρ α hB hF => by
  obtain ⟨f0, f1, f2, f3, f4, f5, -⟩ := hF
  have e186 : PT 186 = P_al := hp.1.1.1.1.1.1.2.2.2.2.2.2.2.1
  simp only [hF0, hF1, hF2, hF3, hFp_186, e186, P_al, den_s, den_c, Int.add_zero, List.map_cons, List.map_nil] at f0 f1 f2 f3 f4 f5 ⊢
  have b2 : (1 : Int) ≤ ρ 2 ∧ ρ 2 ≤ 8 := hB 2 (1, 8) rfl
  have b3 : (0 : Int) ≤ ρ 3 ∧ ρ 3 ≤ 10 := hB 3 (0, 10) rfl
  have b14 : (0 : Int) ≤ ρ 14 ∧ ρ 14 ≤ 7 := hB 14 (0, 7) rfl
  have b15 : (24 : Int) ≤ ρ 15 ∧ ρ 15 ≤ 2147483647 := hB 15 (24, 2147483647) rfl
  clear hB
  generalize ρ 2 = r2, ρ 3 = r3, ρ 14 = r14, ρ 15 = r15, α 11 = a11 at *
  subst_vars
  first
    | exact fun i h1 h2 => (by first | rfl | trivial)
    | assumption
    | exact al_up (Int.le_refl _) (by assumption)
    | exact al_up (Int.le_refl _) (fun i h1 h2 => rfl)
    | exact al_tr (by assumption) (by assumption))
def w_xf_swear_0_14 : VC := (([(0, 23), (0, 49), (1, 8), (0, 10), (0, 8), (0, 6), (0, 6), (0, 8), (0, 9), (0, 49), (0, 49), ((-2147483648), 2147483647), ((-2147483648), 2147483647), (0, 5), (0, 7), (24, 2147483647)]), [(0, [(none, 0), (none, 0)], []), (2, [(none, 23), (some 15, 0)], []), (3, [(some 15, 0), (none, 0)], []), (1, [(none, 1), (none, 0)], []), (2, [(some 14, 0), (some 2, 0)], []), (3, [(some 14, 0), (none, 0)], [])], (186, [(some 3, 0)], [12, 12]))
set_option maxRecDepth 20000 in
theorem v_xf_swear_0_14 {PT : PTy} (hp : HP19 PT) : vcOk PT w_xf_swear_0_14 := vc_of (fun ρ α hB hF => by
  obtain ⟨f0, f1, f2, f3, f4, f5, -⟩ := hF
  have e186 : PT 186 = P_al := hp.1.1.1.1.1.1.2.2.2.2.2.2.2.1
  simp only [hF0, hF1, hF2, hF3, hFp_186, e186, P_al, den_s, den_c, Int.add_zero, List.map_cons, List.map_nil] at f0 f1 f2 f3 f4 f5 ⊢
  have b2 : (1 : Int) ≤ ρ 2 ∧ ρ 2 ≤ 8 := hB 2 (1, 8) rfl
  have b3 : (0 : Int) ≤ ρ 3 ∧ ρ 3 ≤ 10 := hB 3 (0, 10) rfl
  have b14 : (0 : Int) ≤ ρ 14 ∧ ρ 14 ≤ 7 := hB 14 (0, 7) rfl
  have b15 : (24 : Int) ≤ ρ 15 ∧ ρ 15 ≤ 2147483647 := hB 15 (24, 2147483647) rfl
  clear hB
  generalize ρ 2 = r2, ρ 3 = r3, ρ 14 = r14, ρ 15 = r15, α 12 = a12 at *
  subst_vars
  first
    | exact fun i h1 h2 => (by first | rfl | trivial)
    | assumption
    | exact al_up (Int.le_refl _) (by assumption)
    | exact al_up (Int.le_refl _) (fun i h1 h2 => rfl)
    | exact al_tr (by assumption) (by assumption))
def w_xf_swear_0_15 : VC := (([(0, 23), (0, 49), (1, 8), (0, 10), (0, 8), (0, 6), (0, 6), (0, 8), (0, 9), (0, 49), (0, 49), ((-2147483648), 2147483647), ((-2147483648), 2147483647), (0, 5), (0, 7), (24, 2147483647)]), [(0, [(none, 0), (none, 0)], []), (2, [(none, 23), (some 15, 0)], []), (3, [(some 15, 0), (none, 0)], []), (1, [(none, 1), (none, 0)], []), (2, [(some 14, 0), (some 2, 0)], []), (3, [(some 14, 0), (none, 0)], [])], (186, [(some 3, 0)], [13, 13]))
set_option maxRecDepth 20000 in
theorem v_xf_swear_0_15 {PT : PTy} (hp : HP19 PT) : vcOk PT w_xf_swear_0_15 := vc_of (fun ρ α hB hF => by
  obtain ⟨f0, f1, f2, f3, f4, f5, -⟩ := hF
  have e186 : PT 186 = P_al := hp.1.1.1.1.1.1.2.2.2.2.2.2.2.1
  simp only [hF0, hF1, hF2, hF3, hFp_186, e186, P_al, den_s, den_c, Int.add_zero, List.map_cons, List.map_nil] at f0 f1 f2 f3 f4 f5 ⊢
  have b2 : (1 : Int) ≤ ρ 2 ∧ ρ 2 ≤ 8 := hB 2 (1, 8) rfl
  have b3 : (0 : Int) ≤ ρ 3 ∧ ρ 3 ≤ 10 := hB 3 (0, 10) rfl
  have b14 : (0 : Int) ≤ ρ 14 ∧ ρ 14 ≤ 7 := hB 14 (0, 7) rfl
  have b15 : (24 : Int) ≤ ρ 15 ∧ ρ 15 ≤ 2147483647 := hB 15 (24, 2147483647) rfl
  clear hB
  generalize ρ 2 = r2, ρ 3 = r3, ρ 14 = r14, ρ 15 = r15, α 13 = a13 at *
  subst_vars
  first
    | exact fun i h1 h2 => (by first | rfl | trivial)
    | assumption
    | exact al_up (Int.le_refl _) (by assumption)
    | exact al_up (Int.le_refl _) (fun i h1 h2 => rfl)
    | exact al_tr (by assumption) (by assumption))
def w_xf_swear_0_16 : VC := (([(0, 23), (0, 49), (1, 8), (0, 10), (0, 8), (0, 6), (0, 6), (0, 8), (0, 9), (0, 49), (0, 49), ((-2147483648), 2147483647), ((-2147483648), 2147483647), (0, 5), (0, 7), (0, 23)]), [(1, [(none, 1), (none, 0)], []), (3, [(none, 23), (some 15, 0)], []), (3, [(some 15, 0), (none, 0)], []), (1, [(none, 1), (none, 0)], []), (2, [(some 14, 0), (some 2, 0)], []), (3, [(some 14, 0), (none, 0)], [])], (186, [(some 3, 0)], [10, 10]))
set_option maxRecDepth 20000 in
theorem v_xf_swear_0_16 {PT : PTy} (hp : HP19 PT) : vcOk PT w_xf_swear_0_16 := vc_of (fun ρ α hB hF => by
  obtain ⟨f0, f1, f2, f3, f4, f5, -⟩ := hF
  have e186 : PT 186 = P_al := hp.1.1.1.1.1.1.2.2.2.2.2.2.2.1
  simp only [hF1, hF2, hF3, hFp_186, e186, P_al, den_s, den_c, Int.add_zero, List.map_cons, List.map_nil] at f0 f1 f2 f3 f4 f5 ⊢
  have b2 : (1 : Int) ≤ ρ 2 ∧ ρ 2 ≤ 8 := hB 2 (1, 8) rfl
  have b3 : (0 : Int) ≤ ρ 3 ∧ ρ 3 ≤ 10 := hB 3 (0, 10) rfl
  have b14 : (0 : Int) ≤ ρ 14 ∧ ρ 14 ≤ 7 := hB 14 (0, 7) rfl
  have b15 : (0 : Int) ≤ ρ 15 ∧ ρ 15 ≤ 23 := hB 15 (0, 23) rfl
  clear hB
  generalize ρ 2 = r2, ρ 3 = r3, ρ 14 = r14, ρ 15 = r15, α 10 = a10 at *
  subst_vars
  first
    | exact fun i h1 h2 => (by first | rfl | trivial)
    | assumption
    | exact al_up (Int.le_refl _) (by assumption)
    | exact al_up (Int.le_refl _) (fun i h1 h2 => rfl)
    | exact al_tr (by assumption) (by assumption))
def w_xf_swear_0_17 : VC := (([(0, 23), (0, 49), (1, 8), (0, 10), (0, 8), (0, 6), (0, 6), (0, 8), (0, 9), (0, 49), (0, 49), ((-2147483648), 2147483647), ((-2147483648), 2147483647), (0, 5), (0, 7), (0, 23)]), [(1, [(none, 1), (none, 0)], []), (3, [(none, 23), (some 15, 0)], []), (3, [(some 15, 0), (none, 0)], []), (1, [(none, 1), (none, 0)], []), (2, [(some 14, 0), (some 2, 0)], []), (3, [(some 14, 0), (none, 0)], [])], (186, [(some 3, 0)], [11, 11]))
set_option maxRecDepth 20000 in
theorem v_xf_swear_0_17 {PT : PTy} (hp : HP19 PT) : vcOk PT w_xf_swear_0_17 := vc_of (fun ρ α hB hF => by
  obtain ⟨f0, f1, f2, f3, f4, f5, -⟩ := hF
  have e186 : PT 186 = P_al := hp.1.1.1.1.1.1.2.2.2.2.2.2.2.1
  simp only [hF1, hF2, hF3, hFp_186, e186, P_al, den_s, den_c, Int.add_zero, List.map_cons, List.map_nil] at f0 f1 f2 f3 f4 f5 ⊢
  have b2 : (1 : Int) ≤ ρ 2 ∧ ρ 2 ≤ 8 := hB 2 (1, 8) rfl
  have b3 : (0 : Int) ≤ ρ 3 ∧ ρ 3 ≤ 10 := hB 3 (0, 10) rfl
  have b14 : (0 : Int) ≤ ρ 14 ∧ ρ 14 ≤ 7 := hB 14 (0, 7) rfl
  have b15 : (0 : Int) ≤ ρ 15 ∧ ρ 15 ≤ 23 := hB 15 (0, 23) rfl
  clear hB
  generalize ρ 2 = r2, ρ 3 = r3, ρ 14 = r14, ρ 15 = r15, α 11 = a11 at *
  subst_vars
  first
    | exact fun i h1 h2 => (by first | rfl | trivial)
    | assumption
    | exact al_up (Int.le_refl _) (by assumption)
    | exact al_up (Int.le_refl _) (fun i h1 h2 => rfl)
    | exact al_tr (by assumption) (by assumption))
def w_xf_swear_0_18 : VC := (([(0, 23), (0, 49), (1, 8), (0, 10), (0, 8), (0, 6), (0, 6), (0, 8), (0, 9), (0, 49), (0, 49), ((-2147483648), 2147483647), ((-2147483648), 2147483647), (0, 5), (0, 7), (0, 23)]), [(1, [(none, 1), (none, 0)], []), (3, [(none, 23), (some 15, 0)], []), (3, [(some 15, 0), (none, 0)], []), (1, [(none, 1), (none, 0)], []), (2, [(some 14, 0), (some 2, 0)], []), (3, [(some 14, 0), (none, 0)], [])], (186, [(some 3, 0)], [12, 12]))
set_option maxRecDepth 20000 in
theorem v_xf_swear_0_18 {PT : PTy} (hp : HP19 PT) : vcOk PT w_xf_swear_0_18 := vc_of (fun ρ α hB hF => by
  obtain ⟨f0, f1, f2, f3, f4, f5, -⟩ := hF
  have e186 : PT 186 = P_al := hp.1.1.1.1.1.1.2.2.2.2.2.2.2.1
  simp only [hF1, hF2, hF3, hFp_186, e186, P_al, den_s, den_c, Int.add_zero, List.map_cons, List.map_nil] at f0 f1 f2 f3 f4 f5 ⊢
  have b2 : (1 : Int) ≤ ρ 2 ∧ ρ 2 ≤ 8 := hB 2 (1, 8) rfl
  have b3 : (0 : Int) ≤ ρ 3 ∧ ρ 3 ≤ 10 := hB 3 (0, 10) rfl
  have b14 : (0 : Int) ≤ ρ 14 ∧ ρ 14 ≤ 7 := hB 14 (0, 7) rfl
  have b15 : (0 : Int) ≤ ρ 15 ∧ ρ 15 ≤ 23 := hB 15 (0, 23) rfl
  clear hB
  generalize ρ 2 = r2, ρ 3 = r3, ρ 14 = r14, ρ 15 = r15, α 12 = a12 at *
  subst_vars
  first
    | exact fun i h1 h2 => (by first | rfl | trivial)
    | assumption
    | exact al_up (Int.le_refl _) (by assumption)
    | exact al_up (Int.le_refl _) (fun i h1 h2 => rfl)
    | exact al_tr (by assumption) (by assumption))
def w_xf_swear_0_19 : VC := (([(0, 23), (0, 49), (1, 8), (0, 10), (0, 8), (0, 6), (0, 6), (0, 8), (0, 9), (0, 49), (0, 49), ((-2147483648), 2147483647), ((-2147483648), 2147483647), (0, 5), (0, 7), (0, 23)]), [(1, [(none, 1), (none, 0)], []), (3, [(none, 23), (some 15, 0)], []), (3, [(some 15, 0), (none, 0)], []), (1, [(none, 1), (none, 0)], []), (2, [(some 14, 0), (some 2, 0)], []), (3, [(some 14, 0), (none, 0)], [])], (186, [(some 3, 0)], [13, 13]))
set_option maxRecDepth 20000 in
theorem v_xf_swear_0_19 {PT : PTy} (hp : HP19 PT) : vcOk PT w_xf_swear_0_19 := vc_of (fun ρ α hB hF => by
  obtain ⟨f0, f1, f2, f3, f4, f5, -⟩ := hF
  have e186 : PT 186 = P_al := hp.1.1.1.1.1.1.2.2.2.2.2.2.2.1
  simp only [hF1, hF2, hF3, hFp_186, e186, P_al, den_s, den_c, Int.add_zero, List.map_cons, List.map_nil] at f0 f1 f2 f3 f4 f5 ⊢
  have b2 : (1 : Int) ≤ ρ 2 ∧ ρ 2 ≤ 8 := hB 2 (1, 8) rfl
  have b3 : (0 : Int) ≤ ρ 3 ∧ ρ 3 ≤ 10 := hB 3 (0, 10) rfl
  have b14 : (0 : Int) ≤ ρ 14 ∧ ρ 14 ≤ 7 := hB 14 (0, 7) rfl
  have b15 : (0 : Int) ≤ ρ 15 ∧ ρ 15 ≤ 23 := hB 15 (0, 23) rfl
  clear hB
  generalize ρ 2 = r2, ρ 3 = r3, ρ 14 = r14, ρ 15 = r15, α 13 = a13 at *
  subst_vars
  first
    | exact fun i h1 h2 => (by first | rfl | trivial)
    | assumption
    | exact al_up (Int.le_refl _) (by assumption)
    | exact al_up (Int.le_refl _) (fun i h1 h2 => rfl)
    | exact al_tr (by assumption) (by assumption))
def w_xf_swear_1_0 : VC := (([(0, 23), (0, 49), (1, 8), (0, 10), (0, 8), (0, 6), (0, 6), (0, 8), (0, 9), (0, 49), (0, 49), ((-2147483648), 2147483647), ((-2147483648), 2147483647), (0, 5), (0, 7), (0, 23), ((-1), (-1)), (1, 9), (0, 49), (0, 49), ((-2147483648), 2147483647), ((-2147483648), 2147483647), (0, 49), (0, 49), (0, 99), (0, 9), (0, 0)]), [(2, [(none, 0), (some 3, 1)], []), (1, [(none, 1), (none, 0)], []), (0, [(some 26, 0), (none, 0)], []), (5, [(some 26, 0), (some 24, 0), (some 25, 0)], []), (20, [(some 25, 0), (some 14, 0)], [8]), (20, [(some 24, 0), (some 14, 0)], [73]), (148, [(some 15, 0), (some 2, 0), (some 3, 1), (some 4, 0), (some 5, 0), (some 6, 0), (none, 0), (none, 0)], [7, 8, 67, 68, 69, 70, 15, 16, 19, 20, 21, 23, 24, 25, 73, 74, 75]), (21, [(some 3, 0), (none, (-1))], [70, 61]), (21, [(some 3, 0), (none, 0)], [69, 60]), (21, [(some 3, 0), (some 17, 0)], [68, 59]), (21, [(some 3, 0), (some 14, 0)], [67, 58]), (3, [(none, 10), (some 3, 0)], []), (0, [(some 16, 0), (none, (-1))], []), (3, [(none, 9), (some 17, 0)], []), (186, [(some 3, 0)], [58, 10]), (186, [(some 3, 0)], [59, 11]), (186, [(some 3, 0)], [60, 12]), (186, [(some 3, 0)], [61, 13])], (186, [(some 3, 0)], [67, 10]))
set_option maxRecDepth 20000 in
theorem v_xf_swear_1_0 {PT : PTy} (hp : HP19 PT) : vcOk PT w_xf_swear_1_0 := vc_of (fun ρ α hB hF => by
  obtain ⟨f0, f1, f2, f3, f4, f5, f6, f7, f8, f9, f10, f11, f12, f13, f14, f15, f16, f17, -⟩ := hF
  have e148 : PT 148 = P_yx := hp.1.1.1.1.1.1.1.1.2.2.1
  have e186 : PT 186 = P_al := hp.1.1.1.1.1.1.2.2.2.2.2.2.2.1
  simp only [hF0, hF1, hF2, hF3, hF5, hF20, hF21, hFp_148, hFp_186, e148, e186, P_yx, P_al, den_s, den_c, Int.add_zero, List.map_cons, List.map_nil] at f0 f1 f2 f3 f4 f5 f6 f7 f8 f9 f10 f11 f12 f13 f14 f15 f16 f17 ⊢
  have b2 : (1 : Int) ≤ ρ 2 ∧ ρ 2 ≤ 8 := hB 2 (1, 8) rfl
  have b3 : (0 : Int) ≤ ρ 3 ∧ ρ 3 ≤ 10 := hB 3 (0, 10) rfl
  have b4 : (0 : Int) ≤ ρ 4 ∧ ρ 4 ≤ 8 := hB 4 (0, 8) rfl
  have b5 : (0 : Int) ≤ ρ 5 ∧ ρ 5 ≤ 6 := hB 5 (0, 6) rfl
  have b6 : (0 : Int) ≤ ρ 6 ∧ ρ 6 ≤ 6 := hB 6 (0, 6) rfl
  have b14 : (0 : Int) ≤ ρ 14 ∧ ρ 14 ≤ 7 := hB 14 (0, 7) rfl
  have b15 : (0 : Int) ≤ ρ 15 ∧ ρ 15 ≤ 23 := hB 15 (0, 23) rfl
  have b16 : ((-1) : Int) ≤ ρ 16 ∧ ρ 16 ≤ (-1) := hB 16 ((-1), (-1)) rfl
  have b17 : (1 : Int) ≤ ρ 17 ∧ ρ 17 ≤ 9 := hB 17 (1, 9) rfl
  have b24 : (0 : Int) ≤ ρ 24 ∧ ρ 24 ≤ 99 := hB 24 (0, 99) rfl
  have b25 : (0 : Int) ≤ ρ 25 ∧ ρ 25 ≤ 9 := hB 25 (0, 9) rfl
  have b26 : (0 : Int) ≤ ρ 26 ∧ ρ 26 ≤ 0 := hB 26 (0, 0) rfl
  clear hB
  generalize ρ 2 = r2, ρ 3 = r3, ρ 4 = r4, ρ 5 = r5, ρ 6 = r6, ρ 14 = r14, ρ 15 = r15, ρ 16 = r16, ρ 17 = r17, ρ 24 = r24, ρ 25 = r25, ρ 26 = r26, α 7 = a7, α 8 = a8, α 10 = a10, α 11 = a11, α 12 = a12, α 13 = a13, α 15 = a15, α 16 = a16, α 19 = a19, α 20 = a20, α 21 = a21, α 23 = a23, α 24 = a24, α 25 = a25, α 58 = a58, α 59 = a59, α 60 = a60, α 61 = a61, α 67 = a67, α 68 = a68, α 69 = a69, α 70 = a70, α 73 = a73, α 74 = a74, α 75 = a75 at *
  subst f3
  subst f4
  subst f5
  subst f7
  subst f8
  subst f9
  subst f10
  subst_vars
  first
    | exact fun i h1 h2 => (by first | rfl | trivial)
    | assumption
    | exact al_up (Int.le_refl _) (by assumption)
    | exact al_up (Int.le_refl _) (fun i h1 h2 => rfl)
    | exact al_tr (by assumption) (by assumption))
def w_xf_swear_1_1 : VC := (([(0, 23), (0, 49), (1, 8), (0, 10), (0, 8), (0, 6), (0, 6), (0, 8), (0, 9), (0, 49), (0, 49), ((-2147483648), 2147483647), ((-2147483648), 2147483647), (0, 5), (0, 7), (0, 23), ((-1), (-1)), (1, 9), (0, 49), (0, 49), ((-2147483648), 2147483647), ((-2147483648), 2147483647), (0, 49), (0, 49), (0, 99), (0, 9), (0, 0)]), [(2, [(none, 0), (some 3, 1)], []), (1, [(none, 1), (none, 0)], []), (0, [(some 26, 0), (none, 0)], []), (5, [(some 26, 0), (some 24, 0), (some 25, 0)], []), (20, [(some 25, 0), (some 14, 0)], [8]), (20, [(some 24, 0), (some 14, 0)], [73]), (148, [(some 15, 0), (some 2, 0), (some 3, 1), (some 4, 0), (some 5, 0), (some 6, 0), (none, 0), (none, 0)], [7, 8, 67, 68, 69, 70, 15, 16, 19, 20, 21, 23, 24, 25, 73, 74, 75]), (21, [(some 3, 0), (none, (-1))], [70, 61]), (21, [(some 3, 0), (none, 0)], [69, 60]), (21, [(some 3, 0), (some 17, 0)], [68, 59]), (21, [(some 3, 0), (some 14, 0)], [67, 58]), (3, [(none, 10), (some 3, 0)], []), (0, [(some 16, 0), (none, (-1))], []), (3, [(none, 9), (some 17, 0)], []), (186, [(some 3, 0)], [58, 10]), (186, [(some 3, 0)], [59, 11]), (186, [(some 3, 0)], [60, 12]), (186, [(some 3, 0)], [61, 13])], (186, [(some 3, 0)], [68, 11]))
set_option maxRecDepth 20000 in
theorem v_xf_swear_1_1 {PT : PTy} (hp : HP19 PT) : vcOk PT w_xf_swear_1_1 := vc_of (fun ρ α hB hF => by
  obtain ⟨f0, f1, f2, f3, f4, f5, f6, f7, f8, f9, f10, f11, f12, f13, f14, f15, f16, f17, -⟩ := hF
  have e148 : PT 148 = P_yx := hp.1.1.1.1.1.1.1.1.2.2.1
  have e186 : PT 186 = P_al := hp.1.1.1.1.1.1.2.2.2.2.2.2.2.1
  simp only [hF0, hF1, hF2, hF3, hF5, hF20, hF21, hFp_148, hFp_186, e148, e186, P_yx, P_al, den_s, den_c, Int.add_zero, List.map_cons, List.map_nil] at f0 f1 f2 f3 f4 f5 f6 f7 f8 f9 f10 f11 f12 f13 f14 f15 f16 f17 ⊢
  have b2 : (1 : Int) ≤ ρ 2 ∧ ρ 2 ≤ 8 := hB 2 (1, 8) rfl
  have b3 : (0 : Int) ≤ ρ 3 ∧ ρ 3 ≤ 10 := hB 3 (0, 10) rfl
  have b4 : (0 : Int) ≤ ρ 4 ∧ ρ 4 ≤ 8 := hB 4 (0, 8) rfl
  have b5 : (0 : Int) ≤ ρ 5 ∧ ρ 5 ≤ 6 := hB 5 (0, 6) rfl
  have b6 : (0 : Int) ≤ ρ 6 ∧ ρ 6 ≤ 6 := hB 6 (0, 6) rfl
  have b14 : (0 : Int) ≤ ρ 14 ∧ ρ 14 ≤ 7 := hB 14 (0, 7) rfl
  have b15 : (0 : Int) ≤ ρ 15 ∧ ρ 15 ≤ 23 := hB 15 (0, 23) rfl
  have b16 : ((-1) : Int) ≤ ρ 16 ∧ ρ 16 ≤ (-1) := hB 16 ((-1), (-1)) rfl
  have b17 : (1 : Int) ≤ ρ 17 ∧ ρ 17 ≤ 9 := hB 17 (1, 9) rfl
  have b24 : (0 : Int) ≤ ρ 24 ∧ ρ 24 ≤ 99 := hB 24 (0, 99) rfl
  have b25 : (0 : Int) ≤ ρ 25 ∧ ρ 25 ≤ 9 := hB 25 (0, 9) rfl
  have b26 : (0 : Int) ≤ ρ 26 ∧ ρ 26 ≤ 0 := hB 26 (0, 0) rfl
  clear hB
  generalize ρ 2 = r2, ρ 3 = r3, ρ 4 = r4, ρ 5 = r5, ρ 6 = r6, ρ 14 = r14, ρ 15 = r15, ρ 16 = r16, ρ 17 = r17, ρ 24 = r24, ρ 25 = r25, ρ 26 = r26, α 7 = a7, α 8 = a8, α 10 = a10, α 11 = a11, α 12 = a12, α 13 = a13, α 15 = a15, α 16 = a16, α 19 = a19, α 20 = a20, α 21 = a21, α 23 = a23, α 24 = a24, α 25 = a25, α 58 = a58, α 59 = a59, α 60 = a60, α 61 = a61, α 67 = a67, α 68 = a68, α 69 = a69, α 70 = a70, α 73 = a73, α 74 = a74, α 75 = a75 at *
  subst f3
  subst f4
  subst f5
  subst f7
  subst f8
  subst f9
  subst f10
  subst_vars
  first
    | exact fun i h1 h2 => (by first | rfl | trivial)
    | assumption
    | exact al_up (Int.le_refl _) (by assumption)
    | exact al_up (Int.le_refl _) (fun i h1 h2 => rfl)
    | exact al_tr (by assumption) (by assumption))
def w_xf_swear_1_2 : VC := (([(0, 23), (0, 49), (1, 8), (0, 10), (0, 8), (0, 6), (0, 6), (0, 8), (0, 9), (0, 49), (0, 49), ((-2147483648), 2147483647), ((-2147483648), 2147483647), (0, 5), (0, 7), (0, 23), ((-1), (-1)), (1, 9), (0, 49), (0, 49), ((-2147483648), 2147483647), ((-2147483648), 2147483647), (0, 49), (0, 49), (0, 99), (0, 9), (0, 0)]), [(2, [(none, 0), (some 3, 1)], []), (1, [(none, 1), (none, 0)], []), (0, [(some 26, 0), (none, 0)], []), (5, [(some 26, 0), (some 24, 0), (some 25, 0)], []), (20, [(some 25, 0), (some 14, 0)], [8]), (20, [(some 24, 0), (some 14, 0)], [73]), (148, [(some 15, 0), (some 2, 0), (some 3, 1), (some 4, 0), (some 5, 0), (some 6, 0), (none, 0), (none, 0)], [7, 8, 67, 68, 69, 70, 15, 16, 19, 20, 21, 23, 24, 25, 73, 74, 75]), (21, [(some 3, 0), (none, (-1))], [70, 61]), (21, [(some 3, 0), (none, 0)], [69, 60]), (21, [(some 3, 0), (some 17, 0)], [68, 59]), (21, [(some 3, 0), (some 14, 0)], [67, 58]), (3, [(none, 10), (some 3, 0)], []), (0, [(some 16, 0), (none, (-1))], []), (3, [(none, 9), (some 17, 0)], []), (186, [(some 3, 0)], [58, 10]), (186, [(some 3, 0)], [59, 11]), (186, [(some 3, 0)], [60, 12]), (186, [(some 3, 0)], [61, 13])], (186, [(some 3, 0)], [69, 12]))
set_option maxRecDepth 20000 in
theorem v_xf_swear_1_2 {PT : PTy} (hp : HP19 PT) : vcOk PT w_xf_swear_1_2 := vc_of (fun ρ α hB hF => by
  obtain ⟨f0, f1, f2, f3, f4, f5, f6, f7, f8, f9, f10, f11, f12, f13, f14, f15, f16, f17, -⟩ := hF
  have e148 : PT 148 = P_yx := hp.1.1.1.1.1.1.1.1.2.2.1
  have e186 : PT 186 = P_al := hp.1.1.1.1.1.1.2.2.2.2.2.2.2.1
  simp only [hF0, hF1, hF2, hF3, hF5, hF20, hF21, hFp_148, hFp_186, e148, e186, P_yx, P_al, den_s, den_c, Int.add_zero, List.map_cons, List.map_nil] at f0 f1 f2 f3 f4 f5 f6 f7 f8 f9 f10 f11 f12 f13 f14 f15 f16 f17 ⊢
  have b2 : (1 : Int) ≤ ρ 2 ∧ ρ 2 ≤ 8 := hB 2 (1, 8) rfl
  have b3 : (0 : Int) ≤ ρ 3 ∧ ρ 3 ≤ 10 := hB 3 (0, 10) rfl
  have b4 : (0 : Int) ≤ ρ 4 ∧ ρ 4 ≤ 8 := hB 4 (0, 8) rfl
  have b5 : (0 : Int) ≤ ρ 5 ∧ ρ 5 ≤ 6 := hB 5 (0, 6) rfl
  have b6 : (0 : Int) ≤ ρ 6 ∧ ρ 6 ≤ 6 := hB 6 (0, 6) rfl
  have b14 : (0 : Int) ≤ ρ 14 ∧ ρ 14 ≤ 7 := hB 14 (0, 7) rfl
  have b15 : (0 : Int) ≤ ρ 15 ∧ ρ 15 ≤ 23 := hB 15 (0, 23) rfl
  have b16 : ((-1) : Int) ≤ ρ 16 ∧ ρ 16 ≤ (-1) := hB 16 ((-1), (-1)) rfl
  have b17 : (1 : Int) ≤ ρ 17 ∧ ρ 17 ≤ 9 := hB 17 (1, 9) rfl
  have b24 : (0 : Int) ≤ ρ 24 ∧ ρ 24 ≤ 99 := hB 24 (0, 99) rfl
  have b25 : (0 : Int) ≤ ρ 25 ∧ ρ 25 ≤ 9 := hB 25 (0, 9) rfl
  have b26 : (0 : Int) ≤ ρ 26 ∧ ρ 26 ≤ 0 := hB 26 (0, 0) rfl
  clear hB
  generalize ρ 2 = r2, ρ 3 = r3, ρ 4 = r4, ρ 5 = r5, ρ 6 = r6, ρ 14 = r14, ρ 15 = r15, ρ 16 = r16, ρ 17 = r17, ρ 24 = r24, ρ 25 = r25, ρ 26 = r26, α 7 = a7, α 8 = a8, α 10 = a10, α 11 = a11, α 12 = a12, α 13 = a13, α 15 = a15, α 16 = a16, α 19 = a19, α 20 = a20, α 21 = a21, α 23 = a23, α 24 = a24, α 25 = a25, α 58 = a58, α 59 = a59, α 60 = a60, α 61 = a61, α 67 = a67, α 68 = a68, α 69 = a69, α 70 = a70, α 73 = a73, α 74 = a74, α 75 = a75 at *
  subst f3
  subst f4
  subst f5
  subst f7
  subst f8
  subst f9
  subst f10
  subst_vars
  first
    | exact fun i h1 h2 => (by first | rfl | trivial)
    | assumption
    | exact al_up (Int.le_refl _) (by assumption)
    | exact al_up (Int.le_refl _) (fun i h1 h2 => rfl)
    | exact al_tr (by assumption) (by assumption))
def w_xf_swear_1_3 : VC := (([(0, 23), (0, 49), (1, 8), (0, 10), (0, 8), (0, 6), (0, 6), (0, 8), (0, 9), (0, 49), (0, 49), ((-2147483648), 2147483647), ((-2147483648), 2147483647), (0, 5), (0, 7), (0, 23), ((-1), (-1)), (1, 9), (0, 49), (0, 49), ((-2147483648), 2147483647), ((-2147483648), 2147483647), (0, 49), (0, 49), (0, 99), (0, 9), (0, 0)]), [(2, [(none, 0), (some 3, 1)], []), (1, [(none, 1), (none, 0)], []), (0, [(some 26, 0), (none, 0)], []), (5, [(some 26, 0), (some 24, 0), (some 25, 0)], []), (20, [(some 25, 0), (some 14, 0)], [8]), (20, [(some 24, 0), (some 14, 0)], [73]), (148, [(some 15, 0), (some 2, 0), (some 3, 1), (some 4, 0), (some 5, 0), (some 6, 0), (none, 0), (none, 0)], [7, 8, 67, 68, 69, 70, 15, 16, 19, 20, 21, 23, 24, 25, 73, 74, 75]), (21, [(some 3, 0), (none, (-1))], [70, 61]), (21, [(some 3, 0), (none, 0)], [69, 60]), (21, [(some 3, 0), (some 17, 0)], [68, 59]), (21, [(some 3, 0), (some 14, 0)], [67, 58]), (3, [(none, 10), (some 3, 0)], []), (0, [(some 16, 0), (none, (-1))], []), (3, [(none, 9), (some 17, 0)], []), (186, [(some 3, 0)], [58, 10]), (186, [(some 3, 0)], [59, 11]), (186, [(some 3, 0)], [60, 12]), (186, [(some 3, 0)], [61, 13])], (186, [(some 3, 0)], [70, 13]))
set_option maxRecDepth 20000 in
theorem v_xf_swear_1_3 {PT : PTy} (hp : HP19 PT) : vcOk PT w_xf_swear_1_3 := vc_of (fun ρ α hB hF => by
  obtain ⟨f0, f1, f2, f3, f4, f5, f6, f7, f8, f9, f10, f11, f12, f13, f14, f15, f16, f17, -⟩ := hF
  have e148 : PT 148 = P_yx := hp.1.1.1.1.1.1.1.1.2.2.1
  have e186 : PT 186 = P_al := hp.1.1.1.1.1.1.2.2.2.2.2.2.2.1
  simp only [hF0, hF1, hF2, hF3, hF5, hF20, hF21, hFp_148, hFp_186, e148, e186, P_yx, P_al, den_s, den_c, Int.add_zero, List.map_cons, List.map_nil] at f0 f1 f2 f3 f4 f5 f6 f7 f8 f9 f10 f11 f12 f13 f14 f15 f16 f17 ⊢
  have b2 : (1 : Int) ≤ ρ 2 ∧ ρ 2 ≤ 8 := hB 2 (1, 8) rfl
  have b3 : (0 : Int) ≤ ρ 3 ∧ ρ 3 ≤ 10 := hB 3 (0, 10) rfl
  have b4 : (0 : Int) ≤ ρ 4 ∧ ρ 4 ≤ 8 := hB 4 (0, 8) rfl
  have b5 : (0 : Int) ≤ ρ 5 ∧ ρ 5 ≤ 6 := hB 5 (0, 6) rfl
  have b6 : (0 : Int) ≤ ρ 6 ∧ ρ 6 ≤ 6 := hB 6 (0, 6) rfl
  have b14 : (0 : Int) ≤ ρ 14 ∧ ρ 14 ≤ 7 := hB 14 (0, 7) rfl
  have b15 : (0 : Int) ≤ ρ 15 ∧ ρ 15 ≤ 23 := hB 15 (0, 23) rfl
  have b16 : ((-1) : Int) ≤ ρ 16 ∧ ρ 16 ≤ (-1) := hB 16 ((-1), (-1)) rfl
  have b17 : (1 : Int) ≤ ρ 17 ∧ ρ 17 ≤ 9 := hB 17 (1, 9) rfl
  have b24 : (0 : Int) ≤ ρ 24 ∧ ρ 24 ≤ 99 := hB 24 (0, 99) rfl
  have b25 : (0 : Int) ≤ ρ 25 ∧ ρ 25 ≤ 9 := hB 25 (0, 9) rfl
  have b26 : (0 : Int) ≤ ρ 26 ∧ ρ 26 ≤ 0 := hB 26 (0, 0) rfl
  clear hB
  generalize ρ 2 = r2, ρ 3 = r3, ρ 4 = r4, ρ 5 = r5, ρ 6 = r6, ρ 14 = r14, ρ 15 = r15, ρ 16 = r16, ρ 17 = r17, ρ 24 = r24, ρ 25 = r25, ρ 26 = r26, α 7 = a7, α 8 = a8, α 10 = a10, α 11 = a11, α 12 = a12, α 13 = a13, α 15 = a15, α 16 = a16, α 19 = a19, α 20 = a20, α 21 = a21, α 23 = a23, α 24 = a24, α 25 = a25, α 58 = a58, α 59 = a59, α 60 = a60, α 61 = a61, α 67 = a67, α 68 = a68, α 69 = a69, α 70 = a70, α 73 = a73, α 74 = a74, α 75 = a75 at *
  subst f3
  subst f4
  subst f5
  subst f7
  subst f8
  subst f9
  subst f10
  subst_vars
  first
    | exact fun i h1 h2 => (by first | rfl | trivial)
    | assumption
    | exact al_up (Int.le_refl _) (by assumption)
    | exact al_up (Int.le_refl _) (fun i h1 h2 => rfl)
    | exact al_tr (by assumption) (by assumption))
def w_xf_swear_1_4 : VC := (([(0, 23), (0, 49), (1, 8), (0, 10), (0, 8), (0, 6), (0, 6), (0, 8), (0, 9), (0, 49), (0, 49), ((-2147483648), 2147483647), ((-2147483648), 2147483647), (0, 5), (0, 7), (0, 23), ((-1), (-1)), (1, 9), (0, 49), (0, 49), ((-2147483648), 2147483647), ((-2147483648), 2147483647), (0, 49), (0, 49), (0, 99), (0, 9), ((-9), 99)]), [(2, [(none, 0), (some 3, 1)], []), (0, [(none, 0), (none, 0)], []), (1, [(some 26, 0), (none, 1)], []), (1, [(some 26, 0), (none, 0)], []), (5, [(some 26, 0), (some 24, 0), (some 25, 0)], []), (20, [(some 25, 0), (some 14, 0)], [8]), (20, [(some 24, 0), (some 14, 0)], [73]), (148, [(some 15, 0), (some 2, 0), (some 3, 1), (some 4, 0), (some 5, 0), (some 6, 0), (none, 0), (none, 0)], [7, 8, 67, 68, 69, 70, 15, 16, 19, 20, 21, 23, 24, 25, 73, 74, 75]), (21, [(some 3, 0), (none, (-1))], [70, 61]), (21, [(some 3, 0), (none, 0)], [69, 60]), (21, [(some 3, 0), (some 17, 0)], [68, 59]), (21, [(some 3, 0), (some 14, 0)], [67, 58]), (3, [(none, 10), (some 3, 0)], []), (0, [(some 16, 0), (none, (-1))], []), (3, [(none, 9), (some 17, 0)], []), (186, [(some 3, 0)], [58, 10]), (186, [(some 3, 0)], [59, 11]), (186, [(some 3, 0)], [60, 12]), (186, [(some 3, 0)], [61, 13])], (186, [(some 3, 0)], [67, 10]))
set_option maxRecDepth 20000 in
theorem v_xf_swear_1_4 {PT : PTy} (hp : HP19 PT) : vcOk PT w_xf_swear_1_4 := vc_of (fun ρ α hB hF => by
  obtain ⟨f0, f1, f2, f3, f4, f5, f6, f7, f8, f9, f10, f11, f12, f13, f14, f15, f16, f17, f18, -⟩ := hF
  have e148 : PT 148 = P_yx := hp.1.1.1.1.1.1.1.1.2.2.1
  have e186 : PT 186 = P_al := hp.1.1.1.1.1.1.2.2.2.2.2.2.2.1
  simp only [hF0, hF1, hF2, hF3, hF5, hF20, hF21, hFp_148, hFp_186, e148, e186, P_yx, P_al, den_s, den_c, Int.add_zero, List.map_cons, List.map_nil] at f0 f1 f2 f3 f4 f5 f6 f7 f8 f9 f10 f11 f12 f13 f14 f15 f16 f17 f18 ⊢
  have b2 : (1 : Int) ≤ ρ 2 ∧ ρ 2 ≤ 8 := hB 2 (1, 8) rfl
  have b3 : (0 : Int) ≤ ρ 3 ∧ ρ 3 ≤ 10 := hB 3 (0, 10) rfl
  have b4 : (0 : Int) ≤ ρ 4 ∧ ρ 4 ≤ 8 := hB 4 (0, 8) rfl
  have b5 : (0 : Int) ≤ ρ 5 ∧ ρ 5 ≤ 6 := hB 5 (0, 6) rfl
  have b6 : (0 : Int) ≤ ρ 6 ∧ ρ 6 ≤ 6 := hB 6 (0, 6) rfl
  have b14 : (0 : Int) ≤ ρ 14 ∧ ρ 14 ≤ 7 := hB 14 (0, 7) rfl
  have b15 : (0 : Int) ≤ ρ 15 ∧ ρ 15 ≤ 23 := hB 15 (0, 23) rfl
  have b16 : ((-1) : Int) ≤ ρ 16 ∧ ρ 16 ≤ (-1) := hB 16 ((-1), (-1)) rfl
  have b17 : (1 : Int) ≤ ρ 17 ∧ ρ 17 ≤ 9 := hB 17 (1, 9) rfl
  have b24 : (0 : Int) ≤ ρ 24 ∧ ρ 24 ≤ 99 := hB 24 (0, 99) rfl
  have b25 : (0 : Int) ≤ ρ 25 ∧ ρ 25 ≤ 9 := hB 25 (0, 9) rfl
  have b26 : ((-9) : Int) ≤ ρ 26 ∧ ρ 26 ≤ 99 := hB 26 ((-9), 99) rfl
  clear hB
  generalize ρ 2 = r2, ρ 3 = r3, ρ 4 = r4, ρ 5 = r5, ρ 6 = r6, ρ 14 = r14, ρ 15 = r15, ρ 16 = r16, ρ 17 = r17, ρ 24 = r24, ρ 25 = r25, ρ 26 = r26, α 7 = a7, α 8 = a8, α 10 = a10, α 11 = a11, α 12 = a12, α 13 = a13, α 15 = a15, α 16 = a16, α 19 = a19, α 20 = a20, α 21 = a21, α 23 = a23, α 24 = a24, α 25 = a25, α 58 = a58, α 59 = a59, α 60 = a60, α 61 = a61, α 67 = a67, α 68 = a68, α 69 = a69, α 70 = a70, α 73 = a73, α 74 = a74, α 75 = a75 at *
  subst f4
  subst f5
  subst f6
  subst f8
  subst f9
  subst f10
  subst f11
  subst_vars
  first
    | exact fun i h1 h2 => (by first | rfl | trivial)
    | assumption
    | exact al_up (Int.le_refl _) (by assumption)
    | exact al_up (Int.le_refl _) (fun i h1 h2 => rfl)
    | exact al_tr (by assumption) (by assumption))
def w_xf_swear_1_5 : VC := (([(0, 23), (0, 49), (1, 8), (0, 10), (0, 8), (0, 6), (0, 6), (0, 8), (0, 9), (0, 49), (0, 49), ((-2147483648), 2147483647), ((-2147483648), 2147483647), (0, 5), (0, 7), (0, 23), ((-1), (-1)), (1, 9), (0, 49), (0, 49), ((-2147483648), 2147483647), ((-2147483648), 2147483647), (0, 49), (0, 49), (0, 99), (0, 9), ((-9), 99)]), [(2, [(none, 0), (some 3, 1)], []), (0, [(none, 0), (none, 0)], []), (1, [(some 26, 0), (none, 1)], []), (1, [(some 26, 0), (none, 0)], []), (5, [(some 26, 0), (some 24, 0), (some 25, 0)], []), (20, [(some 25, 0), (some 14, 0)], [8]), (20, [(some 24, 0), (some 14, 0)], [73]), (148, [(some 15, 0), (some 2, 0), (some 3, 1), (some 4, 0), (some 5, 0), (some 6, 0), (none, 0), (none, 0)], [7, 8, 67, 68, 69, 70, 15, 16, 19, 20, 21, 23, 24, 25, 73, 74, 75]), (21, [(some 3, 0), (none, (-1))], [70, 61]), (21, [(some 3, 0), (none, 0)], [69, 60]), (21, [(some 3, 0), (some 17, 0)], [68, 59]), (21, [(some 3, 0), (some 14, 0)], [67, 58]), (3, [(none, 10), (some 3, 0)], []), (0, [(some 16, 0), (none, (-1))], []), (3, [(none, 9), (some 17, 0)], []), (186, [(some 3, 0)], [58, 10]), (186, [(some 3, 0)], [59, 11]), (186, [(some 3, 0)], [60, 12]), (186, [(some 3, 0)], [61, 13])], (186, [(some 3, 0)], [68, 11]))
set_option maxRecDepth 20000 in
theorem v_xf_swear_1_5 {PT : PTy} (hp : HP19 PT) : vcOk PT w_xf_swear_1_5 := vc_of (fun ρ α hB hF => by
  obtain ⟨f0, f1, f2, f3, f4, f5, f6, f7, f8, f9, f10, f11, f12, f13, f14, f15, f16, f17, f18, -⟩ := hF
  have e148 : PT 148 = P_yx := hp.1.1.1.1.1.1.1.1.2.2.1
  have e186 : PT 186 = P_al := hp.1.1.1.1.1.1.2.2.2.2.2.2.2.1
  simp only [hF0, hF1, hF2, hF3, hF5, hF20, hF21, hFp_148, hFp_186, e148, e186, P_yx, P_al, den_s, den_c, Int.add_zero, List.map_cons, List.map_nil] at f0 f1 f2 f3 f4 f5 f6 f7 f8 f9 f10 f11 f12 f13 f14 f15 f16 f17 f18 ⊢
  have b2 : (1 : Int) ≤ ρ 2 ∧ ρ 2 ≤ 8 := hB 2 (1, 8) rfl
  have b3 : (0 : Int) ≤ ρ 3 ∧ ρ 3 ≤ 10 := hB 3 (0, 10) rfl
  have b4 : (0 : Int) ≤ ρ 4 ∧ ρ 4 ≤ 8 := hB 4 (0, 8) rfl
  have b5 : (0 : Int) ≤ ρ 5 ∧ ρ 5 ≤ 6 := hB 5 (0, 6) rfl
  have b6 : (0 : Int) ≤ ρ 6 ∧ ρ 6 ≤ 6 := hB 6 (0, 6) rfl
  have b14 : (0 : Int) ≤ ρ 14 ∧ ρ 14 ≤ 7 := hB 14 (0, 7) rfl
  have b15 : (0 : Int) ≤ ρ 15 ∧ ρ 15 ≤ 23 := hB 15 (0, 23) rfl
  have b16 : ((-1) : Int) ≤ ρ 16 ∧ ρ 16 ≤ (-1) := hB 16 ((-1), (-1)) rfl
  have b17 : (1 : Int) ≤ ρ 17 ∧ ρ 17 ≤ 9 := hB 17 (1, 9) rfl
  have b24 : (0 : Int) ≤ ρ 24 ∧ ρ 24 ≤ 99 := hB 24 (0, 99) rfl
  have b25 : (0 : Int) ≤ ρ 25 ∧ ρ 25 ≤ 9 := hB 25 (0, 9) rfl
  have b26 : ((-9) : Int) ≤ ρ 26 ∧ ρ 26 ≤ 99 := hB 26 ((-9), 99) rfl
  clear hB
  generalize ρ 2 = r2, ρ 3 = r3, ρ 4 = r4, ρ 5 = r5, ρ 6 = r6, ρ 14 = r14, ρ 15 = r15, ρ 16 = r16, ρ 17 = r17, ρ 24 = r24, ρ 25 = r25, ρ 26 = r26, α 7 = a7, α 8 = a8, α 10 = a10, α 11 = a11, α 12 = a12, α 13 = a13, α 15 = a15, α 16 = a16, α 19 = a19, α 20 = a20, α 21 = a21, α 23 = a23, α 24 = a24, α 25 = a25, α 58 = a58, α 59 = a59, α 60 = a60, α 61 = a61, α 67 = a67, α 68 = a68, α 69 = a69, α 70 = a70, α 73 = a73, α 74 = a74, α 75 = a75 at *
  subst f4
  subst f5
  subst f6
  subst f8
  subst f9
  subst f10
  subst f11
  subst_vars
  first
    | exact fun i h1 h2 => (by first | rfl | trivial)
    | assumption
    | exact al_up (Int.le_refl _) (by assumption)
    | exact al_up (Int.le_refl _) (fun i h1 h2 => rfl)
    | exact al_tr (by assumption) (by assumption))
def w_xf_swear_1_6 : VC := (([(0, 23), (0, 49), (1, 8), (0, 10), (0, 8), (0, 6), (0, 6), (0, 8), (0, 9), (0, 49), (0, 49), ((-2147483648), 2147483647), ((-2147483648), 2147483647), (0, 5), (0, 7), (0, 23), ((-1), (-1)), (1, 9), (0, 49), (0, 49), ((-2147483648), 2147483647), ((-2147483648), 2147483647), (0, 49), (0, 49), (0, 99), (0, 9), ((-9), 99)]), [(2, [(none, 0), (some 3, 1)], []), (0, [(none, 0), (none, 0)], []), (1, [(some 26, 0), (none, 1)], []), (1, [(some 26, 0), (none, 0)], []), (5, [(some 26, 0), (some 24, 0), (some 25, 0)], []), (20, [(some 25, 0), (some 14, 0)], [8]), (20, [(some 24, 0), (some 14, 0)], [73]), (148, [(some 15, 0), (some 2, 0), (some 3, 1), (some 4, 0), (some 5, 0), (some 6, 0), (none, 0), (none, 0)], [7, 8, 67, 68, 69, 70, 15, 16, 19, 20, 21, 23, 24, 25, 73, 74, 75]), (21, [(some 3, 0), (none, (-1))], [70, 61]), (21, [(some 3, 0), (none, 0)], [69, 60]), (21, [(some 3, 0), (some 17, 0)], [68, 59]), (21, [(some 3, 0), (some 14, 0)], [67, 58]), (3, [(none, 10), (some 3, 0)], []), (0, [(some 16, 0), (none, (-1))], []), (3, [(none, 9), (some 17, 0)], []), (186, [(some 3, 0)], [58, 10]), (186, [(some 3, 0)], [59, 11]), (186, [(some 3, 0)], [60, 12]), (186, [(some 3, 0)], [61, 13])], (186, [(some 3, 0)], [69, 12]))
set_option maxRecDepth 20000 in
theorem v_xf_swear_1_6 {PT : PTy} (hp : HP19 PT) : vcOk PT w_xf_swear_1_6 := vc_of (fun ρ α hB hF => by
  obtain ⟨f0, f1, f2, f3, f4, f5, f6, f7, f8, f9, f10, f11, f12, f13, f14, f15, f16, f17, f18, -⟩ := hF
  have e148 : PT 148 = P_yx := hp.1.1.1.1.1.1.1.1.2.2.1
  have e186 : PT 186 = P_al := hp.1.1.1.1.1.1.2.2.2.2.2.2.2.1
  simp only [hF0, hF1, hF2, hF3, hF5, hF20, hF21, hFp_148, hFp_186, e148, e186, P_yx, P_al, den_s, den_c, Int.add_zero, List.map_cons, List.map_nil] at f0 f1 f2 f3 f4 f5 f6 f7 f8 f9 f10 f11 f12 f13 f14 f15 f16 f17 f18 ⊢
  have b2 : (1 : Int) ≤ ρ 2 ∧ ρ 2 ≤ 8 := hB 2 (1, 8) rfl
  have b3 : (0 : Int) ≤ ρ 3 ∧ ρ 3 ≤ 10 := hB 3 (0, 10) rfl
  have b4 : (0 : Int) ≤ ρ 4 ∧ ρ 4 ≤ 8 := hB 4 (0, 8) rfl
  have b5 : (0 : Int) ≤ ρ 5 ∧ ρ 5 ≤ 6 := hB 5 (0, 6) rfl
  have b6 : (0 : Int) ≤ ρ 6 ∧ ρ 6 ≤ 6 := hB 6 (0, 6) rfl
  have b14 : (0 : Int) ≤ ρ 14 ∧ ρ 14 ≤ 7 := hB 14 (0, 7) rfl
  have b15 : (0 : Int) ≤ ρ 15 ∧ ρ 15 ≤ 23 := hB 15 (0, 23) rfl
  have b16 : ((-1) : Int) ≤ ρ 16 ∧ ρ 16 ≤ (-1) := hB 16 ((-1), (-1)) rfl
  have b17 : (1 : Int) ≤ ρ 17 ∧ ρ 17 ≤ 9 := hB 17 (1, 9) rfl
  have b24 : (0 : Int) ≤ ρ 24 ∧ ρ 24 ≤ 99 := hB 24 (0, 99) rfl
  have b25 : (0 : Int) ≤ ρ 25 ∧ ρ 25 ≤ 9 := hB 25 (0, 9) rfl
  have b26 : ((-9) : Int) ≤ ρ 26 ∧ ρ 26 ≤ 99 := hB 26 ((-9), 99) rfl
  clear hB
  generalize ρ 2 = r2, ρ 3 = r3, ρ 4 = r4, ρ 5 = r5, ρ 6 = r6, ρ 14 = r14, ρ 15 = r15, ρ 16 = r16, ρ 17 = r17, ρ 24 = r24, ρ 25 = r25, ρ 26 = r26, α 7 = a7, α 8 = a8, α 10 = a10, α 11 = a11, α 12 = a12, α 13 = a13, α 15 = a15, α 16 = a16, α 19 = a19, α 20 = a20, α 21 = a21, α 23 = a23, α 24 = a24, α 25 = a25, α 58 = a58, α 59 = a59, α 60 = a60, α 61 = a61, α 67 = a67, α 68 = a68, α 69 = a69, α 70 = a70, α 73 = a73, α 74 = a74, α 75 = a75 at *
  subst f4
  subst f5
  subst f6
  subst f8
  subst f9
  subst f10
  subst f11
  subst_vars
  first
    | exact fun i h1 h2 => (by first | rfl | trivial)
    | assumption
    | exact al_up (Int.le_refl _) (by assumption)
    | exact al_up (Int.le_refl _) (fun i h1 h2 => rfl)
    | exact al_tr (by assumption) (by assumption))
def w_xf_swear_1_7 : VC := (([(0, 23), (0, 49), (1, 8), (0, 10), (0, 8), (0, 6), (0, 6), (0, 8), (0, 9), (0, 49), (0, 49), ((-2147483648), 2147483647), ((-2147483648), 2147483647), (0, 5), (0, 7), (0, 23), ((-1), (-1)), (1, 9), (0, 49), (0, 49), ((-2147483648), 2147483647), ((-2147483648), 2147483647), (0, 49), (0, 49), (0, 99), (0, 9), ((-9), 99)]), [(2, [(none, 0), (some 3, 1)], []), (0, [(none, 0), (none, 0)], []), (1, [(some 26, 0), (none, 1)], []), (1, [(some 26, 0), (none, 0)], []), (5, [(some 26, 0), (some 24, 0), (some 25, 0)], []), (20, [(some 25, 0), (some 14, 0)], [8]), (20, [(some 24, 0), (some 14, 0)], [73]), (148, [(some 15, 0), (some 2, 0), (some 3, 1), (some 4, 0), (some 5, 0), (some 6, 0), (none, 0), (none, 0)], [7, 8, 67, 68, 69, 70, 15, 16, 19, 20, 21, 23, 24, 25, 73, 74, 75]), (21, [(some 3, 0), (none, (-1))], [70, 61]), (21, [(some 3, 0), (none, 0)], [69, 60]), (21, [(some 3, 0), (some 17, 0)], [68, 59]), (21, [(some 3, 0), (some 14, 0)], [67, 58]), (3, [(none, 10), (some 3, 0)], []), (0, [(some 16, 0), (none, (-1))], []), (3, [(none, 9), (some 17, 0)], []), (186, [(some 3, 0)], [58, 10]), (186, [(some 3, 0)], [59, 11]), (186, [(some 3, 0)], [60, 12]), (186, [(some 3, 0)], [61, 13])], (186, [(some 3, 0)], [70, 13]))
set_option maxRecDepth 20000 in
theorem v_xf_swear_1_7 {PT : PTy} (hp : HP19 PT) : vcOk PT w_xf_swear_1_7 := vc_of (fun ρ α hB hF => by
  obtain ⟨f0, f1, f2, f3, f4, f5, f6, f7, f8, f9, f10, f11, f12, f13, f14, f15, f16, f17, f18, -⟩ := hF
  have e148 : PT 148 = P_yx := hp.1.1.1.1.1.1.1.1.2.2.1
  have e186 : PT 186 = P_al := hp.1.1.1.1.1.1.2.2.2.2.2.2.2.1
  simp only [hF0, hF1, hF2, hF3, hF5, hF20, hF21, hFp_148, hFp_186, e148, e186, P_yx, P_al, den_s, den_c, Int.add_zero, List.map_cons, List.map_nil] at f0 f1 f2 f3 f4 f5 f6 f7 f8 f9 f10 f11 f12 f13 f14 f15 f16 f17 f18 ⊢
  have b2 : (1 : Int) ≤ ρ 2 ∧ ρ 2 ≤ 8 := hB 2 (1, 8) rfl
  have b3 : (0 : Int) ≤ ρ 3 ∧ ρ 3 ≤ 10 := hB 3 (0, 10) rfl
  have b4 : (0 : Int) ≤ ρ 4 ∧ ρ 4 ≤ 8 := hB 4 (0, 8) rfl
  have b5 : (0 : Int) ≤ ρ 5 ∧ ρ 5 ≤ 6 := hB 5 (0, 6) rfl
  have b6 : (0 : Int) ≤ ρ 6 ∧ ρ 6 ≤ 6 := hB 6 (0, 6) rfl
  have b14 : (0 : Int) ≤ ρ 14 ∧ ρ 14 ≤ 7 := hB 14 (0, 7) rfl
  have b15 : (0 : Int) ≤ ρ 15 ∧ ρ 15 ≤ 23 := hB 15 (0, 23) rfl
  have b16 : ((-1) : Int) ≤ ρ 16 ∧ ρ 16 ≤ (-1) := hB 16 ((-1), (-1)) rfl
  have b17 : (1 : Int) ≤ ρ 17 ∧ ρ 17 ≤ 9 := hB 17 (1, 9) rfl
  have b24 : (0 : Int) ≤ ρ 24 ∧ ρ 24 ≤ 99 := hB 24 (0, 99) rfl
  have b25 : (0 : Int) ≤ ρ 25 ∧ ρ 25 ≤ 9 := hB 25 (0, 9) rfl
  have b26 : ((-9) : Int) ≤ ρ 26 ∧ ρ 26 ≤ 99 := hB 26 ((-9), 99) rfl
  clear hB
  generalize ρ 2 = r2, ρ 3 = r3, ρ 4 = r4, ρ 5 = r5, ρ 6 = r6, ρ 14 = r14, ρ 15 = r15, ρ 16 = r16, ρ 17 = r17, ρ 24 = r24, ρ 25 = r25, ρ 26 = r26, α 7 = a7, α 8 = a8, α 10 = a10, α 11 = a11, α 12 = a12, α 13 = a13, α 15 = a15, α 16 = a16, α 19 = a19, α 20 = a20, α 21 = a21, α 23 = a23, α 24 = a24, α 25 = a25, α 58 = a58, α 59 = a59, α 60 = a60, α 61 = a61, α 67 = a67, α 68 = a68, α 69 = a69, α 70 = a70, α 73 = a73, α 74 = a74, α 75 = a75 at *
  subst f4
  subst f5
  subst f6
  subst f8
  subst f9
  subst f10
  subst f11
  subst_vars
  first
    | exact fun i h1 h2 => (by first | rfl | trivial)
    | assumption
    | exact al_up (Int.le_refl _) (by assumption)
    | exact al_up (Int.le_refl _) (fun i h1 h2 => rfl)
    | exact al_tr (by assumption) (by assumption))
def w_xf_swear_1_8 : VC := (([(0, 23), (0, 49), (1, 8), (0, 10), (0, 8), (0, 6), (0, 6), (0, 8), (0, 9), (0, 49), (0, 49), ((-2147483648), 2147483647), ((-2147483648), 2147483647), (0, 5), (0, 7), (0, 23), ((-1), (-1)), (1, 9), (0, 49), (0, 49), ((-2147483648), 2147483647), ((-2147483648), 2147483647), (0, 49), (0, 49), (0, 99), (0, 9), (1, 1)]), [(2, [(none, 0), (some 3, 1)], []), (1, [(none, 1), (none, 0)], []), (0, [(some 26, 0), (none, 1)], []), (1, [(some 26, 0), (none, 0)], []), (5, [(some 26, 0), (some 24, 0), (some 25, 0)], []), (20, [(some 25, 0), (some 14, 0)], [8]), (20, [(some 24, 0), (some 14, 0)], [73]), (148, [(some 15, 0), (some 2, 0), (some 3, 1), (some 4, 0), (some 5, 0), (some 6, 0), (none, 0), (none, 0)], [7, 8, 67, 68, 69, 70, 15, 16, 19, 20, 21, 23, 24, 25, 73, 74, 75]), (21, [(some 3, 0), (none, (-1))], [70, 61]), (21, [(some 3, 0), (none, 0)], [69, 60]), (21, [(some 3, 0), (some 17, 0)], [68, 59]), (21, [(some 3, 0), (some 14, 0)], [67, 58]), (3, [(none, 10), (some 3, 0)], []), (0, [(some 16, 0), (none, (-1))], []), (3, [(none, 9), (some 17, 0)], []), (186, [(some 3, 0)], [58, 10]), (186, [(some 3, 0)], [59, 11]), (186, [(some 3, 0)], [60, 12]), (186, [(some 3, 0)], [61, 13])], (186, [(some 3, 0)], [67, 10]))
set_option maxRecDepth 20000 in
theorem v_xf_swear_1_8 {PT : PTy} (hp : HP19 PT) : vcOk PT w_xf_swear_1_8 := vc_of (fun ρ α hB hF => by
  obtain ⟨f0, f1, f2, f3, f4, f5, f6, f7, f8, f9, f10, f11, f12, f13, f14, f15, f16, f17, f18, -⟩ := hF
  have e148 : PT 148 = P_yx := hp.1.1.1.1.1.1.1.1.2.2.1
  have e186 : PT 186 = P_al := hp.1.1.1.1.1.1.2.2.2.2.2.2.2.1
  simp only [hF0, hF1, hF2, hF3, hF5, hF20, hF21, hFp_148, hFp_186, e148, e186, P_yx, P_al, den_s, den_c, Int.add_zero, List.map_cons, List.map_nil] at f0 f1 f2 f3 f4 f5 f6 f7 f8 f9 f10 f11 f12 f13 f14 f15 f16 f17 f18 ⊢
  have b2 : (1 : Int) ≤ ρ 2 ∧ ρ 2 ≤ 8 := hB 2 (1, 8) rfl
  have b3 : (0 : Int) ≤ ρ 3 ∧ ρ 3 ≤ 10 := hB 3 (0, 10) rfl
  have b4 : (0 : Int) ≤ ρ 4 ∧ ρ 4 ≤ 8 := hB 4 (0, 8) rfl
  have b5 : (0 : Int) ≤ ρ 5 ∧ ρ 5 ≤ 6 := hB 5 (0, 6) rfl
  have b6 : (0 : Int) ≤ ρ 6 ∧ ρ 6 ≤ 6 := hB 6 (0, 6) rfl
  have b14 : (0 : Int) ≤ ρ 14 ∧ ρ 14 ≤ 7 := hB 14 (0, 7) rfl
  have b15 : (0 : Int) ≤ ρ 15 ∧ ρ 15 ≤ 23 := hB 15 (0, 23) rfl
  have b16 : ((-1) : Int) ≤ ρ 16 ∧ ρ 16 ≤ (-1) := hB 16 ((-1), (-1)) rfl
  have b17 : (1 : Int) ≤ ρ 17 ∧ ρ 17 ≤ 9 := hB 17 (1, 9) rfl
  have b24 : (0 : Int) ≤ ρ 24 ∧ ρ 24 ≤ 99 := hB 24 (0, 99) rfl
  have b25 : (0 : Int) ≤ ρ 25 ∧ ρ 25 ≤ 9 := hB 25 (0, 9) rfl
  have b26 : (1 : Int) ≤ ρ 26 ∧ ρ 26 ≤ 1 := hB 26 (1, 1) rfl
  clear hB
  generalize ρ 2 = r2, ρ 3 = r3, ρ 4 = r4, ρ 5 = r5, ρ 6 = r6, ρ 14 = r14, ρ 15 = r15, ρ 16 = r16, ρ 17 = r17, ρ 24 = r24, ρ 25 = r25, ρ 26 = r26, α 7 = a7, α 8 = a8, α 10 = a10, α 11 = a11, α 12 = a12, α 13 = a13, α 15 = a15, α 16 = a16, α 19 = a19, α 20 = a20, α 21 = a21, α 23 = a23, α 24 = a24, α 25 = a25, α 58 = a58, α 59 = a59, α 60 = a60, α 61 = a61, α 67 = a67, α 68 = a68, α 69 = a69, α 70 = a70, α 73 = a73, α 74 = a74, α 75 = a75 at *
  subst f4
  subst f5
  subst f6
  subst f8
  subst f9
  subst f10
  subst f11
  subst_vars
  first
    | exact fun i h1 h2 => (by first | rfl | trivial)
    | assumption
    | exact al_up (Int.le_refl _) (by assumption)
    | exact al_up (Int.le_refl _) (fun i h1 h2 => rfl)
    | exact al_tr (by assumption) (by assumption))
def w_xf_swear_1_9 : VC := (([(0, 23), (0, 49), (1, 8), (0, 10), (0, 8), (0, 6), (0, 6), (0, 8), (0, 9), (0, 49), (0, 49), ((-2147483648), 2147483647), ((-2147483648), 2147483647), (0, 5), (0, 7), (0, 23), ((-1), (-1)), (1, 9), (0, 49), (0, 49), ((-2147483648), 2147483647), ((-2147483648), 2147483647), (0, 49), (0, 49), (0, 99), (0, 9), (1, 1)]), [(2, [(none, 0), (some 3, 1)], []), (1, [(none, 1), (none, 0)], []), (0, [(some 26, 0), (none, 1)], []), (1, [(some 26, 0), (none, 0)], []), (5, [(some 26, 0), (some 24, 0), (some 25, 0)], []), (20, [(some 25, 0), (some 14, 0)], [8]), (20, [(some 24, 0), (some 14, 0)], [73]), (148, [(some 15, 0), (some 2, 0), (some 3, 1), (some 4, 0), (some 5, 0), (some 6, 0), (none, 0), (none, 0)], [7, 8, 67, 68, 69, 70, 15, 16, 19, 20, 21, 23, 24, 25, 73, 74, 75]), (21, [(some 3, 0), (none, (-1))], [70, 61]), (21, [(some 3, 0), (none, 0)], [69, 60]), (21, [(some 3, 0), (some 17, 0)], [68, 59]), (21, [(some 3, 0), (some 14, 0)], [67, 58]), (3, [(none, 10), (some 3, 0)], []), (0, [(some 16, 0), (none, (-1))], []), (3, [(none, 9), (some 17, 0)], []), (186, [(some 3, 0)], [58, 10]), (186, [(some 3, 0)], [59, 11]), (186, [(some 3, 0)], [60, 12]), (186, [(some 3, 0)], [61, 13])], (186, [(some 3, 0)], [68, 11]))
set_option maxRecDepth 20000 in
theorem v_xf_swear_1_9 {PT : PTy} (hp : HP19 PT) : vcOk PT w_xf_swear_1_9 := vc_of (fun ρ α hB hF => by
  obtain ⟨f0, f1, f2, f3, f4, f5, f6, f7, f8, f9, f10, f11, f12, f13, f14, f15, f16, f17, f18, -⟩ := hF
  have e148 : PT 148 = P_yx := hp.1.1.1.1.1.1.1.1.2.2.1
  have e186 : PT 186 = P_al := hp.1.1.1.1.1.1.2.2.2.2.2.2.2.1
  simp only [hF0, hF1, hF2, hF3, hF5, hF20, hF21, hFp_148, hFp_186, e148, e186, P_yx, P_al, den_s, den_c, Int.add_zero, List.map_cons, List.map_nil] at f0 f1 f2 f3 f4 f5 f6 f7 f8 f9 f10 f11 f12 f13 f14 f15 f16 f17 f18 ⊢
  have b2 : (1 : Int) ≤ ρ 2 ∧ ρ 2 ≤ 8 := hB 2 (1, 8) rfl
  have b3 : (0 : Int) ≤ ρ 3 ∧ ρ 3 ≤ 10 := hB 3 (0, 10) rfl
  have b4 : (0 : Int) ≤ ρ 4 ∧ ρ 4 ≤ 8 := hB 4 (0, 8) rfl
  have b5 : (0 : Int) ≤ ρ 5 ∧ ρ 5 ≤ 6 := hB 5 (0, 6) rfl
  have b6 : (0 : Int) ≤ ρ 6 ∧ ρ 6 ≤ 6 := hB 6 (0, 6) rfl
  have b14 : (0 : Int) ≤ ρ 14 ∧ ρ 14 ≤ 7 := hB 14 (0, 7) rfl
  have b15 : (0 : Int) ≤ ρ 15 ∧ ρ 15 ≤ 23 := hB 15 (0, 23) rfl
  have b16 : ((-1) : Int) ≤ ρ 16 ∧ ρ 16 ≤ (-1) := hB 16 ((-1), (-1)) rfl
  have b17 : (1 : Int) ≤ ρ 17 ∧ ρ 17 ≤ 9 := hB 17 (1, 9) rfl
  have b24 : (0 : Int) ≤ ρ 24 ∧ ρ 24 ≤ 99 := hB 24 (0, 99) rfl
  have b25 : (0 : Int) ≤ ρ 25 ∧ ρ 25 ≤ 9 := hB 25 (0, 9) rfl
  have b26 : (1 : Int) ≤ ρ 26 ∧ ρ 26 ≤ 1 := hB 26 (1, 1) rfl
  clear hB
  generalize ρ 2 = r2, ρ 3 = r3, ρ 4 = r4, ρ 5 = r5, ρ 6 = r6, ρ 14 = r14, ρ 15 = r15, ρ 16 = r16, ρ 17 = r17, ρ 24 = r24, ρ 25 = r25, ρ 26 = r26, α 7 = a7, α 8 = a8, α 10 = a10, α 11 = a11, α 12 = a12, α 13 = a13, α 15 = a15, α 16 = a16, α 19 = a19, α 20 = a20, α 21 = a21, α 23 = a23, α 24 = a24, α 25 = a25, α 58 = a58, α 59 = a59, α 60 = a60, α 61 = a61, α 67 = a67, α 68 = a68, α 69 = a69, α 70 = a70, α 73 = a73, α 74 = a74, α 75 = a75 at *
  subst f4
  subst f5
  subst f6
  subst f8
  subst f9
  subst f10
  subst f11
  subst_vars
  first
    | exact fun i h1 h2 => (by first | rfl | trivial)
    | assumption
    | exact al_up (Int.le_refl _) (by assumption)
    | exact al_up (Int.le_refl _) (fun i h1 h2 => rfl)
    | exact al_tr (by assumption) (by assumption))
def w_xf_swear_1_10 : VC := (([(0, 23), (0, 49), (1, 8), (0, 10), (0, 8), (0, 6), (0, 6), (0, 8), (0, 9), (0, 49), (0, 49), ((-2147483648), 2147483647), ((-2147483648), 2147483647), (0, 5), (0, 7), (0, 23), ((-1), (-1)), (1, 9), (0, 49), (0, 49), ((-2147483648), 2147483647), ((-2147483648), 2147483647), (0, 49), (0, 49), (0, 99), (0, 9), (1, 1)]), [(2, [(none, 0), (some 3, 1)], []), (1, [(none, 1), (none, 0)], []), (0, [(some 26, 0), (none, 1)], []), (1, [(some 26, 0), (none, 0)], []), (5, [(some 26, 0), (some 24, 0), (some 25, 0)], []), (20, [(some 25, 0), (some 14, 0)], [8]), (20, [(some 24, 0), (some 14, 0)], [73]), (148, [(some 15, 0), (some 2, 0), (some 3, 1), (some 4, 0), (some 5, 0), (some 6, 0), (none, 0), (none, 0)], [7, 8, 67, 68, 69, 70, 15, 16, 19, 20, 21, 23, 24, 25, 73, 74, 75]), (21, [(some 3, 0), (none, (-1))], [70, 61]), (21, [(some 3, 0), (none, 0)], [69, 60]), (21, [(some 3, 0), (some 17, 0)], [68, 59]), (21, [(some 3, 0), (some 14, 0)], [67, 58]), (3, [(none, 10), (some 3, 0)], []), (0, [(some 16, 0), (none, (-1))], []), (3, [(none, 9), (some 17, 0)], []), (186, [(some 3, 0)], [58, 10]), (186, [(some 3, 0)], [59, 11]), (186, [(some 3, 0)], [60, 12]), (186, [(some 3, 0)], [61, 13])], (186, [(some 3, 0)], [69, 12]))
set_option maxRecDepth 20000 in
theorem v_xf_swear_1_10 {PT : PTy} (hp : HP19 PT) : vcOk PT w_xf_swear_1_10 := vc_of (fun ρ α hB hF => by
  obtain ⟨f0, f1, f2, f3, f4, f5, f6, f7, f8, f9, f10, f11, f12, f13, f14, f15, f16, f17, f18, -⟩ := hF
  have e148 : PT 148 = P_yx := hp.1.1.1.1.1.1.1.1.2.2.1
  have e186 : PT 186 = P_al := hp.1.1.1.1.1.1.2.2.2.2.2.2.2.1
  simp only [hF0, hF1, hF2, hF3, hF5, hF20, hF21, hFp_148, hFp_186, e148, e186, P_yx, P_al, den_s, den_c, Int.add_zero, List.map_cons, List.map_nil] at f0 f1 f2 f3 f4 f5 f6 f7 f8 f9 f10 f11 f12 f13 f14 f15 f16 f17 f18 ⊢
  have b2 : (1 : Int) ≤ ρ 2 ∧ ρ 2 ≤ 8 := hB 2 (1, 8) rfl
  have b3 : (0 : Int) ≤ ρ 3 ∧ ρ 3 ≤ 10 := hB 3 (0, 10) rfl
  have b4 : (0 : Int) ≤ ρ 4 ∧ ρ 4 ≤ 8 := hB 4 (0, 8) rfl
  have b5 : (0 : Int) ≤ ρ 5 ∧ ρ 5 ≤ 6 := hB 5 (0, 6) rfl
  have b6 : (0 : Int) ≤ ρ 6 ∧ ρ 6 ≤ 6 := hB 6 (0, 6) rfl
  have b14 : (0 : Int) ≤ ρ 14 ∧ ρ 14 ≤ 7 := hB 14 (0, 7) rfl
  have b15 : (0 : Int) ≤ ρ 15 ∧ ρ 15 ≤ 23 := hB 15 (0, 23) rfl
  have b16 : ((-1) : Int) ≤ ρ 16 ∧ ρ 16 ≤ (-1) := hB 16 ((-1), (-1)) rfl
  have b17 : (1 : Int) ≤ ρ 17 ∧ ρ 17 ≤ 9 := hB 17 (1, 9) rfl
  have b24 : (0 : Int) ≤ ρ 24 ∧ ρ 24 ≤ 99 := hB 24 (0, 99) rfl
  have b25 : (0 : Int) ≤ ρ 25 ∧ ρ 25 ≤ 9 := hB 25 (0, 9) rfl
  have b26 : (1 : Int) ≤ ρ 26 ∧ ρ 26 ≤ 1 := hB 26 (1, 1) rfl
  clear hB
  generalize ρ 2 = r2, ρ 3 = r3, ρ 4 = r4, ρ 5 = r5, ρ 6 = r6, ρ 14 = r14, ρ 15 = r15, ρ 16 = r16, ρ 17 = r17, ρ 24 = r24, ρ 25 = r25, ρ 26 = r26, α 7 = a7, α 8 = a8, α 10 = a10, α 11 = a11, α 12 = a12, α 13 = a13, α 15 = a15, α 16 = a16, α 19 = a19, α 20 = a20, α 21 = a21, α 23 = a23, α 24 = a24, α 25 = a25, α 58 = a58, α 59 = a59, α 60 = a60, α 61 = a61, α 67 = a67, α 68 = a68, α 69 = a69, α 70 = a70, α 73 = a73, α 74 = a74, α 75 = a75 at *
  subst f4
  subst f5
  subst f6
  subst f8
  subst f9
  subst f10
  subst f11
  subst_vars
  first
    | exact fun i h1 h2 => (by first | rfl | trivial)
    | assumption
    | exact al_up (Int.le_refl _) (by assumption)
    | exact al_up (Int.le_refl _) (fun i h1 h2 => rfl)
    | exact al_tr (by assumption) (by assumption))
def w_xf_swear_1_11 : VC := (([(0, 23), (0, 49), (1, 8), (0, 10), (0, 8), (0, 6), (0, 6), (0, 8), (0, 9), (0, 49), (0, 49), ((-2147483648), 2147483647), ((-2147483648), 2147483647), (0, 5), (0, 7), (0, 23), ((-1), (-1)), (1, 9), (0, 49), (0, 49), ((-2147483648), 2147483647), ((-2147483648), 2147483647), (0, 49), (0, 49), (0, 99), (0, 9), (1, 1)]), [(2, [(none, 0), (some 3, 1)], []), (1, [(none, 1), (none, 0)], []), (0, [(some 26, 0), (none, 1)], []), (1, [(some 26, 0), (none, 0)], []), (5, [(some 26, 0), (some 24, 0), (some 25, 0)], []), (20, [(some 25, 0), (some 14, 0)], [8]), (20, [(some 24, 0), (some 14, 0)], [73]), (148, [(some 15, 0), (some 2, 0), (some 3, 1), (some 4, 0), (some 5, 0), (some 6, 0), (none, 0), (none, 0)], [7, 8, 67, 68, 69, 70, 15, 16, 19, 20, 21, 23, 24, 25, 73, 74, 75]), (21, [(some 3, 0), (none, (-1))], [70, 61]), (21, [(some 3, 0), (none, 0)], [69, 60]), (21, [(some 3, 0), (some 17, 0)], [68, 59]), (21, [(some 3, 0), (some 14, 0)], [67, 58]), (3, [(none, 10), (some 3, 0)], []), (0, [(some 16, 0), (none, (-1))], []), (3, [(none, 9), (some 17, 0)], []), (186, [(some 3, 0)], [58, 10]), (186, [(some 3, 0)], [59, 11]), (186, [(some 3, 0)], [60, 12]), (186, [(some 3, 0)], [61, 13])], (186, [(some 3, 0)], [70, 13]))
set_option maxRecDepth 20000 in
theorem v_xf_swear_1_11 {PT : PTy} (hp : HP19 PT) : vcOk PT w_xf_swear_1_11 := vc_of (fun ρ α hB hF => by
  obtain ⟨f0, f1, f2, f3, f4, f5, f6, f7, f8, f9, f10, f11, f12, f13, f14, f15, f16, f17, f18, -⟩ := hF
  have e148 : PT 148 = P_yx := hp.1.1.1.1.1.1.1.1.2.2.1
  have e186 : PT 186 = P_al := hp.1.1.1.1.1.1.2.2.2.2.2.2.2.1
  simp only [hF0, hF1, hF2, hF3, hF5, hF20, hF21, hFp_148, hFp_186, e148, e186, P_yx, P_al, den_s, den_c, Int.add_zero, List.map_cons, List.map_nil] at f0 f1 f2 f3 f4 f5 f6 f7 f8 f9 f10 f11 f12 f13 f14 f15 f16 f17 f18 ⊢
  have b2 : (1 : Int) ≤ ρ 2 ∧ ρ 2 ≤ 8 := hB 2 (1, 8) rfl
  have b3 : (0 : Int) ≤ ρ 3 ∧ ρ 3 ≤ 10 := hB 3 (0, 10) rfl
  have b4 : (0 : Int) ≤ ρ 4 ∧ ρ 4 ≤ 8 := hB 4 (0, 8) rfl
  have b5 : (0 : Int) ≤ ρ 5 ∧ ρ 5 ≤ 6 := hB 5 (0, 6) rfl
  have b6 : (0 : Int) ≤ ρ 6 ∧ ρ 6 ≤ 6 := hB 6 (0, 6) rfl
  have b14 : (0 : Int) ≤ ρ 14 ∧ ρ 14 ≤ 7 := hB 14 (0, 7) rfl
  have b15 : (0 : Int) ≤ ρ 15 ∧ ρ 15 ≤ 23 := hB 15 (0, 23) rfl
  have b16 : ((-1) : Int) ≤ ρ 16 ∧ ρ 16 ≤ (-1) := hB 16 ((-1), (-1)) rfl
  have b17 : (1 : Int) ≤ ρ 17 ∧ ρ 17 ≤ 9 := hB 17 (1, 9) rfl
  have b24 : (0 : Int) ≤ ρ 24 ∧ ρ 24 ≤ 99 := hB 24 (0, 99) rfl
  have b25 : (0 : Int) ≤ ρ 25 ∧ ρ 25 ≤ 9 := hB 25 (0, 9) rfl
  have b26 : (1 : Int) ≤ ρ 26 ∧ ρ 26 ≤ 1 := hB 26 (1, 1) rfl
  clear hB
  generalize ρ 2 = r2, ρ 3 = r3, ρ 4 = r4, ρ 5 = r5, ρ 6 = r6, ρ 14 = r14, ρ 15 = r15, ρ 16 = r16, ρ 17 = r17, ρ 24 = r24, ρ 25 = r25, ρ 26 = r26, α 7 = a7, α 8 = a8, α 10 = a10, α 11 = a11, α 12 = a12, α 13 = a13, α 15 = a15, α 16 = a16, α 19 = a19, α 20 = a20, α 21 = a21, α 23 = a23, α 24 = a24, α 25 = a25, α 58 = a58, α 59 = a59, α 60 = a60, α 61 = a61, α 67 = a67, α 68 = a68, α 69 = a69, α 70 = a70, α 73 = a73, α 74 = a74, α 75 = a75 at *
  subst f4
  subst f5
  subst f6
  subst f8
  subst f9
  subst f10
  subst f11
  subst_vars
  first
    | exact fun i h1 h2 => (by first | rfl | trivial)
    | assumption
    | exact al_up (Int.le_refl _) (by assumption)
    | exact al_up (Int.le_refl _) (fun i h1 h2 => rfl)
    | exact al_tr (by assumption) (by assumption))
set_option maxRecDepth 1000000 in
theorem k_xf_swear {PT : PTy} (hp : HP19 PT) : wfX c_xf_swear = true ∧ xcOk PT c_xf_swear := xctr (xl (k_liveX hp.1.1.1.1.1.1.1.1) (xl0)) c_xf_swear 113 mX6_swear rfl h_xf_swear (by decide +kernel) (by decide +kernel) (by decide) (vcs_by [w_xf_swear_0_0, w_xf_swear_0_1, w_xf_swear_0_2, w_xf_swear_0_3, w_xf_swear_0_4, w_xf_swear_0_5, w_xf_swear_0_6, w_xf_swear_0_7, w_xf_swear_0_8, w_xf_swear_0_9, w_xf_swear_0_10, w_xf_swear_0_11, w_xf_swear_0_12, w_xf_swear_0_13, w_xf_swear_0_14, w_xf_swear_0_15, w_xf_swear_0_16, w_xf_swear_0_17, w_xf_swear_0_18, w_xf_swear_0_19] (by decide +kernel) (vc (v_xf_swear_0_0 hp) (vc (v_xf_swear_0_1 hp) (vc (v_xf_swear_0_2 hp) (vc (v_xf_swear_0_3 hp) (vc (v_xf_swear_0_4 hp) (vc (v_xf_swear_0_5 hp) (vc (v_xf_swear_0_6 hp) (vc (v_xf_swear_0_7 hp) (vc (v_xf_swear_0_8 hp) (vc (v_xf_swear_0_9 hp) (vc (v_xf_swear_0_10 hp) (vc (v_xf_swear_0_11 hp) (vc (v_xf_swear_0_12 hp) (vc (v_xf_swear_0_13 hp) (vc (v_xf_swear_0_14 hp) (vc (v_xf_swear_0_15 hp) (vc (v_xf_swear_0_16 hp) (vc (v_xf_swear_0_17 hp) (vc (v_xf_swear_0_18 hp) (vc (v_xf_swear_0_19 hp) vn))))))))))))))))))))) (fmc (vcs_by [w_xf_swear_1_0, w_xf_swear_1_1, w_xf_swear_1_2, w_xf_swear_1_3, w_xf_swear_1_4, w_xf_swear_1_5, w_xf_swear_1_6, w_xf_swear_1_7, w_xf_swear_1_8, w_xf_swear_1_9, w_xf_swear_1_10, w_xf_swear_1_11] (by decide +kernel) (vc (v_xf_swear_1_0 hp) (vc (v_xf_swear_1_1 hp) (vc (v_xf_swear_1_2 hp) (vc (v_xf_swear_1_3 hp) (vc (v_xf_swear_1_4 hp) (vc (v_xf_swear_1_5 hp) (vc (v_xf_swear_1_6 hp) (vc (v_xf_swear_1_7 hp) (vc (v_xf_swear_1_8 hp) (vc (v_xf_swear_1_9 hp) (vc (v_xf_swear_1_10 hp) (vc (v_xf_swear_1_11 hp) vn))))))))))))) fmn)
def c_xf_keep : XC := (62, 4, (bT ++ [((-2147483648), 2147483647), ((-2147483648), 2147483647)]), [.inr (.inl 0), .inl (some 14, 0), .inl (some 15, 0)], (gX 999), [], [((bT ++ [((-2147483648), 2147483647), ((-2147483648), 2147483647), ((-2), 2147483647), (0, 49), (0, 49), ((-2147483648), 2147483647), ((-2147483648), 2147483647)]), some (.inl (some 16, 0)), (hst (gX 999) [(5, .inr (.inr (.inr (0, [.inr (.inl 6), .inr (.inl 9), .inr (.inl 14), .inr (.inl 18), .inr (.inl 22), .inr (.inl 26), .inr (.inl 27), .inr (.inl 28), .inr (.inl 29), .inr (.inl 30), .inl (some 17, 0), .inl (some 18, 0), .inl (some 19, 0), .inl (some 20, 0), .inr (.inl 999)]))))]), (ansT 58 [(15, 58), (16, 59), (17, 60), (26, 61), (27, 62), (28, 63), (29, 64), (30, 65)]), 66, [(186, [(some 4, 0)], [58, 15]), (186, [(some 4, 0)], [59, 16])])])
def h_xf_keep : List XH := [(26, (bT ++ [(0, 23), (0, 1), ((-1), 9), ((-1), 2147483647), (0, 10), (0, 49), (0, 49), ((-2147483648), 2147483647), ((-2147483648), 2147483647)]), [some (.inr (.inl 0)), some (.inl (some 14, 0)), some (.inl (some 15, 0)), some (.inl (some 16, 0)), some (.inl (some 17, 0)), some (.inl (some 18, 0)), none], (hst (gX 999) [(5, .inr (.inr (.inr (0, [.inr (.inl 6), .inr (.inl 9), .inr (.inl 14), .inr (.inl 18), .inr (.inl 22), .inr (.inl 26), .inr (.inl 27), .inr (.inl 28), .inr (.inl 29), .inr (.inl 30), .inl (some 19, 0), .inl (some 20, 0), .inl (some 21, 0), .inl (some 22, 0), .inr (.inl 999)]))))]), (ansT 58 [(15, 58), (16, 59), (17, 60), (26, 61), (27, 62), (28, 63), (29, 64), (30, 65)]), 66, [(186, [(some 4, 0)], [58, 15]), (186, [(some 4, 0)], [59, 16])], [(true, (none, 1)), (true, (some 18, 0))])]
def w_xf_keep_0_0 : VC := ((bT ++ [((-2147483648), (-1)), ((-2147483648), 2147483647)]), [(0, [(none, 0), (none, 0)], []), (2, [(some 14, 0), (none, 0)], [])], (186, [(some 4, 0)], [15, 15]))
set_option maxRecDepth 20000 in
theorem v_xf_keep_0_0 {PT : PTy} (hp : HP19 PT) : vcOk PT w_xf_keep_0_0 := vc_of (fun ρ α hB hF => by
  obtain ⟨f0, f1, -⟩ := hF
  have e186 : PT 186 = P_al := hp.1.1.1.1.1.1.2.2.2.2.2.2.2.1
  simp only [hF0, hF2, hFp_186, e186, P_al, den_s, den_c, Int.add_zero, List.map_cons, List.map_nil] at f0 f1 ⊢
  have b4 : (0 : Int) ≤ ρ 4 ∧ ρ 4 ≤ 8 := hB 4 (0, 8) rfl
  have b14 : ((-2147483648) : Int) ≤ ρ 14 ∧ ρ 14 ≤ (-1) := hB 14 ((-2147483648), (-1)) rfl
  clear hB
  generalize ρ 4 = r4, ρ 14 = r14, α 15 = a15 at *
  subst_vars
  first
    | exact fun i h1 h2 => (by first | rfl | trivial)
    | assumption
    | exact al_up (Int.le_refl _) (by assumption)
    | exact al_up (Int.le_refl _) (fun i h1 h2 => rfl)
    | exact al_tr (by assumption) (by assumption))
def w_xf_keep_0_1 : VC := ((bT ++ [((-2147483648), (-1)), ((-2147483648), 2147483647)]), [(0, [(none, 0), (none, 0)], []), (2, [(some 14, 0), (none, 0)], [])], (186, [(some 4, 0)], [16, 16]))
set_option maxRecDepth 20000 in
theorem v_xf_keep_0_1 {PT : PTy} (hp : HP19 PT) : vcOk PT w_xf_keep_0_1 := vc_of (fun ρ α hB hF => by
  obtain ⟨f0, f1, -⟩ := hF
  have e186 : PT 186 = P_al := hp.1.1.1.1.1.1.2.2.2.2.2.2.2.1
  simp only [hF0, hF2, hFp_186, e186, P_al, den_s, den_c, Int.add_zero, List.map_cons, List.map_nil] at f0 f1 ⊢
  have b4 : (0 : Int) ≤ ρ 4 ∧ ρ 4 ≤ 8 := hB 4 (0, 8) rfl
  have b14 : ((-2147483648) : Int) ≤ ρ 14 ∧ ρ 14 ≤ (-1) := hB 14 ((-2147483648), (-1)) rfl
  clear hB
  generalize ρ 4 = r4, ρ 14 = r14, α 16 = a16 at *
  subst_vars
  first
    | exact fun i h1 h2 => (by first | rfl | trivial)
    | assumption
    | exact al_up (Int.le_refl _) (by assumption)
    | exact al_up (Int.le_refl _) (fun i h1 h2 => rfl)
    | exact al_tr (by assumption) (by assumption))
def w_xf_keep_0_2 : VC := ((bT ++ [(24, 2147483647), ((-2147483648), 2147483647)]), [(0, [(none, 0), (none, 0)], []), (2, [(none, 23), (some 14, 0)], []), (3, [(some 14, 0), (none, 0)], [])], (186, [(some 4, 0)], [15, 15]))
set_option maxRecDepth 20000 in
theorem v_xf_keep_0_2 {PT : PTy} (hp : HP19 PT) : vcOk PT w_xf_keep_0_2 := vc_of (fun ρ α hB hF => by
  obtain ⟨f0, f1, f2, -⟩ := hF
  have e186 : PT 186 = P_al := hp.1.1.1.1.1.1.2.2.2.2.2.2.2.1
  simp only [hF0, hF2, hF3, hFp_186, e186, P_al, den_s, den_c, Int.add_zero, List.map_cons, List.map_nil] at f0 f1 f2 ⊢
  have b4 : (0 : Int) ≤ ρ 4 ∧ ρ 4 ≤ 8 := hB 4 (0, 8) rfl
  have b14 : (24 : Int) ≤ ρ 14 ∧ ρ 14 ≤ 2147483647 := hB 14 (24, 2147483647) rfl
  clear hB
  generalize ρ 4 = r4, ρ 14 = r14, α 15 = a15 at *
  subst_vars
  first
    | exact fun i h1 h2 => (by first | rfl | trivial)
    | assumption
    | exact al_up (Int.le_refl _) (by assumption)
    | exact al_up (Int.le_refl _) (fun i h1 h2 => rfl)
    | exact al_tr (by assumption) (by assumption))
def w_xf_keep_0_3 : VC := ((bT ++ [(24, 2147483647), ((-2147483648), 2147483647)]), [(0, [(none, 0), (none, 0)], []), (2, [(none, 23), (some 14, 0)], []), (3, [(some 14, 0), (none, 0)], [])], (186, [(some 4, 0)], [16, 16]))
set_option maxRecDepth 20000 in
theorem v_xf_keep_0_3 {PT : PTy} (hp : HP19 PT) : vcOk PT w_xf_keep_0_3 := vc_of (fun ρ α hB hF => by
  obtain ⟨f0, f1, f2, -⟩ := hF
  have e186 : PT 186 = P_al := hp.1.1.1.1.1.1.2.2.2.2.2.2.2.1
  simp only [hF0, hF2, hF3, hFp_186, e186, P_al, den_s, den_c, Int.add_zero, List.map_cons, List.map_nil] at f0 f1 f2 ⊢
  have b4 : (0 : Int) ≤ ρ 4 ∧ ρ 4 ≤ 8 := hB 4 (0, 8) rfl
  have b14 : (24 : Int) ≤ ρ 14 ∧ ρ 14 ≤ 2147483647 := hB 14 (24, 2147483647) rfl
  clear hB
  generalize ρ 4 = r4, ρ 14 = r14, α 16 = a16 at *
  subst_vars
  first
    | exact fun i h1 h2 => (by first | rfl | trivial)
    | assumption
    | exact al_up (Int.le_refl _) (by assumption)
    | exact al_up (Int.le_refl _) (fun i h1 h2 => rfl)
    | exact al_tr (by assumption) (by assumption))
def w_xf_keep_0_4 : VC := ((bT ++ [(0, 23), ((-2147483648), (-1))]), [(0, [(none, 0), (none, 0)], []), (2, [(some 15, 0), (none, 0)], []), (1, [(none, 1), (none, 0)], []), (3, [(none, 23), (some 14, 0)], []), (3, [(some 14, 0), (none, 0)], [])], (186, [(some 4, 0)], [15, 15]))
set_option maxRecDepth 20000 in
theorem v_xf_keep_0_4 {PT : PTy} (hp : HP19 PT) : vcOk PT w_xf_keep_0_4 := vc_of (fun ρ α hB hF => by
  obtain ⟨f0, f1, f2, f3, f4, -⟩ := hF
  have e186 : PT 186 = P_al := hp.1.1.1.1.1.1.2.2.2.2.2.2.2.1
  simp only [hF0, hF1, hF2, hF3, hFp_186, e186, P_al, den_s, den_c, Int.add_zero, List.map_cons, List.map_nil] at f0 f1 f2 f3 f4 ⊢
  have b4 : (0 : Int) ≤ ρ 4 ∧ ρ 4 ≤ 8 := hB 4 (0, 8) rfl
  have b14 : (0 : Int) ≤ ρ 14 ∧ ρ 14 ≤ 23 := hB 14 (0, 23) rfl
  have b15 : ((-2147483648) : Int) ≤ ρ 15 ∧ ρ 15 ≤ (-1) := hB 15 ((-2147483648), (-1)) rfl
  clear hB
  generalize ρ 4 = r4, ρ 14 = r14, ρ 15 = r15, α 15 = a15 at *
  subst_vars
  first
    | exact fun i h1 h2 => (by first | rfl | trivial)
    | assumption
    | exact al_up (Int.le_refl _) (by assumption)
    | exact al_up (Int.le_refl _) (fun i h1 h2 => rfl)
    | exact al_tr (by assumption) (by assumption))
def w_xf_keep_0_5 : VC := ((bT ++ [(0, 23), ((-2147483648), (-1))]), [(0, [(none, 0), (none, 0)], []), (2, [(some 15, 0), (none, 0)], []), (1, [(none, 1), (none, 0)], []), (3, [(none, 23), (some 14, 0)], []), (3, [(some 14, 0), (none, 0)], [])], (186, [(some 4, 0)], [16, 16]))
set_option maxRecDepth 20000 in
theorem v_xf_keep_0_5 {PT : PTy} (hp : HP19 PT) : vcOk PT w_xf_keep_0_5 := vc_of (fun ρ α hB hF => by
  obtain ⟨f0, f1, f2, f3, f4, -⟩ := hF
  have e186 : PT 186 = P_al := hp.1.1.1.1.1.1.2.2.2.2.2.2.2.1
  simp only [hF0, hF1, hF2, hF3, hFp_186, e186, P_al, den_s, den_c, Int.add_zero, List.map_cons, List.map_nil] at f0 f1 f2 f3 f4 ⊢
  have b4 : (0 : Int) ≤ ρ 4 ∧ ρ 4 ≤ 8 := hB 4 (0, 8) rfl
  have b14 : (0 : Int) ≤ ρ 14 ∧ ρ 14 ≤ 23 := hB 14 (0, 23) rfl
  have b15 : ((-2147483648) : Int) ≤ ρ 15 ∧ ρ 15 ≤ (-1) := hB 15 ((-2147483648), (-1)) rfl
  clear hB
  generalize ρ 4 = r4, ρ 14 = r14, ρ 15 = r15, α 16 = a16 at *
  subst_vars
  first
    | exact fun i h1 h2 => (by first | rfl | trivial)
    | assumption
    | exact al_up (Int.le_refl _) (by assumption)
    | exact al_up (Int.le_refl _) (fun i h1 h2 => rfl)
    | exact al_tr (by assumption) (by assumption))
def w_xf_keep_0_6 : VC := ((bT ++ [(0, 23), (2, 2147483647)]), [(0, [(none, 0), (none, 0)], []), (2, [(none, 1), (some 15, 0)], []), (3, [(some 15, 0), (none, 0)], []), (1, [(none, 1), (none, 0)], []), (3, [(none, 23), (some 14, 0)], []), (3, [(some 14, 0), (none, 0)], [])], (186, [(some 4, 0)], [15, 15]))
set_option maxRecDepth 20000 in
theorem v_xf_keep_0_6 {PT : PTy} (hp : HP19 PT) : vcOk PT w_xf_keep_0_6 := vc_of (fun ρ α hB hF => by
  obtain ⟨f0, f1, f2, f3, f4, f5, -⟩ := hF
  have e186 : PT 186 = P_al := hp.1.1.1.1.1.1.2.2.2.2.2.2.2.1
  simp only [hF0, hF1, hF2, hF3, hFp_186, e186, P_al, den_s, den_c, Int.add_zero, List.map_cons, List.map_nil] at f0 f1 f2 f3 f4 f5 ⊢
  have b4 : (0 : Int) ≤ ρ 4 ∧ ρ 4 ≤ 8 := hB 4 (0, 8) rfl
  have b14 : (0 : Int) ≤ ρ 14 ∧ ρ 14 ≤ 23 := hB 14 (0, 23) rfl
  have b15 : (2 : Int) ≤ ρ 15 ∧ ρ 15 ≤ 2147483647 := hB 15 (2, 2147483647) rfl
  clear hB
  generalize ρ 4 = r4, ρ 14 = r14, ρ 15 = r15, α 15 = a15 at *
  subst_vars
  first
    | exact fun i h1 h2 => (by first | rfl | trivial)
    | assumption
    | exact al_up (Int.le_refl _) (by assumption)
    | exact al_up (Int.le_refl _) (fun i h1 h2 => rfl)
    | exact al_tr (by assumption) (by assumption))
def w_xf_keep_0_7 : VC := ((bT ++ [(0, 23), (2, 2147483647)]), [(0, [(none, 0), (none, 0)], []), (2, [(none, 1), (some 15, 0)], []), (3, [(some 15, 0), (none, 0)], []), (1, [(none, 1), (none, 0)], []), (3, [(none, 23), (some 14, 0)], []), (3, [(some 14, 0), (none, 0)], [])], (186, [(some 4, 0)], [16, 16]))
set_option maxRecDepth 20000 in
theorem v_xf_keep_0_7 {PT : PTy} (hp : HP19 PT) : vcOk PT w_xf_keep_0_7 := vc_of (fun ρ α hB hF => by
  obtain ⟨f0, f1, f2, f3, f4, f5, -⟩ := hF
  have e186 : PT 186 = P_al := hp.1.1.1.1.1.1.2.2.2.2.2.2.2.1
  simp only [hF0, hF1, hF2, hF3, hFp_186, e186, P_al, den_s, den_c, Int.add_zero, List.map_cons, List.map_nil] at f0 f1 f2 f3 f4 f5 ⊢
  have b4 : (0 : Int) ≤ ρ 4 ∧ ρ 4 ≤ 8 := hB 4 (0, 8) rfl
  have b14 : (0 : Int) ≤ ρ 14 ∧ ρ 14 ≤ 23 := hB 14 (0, 23) rfl
  have b15 : (2 : Int) ≤ ρ 15 ∧ ρ 15 ≤ 2147483647 := hB 15 (2, 2147483647) rfl
  clear hB
  generalize ρ 4 = r4, ρ 14 = r14, ρ 15 = r15, α 16 = a16 at *
  subst_vars
  first
    | exact fun i h1 h2 => (by first | rfl | trivial)
    | assumption
    | exact al_up (Int.le_refl _) (by assumption)
    | exact al_up (Int.le_refl _) (fun i h1 h2 => rfl)
    | exact al_tr (by assumption) (by assumption))
def w_xf_keep_0_8 : VC := ((bT ++ [(0, 23), (0, 1)]), [(1, [(none, 1), (none, 0)], []), (3, [(none, 1), (some 15, 0)], []), (3, [(some 15, 0), (none, 0)], []), (1, [(none, 1), (none, 0)], []), (3, [(none, 23), (some 14, 0)], []), (3, [(some 14, 0), (none, 0)], [])], (186, [(some 4, 0)], [15, 15]))
set_option maxRecDepth 20000 in
theorem v_xf_keep_0_8 {PT : PTy} (hp : HP19 PT) : vcOk PT w_xf_keep_0_8 := vc_of (fun ρ α hB hF => by
  obtain ⟨f0, f1, f2, f3, f4, f5, -⟩ := hF
  have e186 : PT 186 = P_al := hp.1.1.1.1.1.1.2.2.2.2.2.2.2.1
  simp only [hF1, hF3, hFp_186, e186, P_al, den_s, den_c, Int.add_zero, List.map_cons, List.map_nil] at f0 f1 f2 f3 f4 f5 ⊢
  have b4 : (0 : Int) ≤ ρ 4 ∧ ρ 4 ≤ 8 := hB 4 (0, 8) rfl
  have b14 : (0 : Int) ≤ ρ 14 ∧ ρ 14 ≤ 23 := hB 14 (0, 23) rfl
  have b15 : (0 : Int) ≤ ρ 15 ∧ ρ 15 ≤ 1 := hB 15 (0, 1) rfl
  clear hB
  generalize ρ 4 = r4, ρ 14 = r14, ρ 15 = r15, α 15 = a15 at *
  subst_vars
  first
    | exact fun i h1 h2 => (by first | rfl | trivial)
    | assumption
    | exact al_up (Int.le_refl _) (by assumption)
    | exact al_up (Int.le_refl _) (fun i h1 h2 => rfl)
    | exact al_tr (by assumption) (by assumption))
def w_xf_keep_0_9 : VC := ((bT ++ [(0, 23), (0, 1)]), [(1, [(none, 1), (none, 0)], []), (3, [(none, 1), (some 15, 0)], []), (3, [(some 15, 0), (none, 0)], []), (1, [(none, 1), (none, 0)], []), (3, [(none, 23), (some 14, 0)], []), (3, [(some 14, 0), (none, 0)], [])], (186, [(some 4, 0)], [16, 16]))
set_option maxRecDepth 20000 in
theorem v_xf_keep_0_9 {PT : PTy} (hp : HP19 PT) : vcOk PT w_xf_keep_0_9 := vc_of (fun ρ α hB hF => by
  obtain ⟨f0, f1, f2, f3, f4, f5, -⟩ := hF
  have e186 : PT 186 = P_al := hp.1.1.1.1.1.1.2.2.2.2.2.2.2.1
  simp only [hF1, hF3, hFp_186, e186, P_al, den_s, den_c, Int.add_zero, List.map_cons, List.map_nil] at f0 f1 f2 f3 f4 f5 ⊢
  have b4 : (0 : Int) ≤ ρ 4 ∧ ρ 4 ≤ 8 := hB 4 (0, 8) rfl
  have b14 : (0 : Int) ≤ ρ 14 ∧ ρ 14 ≤ 23 := hB 14 (0, 23) rfl
  have b15 : (0 : Int) ≤ ρ 15 ∧ ρ 15 ≤ 1 := hB 15 (0, 1) rfl
  clear hB
  generalize ρ 4 = r4, ρ 14 = r14, ρ 15 = r15, α 16 = a16 at *
  subst_vars
  first
    | exact fun i h1 h2 => (by first | rfl | trivial)
    | assumption
    | exact al_up (Int.le_refl _) (by assumption)
    | exact al_up (Int.le_refl _) (fun i h1 h2 => rfl)
    | exact al_tr (by assumption) (by assumption))
def w_xf_keep_1_0 : VC := (([(0, 23), (0, 49), (0, 8), (1, 10), (0, 8), (0, 6), (0, 6), (0, 8), (0, 9), (0, 49), (0, 49), ((-2147483648), 2147483647), ((-2147483648), 2147483647), (0, 5), (0, 23), (0, 1), ((-1), 9), ((-1), 2147483647), (0, 9), (0, 49), (0, 49), ((-2147483648), 2147483647), ((-2147483648), 2147483647), (0, 49), (0, 49), ((-2147483648), 2147483647), ((-2147483648), 2147483647)]), [(2, [(none, 0), (some 4, 1)], []), (3, [(some 17, 0), (some 26, 0)], []), (160, [(some 26, 0), (some 25, 0)], []), (92, [(some 25, 0), (some 2, 0)], [71, 8]), (148, [(none, 23), (some 2, 0), (some 3, 0), (some 4, 1), (some 5, 0), (some 6, 0), (none, 0), (none, 0)], [7, 8, 10, 11, 12, 13, 66, 67, 19, 20, 21, 23, 24, 25, 71, 72, 73]), (21, [(some 4, 0), (none, 0)], [68, 60]), (21, [(some 4, 0), (some 18, 0)], [67, 59]), (21, [(some 4, 0), (some 14, 0)], [66, 58]), (2, [(some 4, 0), (none, 9)], []), (2, [(some 18, 0), (some 3, 0)], []), (186, [(some 4, 0)], [58, 15]), (186, [(some 4, 0)], [59, 16])], (186, [(some 4, 0)], [66, 15]))
set_option maxRecDepth 20000 in
theorem v_xf_keep_1_0 {PT : PTy} (hp : HP19 PT) : vcOk PT w_xf_keep_1_0 := vc_of (fun ρ α hB hF => by
  obtain ⟨f0, f1, f2, f3, f4, f5, f6, f7, f8, f9, f10, f11, -⟩ := hF
  have e92 : PT 92 = P_bits := hp.1.1.1.1.1.1.1.1.1.1.1.1.1.1.1.2.1
  have e148 : PT 148 = P_yx := hp.1.1.1.1.1.1.1.1.2.2.1
  have e160 : PT 160 = P_bc := hp.1.1.1.1.1.1.1.1.2.2.2.2.2.2.2.2.2.2.2.2.2.2.1
  have e186 : PT 186 = P_al := hp.1.1.1.1.1.1.2.2.2.2.2.2.2.1
  simp only [hF2, hF3, hF21, hFp_92, hFp_148, hFp_160, hFp_186, e92, e148, e160, e186, P_bits, P_yx, P_bc, P_al, den_s, den_c, Int.add_zero, List.map_cons, List.map_nil] at f0 f1 f2 f3 f4 f5 f6 f7 f8 f9 f10 f11 ⊢
  have b2 : (0 : Int) ≤ ρ 2 ∧ ρ 2 ≤ 8 := hB 2 (0, 8) rfl
  have b3 : (1 : Int) ≤ ρ 3 ∧ ρ 3 ≤ 10 := hB 3 (1, 10) rfl
  have b4 : (0 : Int) ≤ ρ 4 ∧ ρ 4 ≤ 8 := hB 4 (0, 8) rfl
  have b5 : (0 : Int) ≤ ρ 5 ∧ ρ 5 ≤ 6 := hB 5 (0, 6) rfl
  have b6 : (0 : Int) ≤ ρ 6 ∧ ρ 6 ≤ 6 := hB 6 (0, 6) rfl
  have b14 : (0 : Int) ≤ ρ 14 ∧ ρ 14 ≤ 23 := hB 14 (0, 23) rfl
  have b17 : ((-1) : Int) ≤ ρ 17 ∧ ρ 17 ≤ 2147483647 := hB 17 ((-1), 2147483647) rfl
  have b18 : (0 : Int) ≤ ρ 18 ∧ ρ 18 ≤ 9 := hB 18 (0, 9) rfl
  have b25 : ((-2147483648) : Int) ≤ ρ 25 ∧ ρ 25 ≤ 2147483647 := hB 25 ((-2147483648), 2147483647) rfl
  have b26 : ((-2147483648) : Int) ≤ ρ 26 ∧ ρ 26 ≤ 2147483647 := hB 26 ((-2147483648), 2147483647) rfl
  clear hB
  generalize ρ 2 = r2, ρ 3 = r3, ρ 4 = r4, ρ 5 = r5, ρ 6 = r6, ρ 14 = r14, ρ 17 = r17, ρ 18 = r18, ρ 25 = r25, ρ 26 = r26, α 7 = a7, α 8 = a8, α 10 = a10, α 11 = a11, α 12 = a12, α 13 = a13, α 15 = a15, α 16 = a16, α 19 = a19, α 20 = a20, α 21 = a21, α 23 = a23, α 24 = a24, α 25 = a25, α 58 = a58, α 59 = a59, α 60 = a60, α 66 = a66, α 67 = a67, α 68 = a68, α 71 = a71, α 72 = a72, α 73 = a73 at *
  subst f5
  subst f6
  subst f7
  subst_vars
  first
    | exact fun i h1 h2 => (by first | rfl | trivial)
    | assumption
    | exact al_up (Int.le_refl _) (by assumption)
    | exact al_up (Int.le_refl _) (fun i h1 h2 => rfl)
    | exact al_tr (by assumption) (by assumption))
def w_xf_keep_1_1 : VC := (([(0, 23), (0, 49), (0, 8), (1, 10), (0, 8), (0, 6), (0, 6), (0, 8), (0, 9), (0, 49), (0, 49), ((-2147483648), 2147483647), ((-2147483648), 2147483647), (0, 5), (0, 23), (0, 1), ((-1), 9), ((-1), 2147483647), (0, 9), (0, 49), (0, 49), ((-2147483648), 2147483647), ((-2147483648), 2147483647), (0, 49), (0, 49), ((-2147483648), 2147483647), ((-2147483648), 2147483647)]), [(2, [(none, 0), (some 4, 1)], []), (3, [(some 17, 0), (some 26, 0)], []), (160, [(some 26, 0), (some 25, 0)], []), (92, [(some 25, 0), (some 2, 0)], [71, 8]), (148, [(none, 23), (some 2, 0), (some 3, 0), (some 4, 1), (some 5, 0), (some 6, 0), (none, 0), (none, 0)], [7, 8, 10, 11, 12, 13, 66, 67, 19, 20, 21, 23, 24, 25, 71, 72, 73]), (21, [(some 4, 0), (none, 0)], [68, 60]), (21, [(some 4, 0), (some 18, 0)], [67, 59]), (21, [(some 4, 0), (some 14, 0)], [66, 58]), (2, [(some 4, 0), (none, 9)], []), (2, [(some 18, 0), (some 3, 0)], []), (186, [(some 4, 0)], [58, 15]), (186, [(some 4, 0)], [59, 16])], (186, [(some 4, 0)], [67, 16]))
set_option maxRecDepth 20000 in
theorem v_xf_keep_1_1 {PT : PTy} (hp : HP19 PT) : vcOk PT w_xf_keep_1_1 := vc_of (fun ρ α hB hF => by
  obtain ⟨f0, f1, f2, f3, f4, f5, f6, f7, f8, f9, f10, f11, -⟩ := hF
  have e92 : PT 92 = P_bits := hp.1.1.1.1.1.1.1.1.1.1.1.1.1.1.1.2.1
  have e148 : PT 148 = P_yx := hp.1.1.1.1.1.1.1.1.2.2.1
  have e160 : PT 160 = P_bc := hp.1.1.1.1.1.1.1.1.2.2.2.2.2.2.2.2.2.2.2.2.2.2.1
  have e186 : PT 186 = P_al := hp.1.1.1.1.1.1.2.2.2.2.2.2.2.1
  simp only [hF2, hF3, hF21, hFp_92, hFp_148, hFp_160, hFp_186, e92, e148, e160, e186, P_bits, P_yx, P_bc, P_al, den_s, den_c, Int.add_zero, List.map_cons, List.map_nil] at f0 f1 f2 f3 f4 f5 f6 f7 f8 f9 f10 f11 ⊢
  have b2 : (0 : Int) ≤ ρ 2 ∧ ρ 2 ≤ 8 := hB 2 (0, 8) rfl
  have b3 : (1 : Int) ≤ ρ 3 ∧ ρ 3 ≤ 10 := hB 3 (1, 10) rfl
  have b4 : (0 : Int) ≤ ρ 4 ∧ ρ 4 ≤ 8 := hB 4 (0, 8) rfl
  have b5 : (0 : Int) ≤ ρ 5 ∧ ρ 5 ≤ 6 := hB 5 (0, 6) rfl
  have b6 : (0 : Int) ≤ ρ 6 ∧ ρ 6 ≤ 6 := hB 6 (0, 6) rfl
  have b14 : (0 : Int) ≤ ρ 14 ∧ ρ 14 ≤ 23 := hB 14 (0, 23) rfl
  have b17 : ((-1) : Int) ≤ ρ 17 ∧ ρ 17 ≤ 2147483647 := hB 17 ((-1), 2147483647) rfl
  have b18 : (0 : Int) ≤ ρ 18 ∧ ρ 18 ≤ 9 := hB 18 (0, 9) rfl
  have b25 : ((-2147483648) : Int) ≤ ρ 25 ∧ ρ 25 ≤ 2147483647 := hB 25 ((-2147483648), 2147483647) rfl
  have b26 : ((-2147483648) : Int) ≤ ρ 26 ∧ ρ 26 ≤ 2147483647 := hB 26 ((-2147483648), 2147483647) rfl
  clear hB
  generalize ρ 2 = r2, ρ 3 = r3, ρ 4 = r4, ρ 5 = r5, ρ 6 = r6, ρ 14 = r14, ρ 17 = r17, ρ 18 = r18, ρ 25 = r25, ρ 26 = r26, α 7 = a7, α 8 = a8, α 10 = a10, α 11 = a11, α 12 = a12, α 13 = a13, α 15 = a15, α 16 = a16, α 19 = a19, α 20 = a20, α 21 = a21, α 23 = a23, α 24 = a24, α 25 = a25, α 58 = a58, α 59 = a59, α 60 = a60, α 66 = a66, α 67 = a67, α 68 = a68, α 71 = a71, α 72 = a72, α 73 = a73 at *
  subst f5
  subst f6
  subst f7
  subst_vars
  first
    | exact fun i h1 h2 => (by first | rfl | trivial)
    | assumption
    | exact al_up (Int.le_refl _) (by assumption)
    | exact al_up (Int.le_refl _) (fun i h1 h2 => rfl)
    | exact al_tr (by assumption) (by assumption))
def w_xf_keep_1_2 : VC := (([(0, 23), (0, 49), (0, 8), (1, 10), (0, 8), (0, 6), (0, 6), (0, 8), (0, 9), (0, 49), (0, 49), ((-2147483648), 2147483647), ((-2147483648), 2147483647), (0, 5), (0, 23), (0, 1), ((-1), 9), ((-1), 2147483646), (0, 9), (0, 49), (0, 49), ((-2147483648), 2147483647), ((-2147483648), 2147483647), (0, 49), (0, 49), ((-2147483648), 2147483647), (0, 2147483647)]), [(2, [(none, 0), (some 4, 1)], []), (2, [(some 17, 0), (some 26, 0)], []), (160, [(some 26, 0), (some 25, 0)], []), (92, [(some 25, 0), (some 2, 0)], [71, 8]), (148, [(none, 23), (some 2, 0), (some 3, 0), (some 4, 1), (some 5, 0), (some 6, 0), (none, 0), (none, 0)], [7, 8, 10, 11, 12, 13, 66, 67, 19, 20, 21, 23, 24, 25, 71, 72, 73]), (21, [(some 4, 0), (none, 0)], [68, 60]), (21, [(some 4, 0), (some 18, 0)], [67, 59]), (21, [(some 4, 0), (some 14, 0)], [66, 58]), (2, [(some 4, 0), (none, 9)], []), (2, [(some 18, 0), (some 3, 0)], []), (186, [(some 4, 0)], [58, 15]), (186, [(some 4, 0)], [59, 16])], (186, [(some 4, 0)], [66, 15]))
set_option maxRecDepth 20000 in
theorem v_xf_keep_1_2 {PT : PTy} (hp : HP19 PT) : vcOk PT w_xf_keep_1_2 := vc_of (fun ρ α hB hF => by
  obtain ⟨f0, f1, f2, f3, f4, f5, f6, f7, f8, f9, f10, f11, -⟩ := hF
  have e92 : PT 92 = P_bits := hp.1.1.1.1.1.1.1.1.1.1.1.1.1.1.1.2.1
  have e148 : PT 148 = P_yx := hp.1.1.1.1.1.1.1.1.2.2.1
  have e160 : PT 160 = P_bc := hp.1.1.1.1.1.1.1.1.2.2.2.2.2.2.2.2.2.2.2.2.2.2.1
  have e186 : PT 186 = P_al := hp.1.1.1.1.1.1.2.2.2.2.2.2.2.1
  simp only [hF2, hF21, hFp_92, hFp_148, hFp_160, hFp_186, e92, e148, e160, e186, P_bits, P_yx, P_bc, P_al, den_s, den_c, Int.add_zero, List.map_cons, List.map_nil] at f0 f1 f2 f3 f4 f5 f6 f7 f8 f9 f10 f11 ⊢
  have b2 : (0 : Int) ≤ ρ 2 ∧ ρ 2 ≤ 8 := hB 2 (0, 8) rfl
  have b3 : (1 : Int) ≤ ρ 3 ∧ ρ 3 ≤ 10 := hB 3 (1, 10) rfl
  have b4 : (0 : Int) ≤ ρ 4 ∧ ρ 4 ≤ 8 := hB 4 (0, 8) rfl
  have b5 : (0 : Int) ≤ ρ 5 ∧ ρ 5 ≤ 6 := hB 5 (0, 6) rfl
  have b6 : (0 : Int) ≤ ρ 6 ∧ ρ 6 ≤ 6 := hB 6 (0, 6) rfl
  have b14 : (0 : Int) ≤ ρ 14 ∧ ρ 14 ≤ 23 := hB 14 (0, 23) rfl
  have b17 : ((-1) : Int) ≤ ρ 17 ∧ ρ 17 ≤ 2147483646 := hB 17 ((-1), 2147483646) rfl
  have b18 : (0 : Int) ≤ ρ 18 ∧ ρ 18 ≤ 9 := hB 18 (0, 9) rfl
  have b25 : ((-2147483648) : Int) ≤ ρ 25 ∧ ρ 25 ≤ 2147483647 := hB 25 ((-2147483648), 2147483647) rfl
  have b26 : (0 : Int) ≤ ρ 26 ∧ ρ 26 ≤ 2147483647 := hB 26 (0, 2147483647) rfl
  clear hB
  generalize ρ 2 = r2, ρ 3 = r3, ρ 4 = r4, ρ 5 = r5, ρ 6 = r6, ρ 14 = r14, ρ 17 = r17, ρ 18 = r18, ρ 25 = r25, ρ 26 = r26, α 7 = a7, α 8 = a8, α 10 = a10, α 11 = a11, α 12 = a12, α 13 = a13, α 15 = a15, α 16 = a16, α 19 = a19, α 20 = a20, α 21 = a21, α 23 = a23, α 24 = a24, α 25 = a25, α 58 = a58, α 59 = a59, α 60 = a60, α 66 = a66, α 67 = a67, α 68 = a68, α 71 = a71, α 72 = a72, α 73 = a73 at *
  subst f5
  subst f6
  subst f7
  subst_vars
  first
    | exact fun i h1 h2 => (by first | rfl | trivial)
    | assumption
    | exact al_up (Int.le_refl _) (by assumption)
    | exact al_up (Int.le_refl _) (fun i h1 h2 => rfl)
    | exact al_tr (by assumption) (by assumption))
def w_xf_keep_1_3 : VC := (([(0, 23), (0, 49), (0, 8), (1, 10), (0, 8), (0, 6), (0, 6), (0, 8), (0, 9), (0, 49), (0, 49), ((-2147483648), 2147483647), ((-2147483648), 2147483647), (0, 5), (0, 23), (0, 1), ((-1), 9), ((-1), 2147483646), (0, 9), (0, 49), (0, 49), ((-2147483648), 2147483647), ((-2147483648), 2147483647), (0, 49), (0, 49), ((-2147483648), 2147483647), (0, 2147483647)]), [(2, [(none, 0), (some 4, 1)], []), (2, [(some 17, 0), (some 26, 0)], []), (160, [(some 26, 0), (some 25, 0)], []), (92, [(some 25, 0), (some 2, 0)], [71, 8]), (148, [(none, 23), (some 2, 0), (some 3, 0), (some 4, 1), (some 5, 0), (some 6, 0), (none, 0), (none, 0)], [7, 8, 10, 11, 12, 13, 66, 67, 19, 20, 21, 23, 24, 25, 71, 72, 73]), (21, [(some 4, 0), (none, 0)], [68, 60]), (21, [(some 4, 0), (some 18, 0)], [67, 59]), (21, [(some 4, 0), (some 14, 0)], [66, 58]), (2, [(some 4, 0), (none, 9)], []), (2, [(some 18, 0), (some 3, 0)], []), (186, [(some 4, 0)], [58, 15]), (186, [(some 4, 0)], [59, 16])], (186, [(some 4, 0)], [67, 16]))
set_option maxRecDepth 20000 in
theorem v_xf_keep_1_3 {PT : PTy} (hp : HP19 PT) : vcOk PT w_xf_keep_1_3 := vc_of (fun ρ α hB hF => by
  obtain ⟨f0, f1, f2, f3, f4, f5, f6, f7, f8, f9, f10, f11, -⟩ := hF
  have e92 : PT 92 = P_bits := hp.1.1.1.1.1.1.1.1.1.1.1.1.1.1.1.2.1
  have e148 : PT 148 = P_yx := hp.1.1.1.1.1.1.1.1.2.2.1
  have e160 : PT 160 = P_bc := hp.1.1.1.1.1.1.1.1.2.2.2.2.2.2.2.2.2.2.2.2.2.2.1
  have e186 : PT 186 = P_al := hp.1.1.1.1.1.1.2.2.2.2.2.2.2.1
  simp only [hF2, hF21, hFp_92, hFp_148, hFp_160, hFp_186, e92, e148, e160, e186, P_bits, P_yx, P_bc, P_al, den_s, den_c, Int.add_zero, List.map_cons, List.map_nil] at f0 f1 f2 f3 f4 f5 f6 f7 f8 f9 f10 f11 ⊢
  have b2 : (0 : Int) ≤ ρ 2 ∧ ρ 2 ≤ 8 := hB 2 (0, 8) rfl
  have b3 : (1 : Int) ≤ ρ 3 ∧ ρ 3 ≤ 10 := hB 3 (1, 10) rfl
  have b4 : (0 : Int) ≤ ρ 4 ∧ ρ 4 ≤ 8 := hB 4 (0, 8) rfl
  have b5 : (0 : Int) ≤ ρ 5 ∧ ρ 5 ≤ 6 := hB 5 (0, 6) rfl
  have b6 : (0 : Int) ≤ ρ 6 ∧ ρ 6 ≤ 6 := hB 6 (0, 6) rfl
  have b14 : (0 : Int) ≤ ρ 14 ∧ ρ 14 ≤ 23 := hB 14 (0, 23) rfl
  have b17 : ((-1) : Int) ≤ ρ 17 ∧ ρ 17 ≤ 2147483646 := hB 17 ((-1), 2147483646) rfl
  have b18 : (0 : Int) ≤ ρ 18 ∧ ρ 18 ≤ 9 := hB 18 (0, 9) rfl
  have b25 : ((-2147483648) : Int) ≤ ρ 25 ∧ ρ 25 ≤ 2147483647 := hB 25 ((-2147483648), 2147483647) rfl
  have b26 : (0 : Int) ≤ ρ 26 ∧ ρ 26 ≤ 2147483647 := hB 26 (0, 2147483647) rfl
  clear hB
  generalize ρ 2 = r2, ρ 3 = r3, ρ 4 = r4, ρ 5 = r5, ρ 6 = r6, ρ 14 = r14, ρ 17 = r17, ρ 18 = r18, ρ 25 = r25, ρ 26 = r26, α 7 = a7, α 8 = a8, α 10 = a10, α 11 = a11, α 12 = a12, α 13 = a13, α 15 = a15, α 16 = a16, α 19 = a19, α 20 = a20, α 21 = a21, α 23 = a23, α 24 = a24, α 25 = a25, α 58 = a58, α 59 = a59, α 60 = a60, α 66 = a66, α 67 = a67, α 68 = a68, α 71 = a71, α 72 = a72, α 73 = a73 at *
  subst f5
  subst f6
  subst f7
  subst_vars
  first
    | exact fun i h1 h2 => (by first | rfl | trivial)
    | assumption
    | exact al_up (Int.le_refl _) (by assumption)
    | exact al_up (Int.le_refl _) (fun i h1 h2 => rfl)
    | exact al_tr (by assumption) (by assumption))
set_option maxRecDepth 1000000 in
theorem k_xf_keep {PT : PTy} (hp : HP19 PT) : wfX c_xf_keep = true ∧ xcOk PT c_xf_keep := xctr (xl (k_fittingBits14 hp.1.1.1.1.1.1.1.1.1.1.1.1.1.1.1) (xl (k_liveX hp.1.1.1.1.1.1.1.1) (xl (k_bitCount hp.1.1.1.1.1.1.1.1) (xl0)))) c_xf_keep 97 mX6_keep rfl h_xf_keep (by decide +kernel) (by decide +kernel) (by decide) (vcs_by [w_xf_keep_0_0, w_xf_keep_0_1, w_xf_keep_0_2, w_xf_keep_0_3, w_xf_keep_0_4, w_xf_keep_0_5, w_xf_keep_0_6, w_xf_keep_0_7, w_xf_keep_0_8, w_xf_keep_0_9] (by decide +kernel) (vc (v_xf_keep_0_0 hp) (vc (v_xf_keep_0_1 hp) (vc (v_xf_keep_0_2 hp) (vc (v_xf_keep_0_3 hp) (vc (v_xf_keep_0_4 hp) (vc (v_xf_keep_0_5 hp) (vc (v_xf_keep_0_6 hp) (vc (v_xf_keep_0_7 hp) (vc (v_xf_keep_0_8 hp) (vc (v_xf_keep_0_9 hp) vn))))))))))) (fmc (vcs_by [w_xf_keep_1_0, w_xf_keep_1_1, w_xf_keep_1_2, w_xf_keep_1_3] (by decide +kernel) (vc (v_xf_keep_1_0 hp) (vc (v_xf_keep_1_1 hp) (vc (v_xf_keep_1_2 hp) (vc (v_xf_keep_1_3 hp) vn))))) fmn)
def c_xf_due : XC := (63, 4, (bT ++ [((-2147483648), 2147483647), ((-2147483648), 2147483647)]), [.inr (.inl 0), .inl (some 14, 0), .inl (some 15, 0)], (gX 999), [], [((bT ++ [((-2147483648), 2147483647), ((-2147483648), 2147483647), ((-2147483648), 2147483647), (0, 49), (0, 49), ((-2147483648), 2147483647), ((-2147483648), 2147483647)]), some (.inl (some 16, 0)), (hst (gX 999) [(5, .inr (.inr (.inr (0, [.inr (.inl 6), .inr (.inl 9), .inr (.inl 14), .inr (.inl 18), .inr (.inl 22), .inr (.inl 26), .inr (.inl 27), .inr (.inl 28), .inr (.inl 29), .inr (.inl 30), .inl (some 17, 0), .inl (some 18, 0), .inl (some 19, 0), .inl (some 20, 0), .inr (.inl 999)]))))]), (ansT 58 [(13, 58), (26, 59), (27, 60), (28, 61), (29, 62), (30, 63)]), 64, [(27, [], [58, 13])])])
def h_xf_due : List XH := [(42, ([(0, 23), (0, 49), (0, 8), (1, 10), (0, 8), (0, 6), (0, 6), (0, 8), (0, 9), (0, 49), (0, 49), ((-2147483648), 2147483647), ((-2147483648), 2147483647), (0, 5), (0, 9), (0, 1), ((-1), 23), ((-1), 23), ((-2147483648), 2147483647), (0, 24), (0, 49), (0, 49), ((-2147483648), 2147483647), ((-2147483648), 2147483647)]), [some (.inr (.inl 0)), some (.inl (some 14, 0)), some (.inl (some 15, 0)), some (.inl (some 16, 0)), some (.inl (some 17, 0)), some (.inl (some 18, 0)), some (.inl (some 19, 0))], (hst (gX 999) [(5, .inr (.inr (.inr (0, [.inr (.inl 6), .inr (.inl 9), .inr (.inl 14), .inr (.inl 18), .inr (.inl 22), .inr (.inl 26), .inr (.inl 27), .inr (.inl 28), .inr (.inl 29), .inr (.inl 30), .inl (some 20, 0), .inl (some 21, 0), .inl (some 22, 0), .inl (some 23, 0), .inr (.inl 999)]))))]), (ansT 58 [(13, 58), (26, 59), (27, 60), (28, 61), (29, 62), (30, 63)]), 64, [(187, [(some 14, 0)], [58, 13]), (20, [(some 16, 0), (some 14, 0)], [13])], [(true, (none, 1)), (true, (some 19, 0))])]
def w_xf_due_0_0 : VC := ((bT ++ [((-2147483648), (-1)), ((-2147483648), 2147483647)]), [(0, [(none, 0), (none, 0)], []), (2, [(some 14, 0), (none, 0)], [])], (27, [], [13, 13]))
theorem v_xf_due_0_0 {PT : PTy} (_ : HP19 PT) : vcOk PT w_xf_due_0_0 := vc_of (fun ρ α _ _ => rfl)
def w_xf_due_0_1 : VC := ((bT ++ [(0, 2147483647), ((-2147483648), 2147483647)]), [(0, [(none, 0), (none, 0)], []), (3, [(some 14, 0), (some 3, 0)], []), (3, [(some 14, 0), (none, 0)], [])], (27, [], [13, 13]))
theorem v_xf_due_0_1 {PT : PTy} (_ : HP19 PT) : vcOk PT w_xf_due_0_1 := vc_of (fun ρ α _ _ => rfl)
def w_xf_due_0_2 : VC := (([(0, 23), (0, 49), (0, 8), (1, 10), (0, 8), (0, 6), (0, 6), (0, 8), (0, 9), (0, 49), (0, 49), ((-2147483648), 2147483647), ((-2147483648), 2147483647), (0, 5), (0, 9), ((-2147483648), (-1))]), [(0, [(none, 0), (none, 0)], []), (2, [(some 15, 0), (none, 0)], []), (1, [(none, 1), (none, 0)], []), (2, [(some 14, 0), (some 3, 0)], []), (3, [(some 14, 0), (none, 0)], [])], (27, [], [13, 13]))
theorem v_xf_due_0_2 {PT : PTy} (_ : HP19 PT) : vcOk PT w_xf_due_0_2 := vc_of (fun ρ α _ _ => rfl)
def w_xf_due_0_3 : VC := (([(0, 23), (0, 49), (0, 8), (1, 10), (0, 8), (0, 6), (0, 6), (0, 8), (0, 9), (0, 49), (0, 49), ((-2147483648), 2147483647), ((-2147483648), 2147483647), (0, 5), (0, 9), (2, 2147483647)]), [(0, [(none, 0), (none, 0)], []), (2, [(none, 1), (some 15, 0)], []), (3, [(some 15, 0), (none, 0)], []), (1, [(none, 1), (none, 0)], []), (2, [(some 14, 0), (some 3, 0)], []), (3, [(some 14, 0), (none, 0)], [])], (27, [], [13, 13]))
theorem v_xf_due_0_3 {PT : PTy} (_ : HP19 PT) : vcOk PT w_xf_due_0_3 := vc_of (fun ρ α _ _ => rfl)
def w_xf_due_0_4 : VC := (([(0, 23), (0, 49), (0, 8), (1, 10), (0, 8), (0, 6), (0, 6), (0, 8), (0, 9), (0, 49), (0, 49), ((-2147483648), 2147483647), ((-2147483648), 2147483647), (0, 5), (0, 9), (0, 1), ((-1), 23)]), [(20, [(some 16, 0), (some 14, 0)], [13]), (1, [(none, 1), (none, 0)], []), (3, [(none, 1), (some 15, 0)], []), (3, [(some 15, 0), (none, 0)], []), (1, [(none, 1), (none, 0)], []), (2, [(some 14, 0), (some 3, 0)], []), (3, [(some 14, 0), (none, 0)], [])], (187, [(some 14, 0)], [13, 13]))
set_option maxRecDepth 20000 in
theorem v_xf_due_0_4 {PT : PTy} (hp : HP19 PT) : vcOk PT w_xf_due_0_4 := vc_of (fun ρ α hB hF => by
  obtain ⟨f0, f1, f2, f3, f4, f5, f6, -⟩ := hF
  have e187 : PT 187 = P_bu := hp.1.1.1.1.1.1.2.2.2.2.2.2.2.2.1
  simp only [hF1, hF2, hF3, hF20, hFp_187, e187, P_bu, den_s, den_c, Int.add_zero, List.map_cons, List.map_nil] at f0 f1 f2 f3 f4 f5 f6 ⊢
  have b3 : (1 : Int) ≤ ρ 3 ∧ ρ 3 ≤ 10 := hB 3 (1, 10) rfl
  have b14 : (0 : Int) ≤ ρ 14 ∧ ρ 14 ≤ 9 := hB 14 (0, 9) rfl
  have b15 : (0 : Int) ≤ ρ 15 ∧ ρ 15 ≤ 1 := hB 15 (0, 1) rfl
  have b16 : ((-1) : Int) ≤ ρ 16 ∧ ρ 16 ≤ 23 := hB 16 ((-1), 23) rfl
  clear hB
  generalize ρ 3 = r3, ρ 14 = r14, ρ 15 = r15, ρ 16 = r16, α 13 = a13 at *
  subst f0
  subst_vars
  first
    | exact fun i h => (by first | rfl | trivial)
    | assumption
    | exact bu_up (by assumption)
    | exact bu_up (fun i h => rfl))
def w_xf_due_1_0 : VC := (([(0, 23), (0, 49), (0, 8), (1, 10), (0, 8), (0, 6), (0, 6), (0, 8), (0, 9), (0, 49), (0, 49), ((-2147483648), 2147483647), ((-2147483648), 2147483647), (0, 5), (0, 9), (1, 1), ((-1), 23), ((-1), 23), ((-2147483648), 2147483647), (24, 24), (0, 49), (0, 49), ((-2147483648), 2147483647), ((-2147483648), 2147483647)]), [(1, [(some 15, 0), (none, 0)], []), (21, [(some 14, 0), (some 16, 0)], [64, 58]), (3, [(some 19, 0), (none, 24)], []), (187, [(some 14, 0)], [58, 13]), (20, [(some 16, 0), (some 14, 0)], [13])], (27, [], [64, 13]))
set_option maxRecDepth 20000 in
theorem v_xf_due_1_0 {PT : PTy} (hp : HP19 PT) : vcOk PT w_xf_due_1_0 := vc_of (fun ρ α hB hF => by
  obtain ⟨f0, f1, f2, f3, f4, -⟩ := hF
  have e187 : PT 187 = P_bu := hp.1.1.1.1.1.1.2.2.2.2.2.2.2.2.1
  simp only [hF1, hF3, hF20, hF21, hF27, hFp_187, e187, P_bu, den_s, den_c, Int.add_zero, List.map_cons, List.map_nil] at f0 f1 f2 f3 f4 ⊢
  have b14 : (0 : Int) ≤ ρ 14 ∧ ρ 14 ≤ 9 := hB 14 (0, 9) rfl
  have b15 : (1 : Int) ≤ ρ 15 ∧ ρ 15 ≤ 1 := hB 15 (1, 1) rfl
  have b16 : ((-1) : Int) ≤ ρ 16 ∧ ρ 16 ≤ 23 := hB 16 ((-1), 23) rfl
  have b19 : (24 : Int) ≤ ρ 19 ∧ ρ 19 ≤ 24 := hB 19 (24, 24) rfl
  clear hB
  generalize ρ 14 = r14, ρ 15 = r15, ρ 16 = r16, ρ 19 = r19, α 13 = a13, α 58 = a58, α 64 = a64 at *
  subst f1
  subst f4
  subst_vars
  first
    | rfl
    | assumption
    | exact upd_bk (by assumption))
def w_xf_due_1_1 : VC := (([(0, 23), (0, 49), (0, 8), (1, 10), (0, 8), (0, 6), (0, 6), (0, 8), (0, 9), (0, 49), (0, 49), ((-2147483648), 2147483647), ((-2147483648), 2147483647), (0, 5), (0, 9), (0, 0), ((-1), 23), ((-1), 23), ((-2147483648), 2147483647), (24, 24), (0, 49), (0, 49), ((-2147483648), 2147483647), ((-2147483648), 2147483647)]), [(0, [(some 15, 0), (none, 0)], []), (21, [(some 14, 0), (some 16, 0)], [64, 58]), (3, [(some 19, 0), (none, 24)], []), (187, [(some 14, 0)], [58, 13]), (20, [(some 16, 0), (some 14, 0)], [13])], (27, [], [64, 13]))
set_option maxRecDepth 20000 in
theorem v_xf_due_1_1 {PT : PTy} (hp : HP19 PT) : vcOk PT w_xf_due_1_1 := vc_of (fun ρ α hB hF => by
  obtain ⟨f0, f1, f2, f3, f4, -⟩ := hF
  have e187 : PT 187 = P_bu := hp.1.1.1.1.1.1.2.2.2.2.2.2.2.2.1
  simp only [hF0, hF3, hF20, hF21, hF27, hFp_187, e187, P_bu, den_s, den_c, Int.add_zero, List.map_cons, List.map_nil] at f0 f1 f2 f3 f4 ⊢
  have b14 : (0 : Int) ≤ ρ 14 ∧ ρ 14 ≤ 9 := hB 14 (0, 9) rfl
  have b15 : (0 : Int) ≤ ρ 15 ∧ ρ 15 ≤ 0 := hB 15 (0, 0) rfl
  have b16 : ((-1) : Int) ≤ ρ 16 ∧ ρ 16 ≤ 23 := hB 16 ((-1), 23) rfl
  have b19 : (24 : Int) ≤ ρ 19 ∧ ρ 19 ≤ 24 := hB 19 (24, 24) rfl
  clear hB
  generalize ρ 14 = r14, ρ 15 = r15, ρ 16 = r16, ρ 19 = r19, α 13 = a13, α 58 = a58, α 64 = a64 at *
  subst f1
  subst f4
  subst_vars
  first
    | rfl
    | assumption
    | exact upd_bk (by assumption))
def w_xf_due_1_2 : VC := (([(0, 23), (0, 49), (0, 8), (1, 10), (0, 8), (0, 6), (0, 6), (0, 8), (0, 9), (0, 49), (0, 49), ((-2147483648), 2147483647), ((-2147483648), 2147483647), (0, 5), (0, 9), (0, 1), ((-1), 23), ((-1), 23), ((-2147483648), 2147483647), (0, 23), (0, 49), (0, 49), ((-2147483648), 2147483647), ((-2147483648), 2147483647), (0, 49), (0, 49), ((-2147483648), 2147483647)]), [(3, [(some 26, 0), (some 18, 0)], []), (94, [(some 26, 0), (some 2, 0)], [68]), (148, [(none, 23), (some 2, 0), (some 3, 0), (some 4, 0), (some 5, 0), (some 6, 0), (none, 0), (none, 0)], [7, 8, 10, 11, 12, 64, 15, 16, 19, 20, 21, 23, 24, 25, 67, 68, 69]), (21, [(some 14, 0), (some 19, 0)], [64, 58]), (2, [(some 19, 0), (none, 24)], []), (187, [(some 14, 0)], [58, 13]), (20, [(some 16, 0), (some 14, 0)], [13])], (187, [(some 14, 0)], [64, 13]))
set_option maxRecDepth 20000 in
theorem v_xf_due_1_2 {PT : PTy} (hp : HP19 PT) : vcOk PT w_xf_due_1_2 := vc_of (fun ρ α hB hF => by
  obtain ⟨f0, f1, f2, f3, f4, f5, f6, -⟩ := hF
  have e94 : PT 94 = P_rps := hp.1.1.1.1.1.1.1.1.1.1.1.1.1.1.1.2.2.2.1
  have e148 : PT 148 = P_yx := hp.1.1.1.1.1.1.1.1.2.2.1
  have e187 : PT 187 = P_bu := hp.1.1.1.1.1.1.2.2.2.2.2.2.2.2.1
  simp only [hF2, hF3, hF20, hF21, hFp_94, hFp_148, hFp_187, e94, e148, e187, P_rps, P_yx, P_bu, den_s, den_c, Int.add_zero, List.map_cons, List.map_nil] at f0 f1 f2 f3 f4 f5 f6 ⊢
  have b2 : (0 : Int) ≤ ρ 2 ∧ ρ 2 ≤ 8 := hB 2 (0, 8) rfl
  have b3 : (1 : Int) ≤ ρ 3 ∧ ρ 3 ≤ 10 := hB 3 (1, 10) rfl
  have b4 : (0 : Int) ≤ ρ 4 ∧ ρ 4 ≤ 8 := hB 4 (0, 8) rfl
  have b5 : (0 : Int) ≤ ρ 5 ∧ ρ 5 ≤ 6 := hB 5 (0, 6) rfl
  have b6 : (0 : Int) ≤ ρ 6 ∧ ρ 6 ≤ 6 := hB 6 (0, 6) rfl
  have b14 : (0 : Int) ≤ ρ 14 ∧ ρ 14 ≤ 9 := hB 14 (0, 9) rfl
  have b16 : ((-1) : Int) ≤ ρ 16 ∧ ρ 16 ≤ 23 := hB 16 ((-1), 23) rfl
  have b18 : ((-2147483648) : Int) ≤ ρ 18 ∧ ρ 18 ≤ 2147483647 := hB 18 ((-2147483648), 2147483647) rfl
  have b19 : (0 : Int) ≤ ρ 19 ∧ ρ 19 ≤ 23 := hB 19 (0, 23) rfl
  have b26 : ((-2147483648) : Int) ≤ ρ 26 ∧ ρ 26 ≤ 2147483647 := hB 26 ((-2147483648), 2147483647) rfl
  clear hB
  generalize ρ 2 = r2, ρ 3 = r3, ρ 4 = r4, ρ 5 = r5, ρ 6 = r6, ρ 14 = r14, ρ 16 = r16, ρ 18 = r18, ρ 19 = r19, ρ 26 = r26, α 7 = a7, α 8 = a8, α 10 = a10, α 11 = a11, α 12 = a12, α 13 = a13, α 15 = a15, α 16 = a16, α 19 = a19, α 20 = a20, α 21 = a21, α 23 = a23, α 24 = a24, α 25 = a25, α 58 = a58, α 64 = a64, α 67 = a67, α 68 = a68, α 69 = a69 at *
  subst f3
  subst f6
  subst_vars
  first
    | exact fun i h => (by first | rfl | trivial)
    | assumption
    | exact bu_up (by assumption)
    | exact bu_up (fun i h => rfl))
def w_xf_due_1_3 : VC := (([(0, 23), (0, 49), (0, 8), (1, 10), (0, 8), (0, 6), (0, 6), (0, 8), (0, 9), (0, 49), (0, 49), ((-2147483648), 2147483647), ((-2147483648), 2147483647), (0, 5), (0, 9), (0, 1), ((-1), 23), ((-1), 23), ((-2147483647), 2147483647), (0, 23), (0, 49), (0, 49), ((-2147483648), 2147483647), ((-2147483648), 2147483647), (0, 49), (0, 49), ((-2147483648), 2147483646), ((-2147483648), 2147483647)]), [(94, [(some 27, 0), (some 2, 0)], [68]), (2, [(some 26, 0), (some 18, 0)], []), (94, [(some 26, 0), (some 2, 0)], [68]), (148, [(none, 23), (some 2, 0), (some 3, 0), (some 4, 0), (some 5, 0), (some 6, 0), (none, 0), (none, 0)], [7, 8, 10, 11, 12, 64, 15, 16, 19, 20, 21, 23, 24, 25, 67, 68, 69]), (21, [(some 14, 0), (some 19, 0)], [64, 58]), (2, [(some 19, 0), (none, 24)], []), (187, [(some 14, 0)], [58, 13]), (20, [(some 16, 0), (some 14, 0)], [13])], (187, [(some 14, 0)], [64, 13]))
set_option maxRecDepth 20000 in
theorem v_xf_due_1_3 {PT : PTy} (hp : HP19 PT) : vcOk PT w_xf_due_1_3 := vc_of (fun ρ α hB hF => by
  obtain ⟨f0, f1, f2, f3, f4, f5, f6, f7, -⟩ := hF
  have e94 : PT 94 = P_rps := hp.1.1.1.1.1.1.1.1.1.1.1.1.1.1.1.2.2.2.1
  have e148 : PT 148 = P_yx := hp.1.1.1.1.1.1.1.1.2.2.1
  have e187 : PT 187 = P_bu := hp.1.1.1.1.1.1.2.2.2.2.2.2.2.2.1
  simp only [hF2, hF20, hF21, hFp_94, hFp_148, hFp_187, e94, e148, e187, P_rps, P_yx, P_bu, den_s, den_c, Int.add_zero, List.map_cons, List.map_nil] at f0 f1 f2 f3 f4 f5 f6 f7 ⊢
  have b2 : (0 : Int) ≤ ρ 2 ∧ ρ 2 ≤ 8 := hB 2 (0, 8) rfl
  have b3 : (1 : Int) ≤ ρ 3 ∧ ρ 3 ≤ 10 := hB 3 (1, 10) rfl
  have b4 : (0 : Int) ≤ ρ 4 ∧ ρ 4 ≤ 8 := hB 4 (0, 8) rfl
  have b5 : (0 : Int) ≤ ρ 5 ∧ ρ 5 ≤ 6 := hB 5 (0, 6) rfl
  have b6 : (0 : Int) ≤ ρ 6 ∧ ρ 6 ≤ 6 := hB 6 (0, 6) rfl
  have b14 : (0 : Int) ≤ ρ 14 ∧ ρ 14 ≤ 9 := hB 14 (0, 9) rfl
  have b16 : ((-1) : Int) ≤ ρ 16 ∧ ρ 16 ≤ 23 := hB 16 ((-1), 23) rfl
  have b18 : ((-2147483647) : Int) ≤ ρ 18 ∧ ρ 18 ≤ 2147483647 := hB 18 ((-2147483647), 2147483647) rfl
  have b19 : (0 : Int) ≤ ρ 19 ∧ ρ 19 ≤ 23 := hB 19 (0, 23) rfl
  have b26 : ((-2147483648) : Int) ≤ ρ 26 ∧ ρ 26 ≤ 2147483646 := hB 26 ((-2147483648), 2147483646) rfl
  have b27 : ((-2147483648) : Int) ≤ ρ 27 ∧ ρ 27 ≤ 2147483647 := hB 27 ((-2147483648), 2147483647) rfl
  clear hB
  generalize ρ 2 = r2, ρ 3 = r3, ρ 4 = r4, ρ 5 = r5, ρ 6 = r6, ρ 14 = r14, ρ 16 = r16, ρ 18 = r18, ρ 19 = r19, ρ 26 = r26, ρ 27 = r27, α 7 = a7, α 8 = a8, α 10 = a10, α 11 = a11, α 12 = a12, α 13 = a13, α 15 = a15, α 16 = a16, α 19 = a19, α 20 = a20, α 21 = a21, α 23 = a23, α 24 = a24, α 25 = a25, α 58 = a58, α 64 = a64, α 67 = a67, α 68 = a68, α 69 = a69 at *
  subst f4
  subst f7
  subst_vars
  first
    | exact fun i h => (by first | rfl | trivial)
    | assumption
    | exact bu_up (by assumption)
    | exact bu_up (fun i h => rfl))
set_option maxRecDepth 1000000 in
theorem k_xf_due {PT : PTy} (hp : HP19 PT) : wfX c_xf_due = true ∧ xcOk PT c_xf_due := xctr (xl (k_allRips14 hp.1.1.1.1.1.1.1.1.1.1.1.1.1.1.1) (xl (k_liveX hp.1.1.1.1.1.1.1.1) (xl0))) c_xf_due 59 mX6_due rfl h_xf_due (by decide +kernel) (by decide +kernel) (by decide) (vcs_by [w_xf_due_0_0, w_xf_due_0_1, w_xf_due_0_2, w_xf_due_0_3, w_xf_due_0_4] (by decide +kernel) (vc (v_xf_due_0_0 hp) (vc (v_xf_due_0_1 hp) (vc (v_xf_due_0_2 hp) (vc (v_xf_due_0_3 hp) (vc (v_xf_due_0_4 hp) vn)))))) (fmc (vcs_by [w_xf_due_1_0, w_xf_due_1_1, w_xf_due_1_2, w_xf_due_1_3] (by decide +kernel) (vc (v_xf_due_1_0 hp) (vc (v_xf_due_1_1 hp) (vc (v_xf_due_1_2 hp) (vc (v_xf_due_1_3 hp) vn))))) fmn)
def c_xf_hush : XC := (64, 5, (bT ++ [((-2147483648), 2147483647)]), [.inr (.inl 0), .inl (some 14, 0)], (gX 999), [], [((bT ++ [((-2147483648), 2147483647), ((-2147483648), 2147483647), (0, 49), (0, 49), ((-2147483648), 2147483647), ((-2147483648), 2147483647)]), some (.inl (some 15, 0)), (hst (gX 999) [(5, .inr (.inr (.inr (0, [.inr (.inl 6), .inr (.inl 9), .inr (.inl 14), .inr (.inl 18), .inr (.inl 22), .inr (.inl 26), .inr (.inl 27), .inr (.inl 28), .inr (.inl 29), .inr (.inl 30), .inl (some 16, 0), .inl (some 17, 0), .inl (some 18, 0), .inl (some 19, 0), .inr (.inl 999)]))))]), (ansT 58 [(26, 58), (27, 59), (28, 60), (29, 61), (30, 62)]), 63, [])])
def h_xf_hush : List XH := []
set_option maxRecDepth 1000000 in
theorem k_xf_hush {PT : PTy} (hp : HP19 PT) : wfX c_xf_hush = true ∧ xcOk PT c_xf_hush := xctr (xl (k_bitCount hp.1.1.1.1.1.1.1.1) (xl (k_toHush hp.1) (xl0))) c_xf_hush 102 mX6_hush rfl h_xf_hush (by decide +kernel) (by decide +kernel) (by decide) (vcs_by [] (by decide +kernel) vn) fmn
def c_xf_never : XC := (67, 4, (bT), [.inr (.inl 0)], (gX 999), [], [((bT ++ [((-2147483648), 2147483647), (0, 49), (0, 49), ((-2147483648), 2147483647)]), some (.inl (some 14, 0)), (hst (gX 14) [(5, .inr (.inr (.inr (0, [.inr (.inl 6), .inr (.inl 9), .inr (.inl 14), .inr (.inl 18), .inr (.inl 22), .inr (.inl 26), .inr (.inl 27), .inr (.inl 28), .inr (.inl 29), .inr (.inl 30), .inl (some 15, 0), .inl (some 16, 0), .inl (some 17, 0), .inl (none, 0), .inr (.inl 14)]))))]), (ansT 58 [(26, 58), (27, 59), (28, 60), (29, 61), (30, 62)]), 63, [])])
def h_xf_never : List XH := [(15, (bT ++ [((-2147483648), 2147483647), (0, 8), (0, 49), (0, 49), ((-2147483648), 2147483647)]), [some (.inr (.inl 0)), some (.inl (some 14, 0)), some (.inl (some 15, 0))], (hst (gX 14) [(5, .inr (.inr (.inr (0, [.inr (.inl 6), .inr (.inl 9), .inr (.inl 14), .inr (.inl 18), .inr (.inl 22), .inr (.inl 26), .inr (.inl 27), .inr (.inl 28), .inr (.inl 29), .inr (.inl 30), .inl (some 16, 0), .inl (some 17, 0), .inl (some 18, 0), .inl (none, 0), .inr (.inl 14)]))))]), (ansT 58 [(26, 58), (27, 59), (28, 60), (29, 61), (30, 62)]), 63, [(87, [(some 16, 0)], [58, 59]), (150, [(some 16, 0), (some 2, 0), (some 3, 0), (some 4, 0), (some 5, 0), (some 6, 0)], [58, 59, 7, 8, 10, 11, 12, 13, 15, 16, 19, 20, 21, 23, 24, 25])], [(true, (none, 1)), (true, (some 15, 0))])]
def w_xf_never_0_0 : VC := ((bT ++ [(0, 49)]), [(86, [(some 2, 0), (some 3, 0), (some 4, 0), (some 5, 0), (some 6, 0), (some 14, 0)], [58, 59, 10, 12, 13, 15, 16, 19, 20, 23, 24])], (87, [(some 14, 0)], [58, 59]))
set_option maxRecDepth 20000 in
theorem v_xf_never_0_0 {PT : PTy} (hp : HP19 PT) : vcOk PT w_xf_never_0_0 := vc_of (fun ρ α hB hF => by
  obtain ⟨f0, -⟩ := hF
  have e86 : PT 86 = P_arr := hp.1.1.1.1.1.1.1.1.1.1.1.1.1.1.1.1.2.2.2.2.2.2.2.1
  have e87 : PT 87 = P_pr := hp.1.1.1.1.1.1.1.1.1.1.1.1.1.1.1.1.2.2.2.2.2.2.2.2.1
  simp only [hFp_86, hFp_87, e86, e87, P_arr, P_pr, den_s, den_c, Int.add_zero, List.map_cons, List.map_nil] at f0 ⊢
  have b2 : (0 : Int) ≤ ρ 2 ∧ ρ 2 ≤ 8 := hB 2 (0, 8) rfl
  have b3 : (0 : Int) ≤ ρ 3 ∧ ρ 3 ≤ 10 := hB 3 (0, 10) rfl
  have b4 : (0 : Int) ≤ ρ 4 ∧ ρ 4 ≤ 8 := hB 4 (0, 8) rfl
  have b5 : (0 : Int) ≤ ρ 5 ∧ ρ 5 ≤ 6 := hB 5 (0, 6) rfl
  have b6 : (0 : Int) ≤ ρ 6 ∧ ρ 6 ≤ 6 := hB 6 (0, 6) rfl
  have b14 : (0 : Int) ≤ ρ 14 ∧ ρ 14 ≤ 49 := hB 14 (0, 49) rfl
  exact (f0).1)
def w_xf_never_0_1 : VC := ((bT ++ [(0, 49)]), [(86, [(some 2, 0), (some 3, 0), (some 4, 0), (some 5, 0), (some 6, 0), (some 14, 0)], [58, 59, 10, 12, 13, 15, 16, 19, 20, 23, 24])], (150, [(some 14, 0), (some 2, 0), (some 3, 0), (some 4, 0), (some 5, 0), (some 6, 0)], [58, 59, 7, 8, 10, 11, 12, 13, 15, 16, 19, 20, 21, 23, 24, 25]))
set_option maxRecDepth 20000 in
theorem v_xf_never_0_1 {PT : PTy} (hp : HP19 PT) : vcOk PT w_xf_never_0_1 := vc_of (fun ρ α hB hF => by
  obtain ⟨f0, -⟩ := hF
  have e86 : PT 86 = P_arr := hp.1.1.1.1.1.1.1.1.1.1.1.1.1.1.1.1.2.2.2.2.2.2.2.1
  have e150 : PT 150 = P_ar2 := hp.1.1.1.1.1.1.1.1.2.2.2.2.1
  simp only [hFp_86, hFp_150, e86, e150, P_arr, P_ar2, den_s, den_c, Int.add_zero, List.map_cons, List.map_nil] at f0 ⊢
  have b2 : (0 : Int) ≤ ρ 2 ∧ ρ 2 ≤ 8 := hB 2 (0, 8) rfl
  have b3 : (0 : Int) ≤ ρ 3 ∧ ρ 3 ≤ 10 := hB 3 (0, 10) rfl
  have b4 : (0 : Int) ≤ ρ 4 ∧ ρ 4 ≤ 8 := hB 4 (0, 8) rfl
  have b5 : (0 : Int) ≤ ρ 5 ∧ ρ 5 ≤ 6 := hB 5 (0, 6) rfl
  have b6 : (0 : Int) ≤ ρ 6 ∧ ρ 6 ≤ 6 := hB 6 (0, 6) rfl
  have b14 : (0 : Int) ≤ ρ 14 ∧ ρ 14 ≤ 49 := hB 14 (0, 49) rfl
  exact f0)
set_option maxRecDepth 1000000 in
theorem k_xf_never {PT : PTy} (hp : HP19 PT) : wfX c_xf_never = true ∧ xcOk PT c_xf_never := xctr (xl (k_arrange14 hp.1.1.1.1.1.1.1.1.1.1.1.1.1.1.1.1) (xl (k_showsAll hp.1.1.1.1) (xl0))) c_xf_never 46 mX6_never rfl h_xf_never (by decide +kernel) (by decide +kernel) (by decide) (vcs_by [w_xf_never_0_0, w_xf_never_0_1] (by decide +kernel) (vc (v_xf_never_0_0 hp) (vc (v_xf_never_0_1 hp) vn))) (fmc (vcs_by [] (by decide +kernel) vn) fmn)
def c_xf_was : XC := (68, 5, (bT ++ [((-2147483648), 2147483647), ((-2147483648), 2147483647)]), [.inr (.inl 0), .inl (some 14, 0), .inl (some 15, 0)], (gX 999), [], [((bT ++ [((-2147483648), 2147483647), ((-2147483648), 2147483647), ((-2147483648), 2147483647), (0, 49), (0, 49), ((-2147483648), 2147483647), ((-2147483648), 2147483647)]), some (.inl (some 16, 0)), (hst (gX 999) [(5, .inr (.inr (.inr (0, [.inr (.inl 6), .inr (.inl 9), .inr (.inl 14), .inr (.inl 18), .inr (.inl 22), .inr (.inl 26), .inr (.inl 27), .inr (.inl 28), .inr (.inl 29), .inr (.inl 30), .inl (some 17, 0), .inl (some 18, 0), .inl (some 19, 0), .inl (some 20, 0), .inr (.inl 999)]))))]), (ansT 58 [(7, 58), (8, 59), (26, 60), (27, 61), (28, 62), (29, 63), (30, 64)]), 65, [(27, [], [58, 7]), (27, [], [59, 8])])])
def h_xf_was : List XH := []
def w_xf_was_0_0 : VC := ((bT ++ [((-2147483648), (-1)), ((-2147483648), 2147483647)]), [(0, [(none, 0), (none, 0)], []), (2, [(some 14, 0), (none, 0)], [])], (27, [], [7, 7]))
theorem v_xf_was_0_0 {PT : PTy} (_ : HP19 PT) : vcOk PT w_xf_was_0_0 := vc_of (fun ρ α _ _ => rfl)
def w_xf_was_0_1 : VC := ((bT ++ [((-2147483648), (-1)), ((-2147483648), 2147483647)]), [(0, [(none, 0), (none, 0)], []), (2, [(some 14, 0), (none, 0)], [])], (27, [], [8, 8]))
theorem v_xf_was_0_1 {PT : PTy} (_ : HP19 PT) : vcOk PT w_xf_was_0_1 := vc_of (fun ρ α _ _ => rfl)
def w_xf_was_0_2 : VC := ((bT ++ [(0, 2147483647), ((-2147483648), 2147483647)]), [(0, [(none, 0), (none, 0)], []), (3, [(some 14, 0), (some 2, 0)], []), (3, [(some 14, 0), (none, 0)], [])], (27, [], [7, 7]))
theorem v_xf_was_0_2 {PT : PTy} (_ : HP19 PT) : vcOk PT w_xf_was_0_2 := vc_of (fun ρ α _ _ => rfl)
def w_xf_was_0_3 : VC := ((bT ++ [(0, 2147483647), ((-2147483648), 2147483647)]), [(0, [(none, 0), (none, 0)], []), (3, [(some 14, 0), (some 2, 0)], []), (3, [(some 14, 0), (none, 0)], [])], (27, [], [8, 8]))
theorem v_xf_was_0_3 {PT : PTy} (_ : HP19 PT) : vcOk PT w_xf_was_0_3 := vc_of (fun ρ α _ _ => rfl)
def w_xf_was_0_4 : VC := (([(0, 23), (0, 49), (1, 8), (0, 10), (0, 8), (0, 6), (0, 6), (0, 8), (0, 9), (0, 49), (0, 49), ((-2147483648), 2147483647), ((-2147483648), 2147483647), (0, 5), (0, 7), ((-2147483648), (-1))]), [(0, [(none, 0), (none, 0)], []), (2, [(some 15, 0), (none, 0)], []), (1, [(none, 1), (none, 0)], []), (2, [(some 14, 0), (some 2, 0)], []), (3, [(some 14, 0), (none, 0)], [])], (27, [], [7, 7]))
theorem v_xf_was_0_4 {PT : PTy} (_ : HP19 PT) : vcOk PT w_xf_was_0_4 := vc_of (fun ρ α _ _ => rfl)
def w_xf_was_0_5 : VC := (([(0, 23), (0, 49), (1, 8), (0, 10), (0, 8), (0, 6), (0, 6), (0, 8), (0, 9), (0, 49), (0, 49), ((-2147483648), 2147483647), ((-2147483648), 2147483647), (0, 5), (0, 7), ((-2147483648), (-1))]), [(0, [(none, 0), (none, 0)], []), (2, [(some 15, 0), (none, 0)], []), (1, [(none, 1), (none, 0)], []), (2, [(some 14, 0), (some 2, 0)], []), (3, [(some 14, 0), (none, 0)], [])], (27, [], [8, 8]))
theorem v_xf_was_0_5 {PT : PTy} (_ : HP19 PT) : vcOk PT w_xf_was_0_5 := vc_of (fun ρ α _ _ => rfl)
def w_xf_was_0_6 : VC := (([(0, 23), (0, 49), (1, 8), (0, 10), (0, 8), (0, 6), (0, 6), (0, 8), (0, 9), (0, 49), (0, 49), ((-2147483648), 2147483647), ((-2147483648), 2147483647), (0, 5), (0, 7), (2, 2147483647)]), [(0, [(none, 0), (none, 0)], []), (2, [(none, 1), (some 15, 0)], []), (3, [(some 15, 0), (none, 0)], []), (1, [(none, 1), (none, 0)], []), (2, [(some 14, 0), (some 2, 0)], []), (3, [(some 14, 0), (none, 0)], [])], (27, [], [7, 7]))
theorem v_xf_was_0_6 {PT : PTy} (_ : HP19 PT) : vcOk PT w_xf_was_0_6 := vc_of (fun ρ α _ _ => rfl)
def w_xf_was_0_7 : VC := (([(0, 23), (0, 49), (1, 8), (0, 10), (0, 8), (0, 6), (0, 6), (0, 8), (0, 9), (0, 49), (0, 49), ((-2147483648), 2147483647), ((-2147483648), 2147483647), (0, 5), (0, 7), (2, 2147483647)]), [(0, [(none, 0), (none, 0)], []), (2, [(none, 1), (some 15, 0)], []), (3, [(some 15, 0), (none, 0)], []), (1, [(none, 1), (none, 0)], []), (2, [(some 14, 0), (some 2, 0)], []), (3, [(some 14, 0), (none, 0)], [])], (27, [], [8, 8]))
theorem v_xf_was_0_7 {PT : PTy} (_ : HP19 PT) : vcOk PT w_xf_was_0_7 := vc_of (fun ρ α _ _ => rfl)
def w_xf_was_0_8 : VC := (([(0, 23), (0, 49), (1, 8), (0, 10), (0, 8), (0, 6), (0, 6), (0, 8), (0, 9), (0, 49), (0, 49), ((-2147483648), 2147483647), ((-2147483648), 2147483647), (0, 5), (0, 7), (1, 1), (0, 49)]), [(1, [(some 15, 0), (none, 0)], []), (86, [(some 2, 0), (some 3, 0), (some 4, 0), (some 5, 0), (some 6, 0), (some 16, 0)], [58, 59, 10, 12, 13, 15, 16, 19, 20, 23, 24]), (1, [(none, 1), (none, 0)], []), (3, [(none, 1), (some 15, 0)], []), (3, [(some 15, 0), (none, 0)], []), (1, [(none, 1), (none, 0)], []), (2, [(some 14, 0), (some 2, 0)], []), (3, [(some 14, 0), (none, 0)], [])], (150, [(some 16, 0), (some 2, 0), (some 3, 0), (some 4, 0), (some 5, 0), (some 6, 0)], [58, 59, 7, 8, 10, 11, 12, 13, 15, 16, 19, 20, 21, 23, 24, 25]))
set_option maxRecDepth 20000 in
theorem v_xf_was_0_8 {PT : PTy} (hp : HP19 PT) : vcOk PT w_xf_was_0_8 := vc_of (fun ρ α hB hF => by
  obtain ⟨-, f1, -, -, -, -, f6, -, -⟩ := hF
  have e86 : PT 86 = P_arr := hp.1.1.1.1.1.1.1.1.1.1.1.1.1.1.1.1.2.2.2.2.2.2.2.1
  have e150 : PT 150 = P_ar2 := hp.1.1.1.1.1.1.1.1.2.2.2.2.1
  simp only [hF2, hFp_86, hFp_150, e86, e150, P_arr, P_ar2, den_s, den_c, Int.add_zero, List.map_cons, List.map_nil] at f1 f6 ⊢
  have b2 : (1 : Int) ≤ ρ 2 ∧ ρ 2 ≤ 8 := hB 2 (1, 8) rfl
  have b3 : (0 : Int) ≤ ρ 3 ∧ ρ 3 ≤ 10 := hB 3 (0, 10) rfl
  have b4 : (0 : Int) ≤ ρ 4 ∧ ρ 4 ≤ 8 := hB 4 (0, 8) rfl
  have b5 : (0 : Int) ≤ ρ 5 ∧ ρ 5 ≤ 6 := hB 5 (0, 6) rfl
  have b6 : (0 : Int) ≤ ρ 6 ∧ ρ 6 ≤ 6 := hB 6 (0, 6) rfl
  have b14 : (0 : Int) ≤ ρ 14 ∧ ρ 14 ≤ 7 := hB 14 (0, 7) rfl
  have b16 : (0 : Int) ≤ ρ 16 ∧ ρ 16 ≤ 49 := hB 16 (0, 49) rfl
  omega)
def w_xf_was_0_9 : VC := (([(0, 23), (0, 49), (1, 8), (0, 10), (0, 8), (0, 6), (0, 6), (0, 8), (0, 9), (0, 49), (0, 49), ((-2147483648), 2147483647), ((-2147483648), 2147483647), (0, 5), (0, 7), (1, 1), (0, 49), ((-2147483648), 2147483647), (0, 49)]), [(204, [(none, 3), (some 17, 0), (some 14, 0), (some 7, 0), (some 2, 0), (some 3, 0), (some 4, 0), (some 5, 0), (some 6, 0), (none, 0), (none, 0)], [7, 8, 10, 11, 12, 13, 15, 16, 19, 20, 21, 23, 24, 25, 32, 33, 34]), (27, [], [60, 7]), (1, [(some 15, 0), (none, 0)], []), (86, [(some 2, 0), (some 3, 0), (some 4, 0), (some 5, 0), (some 6, 0), (some 16, 0)], [58, 59, 10, 12, 13, 15, 16, 19, 20, 23, 24]), (1, [(none, 1), (none, 0)], []), (3, [(none, 1), (some 15, 0)], []), (3, [(some 15, 0), (none, 0)], []), (1, [(none, 1), (none, 0)], []), (2, [(some 14, 0), (some 2, 0)], []), (3, [(some 14, 0), (none, 0)], [])], (27, [], [8, 8]))
theorem v_xf_was_0_9 {PT : PTy} (_ : HP19 PT) : vcOk PT w_xf_was_0_9 := vc_of (fun ρ α _ _ => rfl)
def w_xf_was_0_10 : VC := (([(0, 23), (0, 49), (1, 8), (0, 10), (0, 8), (0, 6), (0, 6), (0, 8), (0, 9), (0, 49), (0, 49), ((-2147483648), 2147483647), ((-2147483648), 2147483647), (0, 5), (0, 7), (0, 0), (0, 49)]), [(0, [(some 15, 0), (none, 0)], []), (86, [(some 2, 0), (some 3, 0), (some 4, 0), (some 5, 0), (some 6, 0), (some 16, 0)], [58, 59, 10, 12, 13, 15, 16, 19, 20, 23, 24]), (1, [(none, 1), (none, 0)], []), (3, [(none, 1), (some 15, 0)], []), (3, [(some 15, 0), (none, 0)], []), (1, [(none, 1), (none, 0)], []), (2, [(some 14, 0), (some 2, 0)], []), (3, [(some 14, 0), (none, 0)], [])], (150, [(some 16, 0), (some 2, 0), (some 3, 0), (some 4, 0), (some 5, 0), (some 6, 0)], [58, 59, 7, 8, 10, 11, 12, 13, 15, 16, 19, 20, 21, 23, 24, 25]))
set_option maxRecDepth 20000 in
theorem v_xf_was_0_10 {PT : PTy} (hp : HP19 PT) : vcOk PT w_xf_was_0_10 := vc_of (fun ρ α hB hF => by
  obtain ⟨f0, f1, -, -, -, -, f6, -, -⟩ := hF
  have e86 : PT 86 = P_arr := hp.1.1.1.1.1.1.1.1.1.1.1.1.1.1.1.1.2.2.2.2.2.2.2.1
  have e150 : PT 150 = P_ar2 := hp.1.1.1.1.1.1.1.1.2.2.2.2.1
  simp only [hF0, hF2, hFp_86, hFp_150, e86, e150, P_arr, P_ar2, den_s, den_c, Int.add_zero, List.map_cons, List.map_nil] at f0 f1 f6 ⊢
  have b2 : (1 : Int) ≤ ρ 2 ∧ ρ 2 ≤ 8 := hB 2 (1, 8) rfl
  have b3 : (0 : Int) ≤ ρ 3 ∧ ρ 3 ≤ 10 := hB 3 (0, 10) rfl
  have b4 : (0 : Int) ≤ ρ 4 ∧ ρ 4 ≤ 8 := hB 4 (0, 8) rfl
  have b5 : (0 : Int) ≤ ρ 5 ∧ ρ 5 ≤ 6 := hB 5 (0, 6) rfl
  have b6 : (0 : Int) ≤ ρ 6 ∧ ρ 6 ≤ 6 := hB 6 (0, 6) rfl
  have b14 : (0 : Int) ≤ ρ 14 ∧ ρ 14 ≤ 7 := hB 14 (0, 7) rfl
  have b15 : (0 : Int) ≤ ρ 15 ∧ ρ 15 ≤ 0 := hB 15 (0, 0) rfl
  have b16 : (0 : Int) ≤ ρ 16 ∧ ρ 16 ≤ 49 := hB 16 (0, 49) rfl
  omega)
def w_xf_was_0_11 : VC := (([(0, 23), (0, 49), (1, 8), (0, 10), (0, 8), (0, 6), (0, 6), (0, 8), (0, 9), (0, 49), (0, 49), ((-2147483648), 2147483647), ((-2147483648), 2147483647), (0, 5), (0, 7), (0, 0), (0, 49), ((-2147483648), 2147483647), (0, 49)]), [(203, [(none, 10), (some 17, 0), (some 14, 0), (some 7, 0), (some 2, 0), (some 3, 0), (some 4, 0), (some 5, 0), (some 6, 0), (none, 0), (none, 0)], [7, 8, 10, 11, 12, 13, 15, 16, 19, 20, 21, 23, 24, 25, 32, 33, 34]), (27, [], [60, 8]), (0, [(some 15, 0), (none, 0)], []), (86, [(some 2, 0), (some 3, 0), (some 4, 0), (some 5, 0), (some 6, 0), (some 16, 0)], [58, 59, 10, 12, 13, 15, 16, 19, 20, 23, 24]), (1, [(none, 1), (none, 0)], []), (3, [(none, 1), (some 15, 0)], []), (3, [(some 15, 0), (none, 0)], []), (1, [(none, 1), (none, 0)], []), (2, [(some 14, 0), (some 2, 0)], []), (3, [(some 14, 0), (none, 0)], [])], (27, [], [7, 7]))
theorem v_xf_was_0_11 {PT : PTy} (_ : HP19 PT) : vcOk PT w_xf_was_0_11 := vc_of (fun ρ α _ _ => rfl)
set_option maxRecDepth 1000000 in
theorem k_xf_was {PT : PTy} (hp : HP19 PT) : wfX c_xf_was = true ∧ xcOk PT c_xf_was := xctr (xl (k_arrange14 hp.1.1.1.1.1.1.1.1.1.1.1.1.1.1.1.1) (xl (k_fvS hp.1.1.1) (xl (k_fvO hp.1.1.1) (xl0)))) c_xf_was 62 mX6_was rfl h_xf_was (by decide +kernel) (by decide +kernel) (by decide) (vcs_by [w_xf_was_0_0, w_xf_was_0_1, w_xf_was_0_2, w_xf_was_0_3, w_xf_was_0_4, w_xf_was_0_5, w_xf_was_0_6, w_xf_was_0_7, w_xf_was_0_8, w_xf_was_0_9, w_xf_was_0_10, w_xf_was_0_11] (by decide +kernel) (vc (v_xf_was_0_0 hp) (vc (v_xf_was_0_1 hp) (vc (v_xf_was_0_2 hp) (vc (v_xf_was_0_3 hp) (vc (v_xf_was_0_4 hp) (vc (v_xf_was_0_5 hp) (vc (v_xf_was_0_6 hp) (vc (v_xf_was_0_7 hp) (vc (v_xf_was_0_8 hp) (vc (v_xf_was_0_9 hp) (vc (v_xf_was_0_10 hp) (vc (v_xf_was_0_11 hp) vn))))))))))))) fmn
def c_xf_ask : XC := (69, 5, (bT ++ [((-2147483648), 2147483647)]), [.inr (.inl 0), .inl (some 14, 0)], (gX 999), [], [((bT ++ [((-2147483648), 2147483647), ((-2), 23), (0, 49), (0, 49), ((-2147483648), 2147483647), ((-2147483648), 2147483647)]), some (.inl (some 15, 0)), (hst (gX 999) [(5, .inr (.inr (.inr (0, [.inr (.inl 6), .inr (.inl 9), .inr (.inl 14), .inr (.inl 18), .inr (.inl 22), .inr (.inl 26), .inr (.inl 27), .inr (.inl 28), .inr (.inl 29), .inr (.inl 30), .inl (some 16, 0), .inl (some 17, 0), .inl (some 18, 0), .inl (some 19, 0), .inr (.inl 999)]))))]), [0, 1, 2, 3, 4, 5, 6, 7, 58, 9, 10, 11, 12, 13, 14, 15, 16, 17, 18, 19, 20, 21, 22, 23, 24, 25, 59, 60, 61, 62, 63, 31, 32, 33, 34, 35, 36, 37, 38, 39, 40, 41, 42, 43, 44, 45, 46, 47, 64, 65, 66, 67, 68, 69, 70, 71, 72, 73], 74, [(27, [], [58, 8])])])
def h_xf_ask : List XH := [(54, ([(0, 23), (0, 49), (1, 8), (0, 10), (0, 8), (0, 6), (0, 6), (0, 8), (0, 9), (0, 49), (0, 49), ((-2147483648), 2147483647), ((-2147483648), 2147483647), (0, 5), (0, 7), ((-2147483648), 2147483647), ((-1), 23), (0, 11), (0, 24), (0, 49), (0, 49)]), [some (.inr (.inl 0)), some (.inl (some 14, 0)), some (.inl (some 15, 0)), some (.inl (some 16, 0)), some (.inl (some 17, 0)), some (.inl (some 18, 0)), none], (hst (gX 14) [(5, .inr (.inr (.inr (0, [.inr (.inl 6), .inr (.inl 9), .inr (.inl 14), .inr (.inl 18), .inr (.inl 22), .inr (.inl 26), .inr (.inl 27), .inr (.inl 28), .inr (.inl 29), .inr (.inl 30), .inl (some 19, 0), .inl (some 20, 0), .inl (none, 0), .inl (none, 0), .inr (.inl 14)]))))]), [0, 1, 2, 3, 4, 5, 6, 7, 58, 9, 10, 11, 12, 13, 14, 15, 16, 17, 18, 19, 20, 21, 22, 23, 24, 25, 59, 60, 61, 62, 63, 31, 32, 33, 34, 35, 36, 37, 38, 39, 40, 41, 42, 43, 44, 45, 46, 47, 64, 65, 66, 67, 68, 69, 70, 71, 72, 73], 74, [(27, [], [58, 8])], [(true, (none, 1)), (true, (some 18, 0))])]
def w_xf_ask_0_0 : VC := ((bT ++ [((-2147483648), (-1))]), [(0, [(none, 0), (none, 0)], []), (2, [(some 14, 0), (none, 0)], [])], (27, [], [8, 8]))
theorem v_xf_ask_0_0 {PT : PTy} (_ : HP19 PT) : vcOk PT w_xf_ask_0_0 := vc_of (fun ρ α _ _ => rfl)
def w_xf_ask_0_1 : VC := ((bT ++ [(0, 2147483647)]), [(0, [(none, 0), (none, 0)], []), (3, [(some 14, 0), (some 2, 0)], []), (3, [(some 14, 0), (none, 0)], [])], (27, [], [8, 8]))
theorem v_xf_ask_0_1 {PT : PTy} (_ : HP19 PT) : vcOk PT w_xf_ask_0_1 := vc_of (fun ρ α _ _ => rfl)
def w_xf_ask_0_2 : VC := (([(0, 23), (0, 49), (1, 8), (0, 10), (0, 8), (0, 6), (0, 6), (0, 8), (0, 9), (0, 49), (0, 49), ((-2147483648), 2147483647), ((-2147483648), 2147483647), (0, 5), (0, 7), (0, 49)]), [(86, [(some 2, 0), (some 3, 0), (some 4, 0), (some 5, 0), (some 6, 0), (some 15, 0)], [58, 59, 10, 12, 13, 15, 16, 19, 20, 23, 24]), (1, [(none, 1), (none, 0)], []), (2, [(some 14, 0), (some 2, 0)], []), (3, [(some 14, 0), (none, 0)], [])], (150, [(some 15, 0), (some 2, 0), (some 3, 0), (some 4, 0), (some 5, 0), (some 6, 0)], [58, 59, 7, 8, 10, 11, 12, 13, 15, 16, 19, 20, 21, 23, 24, 25]))
set_option maxRecDepth 20000 in
theorem v_xf_ask_0_2 {PT : PTy} (hp : HP19 PT) : vcOk PT w_xf_ask_0_2 := vc_of (fun ρ α hB hF => by
  obtain ⟨f0, -, f2, -, -⟩ := hF
  have e86 : PT 86 = P_arr := hp.1.1.1.1.1.1.1.1.1.1.1.1.1.1.1.1.2.2.2.2.2.2.2.1
  have e150 : PT 150 = P_ar2 := hp.1.1.1.1.1.1.1.1.2.2.2.2.1
  simp only [hF2, hFp_86, hFp_150, e86, e150, P_arr, P_ar2, den_s, den_c, Int.add_zero, List.map_cons, List.map_nil] at f0 f2 ⊢
  have b2 : (1 : Int) ≤ ρ 2 ∧ ρ 2 ≤ 8 := hB 2 (1, 8) rfl
  have b3 : (0 : Int) ≤ ρ 3 ∧ ρ 3 ≤ 10 := hB 3 (0, 10) rfl
  have b4 : (0 : Int) ≤ ρ 4 ∧ ρ 4 ≤ 8 := hB 4 (0, 8) rfl
  have b5 : (0 : Int) ≤ ρ 5 ∧ ρ 5 ≤ 6 := hB 5 (0, 6) rfl
  have b6 : (0 : Int) ≤ ρ 6 ∧ ρ 6 ≤ 6 := hB 6 (0, 6) rfl
  have b14 : (0 : Int) ≤ ρ 14 ∧ ρ 14 ≤ 7 := hB 14 (0, 7) rfl
  have b15 : (0 : Int) ≤ ρ 15 ∧ ρ 15 ≤ 49 := hB 15 (0, 49) rfl
  omega)
def w_xf_ask_0_3 : VC := (([(0, 23), (0, 49), (1, 8), (0, 10), (0, 8), (0, 6), (0, 6), (0, 8), (0, 9), (0, 49), (0, 49), ((-2147483648), 2147483647), ((-2147483648), 2147483647), (0, 5), (0, 7), (0, 49), ((-2147483648), 2147483647), (0, 49)]), [(203, [(none, 10), (some 16, 0), (some 14, 0), (some 7, 0), (some 2, 0), (some 3, 0), (some 4, 0), (some 5, 0), (some 6, 0), (none, 0), (none, 0)], [7, 8, 10, 11, 12, 13, 15, 16, 19, 20, 21, 23, 24, 25, 32, 33, 34]), (27, [], [60, 8]), (86, [(some 2, 0), (some 3, 0), (some 4, 0), (some 5, 0), (some 6, 0), (some 15, 0)], [58, 59, 10, 12, 13, 15, 16, 19, 20, 23, 24]), (1, [(none, 1), (none, 0)], []), (2, [(some 14, 0), (some 2, 0)], []), (3, [(some 14, 0), (none, 0)], [])], (150, [(some 15, 0), (some 2, 0), (some 3, 0), (some 4, 0), (some 5, 0), (some 6, 0)], [58, 59, 7, 60, 10, 11, 12, 13, 15, 16, 19, 20, 21, 23, 24, 25]))
set_option maxRecDepth 20000 in
theorem v_xf_ask_0_3 {PT : PTy} (hp : HP19 PT) : vcOk PT w_xf_ask_0_3 := vc_of (fun ρ α hB hF => by
  obtain ⟨f0, f1, f2, -, f4, -, -⟩ := hF
  have e86 : PT 86 = P_arr := hp.1.1.1.1.1.1.1.1.1.1.1.1.1.1.1.1.2.2.2.2.2.2.2.1
  have e150 : PT 150 = P_ar2 := hp.1.1.1.1.1.1.1.1.2.2.2.2.1
  have e203 : PT 203 = P_wsI := hp.1.1.1.2.1
  simp only [hF2, hF27, hFp_86, hFp_150, hFp_203, e86, e150, e203, P_arr, P_ar2, P_wsI, den_s, den_c, Int.add_zero, List.map_cons, List.map_nil] at f0 f1 f2 f4 ⊢
  have b2 : (1 : Int) ≤ ρ 2 ∧ ρ 2 ≤ 8 := hB 2 (1, 8) rfl
  have b3 : (0 : Int) ≤ ρ 3 ∧ ρ 3 ≤ 10 := hB 3 (0, 10) rfl
  have b4 : (0 : Int) ≤ ρ 4 ∧ ρ 4 ≤ 8 := hB 4 (0, 8) rfl
  have b5 : (0 : Int) ≤ ρ 5 ∧ ρ 5 ≤ 6 := hB 5 (0, 6) rfl
  have b6 : (0 : Int) ≤ ρ 6 ∧ ρ 6 ≤ 6 := hB 6 (0, 6) rfl
  have b7 : (0 : Int) ≤ ρ 7 ∧ ρ 7 ≤ 8 := hB 7 (0, 8) rfl
  have b14 : (0 : Int) ≤ ρ 14 ∧ ρ 14 ≤ 7 := hB 14 (0, 7) rfl
  have b15 : (0 : Int) ≤ ρ 15 ∧ ρ 15 ≤ 49 := hB 15 (0, 49) rfl
  have b16 : ((-2147483648) : Int) ≤ ρ 16 ∧ ρ 16 ≤ 2147483647 := hB 16 ((-2147483648), 2147483647) rfl
  omega)
def w_xf_ask_0_4 : VC := (([(0, 23), (0, 49), (1, 8), (0, 10), (0, 8), (0, 6), (0, 6), (0, 8), (0, 9), (0, 49), (0, 49), ((-2147483648), 2147483647), ((-2147483648), 2147483647), (0, 5), (0, 7), (0, 49), ((-2147483648), 2147483647), (0, 49), (0, 49)]), [(224, [(none, 10), (none, 0), (some 14, 0), (some 2, 0), (some 3, 0), (some 4, 0), (some 5, 0), (some 6, 0), (none, 0), (none, 0)], [7, 60, 10, 11, 12, 13, 15, 16, 19, 20, 21, 23, 24, 25, 68, 69, 70, 71, 72, 73, 74, 75, 76, 77]), (27, [], [64, 60]), (203, [(none, 10), (some 16, 0), (some 14, 0), (some 7, 0), (some 2, 0), (some 3, 0), (some 4, 0), (some 5, 0), (some 6, 0), (none, 0), (none, 0)], [7, 8, 10, 11, 12, 13, 15, 16, 19, 20, 21, 23, 24, 25, 32, 33, 34]), (27, [], [60, 8]), (86, [(some 2, 0), (some 3, 0), (some 4, 0), (some 5, 0), (some 6, 0), (some 15, 0)], [58, 59, 10, 12, 13, 15, 16, 19, 20, 23, 24]), (1, [(none, 1), (none, 0)], []), (2, [(some 14, 0), (some 2, 0)], []), (3, [(some 14, 0), (none, 0)], [])], (27, [], [64, 8]))
set_option maxRecDepth 20000 in
theorem v_xf_ask_0_4 {PT : PTy} (hp : HP19 PT) : vcOk PT w_xf_ask_0_4 := vc_of (fun ρ α hB hF => by
  obtain ⟨f0, f1, f2, f3, f4, f5, f6, f7, -⟩ := hF
  have e86 : PT 86 = P_arr := hp.1.1.1.1.1.1.1.1.1.1.1.1.1.1.1.1.2.2.2.2.2.2.2.1
  have e203 : PT 203 = P_wsI := hp.1.1.1.2.1
  have e224 : PT 224 = P_ncI := hp.2.1
  simp only [hF1, hF2, hF3, hF27, hFp_86, hFp_203, hFp_224, e86, e203, e224, P_arr, P_wsI, P_ncI, den_s, den_c, Int.add_zero, List.map_cons, List.map_nil] at f0 f1 f2 f3 f4 f5 f6 f7 ⊢
  have b2 : (1 : Int) ≤ ρ 2 ∧ ρ 2 ≤ 8 := hB 2 (1, 8) rfl
  have b3 : (0 : Int) ≤ ρ 3 ∧ ρ 3 ≤ 10 := hB 3 (0, 10) rfl
  have b4 : (0 : Int) ≤ ρ 4 ∧ ρ 4 ≤ 8 := hB 4 (0, 8) rfl
  have b5 : (0 : Int) ≤ ρ 5 ∧ ρ 5 ≤ 6 := hB 5 (0, 6) rfl
  have b6 : (0 : Int) ≤ ρ 6 ∧ ρ 6 ≤ 6 := hB 6 (0, 6) rfl
  have b7 : (0 : Int) ≤ ρ 7 ∧ ρ 7 ≤ 8 := hB 7 (0, 8) rfl
  have b14 : (0 : Int) ≤ ρ 14 ∧ ρ 14 ≤ 7 := hB 14 (0, 7) rfl
  have b15 : (0 : Int) ≤ ρ 15 ∧ ρ 15 ≤ 49 := hB 15 (0, 49) rfl
  have b16 : ((-2147483648) : Int) ≤ ρ 16 ∧ ρ 16 ≤ 2147483647 := hB 16 ((-2147483648), 2147483647) rfl
  clear hB
  generalize ρ 2 = r2, ρ 3 = r3, ρ 4 = r4, ρ 5 = r5, ρ 6 = r6, ρ 7 = r7, ρ 14 = r14, ρ 15 = r15, ρ 16 = r16, α 7 = a7, α 8 = a8, α 10 = a10, α 11 = a11, α 12 = a12, α 13 = a13, α 15 = a15, α 16 = a16, α 19 = a19, α 20 = a20, α 21 = a21, α 23 = a23, α 24 = a24, α 25 = a25, α 32 = a32, α 33 = a33, α 34 = a34, α 58 = a58, α 59 = a59, α 60 = a60, α 64 = a64, α 68 = a68, α 69 = a69, α 70 = a70, α 71 = a71, α 72 = a72, α 73 = a73, α 74 = a74, α 75 = a75, α 76 = a76, α 77 = a77 at *
  subst_vars
  first
    | rfl
    | assumption
    | exact upd_bk (by assumption))
set_option maxRecDepth 1000000 in
theorem k_xf_ask {PT : PTy} (hp : HP19 PT) : wfX c_xf_ask = true ∧ xcOk PT c_xf_ask := xctr (xl (k_arrange14 hp.1.1.1.1.1.1.1.1.1.1.1.1.1.1.1.1) (xl (k_fvS hp.1.1.1) (xl (k_noteC hp) (xl (k_mostA hp) (xl0))))) c_xf_ask 57 mX6_ask rfl h_xf_ask (by decide +kernel) (by decide +kernel) (by decide) (vcs_by [w_xf_ask_0_0, w_xf_ask_0_1, w_xf_ask_0_2, w_xf_ask_0_3, w_xf_ask_0_4] (by decide +kernel) (vc (v_xf_ask_0_0 hp) (vc (v_xf_ask_0_1 hp) (vc (v_xf_ask_0_2 hp) (vc (v_xf_ask_0_3 hp) (vc (v_xf_ask_0_4 hp) vn)))))) (fmc (vcs_by [] (by decide +kernel) vn) fmn)
def c_au_X6_drawKeepings_0 : XC := (97, 1, (bT ++ [((-2147483648), 2147483647), (0, 8)]), [.inr (.inl 0), .inl (some 14, 0), .inl (some 15, 0)], (gX 999), [], [((bT ++ [((-2147483648), 2147483647), (0, 8), (0, 9)]), none, (hst (gX 999) [(35, .inr (.inr (.inr (4, [.inr (.inl 36), .inr (.inl 37), .inr (.inl 38), .inl (none, 8), .inl (some 16, 0)]))))]), (ansT 58 [(36, 58), (37, 59), (38, 60)]), 61, [])])
def h_au_X6_drawKeepings_0 : List XH := [(24, ([(0, 23), (0, 49), (0, 8), (1, 10), (0, 8), (0, 6), (0, 6), (0, 8), (0, 9), (0, 49), (0, 49), ((-2147483648), 2147483647), ((-2147483648), 2147483647), (0, 5), ((-2147483648), 2147483647), (0, 8), ((-2147483648), 2147483647), (0, 8), (0, 9)]), [some (.inr (.inl 0)), some (.inl (some 14, 0)), some (.inl (some 15, 0)), some (.inl (some 16, 0)), some (.inl (some 17, 0)), none], (hst (gX 999) [(35, .inr (.inr (.inr (4, [.inr (.inl 36), .inr (.inl 37), .inr (.inl 38), .inl (none, 8), .inl (some 18, 0)]))))]), (ansT 58 [(36, 58), (37, 59), (38, 60)]), 61, [], [(true, (none, 1)), (true, (some 17, 0))])]
set_option maxRecDepth 1000000 in
theorem k_au_X6_drawKeepings_0 {PT : PTy} (hp : HP19 PT) : wfX c_au_X6_drawKeepings_0 = true ∧ xcOk PT c_au_X6_drawKeepings_0 := xctr (xl0) c_au_X6_drawKeepings_0 94 mX6_drawKeepings rfl h_au_X6_drawKeepings_0 (by decide +kernel) (by decide +kernel) (by decide) (vcs_by [] (by decide +kernel) vn) (fmc (vcs_by [] (by decide +kernel) vn) fmn)
def c_au_J6_bitCount__1 : XC := (201, 0, (bX ++ [((-2147483648), 2147483647)]), [.inl (some 14, 0)], (gX 35), [], [((bX ++ [((-2147483648), 2147483647), ((-2147483648), 2147483647)]), some (.inl (some 15, 0)), (gX 35), (List.range 58), 58, [])])
def h_au_J6_bitCount__1 : List XH := []
set_option maxRecDepth 1000000 in
theorem k_au_J6_bitCount__1 {PT : PTy} (hp : HP19 PT) : wfX c_au_J6_bitCount__1 = true ∧ xcOk PT c_au_J6_bitCount__1 := xctr (xl0) c_au_J6_bitCount__1 62 mJ6_bitCount_0f7a4 rfl h_au_J6_bitCount__1 (by decide +kernel) (by decide +kernel) (by decide) (vcs_by [] (by decide +kernel) vn) fmn
def c_xf_year : XC := (71, 3, (bT ++ [((-2147483648), 2147483647), ((-2147483648), 2147483647), ((-2147483648), 2147483647)]), [.inr (.inl 0), .inl (some 14, 0), .inl (some 15, 0), .inl (some 16, 0)], (gX 999), [], [((bT ++ [((-2147483648), 2147483647), ((-2147483648), 2147483647), ((-2147483648), 2147483647), ((-2147483648), 2147483647), (0, 49), (0, 49), ((-2147483648), 2147483647), ((-2147483648), 2147483647), (0, 9)]), some (.inl (some 17, 0)), (hst (gX 999) [(5, .inr (.inr (.inr (0, [.inr (.inl 6), .inr (.inl 9), .inr (.inl 14), .inr (.inl 18), .inr (.inl 22), .inr (.inl 26), .inr (.inl 27), .inr (.inl 28), .inr (.inl 29), .inr (.inl 30), .inl (some 18, 0), .inl (some 19, 0), .inl (some 20, 0), .inl (some 21, 0), .inr (.inl 999)])))), (35, .inr (.inr (.inr (4, [.inr (.inl 36), .inr (.inl 37), .inr (.inl 38), .inl (none, 8), .inl (some 22, 0)]))))]), (ansT 58 [(26, 58), (27, 59), (28, 60), (29, 61), (30, 62), (36, 63), (37, 64), (38, 65)]), 66, [])])
def h_xf_year : List XH := []
def w_xf_year_0_0 : VC := ((bT ++ [((-2147483648), 2147483647), (0, 8), (0, 1), (0, 9), (0, 49)]), [(86, [(some 2, 0), (some 3, 0), (some 17, 0), (some 5, 0), (some 6, 0), (some 18, 0)], [61, 62, 10, 12, 13, 58, 59, 19, 20, 23, 24]), (1, [(none, 1), (none, 0)], []), (3, [(none, 1), (some 16, 0)], []), (3, [(some 16, 0), (none, 0)], []), (1, [(none, 1), (none, 0)], []), (3, [(none, 8), (some 15, 0)], []), (3, [(some 15, 0), (none, 0)], [])], (87, [(some 18, 0)], [61, 62]))
set_option maxRecDepth 20000 in
theorem v_xf_year_0_0 {PT : PTy} (hp : HP19 PT) : vcOk PT w_xf_year_0_0 := vc_of (fun ρ α hB hF => by
  obtain ⟨f0, -, -, -, -, -, -, -⟩ := hF
  have e86 : PT 86 = P_arr := hp.1.1.1.1.1.1.1.1.1.1.1.1.1.1.1.1.2.2.2.2.2.2.2.1
  have e87 : PT 87 = P_pr := hp.1.1.1.1.1.1.1.1.1.1.1.1.1.1.1.1.2.2.2.2.2.2.2.2.1
  simp only [hFp_86, hFp_87, e86, e87, P_arr, P_pr, den_s, den_c, Int.add_zero, List.map_cons, List.map_nil] at f0 ⊢
  have b2 : (0 : Int) ≤ ρ 2 ∧ ρ 2 ≤ 8 := hB 2 (0, 8) rfl
  have b3 : (0 : Int) ≤ ρ 3 ∧ ρ 3 ≤ 10 := hB 3 (0, 10) rfl
  have b5 : (0 : Int) ≤ ρ 5 ∧ ρ 5 ≤ 6 := hB 5 (0, 6) rfl
  have b6 : (0 : Int) ≤ ρ 6 ∧ ρ 6 ≤ 6 := hB 6 (0, 6) rfl
  have b17 : (0 : Int) ≤ ρ 17 ∧ ρ 17 ≤ 9 := hB 17 (0, 9) rfl
  have b18 : (0 : Int) ≤ ρ 18 ∧ ρ 18 ≤ 49 := hB 18 (0, 49) rfl
  exact (f0).1)
set_option maxRecDepth 1000000 in
theorem k_xf_year {PT : PTy} (hp : HP19 PT) : wfX c_xf_year = true ∧ xcOk PT c_xf_year := xctr (xl (k_arrange35 hp.1.1.1.1.1.1.1.1.1.1.1.1.1.1.1.1) (xl (k_begin35 hp.1.1.1.1.1.1.1.1.1.1.1.1.1.1.1) (xl (k_advance35 hp.1.1.1.1.1.1.1.1.1.1.1.1.1.1.1) (xl (k_fittingBits35 hp.1.1.1.1.1.1.1.1.1.1.1.1.1.1.1) (xl (k_allRips35 hp.1.1.1.1.1.1.1.1.1.1.1.1.1.1.1) (xl (k_au_X6_drawKeepings_0 hp) (xl (k_au_J6_bitCount__1 hp) (xl0)))))))) c_xf_year 67 mX6_year rfl h_xf_year (by decide +kernel) (by decide +kernel) (by decide) (vcs_by [w_xf_year_0_0] (by decide +kernel) (vc (v_xf_year_0_0 hp) vn)) fmn
def c_au_X6_keepingsOf_0 : XC := (95, 1, (bT ++ [((-2147483648), 2147483647)]), [.inr (.inl 0), .inl (some 14, 0)], (gX 14), [], [((bT ++ [((-2147483648), 2147483647), ((-2147483648), 2147483647)]), some (.inl (some 15, 0)), (gX 14), (List.range 58), 58, [])])
def h_au_X6_keepingsOf_0 : List XH := [(4, (bT ++ [((-2147483648), 2147483647), ((-2147483648), 2147483647), (0, 8)]), [some (.inr (.inl 0)), some (.inl (some 14, 0)), some (.inl (some 15, 0)), some (.inl (some 16, 0)), none], (gX 14), (List.range 58), 58, [], [(true, (none, 1)), (true, (some 16, 0))])]
set_option maxRecDepth 1000000 in
theorem k_au_X6_keepingsOf_0 {PT : PTy} (hp : HP19 PT) : wfX c_au_X6_keepingsOf_0 = true ∧ xcOk PT c_au_X6_keepingsOf_0 := xctr (xl0) c_au_X6_keepingsOf_0 61 mX6_keepingsOf rfl h_au_X6_keepingsOf_0 (by decide +kernel) (by decide +kernel) (by decide) (vcs_by [] (by decide +kernel) vn) (fmc (vcs_by [] (by decide +kernel) vn) fmn)
def c_au_X6_weight_0 : XC := (96, 0, (bT ++ [((-2147483648), 2147483647), ((-2147483648), 2147483647), ((-2147483648), 2147483647)]), [.inl (some 14, 0), .inl (some 15, 0), .inl (some 16, 0)], (gX 14), [], [((bT ++ [((-2147483648), 2147483647), ((-2147483648), 2147483647), ((-2147483648), 2147483647)]), some (.inr (.inr none)), (gX 14), (List.range 58), 58, [])])
def h_au_X6_weight_0 : List XH := [(5, (bT ++ [((-2147483648), 2147483647), ((-2147483648), 2147483647), ((-2147483648), 2147483647), (0, 8)]), [some (.inl (some 14, 0)), some (.inl (some 15, 0)), some (.inl (some 16, 0)), some (.inr (.inr none)), none, some (.inl (some 17, 0))], (gX 14), (List.range 58), 58, [], [(true, (none, 1)), (true, (some 17, 0))])]
set_option maxRecDepth 1000000 in
theorem k_au_X6_weight_0 {PT : PTy} (hp : HP19 PT) : wfX c_au_X6_weight_0 = true ∧ xcOk PT c_au_X6_weight_0 := xctr (xl0) c_au_X6_weight_0 48 mX6_weight rfl h_au_X6_weight_0 (by decide +kernel) (by decide +kernel) (by decide) (vcs_by [] (by decide +kernel) vn) (fmc (vcs_by [] (by decide +kernel) vn) fmn)
def c_xf_word : XC := (70, 3, (bT ++ [((-2147483648), 2147483647), ((-2147483648), 2147483647), ((-2147483648), 2147483647), ((-2147483648), 2147483647)]), [.inr (.inl 0), .inl (some 14, 0), .inl (some 15, 0), .inl (some 16, 0), .inl (some 17, 0)], (gX 999), [], [((bT ++ [((-2147483648), 2147483647), ((-2147483648), 2147483647), ((-2147483648), 2147483647), ((-2147483648), 2147483647), (0, 49), (0, 49), ((-2147483648), 2147483647), ((-2147483648), 2147483647)]), some (.inr (.inr none)), (hst (gX 999) [(5, .inr (.inr (.inr (0, [.inr (.inl 6), .inr (.inl 9), .inr (.inl 14), .inr (.inl 18), .inr (.inl 22), .inr (.inl 26), .inr (.inl 27), .inr (.inl 28), .inr (.inl 29), .inr (.inl 30), .inl (some 18, 0), .inl (some 19, 0), .inl (some 20, 0), .inl (some 21, 0), .inr (.inl 999)]))))]), (ansT 58 [(26, 58), (27, 59), (28, 60), (29, 61), (30, 62)]), 63, [])])
def h_xf_word : List XH := [(150, ([(0, 23), (0, 49), (1, 8), (0, 10), (0, 8), (0, 6), (0, 6), (0, 8), (0, 9), (0, 49), (0, 49), ((-2147483648), 2147483647), ((-2147483648), 2147483647), (0, 5), (0, 16), (0, 7), (0, 23), (0, 1), ((-2147483648), 2147483647), (0, 32), (0, 49), (0, 49), ((-2147483648), 2147483647)]), [some (.inr (.inl 0)), some (.inl (some 14, 0)), some (.inl (some 15, 0)), some (.inl (some 16, 0)), some (.inl (some 17, 0)), some (.inl (some 18, 0)), some (.inr (.inr none)), none, some (.inr (.inr none)), none, some (.inl (some 19, 0))], (hst (gX 14) [(5, .inr (.inr (.inr (0, [.inr (.inl 6), .inr (.inl 9), .inr (.inl 14), .inr (.inl 18), .inr (.inl 22), .inr (.inl 26), .inr (.inl 27), .inr (.inl 28), .inr (.inl 29), .inr (.inl 30), .inl (some 20, 0), .inl (some 21, 0), .inl (some 22, 0), .inl (none, 0), .inr (.inl 14)]))))]), (ansT 58 [(26, 58), (27, 59), (28, 60), (29, 61), (30, 62)]), 63, [(87, [(some 20, 0)], [58, 59])], [(true, (none, 2)), (true, (some 19, 0))]),
  (75, ([(0, 23), (0, 49), (1, 8), (0, 10), (0, 8), (0, 6), (0, 6), (0, 8), (0, 9), (0, 49), (0, 49), ((-2147483648), 2147483647), ((-2147483648), 2147483647), (0, 5), (0, 16), (0, 7), (0, 23), (0, 1), ((-2147483648), 2147483647), (0, 256), (0, 49), (0, 49), ((-2147483648), 2147483647)]), [some (.inr (.inl 0)), some (.inl (some 14, 0)), some (.inl (some 15, 0)), some (.inl (some 16, 0)), some (.inl (some 17, 0)), some (.inl (some 18, 0)), some (.inr (.inr none)), none, some (.inr (.inr none)), none, some (.inl (some 19, 0))], (hst (gX 14) [(5, .inr (.inr (.inr (0, [.inr (.inl 6), .inr (.inl 9), .inr (.inl 14), .inr (.inl 18), .inr (.inl 22), .inr (.inl 26), .inr (.inl 27), .inr (.inl 28), .inr (.inl 29), .inr (.inl 30), .inl (some 20, 0), .inl (some 21, 0), .inl (some 22, 0), .inl (none, 0), .inr (.inl 14)]))))]), (ansT 58 [(26, 58), (27, 59), (28, 60), (29, 61), (30, 62)]), 63, [(87, [(some 20, 0)], [58, 59])], [(true, (none, 1)), (true, (some 19, 0))])]
def w_xf_word_0_0 : VC := (([(0, 23), (0, 49), (1, 8), (0, 10), (0, 8), (0, 6), (0, 6), (0, 8), (0, 9), (0, 49), (0, 49), ((-2147483648), 2147483647), ((-2147483648), 2147483647), (0, 5), (0, 16), (0, 7), (0, 23), (0, 1), (0, 49), ((-2147483648), 2147483647), ((-2147483648), 2147483647), ((-2147483648), 2147483647)]), [(17, [(some 21, 0), (none, 4), (some 20, 0)], []), (160, [(some 20, 0), (some 19, 0)], []), (86, [(some 2, 0), (some 3, 0), (some 4, 0), (some 5, 0), (some 6, 0), (some 18, 0)], [58, 59, 10, 12, 13, 15, 16, 19, 20, 23, 24]), (1, [(none, 1), (none, 0)], []), (3, [(none, 1), (some 17, 0)], []), (3, [(some 17, 0), (none, 0)], []), (1, [(none, 1), (none, 0)], []), (3, [(none, 23), (some 16, 0)], []), (3, [(some 16, 0), (none, 0)], []), (1, [(none, 1), (none, 0)], []), (2, [(some 15, 0), (some 2, 0)], []), (3, [(some 15, 0), (none, 0)], []), (1, [(none, 1), (none, 0)], []), (3, [(none, 16), (some 14, 0)], []), (3, [(some 14, 0), (none, 0)], [])], (87, [(some 18, 0)], [58, 59]))
set_option maxRecDepth 20000 in
theorem v_xf_word_0_0 {PT : PTy} (hp : HP19 PT) : vcOk PT w_xf_word_0_0 := vc_of (fun ρ α hB hF => by
  obtain ⟨f0, f1, f2, -, -, -, -, -, -, -, f10, -, -, -, -, -⟩ := hF
  have e86 : PT 86 = P_arr := hp.1.1.1.1.1.1.1.1.1.1.1.1.1.1.1.1.2.2.2.2.2.2.2.1
  have e87 : PT 87 = P_pr := hp.1.1.1.1.1.1.1.1.1.1.1.1.1.1.1.1.2.2.2.2.2.2.2.2.1
  have e160 : PT 160 = P_bc := hp.1.1.1.1.1.1.1.1.2.2.2.2.2.2.2.2.2.2.2.2.2.2.1
  simp only [hF2, hF17, hFp_86, hFp_87, hFp_160, e86, e87, e160, P_arr, P_pr, P_bc, den_s, den_c, Int.add_zero, List.map_cons, List.map_nil] at f0 f1 f2 f10 ⊢
  have b2 : (1 : Int) ≤ ρ 2 ∧ ρ 2 ≤ 8 := hB 2 (1, 8) rfl
  have b3 : (0 : Int) ≤ ρ 3 ∧ ρ 3 ≤ 10 := hB 3 (0, 10) rfl
  have b4 : (0 : Int) ≤ ρ 4 ∧ ρ 4 ≤ 8 := hB 4 (0, 8) rfl
  have b5 : (0 : Int) ≤ ρ 5 ∧ ρ 5 ≤ 6 := hB 5 (0, 6) rfl
  have b6 : (0 : Int) ≤ ρ 6 ∧ ρ 6 ≤ 6 := hB 6 (0, 6) rfl
  have b15 : (0 : Int) ≤ ρ 15 ∧ ρ 15 ≤ 7 := hB 15 (0, 7) rfl
  have b18 : (0 : Int) ≤ ρ 18 ∧ ρ 18 ≤ 49 := hB 18 (0, 49) rfl
  have b19 : ((-2147483648) : Int) ≤ ρ 19 ∧ ρ 19 ≤ 2147483647 := hB 19 ((-2147483648), 2147483647) rfl
  have b20 : ((-2147483648) : Int) ≤ ρ 20 ∧ ρ 20 ≤ 2147483647 := hB 20 ((-2147483648), 2147483647) rfl
  have b21 : ((-2147483648) : Int) ≤ ρ 21 ∧ ρ 21 ≤ 2147483647 := hB 21 ((-2147483648), 2147483647) rfl
  exact (f2).1)
set_option maxRecDepth 1000000 in
theorem k_xf_word {PT : PTy} (hp : HP19 PT) : wfX c_xf_word = true ∧ xcOk PT c_xf_word := xctr (xl (k_arrange14 hp.1.1.1.1.1.1.1.1.1.1.1.1.1.1.1.1) (xl (k_begin14 hp.1.1.1.1.1.1.1.1.1.1.1.1.1.1.1) (xl (k_advance14 hp.1.1.1.1.1.1.1.1.1.1.1.1.1.1.1) (xl (k_bitCount hp.1.1.1.1.1.1.1.1) (xl (k_au_X6_keepingsOf_0 hp) (xl (k_au_X6_weight_0 hp) (xl0))))))) c_xf_word 94 mX6_word rfl h_xf_word (by decide +kernel) (by decide +kernel) (by decide) (vcs_by [w_xf_word_0_0] (by decide +kernel) (vc (v_xf_word_0_0 hp) vn)) (fmc (vcs_by [] (by decide +kernel) vn) (fmc (vcs_by [] (by decide +kernel) vn) fmn))
def c_au_X6_withPromise_0 : XC := (100, 5, (bT ++ [((-2147483648), 2147483647)]), [.inr (.inl 0), .inr (.inr none), .inl (some 14, 0)], (gX 999), [], [((bT ++ [((-2147483648), 2147483647), (0, 49), (0, 49), ((-2147483648), 2147483647), ((-2147483648), 2147483647)]), some (.inr (.inr none)), (hst (gX 999) [(5, .inr (.inr (.inr (0, [.inr (.inl 6), .inr (.inl 9), .inr (.inl 14), .inr (.inl 18), .inr (.inl 22), .inr (.inl 26), .inr (.inl 27), .inr (.inl 28), .inr (.inl 29), .inr (.inl 30), .inl (some 15, 0), .inl (some 16, 0), .inl (some 17, 0), .inl (some 18, 0), .inr (.inl 999)]))))]), (ansT 58 [(13, 58), (26, 59), (27, 60), (28, 61), (29, 62), (30, 63)]), 64, [(27, [], [58, 13])])])
def h_au_X6_withPromise_0 : List XH := [(6, (bT ++ [((-2147483648), 2147483647), (0, 4)]), [some (.inr (.inl 0)), some (.inr (.inr none)), none, some (.inl (some 14, 0)), some (.inr (.inr none)), none, some (.inl (some 15, 0))], (gX 999), (List.range 58), 58, [], [(true, (none, 1)), (true, (some 15, 0))])]
def w_au_X6_withPromise_0_1_0 : VC := ((bT ++ [((-2147483648), 2147483647), (4, 4), ((-2), 3), (0, 49), (0, 49), ((-2147483648), 2147483647), ((-2147483648), 2147483647), ((-2), 3), (0, 49), (0, 49), ((-2147483648), 2147483647), ((-2147483648), 2147483647), ((-2147483648), 2147483647), (0, 49), (0, 49), ((-2147483648), 2147483647), ((-2147483648), 2147483647), ((-2147483648), 2147483647), (0, 49), (0, 49), ((-2147483648), 2147483647), ((-2147483648), 2147483647)]), [(27, [], [74, 68]), (27, [], [68, 13]), (2, [(none, 3), (some 15, 0)], [])], (27, [], [74, 13]))
set_option maxRecDepth 20000 in
theorem v_au_X6_withPromise_0_1_0 {PT : PTy} (hp : HP19 PT) : vcOk PT w_au_X6_withPromise_0_1_0 := vc_of (fun ρ α hB hF => by
  obtain ⟨f0, f1, f2, -⟩ := hF
  simp only [hF2, hF27, den_s, den_c, Int.add_zero, List.map_cons, List.map_nil] at f0 f1 f2 ⊢
  have b15 : (4 : Int) ≤ ρ 15 ∧ ρ 15 ≤ 4 := hB 15 (4, 4) rfl
  clear hB
  generalize ρ 15 = r15, α 13 = a13, α 68 = a68, α 74 = a74 at *
  subst_vars
  first
    | rfl
    | assumption
    | exact upd_bk (by assumption))
set_option maxRecDepth 1000000 in
theorem k_au_X6_withPromise_0 {PT : PTy} (hp : HP19 PT) : wfX c_au_X6_withPromise_0 = true ∧ xcOk PT c_au_X6_withPromise_0 := xctr (xl (k_xo_promise hp.1.1.1.1.1.1.1.1.1.1.1.1.1) (xl (k_xf_stands hp) (xl (k_xf_due hp) (xl0)))) c_au_X6_withPromise_0 79 mX6_withPromise rfl h_au_X6_withPromise_0 (by decide +kernel) (by decide +kernel) (by decide) (vcs_by [] (by decide +kernel) vn) (fmc (vcs_by [w_au_X6_withPromise_0_1_0] (by decide +kernel) (vc (v_au_X6_withPromise_0_1_0 hp) vn)) fmn)
def c_au_X6_withCoat_0 : XC := (102, 5, (bT ++ [((-2147483648), 2147483647), ((-2147483648), 2147483647)]), [.inr (.inl 0), .inr (.inr none), .inl (some 14, 0), .inl (some 15, 0)], (gX 999), [], [((bT ++ [((-2147483648), 2147483647), ((-2147483648), 2147483647), (0, 49), (0, 49), ((-2147483648), 2147483647), ((-2147483648), 2147483647)]), some (.inr (.inr none)), (hst (gX 999) [(5, .inr (.inr (.inr (0, [.inr (.inl 6), .inr (.inl 9), .inr (.inl 14), .inr (.inl 18), .inr (.inl 22), .inr (.inl 26), .inr (.inl 27), .inr (.inl 28), .inr (.inl 29), .inr (.inl 30), .inl (some 16, 0), .inl (some 17, 0), .inl (some 18, 0), .inl (some 19, 0), .inr (.inl 999)]))))]), (ansT 58 [(26, 58), (27, 59), (28, 60), (29, 61), (30, 62)]), 63, [])])
def h_au_X6_withCoat_0 : List XH := []
set_option maxRecDepth 1000000 in
theorem k_au_X6_withCoat_0 {PT : PTy} (hp : HP19 PT) : wfX c_au_X6_withCoat_0 = true ∧ xcOk PT c_au_X6_withCoat_0 := xctr (xl (k_xf_coat hp) (xl0)) c_au_X6_withCoat_0 65 mX6_withCoat rfl h_au_X6_withCoat_0 (by decide +kernel) (by decide +kernel) (by decide) (vcs_by [] (by decide +kernel) vn) fmn
def c_au_X6_withPerson_0 : XC := (101, 6, (bT ++ [((-2147483648), 2147483647)]), [.inr (.inl 0), .inr (.inr none), .inl (some 14, 0)], (gX 999), [], [((bT ++ [((-2147483648), 2147483647), (0, 49), (0, 49), ((-2147483648), 2147483647), ((-2147483648), 2147483647)]), some (.inr (.inr none)), (hst (gX 999) [(5, .inr (.inr (.inr (0, [.inr (.inl 6), .inr (.inl 9), .inr (.inl 14), .inr (.inl 18), .inr (.inl 22), .inr (.inl 26), .inr (.inl 27), .inr (.inl 28), .inr (.inl 29), .inr (.inl 30), .inl (some 15, 0), .inl (some 16, 0), .inl (some 17, 0), .inl (some 18, 0), .inr (.inl 999)]))))]), [0, 1, 2, 3, 4, 5, 6, 58, 59, 9, 60, 61, 62, 63, 14, 15, 16, 17, 18, 19, 20, 21, 22, 23, 24, 25, 64, 65, 66, 67, 68, 31, 32, 33, 34, 35, 36, 37, 38, 39, 40, 41, 42, 43, 44, 45, 46, 47, 69, 70, 71, 72, 73, 74, 75, 76, 77, 78], 79, [(27, [], [58, 7]), (27, [], [59, 8]), (186, [(some 3, 0)], [60, 10]), (186, [(some 3, 0)], [61, 11]), (186, [(some 3, 0)], [62, 12]), (186, [(some 3, 0)], [63, 13])])])
def h_au_X6_withPerson_0 : List XH := []
def w_au_X6_withPerson_0_0_0 : VC := ((bT ++ [((-2147483648), 2147483647), ((-2), 9), ((-2), 9), (0, 49), (0, 49), ((-2147483648), 2147483647), ((-2147483648), 2147483647), (0, 49), (0, 49), ((-2147483648), 2147483647), ((-2147483648), 2147483647), (0, 49), (0, 49), ((-2147483648), 2147483647), ((-2147483648), 2147483647), (0, 49), (0, 49), ((-2147483648), 2147483647), ((-2147483648), 2147483647), ((-2), 9), (0, 49), (0, 49), ((-2147483648), 2147483647), ((-2147483648), 2147483647), ((-2147483648), 2147483647), (0, 49), (0, 49), ((-2147483648), 2147483647), ((-2147483648), 2147483647), ((-2147483648), 2147483647), (0, 49), (0, 49), ((-2147483648), 2147483647), ((-2147483648), 2147483647), ((-2), 23), (0, 49), (0, 49), ((-2147483648), 2147483647), ((-2147483648), 2147483647), (0, 49), (0, 49), ((-2147483648), 2147483647), ((-2147483648), 2147483647), (0, 49), (0, 49), ((-2147483648), 2147483647), ((-2147483648), 2147483647)]), [(27, [], [101, 95]), (27, [], [94, 87]), (27, [], [95, 88]), (27, [], [87, 7]), (27, [], [88, 8]), (186, [(some 3, 0)], [78, 10]), (186, [(some 3, 0)], [79, 11]), (186, [(some 3, 0)], [80, 12]), (186, [(some 3, 0)], [81, 13]), (112, [(some 16, 0), (some 14, 0), (none, 1), (some 2, 0)], [7, 8]), (112, [(some 15, 0), (some 14, 0), (none, 0), (some 2, 0)], [7, 8])], (27, [], [94, 7]))
set_option maxRecDepth 20000 in
theorem v_au_X6_withPerson_0_0_0 {PT : PTy} (hp : HP19 PT) : vcOk PT w_au_X6_withPerson_0_0_0 := vc_of (fun ρ α hB hF => by
  obtain ⟨f0, f1, f2, f3, f4, f5, f6, f7, f8, f9, f10, -⟩ := hF
  have e112 : PT 112 = P_peX := hp.1.1.1.1.1.1.1.1.1.1.1.1.1.2.2.2.2.2.2.1
  have e186 : PT 186 = P_al := hp.1.1.1.1.1.1.2.2.2.2.2.2.2.1
  simp only [hF27, hFp_112, hFp_186, e112, e186, P_peX, P_al, den_s, den_c, Int.add_zero, List.map_cons, List.map_nil] at f0 f1 f2 f3 f4 f5 f6 f7 f8 f9 f10 ⊢
  have b2 : (0 : Int) ≤ ρ 2 ∧ ρ 2 ≤ 8 := hB 2 (0, 8) rfl
  have b3 : (0 : Int) ≤ ρ 3 ∧ ρ 3 ≤ 10 := hB 3 (0, 10) rfl
  have b14 : ((-2147483648) : Int) ≤ ρ 14 ∧ ρ 14 ≤ 2147483647 := hB 14 ((-2147483648), 2147483647) rfl
  have b15 : ((-2) : Int) ≤ ρ 15 ∧ ρ 15 ≤ 9 := hB 15 ((-2), 9) rfl
  have b16 : ((-2) : Int) ≤ ρ 16 ∧ ρ 16 ≤ 9 := hB 16 ((-2), 9) rfl
  clear hB
  generalize ρ 2 = r2, ρ 3 = r3, ρ 14 = r14, ρ 15 = r15, ρ 16 = r16, α 7 = a7, α 8 = a8, α 10 = a10, α 11 = a11, α 12 = a12, α 13 = a13, α 78 = a78, α 79 = a79, α 80 = a80, α 81 = a81, α 87 = a87, α 88 = a88, α 94 = a94, α 95 = a95, α 101 = a101 at *
  subst_vars
  first
    | rfl
    | assumption
    | exact upd_bk (by assumption))
def w_au_X6_withPerson_0_0_1 : VC := ((bT ++ [((-2147483648), 2147483647), ((-2), 9), ((-2), 9), (0, 49), (0, 49), ((-2147483648), 2147483647), ((-2147483648), 2147483647), (0, 49), (0, 49), ((-2147483648), 2147483647), ((-2147483648), 2147483647), (0, 49), (0, 49), ((-2147483648), 2147483647), ((-2147483648), 2147483647), (0, 49), (0, 49), ((-2147483648), 2147483647), ((-2147483648), 2147483647), ((-2), 9), (0, 49), (0, 49), ((-2147483648), 2147483647), ((-2147483648), 2147483647), ((-2147483648), 2147483647), (0, 49), (0, 49), ((-2147483648), 2147483647), ((-2147483648), 2147483647), ((-2147483648), 2147483647), (0, 49), (0, 49), ((-2147483648), 2147483647), ((-2147483648), 2147483647), ((-2), 23), (0, 49), (0, 49), ((-2147483648), 2147483647), ((-2147483648), 2147483647), (0, 49), (0, 49), ((-2147483648), 2147483647), ((-2147483648), 2147483647), (0, 49), (0, 49), ((-2147483648), 2147483647), ((-2147483648), 2147483647)]), [(27, [], [101, 95]), (27, [], [94, 87]), (27, [], [95, 88]), (27, [], [87, 7]), (27, [], [88, 8]), (186, [(some 3, 0)], [78, 10]), (186, [(some 3, 0)], [79, 11]), (186, [(some 3, 0)], [80, 12]), (186, [(some 3, 0)], [81, 13]), (112, [(some 16, 0), (some 14, 0), (none, 1), (some 2, 0)], [7, 8]), (112, [(some 15, 0), (some 14, 0), (none, 0), (some 2, 0)], [7, 8])], (27, [], [101, 8]))
set_option maxRecDepth 20000 in
theorem v_au_X6_withPerson_0_0_1 {PT : PTy} (hp : HP19 PT) : vcOk PT w_au_X6_withPerson_0_0_1 := vc_of (fun ρ α hB hF => by
  obtain ⟨f0, f1, f2, f3, f4, f5, f6, f7, f8, f9, f10, -⟩ := hF
  have e112 : PT 112 = P_peX := hp.1.1.1.1.1.1.1.1.1.1.1.1.1.2.2.2.2.2.2.1
  have e186 : PT 186 = P_al := hp.1.1.1.1.1.1.2.2.2.2.2.2.2.1
  simp only [hF27, hFp_112, hFp_186, e112, e186, P_peX, P_al, den_s, den_c, Int.add_zero, List.map_cons, List.map_nil] at f0 f1 f2 f3 f4 f5 f6 f7 f8 f9 f10 ⊢
  have b2 : (0 : Int) ≤ ρ 2 ∧ ρ 2 ≤ 8 := hB 2 (0, 8) rfl
  have b3 : (0 : Int) ≤ ρ 3 ∧ ρ 3 ≤ 10 := hB 3 (0, 10) rfl
  have b14 : ((-2147483648) : Int) ≤ ρ 14 ∧ ρ 14 ≤ 2147483647 := hB 14 ((-2147483648), 2147483647) rfl
  have b15 : ((-2) : Int) ≤ ρ 15 ∧ ρ 15 ≤ 9 := hB 15 ((-2), 9) rfl
  have b16 : ((-2) : Int) ≤ ρ 16 ∧ ρ 16 ≤ 9 := hB 16 ((-2), 9) rfl
  clear hB
  generalize ρ 2 = r2, ρ 3 = r3, ρ 14 = r14, ρ 15 = r15, ρ 16 = r16, α 7 = a7, α 8 = a8, α 10 = a10, α 11 = a11, α 12 = a12, α 13 = a13, α 78 = a78, α 79 = a79, α 80 = a80, α 81 = a81, α 87 = a87, α 88 = a88, α 94 = a94, α 95 = a95, α 101 = a101 at *
  subst_vars
  first
    | rfl
    | assumption
    | exact upd_bk (by assumption))
set_option maxRecDepth 1000000 in
theorem k_au_X6_withPerson_0 {PT : PTy} (hp : HP19 PT) : wfX c_au_X6_withPerson_0 = true ∧ xcOk PT c_au_X6_withPerson_0 := xctr (xl (k_xo_person hp.1.1.1.1.1.1.1.1.1.1.1.1.1) (xl (k_xf_swear hp) (xl (k_xf_was hp) (xl (k_xf_ask hp) (xl (k_xf_word hp) (xl (k_au_X6_withCoat_0 hp) (xl0))))))) c_au_X6_withPerson_0 157 mX6_withPerson rfl h_au_X6_withPerson_0 (by decide +kernel) (by decide +kernel) (by decide) (vcs_by [w_au_X6_withPerson_0_0_0, w_au_X6_withPerson_0_0_1] (by decide +kernel) (vc (v_au_X6_withPerson_0_0_0 hp) (vc (v_au_X6_withPerson_0_0_1 hp) vn))) fmn
def c_xf_digest : XC := (79, 7, (bT), [.inr (.inl 0)], (gX 999), [], [((bT ++ [(0, 49), (0, 49), ((-2147483648), 2147483647), ((-2147483648), 2147483647), (0, 9)]), some (.inr (.inr none)), (hst (gX 999) [(5, .inr (.inr (.inr (0, [.inr (.inl 6), .inr (.inl 9), .inr (.inl 14), .inr (.inl 18), .inr (.inl 22), .inr (.inl 26), .inr (.inl 27), .inr (.inl 28), .inr (.inl 29), .inr (.inl 30), .inl (some 14, 0), .inl (some 15, 0), .inl (some 16, 0), .inl (some 17, 0), .inr (.inl 999)])))), (35, .inr (.inr (.inr (4, [.inr (.inl 36), .inr (.inl 37), .inr (.inl 38), .inl (none, 8), .inl (some 18, 0)]))))]), [0, 1, 2, 3, 4, 5, 6, 58, 59, 9, 60, 61, 62, 63, 14, 64, 65, 66, 18, 19, 20, 21, 22, 23, 24, 25, 67, 68, 69, 70, 71, 31, 32, 33, 34, 35, 72, 73, 74, 39, 40, 41, 42, 43, 44, 45, 46, 47, 75, 76, 77, 78, 79, 80, 81, 82, 83, 84], 85, [(27, [], [58, 7]), (27, [], [59, 8]), (186, [(some 3, 0)], [60, 10]), (186, [(some 3, 0)], [61, 11]), (186, [(some 3, 0)], [62, 12]), (186, [(some 3, 0)], [63, 13]), (186, [(some 4, 0)], [64, 15]), (186, [(some 4, 0)], [65, 16])])])
def h_xf_digest : List XH := [(105, (bT ++ [(0, 24), (0, 49), (0, 49), ((-2147483648), 2147483647), ((-2147483648), 2147483647)]), [some (.inr (.inl 0)), some (.inr (.inr none)), none, some (.inl (some 14, 0))], (hst (gX 999) [(5, .inr (.inr (.inr (0, [.inr (.inl 6), .inr (.inl 9), .inr (.inl 14), .inr (.inl 18), .inr (.inl 22), .inr (.inl 26), .inr (.inl 27), .inr (.inl 28), .inr (.inl 29), .inr (.inl 30), .inl (some 15, 0), .inl (some 16, 0), .inl (some 17, 0), .inl (some 18, 0), .inr (.inl 999)]))))]), [0, 1, 2, 3, 4, 5, 6, 58, 59, 9, 60, 61, 62, 63, 14, 15, 16, 17, 18, 19, 20, 21, 22, 23, 24, 25, 64, 65, 66, 67, 68, 31, 32, 33, 34, 35, 36, 37, 38, 39, 40, 41, 42, 43, 44, 45, 46, 47, 69, 70, 71, 72, 73, 74, 75, 76, 77, 78], 79, [(27, [], [58, 7]), (27, [], [59, 8]), (186, [(some 3, 0)], [60, 10]), (186, [(some 3, 0)], [61, 11]), (186, [(some 3, 0)], [62, 12]), (186, [(some 3, 0)], [63, 13]), (186, [(some 4, 0)], [15, 15]), (186, [(some 4, 0)], [16, 16])], [(true, (none, 4)), (true, (some 14, 0))]),
  (53, (bT ++ [(0, 10), (0, 49), (0, 49), ((-2147483648), 2147483647), ((-2147483648), 2147483647)]), [some (.inr (.inl 0)), some (.inr (.inr none)), none, some (.inl (some 14, 0))], (hst (gX 999) [(5, .inr (.inr (.inr (0, [.inr (.inl 6), .inr (.inl 9), .inr (.inl 14), .inr (.inl 18), .inr (.inl 22), .inr (.inl 26), .inr (.inl 27), .inr (.inl 28), .inr (.inl 29), .inr (.inl 30), .inl (some 15, 0), .inl (some 16, 0), .inl (some 17, 0), .inl (some 18, 0), .inr (.inl 999)]))))]), (ansT 58 [(13, 58), (26, 59), (27, 60), (28, 61), (29, 62), (30, 63)]), 64, [(27, [], [7, 7]), (27, [], [8, 8]), (186, [(some 3, 0)], [10, 10]), (186, [(some 3, 0)], [11, 11]), (186, [(some 3, 0)], [12, 12]), (186, [(some 3, 0)], [58, 13]), (186, [(some 4, 0)], [15, 15]), (186, [(some 4, 0)], [16, 16])], [(true, (none, 2)), (true, (some 14, 0))]),
  (6, (bT ++ [(0, 8)]), [some (.inr (.inl 0)), some (.inr (.inr none)), none, some (.inl (some 14, 0))], (gX 999), (List.range 58), 58, [(27, [], [7, 7]), (27, [], [8, 8]), (186, [(some 3, 0)], [10, 10]), (186, [(some 3, 0)], [11, 11]), (186, [(some 3, 0)], [12, 12]), (186, [(some 3, 0)], [13, 13]), (186, [(some 4, 0)], [15, 15]), (186, [(some 4, 0)], [16, 16])], [(true, (none, 1)), (true, (some 14, 0))]),
  (79, (bT ++ [(0, 8), (0, 49), (0, 49), ((-2147483648), 2147483647), ((-2147483648), 2147483647)]), [some (.inr (.inl 0)), some (.inr (.inr none)), none, some (.inl (some 14, 0))], (hst (gX 999) [(5, .inr (.inr (.inr (0, [.inr (.inl 6), .inr (.inl 9), .inr (.inl 14), .inr (.inl 18), .inr (.inl 22), .inr (.inl 26), .inr (.inl 27), .inr (.inl 28), .inr (.inl 29), .inr (.inl 30), .inl (some 15, 0), .inl (some 16, 0), .inl (some 17, 0), .inl (some 18, 0), .inr (.inl 999)]))))]), [0, 1, 2, 3, 4, 5, 6, 58, 59, 9, 60, 61, 62, 63, 14, 15, 16, 17, 18, 19, 20, 21, 22, 23, 24, 25, 64, 65, 66, 67, 68, 31, 32, 33, 34, 35, 36, 37, 38, 39, 40, 41, 42, 43, 44, 45, 46, 47, 69, 70, 71, 72, 73, 74, 75, 76, 77, 78], 79, [(27, [], [58, 7]), (27, [], [59, 8]), (186, [(some 3, 0)], [60, 10]), (186, [(some 3, 0)], [61, 11]), (186, [(some 3, 0)], [62, 12]), (186, [(some 3, 0)], [63, 13]), (186, [(some 4, 0)], [15, 15]), (186, [(some 4, 0)], [16, 16])], [(true, (none, 3)), (true, (some 14, 0))])]
def w_xf_digest_0_0 : VC := ((bT), [], (27, [], [7, 7]))
theorem v_xf_digest_0_0 {PT : PTy} (_ : HP19 PT) : vcOk PT w_xf_digest_0_0 := vc_of (fun ρ α _ _ => rfl)
def w_xf_digest_0_1 : VC := ((bT), [], (27, [], [8, 8]))
theorem v_xf_digest_0_1 {PT : PTy} (_ : HP19 PT) : vcOk PT w_xf_digest_0_1 := vc_of (fun ρ α _ _ => rfl)
def w_xf_digest_0_2 : VC := ((bT), [], (186, [(some 3, 0)], [10, 10]))
set_option maxRecDepth 20000 in
theorem v_xf_digest_0_2 {PT : PTy} (hp : HP19 PT) : vcOk PT w_xf_digest_0_2 := vc_of (fun ρ α hB hF => by
  have e186 : PT 186 = P_al := hp.1.1.1.1.1.1.2.2.2.2.2.2.2.1
  simp only [hFp_186, e186, P_al, den_s, den_c, Int.add_zero, List.map_cons, List.map_nil] at ⊢
  have b3 : (0 : Int) ≤ ρ 3 ∧ ρ 3 ≤ 10 := hB 3 (0, 10) rfl
  clear hB
  generalize ρ 3 = r3, α 10 = a10 at *
  subst_vars
  first
    | exact fun i h1 h2 => (by first | rfl | trivial)
    | assumption
    | exact al_up (Int.le_refl _) (by assumption)
    | exact al_up (Int.le_refl _) (fun i h1 h2 => rfl)
    | exact al_tr (by assumption) (by assumption))
def w_xf_digest_0_3 : VC := ((bT), [], (186, [(some 3, 0)], [11, 11]))
set_option maxRecDepth 20000 in
theorem v_xf_digest_0_3 {PT : PTy} (hp : HP19 PT) : vcOk PT w_xf_digest_0_3 := vc_of (fun ρ α hB hF => by
  have e186 : PT 186 = P_al := hp.1.1.1.1.1.1.2.2.2.2.2.2.2.1
  simp only [hFp_186, e186, P_al, den_s, den_c, Int.add_zero, List.map_cons, List.map_nil] at ⊢
  have b3 : (0 : Int) ≤ ρ 3 ∧ ρ 3 ≤ 10 := hB 3 (0, 10) rfl
  clear hB
  generalize ρ 3 = r3, α 11 = a11 at *
  subst_vars
  first
    | exact fun i h1 h2 => (by first | rfl | trivial)
    | assumption
    | exact al_up (Int.le_refl _) (by assumption)
    | exact al_up (Int.le_refl _) (fun i h1 h2 => rfl)
    | exact al_tr (by assumption) (by assumption))
def w_xf_digest_0_4 : VC := ((bT), [], (186, [(some 3, 0)], [12, 12]))
set_option maxRecDepth 20000 in
theorem v_xf_digest_0_4 {PT : PTy} (hp : HP19 PT) : vcOk PT w_xf_digest_0_4 := vc_of (fun ρ α hB hF => by
  have e186 : PT 186 = P_al := hp.1.1.1.1.1.1.2.2.2.2.2.2.2.1
  simp only [hFp_186, e186, P_al, den_s, den_c, Int.add_zero, List.map_cons, List.map_nil] at ⊢
  have b3 : (0 : Int) ≤ ρ 3 ∧ ρ 3 ≤ 10 := hB 3 (0, 10) rfl
  clear hB
  generalize ρ 3 = r3, α 12 = a12 at *
  subst_vars
  first
    | exact fun i h1 h2 => (by first | rfl | trivial)
    | assumption
    | exact al_up (Int.le_refl _) (by assumption)
    | exact al_up (Int.le_refl _) (fun i h1 h2 => rfl)
    | exact al_tr (by assumption) (by assumption))
def w_xf_digest_0_5 : VC := ((bT), [], (186, [(some 3, 0)], [13, 13]))
set_option maxRecDepth 20000 in
theorem v_xf_digest_0_5 {PT : PTy} (hp : HP19 PT) : vcOk PT w_xf_digest_0_5 := vc_of (fun ρ α hB hF => by
  have e186 : PT 186 = P_al := hp.1.1.1.1.1.1.2.2.2.2.2.2.2.1
  simp only [hFp_186, e186, P_al, den_s, den_c, Int.add_zero, List.map_cons, List.map_nil] at ⊢
  have b3 : (0 : Int) ≤ ρ 3 ∧ ρ 3 ≤ 10 := hB 3 (0, 10) rfl
  clear hB
  generalize ρ 3 = r3, α 13 = a13 at *
  subst_vars
  first
    | exact fun i h1 h2 => (by first | rfl | trivial)
    | assumption
    | exact al_up (Int.le_refl _) (by assumption)
    | exact al_up (Int.le_refl _) (fun i h1 h2 => rfl)
    | exact al_tr (by assumption) (by assumption))
def w_xf_digest_0_6 : VC := ((bT), [], (186, [(some 4, 0)], [15, 15]))
set_option maxRecDepth 20000 in
theorem v_xf_digest_0_6 {PT : PTy} (hp : HP19 PT) : vcOk PT w_xf_digest_0_6 := vc_of (fun ρ α hB hF => by
  have e186 : PT 186 = P_al := hp.1.1.1.1.1.1.2.2.2.2.2.2.2.1
  simp only [hFp_186, e186, P_al, den_s, den_c, Int.add_zero, List.map_cons, List.map_nil] at ⊢
  have b4 : (0 : Int) ≤ ρ 4 ∧ ρ 4 ≤ 8 := hB 4 (0, 8) rfl
  clear hB
  generalize ρ 4 = r4, α 15 = a15 at *
  subst_vars
  first
    | exact fun i h1 h2 => (by first | rfl | trivial)
    | assumption
    | exact al_up (Int.le_refl _) (by assumption)
    | exact al_up (Int.le_refl _) (fun i h1 h2 => rfl)
    | exact al_tr (by assumption) (by assumption))
def w_xf_digest_0_7 : VC := ((bT), [], (186, [(some 4, 0)], [16, 16]))
set_option maxRecDepth 20000 in
theorem v_xf_digest_0_7 {PT : PTy} (hp : HP19 PT) : vcOk PT w_xf_digest_0_7 := vc_of (fun ρ α hB hF => by
  have e186 : PT 186 = P_al := hp.1.1.1.1.1.1.2.2.2.2.2.2.2.1
  simp only [hFp_186, e186, P_al, den_s, den_c, Int.add_zero, List.map_cons, List.map_nil] at ⊢
  have b4 : (0 : Int) ≤ ρ 4 ∧ ρ 4 ≤ 8 := hB 4 (0, 8) rfl
  clear hB
  generalize ρ 4 = r4, α 16 = a16 at *
  subst_vars
  first
    | exact fun i h1 h2 => (by first | rfl | trivial)
    | assumption
    | exact al_up (Int.le_refl _) (by assumption)
    | exact al_up (Int.le_refl _) (fun i h1 h2 => rfl)
    | exact al_tr (by assumption) (by assumption))
def w_xf_digest_1_0 : VC := ((bT ++ [(24, 24), (0, 49), (0, 49), ((-2147483648), 2147483647), ((-2147483648), 2147483647), ((-2147483648), 2147483647), (0, 49), (0, 49), ((-1), 23), (0, 49), (0, 49), ((-2147483648), 2147483647), ((-2147483648), 2147483647), ((-2), 2147483647), (0, 49), (0, 49), ((-2147483648), 2147483647), ((-2147483648), 2147483647), ((-2), 2147483647), (0, 49), (0, 49), ((-2147483648), 2147483647), ((-2147483648), 2147483647), ((-2147483648), 2147483647), (0, 49), (0, 49), ((-2147483648), 2147483647), ((-2147483648), 2147483647), ((-2147483648), 2147483647), (0, 49), (0, 49), ((-2147483648), 2147483647), ((-2147483648), 2147483647), ((-2147483648), 2147483647), (0, 49), (0, 49), ((-2147483648), 2147483647), ((-2147483648), 2147483647), (0, 49), (0, 49), ((-2147483648), 2147483647), ((-2147483648), 2147483647), (0, 9), ((-2147483648), 2147483647), (0, 49), (0, 49), ((-2147483648), 2147483647), ((-2147483648), 2147483647), (0, 9)]), [(186, [(some 4, 0)], [97, 89]), (186, [(some 4, 0)], [98, 90]), (186, [(some 4, 0)], [89, 15]), (186, [(some 4, 0)], [90, 16]), (3, [(some 14, 0), (none, 24)], []), (27, [], [58, 7]), (27, [], [59, 8]), (186, [(some 3, 0)], [60, 10]), (186, [(some 3, 0)], [61, 11]), (186, [(some 3, 0)], [62, 12]), (186, [(some 3, 0)], [63, 13]), (186, [(some 4, 0)], [15, 15]), (186, [(some 4, 0)], [16, 16])], (186, [(some 4, 0)], [97, 15]))
set_option maxRecDepth 20000 in
theorem v_xf_digest_1_0 {PT : PTy} (hp : HP19 PT) : vcOk PT w_xf_digest_1_0 := vc_of (fun ρ α hB hF => by
  obtain ⟨f0, f1, f2, f3, f4, f5, f6, f7, f8, f9, f10, f11, f12, -⟩ := hF
  have e186 : PT 186 = P_al := hp.1.1.1.1.1.1.2.2.2.2.2.2.2.1
  simp only [hF3, hF27, hFp_186, e186, P_al, den_s, den_c, Int.add_zero, List.map_cons, List.map_nil] at f0 f1 f2 f3 f4 f5 f6 f7 f8 f9 f10 f11 f12 ⊢
  have b3 : (0 : Int) ≤ ρ 3 ∧ ρ 3 ≤ 10 := hB 3 (0, 10) rfl
  have b4 : (0 : Int) ≤ ρ 4 ∧ ρ 4 ≤ 8 := hB 4 (0, 8) rfl
  have b14 : (24 : Int) ≤ ρ 14 ∧ ρ 14 ≤ 24 := hB 14 (24, 24) rfl
  clear hB
  generalize ρ 3 = r3, ρ 4 = r4, ρ 14 = r14, α 7 = a7, α 8 = a8, α 10 = a10, α 11 = a11, α 12 = a12, α 13 = a13, α 15 = a15, α 16 = a16, α 58 = a58, α 59 = a59, α 60 = a60, α 61 = a61, α 62 = a62, α 63 = a63, α 89 = a89, α 90 = a90, α 97 = a97, α 98 = a98 at *
  subst_vars
  first
    | exact fun i h1 h2 => (by first | rfl | trivial)
    | assumption
    | exact al_up (Int.le_refl _) (by assumption)
    | exact al_up (Int.le_refl _) (fun i h1 h2 => rfl)
    | exact al_tr (by assumption) (by assumption))
def w_xf_digest_1_1 : VC := ((bT ++ [(24, 24), (0, 49), (0, 49), ((-2147483648), 2147483647), ((-2147483648), 2147483647), ((-2147483648), 2147483647), (0, 49), (0, 49), ((-1), 23), (0, 49), (0, 49), ((-2147483648), 2147483647), ((-2147483648), 2147483647), ((-2), 2147483647), (0, 49), (0, 49), ((-2147483648), 2147483647), ((-2147483648), 2147483647), ((-2), 2147483647), (0, 49), (0, 49), ((-2147483648), 2147483647), ((-2147483648), 2147483647), ((-2147483648), 2147483647), (0, 49), (0, 49), ((-2147483648), 2147483647), ((-2147483648), 2147483647), ((-2147483648), 2147483647), (0, 49), (0, 49), ((-2147483648), 2147483647), ((-2147483648), 2147483647), ((-2147483648), 2147483647), (0, 49), (0, 49), ((-2147483648), 2147483647), ((-2147483648), 2147483647), (0, 49), (0, 49), ((-2147483648), 2147483647), ((-2147483648), 2147483647), (0, 9), ((-2147483648), 2147483647), (0, 49), (0, 49), ((-2147483648), 2147483647), ((-2147483648), 2147483647), (0, 9)]), [(186, [(some 4, 0)], [97, 89]), (186, [(some 4, 0)], [98, 90]), (186, [(some 4, 0)], [89, 15]), (186, [(some 4, 0)], [90, 16]), (3, [(some 14, 0), (none, 24)], []), (27, [], [58, 7]), (27, [], [59, 8]), (186, [(some 3, 0)], [60, 10]), (186, [(some 3, 0)], [61, 11]), (186, [(some 3, 0)], [62, 12]), (186, [(some 3, 0)], [63, 13]), (186, [(some 4, 0)], [15, 15]), (186, [(some 4, 0)], [16, 16])], (186, [(some 4, 0)], [98, 16]))
set_option maxRecDepth 20000 in
theorem v_xf_digest_1_1 {PT : PTy} (hp : HP19 PT) : vcOk PT w_xf_digest_1_1 := vc_of (fun ρ α hB hF => by
  obtain ⟨f0, f1, f2, f3, f4, f5, f6, f7, f8, f9, f10, f11, f12, -⟩ := hF
  have e186 : PT 186 = P_al := hp.1.1.1.1.1.1.2.2.2.2.2.2.2.1
  simp only [hF3, hF27, hFp_186, e186, P_al, den_s, den_c, Int.add_zero, List.map_cons, List.map_nil] at f0 f1 f2 f3 f4 f5 f6 f7 f8 f9 f10 f11 f12 ⊢
  have b3 : (0 : Int) ≤ ρ 3 ∧ ρ 3 ≤ 10 := hB 3 (0, 10) rfl
  have b4 : (0 : Int) ≤ ρ 4 ∧ ρ 4 ≤ 8 := hB 4 (0, 8) rfl
  have b14 : (24 : Int) ≤ ρ 14 ∧ ρ 14 ≤ 24 := hB 14 (24, 24) rfl
  clear hB
  generalize ρ 3 = r3, ρ 4 = r4, ρ 14 = r14, α 7 = a7, α 8 = a8, α 10 = a10, α 11 = a11, α 12 = a12, α 13 = a13, α 15 = a15, α 16 = a16, α 58 = a58, α 59 = a59, α 60 = a60, α 61 = a61, α 62 = a62, α 63 = a63, α 89 = a89, α 90 = a90, α 97 = a97, α 98 = a98 at *
  subst_vars
  first
    | exact fun i h1 h2 => (by first | rfl | trivial)
    | assumption
    | exact al_up (Int.le_refl _) (by assumption)
    | exact al_up (Int.le_refl _) (fun i h1 h2 => rfl)
    | exact al_tr (by assumption) (by assumption))
def w_xf_digest_2_0 : VC := (([(0, 23), (0, 49), (0, 8), (1, 10), (0, 8), (0, 6), (0, 6), (0, 8), (0, 9), (0, 49), (0, 49), ((-2147483648), 2147483647), ((-2147483648), 2147483647), (0, 5), (0, 9), (0, 49), (0, 49), ((-2147483648), 2147483647), ((-2147483648), 2147483647), (0, 49), (0, 49), ((-2147483648), 2147483647), ((-2147483648), 2147483647)]), [(27, [], [64, 58]), (2, [(some 14, 0), (some 3, 0)], []), (27, [], [7, 7]), (27, [], [8, 8]), (186, [(some 3, 0)], [10, 10]), (186, [(some 3, 0)], [11, 11]), (186, [(some 3, 0)], [12, 12]), (186, [(some 3, 0)], [58, 13]), (186, [(some 4, 0)], [15, 15]), (186, [(some 4, 0)], [16, 16])], (186, [(some 3, 0)], [64, 13]))
set_option maxRecDepth 20000 in
theorem v_xf_digest_2_0 {PT : PTy} (hp : HP19 PT) : vcOk PT w_xf_digest_2_0 := vc_of (fun ρ α hB hF => by
  obtain ⟨f0, f1, f2, f3, f4, f5, f6, f7, f8, f9, -⟩ := hF
  have e186 : PT 186 = P_al := hp.1.1.1.1.1.1.2.2.2.2.2.2.2.1
  simp only [hF2, hF27, hFp_186, e186, P_al, den_s, den_c, Int.add_zero, List.map_cons, List.map_nil] at f0 f1 f2 f3 f4 f5 f6 f7 f8 f9 ⊢
  have b3 : (1 : Int) ≤ ρ 3 ∧ ρ 3 ≤ 10 := hB 3 (1, 10) rfl
  have b4 : (0 : Int) ≤ ρ 4 ∧ ρ 4 ≤ 8 := hB 4 (0, 8) rfl
  have b14 : (0 : Int) ≤ ρ 14 ∧ ρ 14 ≤ 9 := hB 14 (0, 9) rfl
  clear hB
  generalize ρ 3 = r3, ρ 4 = r4, ρ 14 = r14, α 7 = a7, α 8 = a8, α 10 = a10, α 11 = a11, α 12 = a12, α 13 = a13, α 15 = a15, α 16 = a16, α 58 = a58, α 64 = a64 at *
  subst_vars
  first
    | exact fun i h1 h2 => (by first | rfl | trivial)
    | assumption
    | exact al_up (Int.le_refl _) (by assumption)
    | exact al_up (Int.le_refl _) (fun i h1 h2 => rfl)
    | exact al_tr (by assumption) (by assumption))
def w_xf_digest_4_0 : VC := (([(0, 23), (0, 49), (1, 8), (0, 10), (0, 8), (0, 6), (0, 6), (0, 8), (0, 9), (0, 49), (0, 49), ((-2147483648), 2147483647), ((-2147483648), 2147483647), (0, 5), (0, 7), (0, 49), (0, 49), ((-2147483648), 2147483647), ((-2147483648), 2147483647), (0, 49), (0, 49), ((-2147483648), 2147483647), ((-2147483648), 2147483647)]), [(27, [], [79, 58]), (27, [], [80, 59]), (186, [(some 3, 0)], [81, 60]), (186, [(some 3, 0)], [82, 61]), (186, [(some 3, 0)], [83, 62]), (186, [(some 3, 0)], [84, 63]), (2, [(some 14, 0), (some 2, 0)], []), (27, [], [58, 7]), (27, [], [59, 8]), (186, [(some 3, 0)], [60, 10]), (186, [(some 3, 0)], [61, 11]), (186, [(some 3, 0)], [62, 12]), (186, [(some 3, 0)], [63, 13]), (186, [(some 4, 0)], [15, 15]), (186, [(some 4, 0)], [16, 16])], (27, [], [79, 7]))
set_option maxRecDepth 20000 in
theorem v_xf_digest_4_0 {PT : PTy} (hp : HP19 PT) : vcOk PT w_xf_digest_4_0 := vc_of (fun ρ α hB hF => by
  obtain ⟨f0, f1, f2, f3, f4, f5, f6, f7, f8, f9, f10, f11, f12, f13, f14, -⟩ := hF
  have e186 : PT 186 = P_al := hp.1.1.1.1.1.1.2.2.2.2.2.2.2.1
  simp only [hF2, hF27, hFp_186, e186, P_al, den_s, den_c, Int.add_zero, List.map_cons, List.map_nil] at f0 f1 f2 f3 f4 f5 f6 f7 f8 f9 f10 f11 f12 f13 f14 ⊢
  have b2 : (1 : Int) ≤ ρ 2 ∧ ρ 2 ≤ 8 := hB 2 (1, 8) rfl
  have b3 : (0 : Int) ≤ ρ 3 ∧ ρ 3 ≤ 10 := hB 3 (0, 10) rfl
  have b4 : (0 : Int) ≤ ρ 4 ∧ ρ 4 ≤ 8 := hB 4 (0, 8) rfl
  have b14 : (0 : Int) ≤ ρ 14 ∧ ρ 14 ≤ 7 := hB 14 (0, 7) rfl
  clear hB
  generalize ρ 2 = r2, ρ 3 = r3, ρ 4 = r4, ρ 14 = r14, α 7 = a7, α 8 = a8, α 10 = a10, α 11 = a11, α 12 = a12, α 13 = a13, α 15 = a15, α 16 = a16, α 58 = a58, α 59 = a59, α 60 = a60, α 61 = a61, α 62 = a62, α 63 = a63, α 79 = a79, α 80 = a80, α 81 = a81, α 82 = a82, α 83 = a83, α 84 = a84 at *
  subst_vars
  first
    | rfl
    | assumption
    | exact upd_bk (by assumption))
def w_xf_digest_4_1 : VC := (([(0, 23), (0, 49), (1, 8), (0, 10), (0, 8), (0, 6), (0, 6), (0, 8), (0, 9), (0, 49), (0, 49), ((-2147483648), 2147483647), ((-2147483648), 2147483647), (0, 5), (0, 7), (0, 49), (0, 49), ((-2147483648), 2147483647), ((-2147483648), 2147483647), (0, 49), (0, 49), ((-2147483648), 2147483647), ((-2147483648), 2147483647)]), [(27, [], [79, 58]), (27, [], [80, 59]), (186, [(some 3, 0)], [81, 60]), (186, [(some 3, 0)], [82, 61]), (186, [(some 3, 0)], [83, 62]), (186, [(some 3, 0)], [84, 63]), (2, [(some 14, 0), (some 2, 0)], []), (27, [], [58, 7]), (27, [], [59, 8]), (186, [(some 3, 0)], [60, 10]), (186, [(some 3, 0)], [61, 11]), (186, [(some 3, 0)], [62, 12]), (186, [(some 3, 0)], [63, 13]), (186, [(some 4, 0)], [15, 15]), (186, [(some 4, 0)], [16, 16])], (27, [], [80, 8]))
set_option maxRecDepth 20000 in
theorem v_xf_digest_4_1 {PT : PTy} (hp : HP19 PT) : vcOk PT w_xf_digest_4_1 := vc_of (fun ρ α hB hF => by
  obtain ⟨f0, f1, f2, f3, f4, f5, f6, f7, f8, f9, f10, f11, f12, f13, f14, -⟩ := hF
  have e186 : PT 186 = P_al := hp.1.1.1.1.1.1.2.2.2.2.2.2.2.1
  simp only [hF2, hF27, hFp_186, e186, P_al, den_s, den_c, Int.add_zero, List.map_cons, List.map_nil] at f0 f1 f2 f3 f4 f5 f6 f7 f8 f9 f10 f11 f12 f13 f14 ⊢
  have b2 : (1 : Int) ≤ ρ 2 ∧ ρ 2 ≤ 8 := hB 2 (1, 8) rfl
  have b3 : (0 : Int) ≤ ρ 3 ∧ ρ 3 ≤ 10 := hB 3 (0, 10) rfl
  have b4 : (0 : Int) ≤ ρ 4 ∧ ρ 4 ≤ 8 := hB 4 (0, 8) rfl
  have b14 : (0 : Int) ≤ ρ 14 ∧ ρ 14 ≤ 7 := hB 14 (0, 7) rfl
  clear hB
  generalize ρ 2 = r2, ρ 3 = r3, ρ 4 = r4, ρ 14 = r14, α 7 = a7, α 8 = a8, α 10 = a10, α 11 = a11, α 12 = a12, α 13 = a13, α 15 = a15, α 16 = a16, α 58 = a58, α 59 = a59, α 60 = a60, α 61 = a61, α 62 = a62, α 63 = a63, α 79 = a79, α 80 = a80, α 81 = a81, α 82 = a82, α 83 = a83, α 84 = a84 at *
  subst_vars
  first
    | rfl
    | assumption
    | exact upd_bk (by assumption))
def w_xf_digest_4_2 : VC := (([(0, 23), (0, 49), (1, 8), (0, 10), (0, 8), (0, 6), (0, 6), (0, 8), (0, 9), (0, 49), (0, 49), ((-2147483648), 2147483647), ((-2147483648), 2147483647), (0, 5), (0, 7), (0, 49), (0, 49), ((-2147483648), 2147483647), ((-2147483648), 2147483647), (0, 49), (0, 49), ((-2147483648), 2147483647), ((-2147483648), 2147483647)]), [(27, [], [79, 58]), (27, [], [80, 59]), (186, [(some 3, 0)], [81, 60]), (186, [(some 3, 0)], [82, 61]), (186, [(some 3, 0)], [83, 62]), (186, [(some 3, 0)], [84, 63]), (2, [(some 14, 0), (some 2, 0)], []), (27, [], [58, 7]), (27, [], [59, 8]), (186, [(some 3, 0)], [60, 10]), (186, [(some 3, 0)], [61, 11]), (186, [(some 3, 0)], [62, 12]), (186, [(some 3, 0)], [63, 13]), (186, [(some 4, 0)], [15, 15]), (186, [(some 4, 0)], [16, 16])], (186, [(some 3, 0)], [81, 10]))
set_option maxRecDepth 20000 in
theorem v_xf_digest_4_2 {PT : PTy} (hp : HP19 PT) : vcOk PT w_xf_digest_4_2 := vc_of (fun ρ α hB hF => by
  obtain ⟨f0, f1, f2, f3, f4, f5, f6, f7, f8, f9, f10, f11, f12, f13, f14, -⟩ := hF
  have e186 : PT 186 = P_al := hp.1.1.1.1.1.1.2.2.2.2.2.2.2.1
  simp only [hF2, hF27, hFp_186, e186, P_al, den_s, den_c, Int.add_zero, List.map_cons, List.map_nil] at f0 f1 f2 f3 f4 f5 f6 f7 f8 f9 f10 f11 f12 f13 f14 ⊢
  have b2 : (1 : Int) ≤ ρ 2 ∧ ρ 2 ≤ 8 := hB 2 (1, 8) rfl
  have b3 : (0 : Int) ≤ ρ 3 ∧ ρ 3 ≤ 10 := hB 3 (0, 10) rfl
  have b4 : (0 : Int) ≤ ρ 4 ∧ ρ 4 ≤ 8 := hB 4 (0, 8) rfl
  have b14 : (0 : Int) ≤ ρ 14 ∧ ρ 14 ≤ 7 := hB 14 (0, 7) rfl
  clear hB
  generalize ρ 2 = r2, ρ 3 = r3, ρ 4 = r4, ρ 14 = r14, α 7 = a7, α 8 = a8, α 10 = a10, α 11 = a11, α 12 = a12, α 13 = a13, α 15 = a15, α 16 = a16, α 58 = a58, α 59 = a59, α 60 = a60, α 61 = a61, α 62 = a62, α 63 = a63, α 79 = a79, α 80 = a80, α 81 = a81, α 82 = a82, α 83 = a83, α 84 = a84 at *
  subst_vars
  first
    | exact fun i h1 h2 => (by first | rfl | trivial)
    | assumption
    | exact al_up (Int.le_refl _) (by assumption)
    | exact al_up (Int.le_refl _) (fun i h1 h2 => rfl)
    | exact al_tr (by assumption) (by assumption))
def w_xf_digest_4_3 : VC := (([(0, 23), (0, 49), (1, 8), (0, 10), (0, 8), (0, 6), (0, 6), (0, 8), (0, 9), (0, 49), (0, 49), ((-2147483648), 2147483647), ((-2147483648), 2147483647), (0, 5), (0, 7), (0, 49), (0, 49), ((-2147483648), 2147483647), ((-2147483648), 2147483647), (0, 49), (0, 49), ((-2147483648), 2147483647), ((-2147483648), 2147483647)]), [(27, [], [79, 58]), (27, [], [80, 59]), (186, [(some 3, 0)], [81, 60]), (186, [(some 3, 0)], [82, 61]), (186, [(some 3, 0)], [83, 62]), (186, [(some 3, 0)], [84, 63]), (2, [(some 14, 0), (some 2, 0)], []), (27, [], [58, 7]), (27, [], [59, 8]), (186, [(some 3, 0)], [60, 10]), (186, [(some 3, 0)], [61, 11]), (186, [(some 3, 0)], [62, 12]), (186, [(some 3, 0)], [63, 13]), (186, [(some 4, 0)], [15, 15]), (186, [(some 4, 0)], [16, 16])], (186, [(some 3, 0)], [82, 11]))
set_option maxRecDepth 20000 in
theorem v_xf_digest_4_3 {PT : PTy} (hp : HP19 PT) : vcOk PT w_xf_digest_4_3 := vc_of (fun ρ α hB hF => by
  obtain ⟨f0, f1, f2, f3, f4, f5, f6, f7, f8, f9, f10, f11, f12, f13, f14, -⟩ := hF
  have e186 : PT 186 = P_al := hp.1.1.1.1.1.1.2.2.2.2.2.2.2.1
  simp only [hF2, hF27, hFp_186, e186, P_al, den_s, den_c, Int.add_zero, List.map_cons, List.map_nil] at f0 f1 f2 f3 f4 f5 f6 f7 f8 f9 f10 f11 f12 f13 f14 ⊢
  have b2 : (1 : Int) ≤ ρ 2 ∧ ρ 2 ≤ 8 := hB 2 (1, 8) rfl
  have b3 : (0 : Int) ≤ ρ 3 ∧ ρ 3 ≤ 10 := hB 3 (0, 10) rfl
  have b4 : (0 : Int) ≤ ρ 4 ∧ ρ 4 ≤ 8 := hB 4 (0, 8) rfl
  have b14 : (0 : Int) ≤ ρ 14 ∧ ρ 14 ≤ 7 := hB 14 (0, 7) rfl
  clear hB
  generalize ρ 2 = r2, ρ 3 = r3, ρ 4 = r4, ρ 14 = r14, α 7 = a7, α 8 = a8, α 10 = a10, α 11 = a11, α 12 = a12, α 13 = a13, α 15 = a15, α 16 = a16, α 58 = a58, α 59 = a59, α 60 = a60, α 61 = a61, α 62 = a62, α 63 = a63, α 79 = a79, α 80 = a80, α 81 = a81, α 82 = a82, α 83 = a83, α 84 = a84 at *
  subst_vars
  first
    | exact fun i h1 h2 => (by first | rfl | trivial)
    | assumption
    | exact al_up (Int.le_refl _) (by assumption)
    | exact al_up (Int.le_refl _) (fun i h1 h2 => rfl)
    | exact al_tr (by assumption) (by assumption))
def w_xf_digest_4_4 : VC := (([(0, 23), (0, 49), (1, 8), (0, 10), (0, 8), (0, 6), (0, 6), (0, 8), (0, 9), (0, 49), (0, 49), ((-2147483648), 2147483647), ((-2147483648), 2147483647), (0, 5), (0, 7), (0, 49), (0, 49), ((-2147483648), 2147483647), ((-2147483648), 2147483647), (0, 49), (0, 49), ((-2147483648), 2147483647), ((-2147483648), 2147483647)]), [(27, [], [79, 58]), (27, [], [80, 59]), (186, [(some 3, 0)], [81, 60]), (186, [(some 3, 0)], [82, 61]), (186, [(some 3, 0)], [83, 62]), (186, [(some 3, 0)], [84, 63]), (2, [(some 14, 0), (some 2, 0)], []), (27, [], [58, 7]), (27, [], [59, 8]), (186, [(some 3, 0)], [60, 10]), (186, [(some 3, 0)], [61, 11]), (186, [(some 3, 0)], [62, 12]), (186, [(some 3, 0)], [63, 13]), (186, [(some 4, 0)], [15, 15]), (186, [(some 4, 0)], [16, 16])], (186, [(some 3, 0)], [83, 12]))
set_option maxRecDepth 20000 in
theorem v_xf_digest_4_4 {PT : PTy} (hp : HP19 PT) : vcOk PT w_xf_digest_4_4 := vc_of (fun ρ α hB hF => by
  obtain ⟨f0, f1, f2, f3, f4, f5, f6, f7, f8, f9, f10, f11, f12, f13, f14, -⟩ := hF
  have e186 : PT 186 = P_al := hp.1.1.1.1.1.1.2.2.2.2.2.2.2.1
  simp only [hF2, hF27, hFp_186, e186, P_al, den_s, den_c, Int.add_zero, List.map_cons, List.map_nil] at f0 f1 f2 f3 f4 f5 f6 f7 f8 f9 f10 f11 f12 f13 f14 ⊢
  have b2 : (1 : Int) ≤ ρ 2 ∧ ρ 2 ≤ 8 := hB 2 (1, 8) rfl
  have b3 : (0 : Int) ≤ ρ 3 ∧ ρ 3 ≤ 10 := hB 3 (0, 10) rfl
  have b4 : (0 : Int) ≤ ρ 4 ∧ ρ 4 ≤ 8 := hB 4 (0, 8) rfl
  have b14 : (0 : Int) ≤ ρ 14 ∧ ρ 14 ≤ 7 := hB 14 (0, 7) rfl
  clear hB
  generalize ρ 2 = r2, ρ 3 = r3, ρ 4 = r4, ρ 14 = r14, α 7 = a7, α 8 = a8, α 10 = a10, α 11 = a11, α 12 = a12, α 13 = a13, α 15 = a15, α 16 = a16, α 58 = a58, α 59 = a59, α 60 = a60, α 61 = a61, α 62 = a62, α 63 = a63, α 79 = a79, α 80 = a80, α 81 = a81, α 82 = a82, α 83 = a83, α 84 = a84 at *
  subst_vars
  first
    | exact fun i h1 h2 => (by first | rfl | trivial)
    | assumption
    | exact al_up (Int.le_refl _) (by assumption)
    | exact al_up (Int.le_refl _) (fun i h1 h2 => rfl)
    | exact al_tr (by assumption) (by assumption))
def w_xf_digest_4_5 : VC := (([(0, 23), (0, 49), (1, 8), (0, 10), (0, 8), (0, 6), (0, 6), (0, 8), (0, 9), (0, 49), (0, 49), ((-2147483648), 2147483647), ((-2147483648), 2147483647), (0, 5), (0, 7), (0, 49), (0, 49), ((-2147483648), 2147483647), ((-2147483648), 2147483647), (0, 49), (0, 49), ((-2147483648), 2147483647), ((-2147483648), 2147483647)]), [(27, [], [79, 58]), (27, [], [80, 59]), (186, [(some 3, 0)], [81, 60]), (186, [(some 3, 0)], [82, 61]), (186, [(some 3, 0)], [83, 62]), (186, [(some 3, 0)], [84, 63]), (2, [(some 14, 0), (some 2, 0)], []), (27, [], [58, 7]), (27, [], [59, 8]), (186, [(some 3, 0)], [60, 10]), (186, [(some 3, 0)], [61, 11]), (186, [(some 3, 0)], [62, 12]), (186, [(some 3, 0)], [63, 13]), (186, [(some 4, 0)], [15, 15]), (186, [(some 4, 0)], [16, 16])], (186, [(some 3, 0)], [84, 13]))
set_option maxRecDepth 20000 in
theorem v_xf_digest_4_5 {PT : PTy} (hp : HP19 PT) : vcOk PT w_xf_digest_4_5 := vc_of (fun ρ α hB hF => by
  obtain ⟨f0, f1, f2, f3, f4, f5, f6, f7, f8, f9, f10, f11, f12, f13, f14, -⟩ := hF
  have e186 : PT 186 = P_al := hp.1.1.1.1.1.1.2.2.2.2.2.2.2.1
  simp only [hF2, hF27, hFp_186, e186, P_al, den_s, den_c, Int.add_zero, List.map_cons, List.map_nil] at f0 f1 f2 f3 f4 f5 f6 f7 f8 f9 f10 f11 f12 f13 f14 ⊢
  have b2 : (1 : Int) ≤ ρ 2 ∧ ρ 2 ≤ 8 := hB 2 (1, 8) rfl
  have b3 : (0 : Int) ≤ ρ 3 ∧ ρ 3 ≤ 10 := hB 3 (0, 10) rfl
  have b4 : (0 : Int) ≤ ρ 4 ∧ ρ 4 ≤ 8 := hB 4 (0, 8) rfl
  have b14 : (0 : Int) ≤ ρ 14 ∧ ρ 14 ≤ 7 := hB 14 (0, 7) rfl
  clear hB
  generalize ρ 2 = r2, ρ 3 = r3, ρ 4 = r4, ρ 14 = r14, α 7 = a7, α 8 = a8, α 10 = a10, α 11 = a11, α 12 = a12, α 13 = a13, α 15 = a15, α 16 = a16, α 58 = a58, α 59 = a59, α 60 = a60, α 61 = a61, α 62 = a62, α 63 = a63, α 79 = a79, α 80 = a80, α 81 = a81, α 82 = a82, α 83 = a83, α 84 = a84 at *
  subst_vars
  first
    | exact fun i h1 h2 => (by first | rfl | trivial)
    | assumption
    | exact al_up (Int.le_refl _) (by assumption)
    | exact al_up (Int.le_refl _) (fun i h1 h2 => rfl)
    | exact al_tr (by assumption) (by assumption))
set_option maxRecDepth 1000000 in
theorem k_xf_digest {PT : PTy} (hp : HP19 PT) : wfX c_xf_digest = true ∧ xcOk PT c_xf_digest := xctr (xl (k_xo_fault hp.1.1.1.1.1.1.1.1.1.1.1.1.1) (xl (k_xo_count hp.1.1.1.1.1.1.1.1.1.1) (xl (k_xf_neat hp) (xl (k_xf_naked hp) (xl (k_xf_longest hp) (xl (k_xf_splits hp) (xl (k_xf_best hp) (xl (k_xf_keep hp) (xl (k_xf_hush hp) (xl (k_xf_never hp) (xl (k_xf_year hp) (xl (k_au_X6_withPromise_0 hp) (xl (k_au_X6_withPerson_0 hp) (xl0)))))))))))))) c_xf_digest 143 mX6_digest rfl h_xf_digest (by decide +kernel) (by decide +kernel) (by decide) (vcs_by [w_xf_digest_0_0, w_xf_digest_0_1, w_xf_digest_0_2, w_xf_digest_0_3, w_xf_digest_0_4, w_xf_digest_0_5, w_xf_digest_0_6, w_xf_digest_0_7] (by decide +kernel) (vc (v_xf_digest_0_0 hp) (vc (v_xf_digest_0_1 hp) (vc (v_xf_digest_0_2 hp) (vc (v_xf_digest_0_3 hp) (vc (v_xf_digest_0_4 hp) (vc (v_xf_digest_0_5 hp) (vc (v_xf_digest_0_6 hp) (vc (v_xf_digest_0_7 hp) vn))))))))) (fmc (vcs_by [w_xf_digest_1_0, w_xf_digest_1_1] (by decide +kernel) (vc (v_xf_digest_1_0 hp) (vc (v_xf_digest_1_1 hp) vn))) (fmc (vcs_by [w_xf_digest_2_0] (by decide +kernel) (vc (v_xf_digest_2_0 hp) vn)) (fmc (vcs_by [] (by decide +kernel) vn) (fmc (vcs_by [w_xf_digest_4_0, w_xf_digest_4_1, w_xf_digest_4_2, w_xf_digest_4_3, w_xf_digest_4_4, w_xf_digest_4_5] (by decide +kernel) (vc (v_xf_digest_4_0 hp) (vc (v_xf_digest_4_1 hp) (vc (v_xf_digest_4_2 hp) (vc (v_xf_digest_4_3 hp) (vc (v_xf_digest_4_4 hp) (vc (v_xf_digest_4_5 hp) vn))))))) fmn))))
