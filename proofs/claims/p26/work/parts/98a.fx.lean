/-! ===== the class: what stays; printed by wip/gen/x ===== -/
def c_xf_coat : XC := (54, 4, (bT ++ [((-2147483648), 2147483647), ((-2147483648), 2147483647), ((-2147483648), 2147483647)]), [.inr (.inl 0), .inl (some 14, 0), .inl (some 15, 0), .inl (some 16, 0)], (gX 999), [], [((bT ++ [((-2147483648), 2147483647), ((-2147483648), 2147483647), ((-2147483648), 2147483647), ((-2147483648), 2147483647), (0, 49), (0, 49), ((-2147483648), 2147483647), ((-2147483648), 2147483647)]), some (.inl (some 17, 0)), (hst (gX 999) [(5, .inr (.inr (.inr (0, [.inr (.inl 6), .inr (.inl 9), .inr (.inl 14), .inr (.inl 18), .inr (.inl 22), .inr (.inl 26), .inr (.inl 27), .inr (.inl 28), .inr (.inl 29), .inr (.inl 30), .inl (some 18, 0), .inl (some 19, 0), .inl (some 20, 0), .inl (some 21, 0), .inr (.inl 999)]))))]), (ansT 58 [(26, 58), (27, 59), (28, 60), (29, 61), (30, 62)]), 63, [])])
def h_xf_coat : List XH := []
set_option maxRecDepth 1000000 in
theorem k_xf_coat {PT : PTy} (hp : HP15 PT) : wfX c_xf_coat = true ∧ xcOk PT c_xf_coat := xctr (xl (k_liveX hp.1.1.1.1) (xl0)) c_xf_coat 93 mX6_coat rfl h_xf_coat (by decide +kernel) (by decide +kernel) (by decide) (vcs_by [] (by decide +kernel) vn) fmn
def c_xf_stands : XC := (55, 4, (bT ++ [((-2147483648), 2147483647), ((-2147483648), 2147483647)]), [.inr (.inl 0), .inl (some 14, 0), .inl (some 15, 0)], (gX 999), [], [((bT ++ [((-2147483648), 2147483647), ((-2147483648), 2147483647), ((-2), 3), (0, 49), (0, 49), ((-2147483648), 2147483647), ((-2147483648), 2147483647)]), some (.inl (some 16, 0)), (hst (gX 999) [(5, .inr (.inr (.inr (0, [.inr (.inl 6), .inr (.inl 9), .inr (.inl 14), .inr (.inl 18), .inr (.inl 22), .inr (.inl 26), .inr (.inl 27), .inr (.inl 28), .inr (.inl 29), .inr (.inl 30), .inl (some 17, 0), .inl (some 18, 0), .inl (some 19, 0), .inl (some 20, 0), .inr (.inl 999)]))))]), (ansT 58 [(26, 58), (27, 59), (28, 60), (29, 61), (30, 62)]), 63, [])])
def h_xf_stands : List XH := []
set_option maxRecDepth 1000000 in
theorem k_xf_stands {PT : PTy} (hp : HP15 PT) : wfX c_xf_stands = true ∧ xcOk PT c_xf_stands := xctr (xl (k_liveX hp.1.1.1.1) (xl0)) c_xf_stands 58 mX6_stands rfl h_xf_stands (by decide +kernel) (by decide +kernel) (by decide) (vcs_by [] (by decide +kernel) vn) fmn
def c_xf_neat : XC := (56, 4, (bT ++ [((-2147483648), 2147483647)]), [.inr (.inl 0), .inl (some 14, 0)], (gX 999), [], [((bT ++ [((-2147483648), 2147483647), ((-2147483648), 2147483647), (0, 49), (0, 49), ((-2147483648), 2147483647), ((-2147483648), 2147483647)]), some (.inl (some 15, 0)), (hst (gX 999) [(5, .inr (.inr (.inr (0, [.inr (.inl 6), .inr (.inl 9), .inr (.inl 14), .inr (.inl 18), .inr (.inl 22), .inr (.inl 26), .inr (.inl 27), .inr (.inl 28), .inr (.inl 29), .inr (.inl 30), .inl (some 16, 0), .inl (some 17, 0), .inl (some 18, 0), .inl (some 19, 0), .inr (.inl 999)]))))]), (ansT 58 [(26, 58), (27, 59), (28, 60), (29, 61), (30, 62)]), 63, [])])
def h_xf_neat : List XH := []
set_option maxRecDepth 1000000 in
theorem k_xf_neat {PT : PTy} (hp : HP15 PT) : wfX c_xf_neat = true ∧ xcOk PT c_xf_neat := xctr (xl (k_fittingBits14 hp.1.1.1.1.1.1.1.1.1.1.1) (xl (k_liveX hp.1.1.1.1) (xl0))) c_xf_neat 42 mX6_neat rfl h_xf_neat (by decide +kernel) (by decide +kernel) (by decide) (vcs_by [] (by decide +kernel) vn) fmn
def c_xf_naked : XC := (57, 4, (bT ++ [((-2147483648), 2147483647)]), [.inr (.inl 0), .inl (some 14, 0)], (gX 999), [], [((bT ++ [((-2147483648), 2147483647), ((-2147483648), 2147483647), (0, 49), (0, 49), ((-2147483648), 2147483647), ((-2147483648), 2147483647)]), some (.inl (some 15, 0)), (hst (gX 999) [(5, .inr (.inr (.inr (0, [.inr (.inl 6), .inr (.inl 9), .inr (.inl 14), .inr (.inl 18), .inr (.inl 22), .inr (.inl 26), .inr (.inl 27), .inr (.inl 28), .inr (.inl 29), .inr (.inl 30), .inl (some 16, 0), .inl (some 17, 0), .inl (some 18, 0), .inl (some 19, 0), .inr (.inl 999)]))))]), (ansT 58 [(26, 58), (27, 59), (28, 60), (29, 61), (30, 62)]), 63, [])])
def h_xf_naked : List XH := []
set_option maxRecDepth 1000000 in
theorem k_xf_naked {PT : PTy} (hp : HP15 PT) : wfX c_xf_naked = true ∧ xcOk PT c_xf_naked := xctr (xl (k_nakedBits14 hp.1.1.1.1.1.1.1.1.1.1.1) (xl (k_liveX hp.1.1.1.1) (xl0))) c_xf_naked 42 mX6_naked rfl h_xf_naked (by decide +kernel) (by decide +kernel) (by decide) (vcs_by [] (by decide +kernel) vn) fmn
def c_xf_longest : XC := (58, 4, (bT ++ [((-2147483648), 2147483647)]), [.inr (.inl 0), .inl (some 14, 0)], (gX 999), [], [((bT ++ [((-2147483648), 2147483647), ((-2), 7), (0, 49), (0, 49), ((-2147483648), 2147483647), ((-2147483648), 2147483647)]), some (.inl (some 15, 0)), (hst (gX 999) [(5, .inr (.inr (.inr (0, [.inr (.inl 6), .inr (.inl 9), .inr (.inl 14), .inr (.inl 18), .inr (.inl 22), .inr (.inl 26), .inr (.inl 27), .inr (.inl 28), .inr (.inl 29), .inr (.inl 30), .inl (some 16, 0), .inl (some 17, 0), .inl (some 18, 0), .inl (some 19, 0), .inr (.inl 999)]))))]), (ansT 58 [(26, 58), (27, 59), (28, 60), (29, 61), (30, 62)]), 63, [])])
def h_xf_longest : List XH := [(22, (bT ++ [(0, 23), ((-1), 7), ((-1), 99), (0, 8), (0, 49), (0, 49)]), [some (.inr (.inl 0)), some (.inl (some 14, 0)), some (.inl (some 15, 0)), some (.inl (some 16, 0)), some (.inl (some 17, 0))], (hst (gX 14) [(5, .inr (.inr (.inr (0, [.inr (.inl 6), .inr (.inl 9), .inr (.inl 14), .inr (.inl 18), .inr (.inl 22), .inr (.inl 26), .inr (.inl 27), .inr (.inl 28), .inr (.inl 29), .inr (.inl 30), .inl (some 18, 0), .inl (some 19, 0), .inl (none, 0), .inl (none, 0), .inr (.inl 14)]))))]), (ansT 58 [(26, 58), (27, 59), (28, 60), (29, 61), (30, 62)]), 63, [], [(true, (none, 1)), (true, (some 17, 0))])]
set_option maxRecDepth 1000000 in
theorem k_xf_longest {PT : PTy} (hp : HP15 PT) : wfX c_xf_longest = true ∧ xcOk PT c_xf_longest := xctr (xl (k_liveX hp.1.1.1.1) (xl0)) c_xf_longest 45 mX6_longest rfl h_xf_longest (by decide +kernel) (by decide +kernel) (by decide) (vcs_by [] (by decide +kernel) vn) (fmc (vcs_by [] (by decide +kernel) vn) fmn)
def c_xf_splits : XC := (59, 4, (bT), [.inr (.inl 0)], (gX 999), [], [((bT ++ [((-2147483648), 2147483647), (0, 49), (0, 49)]), some (.inl (some 14, 0)), (hst (gX 14) [(5, .inr (.inr (.inr (0, [.inr (.inl 6), .inr (.inl 9), .inr (.inl 14), .inr (.inl 18), .inr (.inl 22), .inr (.inl 26), .inr (.inl 27), .inr (.inl 28), .inr (.inl 29), .inr (.inl 30), .inl (some 15, 0), .inl (some 16, 0), .inl (none, 0), .inl (none, 0), .inr (.inl 14)]))))]), (ansT 58 [(26, 58), (27, 59), (28, 60), (29, 61), (30, 62)]), 63, [])])
def h_xf_splits : List XH := []
set_option maxRecDepth 1000000 in
theorem k_xf_splits {PT : PTy} (hp : HP15 PT) : wfX c_xf_splits = true ∧ xcOk PT c_xf_splits := xctr (xl (k_allRips14 hp.1.1.1.1.1.1.1.1.1.1.1) (xl (k_liveX hp.1.1.1.1) (xl0))) c_xf_splits 27 mX6_splits rfl h_xf_splits (by decide +kernel) (by decide +kernel) (by decide) (vcs_by [] (by decide +kernel) vn) fmn
def c_xf_best : XC := (60, 3, (bT), [.inr (.inl 0)], (gX 999), [], [((bT ++ [((-1), 23), (0, 49), (0, 49), ((-2147483648), 2147483647), ((-2147483648), 2147483647)]), some (.inl (some 14, 0)), (hst (gX 999) [(5, .inr (.inr (.inr (0, [.inr (.inl 6), .inr (.inl 9), .inr (.inl 14), .inr (.inl 18), .inr (.inl 22), .inr (.inl 26), .inr (.inl 27), .inr (.inl 28), .inr (.inl 29), .inr (.inl 30), .inl (some 15, 0), .inl (some 16, 0), .inl (some 17, 0), .inl (some 18, 0), .inr (.inl 999)]))))]), (ansT 58 [(26, 58), (27, 59), (28, 60), (29, 61), (30, 62)]), 63, [])])
def h_xf_best : List XH := [(36, ([(0, 23), (0, 49), (1, 8), (0, 10), (0, 8), (0, 6), (0, 6), (0, 8), (0, 9), (0, 49), (0, 49), ((-2147483648), 2147483647), ((-2147483648), 2147483647), (0, 5), ((-1), 23), ((-1), 2147483647), (0, 24), (0, 49), (0, 49)]), [some (.inr (.inl 0)), some (.inl (some 14, 0)), some (.inl (some 15, 0)), some (.inl (some 16, 0)), none], (hst (gX 14) [(5, .inr (.inr (.inr (0, [.inr (.inl 6), .inr (.inl 9), .inr (.inl 14), .inr (.inl 18), .inr (.inl 22), .inr (.inl 26), .inr (.inl 27), .inr (.inl 28), .inr (.inl 29), .inr (.inl 30), .inl (some 17, 0), .inl (some 18, 0), .inl (none, 0), .inl (none, 0), .inr (.inl 14)]))))]), (ansT 58 [(26, 58), (27, 59), (28, 60), (29, 61), (30, 62)]), 63, [(87, [(some 17, 0)], [58, 59])], [(true, (none, 1)), (true, (some 16, 0))])]
def w_xf_best_0_0 : VC := (([(0, 23), (0, 49), (1, 8), (0, 10), (0, 8), (0, 6), (0, 6), (0, 8), (0, 9), (0, 49), (0, 49), ((-2147483648), 2147483647), ((-2147483648), 2147483647), (0, 5), (0, 49)]), [(89, [], [8, 60, 61, 62]), (86, [(some 2, 0), (some 3, 0), (some 4, 0), (some 5, 0), (some 6, 0), (some 14, 0)], [58, 59, 10, 12, 13, 15, 16, 19, 20, 23, 24]), (1, [(some 2, 0), (none, 0)], [])], (87, [(some 14, 0)], [58, 59]))
set_option maxRecDepth 20000 in
theorem v_xf_best_0_0 {PT : PTy} (hp : HP15 PT) : vcOk PT w_xf_best_0_0 := vc_in [(2, 1, 8), (3, 0, 10), (4, 0, 8), (5, 0, 6), (6, 0, 6), (14, 0, 49)] (by decide +kernel) (fun ρ α => by
  intro b2 b3 b4 b5 b6 b14 f0 f1 f2 tt
  clear f2
  have e86 : PT 86 = P_arr := pe86_15 hp
  have e87 : PT 87 = P_pr := pe87_15 hp
  have e89 : PT 89 = P_bg := pe89_15 hp
  simp only [hFp_86, hFp_87, hFp_89, e86, e87, e89, P_arr, P_pr, P_bg, den_s, den_c, Int.add_zero, List.map_cons, List.map_nil] at f0 f1 ⊢
  exact (f1).1)
set_option maxRecDepth 1000000 in
theorem k_xf_best {PT : PTy} (hp : HP15 PT) : wfX c_xf_best = true ∧ xcOk PT c_xf_best := xctr (xl (k_arrange14 hp.1.1.1.1.1.1.1.1.1.1.1.1) (xl (k_begin14 hp.1.1.1.1.1.1.1.1.1.1.1) (xl (k_advance14 hp.1.1.1.1.1.1.1.1.1.1.1) (xl (k_fittingBits14 hp.1.1.1.1.1.1.1.1.1.1.1) (xl (k_bitCount hp.1.1.1.1) (xl0)))))) c_xf_best 42 mX6_best rfl h_xf_best (by decide +kernel) (by decide +kernel) (by decide) (vcs_by [w_xf_best_0_0] (by decide +kernel) (vc (v_xf_best_0_0 hp) vn)) (fmc (vcs_by [] (by decide +kernel) vn) fmn)
def c_xf_swear : XC := (61, 4, (bT ++ [((-2147483648), 2147483647), ((-2147483648), 2147483647)]), [.inr (.inl 0), .inl (some 14, 0), .inl (some 15, 0)], (gX 999), [], [((bT ++ [((-2147483648), 2147483647), ((-2147483648), 2147483647), ((-2), 9), (0, 49), (0, 49), ((-2147483648), 2147483647), ((-2147483648), 2147483647)]), some (.inl (some 16, 0)), (hst (gX 999) [(5, .inr (.inr (.inr (0, [.inr (.inl 6), .inr (.inl 9), .inr (.inl 14), .inr (.inl 18), .inr (.inl 22), .inr (.inl 26), .inr (.inl 27), .inr (.inl 28), .inr (.inl 29), .inr (.inl 30), .inl (some 17, 0), .inl (some 18, 0), .inl (some 19, 0), .inl (some 20, 0), .inr (.inl 999)]))))]), (ansT 58 [(10, 58), (11, 59), (12, 60), (13, 61), (26, 62), (27, 63), (28, 64), (29, 65), (30, 66)]), 67, [(186, [(some 3, 0)], [58, 10]), (186, [(some 3, 0)], [59, 11]), (186, [(some 3, 0)], [60, 12]), (186, [(some 3, 0)], [61, 13])])])
def h_xf_swear : List XH := [(26, ([(0, 23), (0, 49), (1, 8), (0, 10), (0, 8), (0, 6), (0, 6), (0, 8), (0, 9), (0, 49), (0, 49), ((-2147483648), 2147483647), ((-2147483648), 2147483647), (0, 5), (0, 7), (0, 23), ((-1), 9), (1, 10), (0, 49), (0, 49), ((-2147483648), 2147483647), ((-2147483648), 2147483647)]), [some (.inr (.inl 0)), some (.inl (some 14, 0)), some (.inl (some 15, 0)), some (.inl (some 16, 0)), some (.inl (some 17, 0))], (hst (gX 999) [(5, .inr (.inr (.inr (0, [.inr (.inl 6), .inr (.inl 9), .inr (.inl 14), .inr (.inl 18), .inr (.inl 22), .inr (.inl 26), .inr (.inl 27), .inr (.inl 28), .inr (.inl 29), .inr (.inl 30), .inl (some 18, 0), .inl (some 19, 0), .inl (some 20, 0), .inl (some 21, 0), .inr (.inl 999)]))))]), (ansT 58 [(10, 58), (11, 59), (12, 60), (13, 61), (26, 62), (27, 63), (28, 64), (29, 65), (30, 66)]), 67, [(186, [(some 3, 0)], [58, 10]), (186, [(some 3, 0)], [59, 11]), (186, [(some 3, 0)], [60, 12]), (186, [(some 3, 0)], [61, 13])], [(true, (none, 1)), (true, (some 17, 0))])]
def w_xf_swear_0_0 : VC := ((bT ++ [((-2147483648), (-1)), ((-2147483648), 2147483647)]), [(0, [(none, 0), (none, 0)], []), (2, [(some 14, 0), (none, 0)], [])], (186, [(some 3, 0)], [10, 10]))
theorem pe186_15 {PT : PTy} (hp : HP15 PT) : PT 186 = P_al := hp.1.1.2.2.2.2.2.2.2.1
set_option maxRecDepth 20000 in
theorem v_xf_swear_0_0 {PT : PTy} (hp : HP15 PT) : vcOk PT w_xf_swear_0_0 := vc_iv [(3, 0, 10), (14, (-2147483648), (-1))] [10] (by decide +kernel) (fun ρ α => by
  intro r3 g3 b3 r14 g14 b14 a10 h10 f0 f1 tt
  have e186 : PT 186 = P_al := pe186_15 hp
  simp only [hF0, hF2, hFp_186, e186, P_al, den_s, den_c, Int.add_zero, List.map_cons, List.map_nil, g3.eq, g14.eq, h10] at f0 f1 ⊢
  clear g3 g14 h10 e186 tt
  subst_vars
  first
    | exact fun i h1 h2 => (by first | rfl | trivial)
    | assumption
    | exact al_up (Int.le_refl _) (by assumption)
    | exact al_up (Int.le_refl _) (fun i h1 h2 => rfl)
    | exact al_tr (by assumption) (by assumption))
def w_xf_swear_0_1 : VC := ((bT ++ [((-2147483648), (-1)), ((-2147483648), 2147483647)]), [(0, [(none, 0), (none, 0)], []), (2, [(some 14, 0), (none, 0)], [])], (186, [(some 3, 0)], [11, 11]))
set_option maxRecDepth 20000 in
theorem v_xf_swear_0_1 {PT : PTy} (hp : HP15 PT) : vcOk PT w_xf_swear_0_1 := vc_iv [(3, 0, 10), (14, (-2147483648), (-1))] [11] (by decide +kernel) (fun ρ α => by
  intro r3 g3 b3 r14 g14 b14 a11 h11 f0 f1 tt
  have e186 : PT 186 = P_al := pe186_15 hp
  simp only [hF0, hF2, hFp_186, e186, P_al, den_s, den_c, Int.add_zero, List.map_cons, List.map_nil, g3.eq, g14.eq, h11] at f0 f1 ⊢
  clear g3 g14 h11 e186 tt
  subst_vars
  first
    | exact fun i h1 h2 => (by first | rfl | trivial)
    | assumption
    | exact al_up (Int.le_refl _) (by assumption)
    | exact al_up (Int.le_refl _) (fun i h1 h2 => rfl)
    | exact al_tr (by assumption) (by assumption))
def w_xf_swear_0_2 : VC := ((bT ++ [((-2147483648), (-1)), ((-2147483648), 2147483647)]), [(0, [(none, 0), (none, 0)], []), (2, [(some 14, 0), (none, 0)], [])], (186, [(some 3, 0)], [12, 12]))
set_option maxRecDepth 20000 in
theorem v_xf_swear_0_2 {PT : PTy} (hp : HP15 PT) : vcOk PT w_xf_swear_0_2 := vc_iv [(3, 0, 10), (14, (-2147483648), (-1))] [12] (by decide +kernel) (fun ρ α => by
  intro r3 g3 b3 r14 g14 b14 a12 h12 f0 f1 tt
  have e186 : PT 186 = P_al := pe186_15 hp
  simp only [hF0, hF2, hFp_186, e186, P_al, den_s, den_c, Int.add_zero, List.map_cons, List.map_nil, g3.eq, g14.eq, h12] at f0 f1 ⊢
  clear g3 g14 h12 e186 tt
  subst_vars
  first
    | exact fun i h1 h2 => (by first | rfl | trivial)
    | assumption
    | exact al_up (Int.le_refl _) (by assumption)
    | exact al_up (Int.le_refl _) (fun i h1 h2 => rfl)
    | exact al_tr (by assumption) (by assumption))
def w_xf_swear_0_3 : VC := ((bT ++ [((-2147483648), (-1)), ((-2147483648), 2147483647)]), [(0, [(none, 0), (none, 0)], []), (2, [(some 14, 0), (none, 0)], [])], (186, [(some 3, 0)], [13, 13]))
set_option maxRecDepth 20000 in
theorem v_xf_swear_0_3 {PT : PTy} (hp : HP15 PT) : vcOk PT w_xf_swear_0_3 := vc_iv [(3, 0, 10), (14, (-2147483648), (-1))] [13] (by decide +kernel) (fun ρ α => by
  intro r3 g3 b3 r14 g14 b14 a13 h13 f0 f1 tt
  have e186 : PT 186 = P_al := pe186_15 hp
  simp only [hF0, hF2, hFp_186, e186, P_al, den_s, den_c, Int.add_zero, List.map_cons, List.map_nil, g3.eq, g14.eq, h13] at f0 f1 ⊢
  clear g3 g14 h13 e186 tt
  subst_vars
  first
    | exact fun i h1 h2 => (by first | rfl | trivial)
    | assumption
    | exact al_up (Int.le_refl _) (by assumption)
    | exact al_up (Int.le_refl _) (fun i h1 h2 => rfl)
    | exact al_tr (by assumption) (by assumption))
def w_xf_swear_0_4 : VC := ((bT ++ [(0, 2147483647), ((-2147483648), 2147483647)]), [(0, [(none, 0), (none, 0)], []), (3, [(some 14, 0), (some 2, 0)], []), (3, [(some 14, 0), (none, 0)], [])], (186, [(some 3, 0)], [10, 10]))
set_option maxRecDepth 20000 in
theorem v_xf_swear_0_4 {PT : PTy} (hp : HP15 PT) : vcOk PT w_xf_swear_0_4 := vc_iv [(2, 0, 8), (3, 0, 10), (14, 0, 2147483647)] [10] (by decide +kernel) (fun ρ α => by
  intro r2 g2 b2 r3 g3 b3 r14 g14 b14 a10 h10 f0 f1 f2 tt
  have e186 : PT 186 = P_al := pe186_15 hp
  simp only [hF0, hF3, hFp_186, e186, P_al, den_s, den_c, Int.add_zero, List.map_cons, List.map_nil, g2.eq, g3.eq, g14.eq, h10] at f0 f1 f2 ⊢
  clear g2 g3 g14 h10 e186 tt
  subst_vars
  first
    | exact fun i h1 h2 => (by first | rfl | trivial)
    | assumption
    | exact al_up (Int.le_refl _) (by assumption)
    | exact al_up (Int.le_refl _) (fun i h1 h2 => rfl)
    | exact al_tr (by assumption) (by assumption))
def w_xf_swear_0_5 : VC := ((bT ++ [(0, 2147483647), ((-2147483648), 2147483647)]), [(0, [(none, 0), (none, 0)], []), (3, [(some 14, 0), (some 2, 0)], []), (3, [(some 14, 0), (none, 0)], [])], (186, [(some 3, 0)], [11, 11]))
set_option maxRecDepth 20000 in
theorem v_xf_swear_0_5 {PT : PTy} (hp : HP15 PT) : vcOk PT w_xf_swear_0_5 := vc_iv [(2, 0, 8), (3, 0, 10), (14, 0, 2147483647)] [11] (by decide +kernel) (fun ρ α => by
  intro r2 g2 b2 r3 g3 b3 r14 g14 b14 a11 h11 f0 f1 f2 tt
  have e186 : PT 186 = P_al := pe186_15 hp
  simp only [hF0, hF3, hFp_186, e186, P_al, den_s, den_c, Int.add_zero, List.map_cons, List.map_nil, g2.eq, g3.eq, g14.eq, h11] at f0 f1 f2 ⊢
  clear g2 g3 g14 h11 e186 tt
  subst_vars
  first
    | exact fun i h1 h2 => (by first | rfl | trivial)
    | assumption
    | exact al_up (Int.le_refl _) (by assumption)
    | exact al_up (Int.le_refl _) (fun i h1 h2 => rfl)
    | exact al_tr (by assumption) (by assumption))
def w_xf_swear_0_6 : VC := ((bT ++ [(0, 2147483647), ((-2147483648), 2147483647)]), [(0, [(none, 0), (none, 0)], []), (3, [(some 14, 0), (some 2, 0)], []), (3, [(some 14, 0), (none, 0)], [])], (186, [(some 3, 0)], [12, 12]))
set_option maxRecDepth 20000 in
theorem v_xf_swear_0_6 {PT : PTy} (hp : HP15 PT) : vcOk PT w_xf_swear_0_6 := vc_iv [(2, 0, 8), (3, 0, 10), (14, 0, 2147483647)] [12] (by decide +kernel) (fun ρ α => by
  intro r2 g2 b2 r3 g3 b3 r14 g14 b14 a12 h12 f0 f1 f2 tt
  have e186 : PT 186 = P_al := pe186_15 hp
  simp only [hF0, hF3, hFp_186, e186, P_al, den_s, den_c, Int.add_zero, List.map_cons, List.map_nil, g2.eq, g3.eq, g14.eq, h12] at f0 f1 f2 ⊢
  clear g2 g3 g14 h12 e186 tt
  subst_vars
  first
    | exact fun i h1 h2 => (by first | rfl | trivial)
    | assumption
    | exact al_up (Int.le_refl _) (by assumption)
    | exact al_up (Int.le_refl _) (fun i h1 h2 => rfl)
    | exact al_tr (by assumption) (by assumption))
def w_xf_swear_0_7 : VC := ((bT ++ [(0, 2147483647), ((-2147483648), 2147483647)]), [(0, [(none, 0), (none, 0)], []), (3, [(some 14, 0), (some 2, 0)], []), (3, [(some 14, 0), (none, 0)], [])], (186, [(some 3, 0)], [13, 13]))
set_option maxRecDepth 20000 in
theorem v_xf_swear_0_7 {PT : PTy} (hp : HP15 PT) : vcOk PT w_xf_swear_0_7 := vc_iv [(2, 0, 8), (3, 0, 10), (14, 0, 2147483647)] [13] (by decide +kernel) (fun ρ α => by
  intro r2 g2 b2 r3 g3 b3 r14 g14 b14 a13 h13 f0 f1 f2 tt
  have e186 : PT 186 = P_al := pe186_15 hp
  simp only [hF0, hF3, hFp_186, e186, P_al, den_s, den_c, Int.add_zero, List.map_cons, List.map_nil, g2.eq, g3.eq, g14.eq, h13] at f0 f1 f2 ⊢
  clear g2 g3 g14 h13 e186 tt
  subst_vars
  first
    | exact fun i h1 h2 => (by first | rfl | trivial)
    | assumption
    | exact al_up (Int.le_refl _) (by assumption)
    | exact al_up (Int.le_refl _) (fun i h1 h2 => rfl)
    | exact al_tr (by assumption) (by assumption))
def w_xf_swear_0_8 : VC := (([(0, 23), (0, 49), (1, 8), (0, 10), (0, 8), (0, 6), (0, 6), (0, 8), (0, 9), (0, 49), (0, 49), ((-2147483648), 2147483647), ((-2147483648), 2147483647), (0, 5), (0, 7), ((-2147483648), (-1))]), [(0, [(none, 0), (none, 0)], []), (2, [(some 15, 0), (none, 0)], []), (1, [(none, 1), (none, 0)], []), (2, [(some 14, 0), (some 2, 0)], []), (3, [(some 14, 0), (none, 0)], [])], (186, [(some 3, 0)], [10, 10]))
set_option maxRecDepth 20000 in
theorem v_xf_swear_0_8 {PT : PTy} (hp : HP15 PT) : vcOk PT w_xf_swear_0_8 := vc_iv [(2, 1, 8), (3, 0, 10), (14, 0, 7), (15, (-2147483648), (-1))] [10] (by decide +kernel) (fun ρ α => by
  intro r2 g2 b2 r3 g3 b3 r14 g14 b14 r15 g15 b15 a10 h10 f0 f1 f2 f3 f4 tt
  have e186 : PT 186 = P_al := pe186_15 hp
  simp only [hF0, hF1, hF2, hF3, hFp_186, e186, P_al, den_s, den_c, Int.add_zero, List.map_cons, List.map_nil, g2.eq, g3.eq, g14.eq, g15.eq, h10] at f0 f1 f2 f3 f4 ⊢
  clear g2 g3 g14 g15 h10 e186 tt
  subst_vars
  first
    | exact fun i h1 h2 => (by first | rfl | trivial)
    | assumption
    | exact al_up (Int.le_refl _) (by assumption)
    | exact al_up (Int.le_refl _) (fun i h1 h2 => rfl)
    | exact al_tr (by assumption) (by assumption))
def w_xf_swear_0_9 : VC := (([(0, 23), (0, 49), (1, 8), (0, 10), (0, 8), (0, 6), (0, 6), (0, 8), (0, 9), (0, 49), (0, 49), ((-2147483648), 2147483647), ((-2147483648), 2147483647), (0, 5), (0, 7), ((-2147483648), (-1))]), [(0, [(none, 0), (none, 0)], []), (2, [(some 15, 0), (none, 0)], []), (1, [(none, 1), (none, 0)], []), (2, [(some 14, 0), (some 2, 0)], []), (3, [(some 14, 0), (none, 0)], [])], (186, [(some 3, 0)], [11, 11]))
set_option maxRecDepth 20000 in
theorem v_xf_swear_0_9 {PT : PTy} (hp : HP15 PT) : vcOk PT w_xf_swear_0_9 := vc_iv [(2, 1, 8), (3, 0, 10), (14, 0, 7), (15, (-2147483648), (-1))] [11] (by decide +kernel) (fun ρ α => by
  intro r2 g2 b2 r3 g3 b3 r14 g14 b14 r15 g15 b15 a11 h11 f0 f1 f2 f3 f4 tt
  have e186 : PT 186 = P_al := pe186_15 hp
  simp only [hF0, hF1, hF2, hF3, hFp_186, e186, P_al, den_s, den_c, Int.add_zero, List.map_cons, List.map_nil, g2.eq, g3.eq, g14.eq, g15.eq, h11] at f0 f1 f2 f3 f4 ⊢
  clear g2 g3 g14 g15 h11 e186 tt
  subst_vars
  first
    | exact fun i h1 h2 => (by first | rfl | trivial)
    | assumption
    | exact al_up (Int.le_refl _) (by assumption)
    | exact al_up (Int.le_refl _) (fun i h1 h2 => rfl)
    | exact al_tr (by assumption) (by assumption))
def w_xf_swear_0_10 : VC := (([(0, 23), (0, 49), (1, 8), (0, 10), (0, 8), (0, 6), (0, 6), (0, 8), (0, 9), (0, 49), (0, 49), ((-2147483648), 2147483647), ((-2147483648), 2147483647), (0, 5), (0, 7), ((-2147483648), (-1))]), [(0, [(none, 0), (none, 0)], []), (2, [(some 15, 0), (none, 0)], []), (1, [(none, 1), (none, 0)], []), (2, [(some 14, 0), (some 2, 0)], []), (3, [(some 14, 0), (none, 0)], [])], (186, [(some 3, 0)], [12, 12]))
set_option maxRecDepth 20000 in
theorem v_xf_swear_0_10 {PT : PTy} (hp : HP15 PT) : vcOk PT w_xf_swear_0_10 := vc_iv [(2, 1, 8), (3, 0, 10), (14, 0, 7), (15, (-2147483648), (-1))] [12] (by decide +kernel) (fun ρ α => by
  intro r2 g2 b2 r3 g3 b3 r14 g14 b14 r15 g15 b15 a12 h12 f0 f1 f2 f3 f4 tt
  have e186 : PT 186 = P_al := pe186_15 hp
  simp only [hF0, hF1, hF2, hF3, hFp_186, e186, P_al, den_s, den_c, Int.add_zero, List.map_cons, List.map_nil, g2.eq, g3.eq, g14.eq, g15.eq, h12] at f0 f1 f2 f3 f4 ⊢
  clear g2 g3 g14 g15 h12 e186 tt
  subst_vars
  first
    | exact fun i h1 h2 => (by first | rfl | trivial)
    | assumption
    | exact al_up (Int.le_refl _) (by assumption)
    | exact al_up (Int.le_refl _) (fun i h1 h2 => rfl)
    | exact al_tr (by assumption) (by assumption))
def w_xf_swear_0_11 : VC := (([(0, 23), (0, 49), (1, 8), (0, 10), (0, 8), (0, 6), (0, 6), (0, 8), (0, 9), (0, 49), (0, 49), ((-2147483648), 2147483647), ((-2147483648), 2147483647), (0, 5), (0, 7), ((-2147483648), (-1))]), [(0, [(none, 0), (none, 0)], []), (2, [(some 15, 0), (none, 0)], []), (1, [(none, 1), (none, 0)], []), (2, [(some 14, 0), (some 2, 0)], []), (3, [(some 14, 0), (none, 0)], [])], (186, [(some 3, 0)], [13, 13]))
set_option maxRecDepth 20000 in
theorem v_xf_swear_0_11 {PT : PTy} (hp : HP15 PT) : vcOk PT w_xf_swear_0_11 := vc_iv [(2, 1, 8), (3, 0, 10), (14, 0, 7), (15, (-2147483648), (-1))] [13] (by decide +kernel) (fun ρ α => by
  intro r2 g2 b2 r3 g3 b3 r14 g14 b14 r15 g15 b15 a13 h13 f0 f1 f2 f3 f4 tt
  have e186 : PT 186 = P_al := pe186_15 hp
  simp only [hF0, hF1, hF2, hF3, hFp_186, e186, P_al, den_s, den_c, Int.add_zero, List.map_cons, List.map_nil, g2.eq, g3.eq, g14.eq, g15.eq, h13] at f0 f1 f2 f3 f4 ⊢
  clear g2 g3 g14 g15 h13 e186 tt
  subst_vars
  first
    | exact fun i h1 h2 => (by first | rfl | trivial)
    | assumption
    | exact al_up (Int.le_refl _) (by assumption)
    | exact al_up (Int.le_refl _) (fun i h1 h2 => rfl)
    | exact al_tr (by assumption) (by assumption))
def w_xf_swear_0_12 : VC := (([(0, 23), (0, 49), (1, 8), (0, 10), (0, 8), (0, 6), (0, 6), (0, 8), (0, 9), (0, 49), (0, 49), ((-2147483648), 2147483647), ((-2147483648), 2147483647), (0, 5), (0, 7), (24, 2147483647)]), [(0, [(none, 0), (none, 0)], []), (2, [(none, 23), (some 15, 0)], []), (3, [(some 15, 0), (none, 0)], []), (1, [(none, 1), (none, 0)], []), (2, [(some 14, 0), (some 2, 0)], []), (3, [(some 14, 0), (none, 0)], [])], (186, [(some 3, 0)], [10, 10]))
set_option maxRecDepth 20000 in
theorem v_xf_swear_0_12 {PT : PTy} (hp : HP15 PT) : vcOk PT w_xf_swear_0_12 := vc_iv [(2, 1, 8), (3, 0, 10), (14, 0, 7), (15, 24, 2147483647)] [10] (by decide +kernel) (fun ρ α => by
  intro r2 g2 b2 r3 g3 b3 r14 g14 b14 r15 g15 b15 a10 h10 f0 f1 f2 f3 f4 f5 tt
  have e186 : PT 186 = P_al := pe186_15 hp
  simp only [hF0, hF1, hF2, hF3, hFp_186, e186, P_al, den_s, den_c, Int.add_zero, List.map_cons, List.map_nil, g2.eq, g3.eq, g14.eq, g15.eq, h10] at f0 f1 f2 f3 f4 f5 ⊢
  clear g2 g3 g14 g15 h10 e186 tt
  subst_vars
  first
    | exact fun i h1 h2 => (by first | rfl | trivial)
    | assumption
    | exact al_up (Int.le_refl _) (by assumption)
    | exact al_up (Int.le_refl _) (fun i h1 h2 => rfl)
    | exact al_tr (by assumption) (by assumption))
def w_xf_swear_0_13 : VC := (([(0, 23), (0, 49), (1, 8), (0, 10), (0, 8), (0, 6), (0, 6), (0, 8), (0, 9), (0, 49), (0, 49), ((-2147483648), 2147483647), ((-2147483648), 2147483647), (0, 5), (0, 7), (24, 2147483647)]), [(0, [(none, 0), (none, 0)], []), (2, [(none, 23), (some 15, 0)], []), (3, [(some 15, 0), (none, 0)], []), (1, [(none, 1), (none, 0)], []), (2, [(some 14, 0), (some 2, 0)], []), (3, [(some 14, 0), (none, 0)], [])], (186, [(some 3, 0)], [11, 11]))
set_option maxRecDepth 20000 in
theorem v_xf_swear_0_13 {PT : PTy} (hp : HP15 PT) : vcOk PT w_xf_swear_0_13 := vc_iv [(2, 1, 8), (3, 0, 10), (14, 0, 7), (15, 24, 2147483647)] [11] (by decide +kernel) (fun ρ α => by
  intro r2 g2 b2 r3 g3 b3 r14 g14 b14 r15 g15 b15 a11 h11 f0 f1 f2 f3 f4 f5 tt
  have e186 : PT 186 = P_al := pe186_15 hp
  simp only [hF0, hF1, hF2, hF3, hFp_186, e186, P_al, den_s, den_c, Int.add_zero, List.map_cons, List.map_nil, g2.eq, g3.eq, g14.eq, g15.eq, h11] at f0 f1 f2 f3 f4 f5 ⊢
  clear g2 g3 g14 g15 h11 e186 tt
  subst_vars
  first
    | exact fun i h1 h2 => (by first | rfl | trivial)
    | assumption
    | exact al_up (Int.le_refl _) (by assumption)
    | exact al_up (Int.le_refl _) (fun i h1 h2 => rfl)
    | exact al_tr (by assumption) (by assumption))
def w_xf_swear_0_14 : VC := (([(0, 23), (0, 49), (1, 8), (0, 10), (0, 8), (0, 6), (0, 6), (0, 8), (0, 9), (0, 49), (0, 49), ((-2147483648), 2147483647), ((-2147483648), 2147483647), (0, 5), (0, 7), (24, 2147483647)]), [(0, [(none, 0), (none, 0)], []), (2, [(none, 23), (some 15, 0)], []), (3, [(some 15, 0), (none, 0)], []), (1, [(none, 1), (none, 0)], []), (2, [(some 14, 0), (some 2, 0)], []), (3, [(some 14, 0), (none, 0)], [])], (186, [(some 3, 0)], [12, 12]))
set_option maxRecDepth 20000 in
theorem v_xf_swear_0_14 {PT : PTy} (hp : HP15 PT) : vcOk PT w_xf_swear_0_14 := vc_iv [(2, 1, 8), (3, 0, 10), (14, 0, 7), (15, 24, 2147483647)] [12] (by decide +kernel) (fun ρ α => by
  intro r2 g2 b2 r3 g3 b3 r14 g14 b14 r15 g15 b15 a12 h12 f0 f1 f2 f3 f4 f5 tt
  have e186 : PT 186 = P_al := pe186_15 hp
  simp only [hF0, hF1, hF2, hF3, hFp_186, e186, P_al, den_s, den_c, Int.add_zero, List.map_cons, List.map_nil, g2.eq, g3.eq, g14.eq, g15.eq, h12] at f0 f1 f2 f3 f4 f5 ⊢
  clear g2 g3 g14 g15 h12 e186 tt
  subst_vars
  first
    | exact fun i h1 h2 => (by first | rfl | trivial)
    | assumption
    | exact al_up (Int.le_refl _) (by assumption)
    | exact al_up (Int.le_refl _) (fun i h1 h2 => rfl)
    | exact al_tr (by assumption) (by assumption))
def w_xf_swear_0_15 : VC := (([(0, 23), (0, 49), (1, 8), (0, 10), (0, 8), (0, 6), (0, 6), (0, 8), (0, 9), (0, 49), (0, 49), ((-2147483648), 2147483647), ((-2147483648), 2147483647), (0, 5), (0, 7), (24, 2147483647)]), [(0, [(none, 0), (none, 0)], []), (2, [(none, 23), (some 15, 0)], []), (3, [(some 15, 0), (none, 0)], []), (1, [(none, 1), (none, 0)], []), (2, [(some 14, 0), (some 2, 0)], []), (3, [(some 14, 0), (none, 0)], [])], (186, [(some 3, 0)], [13, 13]))
set_option maxRecDepth 20000 in
theorem v_xf_swear_0_15 {PT : PTy} (hp : HP15 PT) : vcOk PT w_xf_swear_0_15 := vc_iv [(2, 1, 8), (3, 0, 10), (14, 0, 7), (15, 24, 2147483647)] [13] (by decide +kernel) (fun ρ α => by
  intro r2 g2 b2 r3 g3 b3 r14 g14 b14 r15 g15 b15 a13 h13 f0 f1 f2 f3 f4 f5 tt
  have e186 : PT 186 = P_al := pe186_15 hp
  simp only [hF0, hF1, hF2, hF3, hFp_186, e186, P_al, den_s, den_c, Int.add_zero, List.map_cons, List.map_nil, g2.eq, g3.eq, g14.eq, g15.eq, h13] at f0 f1 f2 f3 f4 f5 ⊢
  clear g2 g3 g14 g15 h13 e186 tt
  subst_vars
  first
    | exact fun i h1 h2 => (by first | rfl | trivial)
    | assumption
    | exact al_up (Int.le_refl _) (by assumption)
    | exact al_up (Int.le_refl _) (fun i h1 h2 => rfl)
    | exact al_tr (by assumption) (by assumption))
def w_xf_swear_0_16 : VC := (([(0, 23), (0, 49), (1, 8), (0, 10), (0, 8), (0, 6), (0, 6), (0, 8), (0, 9), (0, 49), (0, 49), ((-2147483648), 2147483647), ((-2147483648), 2147483647), (0, 5), (0, 7), (0, 23)]), [(1, [(none, 1), (none, 0)], []), (3, [(none, 23), (some 15, 0)], []), (3, [(some 15, 0), (none, 0)], []), (1, [(none, 1), (none, 0)], []), (2, [(some 14, 0), (some 2, 0)], []), (3, [(some 14, 0), (none, 0)], [])], (186, [(some 3, 0)], [10, 10]))
set_option maxRecDepth 20000 in
theorem v_xf_swear_0_16 {PT : PTy} (hp : HP15 PT) : vcOk PT w_xf_swear_0_16 := vc_iv [(2, 1, 8), (3, 0, 10), (14, 0, 7), (15, 0, 23)] [10] (by decide +kernel) (fun ρ α => by
  intro r2 g2 b2 r3 g3 b3 r14 g14 b14 r15 g15 b15 a10 h10 f0 f1 f2 f3 f4 f5 tt
  have e186 : PT 186 = P_al := pe186_15 hp
  simp only [hF1, hF2, hF3, hFp_186, e186, P_al, den_s, den_c, Int.add_zero, List.map_cons, List.map_nil, g2.eq, g3.eq, g14.eq, g15.eq, h10] at f0 f1 f2 f3 f4 f5 ⊢
  clear g2 g3 g14 g15 h10 e186 tt
  subst_vars
  first
    | exact fun i h1 h2 => (by first | rfl | trivial)
    | assumption
    | exact al_up (Int.le_refl _) (by assumption)
    | exact al_up (Int.le_refl _) (fun i h1 h2 => rfl)
    | exact al_tr (by assumption) (by assumption))
def w_xf_swear_0_17 : VC := (([(0, 23), (0, 49), (1, 8), (0, 10), (0, 8), (0, 6), (0, 6), (0, 8), (0, 9), (0, 49), (0, 49), ((-2147483648), 2147483647), ((-2147483648), 2147483647), (0, 5), (0, 7), (0, 23)]), [(1, [(none, 1), (none, 0)], []), (3, [(none, 23), (some 15, 0)], []), (3, [(some 15, 0), (none, 0)], []), (1, [(none, 1), (none, 0)], []), (2, [(some 14, 0), (some 2, 0)], []), (3, [(some 14, 0), (none, 0)], [])], (186, [(some 3, 0)], [11, 11]))
set_option maxRecDepth 20000 in
theorem v_xf_swear_0_17 {PT : PTy} (hp : HP15 PT) : vcOk PT w_xf_swear_0_17 := vc_iv [(2, 1, 8), (3, 0, 10), (14, 0, 7), (15, 0, 23)] [11] (by decide +kernel) (fun ρ α => by
  intro r2 g2 b2 r3 g3 b3 r14 g14 b14 r15 g15 b15 a11 h11 f0 f1 f2 f3 f4 f5 tt
  have e186 : PT 186 = P_al := pe186_15 hp
  simp only [hF1, hF2, hF3, hFp_186, e186, P_al, den_s, den_c, Int.add_zero, List.map_cons, List.map_nil, g2.eq, g3.eq, g14.eq, g15.eq, h11] at f0 f1 f2 f3 f4 f5 ⊢
  clear g2 g3 g14 g15 h11 e186 tt
  subst_vars
  first
    | exact fun i h1 h2 => (by first | rfl | trivial)
    | assumption
    | exact al_up (Int.le_refl _) (by assumption)
    | exact al_up (Int.le_refl _) (fun i h1 h2 => rfl)
    | exact al_tr (by assumption) (by assumption))
def w_xf_swear_0_18 : VC := (([(0, 23), (0, 49), (1, 8), (0, 10), (0, 8), (0, 6), (0, 6), (0, 8), (0, 9), (0, 49), (0, 49), ((-2147483648), 2147483647), ((-2147483648), 2147483647), (0, 5), (0, 7), (0, 23)]), [(1, [(none, 1), (none, 0)], []), (3, [(none, 23), (some 15, 0)], []), (3, [(some 15, 0), (none, 0)], []), (1, [(none, 1), (none, 0)], []), (2, [(some 14, 0), (some 2, 0)], []), (3, [(some 14, 0), (none, 0)], [])], (186, [(some 3, 0)], [12, 12]))
set_option maxRecDepth 20000 in
theorem v_xf_swear_0_18 {PT : PTy} (hp : HP15 PT) : vcOk PT w_xf_swear_0_18 := vc_iv [(2, 1, 8), (3, 0, 10), (14, 0, 7), (15, 0, 23)] [12] (by decide +kernel) (fun ρ α => by
  intro r2 g2 b2 r3 g3 b3 r14 g14 b14 r15 g15 b15 a12 h12 f0 f1 f2 f3 f4 f5 tt
  have e186 : PT 186 = P_al := pe186_15 hp
  simp only [hF1, hF2, hF3, hFp_186, e186, P_al, den_s, den_c, Int.add_zero, List.map_cons, List.map_nil, g2.eq, g3.eq, g14.eq, g15.eq, h12] at f0 f1 f2 f3 f4 f5 ⊢
  clear g2 g3 g14 g15 h12 e186 tt
  subst_vars
  first
    | exact fun i h1 h2 => (by first | rfl | trivial)
    | assumption
    | exact al_up (Int.le_refl _) (by assumption)
    | exact al_up (Int.le_refl _) (fun i h1 h2 => rfl)
    | exact al_tr (by assumption) (by assumption))
def w_xf_swear_0_19 : VC := (([(0, 23), (0, 49), (1, 8), (0, 10), (0, 8), (0, 6), (0, 6), (0, 8), (0, 9), (0, 49), (0, 49), ((-2147483648), 2147483647), ((-2147483648), 2147483647), (0, 5), (0, 7), (0, 23)]), [(1, [(none, 1), (none, 0)], []), (3, [(none, 23), (some 15, 0)], []), (3, [(some 15, 0), (none, 0)], []), (1, [(none, 1), (none, 0)], []), (2, [(some 14, 0), (some 2, 0)], []), (3, [(some 14, 0), (none, 0)], [])], (186, [(some 3, 0)], [13, 13]))
set_option maxRecDepth 20000 in
theorem v_xf_swear_0_19 {PT : PTy} (hp : HP15 PT) : vcOk PT w_xf_swear_0_19 := vc_iv [(2, 1, 8), (3, 0, 10), (14, 0, 7), (15, 0, 23)] [13] (by decide +kernel) (fun ρ α => by
  intro r2 g2 b2 r3 g3 b3 r14 g14 b14 r15 g15 b15 a13 h13 f0 f1 f2 f3 f4 f5 tt
  have e186 : PT 186 = P_al := pe186_15 hp
  simp only [hF1, hF2, hF3, hFp_186, e186, P_al, den_s, den_c, Int.add_zero, List.map_cons, List.map_nil, g2.eq, g3.eq, g14.eq, g15.eq, h13] at f0 f1 f2 f3 f4 f5 ⊢
  clear g2 g3 g14 g15 h13 e186 tt
  subst_vars
  first
    | exact fun i h1 h2 => (by first | rfl | trivial)
    | assumption
    | exact al_up (Int.le_refl _) (by assumption)
    | exact al_up (Int.le_refl _) (fun i h1 h2 => rfl)
    | exact al_tr (by assumption) (by assumption))
def w_xf_swear_1_0 : VC := (([(0, 23), (0, 49), (1, 8), (0, 10), (0, 8), (0, 6), (0, 6), (0, 8), (0, 9), (0, 49), (0, 49), ((-2147483648), 2147483647), ((-2147483648), 2147483647), (0, 5), (0, 7), (0, 23), ((-1), (-1)), (1, 9), (0, 49), (0, 49), ((-2147483648), 2147483647), ((-2147483648), 2147483647), (0, 49), (0, 49), (0, 99), (0, 9), (0, 0)]), [(2, [(none, 0), (some 3, 1)], []), (1, [(none, 1), (none, 0)], []), (0, [(some 26, 0), (none, 0)], []), (5, [(some 26, 0), (some 24, 0), (some 25, 0)], []), (20, [(some 25, 0), (some 14, 0)], [8]), (20, [(some 24, 0), (some 14, 0)], [73]), (148, [(some 15, 0), (some 2, 0), (some 3, 1), (some 4, 0), (some 5, 0), (some 6, 0), (none, 0), (none, 0)], [7, 8, 67, 68, 69, 70, 15, 16, 19, 20, 21, 23, 24, 25, 73, 74, 75]), (21, [(some 3, 0), (none, (-1))], [70, 61]), (21, [(some 3, 0), (none, 0)], [69, 60]), (21, [(some 3, 0), (some 17, 0)], [68, 59]), (21, [(some 3, 0), (some 14, 0)], [67, 58]), (3, [(none, 10), (some 3, 0)], []), (0, [(some 16, 0), (none, (-1))], []), (3, [(none, 9), (some 17, 0)], []), (186, [(some 3, 0)], [58, 10]), (186, [(some 3, 0)], [59, 11]), (186, [(some 3, 0)], [60, 12]), (186, [(some 3, 0)], [61, 13])], (186, [(some 3, 0)], [67, 10]))
theorem pe148_15 {PT : PTy} (hp : HP15 PT) : PT 148 = P_yx := hp.1.1.1.1.2.2.1
set_option maxRecDepth 20000 in
theorem v_xf_swear_1_0 {PT : PTy} (hp : HP15 PT) : vcOk PT w_xf_swear_1_0 := vc_iv [(2, 1, 8), (3, 0, 10), (4, 0, 8), (5, 0, 6), (6, 0, 6), (14, 0, 7), (15, 0, 23), (16, (-1), (-1)), (17, 1, 9), (24, 0, 99), (25, 0, 9), (26, 0, 0)] [7, 8, 10, 11, 12, 13, 15, 16, 19, 20, 21, 23, 24, 25, 58, 59, 60, 61, 67, 68, 69, 70, 73, 74, 75] (by decide +kernel) (fun ρ α => by
  intro r2 g2 b2 r3 g3 b3 r4 g4 b4 r5 g5 b5 r6 g6 b6 r14 g14 b14 r15 g15 b15 r16 g16 b16 r17 g17 b17 r24 g24 b24 r25 g25 b25 r26 g26 b26 a7 h7 a8 h8 a10 h10 a11 h11 a12 h12 a13 h13 a15 h15 a16 h16 a19 h19 a20 h20 a21 h21 a23 h23 a24 h24 a25 h25 a58 h58 a59 h59 a60 h60 a61 h61 a67 h67 a68 h68 a69 h69 a70 h70 a73 h73 a74 h74 a75 h75 f0 f1 f2 f3 f4 f5 f6 f7 f8 f9 f10 f11 f12 f13 f14 f15 f16 f17 tt
  have e148 : PT 148 = P_yx := pe148_15 hp
  have e186 : PT 186 = P_al := pe186_15 hp
  simp only [hF0, hF1, hF2, hF3, hF5, hF20, hF21, hFp_148, hFp_186, e148, e186, P_yx, P_al, den_s, den_c, Int.add_zero, List.map_cons, List.map_nil, g2.eq, g3.eq, g4.eq, g5.eq, g6.eq, g14.eq, g15.eq, g16.eq, g17.eq, g24.eq, g25.eq, g26.eq, h7, h8, h10, h11, h12, h13, h15, h16, h19, h20, h21, h23, h24, h25, h58, h59, h60, h61, h67, h68, h69, h70, h73, h74, h75] at f0 f1 f2 f3 f4 f5 f6 f7 f8 f9 f10 f11 f12 f13 f14 f15 f16 f17 ⊢
  clear g2 g3 g4 g5 g6 g14 g15 g16 g17 g24 g25 g26 h7 h8 h10 h11 h12 h13 h15 h16 h19 h20 h21 h23 h24 h25 h58 h59 h60 h61 h67 h68 h69 h70 h73 h74 h75 e148 e186 tt
  subst f3
  subst f4
  subst f5
  subst f7
  subst f8
  subst f9
  subst f10
  subst_vars
  first
    | exact fun i h1 h2 => (by first | rfl | trivial)
    | assumption
    | exact al_up (Int.le_refl _) (by assumption)
    | exact al_up (Int.le_refl _) (fun i h1 h2 => rfl)
    | exact al_tr (by assumption) (by assumption))
def w_xf_swear_1_1 : VC := (([(0, 23), (0, 49), (1, 8), (0, 10), (0, 8), (0, 6), (0, 6), (0, 8), (0, 9), (0, 49), (0, 49), ((-2147483648), 2147483647), ((-2147483648), 2147483647), (0, 5), (0, 7), (0, 23), ((-1), (-1)), (1, 9), (0, 49), (0, 49), ((-2147483648), 2147483647), ((-2147483648), 2147483647), (0, 49), (0, 49), (0, 99), (0, 9), (0, 0)]), [(2, [(none, 0), (some 3, 1)], []), (1, [(none, 1), (none, 0)], []), (0, [(some 26, 0), (none, 0)], []), (5, [(some 26, 0), (some 24, 0), (some 25, 0)], []), (20, [(some 25, 0), (some 14, 0)], [8]), (20, [(some 24, 0), (some 14, 0)], [73]), (148, [(some 15, 0), (some 2, 0), (some 3, 1), (some 4, 0), (some 5, 0), (some 6, 0), (none, 0), (none, 0)], [7, 8, 67, 68, 69, 70, 15, 16, 19, 20, 21, 23, 24, 25, 73, 74, 75]), (21, [(some 3, 0), (none, (-1))], [70, 61]), (21, [(some 3, 0), (none, 0)], [69, 60]), (21, [(some 3, 0), (some 17, 0)], [68, 59]), (21, [(some 3, 0), (some 14, 0)], [67, 58]), (3, [(none, 10), (some 3, 0)], []), (0, [(some 16, 0), (none, (-1))], []), (3, [(none, 9), (some 17, 0)], []), (186, [(some 3, 0)], [58, 10]), (186, [(some 3, 0)], [59, 11]), (186, [(some 3, 0)], [60, 12]), (186, [(some 3, 0)], [61, 13])], (186, [(some 3, 0)], [68, 11]))
set_option maxRecDepth 20000 in
theorem v_xf_swear_1_1 {PT : PTy} (hp : HP15 PT) : vcOk PT w_xf_swear_1_1 := vc_iv [(2, 1, 8), (3, 0, 10), (4, 0, 8), (5, 0, 6), (6, 0, 6), (14, 0, 7), (15, 0, 23), (16, (-1), (-1)), (17, 1, 9), (24, 0, 99), (25, 0, 9), (26, 0, 0)] [7, 8, 10, 11, 12, 13, 15, 16, 19, 20, 21, 23, 24, 25, 58, 59, 60, 61, 67, 68, 69, 70, 73, 74, 75] (by decide +kernel) (fun ρ α => by
  intro r2 g2 b2 r3 g3 b3 r4 g4 b4 r5 g5 b5 r6 g6 b6 r14 g14 b14 r15 g15 b15 r16 g16 b16 r17 g17 b17 r24 g24 b24 r25 g25 b25 r26 g26 b26 a7 h7 a8 h8 a10 h10 a11 h11 a12 h12 a13 h13 a15 h15 a16 h16 a19 h19 a20 h20 a21 h21 a23 h23 a24 h24 a25 h25 a58 h58 a59 h59 a60 h60 a61 h61 a67 h67 a68 h68 a69 h69 a70 h70 a73 h73 a74 h74 a75 h75 f0 f1 f2 f3 f4 f5 f6 f7 f8 f9 f10 f11 f12 f13 f14 f15 f16 f17 tt
  have e148 : PT 148 = P_yx := pe148_15 hp
  have e186 : PT 186 = P_al := pe186_15 hp
  simp only [hF0, hF1, hF2, hF3, hF5, hF20, hF21, hFp_148, hFp_186, e148, e186, P_yx, P_al, den_s, den_c, Int.add_zero, List.map_cons, List.map_nil, g2.eq, g3.eq, g4.eq, g5.eq, g6.eq, g14.eq, g15.eq, g16.eq, g17.eq, g24.eq, g25.eq, g26.eq, h7, h8, h10, h11, h12, h13, h15, h16, h19, h20, h21, h23, h24, h25, h58, h59, h60, h61, h67, h68, h69, h70, h73, h74, h75] at f0 f1 f2 f3 f4 f5 f6 f7 f8 f9 f10 f11 f12 f13 f14 f15 f16 f17 ⊢
  clear g2 g3 g4 g5 g6 g14 g15 g16 g17 g24 g25 g26 h7 h8 h10 h11 h12 h13 h15 h16 h19 h20 h21 h23 h24 h25 h58 h59 h60 h61 h67 h68 h69 h70 h73 h74 h75 e148 e186 tt
  subst f3
  subst f4
  subst f5
  subst f7
  subst f8
  subst f9
  subst f10
  subst_vars
  first
    | exact fun i h1 h2 => (by first | rfl | trivial)
    | assumption
    | exact al_up (Int.le_refl _) (by assumption)
    | exact al_up (Int.le_refl _) (fun i h1 h2 => rfl)
    | exact al_tr (by assumption) (by assumption))
def w_xf_swear_1_2 : VC := (([(0, 23), (0, 49), (1, 8), (0, 10), (0, 8), (0, 6), (0, 6), (0, 8), (0, 9), (0, 49), (0, 49), ((-2147483648), 2147483647), ((-2147483648), 2147483647), (0, 5), (0, 7), (0, 23), ((-1), (-1)), (1, 9), (0, 49), (0, 49), ((-2147483648), 2147483647), ((-2147483648), 2147483647), (0, 49), (0, 49), (0, 99), (0, 9), (0, 0)]), [(2, [(none, 0), (some 3, 1)], []), (1, [(none, 1), (none, 0)], []), (0, [(some 26, 0), (none, 0)], []), (5, [(some 26, 0), (some 24, 0), (some 25, 0)], []), (20, [(some 25, 0), (some 14, 0)], [8]), (20, [(some 24, 0), (some 14, 0)], [73]), (148, [(some 15, 0), (some 2, 0), (some 3, 1), (some 4, 0), (some 5, 0), (some 6, 0), (none, 0), (none, 0)], [7, 8, 67, 68, 69, 70, 15, 16, 19, 20, 21, 23, 24, 25, 73, 74, 75]), (21, [(some 3, 0), (none, (-1))], [70, 61]), (21, [(some 3, 0), (none, 0)], [69, 60]), (21, [(some 3, 0), (some 17, 0)], [68, 59]), (21, [(some 3, 0), (some 14, 0)], [67, 58]), (3, [(none, 10), (some 3, 0)], []), (0, [(some 16, 0), (none, (-1))], []), (3, [(none, 9), (some 17, 0)], []), (186, [(some 3, 0)], [58, 10]), (186, [(some 3, 0)], [59, 11]), (186, [(some 3, 0)], [60, 12]), (186, [(some 3, 0)], [61, 13])], (186, [(some 3, 0)], [69, 12]))
set_option maxRecDepth 20000 in
theorem v_xf_swear_1_2 {PT : PTy} (hp : HP15 PT) : vcOk PT w_xf_swear_1_2 := vc_iv [(2, 1, 8), (3, 0, 10), (4, 0, 8), (5, 0, 6), (6, 0, 6), (14, 0, 7), (15, 0, 23), (16, (-1), (-1)), (17, 1, 9), (24, 0, 99), (25, 0, 9), (26, 0, 0)] [7, 8, 10, 11, 12, 13, 15, 16, 19, 20, 21, 23, 24, 25, 58, 59, 60, 61, 67, 68, 69, 70, 73, 74, 75] (by decide +kernel) (fun ρ α => by
  intro r2 g2 b2 r3 g3 b3 r4 g4 b4 r5 g5 b5 r6 g6 b6 r14 g14 b14 r15 g15 b15 r16 g16 b16 r17 g17 b17 r24 g24 b24 r25 g25 b25 r26 g26 b26 a7 h7 a8 h8 a10 h10 a11 h11 a12 h12 a13 h13 a15 h15 a16 h16 a19 h19 a20 h20 a21 h21 a23 h23 a24 h24 a25 h25 a58 h58 a59 h59 a60 h60 a61 h61 a67 h67 a68 h68 a69 h69 a70 h70 a73 h73 a74 h74 a75 h75 f0 f1 f2 f3 f4 f5 f6 f7 f8 f9 f10 f11 f12 f13 f14 f15 f16 f17 tt
  have e148 : PT 148 = P_yx := pe148_15 hp
  have e186 : PT 186 = P_al := pe186_15 hp
  simp only [hF0, hF1, hF2, hF3, hF5, hF20, hF21, hFp_148, hFp_186, e148, e186, P_yx, P_al, den_s, den_c, Int.add_zero, List.map_cons, List.map_nil, g2.eq, g3.eq, g4.eq, g5.eq, g6.eq, g14.eq, g15.eq, g16.eq, g17.eq, g24.eq, g25.eq, g26.eq, h7, h8, h10, h11, h12, h13, h15, h16, h19, h20, h21, h23, h24, h25, h58, h59, h60, h61, h67, h68, h69, h70, h73, h74, h75] at f0 f1 f2 f3 f4 f5 f6 f7 f8 f9 f10 f11 f12 f13 f14 f15 f16 f17 ⊢
  clear g2 g3 g4 g5 g6 g14 g15 g16 g17 g24 g25 g26 h7 h8 h10 h11 h12 h13 h15 h16 h19 h20 h21 h23 h24 h25 h58 h59 h60 h61 h67 h68 h69 h70 h73 h74 h75 e148 e186 tt
  subst f3
  subst f4
  subst f5
  subst f7
  subst f8
  subst f9
  subst f10
  subst_vars
  first
    | exact fun i h1 h2 => (by first | rfl | trivial)
    | assumption
    | exact al_up (Int.le_refl _) (by assumption)
    | exact al_up (Int.le_refl _) (fun i h1 h2 => rfl)
    | exact al_tr (by assumption) (by assumption))
def w_xf_swear_1_3 : VC := (([(0, 23), (0, 49), (1, 8), (0, 10), (0, 8), (0, 6), (0, 6), (0, 8), (0, 9), (0, 49), (0, 49), ((-2147483648), 2147483647), ((-2147483648), 2147483647), (0, 5), (0, 7), (0, 23), ((-1), (-1)), (1, 9), (0, 49), (0, 49), ((-2147483648), 2147483647), ((-2147483648), 2147483647), (0, 49), (0, 49), (0, 99), (0, 9), (0, 0)]), [(2, [(none, 0), (some 3, 1)], []), (1, [(none, 1), (none, 0)], []), (0, [(some 26, 0), (none, 0)], []), (5, [(some 26, 0), (some 24, 0), (some 25, 0)], []), (20, [(some 25, 0), (some 14, 0)], [8]), (20, [(some 24, 0), (some 14, 0)], [73]), (148, [(some 15, 0), (some 2, 0), (some 3, 1), (some 4, 0), (some 5, 0), (some 6, 0), (none, 0), (none, 0)], [7, 8, 67, 68, 69, 70, 15, 16, 19, 20, 21, 23, 24, 25, 73, 74, 75]), (21, [(some 3, 0), (none, (-1))], [70, 61]), (21, [(some 3, 0), (none, 0)], [69, 60]), (21, [(some 3, 0), (some 17, 0)], [68, 59]), (21, [(some 3, 0), (some 14, 0)], [67, 58]), (3, [(none, 10), (some 3, 0)], []), (0, [(some 16, 0), (none, (-1))], []), (3, [(none, 9), (some 17, 0)], []), (186, [(some 3, 0)], [58, 10]), (186, [(some 3, 0)], [59, 11]), (186, [(some 3, 0)], [60, 12]), (186, [(some 3, 0)], [61, 13])], (186, [(some 3, 0)], [70, 13]))
set_option maxRecDepth 20000 in
theorem v_xf_swear_1_3 {PT : PTy} (hp : HP15 PT) : vcOk PT w_xf_swear_1_3 := vc_iv [(2, 1, 8), (3, 0, 10), (4, 0, 8), (5, 0, 6), (6, 0, 6), (14, 0, 7), (15, 0, 23), (16, (-1), (-1)), (17, 1, 9), (24, 0, 99), (25, 0, 9), (26, 0, 0)] [7, 8, 10, 11, 12, 13, 15, 16, 19, 20, 21, 23, 24, 25, 58, 59, 60, 61, 67, 68, 69, 70, 73, 74, 75] (by decide +kernel) (fun ρ α => by
  intro r2 g2 b2 r3 g3 b3 r4 g4 b4 r5 g5 b5 r6 g6 b6 r14 g14 b14 r15 g15 b15 r16 g16 b16 r17 g17 b17 r24 g24 b24 r25 g25 b25 r26 g26 b26 a7 h7 a8 h8 a10 h10 a11 h11 a12 h12 a13 h13 a15 h15 a16 h16 a19 h19 a20 h20 a21 h21 a23 h23 a24 h24 a25 h25 a58 h58 a59 h59 a60 h60 a61 h61 a67 h67 a68 h68 a69 h69 a70 h70 a73 h73 a74 h74 a75 h75 f0 f1 f2 f3 f4 f5 f6 f7 f8 f9 f10 f11 f12 f13 f14 f15 f16 f17 tt
  have e148 : PT 148 = P_yx := pe148_15 hp
  have e186 : PT 186 = P_al := pe186_15 hp
  simp only [hF0, hF1, hF2, hF3, hF5, hF20, hF21, hFp_148, hFp_186, e148, e186, P_yx, P_al, den_s, den_c, Int.add_zero, List.map_cons, List.map_nil, g2.eq, g3.eq, g4.eq, g5.eq, g6.eq, g14.eq, g15.eq, g16.eq, g17.eq, g24.eq, g25.eq, g26.eq, h7, h8, h10, h11, h12, h13, h15, h16, h19, h20, h21, h23, h24, h25, h58, h59, h60, h61, h67, h68, h69, h70, h73, h74, h75] at f0 f1 f2 f3 f4 f5 f6 f7 f8 f9 f10 f11 f12 f13 f14 f15 f16 f17 ⊢
  clear g2 g3 g4 g5 g6 g14 g15 g16 g17 g24 g25 g26 h7 h8 h10 h11 h12 h13 h15 h16 h19 h20 h21 h23 h24 h25 h58 h59 h60 h61 h67 h68 h69 h70 h73 h74 h75 e148 e186 tt
  subst f3
  subst f4
  subst f5
  subst f7
  subst f8
  subst f9
  subst f10
  subst_vars
  first
    | exact fun i h1 h2 => (by first | rfl | trivial)
    | assumption
    | exact al_up (Int.le_refl _) (by assumption)
    | exact al_up (Int.le_refl _) (fun i h1 h2 => rfl)
    | exact al_tr (by assumption) (by assumption))
def w_xf_swear_1_4 : VC := (([(0, 23), (0, 49), (1, 8), (0, 10), (0, 8), (0, 6), (0, 6), (0, 8), (0, 9), (0, 49), (0, 49), ((-2147483648), 2147483647), ((-2147483648), 2147483647), (0, 5), (0, 7), (0, 23), ((-1), (-1)), (1, 9), (0, 49), (0, 49), ((-2147483648), 2147483647), ((-2147483648), 2147483647), (0, 49), (0, 49), (0, 99), (0, 9), ((-9), 99)]), [(2, [(none, 0), (some 3, 1)], []), (0, [(none, 0), (none, 0)], []), (1, [(some 26, 0), (none, 1)], []), (1, [(some 26, 0), (none, 0)], []), (5, [(some 26, 0), (some 24, 0), (some 25, 0)], []), (20, [(some 25, 0), (some 14, 0)], [8]), (20, [(some 24, 0), (some 14, 0)], [73]), (148, [(some 15, 0), (some 2, 0), (some 3, 1), (some 4, 0), (some 5, 0), (some 6, 0), (none, 0), (none, 0)], [7, 8, 67, 68, 69, 70, 15, 16, 19, 20, 21, 23, 24, 25, 73, 74, 75]), (21, [(some 3, 0), (none, (-1))], [70, 61]), (21, [(some 3, 0), (none, 0)], [69, 60]), (21, [(some 3, 0), (some 17, 0)], [68, 59]), (21, [(some 3, 0), (some 14, 0)], [67, 58]), (3, [(none, 10), (some 3, 0)], []), (0, [(some 16, 0), (none, (-1))], []), (3, [(none, 9), (some 17, 0)], []), (186, [(some 3, 0)], [58, 10]), (186, [(some 3, 0)], [59, 11]), (186, [(some 3, 0)], [60, 12]), (186, [(some 3, 0)], [61, 13])], (186, [(some 3, 0)], [67, 10]))
set_option maxRecDepth 20000 in
theorem v_xf_swear_1_4 {PT : PTy} (hp : HP15 PT) : vcOk PT w_xf_swear_1_4 := vc_iv [(2, 1, 8), (3, 0, 10), (4, 0, 8), (5, 0, 6), (6, 0, 6), (14, 0, 7), (15, 0, 23), (16, (-1), (-1)), (17, 1, 9), (24, 0, 99), (25, 0, 9), (26, (-9), 99)] [7, 8, 10, 11, 12, 13, 15, 16, 19, 20, 21, 23, 24, 25, 58, 59, 60, 61, 67, 68, 69, 70, 73, 74, 75] (by decide +kernel) (fun ρ α => by
  intro r2 g2 b2 r3 g3 b3 r4 g4 b4 r5 g5 b5 r6 g6 b6 r14 g14 b14 r15 g15 b15 r16 g16 b16 r17 g17 b17 r24 g24 b24 r25 g25 b25 r26 g26 b26 a7 h7 a8 h8 a10 h10 a11 h11 a12 h12 a13 h13 a15 h15 a16 h16 a19 h19 a20 h20 a21 h21 a23 h23 a24 h24 a25 h25 a58 h58 a59 h59 a60 h60 a61 h61 a67 h67 a68 h68 a69 h69 a70 h70 a73 h73 a74 h74 a75 h75 f0 f1 f2 f3 f4 f5 f6 f7 f8 f9 f10 f11 f12 f13 f14 f15 f16 f17 f18 tt
  have e148 : PT 148 = P_yx := pe148_15 hp
  have e186 : PT 186 = P_al := pe186_15 hp
  simp only [hF0, hF1, hF2, hF3, hF5, hF20, hF21, hFp_148, hFp_186, e148, e186, P_yx, P_al, den_s, den_c, Int.add_zero, List.map_cons, List.map_nil, g2.eq, g3.eq, g4.eq, g5.eq, g6.eq, g14.eq, g15.eq, g16.eq, g17.eq, g24.eq, g25.eq, g26.eq, h7, h8, h10, h11, h12, h13, h15, h16, h19, h20, h21, h23, h24, h25, h58, h59, h60, h61, h67, h68, h69, h70, h73, h74, h75] at f0 f1 f2 f3 f4 f5 f6 f7 f8 f9 f10 f11 f12 f13 f14 f15 f16 f17 f18 ⊢
  clear g2 g3 g4 g5 g6 g14 g15 g16 g17 g24 g25 g26 h7 h8 h10 h11 h12 h13 h15 h16 h19 h20 h21 h23 h24 h25 h58 h59 h60 h61 h67 h68 h69 h70 h73 h74 h75 e148 e186 tt
  subst f4
  subst f5
  subst f6
  subst f8
  subst f9
  subst f10
  subst f11
  subst_vars
  first
    | exact fun i h1 h2 => (by first | rfl | trivial)
    | assumption
    | exact al_up (Int.le_refl _) (by assumption)
    | exact al_up (Int.le_refl _) (fun i h1 h2 => rfl)
    | exact al_tr (by assumption) (by assumption))
def w_xf_swear_1_5 : VC := (([(0, 23), (0, 49), (1, 8), (0, 10), (0, 8), (0, 6), (0, 6), (0, 8), (0, 9), (0, 49), (0, 49), ((-2147483648), 2147483647), ((-2147483648), 2147483647), (0, 5), (0, 7), (0, 23), ((-1), (-1)), (1, 9), (0, 49), (0, 49), ((-2147483648), 2147483647), ((-2147483648), 2147483647), (0, 49), (0, 49), (0, 99), (0, 9), ((-9), 99)]), [(2, [(none, 0), (some 3, 1)], []), (0, [(none, 0), (none, 0)], []), (1, [(some 26, 0), (none, 1)], []), (1, [(some 26, 0), (none, 0)], []), (5, [(some 26, 0), (some 24, 0), (some 25, 0)], []), (20, [(some 25, 0), (some 14, 0)], [8]), (20, [(some 24, 0), (some 14, 0)], [73]), (148, [(some 15, 0), (some 2, 0), (some 3, 1), (some 4, 0), (some 5, 0), (some 6, 0), (none, 0), (none, 0)], [7, 8, 67, 68, 69, 70, 15, 16, 19, 20, 21, 23, 24, 25, 73, 74, 75]), (21, [(some 3, 0), (none, (-1))], [70, 61]), (21, [(some 3, 0), (none, 0)], [69, 60]), (21, [(some 3, 0), (some 17, 0)], [68, 59]), (21, [(some 3, 0), (some 14, 0)], [67, 58]), (3, [(none, 10), (some 3, 0)], []), (0, [(some 16, 0), (none, (-1))], []), (3, [(none, 9), (some 17, 0)], []), (186, [(some 3, 0)], [58, 10]), (186, [(some 3, 0)], [59, 11]), (186, [(some 3, 0)], [60, 12]), (186, [(some 3, 0)], [61, 13])], (186, [(some 3, 0)], [68, 11]))
set_option maxRecDepth 20000 in
theorem v_xf_swear_1_5 {PT : PTy} (hp : HP15 PT) : vcOk PT w_xf_swear_1_5 := vc_iv [(2, 1, 8), (3, 0, 10), (4, 0, 8), (5, 0, 6), (6, 0, 6), (14, 0, 7), (15, 0, 23), (16, (-1), (-1)), (17, 1, 9), (24, 0, 99), (25, 0, 9), (26, (-9), 99)] [7, 8, 10, 11, 12, 13, 15, 16, 19, 20, 21, 23, 24, 25, 58, 59, 60, 61, 67, 68, 69, 70, 73, 74, 75] (by decide +kernel) (fun ρ α => by
  intro r2 g2 b2 r3 g3 b3 r4 g4 b4 r5 g5 b5 r6 g6 b6 r14 g14 b14 r15 g15 b15 r16 g16 b16 r17 g17 b17 r24 g24 b24 r25 g25 b25 r26 g26 b26 a7 h7 a8 h8 a10 h10 a11 h11 a12 h12 a13 h13 a15 h15 a16 h16 a19 h19 a20 h20 a21 h21 a23 h23 a24 h24 a25 h25 a58 h58 a59 h59 a60 h60 a61 h61 a67 h67 a68 h68 a69 h69 a70 h70 a73 h73 a74 h74 a75 h75 f0 f1 f2 f3 f4 f5 f6 f7 f8 f9 f10 f11 f12 f13 f14 f15 f16 f17 f18 tt
  have e148 : PT 148 = P_yx := pe148_15 hp
  have e186 : PT 186 = P_al := pe186_15 hp
  simp only [hF0, hF1, hF2, hF3, hF5, hF20, hF21, hFp_148, hFp_186, e148, e186, P_yx, P_al, den_s, den_c, Int.add_zero, List.map_cons, List.map_nil, g2.eq, g3.eq, g4.eq, g5.eq, g6.eq, g14.eq, g15.eq, g16.eq, g17.eq, g24.eq, g25.eq, g26.eq, h7, h8, h10, h11, h12, h13, h15, h16, h19, h20, h21, h23, h24, h25, h58, h59, h60, h61, h67, h68, h69, h70, h73, h74, h75] at f0 f1 f2 f3 f4 f5 f6 f7 f8 f9 f10 f11 f12 f13 f14 f15 f16 f17 f18 ⊢
  clear g2 g3 g4 g5 g6 g14 g15 g16 g17 g24 g25 g26 h7 h8 h10 h11 h12 h13 h15 h16 h19 h20 h21 h23 h24 h25 h58 h59 h60 h61 h67 h68 h69 h70 h73 h74 h75 e148 e186 tt
  subst f4
  subst f5
  subst f6
  subst f8
  subst f9
  subst f10
  subst f11
  subst_vars
  first
    | exact fun i h1 h2 => (by first | rfl | trivial)
    | assumption
    | exact al_up (Int.le_refl _) (by assumption)
    | exact al_up (Int.le_refl _) (fun i h1 h2 => rfl)
    | exact al_tr (by assumption) (by assumption))
def w_xf_swear_1_6 : VC := (([(0, 23), (0, 49), (1, 8), (0, 10), (0, 8), (0, 6), (0, 6), (0, 8), (0, 9), (0, 49), (0, 49), ((-2147483648), 2147483647), ((-2147483648), 2147483647), (0, 5), (0, 7), (0, 23), ((-1), (-1)), (1, 9), (0, 49), (0, 49), ((-2147483648), 2147483647), ((-2147483648), 2147483647), (0, 49), (0, 49), (0, 99), (0, 9), ((-9), 99)]), [(2, [(none, 0), (some 3, 1)], []), (0, [(none, 0), (none, 0)], []), (1, [(some 26, 0), (none, 1)], []), (1, [(some 26, 0), (none, 0)], []), (5, [(some 26, 0), (some 24, 0), (some 25, 0)], []), (20, [(some 25, 0), (some 14, 0)], [8]), (20, [(some 24, 0), (some 14, 0)], [73]), (148, [(some 15, 0), (some 2, 0), (some 3, 1), (some 4, 0), (some 5, 0), (some 6, 0), (none, 0), (none, 0)], [7, 8, 67, 68, 69, 70, 15, 16, 19, 20, 21, 23, 24, 25, 73, 74, 75]), (21, [(some 3, 0), (none, (-1))], [70, 61]), (21, [(some 3, 0), (none, 0)], [69, 60]), (21, [(some 3, 0), (some 17, 0)], [68, 59]), (21, [(some 3, 0), (some 14, 0)], [67, 58]), (3, [(none, 10), (some 3, 0)], []), (0, [(some 16, 0), (none, (-1))], []), (3, [(none, 9), (some 17, 0)], []), (186, [(some 3, 0)], [58, 10]), (186, [(some 3, 0)], [59, 11]), (186, [(some 3, 0)], [60, 12]), (186, [(some 3, 0)], [61, 13])], (186, [(some 3, 0)], [69, 12]))
set_option maxRecDepth 20000 in
theorem v_xf_swear_1_6 {PT : PTy} (hp : HP15 PT) : vcOk PT w_xf_swear_1_6 := vc_iv [(2, 1, 8), (3, 0, 10), (4, 0, 8), (5, 0, 6), (6, 0, 6), (14, 0, 7), (15, 0, 23), (16, (-1), (-1)), (17, 1, 9), (24, 0, 99), (25, 0, 9), (26, (-9), 99)] [7, 8, 10, 11, 12, 13, 15, 16, 19, 20, 21, 23, 24, 25, 58, 59, 60, 61, 67, 68, 69, 70, 73, 74, 75] (by decide +kernel) (fun ρ α => by
  intro r2 g2 b2 r3 g3 b3 r4 g4 b4 r5 g5 b5 r6 g6 b6 r14 g14 b14 r15 g15 b15 r16 g16 b16 r17 g17 b17 r24 g24 b24 r25 g25 b25 r26 g26 b26 a7 h7 a8 h8 a10 h10 a11 h11 a12 h12 a13 h13 a15 h15 a16 h16 a19 h19 a20 h20 a21 h21 a23 h23 a24 h24 a25 h25 a58 h58 a59 h59 a60 h60 a61 h61 a67 h67 a68 h68 a69 h69 a70 h70 a73 h73 a74 h74 a75 h75 f0 f1 f2 f3 f4 f5 f6 f7 f8 f9 f10 f11 f12 f13 f14 f15 f16 f17 f18 tt
  have e148 : PT 148 = P_yx := pe148_15 hp
  have e186 : PT 186 = P_al := pe186_15 hp
  simp only [hF0, hF1, hF2, hF3, hF5, hF20, hF21, hFp_148, hFp_186, e148, e186, P_yx, P_al, den_s, den_c, Int.add_zero, List.map_cons, List.map_nil, g2.eq, g3.eq, g4.eq, g5.eq, g6.eq, g14.eq, g15.eq, g16.eq, g17.eq, g24.eq, g25.eq, g26.eq, h7, h8, h10, h11, h12, h13, h15, h16, h19, h20, h21, h23, h24, h25, h58, h59, h60, h61, h67, h68, h69, h70, h73, h74, h75] at f0 f1 f2 f3 f4 f5 f6 f7 f8 f9 f10 f11 f12 f13 f14 f15 f16 f17 f18 ⊢
  clear g2 g3 g4 g5 g6 g14 g15 g16 g17 g24 g25 g26 h7 h8 h10 h11 h12 h13 h15 h16 h19 h20 h21 h23 h24 h25 h58 h59 h60 h61 h67 h68 h69 h70 h73 h74 h75 e148 e186 tt
  subst f4
  subst f5
  subst f6
  subst f8
  subst f9
  subst f10
  subst f11
  subst_vars
  first
    | exact fun i h1 h2 => (by first | rfl | trivial)
    | assumption
    | exact al_up (Int.le_refl _) (by assumption)
    | exact al_up (Int.le_refl _) (fun i h1 h2 => rfl)
    | exact al_tr (by assumption) (by assumption))
def w_xf_swear_1_7 : VC := (([(0, 23), (0, 49), (1, 8), (0, 10), (0, 8), (0, 6), (0, 6), (0, 8), (0, 9), (0, 49), (0, 49), ((-2147483648), 2147483647), ((-2147483648), 2147483647), (0, 5), (0, 7), (0, 23), ((-1), (-1)), (1, 9), (0, 49), (0, 49), ((-2147483648), 2147483647), ((-2147483648), 2147483647), (0, 49), (0, 49), (0, 99), (0, 9), ((-9), 99)]), [(2, [(none, 0), (some 3, 1)], []), (0, [(none, 0), (none, 0)], []), (1, [(some 26, 0), (none, 1)], []), (1, [(some 26, 0), (none, 0)], []), (5, [(some 26, 0), (some 24, 0), (some 25, 0)], []), (20, [(some 25, 0), (some 14, 0)], [8]), (20, [(some 24, 0), (some 14, 0)], [73]), (148, [(some 15, 0), (some 2, 0), (some 3, 1), (some 4, 0), (some 5, 0), (some 6, 0), (none, 0), (none, 0)], [7, 8, 67, 68, 69, 70, 15, 16, 19, 20, 21, 23, 24, 25, 73, 74, 75]), (21, [(some 3, 0), (none, (-1))], [70, 61]), (21, [(some 3, 0), (none, 0)], [69, 60]), (21, [(some 3, 0), (some 17, 0)], [68, 59]), (21, [(some 3, 0), (some 14, 0)], [67, 58]), (3, [(none, 10), (some 3, 0)], []), (0, [(some 16, 0), (none, (-1))], []), (3, [(none, 9), (some 17, 0)], []), (186, [(some 3, 0)], [58, 10]), (186, [(some 3, 0)], [59, 11]), (186, [(some 3, 0)], [60, 12]), (186, [(some 3, 0)], [61, 13])], (186, [(some 3, 0)], [70, 13]))
set_option maxRecDepth 20000 in
theorem v_xf_swear_1_7 {PT : PTy} (hp : HP15 PT) : vcOk PT w_xf_swear_1_7 := vc_iv [(2, 1, 8), (3, 0, 10), (4, 0, 8), (5, 0, 6), (6, 0, 6), (14, 0, 7), (15, 0, 23), (16, (-1), (-1)), (17, 1, 9), (24, 0, 99), (25, 0, 9), (26, (-9), 99)] [7, 8, 10, 11, 12, 13, 15, 16, 19, 20, 21, 23, 24, 25, 58, 59, 60, 61, 67, 68, 69, 70, 73, 74, 75] (by decide +kernel) (fun ρ α => by
  intro r2 g2 b2 r3 g3 b3 r4 g4 b4 r5 g5 b5 r6 g6 b6 r14 g14 b14 r15 g15 b15 r16 g16 b16 r17 g17 b17 r24 g24 b24 r25 g25 b25 r26 g26 b26 a7 h7 a8 h8 a10 h10 a11 h11 a12 h12 a13 h13 a15 h15 a16 h16 a19 h19 a20 h20 a21 h21 a23 h23 a24 h24 a25 h25 a58 h58 a59 h59 a60 h60 a61 h61 a67 h67 a68 h68 a69 h69 a70 h70 a73 h73 a74 h74 a75 h75 f0 f1 f2 f3 f4 f5 f6 f7 f8 f9 f10 f11 f12 f13 f14 f15 f16 f17 f18 tt
  have e148 : PT 148 = P_yx := pe148_15 hp
  have e186 : PT 186 = P_al := pe186_15 hp
  simp only [hF0, hF1, hF2, hF3, hF5, hF20, hF21, hFp_148, hFp_186, e148, e186, P_yx, P_al, den_s, den_c, Int.add_zero, List.map_cons, List.map_nil, g2.eq, g3.eq, g4.eq, g5.eq, g6.eq, g14.eq, g15.eq, g16.eq, g17.eq, g24.eq, g25.eq, g26.eq, h7, h8, h10, h11, h12, h13, h15, h16, h19, h20, h21, h23, h24, h25, h58, h59, h60, h61, h67, h68, h69, h70, h73, h74, h75] at f0 f1 f2 f3 f4 f5 f6 f7 f8 f9 f10 f11 f12 f13 f14 f15 f16 f17 f18 ⊢
  clear g2 g3 g4 g5 g6 g14 g15 g16 g17 g24 g25 g26 h7 h8 h10 h11 h12 h13 h15 h16 h19 h20 h21 h23 h24 h25 h58 h59 h60 h61 h67 h68 h69 h70 h73 h74 h75 e148 e186 tt
  subst f4
  subst f5
  subst f6
  subst f8
  subst f9
  subst f10
  subst f11
  subst_vars
  first
    | exact fun i h1 h2 => (by first | rfl | trivial)
    | assumption
    | exact al_up (Int.le_refl _) (by assumption)
    | exact al_up (Int.le_refl _) (fun i h1 h2 => rfl)
    | exact al_tr (by assumption) (by assumption))
def w_xf_swear_1_8 : VC := (([(0, 23), (0, 49), (1, 8), (0, 10), (0, 8), (0, 6), (0, 6), (0, 8), (0, 9), (0, 49), (0, 49), ((-2147483648), 2147483647), ((-2147483648), 2147483647), (0, 5), (0, 7), (0, 23), ((-1), (-1)), (1, 9), (0, 49), (0, 49), ((-2147483648), 2147483647), ((-2147483648), 2147483647), (0, 49), (0, 49), (0, 99), (0, 9), (1, 1)]), [(2, [(none, 0), (some 3, 1)], []), (1, [(none, 1), (none, 0)], []), (0, [(some 26, 0), (none, 1)], []), (1, [(some 26, 0), (none, 0)], []), (5, [(some 26, 0), (some 24, 0), (some 25, 0)], []), (20, [(some 25, 0), (some 14, 0)], [8]), (20, [(some 24, 0), (some 14, 0)], [73]), (148, [(some 15, 0), (some 2, 0), (some 3, 1), (some 4, 0), (some 5, 0), (some 6, 0), (none, 0), (none, 0)], [7, 8, 67, 68, 69, 70, 15, 16, 19, 20, 21, 23, 24, 25, 73, 74, 75]), (21, [(some 3, 0), (none, (-1))], [70, 61]), (21, [(some 3, 0), (none, 0)], [69, 60]), (21, [(some 3, 0), (some 17, 0)], [68, 59]), (21, [(some 3, 0), (some 14, 0)], [67, 58]), (3, [(none, 10), (some 3, 0)], []), (0, [(some 16, 0), (none, (-1))], []), (3, [(none, 9), (some 17, 0)], []), (186, [(some 3, 0)], [58, 10]), (186, [(some 3, 0)], [59, 11]), (186, [(some 3, 0)], [60, 12]), (186, [(some 3, 0)], [61, 13])], (186, [(some 3, 0)], [67, 10]))
set_option maxRecDepth 20000 in
theorem v_xf_swear_1_8 {PT : PTy} (hp : HP15 PT) : vcOk PT w_xf_swear_1_8 := vc_iv [(2, 1, 8), (3, 0, 10), (4, 0, 8), (5, 0, 6), (6, 0, 6), (14, 0, 7), (15, 0, 23), (16, (-1), (-1)), (17, 1, 9), (24, 0, 99), (25, 0, 9), (26, 1, 1)] [7, 8, 10, 11, 12, 13, 15, 16, 19, 20, 21, 23, 24, 25, 58, 59, 60, 61, 67, 68, 69, 70, 73, 74, 75] (by decide +kernel) (fun ρ α => by
  intro r2 g2 b2 r3 g3 b3 r4 g4 b4 r5 g5 b5 r6 g6 b6 r14 g14 b14 r15 g15 b15 r16 g16 b16 r17 g17 b17 r24 g24 b24 r25 g25 b25 r26 g26 b26 a7 h7 a8 h8 a10 h10 a11 h11 a12 h12 a13 h13 a15 h15 a16 h16 a19 h19 a20 h20 a21 h21 a23 h23 a24 h24 a25 h25 a58 h58 a59 h59 a60 h60 a61 h61 a67 h67 a68 h68 a69 h69 a70 h70 a73 h73 a74 h74 a75 h75 f0 f1 f2 f3 f4 f5 f6 f7 f8 f9 f10 f11 f12 f13 f14 f15 f16 f17 f18 tt
  have e148 : PT 148 = P_yx := pe148_15 hp
  have e186 : PT 186 = P_al := pe186_15 hp
  simp only [hF0, hF1, hF2, hF3, hF5, hF20, hF21, hFp_148, hFp_186, e148, e186, P_yx, P_al, den_s, den_c, Int.add_zero, List.map_cons, List.map_nil, g2.eq, g3.eq, g4.eq, g5.eq, g6.eq, g14.eq, g15.eq, g16.eq, g17.eq, g24.eq, g25.eq, g26.eq, h7, h8, h10, h11, h12, h13, h15, h16, h19, h20, h21, h23, h24, h25, h58, h59, h60, h61, h67, h68, h69, h70, h73, h74, h75] at f0 f1 f2 f3 f4 f5 f6 f7 f8 f9 f10 f11 f12 f13 f14 f15 f16 f17 f18 ⊢
  clear g2 g3 g4 g5 g6 g14 g15 g16 g17 g24 g25 g26 h7 h8 h10 h11 h12 h13 h15 h16 h19 h20 h21 h23 h24 h25 h58 h59 h60 h61 h67 h68 h69 h70 h73 h74 h75 e148 e186 tt
  subst f4
  subst f5
  subst f6
  subst f8
  subst f9
  subst f10
  subst f11
  subst_vars
  first
    | exact fun i h1 h2 => (by first | rfl | trivial)
    | assumption
    | exact al_up (Int.le_refl _) (by assumption)
    | exact al_up (Int.le_refl _) (fun i h1 h2 => rfl)
    | exact al_tr (by assumption) (by assumption))
def w_xf_swear_1_9 : VC := (([(0, 23), (0, 49), (1, 8), (0, 10), (0, 8), (0, 6), (0, 6), (0, 8), (0, 9), (0, 49), (0, 49), ((-2147483648), 2147483647), ((-2147483648), 2147483647), (0, 5), (0, 7), (0, 23), ((-1), (-1)), (1, 9), (0, 49), (0, 49), ((-2147483648), 2147483647), ((-2147483648), 2147483647), (0, 49), (0, 49), (0, 99), (0, 9), (1, 1)]), [(2, [(none, 0), (some 3, 1)], []), (1, [(none, 1), (none, 0)], []), (0, [(some 26, 0), (none, 1)], []), (1, [(some 26, 0), (none, 0)], []), (5, [(some 26, 0), (some 24, 0), (some 25, 0)], []), (20, [(some 25, 0), (some 14, 0)], [8]), (20, [(some 24, 0), (some 14, 0)], [73]), (148, [(some 15, 0), (some 2, 0), (some 3, 1), (some 4, 0), (some 5, 0), (some 6, 0), (none, 0), (none, 0)], [7, 8, 67, 68, 69, 70, 15, 16, 19, 20, 21, 23, 24, 25, 73, 74, 75]), (21, [(some 3, 0), (none, (-1))], [70, 61]), (21, [(some 3, 0), (none, 0)], [69, 60]), (21, [(some 3, 0), (some 17, 0)], [68, 59]), (21, [(some 3, 0), (some 14, 0)], [67, 58]), (3, [(none, 10), (some 3, 0)], []), (0, [(some 16, 0), (none, (-1))], []), (3, [(none, 9), (some 17, 0)], []), (186, [(some 3, 0)], [58, 10]), (186, [(some 3, 0)], [59, 11]), (186, [(some 3, 0)], [60, 12]), (186, [(some 3, 0)], [61, 13])], (186, [(some 3, 0)], [68, 11]))
set_option maxRecDepth 20000 in
theorem v_xf_swear_1_9 {PT : PTy} (hp : HP15 PT) : vcOk PT w_xf_swear_1_9 := vc_iv [(2, 1, 8), (3, 0, 10), (4, 0, 8), (5, 0, 6), (6, 0, 6), (14, 0, 7), (15, 0, 23), (16, (-1), (-1)), (17, 1, 9), (24, 0, 99), (25, 0, 9), (26, 1, 1)] [7, 8, 10, 11, 12, 13, 15, 16, 19, 20, 21, 23, 24, 25, 58, 59, 60, 61, 67, 68, 69, 70, 73, 74, 75] (by decide +kernel) (fun ρ α => by
  intro r2 g2 b2 r3 g3 b3 r4 g4 b4 r5 g5 b5 r6 g6 b6 r14 g14 b14 r15 g15 b15 r16 g16 b16 r17 g17 b17 r24 g24 b24 r25 g25 b25 r26 g26 b26 a7 h7 a8 h8 a10 h10 a11 h11 a12 h12 a13 h13 a15 h15 a16 h16 a19 h19 a20 h20 a21 h21 a23 h23 a24 h24 a25 h25 a58 h58 a59 h59 a60 h60 a61 h61 a67 h67 a68 h68 a69 h69 a70 h70 a73 h73 a74 h74 a75 h75 f0 f1 f2 f3 f4 f5 f6 f7 f8 f9 f10 f11 f12 f13 f14 f15 f16 f17 f18 tt
  have e148 : PT 148 = P_yx := pe148_15 hp
  have e186 : PT 186 = P_al := pe186_15 hp
  simp only [hF0, hF1, hF2, hF3, hF5, hF20, hF21, hFp_148, hFp_186, e148, e186, P_yx, P_al, den_s, den_c, Int.add_zero, List.map_cons, List.map_nil, g2.eq, g3.eq, g4.eq, g5.eq, g6.eq, g14.eq, g15.eq, g16.eq, g17.eq, g24.eq, g25.eq, g26.eq, h7, h8, h10, h11, h12, h13, h15, h16, h19, h20, h21, h23, h24, h25, h58, h59, h60, h61, h67, h68, h69, h70, h73, h74, h75] at f0 f1 f2 f3 f4 f5 f6 f7 f8 f9 f10 f11 f12 f13 f14 f15 f16 f17 f18 ⊢
  clear g2 g3 g4 g5 g6 g14 g15 g16 g17 g24 g25 g26 h7 h8 h10 h11 h12 h13 h15 h16 h19 h20 h21 h23 h24 h25 h58 h59 h60 h61 h67 h68 h69 h70 h73 h74 h75 e148 e186 tt
  subst f4
  subst f5
  subst f6
  subst f8
  subst f9
  subst f10
  subst f11
  subst_vars
  first
    | exact fun i h1 h2 => (by first | rfl | trivial)
    | assumption
    | exact al_up (Int.le_refl _) (by assumption)
    | exact al_up (Int.le_refl _) (fun i h1 h2 => rfl)
    | exact al_tr (by assumption) (by assumption))
def w_xf_swear_1_10 : VC := (([(0, 23), (0, 49), (1, 8), (0, 10), (0, 8), (0, 6), (0, 6), (0, 8), (0, 9), (0, 49), (0, 49), ((-2147483648), 2147483647), ((-2147483648), 2147483647), (0, 5), (0, 7), (0, 23), ((-1), (-1)), (1, 9), (0, 49), (0, 49), ((-2147483648), 2147483647), ((-2147483648), 2147483647), (0, 49), (0, 49), (0, 99), (0, 9), (1, 1)]), [(2, [(none, 0), (some 3, 1)], []), (1, [(none, 1), (none, 0)], []), (0, [(some 26, 0), (none, 1)], []), (1, [(some 26, 0), (none, 0)], []), (5, [(some 26, 0), (some 24, 0), (some 25, 0)], []), (20, [(some 25, 0), (some 14, 0)], [8]), (20, [(some 24, 0), (some 14, 0)], [73]), (148, [(some 15, 0), (some 2, 0), (some 3, 1), (some 4, 0), (some 5, 0), (some 6, 0), (none, 0), (none, 0)], [7, 8, 67, 68, 69, 70, 15, 16, 19, 20, 21, 23, 24, 25, 73, 74, 75]), (21, [(some 3, 0), (none, (-1))], [70, 61]), (21, [(some 3, 0), (none, 0)], [69, 60]), (21, [(some 3, 0), (some 17, 0)], [68, 59]), (21, [(some 3, 0), (some 14, 0)], [67, 58]), (3, [(none, 10), (some 3, 0)], []), (0, [(some 16, 0), (none, (-1))], []), (3, [(none, 9), (some 17, 0)], []), (186, [(some 3, 0)], [58, 10]), (186, [(some 3, 0)], [59, 11]), (186, [(some 3, 0)], [60, 12]), (186, [(some 3, 0)], [61, 13])], (186, [(some 3, 0)], [69, 12]))
set_option maxRecDepth 20000 in
theorem v_xf_swear_1_10 {PT : PTy} (hp : HP15 PT) : vcOk PT w_xf_swear_1_10 := vc_iv [(2, 1, 8), (3, 0, 10), (4, 0, 8), (5, 0, 6), (6, 0, 6), (14, 0, 7), (15, 0, 23), (16, (-1), (-1)), (17, 1, 9), (24, 0, 99), (25, 0, 9), (26, 1, 1)] [7, 8, 10, 11, 12, 13, 15, 16, 19, 20, 21, 23, 24, 25, 58, 59, 60, 61, 67, 68, 69, 70, 73, 74, 75] (by decide +kernel) (fun ρ α => by
  intro r2 g2 b2 r3 g3 b3 r4 g4 b4 r5 g5 b5 r6 g6 b6 r14 g14 b14 r15 g15 b15 r16 g16 b16 r17 g17 b17 r24 g24 b24 r25 g25 b25 r26 g26 b26 a7 h7 a8 h8 a10 h10 a11 h11 a12 h12 a13 h13 a15 h15 a16 h16 a19 h19 a20 h20 a21 h21 a23 h23 a24 h24 a25 h25 a58 h58 a59 h59 a60 h60 a61 h61 a67 h67 a68 h68 a69 h69 a70 h70 a73 h73 a74 h74 a75 h75 f0 f1 f2 f3 f4 f5 f6 f7 f8 f9 f10 f11 f12 f13 f14 f15 f16 f17 f18 tt
  have e148 : PT 148 = P_yx := pe148_15 hp
  have e186 : PT 186 = P_al := pe186_15 hp
  simp only [hF0, hF1, hF2, hF3, hF5, hF20, hF21, hFp_148, hFp_186, e148, e186, P_yx, P_al, den_s, den_c, Int.add_zero, List.map_cons, List.map_nil, g2.eq, g3.eq, g4.eq, g5.eq, g6.eq, g14.eq, g15.eq, g16.eq, g17.eq, g24.eq, g25.eq, g26.eq, h7, h8, h10, h11, h12, h13, h15, h16, h19, h20, h21, h23, h24, h25, h58, h59, h60, h61, h67, h68, h69, h70, h73, h74, h75] at f0 f1 f2 f3 f4 f5 f6 f7 f8 f9 f10 f11 f12 f13 f14 f15 f16 f17 f18 ⊢
  clear g2 g3 g4 g5 g6 g14 g15 g16 g17 g24 g25 g26 h7 h8 h10 h11 h12 h13 h15 h16 h19 h20 h21 h23 h24 h25 h58 h59 h60 h61 h67 h68 h69 h70 h73 h74 h75 e148 e186 tt
  subst f4
  subst f5
  subst f6
  subst f8
  subst f9
  subst f10
  subst f11
  subst_vars
  first
    | exact fun i h1 h2 => (by first | rfl | trivial)
    | assumption
    | exact al_up (Int.le_refl _) (by assumption)
    | exact al_up (Int.le_refl _) (fun i h1 h2 => rfl)
    | exact al_tr (by assumption) (by assumption))
def w_xf_swear_1_11 : VC := (([(0, 23), (0, 49), (1, 8), (0, 10), (0, 8), (0, 6), (0, 6), (0, 8), (0, 9), (0, 49), (0, 49), ((-2147483648), 2147483647), ((-2147483648), 2147483647), (0, 5), (0, 7), (0, 23), ((-1), (-1)), (1, 9), (0, 49), (0, 49), ((-2147483648), 2147483647), ((-2147483648), 2147483647), (0, 49), (0, 49), (0, 99), (0, 9), (1, 1)]), [(2, [(none, 0), (some 3, 1)], []), (1, [(none, 1), (none, 0)], []), (0, [(some 26, 0), (none, 1)], []), (1, [(some 26, 0), (none, 0)], []), (5, [(some 26, 0), (some 24, 0), (some 25, 0)], []), (20, [(some 25, 0), (some 14, 0)], [8]), (20, [(some 24, 0), (some 14, 0)], [73]), (148, [(some 15, 0), (some 2, 0), (some 3, 1), (some 4, 0), (some 5, 0), (some 6, 0), (none, 0), (none, 0)], [7, 8, 67, 68, 69, 70, 15, 16, 19, 20, 21, 23, 24, 25, 73, 74, 75]), (21, [(some 3, 0), (none, (-1))], [70, 61]), (21, [(some 3, 0), (none, 0)], [69, 60]), (21, [(some 3, 0), (some 17, 0)], [68, 59]), (21, [(some 3, 0), (some 14, 0)], [67, 58]), (3, [(none, 10), (some 3, 0)], []), (0, [(some 16, 0), (none, (-1))], []), (3, [(none, 9), (some 17, 0)], []), (186, [(some 3, 0)], [58, 10]), (186, [(some 3, 0)], [59, 11]), (186, [(some 3, 0)], [60, 12]), (186, [(some 3, 0)], [61, 13])], (186, [(some 3, 0)], [70, 13]))
set_option maxRecDepth 20000 in
theorem v_xf_swear_1_11 {PT : PTy} (hp : HP15 PT) : vcOk PT w_xf_swear_1_11 := vc_iv [(2, 1, 8), (3, 0, 10), (4, 0, 8), (5, 0, 6), (6, 0, 6), (14, 0, 7), (15, 0, 23), (16, (-1), (-1)), (17, 1, 9), (24, 0, 99), (25, 0, 9), (26, 1, 1)] [7, 8, 10, 11, 12, 13, 15, 16, 19, 20, 21, 23, 24, 25, 58, 59, 60, 61, 67, 68, 69, 70, 73, 74, 75] (by decide +kernel) (fun ρ α => by
  intro r2 g2 b2 r3 g3 b3 r4 g4 b4 r5 g5 b5 r6 g6 b6 r14 g14 b14 r15 g15 b15 r16 g16 b16 r17 g17 b17 r24 g24 b24 r25 g25 b25 r26 g26 b26 a7 h7 a8 h8 a10 h10 a11 h11 a12 h12 a13 h13 a15 h15 a16 h16 a19 h19 a20 h20 a21 h21 a23 h23 a24 h24 a25 h25 a58 h58 a59 h59 a60 h60 a61 h61 a67 h67 a68 h68 a69 h69 a70 h70 a73 h73 a74 h74 a75 h75 f0 f1 f2 f3 f4 f5 f6 f7 f8 f9 f10 f11 f12 f13 f14 f15 f16 f17 f18 tt
  have e148 : PT 148 = P_yx := pe148_15 hp
  have e186 : PT 186 = P_al := pe186_15 hp
  simp only [hF0, hF1, hF2, hF3, hF5, hF20, hF21, hFp_148, hFp_186, e148, e186, P_yx, P_al, den_s, den_c, Int.add_zero, List.map_cons, List.map_nil, g2.eq, g3.eq, g4.eq, g5.eq, g6.eq, g14.eq, g15.eq, g16.eq, g17.eq, g24.eq, g25.eq, g26.eq, h7, h8, h10, h11, h12, h13, h15, h16, h19, h20, h21, h23, h24, h25, h58, h59, h60, h61, h67, h68, h69, h70, h73, h74, h75] at f0 f1 f2 f3 f4 f5 f6 f7 f8 f9 f10 f11 f12 f13 f14 f15 f16 f17 f18 ⊢
  clear g2 g3 g4 g5 g6 g14 g15 g16 g17 g24 g25 g26 h7 h8 h10 h11 h12 h13 h15 h16 h19 h20 h21 h23 h24 h25 h58 h59 h60 h61 h67 h68 h69 h70 h73 h74 h75 e148 e186 tt
  subst f4
  subst f5
  subst f6
  subst f8
  subst f9
  subst f10
  subst f11
  subst_vars
  first
    | exact fun i h1 h2 => (by first | rfl | trivial)
    | assumption
    | exact al_up (Int.le_refl _) (by assumption)
    | exact al_up (Int.le_refl _) (fun i h1 h2 => rfl)
    | exact al_tr (by assumption) (by assumption))
set_option maxRecDepth 1000000 in
theorem k_xf_swear {PT : PTy} (hp : HP15 PT) : wfX c_xf_swear = true ∧ xcOk PT c_xf_swear := xctr (xl (k_liveX hp.1.1.1.1) (xl0)) c_xf_swear 113 mX6_swear rfl h_xf_swear (by decide +kernel) (by decide +kernel) (by decide) (vcs_by [w_xf_swear_0_0, w_xf_swear_0_1, w_xf_swear_0_2, w_xf_swear_0_3, w_xf_swear_0_4, w_xf_swear_0_5, w_xf_swear_0_6, w_xf_swear_0_7, w_xf_swear_0_8, w_xf_swear_0_9, w_xf_swear_0_10, w_xf_swear_0_11, w_xf_swear_0_12, w_xf_swear_0_13, w_xf_swear_0_14, w_xf_swear_0_15, w_xf_swear_0_16, w_xf_swear_0_17, w_xf_swear_0_18, w_xf_swear_0_19] (by decide +kernel) (vc (v_xf_swear_0_0 hp) (vc (v_xf_swear_0_1 hp) (vc (v_xf_swear_0_2 hp) (vc (v_xf_swear_0_3 hp) (vc (v_xf_swear_0_4 hp) (vc (v_xf_swear_0_5 hp) (vc (v_xf_swear_0_6 hp) (vc (v_xf_swear_0_7 hp) (vc (v_xf_swear_0_8 hp) (vc (v_xf_swear_0_9 hp) (vc (v_xf_swear_0_10 hp) (vc (v_xf_swear_0_11 hp) (vc (v_xf_swear_0_12 hp) (vc (v_xf_swear_0_13 hp) (vc (v_xf_swear_0_14 hp) (vc (v_xf_swear_0_15 hp) (vc (v_xf_swear_0_16 hp) (vc (v_xf_swear_0_17 hp) (vc (v_xf_swear_0_18 hp) (vc (v_xf_swear_0_19 hp) vn))))))))))))))))))))) (fmc (vcs_by [w_xf_swear_1_0, w_xf_swear_1_1, w_xf_swear_1_2, w_xf_swear_1_3, w_xf_swear_1_4, w_xf_swear_1_5, w_xf_swear_1_6, w_xf_swear_1_7, w_xf_swear_1_8, w_xf_swear_1_9, w_xf_swear_1_10, w_xf_swear_1_11] (by decide +kernel) (vc (v_xf_swear_1_0 hp) (vc (v_xf_swear_1_1 hp) (vc (v_xf_swear_1_2 hp) (vc (v_xf_swear_1_3 hp) (vc (v_xf_swear_1_4 hp) (vc (v_xf_swear_1_5 hp) (vc (v_xf_swear_1_6 hp) (vc (v_xf_swear_1_7 hp) (vc (v_xf_swear_1_8 hp) (vc (v_xf_swear_1_9 hp) (vc (v_xf_swear_1_10 hp) (vc (v_xf_swear_1_11 hp) vn))))))))))))) fmn)
def c_xf_keep : XC := (62, 4, (bT ++ [((-2147483648), 2147483647), ((-2147483648), 2147483647)]), [.inr (.inl 0), .inl (some 14, 0), .inl (some 15, 0)], (gX 999), [], [((bT ++ [((-2147483648), 2147483647), ((-2147483648), 2147483647), ((-2), 2147483647), (0, 49), (0, 49), ((-2147483648), 2147483647), ((-2147483648), 2147483647)]), some (.inl (some 16, 0)), (hst (gX 999) [(5, .inr (.inr (.inr (0, [.inr (.inl 6), .inr (.inl 9), .inr (.inl 14), .inr (.inl 18), .inr (.inl 22), .inr (.inl 26), .inr (.inl 27), .inr (.inl 28), .inr (.inl 29), .inr (.inl 30), .inl (some 17, 0), .inl (some 18, 0), .inl (some 19, 0), .inl (some 20, 0), .inr (.inl 999)]))))]), (ansT 58 [(15, 58), (16, 59), (17, 60), (26, 61), (27, 62), (28, 63), (29, 64), (30, 65)]), 66, [(186, [(some 4, 0)], [58, 15]), (186, [(some 4, 0)], [59, 16])])])
def h_xf_keep : List XH := [(26, (bT ++ [(0, 23), (0, 1), ((-1), 9), ((-1), 2147483647), (0, 10), (0, 49), (0, 49), ((-2147483648), 2147483647), ((-2147483648), 2147483647)]), [some (.inr (.inl 0)), some (.inl (some 14, 0)), some (.inl (some 15, 0)), some (.inl (some 16, 0)), some (.inl (some 17, 0)), some (.inl (some 18, 0)), none], (hst (gX 999) [(5, .inr (.inr (.inr (0, [.inr (.inl 6), .inr (.inl 9), .inr (.inl 14), .inr (.inl 18), .inr (.inl 22), .inr (.inl 26), .inr (.inl 27), .inr (.inl 28), .inr (.inl 29), .inr (.inl 30), .inl (some 19, 0), .inl (some 20, 0), .inl (some 21, 0), .inl (some 22, 0), .inr (.inl 999)]))))]), (ansT 58 [(15, 58), (16, 59), (17, 60), (26, 61), (27, 62), (28, 63), (29, 64), (30, 65)]), 66, [(186, [(some 4, 0)], [58, 15]), (186, [(some 4, 0)], [59, 16])], [(true, (none, 1)), (true, (some 18, 0))])]
def w_xf_keep_0_0 : VC := ((bT ++ [((-2147483648), (-1)), ((-2147483648), 2147483647)]), [(0, [(none, 0), (none, 0)], []), (2, [(some 14, 0), (none, 0)], [])], (186, [(some 4, 0)], [15, 15]))
set_option maxRecDepth 20000 in
theorem v_xf_keep_0_0 {PT : PTy} (hp : HP15 PT) : vcOk PT w_xf_keep_0_0 := vc_iv [(4, 0, 8), (14, (-2147483648), (-1))] [15] (by decide +kernel) (fun ρ α => by
  intro r4 g4 b4 r14 g14 b14 a15 h15 f0 f1 tt
  have e186 : PT 186 = P_al := pe186_15 hp
  simp only [hF0, hF2, hFp_186, e186, P_al, den_s, den_c, Int.add_zero, List.map_cons, List.map_nil, g4.eq, g14.eq, h15] at f0 f1 ⊢
  clear g4 g14 h15 e186 tt
  subst_vars
  first
    | exact fun i h1 h2 => (by first | rfl | trivial)
    | assumption
    | exact al_up (Int.le_refl _) (by assumption)
    | exact al_up (Int.le_refl _) (fun i h1 h2 => rfl)
    | exact al_tr (by assumption) (by assumption))
def w_xf_keep_0_1 : VC := ((bT ++ [((-2147483648), (-1)), ((-2147483648), 2147483647)]), [(0, [(none, 0), (none, 0)], []), (2, [(some 14, 0), (none, 0)], [])], (186, [(some 4, 0)], [16, 16]))
set_option maxRecDepth 20000 in
theorem v_xf_keep_0_1 {PT : PTy} (hp : HP15 PT) : vcOk PT w_xf_keep_0_1 := vc_iv [(4, 0, 8), (14, (-2147483648), (-1))] [16] (by decide +kernel) (fun ρ α => by
  intro r4 g4 b4 r14 g14 b14 a16 h16 f0 f1 tt
  have e186 : PT 186 = P_al := pe186_15 hp
  simp only [hF0, hF2, hFp_186, e186, P_al, den_s, den_c, Int.add_zero, List.map_cons, List.map_nil, g4.eq, g14.eq, h16] at f0 f1 ⊢
  clear g4 g14 h16 e186 tt
  subst_vars
  first
    | exact fun i h1 h2 => (by first | rfl | trivial)
    | assumption
    | exact al_up (Int.le_refl _) (by assumption)
    | exact al_up (Int.le_refl _) (fun i h1 h2 => rfl)
    | exact al_tr (by assumption) (by assumption))
def w_xf_keep_0_2 : VC := ((bT ++ [(24, 2147483647), ((-2147483648), 2147483647)]), [(0, [(none, 0), (none, 0)], []), (2, [(none, 23), (some 14, 0)], []), (3, [(some 14, 0), (none, 0)], [])], (186, [(some 4, 0)], [15, 15]))
set_option maxRecDepth 20000 in
theorem v_xf_keep_0_2 {PT : PTy} (hp : HP15 PT) : vcOk PT w_xf_keep_0_2 := vc_iv [(4, 0, 8), (14, 24, 2147483647)] [15] (by decide +kernel) (fun ρ α => by
  intro r4 g4 b4 r14 g14 b14 a15 h15 f0 f1 f2 tt
  have e186 : PT 186 = P_al := pe186_15 hp
  simp only [hF0, hF2, hF3, hFp_186, e186, P_al, den_s, den_c, Int.add_zero, List.map_cons, List.map_nil, g4.eq, g14.eq, h15] at f0 f1 f2 ⊢
  clear g4 g14 h15 e186 tt
  subst_vars
  first
    | exact fun i h1 h2 => (by first | rfl | trivial)
    | assumption
    | exact al_up (Int.le_refl _) (by assumption)
    | exact al_up (Int.le_refl _) (fun i h1 h2 => rfl)
    | exact al_tr (by assumption) (by assumption))
def w_xf_keep_0_3 : VC := ((bT ++ [(24, 2147483647), ((-2147483648), 2147483647)]), [(0, [(none, 0), (none, 0)], []), (2, [(none, 23), (some 14, 0)], []), (3, [(some 14, 0), (none, 0)], [])], (186, [(some 4, 0)], [16, 16]))
set_option maxRecDepth 20000 in
theorem v_xf_keep_0_3 {PT : PTy} (hp : HP15 PT) : vcOk PT w_xf_keep_0_3 := vc_iv [(4, 0, 8), (14, 24, 2147483647)] [16] (by decide +kernel) (fun ρ α => by
  intro r4 g4 b4 r14 g14 b14 a16 h16 f0 f1 f2 tt
  have e186 : PT 186 = P_al := pe186_15 hp
  simp only [hF0, hF2, hF3, hFp_186, e186, P_al, den_s, den_c, Int.add_zero, List.map_cons, List.map_nil, g4.eq, g14.eq, h16] at f0 f1 f2 ⊢
  clear g4 g14 h16 e186 tt
  subst_vars
  first
    | exact fun i h1 h2 => (by first | rfl | trivial)
    | assumption
    | exact al_up (Int.le_refl _) (by assumption)
    | exact al_up (Int.le_refl _) (fun i h1 h2 => rfl)
    | exact al_tr (by assumption) (by assumption))
def w_xf_keep_0_4 : VC := ((bT ++ [(0, 23), ((-2147483648), (-1))]), [(0, [(none, 0), (none, 0)], []), (2, [(some 15, 0), (none, 0)], []), (1, [(none, 1), (none, 0)], []), (3, [(none, 23), (some 14, 0)], []), (3, [(some 14, 0), (none, 0)], [])], (186, [(some 4, 0)], [15, 15]))
set_option maxRecDepth 20000 in
theorem v_xf_keep_0_4 {PT : PTy} (hp : HP15 PT) : vcOk PT w_xf_keep_0_4 := vc_iv [(4, 0, 8), (14, 0, 23), (15, (-2147483648), (-1))] [15] (by decide +kernel) (fun ρ α => by
  intro r4 g4 b4 r14 g14 b14 r15 g15 b15 a15 h15 f0 f1 f2 f3 f4 tt
  have e186 : PT 186 = P_al := pe186_15 hp
  simp only [hF0, hF1, hF2, hF3, hFp_186, e186, P_al, den_s, den_c, Int.add_zero, List.map_cons, List.map_nil, g4.eq, g14.eq, g15.eq, h15] at f0 f1 f2 f3 f4 ⊢
  clear g4 g14 g15 h15 e186 tt
  subst_vars
  first
    | exact fun i h1 h2 => (by first | rfl | trivial)
    | assumption
    | exact al_up (Int.le_refl _) (by assumption)
    | exact al_up (Int.le_refl _) (fun i h1 h2 => rfl)
    | exact al_tr (by assumption) (by assumption))
def w_xf_keep_0_5 : VC := ((bT ++ [(0, 23), ((-2147483648), (-1))]), [(0, [(none, 0), (none, 0)], []), (2, [(some 15, 0), (none, 0)], []), (1, [(none, 1), (none, 0)], []), (3, [(none, 23), (some 14, 0)], []), (3, [(some 14, 0), (none, 0)], [])], (186, [(some 4, 0)], [16, 16]))
set_option maxRecDepth 20000 in
theorem v_xf_keep_0_5 {PT : PTy} (hp : HP15 PT) : vcOk PT w_xf_keep_0_5 := vc_iv [(4, 0, 8), (14, 0, 23), (15, (-2147483648), (-1))] [16] (by decide +kernel) (fun ρ α => by
  intro r4 g4 b4 r14 g14 b14 r15 g15 b15 a16 h16 f0 f1 f2 f3 f4 tt
  have e186 : PT 186 = P_al := pe186_15 hp
  simp only [hF0, hF1, hF2, hF3, hFp_186, e186, P_al, den_s, den_c, Int.add_zero, List.map_cons, List.map_nil, g4.eq, g14.eq, g15.eq, h16] at f0 f1 f2 f3 f4 ⊢
  clear g4 g14 g15 h16 e186 tt
  subst_vars
  first
    | exact fun i h1 h2 => (by first | rfl | trivial)
    | assumption
    | exact al_up (Int.le_refl _) (by assumption)
    | exact al_up (Int.le_refl _) (fun i h1 h2 => rfl)
    | exact al_tr (by assumption) (by assumption))
def w_xf_keep_0_6 : VC := ((bT ++ [(0, 23), (2, 2147483647)]), [(0, [(none, 0), (none, 0)], []), (2, [(none, 1), (some 15, 0)], []), (3, [(some 15, 0), (none, 0)], []), (1, [(none, 1), (none, 0)], []), (3, [(none, 23), (some 14, 0)], []), (3, [(some 14, 0), (none, 0)], [])], (186, [(some 4, 0)], [15, 15]))
set_option maxRecDepth 20000 in
theorem v_xf_keep_0_6 {PT : PTy} (hp : HP15 PT) : vcOk PT w_xf_keep_0_6 := vc_iv [(4, 0, 8), (14, 0, 23), (15, 2, 2147483647)] [15] (by decide +kernel) (fun ρ α => by
  intro r4 g4 b4 r14 g14 b14 r15 g15 b15 a15 h15 f0 f1 f2 f3 f4 f5 tt
  have e186 : PT 186 = P_al := pe186_15 hp
  simp only [hF0, hF1, hF2, hF3, hFp_186, e186, P_al, den_s, den_c, Int.add_zero, List.map_cons, List.map_nil, g4.eq, g14.eq, g15.eq, h15] at f0 f1 f2 f3 f4 f5 ⊢
  clear g4 g14 g15 h15 e186 tt
  subst_vars
  first
    | exact fun i h1 h2 => (by first | rfl | trivial)
    | assumption
    | exact al_up (Int.le_refl _) (by assumption)
    | exact al_up (Int.le_refl _) (fun i h1 h2 => rfl)
    | exact al_tr (by assumption) (by assumption))
def w_xf_keep_0_7 : VC := ((bT ++ [(0, 23), (2, 2147483647)]), [(0, [(none, 0), (none, 0)], []), (2, [(none, 1), (some 15, 0)], []), (3, [(some 15, 0), (none, 0)], []), (1, [(none, 1), (none, 0)], []), (3, [(none, 23), (some 14, 0)], []), (3, [(some 14, 0), (none, 0)], [])], (186, [(some 4, 0)], [16, 16]))
set_option maxRecDepth 20000 in
theorem v_xf_keep_0_7 {PT : PTy} (hp : HP15 PT) : vcOk PT w_xf_keep_0_7 := vc_iv [(4, 0, 8), (14, 0, 23), (15, 2, 2147483647)] [16] (by decide +kernel) (fun ρ α => by
  intro r4 g4 b4 r14 g14 b14 r15 g15 b15 a16 h16 f0 f1 f2 f3 f4 f5 tt
  have e186 : PT 186 = P_al := pe186_15 hp
  simp only [hF0, hF1, hF2, hF3, hFp_186, e186, P_al, den_s, den_c, Int.add_zero, List.map_cons, List.map_nil, g4.eq, g14.eq, g15.eq, h16] at f0 f1 f2 f3 f4 f5 ⊢
  clear g4 g14 g15 h16 e186 tt
  subst_vars
  first
    | exact fun i h1 h2 => (by first | rfl | trivial)
    | assumption
    | exact al_up (Int.le_refl _) (by assumption)
    | exact al_up (Int.le_refl _) (fun i h1 h2 => rfl)
    | exact al_tr (by assumption) (by assumption))
def w_xf_keep_0_8 : VC := ((bT ++ [(0, 23), (0, 1)]), [(1, [(none, 1), (none, 0)], []), (3, [(none, 1), (some 15, 0)], []), (3, [(some 15, 0), (none, 0)], []), (1, [(none, 1), (none, 0)], []), (3, [(none, 23), (some 14, 0)], []), (3, [(some 14, 0), (none, 0)], [])], (186, [(some 4, 0)], [15, 15]))
set_option maxRecDepth 20000 in
theorem v_xf_keep_0_8 {PT : PTy} (hp : HP15 PT) : vcOk PT w_xf_keep_0_8 := vc_iv [(4, 0, 8), (14, 0, 23), (15, 0, 1)] [15] (by decide +kernel) (fun ρ α => by
  intro r4 g4 b4 r14 g14 b14 r15 g15 b15 a15 h15 f0 f1 f2 f3 f4 f5 tt
  have e186 : PT 186 = P_al := pe186_15 hp
  simp only [hF1, hF3, hFp_186, e186, P_al, den_s, den_c, Int.add_zero, List.map_cons, List.map_nil, g4.eq, g14.eq, g15.eq, h15] at f0 f1 f2 f3 f4 f5 ⊢
  clear g4 g14 g15 h15 e186 tt
  subst_vars
  first
    | exact fun i h1 h2 => (by first | rfl | trivial)
    | assumption
    | exact al_up (Int.le_refl _) (by assumption)
    | exact al_up (Int.le_refl _) (fun i h1 h2 => rfl)
    | exact al_tr (by assumption) (by assumption))
def w_xf_keep_0_9 : VC := ((bT ++ [(0, 23), (0, 1)]), [(1, [(none, 1), (none, 0)], []), (3, [(none, 1), (some 15, 0)], []), (3, [(some 15, 0), (none, 0)], []), (1, [(none, 1), (none, 0)], []), (3, [(none, 23), (some 14, 0)], []), (3, [(some 14, 0), (none, 0)], [])], (186, [(some 4, 0)], [16, 16]))
set_option maxRecDepth 20000 in
theorem v_xf_keep_0_9 {PT : PTy} (hp : HP15 PT) : vcOk PT w_xf_keep_0_9 := vc_iv [(4, 0, 8), (14, 0, 23), (15, 0, 1)] [16] (by decide +kernel) (fun ρ α => by
  intro r4 g4 b4 r14 g14 b14 r15 g15 b15 a16 h16 f0 f1 f2 f3 f4 f5 tt
  have e186 : PT 186 = P_al := pe186_15 hp
  simp only [hF1, hF3, hFp_186, e186, P_al, den_s, den_c, Int.add_zero, List.map_cons, List.map_nil, g4.eq, g14.eq, g15.eq, h16] at f0 f1 f2 f3 f4 f5 ⊢
  clear g4 g14 g15 h16 e186 tt
  subst_vars
  first
    | exact fun i h1 h2 => (by first | rfl | trivial)
    | assumption
    | exact al_up (Int.le_refl _) (by assumption)
    | exact al_up (Int.le_refl _) (fun i h1 h2 => rfl)
    | exact al_tr (by assumption) (by assumption))
def w_xf_keep_1_0 : VC := (([(0, 23), (0, 49), (0, 8), (1, 10), (0, 8), (0, 6), (0, 6), (0, 8), (0, 9), (0, 49), (0, 49), ((-2147483648), 2147483647), ((-2147483648), 2147483647), (0, 5), (0, 23), (0, 1), ((-1), 9), ((-1), 2147483647), (0, 9), (0, 49), (0, 49), ((-2147483648), 2147483647), ((-2147483648), 2147483647), (0, 49), (0, 49), ((-2147483648), 2147483647), ((-2147483648), 2147483647)]), [(2, [(none, 0), (some 4, 1)], []), (3, [(some 17, 0), (some 26, 0)], []), (160, [(some 26, 0), (some 25, 0)], []), (92, [(some 25, 0), (some 2, 0)], [71, 8]), (148, [(none, 23), (some 2, 0), (some 3, 0), (some 4, 1), (some 5, 0), (some 6, 0), (none, 0), (none, 0)], [7, 8, 10, 11, 12, 13, 66, 67, 19, 20, 21, 23, 24, 25, 71, 72, 73]), (21, [(some 4, 0), (none, 0)], [68, 60]), (21, [(some 4, 0), (some 18, 0)], [67, 59]), (21, [(some 4, 0), (some 14, 0)], [66, 58]), (2, [(some 4, 0), (none, 9)], []), (2, [(some 18, 0), (some 3, 0)], []), (186, [(some 4, 0)], [58, 15]), (186, [(some 4, 0)], [59, 16])], (186, [(some 4, 0)], [66, 15]))
theorem pe92_15 {PT : PTy} (hp : HP15 PT) : PT 92 = P_bits := hp.1.1.1.1.1.1.1.1.1.1.1.2.1
theorem pe160_15 {PT : PTy} (hp : HP15 PT) : PT 160 = P_bc := hp.1.1.1.1.2.2.2.2.2.2.2.2.2.2.2.2.2.2.1
set_option maxRecDepth 20000 in
theorem v_xf_keep_1_0 {PT : PTy} (hp : HP15 PT) : vcOk PT w_xf_keep_1_0 := vc_iv [(2, 0, 8), (3, 1, 10), (4, 0, 8), (5, 0, 6), (6, 0, 6), (14, 0, 23), (17, (-1), 2147483647), (18, 0, 9), (25, (-2147483648), 2147483647), (26, (-2147483648), 2147483647)] [7, 8, 10, 11, 12, 13, 15, 16, 19, 20, 21, 23, 24, 25, 58, 59, 60, 66, 67, 68, 71, 72, 73] (by decide +kernel) (fun ρ α => by
  intro r2 g2 b2 r3 g3 b3 r4 g4 b4 r5 g5 b5 r6 g6 b6 r14 g14 b14 r17 g17 b17 r18 g18 b18 r25 g25 b25 r26 g26 b26 a7 h7 a8 h8 a10 h10 a11 h11 a12 h12 a13 h13 a15 h15 a16 h16 a19 h19 a20 h20 a21 h21 a23 h23 a24 h24 a25 h25 a58 h58 a59 h59 a60 h60 a66 h66 a67 h67 a68 h68 a71 h71 a72 h72 a73 h73 f0 f1 f2 f3 f4 f5 f6 f7 f8 f9 f10 f11 tt
  have e92 : PT 92 = P_bits := pe92_15 hp
  have e148 : PT 148 = P_yx := pe148_15 hp
  have e160 : PT 160 = P_bc := pe160_15 hp
  have e186 : PT 186 = P_al := pe186_15 hp
  simp only [hF2, hF3, hF21, hFp_92, hFp_148, hFp_160, hFp_186, e92, e148, e160, e186, P_bits, P_yx, P_bc, P_al, den_s, den_c, Int.add_zero, List.map_cons, List.map_nil, g2.eq, g3.eq, g4.eq, g5.eq, g6.eq, g14.eq, g17.eq, g18.eq, g25.eq, g26.eq, h7, h8, h10, h11, h12, h13, h15, h16, h19, h20, h21, h23, h24, h25, h58, h59, h60, h66, h67, h68, h71, h72, h73] at f0 f1 f2 f3 f4 f5 f6 f7 f8 f9 f10 f11 ⊢
  clear g2 g3 g4 g5 g6 g14 g17 g18 g25 g26 h7 h8 h10 h11 h12 h13 h15 h16 h19 h20 h21 h23 h24 h25 h58 h59 h60 h66 h67 h68 h71 h72 h73 e92 e148 e160 e186 tt
  subst f5
  subst f6
  subst f7
  subst_vars
  first
    | exact fun i h1 h2 => (by first | rfl | trivial)
    | assumption
    | exact al_up (Int.le_refl _) (by assumption)
    | exact al_up (Int.le_refl _) (fun i h1 h2 => rfl)
    | exact al_tr (by assumption) (by assumption))
def w_xf_keep_1_1 : VC := (([(0, 23), (0, 49), (0, 8), (1, 10), (0, 8), (0, 6), (0, 6), (0, 8), (0, 9), (0, 49), (0, 49), ((-2147483648), 2147483647), ((-2147483648), 2147483647), (0, 5), (0, 23), (0, 1), ((-1), 9), ((-1), 2147483647), (0, 9), (0, 49), (0, 49), ((-2147483648), 2147483647), ((-2147483648), 2147483647), (0, 49), (0, 49), ((-2147483648), 2147483647), ((-2147483648), 2147483647)]), [(2, [(none, 0), (some 4, 1)], []), (3, [(some 17, 0), (some 26, 0)], []), (160, [(some 26, 0), (some 25, 0)], []), (92, [(some 25, 0), (some 2, 0)], [71, 8]), (148, [(none, 23), (some 2, 0), (some 3, 0), (some 4, 1), (some 5, 0), (some 6, 0), (none, 0), (none, 0)], [7, 8, 10, 11, 12, 13, 66, 67, 19, 20, 21, 23, 24, 25, 71, 72, 73]), (21, [(some 4, 0), (none, 0)], [68, 60]), (21, [(some 4, 0), (some 18, 0)], [67, 59]), (21, [(some 4, 0), (some 14, 0)], [66, 58]), (2, [(some 4, 0), (none, 9)], []), (2, [(some 18, 0), (some 3, 0)], []), (186, [(some 4, 0)], [58, 15]), (186, [(some 4, 0)], [59, 16])], (186, [(some 4, 0)], [67, 16]))
set_option maxRecDepth 20000 in
theorem v_xf_keep_1_1 {PT : PTy} (hp : HP15 PT) : vcOk PT w_xf_keep_1_1 := vc_iv [(2, 0, 8), (3, 1, 10), (4, 0, 8), (5, 0, 6), (6, 0, 6), (14, 0, 23), (17, (-1), 2147483647), (18, 0, 9), (25, (-2147483648), 2147483647), (26, (-2147483648), 2147483647)] [7, 8, 10, 11, 12, 13, 15, 16, 19, 20, 21, 23, 24, 25, 58, 59, 60, 66, 67, 68, 71, 72, 73] (by decide +kernel) (fun ρ α => by
  intro r2 g2 b2 r3 g3 b3 r4 g4 b4 r5 g5 b5 r6 g6 b6 r14 g14 b14 r17 g17 b17 r18 g18 b18 r25 g25 b25 r26 g26 b26 a7 h7 a8 h8 a10 h10 a11 h11 a12 h12 a13 h13 a15 h15 a16 h16 a19 h19 a20 h20 a21 h21 a23 h23 a24 h24 a25 h25 a58 h58 a59 h59 a60 h60 a66 h66 a67 h67 a68 h68 a71 h71 a72 h72 a73 h73 f0 f1 f2 f3 f4 f5 f6 f7 f8 f9 f10 f11 tt
  have e92 : PT 92 = P_bits := pe92_15 hp
  have e148 : PT 148 = P_yx := pe148_15 hp
  have e160 : PT 160 = P_bc := pe160_15 hp
  have e186 : PT 186 = P_al := pe186_15 hp
  simp only [hF2, hF3, hF21, hFp_92, hFp_148, hFp_160, hFp_186, e92, e148, e160, e186, P_bits, P_yx, P_bc, P_al, den_s, den_c, Int.add_zero, List.map_cons, List.map_nil, g2.eq, g3.eq, g4.eq, g5.eq, g6.eq, g14.eq, g17.eq, g18.eq, g25.eq, g26.eq, h7, h8, h10, h11, h12, h13, h15, h16, h19, h20, h21, h23, h24, h25, h58, h59, h60, h66, h67, h68, h71, h72, h73] at f0 f1 f2 f3 f4 f5 f6 f7 f8 f9 f10 f11 ⊢
  clear g2 g3 g4 g5 g6 g14 g17 g18 g25 g26 h7 h8 h10 h11 h12 h13 h15 h16 h19 h20 h21 h23 h24 h25 h58 h59 h60 h66 h67 h68 h71 h72 h73 e92 e148 e160 e186 tt
  subst f5
  subst f6
  subst f7
  subst_vars
  first
    | exact fun i h1 h2 => (by first | rfl | trivial)
    | assumption
    | exact al_up (Int.le_refl _) (by assumption)
    | exact al_up (Int.le_refl _) (fun i h1 h2 => rfl)
    | exact al_tr (by assumption) (by assumption))
def w_xf_keep_1_2 : VC := (([(0, 23), (0, 49), (0, 8), (1, 10), (0, 8), (0, 6), (0, 6), (0, 8), (0, 9), (0, 49), (0, 49), ((-2147483648), 2147483647), ((-2147483648), 2147483647), (0, 5), (0, 23), (0, 1), ((-1), 9), ((-1), 2147483646), (0, 9), (0, 49), (0, 49), ((-2147483648), 2147483647), ((-2147483648), 2147483647), (0, 49), (0, 49), ((-2147483648), 2147483647), (0, 2147483647)]), [(2, [(none, 0), (some 4, 1)], []), (2, [(some 17, 0), (some 26, 0)], []), (160, [(some 26, 0), (some 25, 0)], []), (92, [(some 25, 0), (some 2, 0)], [71, 8]), (148, [(none, 23), (some 2, 0), (some 3, 0), (some 4, 1), (some 5, 0), (some 6, 0), (none, 0), (none, 0)], [7, 8, 10, 11, 12, 13, 66, 67, 19, 20, 21, 23, 24, 25, 71, 72, 73]), (21, [(some 4, 0), (none, 0)], [68, 60]), (21, [(some 4, 0), (some 18, 0)], [67, 59]), (21, [(some 4, 0), (some 14, 0)], [66, 58]), (2, [(some 4, 0), (none, 9)], []), (2, [(some 18, 0), (some 3, 0)], []), (186, [(some 4, 0)], [58, 15]), (186, [(some 4, 0)], [59, 16])], (186, [(some 4, 0)], [66, 15]))
set_option maxRecDepth 20000 in
theorem v_xf_keep_1_2 {PT : PTy} (hp : HP15 PT) : vcOk PT w_xf_keep_1_2 := vc_iv [(2, 0, 8), (3, 1, 10), (4, 0, 8), (5, 0, 6), (6, 0, 6), (14, 0, 23), (17, (-1), 2147483646), (18, 0, 9), (25, (-2147483648), 2147483647), (26, 0, 2147483647)] [7, 8, 10, 11, 12, 13, 15, 16, 19, 20, 21, 23, 24, 25, 58, 59, 60, 66, 67, 68, 71, 72, 73] (by decide +kernel) (fun ρ α => by
  intro r2 g2 b2 r3 g3 b3 r4 g4 b4 r5 g5 b5 r6 g6 b6 r14 g14 b14 r17 g17 b17 r18 g18 b18 r25 g25 b25 r26 g26 b26 a7 h7 a8 h8 a10 h10 a11 h11 a12 h12 a13 h13 a15 h15 a16 h16 a19 h19 a20 h20 a21 h21 a23 h23 a24 h24 a25 h25 a58 h58 a59 h59 a60 h60 a66 h66 a67 h67 a68 h68 a71 h71 a72 h72 a73 h73 f0 f1 f2 f3 f4 f5 f6 f7 f8 f9 f10 f11 tt
  have e92 : PT 92 = P_bits := pe92_15 hp
  have e148 : PT 148 = P_yx := pe148_15 hp
  have e160 : PT 160 = P_bc := pe160_15 hp
  have e186 : PT 186 = P_al := pe186_15 hp
  simp only [hF2, hF21, hFp_92, hFp_148, hFp_160, hFp_186, e92, e148, e160, e186, P_bits, P_yx, P_bc, P_al, den_s, den_c, Int.add_zero, List.map_cons, List.map_nil, g2.eq, g3.eq, g4.eq, g5.eq, g6.eq, g14.eq, g17.eq, g18.eq, g25.eq, g26.eq, h7, h8, h10, h11, h12, h13, h15, h16, h19, h20, h21, h23, h24, h25, h58, h59, h60, h66, h67, h68, h71, h72, h73] at f0 f1 f2 f3 f4 f5 f6 f7 f8 f9 f10 f11 ⊢
  clear g2 g3 g4 g5 g6 g14 g17 g18 g25 g26 h7 h8 h10 h11 h12 h13 h15 h16 h19 h20 h21 h23 h24 h25 h58 h59 h60 h66 h67 h68 h71 h72 h73 e92 e148 e160 e186 tt
  subst f5
  subst f6
  subst f7
  subst_vars
  first
    | exact fun i h1 h2 => (by first | rfl | trivial)
    | assumption
    | exact al_up (Int.le_refl _) (by assumption)
    | exact al_up (Int.le_refl _) (fun i h1 h2 => rfl)
    | exact al_tr (by assumption) (by assumption))
def w_xf_keep_1_3 : VC := (([(0, 23), (0, 49), (0, 8), (1, 10), (0, 8), (0, 6), (0, 6), (0, 8), (0, 9), (0, 49), (0, 49), ((-2147483648), 2147483647), ((-2147483648), 2147483647), (0, 5), (0, 23), (0, 1), ((-1), 9), ((-1), 2147483646), (0, 9), (0, 49), (0, 49), ((-2147483648), 2147483647), ((-2147483648), 2147483647), (0, 49), (0, 49), ((-2147483648), 2147483647), (0, 2147483647)]), [(2, [(none, 0), (some 4, 1)], []), (2, [(some 17, 0), (some 26, 0)], []), (160, [(some 26, 0), (some 25, 0)], []), (92, [(some 25, 0), (some 2, 0)], [71, 8]), (148, [(none, 23), (some 2, 0), (some 3, 0), (some 4, 1), (some 5, 0), (some 6, 0), (none, 0), (none, 0)], [7, 8, 10, 11, 12, 13, 66, 67, 19, 20, 21, 23, 24, 25, 71, 72, 73]), (21, [(some 4, 0), (none, 0)], [68, 60]), (21, [(some 4, 0), (some 18, 0)], [67, 59]), (21, [(some 4, 0), (some 14, 0)], [66, 58]), (2, [(some 4, 0), (none, 9)], []), (2, [(some 18, 0), (some 3, 0)], []), (186, [(some 4, 0)], [58, 15]), (186, [(some 4, 0)], [59, 16])], (186, [(some 4, 0)], [67, 16]))
set_option maxRecDepth 20000 in
theorem v_xf_keep_1_3 {PT : PTy} (hp : HP15 PT) : vcOk PT w_xf_keep_1_3 := vc_iv [(2, 0, 8), (3, 1, 10), (4, 0, 8), (5, 0, 6), (6, 0, 6), (14, 0, 23), (17, (-1), 2147483646), (18, 0, 9), (25, (-2147483648), 2147483647), (26, 0, 2147483647)] [7, 8, 10, 11, 12, 13, 15, 16, 19, 20, 21, 23, 24, 25, 58, 59, 60, 66, 67, 68, 71, 72, 73] (by decide +kernel) (fun ρ α => by
  intro r2 g2 b2 r3 g3 b3 r4 g4 b4 r5 g5 b5 r6 g6 b6 r14 g14 b14 r17 g17 b17 r18 g18 b18 r25 g25 b25 r26 g26 b26 a7 h7 a8 h8 a10 h10 a11 h11 a12 h12 a13 h13 a15 h15 a16 h16 a19 h19 a20 h20 a21 h21 a23 h23 a24 h24 a25 h25 a58 h58 a59 h59 a60 h60 a66 h66 a67 h67 a68 h68 a71 h71 a72 h72 a73 h73 f0 f1 f2 f3 f4 f5 f6 f7 f8 f9 f10 f11 tt
  have e92 : PT 92 = P_bits := pe92_15 hp
  have e148 : PT 148 = P_yx := pe148_15 hp
  have e160 : PT 160 = P_bc := pe160_15 hp
  have e186 : PT 186 = P_al := pe186_15 hp
  simp only [hF2, hF21, hFp_92, hFp_148, hFp_160, hFp_186, e92, e148, e160, e186, P_bits, P_yx, P_bc, P_al, den_s, den_c, Int.add_zero, List.map_cons, List.map_nil, g2.eq, g3.eq, g4.eq, g5.eq, g6.eq, g14.eq, g17.eq, g18.eq, g25.eq, g26.eq, h7, h8, h10, h11, h12, h13, h15, h16, h19, h20, h21, h23, h24, h25, h58, h59, h60, h66, h67, h68, h71, h72, h73] at f0 f1 f2 f3 f4 f5 f6 f7 f8 f9 f10 f11 ⊢
  clear g2 g3 g4 g5 g6 g14 g17 g18 g25 g26 h7 h8 h10 h11 h12 h13 h15 h16 h19 h20 h21 h23 h24 h25 h58 h59 h60 h66 h67 h68 h71 h72 h73 e92 e148 e160 e186 tt
  subst f5
  subst f6
  subst f7
  subst_vars
  first
    | exact fun i h1 h2 => (by first | rfl | trivial)
    | assumption
    | exact al_up (Int.le_refl _) (by assumption)
    | exact al_up (Int.le_refl _) (fun i h1 h2 => rfl)
    | exact al_tr (by assumption) (by assumption))
set_option maxRecDepth 1000000 in
theorem k_xf_keep {PT : PTy} (hp : HP15 PT) : wfX c_xf_keep = true ∧ xcOk PT c_xf_keep := xctr (xl (k_fittingBits14 hp.1.1.1.1.1.1.1.1.1.1.1) (xl (k_liveX hp.1.1.1.1) (xl (k_bitCount hp.1.1.1.1) (xl0)))) c_xf_keep 97 mX6_keep rfl h_xf_keep (by decide +kernel) (by decide +kernel) (by decide) (vcs_by [w_xf_keep_0_0, w_xf_keep_0_1, w_xf_keep_0_2, w_xf_keep_0_3, w_xf_keep_0_4, w_xf_keep_0_5, w_xf_keep_0_6, w_xf_keep_0_7, w_xf_keep_0_8, w_xf_keep_0_9] (by decide +kernel) (vc (v_xf_keep_0_0 hp) (vc (v_xf_keep_0_1 hp) (vc (v_xf_keep_0_2 hp) (vc (v_xf_keep_0_3 hp) (vc (v_xf_keep_0_4 hp) (vc (v_xf_keep_0_5 hp) (vc (v_xf_keep_0_6 hp) (vc (v_xf_keep_0_7 hp) (vc (v_xf_keep_0_8 hp) (vc (v_xf_keep_0_9 hp) vn))))))))))) (fmc (vcs_by [w_xf_keep_1_0, w_xf_keep_1_1, w_xf_keep_1_2, w_xf_keep_1_3] (by decide +kernel) (vc (v_xf_keep_1_0 hp) (vc (v_xf_keep_1_1 hp) (vc (v_xf_keep_1_2 hp) (vc (v_xf_keep_1_3 hp) vn))))) fmn)
def c_xf_due : XC := (63, 4, (bT ++ [((-2147483648), 2147483647), ((-2147483648), 2147483647)]), [.inr (.inl 0), .inl (some 14, 0), .inl (some 15, 0)], (gX 999), [], [((bT ++ [((-2147483648), 2147483647), ((-2147483648), 2147483647), ((-2147483648), 2147483647), (0, 49), (0, 49), ((-2147483648), 2147483647), ((-2147483648), 2147483647)]), some (.inl (some 16, 0)), (hst (gX 999) [(5, .inr (.inr (.inr (0, [.inr (.inl 6), .inr (.inl 9), .inr (.inl 14), .inr (.inl 18), .inr (.inl 22), .inr (.inl 26), .inr (.inl 27), .inr (.inl 28), .inr (.inl 29), .inr (.inl 30), .inl (some 17, 0), .inl (some 18, 0), .inl (some 19, 0), .inl (some 20, 0), .inr (.inl 999)]))))]), (ansT 58 [(13, 58), (26, 59), (27, 60), (28, 61), (29, 62), (30, 63)]), 64, [(27, [], [58, 13])])])
def h_xf_due : List XH := [(42, ([(0, 23), (0, 49), (0, 8), (1, 10), (0, 8), (0, 6), (0, 6), (0, 8), (0, 9), (0, 49), (0, 49), ((-2147483648), 2147483647), ((-2147483648), 2147483647), (0, 5), (0, 9), (0, 1), ((-1), 23), ((-1), 23), ((-2147483648), 2147483647), (0, 24), (0, 49), (0, 49), ((-2147483648), 2147483647), ((-2147483648), 2147483647)]), [some (.inr (.inl 0)), some (.inl (some 14, 0)), some (.inl (some 15, 0)), some (.inl (some 16, 0)), some (.inl (some 17, 0)), some (.inl (some 18, 0)), some (.inl (some 19, 0))], (hst (gX 999) [(5, .inr (.inr (.inr (0, [.inr (.inl 6), .inr (.inl 9), .inr (.inl 14), .inr (.inl 18), .inr (.inl 22), .inr (.inl 26), .inr (.inl 27), .inr (.inl 28), .inr (.inl 29), .inr (.inl 30), .inl (some 20, 0), .inl (some 21, 0), .inl (some 22, 0), .inl (some 23, 0), .inr (.inl 999)]))))]), (ansT 58 [(13, 58), (26, 59), (27, 60), (28, 61), (29, 62), (30, 63)]), 64, [(187, [(some 14, 0)], [58, 13]), (20, [(some 16, 0), (some 14, 0)], [13])], [(true, (none, 1)), (true, (some 19, 0))])]
def w_xf_due_0_0 : VC := ((bT ++ [((-2147483648), (-1)), ((-2147483648), 2147483647)]), [(0, [(none, 0), (none, 0)], []), (2, [(some 14, 0), (none, 0)], [])], (27, [], [13, 13]))
theorem v_xf_due_0_0 {PT : PTy} (_ : HP15 PT) : vcOk PT w_xf_due_0_0 := vc_of (fun ρ α _ _ => rfl)
def w_xf_due_0_1 : VC := ((bT ++ [(0, 2147483647), ((-2147483648), 2147483647)]), [(0, [(none, 0), (none, 0)], []), (3, [(some 14, 0), (some 3, 0)], []), (3, [(some 14, 0), (none, 0)], [])], (27, [], [13, 13]))
theorem v_xf_due_0_1 {PT : PTy} (_ : HP15 PT) : vcOk PT w_xf_due_0_1 := vc_of (fun ρ α _ _ => rfl)
def w_xf_due_0_2 : VC := (([(0, 23), (0, 49), (0, 8), (1, 10), (0, 8), (0, 6), (0, 6), (0, 8), (0, 9), (0, 49), (0, 49), ((-2147483648), 2147483647), ((-2147483648), 2147483647), (0, 5), (0, 9), ((-2147483648), (-1))]), [(0, [(none, 0), (none, 0)], []), (2, [(some 15, 0), (none, 0)], []), (1, [(none, 1), (none, 0)], []), (2, [(some 14, 0), (some 3, 0)], []), (3, [(some 14, 0), (none, 0)], [])], (27, [], [13, 13]))
theorem v_xf_due_0_2 {PT : PTy} (_ : HP15 PT) : vcOk PT w_xf_due_0_2 := vc_of (fun ρ α _ _ => rfl)
def w_xf_due_0_3 : VC := (([(0, 23), (0, 49), (0, 8), (1, 10), (0, 8), (0, 6), (0, 6), (0, 8), (0, 9), (0, 49), (0, 49), ((-2147483648), 2147483647), ((-2147483648), 2147483647), (0, 5), (0, 9), (2, 2147483647)]), [(0, [(none, 0), (none, 0)], []), (2, [(none, 1), (some 15, 0)], []), (3, [(some 15, 0), (none, 0)], []), (1, [(none, 1), (none, 0)], []), (2, [(some 14, 0), (some 3, 0)], []), (3, [(some 14, 0), (none, 0)], [])], (27, [], [13, 13]))
theorem v_xf_due_0_3 {PT : PTy} (_ : HP15 PT) : vcOk PT w_xf_due_0_3 := vc_of (fun ρ α _ _ => rfl)
def w_xf_due_0_4 : VC := (([(0, 23), (0, 49), (0, 8), (1, 10), (0, 8), (0, 6), (0, 6), (0, 8), (0, 9), (0, 49), (0, 49), ((-2147483648), 2147483647), ((-2147483648), 2147483647), (0, 5), (0, 9), (0, 1), ((-1), 23)]), [(20, [(some 16, 0), (some 14, 0)], [13]), (1, [(none, 1), (none, 0)], []), (3, [(none, 1), (some 15, 0)], []), (3, [(some 15, 0), (none, 0)], []), (1, [(none, 1), (none, 0)], []), (2, [(some 14, 0), (some 3, 0)], []), (3, [(some 14, 0), (none, 0)], [])], (187, [(some 14, 0)], [13, 13]))
theorem pe187_15 {PT : PTy} (hp : HP15 PT) : PT 187 = P_bu := hp.1.1.2.2.2.2.2.2.2.2.1
set_option maxRecDepth 20000 in
theorem v_xf_due_0_4 {PT : PTy} (hp : HP15 PT) : vcOk PT w_xf_due_0_4 := vc_iv [(3, 1, 10), (14, 0, 9), (15, 0, 1), (16, (-1), 23)] [13] (by decide +kernel) (fun ρ α => by
  intro r3 g3 b3 r14 g14 b14 r15 g15 b15 r16 g16 b16 a13 h13 f0 f1 f2 f3 f4 f5 f6 tt
  have e187 : PT 187 = P_bu := pe187_15 hp
  simp only [hF1, hF2, hF3, hF20, hFp_187, e187, P_bu, den_s, den_c, Int.add_zero, List.map_cons, List.map_nil, g3.eq, g14.eq, g15.eq, g16.eq, h13] at f0 f1 f2 f3 f4 f5 f6 ⊢
  clear g3 g14 g15 g16 h13 e187 tt
  subst f0
  subst_vars
  first
    | exact fun i h => (by first | rfl | trivial)
    | assumption
    | exact bu_up (by assumption)
    | exact bu_up (fun i h => rfl))
def w_xf_due_1_0 : VC := (([(0, 23), (0, 49), (0, 8), (1, 10), (0, 8), (0, 6), (0, 6), (0, 8), (0, 9), (0, 49), (0, 49), ((-2147483648), 2147483647), ((-2147483648), 2147483647), (0, 5), (0, 9), (1, 1), ((-1), 23), ((-1), 23), ((-2147483648), 2147483647), (24, 24), (0, 49), (0, 49), ((-2147483648), 2147483647), ((-2147483648), 2147483647)]), [(1, [(some 15, 0), (none, 0)], []), (21, [(some 14, 0), (some 16, 0)], [64, 58]), (3, [(some 19, 0), (none, 24)], []), (187, [(some 14, 0)], [58, 13]), (20, [(some 16, 0), (some 14, 0)], [13])], (27, [], [64, 13]))
set_option maxRecDepth 20000 in
theorem v_xf_due_1_0 {PT : PTy} (hp : HP15 PT) : vcOk PT w_xf_due_1_0 := vc_iv [(14, 0, 9), (15, 1, 1), (16, (-1), 23), (19, 24, 24)] [13, 58, 64] (by decide +kernel) (fun ρ α => by
  intro r14 g14 b14 r15 g15 b15 r16 g16 b16 r19 g19 b19 a13 h13 a58 h58 a64 h64 f0 f1 f2 f3 f4 tt
  have e187 : PT 187 = P_bu := pe187_15 hp
  simp only [hF1, hF3, hF20, hF21, hF27, hFp_187, e187, P_bu, den_s, den_c, Int.add_zero, List.map_cons, List.map_nil, g14.eq, g15.eq, g16.eq, g19.eq, h13, h58, h64] at f0 f1 f2 f3 f4 ⊢
  clear g14 g15 g16 g19 h13 h58 h64 e187 tt
  subst f1
  subst f4
  subst_vars
  first
    | rfl
    | assumption
    | exact upd_bk (by assumption))
def w_xf_due_1_1 : VC := (([(0, 23), (0, 49), (0, 8), (1, 10), (0, 8), (0, 6), (0, 6), (0, 8), (0, 9), (0, 49), (0, 49), ((-2147483648), 2147483647), ((-2147483648), 2147483647), (0, 5), (0, 9), (0, 0), ((-1), 23), ((-1), 23), ((-2147483648), 2147483647), (24, 24), (0, 49), (0, 49), ((-2147483648), 2147483647), ((-2147483648), 2147483647)]), [(0, [(some 15, 0), (none, 0)], []), (21, [(some 14, 0), (some 16, 0)], [64, 58]), (3, [(some 19, 0), (none, 24)], []), (187, [(some 14, 0)], [58, 13]), (20, [(some 16, 0), (some 14, 0)], [13])], (27, [], [64, 13]))
set_option maxRecDepth 20000 in
theorem v_xf_due_1_1 {PT : PTy} (hp : HP15 PT) : vcOk PT w_xf_due_1_1 := vc_iv [(14, 0, 9), (15, 0, 0), (16, (-1), 23), (19, 24, 24)] [13, 58, 64] (by decide +kernel) (fun ρ α => by
  intro r14 g14 b14 r15 g15 b15 r16 g16 b16 r19 g19 b19 a13 h13 a58 h58 a64 h64 f0 f1 f2 f3 f4 tt
  have e187 : PT 187 = P_bu := pe187_15 hp
  simp only [hF0, hF3, hF20, hF21, hF27, hFp_187, e187, P_bu, den_s, den_c, Int.add_zero, List.map_cons, List.map_nil, g14.eq, g15.eq, g16.eq, g19.eq, h13, h58, h64] at f0 f1 f2 f3 f4 ⊢
  clear g14 g15 g16 g19 h13 h58 h64 e187 tt
  subst f1
  subst f4
  subst_vars
  first
    | rfl
    | assumption
    | exact upd_bk (by assumption))
def w_xf_due_1_2 : VC := (([(0, 23), (0, 49), (0, 8), (1, 10), (0, 8), (0, 6), (0, 6), (0, 8), (0, 9), (0, 49), (0, 49), ((-2147483648), 2147483647), ((-2147483648), 2147483647), (0, 5), (0, 9), (0, 1), ((-1), 23), ((-1), 23), ((-2147483648), 2147483647), (0, 23), (0, 49), (0, 49), ((-2147483648), 2147483647), ((-2147483648), 2147483647), (0, 49), (0, 49), ((-2147483648), 2147483647)]), [(3, [(some 26, 0), (some 18, 0)], []), (94, [(some 26, 0), (some 2, 0)], [68]), (148, [(none, 23), (some 2, 0), (some 3, 0), (some 4, 0), (some 5, 0), (some 6, 0), (none, 0), (none, 0)], [7, 8, 10, 11, 12, 64, 15, 16, 19, 20, 21, 23, 24, 25, 67, 68, 69]), (21, [(some 14, 0), (some 19, 0)], [64, 58]), (2, [(some 19, 0), (none, 24)], []), (187, [(some 14, 0)], [58, 13]), (20, [(some 16, 0), (some 14, 0)], [13])], (187, [(some 14, 0)], [64, 13]))
theorem pe94_15 {PT : PTy} (hp : HP15 PT) : PT 94 = P_rps := hp.1.1.1.1.1.1.1.1.1.1.1.2.2.2.1
set_option maxRecDepth 20000 in
theorem v_xf_due_1_2 {PT : PTy} (hp : HP15 PT) : vcOk PT w_xf_due_1_2 := vc_iv [(2, 0, 8), (3, 1, 10), (4, 0, 8), (5, 0, 6), (6, 0, 6), (14, 0, 9), (16, (-1), 23), (18, (-2147483648), 2147483647), (19, 0, 23), (26, (-2147483648), 2147483647)] [7, 8, 10, 11, 12, 13, 15, 16, 19, 20, 21, 23, 24, 25, 58, 64, 67, 68, 69] (by decide +kernel) (fun ρ α => by
  intro r2 g2 b2 r3 g3 b3 r4 g4 b4 r5 g5 b5 r6 g6 b6 r14 g14 b14 r16 g16 b16 r18 g18 b18 r19 g19 b19 r26 g26 b26 a7 h7 a8 h8 a10 h10 a11 h11 a12 h12 a13 h13 a15 h15 a16 h16 a19 h19 a20 h20 a21 h21 a23 h23 a24 h24 a25 h25 a58 h58 a64 h64 a67 h67 a68 h68 a69 h69 f0 f1 f2 f3 f4 f5 f6 tt
  have e94 : PT 94 = P_rps := pe94_15 hp
  have e148 : PT 148 = P_yx := pe148_15 hp
  have e187 : PT 187 = P_bu := pe187_15 hp
  simp only [hF2, hF3, hF20, hF21, hFp_94, hFp_148, hFp_187, e94, e148, e187, P_rps, P_yx, P_bu, den_s, den_c, Int.add_zero, List.map_cons, List.map_nil, g2.eq, g3.eq, g4.eq, g5.eq, g6.eq, g14.eq, g16.eq, g18.eq, g19.eq, g26.eq, h7, h8, h10, h11, h12, h13, h15, h16, h19, h20, h21, h23, h24, h25, h58, h64, h67, h68, h69] at f0 f1 f2 f3 f4 f5 f6 ⊢
  clear g2 g3 g4 g5 g6 g14 g16 g18 g19 g26 h7 h8 h10 h11 h12 h13 h15 h16 h19 h20 h21 h23 h24 h25 h58 h64 h67 h68 h69 e94 e148 e187 tt
  subst f3
  subst f6
  subst_vars
  first
    | exact fun i h => (by first | rfl | trivial)
    | assumption
    | exact bu_up (by assumption)
    | exact bu_up (fun i h => rfl))
def w_xf_due_1_3 : VC := (([(0, 23), (0, 49), (0, 8), (1, 10), (0, 8), (0, 6), (0, 6), (0, 8), (0, 9), (0, 49), (0, 49), ((-2147483648), 2147483647), ((-2147483648), 2147483647), (0, 5), (0, 9), (0, 1), ((-1), 23), ((-1), 23), ((-2147483647), 2147483647), (0, 23), (0, 49), (0, 49), ((-2147483648), 2147483647), ((-2147483648), 2147483647), (0, 49), (0, 49), ((-2147483648), 2147483646), ((-2147483648), 2147483647)]), [(94, [(some 27, 0), (some 2, 0)], [68]), (2, [(some 26, 0), (some 18, 0)], []), (94, [(some 26, 0), (some 2, 0)], [68]), (148, [(none, 23), (some 2, 0), (some 3, 0), (some 4, 0), (some 5, 0), (some 6, 0), (none, 0), (none, 0)], [7, 8, 10, 11, 12, 64, 15, 16, 19, 20, 21, 23, 24, 25, 67, 68, 69]), (21, [(some 14, 0), (some 19, 0)], [64, 58]), (2, [(some 19, 0), (none, 24)], []), (187, [(some 14, 0)], [58, 13]), (20, [(some 16, 0), (some 14, 0)], [13])], (187, [(some 14, 0)], [64, 13]))
set_option maxRecDepth 20000 in
theorem v_xf_due_1_3 {PT : PTy} (hp : HP15 PT) : vcOk PT w_xf_due_1_3 := vc_iv [(2, 0, 8), (3, 1, 10), (4, 0, 8), (5, 0, 6), (6, 0, 6), (14, 0, 9), (16, (-1), 23), (18, (-2147483647), 2147483647), (19, 0, 23), (26, (-2147483648), 2147483646), (27, (-2147483648), 2147483647)] [7, 8, 10, 11, 12, 13, 15, 16, 19, 20, 21, 23, 24, 25, 58, 64, 67, 68, 69] (by decide +kernel) (fun ρ α => by
  intro r2 g2 b2 r3 g3 b3 r4 g4 b4 r5 g5 b5 r6 g6 b6 r14 g14 b14 r16 g16 b16 r18 g18 b18 r19 g19 b19 r26 g26 b26 r27 g27 b27 a7 h7 a8 h8 a10 h10 a11 h11 a12 h12 a13 h13 a15 h15 a16 h16 a19 h19 a20 h20 a21 h21 a23 h23 a24 h24 a25 h25 a58 h58 a64 h64 a67 h67 a68 h68 a69 h69 f0 f1 f2 f3 f4 f5 f6 f7 tt
  have e94 : PT 94 = P_rps := pe94_15 hp
  have e148 : PT 148 = P_yx := pe148_15 hp
  have e187 : PT 187 = P_bu := pe187_15 hp
  simp only [hF2, hF20, hF21, hFp_94, hFp_148, hFp_187, e94, e148, e187, P_rps, P_yx, P_bu, den_s, den_c, Int.add_zero, List.map_cons, List.map_nil, g2.eq, g3.eq, g4.eq, g5.eq, g6.eq, g14.eq, g16.eq, g18.eq, g19.eq, g26.eq, g27.eq, h7, h8, h10, h11, h12, h13, h15, h16, h19, h20, h21, h23, h24, h25, h58, h64, h67, h68, h69] at f0 f1 f2 f3 f4 f5 f6 f7 ⊢
  clear g2 g3 g4 g5 g6 g14 g16 g18 g19 g26 g27 h7 h8 h10 h11 h12 h13 h15 h16 h19 h20 h21 h23 h24 h25 h58 h64 h67 h68 h69 e94 e148 e187 tt
  subst f4
  subst f7
  subst_vars
  first
    | exact fun i h => (by first | rfl | trivial)
    | assumption
    | exact bu_up (by assumption)
    | exact bu_up (fun i h => rfl))
set_option maxRecDepth 1000000 in
theorem k_xf_due {PT : PTy} (hp : HP15 PT) : wfX c_xf_due = true ∧ xcOk PT c_xf_due := xctr (xl (k_allRips14 hp.1.1.1.1.1.1.1.1.1.1.1) (xl (k_liveX hp.1.1.1.1) (xl0))) c_xf_due 59 mX6_due rfl h_xf_due (by decide +kernel) (by decide +kernel) (by decide) (vcs_by [w_xf_due_0_0, w_xf_due_0_1, w_xf_due_0_2, w_xf_due_0_3, w_xf_due_0_4] (by decide +kernel) (vc (v_xf_due_0_0 hp) (vc (v_xf_due_0_1 hp) (vc (v_xf_due_0_2 hp) (vc (v_xf_due_0_3 hp) (vc (v_xf_due_0_4 hp) vn)))))) (fmc (vcs_by [w_xf_due_1_0, w_xf_due_1_1, w_xf_due_1_2, w_xf_due_1_3] (by decide +kernel) (vc (v_xf_due_1_0 hp) (vc (v_xf_due_1_1 hp) (vc (v_xf_due_1_2 hp) (vc (v_xf_due_1_3 hp) vn))))) fmn)
def c_au_X6_leavesNobodyNaked_0 : XC := (91, 3, (bT ++ [((-2147483648), 2147483647)]), [.inr (.inl 0), .inl (some 14, 0)], (gX 14), [(87, [(some 9, 0)], [26, 27])], [((bT ++ [((-2147483648), 2147483647), (0, 1), (0, 49)]), some (.inl (some 15, 0)), (hst (gX 14) [(5, .inr (.inr (.inr (0, [.inr (.inl 6), .inr (.inl 9), .inr (.inl 14), .inr (.inl 18), .inr (.inl 22), .inr (.inl 26), .inr (.inl 27), .inr (.inl 28), .inr (.inl 29), .inr (.inl 30), .inl (some 9, 0), .inl (some 16, 0), .inl (some 11, 0), .inl (some 14, 0), .inr (.inl 14)]))))]), (ansT 58 [(28, 58), (29, 59), (30, 60)]), 61, [])])
def h_au_X6_leavesNobodyNaked_0 : List XH := []
set_option maxRecDepth 1000000 in
theorem k_au_X6_leavesNobodyNaked_0 {PT : PTy} (hp : HP15 PT) : wfX c_au_X6_leavesNobodyNaked_0 = true ∧ xcOk PT c_au_X6_leavesNobodyNaked_0 := xctr (xl (k_begin14 hp.1.1.1.1.1.1.1.1.1.1.1) (xl (k_advance14 hp.1.1.1.1.1.1.1.1.1.1.1) (xl (k_nakedBits14 hp.1.1.1.1.1.1.1.1.1.1.1) (xl0)))) c_au_X6_leavesNobodyNaked_0 38 mX6_leavesNobodyNaked rfl h_au_X6_leavesNobodyNaked_0 (by decide +kernel) (by decide +kernel) (by decide) (vcs_by [] (by decide +kernel) vn) fmn
def c_au_X6_liesToHush_0 : XC := (90, 4, (bT), [.inr (.inl 0)], (gX 999), [], [((bT ++ [((-2147483648), 2147483647), (0, 49), (0, 49), ((-2147483648), 2147483647)]), some (.inl (some 14, 0)), (hst (gX 14) [(5, .inr (.inr (.inr (0, [.inr (.inl 6), .inr (.inl 9), .inr (.inl 14), .inr (.inl 18), .inr (.inl 22), .inr (.inl 26), .inr (.inl 27), .inr (.inl 28), .inr (.inl 29), .inr (.inl 30), .inl (some 15, 0), .inl (some 16, 0), .inl (none, 0), .inl (some 17, 0), .inr (.inl 14)]))))]), (ansT 58 [(26, 58), (27, 59), (28, 60), (29, 61), (30, 62)]), 63, [])])
def h_au_X6_liesToHush_0 : List XH := [(23, (bT ++ [(0, 6), (0, 49), (0, 49), ((-2147483648), 2147483647)]), [some (.inr (.inl 0)), some (.inl (some 14, 0)), none], (hst (gX 14) [(5, .inr (.inr (.inr (0, [.inr (.inl 6), .inr (.inl 9), .inr (.inl 14), .inr (.inl 18), .inr (.inl 22), .inr (.inl 26), .inr (.inl 27), .inr (.inl 28), .inr (.inl 29), .inr (.inl 30), .inl (some 15, 0), .inl (some 16, 0), .inl (none, 0), .inl (some 17, 0), .inr (.inl 14)]))))]), (ansT 58 [(26, 58), (27, 59), (28, 60), (29, 61), (30, 62)]), 63, [(87, [(some 15, 0)], [58, 59])], [(true, (none, 1)), (true, (some 14, 0)), (true, (none, 0)), (true, (none, 0))]),
  (56, (bT ++ [(0, 6), (0, 49), (0, 49), ((-2147483648), 2147483647)]), [some (.inr (.inl 0)), some (.inl (some 14, 0)), none], (hst (gX 14) [(5, .inr (.inr (.inr (0, [.inr (.inl 6), .inr (.inl 9), .inr (.inl 14), .inr (.inl 18), .inr (.inl 22), .inr (.inl 26), .inr (.inl 27), .inr (.inl 28), .inr (.inl 29), .inr (.inl 30), .inl (some 15, 0), .inl (some 16, 0), .inl (none, 0), .inl (some 17, 0), .inr (.inl 14)]))))]), (ansT 58 [(26, 58), (27, 59), (28, 60), (29, 61), (30, 62)]), 63, [(87, [(some 15, 0)], [58, 59])], [(true, (none, 2)), (true, (some 14, 0)), (true, (none, 0)), (true, (none, 0))]),
  (71, ([(0, 23), (0, 49), (0, 8), (0, 10), (0, 8), (1, 6), (0, 6), (0, 8), (0, 9), (0, 49), (0, 49), ((-2147483648), 2147483647), ((-2147483648), 2147483647), (0, 5), (0, 5), (1, 6), (0, 49), (0, 49), ((-2147483648), 2147483647)]), [some (.inr (.inl 0)), some (.inl (some 14, 0)), some (.inl (some 15, 0))], (hst (gX 14) [(5, .inr (.inr (.inr (0, [.inr (.inl 6), .inr (.inl 9), .inr (.inl 14), .inr (.inl 18), .inr (.inl 22), .inr (.inl 26), .inr (.inl 27), .inr (.inl 28), .inr (.inl 29), .inr (.inl 30), .inl (some 16, 0), .inl (some 17, 0), .inl (none, 0), .inl (some 18, 0), .inr (.inl 14)]))))]), (ansT 58 [(26, 58), (27, 59), (28, 60), (29, 61), (30, 62)]), 63, [(87, [(some 16, 0)], [58, 59])], [(true, (none, 2)), (true, (some 14, 0)), (true, (none, 1)), (true, (some 15, 0))])]
def w_au_X6_liesToHush_0_0_0 : VC := ((bT ++ [(0, 49)]), [(86, [(some 2, 0), (some 3, 0), (some 4, 0), (some 5, 0), (some 6, 0), (some 14, 0)], [58, 59, 10, 12, 13, 15, 16, 19, 20, 23, 24])], (87, [(some 14, 0)], [58, 59]))
set_option maxRecDepth 20000 in
theorem v_au_X6_liesToHush_0_0_0 {PT : PTy} (hp : HP15 PT) : vcOk PT w_au_X6_liesToHush_0_0_0 := vc_in [(2, 0, 8), (3, 0, 10), (4, 0, 8), (5, 0, 6), (6, 0, 6), (14, 0, 49)] (by decide +kernel) (fun ρ α => by
  intro b2 b3 b4 b5 b6 b14 f0 tt
  have e86 : PT 86 = P_arr := pe86_15 hp
  have e87 : PT 87 = P_pr := pe87_15 hp
  simp only [hFp_86, hFp_87, e86, e87, P_arr, P_pr, den_s, den_c, Int.add_zero, List.map_cons, List.map_nil] at f0 ⊢
  exact (f0).1)
def w_au_X6_liesToHush_0_0_1 : VC := ((bT ++ [(0, 49), (0, 0), (0, 49)]), [(0, [(some 15, 0), (none, 0)], []), (86, [(some 2, 0), (some 3, 0), (some 4, 0), (some 5, 0), (some 6, 0), (some 14, 0)], [58, 59, 10, 12, 13, 15, 16, 19, 20, 23, 24])], (87, [(some 14, 0)], [58, 59]))
set_option maxRecDepth 20000 in
theorem v_au_X6_liesToHush_0_0_1 {PT : PTy} (hp : HP15 PT) : vcOk PT w_au_X6_liesToHush_0_0_1 := vc_in [(2, 0, 8), (3, 0, 10), (4, 0, 8), (5, 0, 6), (6, 0, 6), (14, 0, 49), (15, 0, 0)] (by decide +kernel) (fun ρ α => by
  intro b2 b3 b4 b5 b6 b14 b15 f0 f1 tt
  have e86 : PT 86 = P_arr := pe86_15 hp
  have e87 : PT 87 = P_pr := pe87_15 hp
  simp only [hF0, hFp_86, hFp_87, e86, e87, P_arr, P_pr, den_s, den_c, Int.add_zero, List.map_cons, List.map_nil] at f0 f1 ⊢
  exact (f1).1)
set_option maxRecDepth 1000000 in
theorem k_au_X6_liesToHush_0 {PT : PTy} (hp : HP15 PT) : wfX c_au_X6_liesToHush_0 = true ∧ xcOk PT c_au_X6_liesToHush_0 := xctr (xl (k_arrange14 hp.1.1.1.1.1.1.1.1.1.1.1.1) (xl (k_au_X6_leavesNobodyNaked_0 hp) (xl0))) c_au_X6_liesToHush_0 43 mX6_liesToHush rfl h_au_X6_liesToHush_0 (by decide +kernel) (by decide +kernel) (by decide) (vcs_by [w_au_X6_liesToHush_0_0_0, w_au_X6_liesToHush_0_0_1] (by decide +kernel) (vc (v_au_X6_liesToHush_0_0_0 hp) (vc (v_au_X6_liesToHush_0_0_1 hp) vn))) (fmc (vcs_by [] (by decide +kernel) vn) (fmc (vcs_by [] (by decide +kernel) vn) (fmc (vcs_by [] (by decide +kernel) vn) fmn)))
def c_xf_hush : XC := (64, 5, (bT ++ [((-2147483648), 2147483647)]), [.inr (.inl 0), .inl (some 14, 0)], (gX 999), [], [((bT ++ [((-2147483648), 2147483647), ((-2147483648), 2147483647), (0, 49), (0, 49), ((-2147483648), 2147483647), ((-2147483648), 2147483647)]), some (.inl (some 15, 0)), (hst (gX 999) [(5, .inr (.inr (.inr (0, [.inr (.inl 6), .inr (.inl 9), .inr (.inl 14), .inr (.inl 18), .inr (.inl 22), .inr (.inl 26), .inr (.inl 27), .inr (.inl 28), .inr (.inl 29), .inr (.inl 30), .inl (some 16, 0), .inl (some 17, 0), .inl (some 18, 0), .inl (some 19, 0), .inr (.inl 999)]))))]), (ansT 58 [(26, 58), (27, 59), (28, 60), (29, 61), (30, 62)]), 63, [])])
def h_xf_hush : List XH := []
set_option maxRecDepth 1000000 in
theorem k_xf_hush {PT : PTy} (hp : HP15 PT) : wfX c_xf_hush = true ∧ xcOk PT c_xf_hush := xctr (xl (k_bitCount hp.1.1.1.1) (xl (k_au_X6_liesToHush_0 hp) (xl0))) c_xf_hush 102 mX6_hush rfl h_xf_hush (by decide +kernel) (by decide +kernel) (by decide) (vcs_by [] (by decide +kernel) vn) fmn
def c_au_X0_showsAll_0 : XC := (15, 3, (bX), [.inr (.inl 5), .inr (.inl 31)], (gX 14), [(87, [(some 9, 0)], [26, 27])], [((bX ++ [(0, 1), (0, 49)]), some (.inl (some 14, 0)), (hst (gX 14) [(5, .inr (.inr (.inr (0, [.inr (.inl 6), .inr (.inl 9), .inr (.inl 14), .inr (.inl 18), .inr (.inl 22), .inr (.inl 26), .inr (.inl 27), .inr (.inl 28), .inr (.inl 29), .inr (.inl 30), .inl (some 9, 0), .inl (some 15, 0), .inl (some 11, 0), .inl (some 12, 0), .inr (.inl 14)]))))]), (ansT 58 [(28, 58), (29, 59), (30, 60)]), 61, [])])
def h_au_X0_showsAll_0 : List XH := [(6, (bX ++ [(0, 24), (0, 49)]), [some (.inr (.inl 5)), some (.inr (.inl 31)), some (.inl (some 14, 0))], (hst (gX 14) [(5, .inr (.inr (.inr (0, [.inr (.inl 6), .inr (.inl 9), .inr (.inl 14), .inr (.inl 18), .inr (.inl 22), .inr (.inl 26), .inr (.inl 27), .inr (.inl 28), .inr (.inl 29), .inr (.inl 30), .inl (some 9, 0), .inl (some 15, 0), .inl (some 11, 0), .inl (some 12, 0), .inr (.inl 14)]))))]), (ansT 58 [(28, 58), (29, 59), (30, 60)]), 61, [(87, [(some 9, 0)], [26, 27])], [(true, (none, 1)), (true, (some 14, 0))])]
set_option maxRecDepth 1000000 in
theorem k_au_X0_showsAll_0 {PT : PTy} (hp : HP15 PT) : wfX c_au_X0_showsAll_0 = true ∧ xcOk PT c_au_X0_showsAll_0 := xctr (xl (k_begin14 hp.1.1.1.1.1.1.1.1.1.1.1) (xl (k_advance14 hp.1.1.1.1.1.1.1.1.1.1.1) (xl (k_showsBehind hp) (xl0)))) c_au_X0_showsAll_0 34 mX0_showsAll rfl h_au_X0_showsAll_0 (by decide +kernel) (by decide +kernel) (by decide) (vcs_by [] (by decide +kernel) vn) (fmc (vcs_by [] (by decide +kernel) vn) fmn)
def c_xf_never : XC := (67, 4, (bT), [.inr (.inl 0)], (gX 999), [], [((bT ++ [((-2147483648), 2147483647), (0, 49), (0, 49), ((-2147483648), 2147483647)]), some (.inl (some 14, 0)), (hst (gX 14) [(5, .inr (.inr (.inr (0, [.inr (.inl 6), .inr (.inl 9), .inr (.inl 14), .inr (.inl 18), .inr (.inl 22), .inr (.inl 26), .inr (.inl 27), .inr (.inl 28), .inr (.inl 29), .inr (.inl 30), .inl (some 15, 0), .inl (some 16, 0), .inl (some 17, 0), .inl (none, 0), .inr (.inl 14)]))))]), (ansT 58 [(26, 58), (27, 59), (28, 60), (29, 61), (30, 62)]), 63, [])])
def h_xf_never : List XH := [(15, (bT ++ [((-2147483648), 2147483647), (0, 8), (0, 49), (0, 49), ((-2147483648), 2147483647)]), [some (.inr (.inl 0)), some (.inl (some 14, 0)), some (.inl (some 15, 0))], (hst (gX 14) [(5, .inr (.inr (.inr (0, [.inr (.inl 6), .inr (.inl 9), .inr (.inl 14), .inr (.inl 18), .inr (.inl 22), .inr (.inl 26), .inr (.inl 27), .inr (.inl 28), .inr (.inl 29), .inr (.inl 30), .inl (some 16, 0), .inl (some 17, 0), .inl (some 18, 0), .inl (none, 0), .inr (.inl 14)]))))]), (ansT 58 [(26, 58), (27, 59), (28, 60), (29, 61), (30, 62)]), 63, [(87, [(some 16, 0)], [58, 59])], [(true, (none, 1)), (true, (some 15, 0))])]
def w_xf_never_0_0 : VC := ((bT ++ [(0, 49)]), [(86, [(some 2, 0), (some 3, 0), (some 4, 0), (some 5, 0), (some 6, 0), (some 14, 0)], [58, 59, 10, 12, 13, 15, 16, 19, 20, 23, 24])], (87, [(some 14, 0)], [58, 59]))
set_option maxRecDepth 20000 in
theorem v_xf_never_0_0 {PT : PTy} (hp : HP15 PT) : vcOk PT w_xf_never_0_0 := vc_in [(2, 0, 8), (3, 0, 10), (4, 0, 8), (5, 0, 6), (6, 0, 6), (14, 0, 49)] (by decide +kernel) (fun ρ α => by
  intro b2 b3 b4 b5 b6 b14 f0 tt
  have e86 : PT 86 = P_arr := pe86_15 hp
  have e87 : PT 87 = P_pr := pe87_15 hp
  simp only [hFp_86, hFp_87, e86, e87, P_arr, P_pr, den_s, den_c, Int.add_zero, List.map_cons, List.map_nil] at f0 ⊢
  exact (f0).1)
set_option maxRecDepth 1000000 in
theorem k_xf_never {PT : PTy} (hp : HP15 PT) : wfX c_xf_never = true ∧ xcOk PT c_xf_never := xctr (xl (k_arrange14 hp.1.1.1.1.1.1.1.1.1.1.1.1) (xl (k_au_X0_showsAll_0 hp) (xl0))) c_xf_never 46 mX6_never rfl h_xf_never (by decide +kernel) (by decide +kernel) (by decide) (vcs_by [w_xf_never_0_0] (by decide +kernel) (vc (v_xf_never_0_0 hp) vn)) (fmc (vcs_by [] (by decide +kernel) vn) fmn)
def c_au_X6_fittingValues_0 : XC := (92, 4, (bT ++ [(0, 7)]), [.inr (.inl 0), .inr (.inl 7), .inl (some 14, 0), .inl (none, 3)], (gX 14), [(87, [(some 9, 0)], [26, 27])], [((bT ++ [(0, 7), ((-2147483648), 2147483647), (0, 49)]), some (.inl (some 15, 0)), (hst (gX 14) [(5, .inr (.inr (.inr (0, [.inr (.inl 6), .inr (.inl 9), .inr (.inl 14), .inr (.inl 18), .inr (.inl 22), .inr (.inl 26), .inr (.inl 27), .inr (.inl 28), .inr (.inl 29), .inr (.inl 30), .inl (some 9, 0), .inl (some 16, 0), .inl (some 11, 0), .inl (some 12, 0), .inr (.inl 14)]))))]), (ansT 58 [(7, 58), (28, 59), (29, 60), (30, 61)]), 62, [(27, [], [58, 7])])])
def h_au_X6_fittingValues_0 : List XH := [(11, (bT ++ [(0, 7), (0, 2), ((-2147483648), 2147483647), (0, 3), (0, 49)]), [some (.inr (.inl 0)), some (.inr (.inl 7)), some (.inl (some 14, 0)), some (.inl (none, 3)), some (.inl (some 15, 0)), some (.inl (some 16, 0)), some (.inl (some 17, 0))], (hst (gX 14) [(5, .inr (.inr (.inr (0, [.inr (.inl 6), .inr (.inl 9), .inr (.inl 14), .inr (.inl 18), .inr (.inl 22), .inr (.inl 26), .inr (.inl 27), .inr (.inl 28), .inr (.inl 29), .inr (.inl 30), .inl (some 9, 0), .inl (some 18, 0), .inl (some 11, 0), .inl (some 12, 0), .inr (.inl 14)]))))]), (ansT 58 [(7, 58), (28, 59), (29, 60), (30, 61)]), 62, [(87, [(some 9, 0)], [26, 27]), (187, [(some 14, 0)], [58, 7]), (20, [(some 15, 0), (some 14, 0)], [7])], [(true, (none, 1)), (true, (some 17, 0))])]
def w_au_X6_fittingValues_0_0_0 : VC := ((bT ++ [(0, 7), (0, 2)]), [(20, [(some 15, 0), (some 14, 0)], [7]), (87, [(some 9, 0)], [26, 27])], (187, [(some 14, 0)], [7, 7]))
set_option maxRecDepth 20000 in
theorem v_au_X6_fittingValues_0_0_0 {PT : PTy} (hp : HP15 PT) : vcOk PT w_au_X6_fittingValues_0_0_0 := vc_iv [(9, 0, 49), (14, 0, 7), (15, 0, 2)] [7, 26, 27] (by decide +kernel) (fun ρ α => by
  intro r9 g9 b9 r14 g14 b14 r15 g15 b15 a7 h7 a26 h26 a27 h27 f0 f1 tt
  have e87 : PT 87 = P_pr := pe87_15 hp
  have e187 : PT 187 = P_bu := pe187_15 hp
  simp only [hF20, hFp_87, hFp_187, e87, e187, P_pr, P_bu, den_s, den_c, Int.add_zero, List.map_cons, List.map_nil, g9.eq, g14.eq, g15.eq, h7, h26, h27] at f0 f1 ⊢
  clear g9 g14 g15 h7 h26 h27 e87 e187 tt
  subst f0
  subst_vars
  first
    | exact fun i h => (by first | rfl | trivial)
    | assumption
    | exact bu_up (by assumption)
    | exact bu_up (fun i h => rfl))
def w_au_X6_fittingValues_0_1_0 : VC := ((bT ++ [(0, 7), (0, 2), ((-2147483648), 2147483647), (3, 3), (0, 49)]), [(21, [(some 14, 0), (some 15, 0)], [62, 58]), (3, [(some 17, 0), (none, 3)], []), (87, [(some 9, 0)], [26, 27]), (187, [(some 14, 0)], [58, 7]), (20, [(some 15, 0), (some 14, 0)], [7]), (87, [(some 9, 0)], [26, 27])], (27, [], [62, 7]))
set_option maxRecDepth 20000 in
theorem v_au_X6_fittingValues_0_1_0 {PT : PTy} (hp : HP15 PT) : vcOk PT w_au_X6_fittingValues_0_1_0 := vc_iv [(9, 0, 49), (14, 0, 7), (15, 0, 2), (17, 3, 3)] [7, 26, 27, 58, 62] (by decide +kernel) (fun ρ α => by
  intro r9 g9 b9 r14 g14 b14 r15 g15 b15 r17 g17 b17 a7 h7 a26 h26 a27 h27 a58 h58 a62 h62 f0 f1 f2 f3 f4 f5 tt
  have e87 : PT 87 = P_pr := pe87_15 hp
  have e187 : PT 187 = P_bu := pe187_15 hp
  simp only [hF3, hF20, hF21, hF27, hFp_87, hFp_187, e87, e187, P_pr, P_bu, den_s, den_c, Int.add_zero, List.map_cons, List.map_nil, g9.eq, g14.eq, g15.eq, g17.eq, h7, h26, h27, h58, h62] at f0 f1 f2 f3 f4 f5 ⊢
  clear g9 g14 g15 g17 h7 h26 h27 h58 h62 e87 e187 tt
  subst f0
  subst f4
  subst_vars
  first
    | rfl
    | assumption
    | exact upd_bk (by assumption))
def w_au_X6_fittingValues_0_1_1 : VC := ((bT ++ [(0, 7), (0, 2), ((-2147483648), 2147483647), (0, 2), (0, 49), (0, 0), (0, 49)]), [(0, [(some 19, 0), (none, 0)], []), (21, [(some 14, 0), (some 17, 0)], [62, 58]), (2, [(some 17, 0), (none, 3)], []), (87, [(some 9, 0)], [26, 27]), (187, [(some 14, 0)], [58, 7]), (20, [(some 15, 0), (some 14, 0)], [7]), (87, [(some 9, 0)], [26, 27])], (187, [(some 14, 0)], [62, 7]))
set_option maxRecDepth 20000 in
theorem v_au_X6_fittingValues_0_1_1 {PT : PTy} (hp : HP15 PT) : vcOk PT w_au_X6_fittingValues_0_1_1 := vc_iv [(9, 0, 49), (14, 0, 7), (15, 0, 2), (17, 0, 2), (19, 0, 0)] [7, 26, 27, 58, 62] (by decide +kernel) (fun ρ α => by
  intro r9 g9 b9 r14 g14 b14 r15 g15 b15 r17 g17 b17 r19 g19 b19 a7 h7 a26 h26 a27 h27 a58 h58 a62 h62 f0 f1 f2 f3 f4 f5 f6 tt
  have e87 : PT 87 = P_pr := pe87_15 hp
  have e187 : PT 187 = P_bu := pe187_15 hp
  simp only [hF0, hF2, hF20, hF21, hFp_87, hFp_187, e87, e187, P_pr, P_bu, den_s, den_c, Int.add_zero, List.map_cons, List.map_nil, g9.eq, g14.eq, g15.eq, g17.eq, g19.eq, h7, h26, h27, h58, h62] at f0 f1 f2 f3 f4 f5 f6 ⊢
  clear g9 g14 g15 g17 g19 h7 h26 h27 h58 h62 e87 e187 tt
  subst f1
  subst f5
  subst_vars
  first
    | exact fun i h => (by first | rfl | trivial)
    | assumption
    | exact bu_up (by assumption)
    | exact bu_up (fun i h => rfl))
def w_au_X6_fittingValues_0_1_2 : VC := ((bT ++ [(0, 7), (0, 2), ((-2147483648), 2147483647), (0, 2), (0, 49), (1, 1), (0, 49), (1, 4), ((-2147483648), 2147483647)]), [(11, [(some 22, 0), (some 16, 0), (some 21, 0)], []), (13, [(some 21, 0), (none, 1), (some 17, 0)], []), (1, [(some 19, 0), (none, 0)], []), (21, [(some 14, 0), (some 17, 0)], [62, 58]), (2, [(some 17, 0), (none, 3)], []), (87, [(some 9, 0)], [26, 27]), (187, [(some 14, 0)], [58, 7]), (20, [(some 15, 0), (some 14, 0)], [7]), (87, [(some 9, 0)], [26, 27])], (187, [(some 14, 0)], [62, 7]))
set_option maxRecDepth 20000 in
theorem v_au_X6_fittingValues_0_1_2 {PT : PTy} (hp : HP15 PT) : vcOk PT w_au_X6_fittingValues_0_1_2 := vc_iv [(9, 0, 49), (14, 0, 7), (15, 0, 2), (16, (-2147483648), 2147483647), (17, 0, 2), (19, 1, 1), (21, 1, 4), (22, (-2147483648), 2147483647)] [7, 26, 27, 58, 62] (by decide +kernel) (fun ρ α => by
  intro r9 g9 b9 r14 g14 b14 r15 g15 b15 r16 g16 b16 r17 g17 b17 r19 g19 b19 r21 g21 b21 r22 g22 b22 a7 h7 a26 h26 a27 h27 a58 h58 a62 h62 f0 f1 f2 f3 f4 f5 f6 f7 f8 tt
  have e87 : PT 87 = P_pr := pe87_15 hp
  have e187 : PT 187 = P_bu := pe187_15 hp
  simp only [hF1, hF2, hF11, hF13, hF20, hF21, hFp_87, hFp_187, e87, e187, P_pr, P_bu, den_s, den_c, Int.add_zero, List.map_cons, List.map_nil, g9.eq, g14.eq, g15.eq, g16.eq, g17.eq, g19.eq, g21.eq, g22.eq, h7, h26, h27, h58, h62] at f0 f1 f2 f3 f4 f5 f6 f7 f8 ⊢
  clear g9 g14 g15 g16 g17 g19 g21 g22 h7 h26 h27 h58 h62 e87 e187 tt
  subst f0
  subst f1
  subst f3
  subst f7
  subst_vars
  first
    | exact fun i h => (by first | rfl | trivial)
    | assumption
    | exact bu_up (by assumption)
    | exact bu_up (fun i h => rfl))
set_option maxRecDepth 1000000 in
theorem k_au_X6_fittingValues_0 {PT : PTy} (hp : HP15 PT) : wfX c_au_X6_fittingValues_0 = true ∧ xcOk PT c_au_X6_fittingValues_0 := xctr (xl (k_au_X0_showsAll_0 hp) (xl0)) c_au_X6_fittingValues_0 42 mX6_fittingValues rfl h_au_X6_fittingValues_0 (by decide +kernel) (by decide +kernel) (by decide) (vcs_by [w_au_X6_fittingValues_0_0_0] (by decide +kernel) (vc (v_au_X6_fittingValues_0_0_0 hp) vn)) (fmc (vcs_by [w_au_X6_fittingValues_0_1_0, w_au_X6_fittingValues_0_1_1, w_au_X6_fittingValues_0_1_2] (by decide +kernel) (vc (v_au_X6_fittingValues_0_1_0 hp) (vc (v_au_X6_fittingValues_0_1_1 hp) (vc (v_au_X6_fittingValues_0_1_2 hp) vn)))) fmn)
def c_au_X6_fittingValues_1 : XC := (92, 4, (bT ++ [(0, 7)]), [.inr (.inl 0), .inr (.inl 8), .inl (some 14, 0), .inl (none, 10)], (gX 14), [(87, [(some 9, 0)], [26, 27])], [((bT ++ [(0, 7), ((-2147483648), 2147483647), (0, 49)]), some (.inl (some 15, 0)), (hst (gX 14) [(5, .inr (.inr (.inr (0, [.inr (.inl 6), .inr (.inl 9), .inr (.inl 14), .inr (.inl 18), .inr (.inl 22), .inr (.inl 26), .inr (.inl 27), .inr (.inl 28), .inr (.inl 29), .inr (.inl 30), .inl (some 9, 0), .inl (some 16, 0), .inl (some 11, 0), .inl (some 12, 0), .inr (.inl 14)]))))]), (ansT 58 [(8, 58), (28, 59), (29, 60), (30, 61)]), 62, [(27, [], [58, 8])])])
def h_au_X6_fittingValues_1 : List XH := [(11, (bT ++ [(0, 7), (0, 9), ((-2147483648), 2147483647), (0, 10), (0, 49)]), [some (.inr (.inl 0)), some (.inr (.inl 8)), some (.inl (some 14, 0)), some (.inl (none, 10)), some (.inl (some 15, 0)), some (.inl (some 16, 0)), some (.inl (some 17, 0))], (hst (gX 14) [(5, .inr (.inr (.inr (0, [.inr (.inl 6), .inr (.inl 9), .inr (.inl 14), .inr (.inl 18), .inr (.inl 22), .inr (.inl 26), .inr (.inl 27), .inr (.inl 28), .inr (.inl 29), .inr (.inl 30), .inl (some 9, 0), .inl (some 18, 0), .inl (some 11, 0), .inl (some 12, 0), .inr (.inl 14)]))))]), (ansT 58 [(8, 58), (28, 59), (29, 60), (30, 61)]), 62, [(87, [(some 9, 0)], [26, 27]), (187, [(some 14, 0)], [58, 8]), (20, [(some 15, 0), (some 14, 0)], [8])], [(true, (none, 1)), (true, (some 17, 0))])]
def w_au_X6_fittingValues_1_0_0 : VC := ((bT ++ [(0, 7), (0, 9)]), [(20, [(some 15, 0), (some 14, 0)], [8]), (87, [(some 9, 0)], [26, 27])], (187, [(some 14, 0)], [8, 8]))
set_option maxRecDepth 20000 in
theorem v_au_X6_fittingValues_1_0_0 {PT : PTy} (hp : HP15 PT) : vcOk PT w_au_X6_fittingValues_1_0_0 := vc_iv [(9, 0, 49), (14, 0, 7), (15, 0, 9)] [8, 26, 27] (by decide +kernel) (fun ρ α => by
  intro r9 g9 b9 r14 g14 b14 r15 g15 b15 a8 h8 a26 h26 a27 h27 f0 f1 tt
  have e87 : PT 87 = P_pr := pe87_15 hp
  have e187 : PT 187 = P_bu := pe187_15 hp
  simp only [hF20, hFp_87, hFp_187, e87, e187, P_pr, P_bu, den_s, den_c, Int.add_zero, List.map_cons, List.map_nil, g9.eq, g14.eq, g15.eq, h8, h26, h27] at f0 f1 ⊢
  clear g9 g14 g15 h8 h26 h27 e87 e187 tt
  subst f0
  subst_vars
  first
    | exact fun i h => (by first | rfl | trivial)
    | assumption
    | exact bu_up (by assumption)
    | exact bu_up (fun i h => rfl))
def w_au_X6_fittingValues_1_1_0 : VC := ((bT ++ [(0, 7), (0, 9), ((-2147483648), 2147483647), (10, 10), (0, 49)]), [(21, [(some 14, 0), (some 15, 0)], [62, 58]), (3, [(some 17, 0), (none, 10)], []), (87, [(some 9, 0)], [26, 27]), (187, [(some 14, 0)], [58, 8]), (20, [(some 15, 0), (some 14, 0)], [8]), (87, [(some 9, 0)], [26, 27])], (27, [], [62, 8]))
set_option maxRecDepth 20000 in
theorem v_au_X6_fittingValues_1_1_0 {PT : PTy} (hp : HP15 PT) : vcOk PT w_au_X6_fittingValues_1_1_0 := vc_iv [(9, 0, 49), (14, 0, 7), (15, 0, 9), (17, 10, 10)] [8, 26, 27, 58, 62] (by decide +kernel) (fun ρ α => by
  intro r9 g9 b9 r14 g14 b14 r15 g15 b15 r17 g17 b17 a8 h8 a26 h26 a27 h27 a58 h58 a62 h62 f0 f1 f2 f3 f4 f5 tt
  have e87 : PT 87 = P_pr := pe87_15 hp
  have e187 : PT 187 = P_bu := pe187_15 hp
  simp only [hF3, hF20, hF21, hF27, hFp_87, hFp_187, e87, e187, P_pr, P_bu, den_s, den_c, Int.add_zero, List.map_cons, List.map_nil, g9.eq, g14.eq, g15.eq, g17.eq, h8, h26, h27, h58, h62] at f0 f1 f2 f3 f4 f5 ⊢
  clear g9 g14 g15 g17 h8 h26 h27 h58 h62 e87 e187 tt
  subst f0
  subst f4
  subst_vars
  first
    | rfl
    | assumption
    | exact upd_bk (by assumption))
def w_au_X6_fittingValues_1_1_1 : VC := ((bT ++ [(0, 7), (0, 9), ((-2147483648), 2147483647), (0, 9), (0, 49), (0, 0), (0, 49)]), [(0, [(some 19, 0), (none, 0)], []), (21, [(some 14, 0), (some 17, 0)], [62, 58]), (2, [(some 17, 0), (none, 10)], []), (87, [(some 9, 0)], [26, 27]), (187, [(some 14, 0)], [58, 8]), (20, [(some 15, 0), (some 14, 0)], [8]), (87, [(some 9, 0)], [26, 27])], (187, [(some 14, 0)], [62, 8]))
set_option maxRecDepth 20000 in
theorem v_au_X6_fittingValues_1_1_1 {PT : PTy} (hp : HP15 PT) : vcOk PT w_au_X6_fittingValues_1_1_1 := vc_iv [(9, 0, 49), (14, 0, 7), (15, 0, 9), (17, 0, 9), (19, 0, 0)] [8, 26, 27, 58, 62] (by decide +kernel) (fun ρ α => by
  intro r9 g9 b9 r14 g14 b14 r15 g15 b15 r17 g17 b17 r19 g19 b19 a8 h8 a26 h26 a27 h27 a58 h58 a62 h62 f0 f1 f2 f3 f4 f5 f6 tt
  have e87 : PT 87 = P_pr := pe87_15 hp
  have e187 : PT 187 = P_bu := pe187_15 hp
  simp only [hF0, hF2, hF20, hF21, hFp_87, hFp_187, e87, e187, P_pr, P_bu, den_s, den_c, Int.add_zero, List.map_cons, List.map_nil, g9.eq, g14.eq, g15.eq, g17.eq, g19.eq, h8, h26, h27, h58, h62] at f0 f1 f2 f3 f4 f5 f6 ⊢
  clear g9 g14 g15 g17 g19 h8 h26 h27 h58 h62 e87 e187 tt
  subst f1
  subst f5
  subst_vars
  first
    | exact fun i h => (by first | rfl | trivial)
    | assumption
    | exact bu_up (by assumption)
    | exact bu_up (fun i h => rfl))
def w_au_X6_fittingValues_1_1_2 : VC := ((bT ++ [(0, 7), (0, 9), ((-2147483648), 2147483647), (0, 9), (0, 49), (1, 1), (0, 49), (1, 512), ((-2147483648), 2147483647)]), [(11, [(some 22, 0), (some 16, 0), (some 21, 0)], []), (13, [(some 21, 0), (none, 1), (some 17, 0)], []), (1, [(some 19, 0), (none, 0)], []), (21, [(some 14, 0), (some 17, 0)], [62, 58]), (2, [(some 17, 0), (none, 10)], []), (87, [(some 9, 0)], [26, 27]), (187, [(some 14, 0)], [58, 8]), (20, [(some 15, 0), (some 14, 0)], [8]), (87, [(some 9, 0)], [26, 27])], (187, [(some 14, 0)], [62, 8]))
set_option maxRecDepth 20000 in
theorem v_au_X6_fittingValues_1_1_2 {PT : PTy} (hp : HP15 PT) : vcOk PT w_au_X6_fittingValues_1_1_2 := vc_iv [(9, 0, 49), (14, 0, 7), (15, 0, 9), (16, (-2147483648), 2147483647), (17, 0, 9), (19, 1, 1), (21, 1, 512), (22, (-2147483648), 2147483647)] [8, 26, 27, 58, 62] (by decide +kernel) (fun ρ α => by
  intro r9 g9 b9 r14 g14 b14 r15 g15 b15 r16 g16 b16 r17 g17 b17 r19 g19 b19 r21 g21 b21 r22 g22 b22 a8 h8 a26 h26 a27 h27 a58 h58 a62 h62 f0 f1 f2 f3 f4 f5 f6 f7 f8 tt
  have e87 : PT 87 = P_pr := pe87_15 hp
  have e187 : PT 187 = P_bu := pe187_15 hp
  simp only [hF1, hF2, hF11, hF13, hF20, hF21, hFp_87, hFp_187, e87, e187, P_pr, P_bu, den_s, den_c, Int.add_zero, List.map_cons, List.map_nil, g9.eq, g14.eq, g15.eq, g16.eq, g17.eq, g19.eq, g21.eq, g22.eq, h8, h26, h27, h58, h62] at f0 f1 f2 f3 f4 f5 f6 f7 f8 ⊢
  clear g9 g14 g15 g16 g17 g19 g21 g22 h8 h26 h27 h58 h62 e87 e187 tt
  subst f0
  subst f1
  subst f3
  subst f7
  subst_vars
  first
    | exact fun i h => (by first | rfl | trivial)
    | assumption
    | exact bu_up (by assumption)
    | exact bu_up (fun i h => rfl))
set_option maxRecDepth 1000000 in
theorem k_au_X6_fittingValues_1 {PT : PTy} (hp : HP15 PT) : wfX c_au_X6_fittingValues_1 = true ∧ xcOk PT c_au_X6_fittingValues_1 := xctr (xl (k_au_X0_showsAll_0 hp) (xl0)) c_au_X6_fittingValues_1 42 mX6_fittingValues rfl h_au_X6_fittingValues_1 (by decide +kernel) (by decide +kernel) (by decide) (vcs_by [w_au_X6_fittingValues_1_0_0] (by decide +kernel) (vc (v_au_X6_fittingValues_1_0_0 hp) vn)) (fmc (vcs_by [w_au_X6_fittingValues_1_1_0, w_au_X6_fittingValues_1_1_1, w_au_X6_fittingValues_1_1_2] (by decide +kernel) (vc (v_au_X6_fittingValues_1_1_0 hp) (vc (v_au_X6_fittingValues_1_1_1 hp) (vc (v_au_X6_fittingValues_1_1_2 hp) vn)))) fmn)
def c_xf_was : XC := (68, 5, (bT ++ [((-2147483648), 2147483647), ((-2147483648), 2147483647)]), [.inr (.inl 0), .inl (some 14, 0), .inl (some 15, 0)], (gX 999), [], [((bT ++ [((-2147483648), 2147483647), ((-2147483648), 2147483647), ((-2147483648), 2147483647), (0, 49), (0, 49), ((-2147483648), 2147483647), ((-2147483648), 2147483647)]), some (.inl (some 16, 0)), (hst (gX 999) [(5, .inr (.inr (.inr (0, [.inr (.inl 6), .inr (.inl 9), .inr (.inl 14), .inr (.inl 18), .inr (.inl 22), .inr (.inl 26), .inr (.inl 27), .inr (.inl 28), .inr (.inl 29), .inr (.inl 30), .inl (some 17, 0), .inl (some 18, 0), .inl (some 19, 0), .inl (some 20, 0), .inr (.inl 999)]))))]), (ansT 58 [(7, 58), (8, 59), (26, 60), (27, 61), (28, 62), (29, 63), (30, 64)]), 65, [(27, [], [58, 7]), (27, [], [59, 8])])])
def h_xf_was : List XH := []
def w_xf_was_0_0 : VC := ((bT ++ [((-2147483648), (-1)), ((-2147483648), 2147483647)]), [(0, [(none, 0), (none, 0)], []), (2, [(some 14, 0), (none, 0)], [])], (27, [], [7, 7]))
theorem v_xf_was_0_0 {PT : PTy} (_ : HP15 PT) : vcOk PT w_xf_was_0_0 := vc_of (fun ρ α _ _ => rfl)
def w_xf_was_0_1 : VC := ((bT ++ [((-2147483648), (-1)), ((-2147483648), 2147483647)]), [(0, [(none, 0), (none, 0)], []), (2, [(some 14, 0), (none, 0)], [])], (27, [], [8, 8]))
theorem v_xf_was_0_1 {PT : PTy} (_ : HP15 PT) : vcOk PT w_xf_was_0_1 := vc_of (fun ρ α _ _ => rfl)
def w_xf_was_0_2 : VC := ((bT ++ [(0, 2147483647), ((-2147483648), 2147483647)]), [(0, [(none, 0), (none, 0)], []), (3, [(some 14, 0), (some 2, 0)], []), (3, [(some 14, 0), (none, 0)], [])], (27, [], [7, 7]))
theorem v_xf_was_0_2 {PT : PTy} (_ : HP15 PT) : vcOk PT w_xf_was_0_2 := vc_of (fun ρ α _ _ => rfl)
def w_xf_was_0_3 : VC := ((bT ++ [(0, 2147483647), ((-2147483648), 2147483647)]), [(0, [(none, 0), (none, 0)], []), (3, [(some 14, 0), (some 2, 0)], []), (3, [(some 14, 0), (none, 0)], [])], (27, [], [8, 8]))
theorem v_xf_was_0_3 {PT : PTy} (_ : HP15 PT) : vcOk PT w_xf_was_0_3 := vc_of (fun ρ α _ _ => rfl)
def w_xf_was_0_4 : VC := (([(0, 23), (0, 49), (1, 8), (0, 10), (0, 8), (0, 6), (0, 6), (0, 8), (0, 9), (0, 49), (0, 49), ((-2147483648), 2147483647), ((-2147483648), 2147483647), (0, 5), (0, 7), ((-2147483648), (-1))]), [(0, [(none, 0), (none, 0)], []), (2, [(some 15, 0), (none, 0)], []), (1, [(none, 1), (none, 0)], []), (2, [(some 14, 0), (some 2, 0)], []), (3, [(some 14, 0), (none, 0)], [])], (27, [], [7, 7]))
theorem v_xf_was_0_4 {PT : PTy} (_ : HP15 PT) : vcOk PT w_xf_was_0_4 := vc_of (fun ρ α _ _ => rfl)
def w_xf_was_0_5 : VC := (([(0, 23), (0, 49), (1, 8), (0, 10), (0, 8), (0, 6), (0, 6), (0, 8), (0, 9), (0, 49), (0, 49), ((-2147483648), 2147483647), ((-2147483648), 2147483647), (0, 5), (0, 7), ((-2147483648), (-1))]), [(0, [(none, 0), (none, 0)], []), (2, [(some 15, 0), (none, 0)], []), (1, [(none, 1), (none, 0)], []), (2, [(some 14, 0), (some 2, 0)], []), (3, [(some 14, 0), (none, 0)], [])], (27, [], [8, 8]))
theorem v_xf_was_0_5 {PT : PTy} (_ : HP15 PT) : vcOk PT w_xf_was_0_5 := vc_of (fun ρ α _ _ => rfl)
def w_xf_was_0_6 : VC := (([(0, 23), (0, 49), (1, 8), (0, 10), (0, 8), (0, 6), (0, 6), (0, 8), (0, 9), (0, 49), (0, 49), ((-2147483648), 2147483647), ((-2147483648), 2147483647), (0, 5), (0, 7), (2, 2147483647)]), [(0, [(none, 0), (none, 0)], []), (2, [(none, 1), (some 15, 0)], []), (3, [(some 15, 0), (none, 0)], []), (1, [(none, 1), (none, 0)], []), (2, [(some 14, 0), (some 2, 0)], []), (3, [(some 14, 0), (none, 0)], [])], (27, [], [7, 7]))
theorem v_xf_was_0_6 {PT : PTy} (_ : HP15 PT) : vcOk PT w_xf_was_0_6 := vc_of (fun ρ α _ _ => rfl)
def w_xf_was_0_7 : VC := (([(0, 23), (0, 49), (1, 8), (0, 10), (0, 8), (0, 6), (0, 6), (0, 8), (0, 9), (0, 49), (0, 49), ((-2147483648), 2147483647), ((-2147483648), 2147483647), (0, 5), (0, 7), (2, 2147483647)]), [(0, [(none, 0), (none, 0)], []), (2, [(none, 1), (some 15, 0)], []), (3, [(some 15, 0), (none, 0)], []), (1, [(none, 1), (none, 0)], []), (2, [(some 14, 0), (some 2, 0)], []), (3, [(some 14, 0), (none, 0)], [])], (27, [], [8, 8]))
theorem v_xf_was_0_7 {PT : PTy} (_ : HP15 PT) : vcOk PT w_xf_was_0_7 := vc_of (fun ρ α _ _ => rfl)
def w_xf_was_0_8 : VC := (([(0, 23), (0, 49), (1, 8), (0, 10), (0, 8), (0, 6), (0, 6), (0, 8), (0, 9), (0, 49), (0, 49), ((-2147483648), 2147483647), ((-2147483648), 2147483647), (0, 5), (0, 7), (1, 1), (0, 49)]), [(1, [(some 15, 0), (none, 0)], []), (86, [(some 2, 0), (some 3, 0), (some 4, 0), (some 5, 0), (some 6, 0), (some 16, 0)], [58, 59, 10, 12, 13, 15, 16, 19, 20, 23, 24]), (1, [(none, 1), (none, 0)], []), (3, [(none, 1), (some 15, 0)], []), (3, [(some 15, 0), (none, 0)], []), (1, [(none, 1), (none, 0)], []), (2, [(some 14, 0), (some 2, 0)], []), (3, [(some 14, 0), (none, 0)], [])], (87, [(some 16, 0)], [58, 59]))
set_option maxRecDepth 20000 in
theorem v_xf_was_0_8 {PT : PTy} (hp : HP15 PT) : vcOk PT w_xf_was_0_8 := vc_in [(2, 1, 8), (3, 0, 10), (4, 0, 8), (5, 0, 6), (6, 0, 6), (14, 0, 7), (16, 0, 49)] (by decide +kernel) (fun ρ α => by
  intro b2 b3 b4 b5 b6 b14 b16 f0 f1 f2 f3 f4 f5 f6 f7 tt
  clear f0 f2 f3 f4 f5 f7
  have e86 : PT 86 = P_arr := pe86_15 hp
  have e87 : PT 87 = P_pr := pe87_15 hp
  simp only [hF2, hFp_86, hFp_87, e86, e87, P_arr, P_pr, den_s, den_c, Int.add_zero, List.map_cons, List.map_nil] at f1 f6 ⊢
  exact (f1).1)
def w_xf_was_0_9 : VC := (([(0, 23), (0, 49), (1, 8), (0, 10), (0, 8), (0, 6), (0, 6), (0, 8), (0, 9), (0, 49), (0, 49), ((-2147483648), 2147483647), ((-2147483648), 2147483647), (0, 5), (0, 7), (1, 1), (0, 49), ((-2147483648), 2147483647), (0, 49)]), [(27, [], [60, 7]), (1, [(some 15, 0), (none, 0)], []), (86, [(some 2, 0), (some 3, 0), (some 4, 0), (some 5, 0), (some 6, 0), (some 16, 0)], [58, 59, 10, 12, 13, 15, 16, 19, 20, 23, 24]), (1, [(none, 1), (none, 0)], []), (3, [(none, 1), (some 15, 0)], []), (3, [(some 15, 0), (none, 0)], []), (1, [(none, 1), (none, 0)], []), (2, [(some 14, 0), (some 2, 0)], []), (3, [(some 14, 0), (none, 0)], [])], (27, [], [8, 8]))
theorem v_xf_was_0_9 {PT : PTy} (_ : HP15 PT) : vcOk PT w_xf_was_0_9 := vc_of (fun ρ α _ _ => rfl)
def w_xf_was_0_10 : VC := (([(0, 23), (0, 49), (1, 8), (0, 10), (0, 8), (0, 6), (0, 6), (0, 8), (0, 9), (0, 49), (0, 49), ((-2147483648), 2147483647), ((-2147483648), 2147483647), (0, 5), (0, 7), (0, 0), (0, 49)]), [(0, [(some 15, 0), (none, 0)], []), (86, [(some 2, 0), (some 3, 0), (some 4, 0), (some 5, 0), (some 6, 0), (some 16, 0)], [58, 59, 10, 12, 13, 15, 16, 19, 20, 23, 24]), (1, [(none, 1), (none, 0)], []), (3, [(none, 1), (some 15, 0)], []), (3, [(some 15, 0), (none, 0)], []), (1, [(none, 1), (none, 0)], []), (2, [(some 14, 0), (some 2, 0)], []), (3, [(some 14, 0), (none, 0)], [])], (87, [(some 16, 0)], [58, 59]))
set_option maxRecDepth 20000 in
theorem v_xf_was_0_10 {PT : PTy} (hp : HP15 PT) : vcOk PT w_xf_was_0_10 := vc_in [(2, 1, 8), (3, 0, 10), (4, 0, 8), (5, 0, 6), (6, 0, 6), (14, 0, 7), (15, 0, 0), (16, 0, 49)] (by decide +kernel) (fun ρ α => by
  intro b2 b3 b4 b5 b6 b14 b15 b16 f0 f1 f2 f3 f4 f5 f6 f7 tt
  clear f2 f3 f4 f5 f7
  have e86 : PT 86 = P_arr := pe86_15 hp
  have e87 : PT 87 = P_pr := pe87_15 hp
  simp only [hF0, hF2, hFp_86, hFp_87, e86, e87, P_arr, P_pr, den_s, den_c, Int.add_zero, List.map_cons, List.map_nil] at f0 f1 f6 ⊢
  exact (f1).1)
def w_xf_was_0_11 : VC := (([(0, 23), (0, 49), (1, 8), (0, 10), (0, 8), (0, 6), (0, 6), (0, 8), (0, 9), (0, 49), (0, 49), ((-2147483648), 2147483647), ((-2147483648), 2147483647), (0, 5), (0, 7), (0, 0), (0, 49), ((-2147483648), 2147483647), (0, 49)]), [(27, [], [60, 8]), (0, [(some 15, 0), (none, 0)], []), (86, [(some 2, 0), (some 3, 0), (some 4, 0), (some 5, 0), (some 6, 0), (some 16, 0)], [58, 59, 10, 12, 13, 15, 16, 19, 20, 23, 24]), (1, [(none, 1), (none, 0)], []), (3, [(none, 1), (some 15, 0)], []), (3, [(some 15, 0), (none, 0)], []), (1, [(none, 1), (none, 0)], []), (2, [(some 14, 0), (some 2, 0)], []), (3, [(some 14, 0), (none, 0)], [])], (27, [], [7, 7]))
theorem v_xf_was_0_11 {PT : PTy} (_ : HP15 PT) : vcOk PT w_xf_was_0_11 := vc_of (fun ρ α _ _ => rfl)
set_option maxRecDepth 1000000 in
theorem k_xf_was {PT : PTy} (hp : HP15 PT) : wfX c_xf_was = true ∧ xcOk PT c_xf_was := xctr (xl (k_arrange14 hp.1.1.1.1.1.1.1.1.1.1.1.1) (xl (k_au_X6_fittingValues_0 hp) (xl (k_au_X6_fittingValues_1 hp) (xl0)))) c_xf_was 62 mX6_was rfl h_xf_was (by decide +kernel) (by decide +kernel) (by decide) (vcs_by [w_xf_was_0_0, w_xf_was_0_1, w_xf_was_0_2, w_xf_was_0_3, w_xf_was_0_4, w_xf_was_0_5, w_xf_was_0_6, w_xf_was_0_7, w_xf_was_0_8, w_xf_was_0_9, w_xf_was_0_10, w_xf_was_0_11] (by decide +kernel) (vc (v_xf_was_0_0 hp) (vc (v_xf_was_0_1 hp) (vc (v_xf_was_0_2 hp) (vc (v_xf_was_0_3 hp) (vc (v_xf_was_0_4 hp) (vc (v_xf_was_0_5 hp) (vc (v_xf_was_0_6 hp) (vc (v_xf_was_0_7 hp) (vc (v_xf_was_0_8 hp) (vc (v_xf_was_0_9 hp) (vc (v_xf_was_0_10 hp) (vc (v_xf_was_0_11 hp) vn))))))))))))) fmn
def c_au_X6_noteCoatsBySize_0 : XC := (93, 3, (bT ++ [(0, 7)]), [.inr (.inl 0), .inl (some 14, 0)], (gX 14), [(87, [(some 9, 0)], [26, 27])], [((bT ++ [(0, 7), (0, 49)]), none, (hst (gX 14) [(5, .inr (.inr (.inr (0, [.inr (.inl 6), .inr (.inl 9), .inr (.inl 14), .inr (.inl 18), .inr (.inl 22), .inr (.inl 26), .inr (.inl 27), .inr (.inl 28), .inr (.inl 29), .inr (.inl 30), .inl (some 9, 0), .inl (some 15, 0), .inl (some 11, 0), .inl (some 12, 0), .inr (.inl 14)]))))]), [0, 1, 2, 3, 4, 5, 6, 7, 58, 9, 10, 11, 12, 13, 14, 15, 16, 17, 18, 19, 20, 21, 22, 23, 24, 25, 26, 27, 59, 60, 61, 31, 32, 33, 34, 35, 36, 37, 38, 39, 40, 41, 42, 43, 44, 45, 46, 47, 62, 63, 64, 65, 66, 67, 68, 69, 70, 71], 72, [(27, [], [58, 8])])])
def h_au_X6_noteCoatsBySize_0 : List XH := [(12, (bT ++ [(0, 7), (0, 9), (0, 10), (0, 49)]), [some (.inr (.inl 0)), some (.inl (some 14, 0)), some (.inl (some 15, 0)), some (.inl (some 16, 0)), none], (hst (gX 14) [(5, .inr (.inr (.inr (0, [.inr (.inl 6), .inr (.inl 9), .inr (.inl 14), .inr (.inl 18), .inr (.inl 22), .inr (.inl 26), .inr (.inl 27), .inr (.inl 28), .inr (.inl 29), .inr (.inl 30), .inl (some 9, 0), .inl (some 17, 0), .inl (some 11, 0), .inl (some 12, 0), .inr (.inl 14)]))))]), [0, 1, 2, 3, 4, 5, 6, 7, 58, 9, 10, 11, 12, 13, 14, 15, 16, 17, 18, 19, 20, 21, 22, 23, 24, 25, 26, 27, 59, 60, 61, 31, 32, 33, 34, 35, 36, 37, 38, 39, 40, 41, 42, 43, 44, 45, 46, 47, 62, 63, 64, 65, 66, 67, 68, 69, 70, 71], 72, [(87, [(some 9, 0)], [26, 27]), (187, [(some 14, 0)], [58, 8]), (20, [(some 15, 0), (some 14, 0)], [8])], [(true, (none, 1)), (true, (some 16, 0)), (true, (none, 0)), (true, (none, 0))]),
  (38, (bT ++ [(0, 7), (0, 9), (0, 9), (0, 24), (0, 49)]), [some (.inr (.inl 0)), some (.inl (some 14, 0)), some (.inl (some 15, 0)), some (.inl (some 16, 0)), some (.inl (some 17, 0))], (hst (gX 14) [(5, .inr (.inr (.inr (0, [.inr (.inl 6), .inr (.inl 9), .inr (.inl 14), .inr (.inl 18), .inr (.inl 22), .inr (.inl 26), .inr (.inl 27), .inr (.inl 28), .inr (.inl 29), .inr (.inl 30), .inl (some 9, 0), .inl (some 18, 0), .inl (some 11, 0), .inl (some 12, 0), .inr (.inl 14)]))))]), [0, 1, 2, 3, 4, 5, 6, 7, 58, 9, 10, 11, 12, 13, 14, 15, 16, 17, 18, 19, 20, 21, 22, 23, 24, 25, 26, 27, 59, 60, 61, 31, 32, 33, 34, 35, 36, 37, 38, 39, 40, 41, 42, 43, 44, 45, 46, 47, 62, 63, 64, 65, 66, 67, 68, 69, 70, 71], 72, [(87, [(some 9, 0)], [26, 27]), (187, [(some 14, 0)], [58, 8]), (20, [(some 15, 0), (some 14, 0)], [8])], [(true, (none, 1)), (true, (some 16, 0)), (true, (none, 1)), (true, (some 17, 0))])]
def w_au_X6_noteCoatsBySize_0_0_0 : VC := ((bT ++ [(0, 7), (0, 9)]), [(20, [(some 15, 0), (some 14, 0)], [8]), (87, [(some 9, 0)], [26, 27])], (187, [(some 14, 0)], [8, 8]))
set_option maxRecDepth 20000 in
theorem v_au_X6_noteCoatsBySize_0_0_0 {PT : PTy} (hp : HP15 PT) : vcOk PT w_au_X6_noteCoatsBySize_0_0_0 := vc_iv [(9, 0, 49), (14, 0, 7), (15, 0, 9)] [8, 26, 27] (by decide +kernel) (fun ρ α => by
  intro r9 g9 b9 r14 g14 b14 r15 g15 b15 a8 h8 a26 h26 a27 h27 f0 f1 tt
  have e87 : PT 87 = P_pr := pe87_15 hp
  have e187 : PT 187 = P_bu := pe187_15 hp
  simp only [hF20, hFp_87, hFp_187, e87, e187, P_pr, P_bu, den_s, den_c, Int.add_zero, List.map_cons, List.map_nil, g9.eq, g14.eq, g15.eq, h8, h26, h27] at f0 f1 ⊢
  clear g9 g14 g15 h8 h26 h27 e87 e187 tt
  subst f0
  subst_vars
  first
    | exact fun i h => (by first | rfl | trivial)
    | assumption
    | exact bu_up (by assumption)
    | exact bu_up (fun i h => rfl))
def w_au_X6_noteCoatsBySize_0_1_0 : VC := ((bT ++ [(0, 7), (0, 9), (10, 10), (0, 49)]), [(21, [(some 14, 0), (some 15, 0)], [72, 58]), (3, [(some 16, 0), (none, 10)], []), (87, [(some 9, 0)], [26, 27]), (187, [(some 14, 0)], [58, 8]), (20, [(some 15, 0), (some 14, 0)], [8]), (87, [(some 9, 0)], [26, 27])], (27, [], [72, 8]))
set_option maxRecDepth 20000 in
theorem v_au_X6_noteCoatsBySize_0_1_0 {PT : PTy} (hp : HP15 PT) : vcOk PT w_au_X6_noteCoatsBySize_0_1_0 := vc_iv [(9, 0, 49), (14, 0, 7), (15, 0, 9), (16, 10, 10)] [8, 26, 27, 58, 72] (by decide +kernel) (fun ρ α => by
  intro r9 g9 b9 r14 g14 b14 r15 g15 b15 r16 g16 b16 a8 h8 a26 h26 a27 h27 a58 h58 a72 h72 f0 f1 f2 f3 f4 f5 tt
  have e87 : PT 87 = P_pr := pe87_15 hp
  have e187 : PT 187 = P_bu := pe187_15 hp
  simp only [hF3, hF20, hF21, hF27, hFp_87, hFp_187, e87, e187, P_pr, P_bu, den_s, den_c, Int.add_zero, List.map_cons, List.map_nil, g9.eq, g14.eq, g15.eq, g16.eq, h8, h26, h27, h58, h72] at f0 f1 f2 f3 f4 f5 ⊢
  clear g9 g14 g15 g16 h8 h26 h27 h58 h72 e87 e187 tt
  subst f0
  subst f4
  subst_vars
  first
    | rfl
    | assumption
    | exact upd_bk (by assumption))
def w_au_X6_noteCoatsBySize_0_1_1 : VC := ((bT ++ [(0, 7), (0, 9), (0, 9), (0, 49)]), [(89, [], [72, 73, 74, 75]), (21, [(some 14, 0), (some 16, 0)], [72, 58]), (2, [(some 16, 0), (none, 10)], []), (87, [(some 9, 0)], [26, 27]), (187, [(some 14, 0)], [58, 8]), (20, [(some 15, 0), (some 14, 0)], [8]), (87, [(some 9, 0)], [26, 27])], (187, [(some 14, 0)], [72, 8]))
set_option maxRecDepth 20000 in
theorem v_au_X6_noteCoatsBySize_0_1_1 {PT : PTy} (hp : HP15 PT) : vcOk PT w_au_X6_noteCoatsBySize_0_1_1 := vc_iv [(9, 0, 49), (14, 0, 7), (15, 0, 9), (16, 0, 9)] [8, 26, 27, 58, 72, 73, 74, 75] (by decide +kernel) (fun ρ α => by
  intro r9 g9 b9 r14 g14 b14 r15 g15 b15 r16 g16 b16 a8 h8 a26 h26 a27 h27 a58 h58 a72 h72 a73 h73 a74 h74 a75 h75 f0 f1 f2 f3 f4 f5 f6 tt
  have e87 : PT 87 = P_pr := pe87_15 hp
  have e89 : PT 89 = P_bg := pe89_15 hp
  have e187 : PT 187 = P_bu := pe187_15 hp
  simp only [hF2, hF20, hF21, hFp_87, hFp_89, hFp_187, e87, e89, e187, P_pr, P_bg, P_bu, den_s, den_c, Int.add_zero, List.map_cons, List.map_nil, g9.eq, g14.eq, g15.eq, g16.eq, h8, h26, h27, h58, h72, h73, h74, h75] at f0 f1 f2 f3 f4 f5 f6 ⊢
  clear g9 g14 g15 g16 h8 h26 h27 h58 h72 h73 h74 h75 e87 e89 e187 tt
  subst f1
  subst f5
  subst_vars
  first
    | exact fun i h => (by first | rfl | trivial)
    | assumption
    | exact bu_up (by assumption)
    | exact bu_up (fun i h => rfl))
set_option maxRecDepth 1000000 in
theorem k_au_X6_noteCoatsBySize_0 {PT : PTy} (hp : HP15 PT) : wfX c_au_X6_noteCoatsBySize_0 = true ∧ xcOk PT c_au_X6_noteCoatsBySize_0 := xctr (xl (k_begin14 hp.1.1.1.1.1.1.1.1.1.1.1) (xl (k_advance14 hp.1.1.1.1.1.1.1.1.1.1.1) (xl0))) c_au_X6_noteCoatsBySize_0 41 mX6_noteCoatsBySize rfl h_au_X6_noteCoatsBySize_0 (by decide +kernel) (by decide +kernel) (by decide) (vcs_by [w_au_X6_noteCoatsBySize_0_0_0] (by decide +kernel) (vc (v_au_X6_noteCoatsBySize_0_0_0 hp) vn)) (fmc (vcs_by [w_au_X6_noteCoatsBySize_0_1_0, w_au_X6_noteCoatsBySize_0_1_1] (by decide +kernel) (vc (v_au_X6_noteCoatsBySize_0_1_0 hp) (vc (v_au_X6_noteCoatsBySize_0_1_1 hp) vn))) (fmc (vcs_by [] (by decide +kernel) vn) fmn))
def c_au_X6_mostAlike_0 : XC := (94, 1, (bT ++ [((-2147483648), 2147483647), (0, 23)]), [.inr (.inl 0), .inl (some 14, 0), .inl (some 15, 0)], (gX 999), [], [((bT ++ [((-2147483648), 2147483647), (0, 23), (0, 2147483647)]), some (.inl (some 16, 0)), (gX 999), (List.range 58), 58, [])])
def h_au_X6_mostAlike_0 : List XH := [(18, (bT ++ [((-2147483648), 2147483647), (0, 23), (0, 2147483647), (0, 9), ((-2147483648), 2147483647), (0, 10)]), [some (.inr (.inl 0)), some (.inl (some 14, 0)), some (.inl (some 15, 0)), some (.inl (some 16, 0)), some (.inl (some 17, 0)), some (.inl (some 18, 0)), some (.inl (some 19, 0)), none], (gX 999), (List.range 58), 58, [], [(true, (none, 1)), (true, (some 17, 0)), (true, (none, 1)), (true, (some 19, 0))]),
  (5, (bT ++ [((-2147483648), 2147483647), (0, 23), (0, 2147483647), (0, 10)]), [some (.inr (.inl 0)), some (.inl (some 14, 0)), some (.inl (some 15, 0)), some (.inl (some 16, 0)), some (.inl (some 17, 0)), none, none, none], (gX 999), (List.range 58), 58, [], [(true, (none, 1)), (true, (some 17, 0)), (true, (none, 0)), (true, (none, 0))])]
set_option maxRecDepth 1000000 in
theorem k_au_X6_mostAlike_0 {PT : PTy} (hp : HP15 PT) : wfX c_au_X6_mostAlike_0 = true ∧ xcOk PT c_au_X6_mostAlike_0 := xctr (xl0) c_au_X6_mostAlike_0 59 mX6_mostAlike rfl h_au_X6_mostAlike_0 (by decide +kernel) (by decide +kernel) (by decide) (vcs_by [] (by decide +kernel) vn) (fmc (vcs_by [] (by decide +kernel) vn) (fmc (vcs_by [] (by decide +kernel) vn) fmn))
def c_xf_ask : XC := (69, 5, (bT ++ [((-2147483648), 2147483647)]), [.inr (.inl 0), .inl (some 14, 0)], (gX 999), [], [((bT ++ [((-2147483648), 2147483647), ((-2), 23), (0, 49), (0, 49), ((-2147483648), 2147483647), ((-2147483648), 2147483647)]), some (.inl (some 15, 0)), (hst (gX 999) [(5, .inr (.inr (.inr (0, [.inr (.inl 6), .inr (.inl 9), .inr (.inl 14), .inr (.inl 18), .inr (.inl 22), .inr (.inl 26), .inr (.inl 27), .inr (.inl 28), .inr (.inl 29), .inr (.inl 30), .inl (some 16, 0), .inl (some 17, 0), .inl (some 18, 0), .inl (some 19, 0), .inr (.inl 999)]))))]), [0, 1, 2, 3, 4, 5, 6, 7, 58, 9, 10, 11, 12, 13, 14, 15, 16, 17, 18, 19, 20, 21, 22, 23, 24, 25, 59, 60, 61, 62, 63, 31, 32, 33, 34, 35, 36, 37, 38, 39, 40, 41, 42, 43, 44, 45, 46, 47, 64, 65, 66, 67, 68, 69, 70, 71, 72, 73], 74, [(27, [], [58, 8])])])
def h_xf_ask : List XH := [(54, ([(0, 23), (0, 49), (1, 8), (0, 10), (0, 8), (0, 6), (0, 6), (0, 8), (0, 9), (0, 49), (0, 49), ((-2147483648), 2147483647), ((-2147483648), 2147483647), (0, 5), (0, 7), ((-2147483648), 2147483647), ((-1), 23), (0, 11), (0, 24), (0, 49), (0, 49)]), [some (.inr (.inl 0)), some (.inl (some 14, 0)), some (.inl (some 15, 0)), some (.inl (some 16, 0)), some (.inl (some 17, 0)), some (.inl (some 18, 0)), none], (hst (gX 999) [(5, .inr (.inr (.inr (0, [.inr (.inl 6), .inr (.inl 9), .inr (.inl 14), .inr (.inl 18), .inr (.inl 22), .inr (.inl 26), .inr (.inl 27), .inr (.inl 28), .inr (.inl 29), .inr (.inl 30), .inl (some 19, 0), .inl (some 20, 0), .inl (none, 0), .inl (none, 0), .inr (.inl 999)]))))]), [0, 1, 2, 3, 4, 5, 6, 7, 58, 9, 10, 11, 12, 13, 14, 15, 16, 17, 18, 19, 20, 21, 22, 23, 24, 25, 59, 60, 61, 62, 63, 31, 32, 33, 34, 35, 36, 37, 38, 39, 40, 41, 42, 43, 44, 45, 46, 47, 64, 65, 66, 67, 68, 69, 70, 71, 72, 73], 74, [(27, [], [58, 8])], [(true, (none, 1)), (true, (some 18, 0))])]
def w_xf_ask_0_0 : VC := ((bT ++ [((-2147483648), (-1))]), [(0, [(none, 0), (none, 0)], []), (2, [(some 14, 0), (none, 0)], [])], (27, [], [8, 8]))
theorem v_xf_ask_0_0 {PT : PTy} (_ : HP15 PT) : vcOk PT w_xf_ask_0_0 := vc_of (fun ρ α _ _ => rfl)
def w_xf_ask_0_1 : VC := ((bT ++ [(0, 2147483647)]), [(0, [(none, 0), (none, 0)], []), (3, [(some 14, 0), (some 2, 0)], []), (3, [(some 14, 0), (none, 0)], [])], (27, [], [8, 8]))
theorem v_xf_ask_0_1 {PT : PTy} (_ : HP15 PT) : vcOk PT w_xf_ask_0_1 := vc_of (fun ρ α _ _ => rfl)
def w_xf_ask_0_2 : VC := (([(0, 23), (0, 49), (1, 8), (0, 10), (0, 8), (0, 6), (0, 6), (0, 8), (0, 9), (0, 49), (0, 49), ((-2147483648), 2147483647), ((-2147483648), 2147483647), (0, 5), (0, 7), (0, 49)]), [(86, [(some 2, 0), (some 3, 0), (some 4, 0), (some 5, 0), (some 6, 0), (some 15, 0)], [58, 59, 10, 12, 13, 15, 16, 19, 20, 23, 24]), (1, [(none, 1), (none, 0)], []), (2, [(some 14, 0), (some 2, 0)], []), (3, [(some 14, 0), (none, 0)], [])], (87, [(some 15, 0)], [58, 59]))
set_option maxRecDepth 20000 in
theorem v_xf_ask_0_2 {PT : PTy} (hp : HP15 PT) : vcOk PT w_xf_ask_0_2 := vc_in [(2, 1, 8), (3, 0, 10), (4, 0, 8), (5, 0, 6), (6, 0, 6), (14, 0, 7), (15, 0, 49)] (by decide +kernel) (fun ρ α => by
  intro b2 b3 b4 b5 b6 b14 b15 f0 f1 f2 f3 tt
  clear f1 f3
  have e86 : PT 86 = P_arr := pe86_15 hp
  have e87 : PT 87 = P_pr := pe87_15 hp
  simp only [hF2, hFp_86, hFp_87, e86, e87, P_arr, P_pr, den_s, den_c, Int.add_zero, List.map_cons, List.map_nil] at f0 f2 ⊢
  exact (f0).1)
def w_xf_ask_0_3 : VC := (([(0, 23), (0, 49), (1, 8), (0, 10), (0, 8), (0, 6), (0, 6), (0, 8), (0, 9), (0, 49), (0, 49), ((-2147483648), 2147483647), ((-2147483648), 2147483647), (0, 5), (0, 7), (0, 49), ((-2147483648), 2147483647), (0, 49)]), [(27, [], [60, 8]), (86, [(some 2, 0), (some 3, 0), (some 4, 0), (some 5, 0), (some 6, 0), (some 15, 0)], [58, 59, 10, 12, 13, 15, 16, 19, 20, 23, 24]), (1, [(none, 1), (none, 0)], []), (2, [(some 14, 0), (some 2, 0)], []), (3, [(some 14, 0), (none, 0)], [])], (87, [(some 15, 0)], [58, 59]))
set_option maxRecDepth 20000 in
theorem v_xf_ask_0_3 {PT : PTy} (hp : HP15 PT) : vcOk PT w_xf_ask_0_3 := vc_in [(2, 1, 8), (3, 0, 10), (4, 0, 8), (5, 0, 6), (6, 0, 6), (14, 0, 7), (15, 0, 49)] (by decide +kernel) (fun ρ α => by
  intro b2 b3 b4 b5 b6 b14 b15 f0 f1 f2 f3 f4 tt
  clear f2 f4
  have e86 : PT 86 = P_arr := pe86_15 hp
  have e87 : PT 87 = P_pr := pe87_15 hp
  simp only [hF2, hF27, hFp_86, hFp_87, e86, e87, P_arr, P_pr, den_s, den_c, Int.add_zero, List.map_cons, List.map_nil] at f0 f1 f3 ⊢
  exact (f1).1)
def w_xf_ask_0_4 : VC := (([(0, 23), (0, 49), (1, 8), (0, 10), (0, 8), (0, 6), (0, 6), (0, 8), (0, 9), (0, 49), (0, 49), ((-2147483648), 2147483647), ((-2147483648), 2147483647), (0, 5), (0, 7), (0, 49), ((-2147483648), 2147483647), (0, 49), (0, 49)]), [(27, [], [64, 60]), (27, [], [60, 8]), (86, [(some 2, 0), (some 3, 0), (some 4, 0), (some 5, 0), (some 6, 0), (some 15, 0)], [58, 59, 10, 12, 13, 15, 16, 19, 20, 23, 24]), (1, [(none, 1), (none, 0)], []), (2, [(some 14, 0), (some 2, 0)], []), (3, [(some 14, 0), (none, 0)], [])], (27, [], [64, 8]))
set_option maxRecDepth 20000 in
theorem v_xf_ask_0_4 {PT : PTy} (hp : HP15 PT) : vcOk PT w_xf_ask_0_4 := vc_iv [(2, 1, 8), (3, 0, 10), (4, 0, 8), (5, 0, 6), (6, 0, 6), (14, 0, 7), (15, 0, 49)] [8, 10, 12, 13, 15, 16, 19, 20, 23, 24, 58, 59, 60, 64] (by decide +kernel) (fun ρ α => by
  intro r2 g2 b2 r3 g3 b3 r4 g4 b4 r5 g5 b5 r6 g6 b6 r14 g14 b14 r15 g15 b15 a8 h8 a10 h10 a12 h12 a13 h13 a15 h15 a16 h16 a19 h19 a20 h20 a23 h23 a24 h24 a58 h58 a59 h59 a60 h60 a64 h64 f0 f1 f2 f3 f4 f5 tt
  have e86 : PT 86 = P_arr := pe86_15 hp
  simp only [hF1, hF2, hF3, hF27, hFp_86, e86, P_arr, den_s, den_c, Int.add_zero, List.map_cons, List.map_nil, g2.eq, g3.eq, g4.eq, g5.eq, g6.eq, g14.eq, g15.eq, h8, h10, h12, h13, h15, h16, h19, h20, h23, h24, h58, h59, h60, h64] at f0 f1 f2 f3 f4 f5 ⊢
  clear g2 g3 g4 g5 g6 g14 g15 h8 h10 h12 h13 h15 h16 h19 h20 h23 h24 h58 h59 h60 h64 e86 tt
  subst_vars
  first
    | rfl
    | assumption
    | exact upd_bk (by assumption))
set_option maxRecDepth 1000000 in
theorem k_xf_ask {PT : PTy} (hp : HP15 PT) : wfX c_xf_ask = true ∧ xcOk PT c_xf_ask := xctr (xl (k_arrange14 hp.1.1.1.1.1.1.1.1.1.1.1.1) (xl (k_au_X6_fittingValues_1 hp) (xl (k_au_X6_noteCoatsBySize_0 hp) (xl (k_au_X6_mostAlike_0 hp) (xl0))))) c_xf_ask 57 mX6_ask rfl h_xf_ask (by decide +kernel) (by decide +kernel) (by decide) (vcs_by [w_xf_ask_0_0, w_xf_ask_0_1, w_xf_ask_0_2, w_xf_ask_0_3, w_xf_ask_0_4] (by decide +kernel) (vc (v_xf_ask_0_0 hp) (vc (v_xf_ask_0_1 hp) (vc (v_xf_ask_0_2 hp) (vc (v_xf_ask_0_3 hp) (vc (v_xf_ask_0_4 hp) vn)))))) (fmc (vcs_by [] (by decide +kernel) vn) fmn)
def c_au_X6_drawKeepings_0 : XC := (97, 1, (bT ++ [((-2147483648), 2147483647), (0, 8)]), [.inr (.inl 0), .inl (some 14, 0), .inl (some 15, 0)], (gX 999), [], [((bT ++ [((-2147483648), 2147483647), (0, 8), (0, 9)]), none, (hst (gX 999) [(35, .inr (.inr (.inr (4, [.inr (.inl 36), .inr (.inl 37), .inr (.inl 38), .inl (none, 8), .inl (some 16, 0)]))))]), (ansT 58 [(36, 58), (37, 59), (38, 60)]), 61, [])])
def h_au_X6_drawKeepings_0 : List XH := [(24, ([(0, 23), (0, 49), (0, 8), (1, 10), (0, 8), (0, 6), (0, 6), (0, 8), (0, 9), (0, 49), (0, 49), ((-2147483648), 2147483647), ((-2147483648), 2147483647), (0, 5), ((-2147483648), 2147483647), (0, 8), ((-2147483648), 2147483647), (0, 8), (0, 9)]), [some (.inr (.inl 0)), some (.inl (some 14, 0)), some (.inl (some 15, 0)), some (.inl (some 16, 0)), some (.inl (some 17, 0)), none], (hst (gX 999) [(35, .inr (.inr (.inr (4, [.inr (.inl 36), .inr (.inl 37), .inr (.inl 38), .inl (none, 8), .inl (some 18, 0)]))))]), (ansT 58 [(36, 58), (37, 59), (38, 60)]), 61, [], [(true, (none, 1)), (true, (some 17, 0))])]
set_option maxRecDepth 1000000 in
theorem k_au_X6_drawKeepings_0 {PT : PTy} (hp : HP15 PT) : wfX c_au_X6_drawKeepings_0 = true ∧ xcOk PT c_au_X6_drawKeepings_0 := xctr (xl0) c_au_X6_drawKeepings_0 94 mX6_drawKeepings rfl h_au_X6_drawKeepings_0 (by decide +kernel) (by decide +kernel) (by decide) (vcs_by [] (by decide +kernel) vn) (fmc (vcs_by [] (by decide +kernel) vn) fmn)
def c_au_J6_bitCount__1 : XC := (201, 0, (bX ++ [((-2147483648), 2147483647)]), [.inl (some 14, 0)], (gX 35), [], [((bX ++ [((-2147483648), 2147483647), ((-2147483648), 2147483647)]), some (.inl (some 15, 0)), (gX 35), (List.range 58), 58, [])])
def h_au_J6_bitCount__1 : List XH := []
set_option maxRecDepth 1000000 in
theorem k_au_J6_bitCount__1 {PT : PTy} (hp : HP15 PT) : wfX c_au_J6_bitCount__1 = true ∧ xcOk PT c_au_J6_bitCount__1 := xctr (xl0) c_au_J6_bitCount__1 62 mJ6_bitCount_0f7a4 rfl h_au_J6_bitCount__1 (by decide +kernel) (by decide +kernel) (by decide) (vcs_by [] (by decide +kernel) vn) fmn
def c_xf_year : XC := (71, 3, (bT ++ [((-2147483648), 2147483647), ((-2147483648), 2147483647), ((-2147483648), 2147483647)]), [.inr (.inl 0), .inl (some 14, 0), .inl (some 15, 0), .inl (some 16, 0)], (gX 999), [], [((bT ++ [((-2147483648), 2147483647), ((-2147483648), 2147483647), ((-2147483648), 2147483647), ((-2147483648), 2147483647), (0, 49), (0, 49), ((-2147483648), 2147483647), ((-2147483648), 2147483647), (0, 9)]), some (.inl (some 17, 0)), (hst (gX 999) [(5, .inr (.inr (.inr (0, [.inr (.inl 6), .inr (.inl 9), .inr (.inl 14), .inr (.inl 18), .inr (.inl 22), .inr (.inl 26), .inr (.inl 27), .inr (.inl 28), .inr (.inl 29), .inr (.inl 30), .inl (some 18, 0), .inl (some 19, 0), .inl (some 20, 0), .inl (some 21, 0), .inr (.inl 999)])))), (35, .inr (.inr (.inr (4, [.inr (.inl 36), .inr (.inl 37), .inr (.inl 38), .inl (none, 8), .inl (some 22, 0)]))))]), (ansT 58 [(26, 58), (27, 59), (28, 60), (29, 61), (30, 62), (36, 63), (37, 64), (38, 65)]), 66, [])])
def h_xf_year : List XH := []
def w_xf_year_0_0 : VC := ((bT ++ [((-2147483648), 2147483647), (0, 8), (0, 1), (0, 9), (0, 49)]), [(86, [(some 2, 0), (some 3, 0), (some 17, 0), (some 5, 0), (some 6, 0), (some 18, 0)], [61, 62, 10, 12, 13, 58, 59, 19, 20, 23, 24]), (1, [(none, 1), (none, 0)], []), (3, [(none, 1), (some 16, 0)], []), (3, [(some 16, 0), (none, 0)], []), (1, [(none, 1), (none, 0)], []), (3, [(none, 8), (some 15, 0)], []), (3, [(some 15, 0), (none, 0)], [])], (87, [(some 18, 0)], [61, 62]))
set_option maxRecDepth 20000 in
theorem v_xf_year_0_0 {PT : PTy} (hp : HP15 PT) : vcOk PT w_xf_year_0_0 := vc_in [(2, 0, 8), (3, 0, 10), (5, 0, 6), (6, 0, 6), (17, 0, 9), (18, 0, 49)] (by decide +kernel) (fun ρ α => by
  intro b2 b3 b5 b6 b17 b18 f0 f1 f2 f3 f4 f5 f6 tt
  clear f1 f2 f3 f4 f5 f6
  have e86 : PT 86 = P_arr := pe86_15 hp
  have e87 : PT 87 = P_pr := pe87_15 hp
  simp only [hFp_86, hFp_87, e86, e87, P_arr, P_pr, den_s, den_c, Int.add_zero, List.map_cons, List.map_nil] at f0 ⊢
  exact (f0).1)
set_option maxRecDepth 1000000 in
theorem k_xf_year {PT : PTy} (hp : HP15 PT) : wfX c_xf_year = true ∧ xcOk PT c_xf_year := xctr (xl (k_arrange35 hp.1.1.1.1.1.1.1.1.1.1.1.1) (xl (k_begin35 hp.1.1.1.1.1.1.1.1.1.1.1) (xl (k_advance35 hp.1.1.1.1.1.1.1.1.1.1.1) (xl (k_fittingBits35 hp.1.1.1.1.1.1.1.1.1.1.1) (xl (k_allRips35 hp.1.1.1.1.1.1.1.1.1.1.1) (xl (k_au_X6_drawKeepings_0 hp) (xl (k_au_J6_bitCount__1 hp) (xl0)))))))) c_xf_year 67 mX6_year rfl h_xf_year (by decide +kernel) (by decide +kernel) (by decide) (vcs_by [w_xf_year_0_0] (by decide +kernel) (vc (v_xf_year_0_0 hp) vn)) fmn
def c_au_X6_keepingsOf_0 : XC := (95, 1, (bT ++ [((-2147483648), 2147483647)]), [.inr (.inl 0), .inl (some 14, 0)], (gX 14), [], [((bT ++ [((-2147483648), 2147483647), ((-2147483648), 2147483647)]), some (.inl (some 15, 0)), (gX 14), (List.range 58), 58, [])])
def h_au_X6_keepingsOf_0 : List XH := [(4, (bT ++ [((-2147483648), 2147483647), ((-2147483648), 2147483647), (0, 8)]), [some (.inr (.inl 0)), some (.inl (some 14, 0)), some (.inl (some 15, 0)), some (.inl (some 16, 0)), none], (gX 14), (List.range 58), 58, [], [(true, (none, 1)), (true, (some 16, 0))])]
set_option maxRecDepth 1000000 in
theorem k_au_X6_keepingsOf_0 {PT : PTy} (hp : HP15 PT) : wfX c_au_X6_keepingsOf_0 = true ∧ xcOk PT c_au_X6_keepingsOf_0 := xctr (xl0) c_au_X6_keepingsOf_0 61 mX6_keepingsOf rfl h_au_X6_keepingsOf_0 (by decide +kernel) (by decide +kernel) (by decide) (vcs_by [] (by decide +kernel) vn) (fmc (vcs_by [] (by decide +kernel) vn) fmn)
def c_au_X6_weight_0 : XC := (96, 0, (bT ++ [((-2147483648), 2147483647), ((-2147483648), 2147483647), ((-2147483648), 2147483647)]), [.inl (some 14, 0), .inl (some 15, 0), .inl (some 16, 0)], (gX 14), [], [((bT ++ [((-2147483648), 2147483647), ((-2147483648), 2147483647), ((-2147483648), 2147483647)]), some (.inr (.inr none)), (gX 14), (List.range 58), 58, [])])
def h_au_X6_weight_0 : List XH := [(5, (bT ++ [((-2147483648), 2147483647), ((-2147483648), 2147483647), ((-2147483648), 2147483647), (0, 8)]), [some (.inl (some 14, 0)), some (.inl (some 15, 0)), some (.inl (some 16, 0)), some (.inr (.inr none)), none, some (.inl (some 17, 0))], (gX 14), (List.range 58), 58, [], [(true, (none, 1)), (true, (some 17, 0))])]
set_option maxRecDepth 1000000 in
theorem k_au_X6_weight_0 {PT : PTy} (hp : HP15 PT) : wfX c_au_X6_weight_0 = true ∧ xcOk PT c_au_X6_weight_0 := xctr (xl0) c_au_X6_weight_0 48 mX6_weight rfl h_au_X6_weight_0 (by decide +kernel) (by decide +kernel) (by decide) (vcs_by [] (by decide +kernel) vn) (fmc (vcs_by [] (by decide +kernel) vn) fmn)
def c_xf_word : XC := (70, 3, (bT ++ [((-2147483648), 2147483647), ((-2147483648), 2147483647), ((-2147483648), 2147483647), ((-2147483648), 2147483647)]), [.inr (.inl 0), .inl (some 14, 0), .inl (some 15, 0), .inl (some 16, 0), .inl (some 17, 0)], (gX 999), [], [((bT ++ [((-2147483648), 2147483647), ((-2147483648), 2147483647), ((-2147483648), 2147483647), ((-2147483648), 2147483647), (0, 49), (0, 49), ((-2147483648), 2147483647), ((-2147483648), 2147483647)]), some (.inr (.inr none)), (hst (gX 999) [(5, .inr (.inr (.inr (0, [.inr (.inl 6), .inr (.inl 9), .inr (.inl 14), .inr (.inl 18), .inr (.inl 22), .inr (.inl 26), .inr (.inl 27), .inr (.inl 28), .inr (.inl 29), .inr (.inl 30), .inl (some 18, 0), .inl (some 19, 0), .inl (some 20, 0), .inl (some 21, 0), .inr (.inl 999)]))))]), (ansT 58 [(26, 58), (27, 59), (28, 60), (29, 61), (30, 62)]), 63, [])])
def h_xf_word : List XH := [(150, ([(0, 23), (0, 49), (1, 8), (0, 10), (0, 8), (0, 6), (0, 6), (0, 8), (0, 9), (0, 49), (0, 49), ((-2147483648), 2147483647), ((-2147483648), 2147483647), (0, 5), (0, 16), (0, 7), (0, 23), (0, 1), ((-2147483648), 2147483647), (0, 32), (0, 49), (0, 49), ((-2147483648), 2147483647)]), [some (.inr (.inl 0)), some (.inl (some 14, 0)), some (.inl (some 15, 0)), some (.inl (some 16, 0)), some (.inl (some 17, 0)), some (.inl (some 18, 0)), some (.inr (.inr none)), none, some (.inr (.inr none)), none, some (.inl (some 19, 0))], (hst (gX 14) [(5, .inr (.inr (.inr (0, [.inr (.inl 6), .inr (.inl 9), .inr (.inl 14), .inr (.inl 18), .inr (.inl 22), .inr (.inl 26), .inr (.inl 27), .inr (.inl 28), .inr (.inl 29), .inr (.inl 30), .inl (some 20, 0), .inl (some 21, 0), .inl (some 22, 0), .inl (none, 0), .inr (.inl 14)]))))]), (ansT 58 [(26, 58), (27, 59), (28, 60), (29, 61), (30, 62)]), 63, [(87, [(some 20, 0)], [58, 59])], [(true, (none, 2)), (true, (some 19, 0))]),
  (75, ([(0, 23), (0, 49), (1, 8), (0, 10), (0, 8), (0, 6), (0, 6), (0, 8), (0, 9), (0, 49), (0, 49), ((-2147483648), 2147483647), ((-2147483648), 2147483647), (0, 5), (0, 16), (0, 7), (0, 23), (0, 1), ((-2147483648), 2147483647), (0, 256), (0, 49), (0, 49), ((-2147483648), 2147483647)]), [some (.inr (.inl 0)), some (.inl (some 14, 0)), some (.inl (some 15, 0)), some (.inl (some 16, 0)), some (.inl (some 17, 0)), some (.inl (some 18, 0)), some (.inr (.inr none)), none, some (.inr (.inr none)), none, some (.inl (some 19, 0))], (hst (gX 14) [(5, .inr (.inr (.inr (0, [.inr (.inl 6), .inr (.inl 9), .inr (.inl 14), .inr (.inl 18), .inr (.inl 22), .inr (.inl 26), .inr (.inl 27), .inr (.inl 28), .inr (.inl 29), .inr (.inl 30), .inl (some 20, 0), .inl (some 21, 0), .inl (some 22, 0), .inl (none, 0), .inr (.inl 14)]))))]), (ansT 58 [(26, 58), (27, 59), (28, 60), (29, 61), (30, 62)]), 63, [(87, [(some 20, 0)], [58, 59])], [(true, (none, 1)), (true, (some 19, 0))])]
def w_xf_word_0_0 : VC := (([(0, 23), (0, 49), (1, 8), (0, 10), (0, 8), (0, 6), (0, 6), (0, 8), (0, 9), (0, 49), (0, 49), ((-2147483648), 2147483647), ((-2147483648), 2147483647), (0, 5), (0, 16), (0, 7), (0, 23), (0, 1), (0, 49), ((-2147483648), 2147483647), ((-2147483648), 2147483647), ((-2147483648), 2147483647)]), [(17, [(some 21, 0), (none, 4), (some 20, 0)], []), (160, [(some 20, 0), (some 19, 0)], []), (86, [(some 2, 0), (some 3, 0), (some 4, 0), (some 5, 0), (some 6, 0), (some 18, 0)], [58, 59, 10, 12, 13, 15, 16, 19, 20, 23, 24]), (1, [(none, 1), (none, 0)], []), (3, [(none, 1), (some 17, 0)], []), (3, [(some 17, 0), (none, 0)], []), (1, [(none, 1), (none, 0)], []), (3, [(none, 23), (some 16, 0)], []), (3, [(some 16, 0), (none, 0)], []), (1, [(none, 1), (none, 0)], []), (2, [(some 15, 0), (some 2, 0)], []), (3, [(some 15, 0), (none, 0)], []), (1, [(none, 1), (none, 0)], []), (3, [(none, 16), (some 14, 0)], []), (3, [(some 14, 0), (none, 0)], [])], (87, [(some 18, 0)], [58, 59]))
set_option maxRecDepth 20000 in
theorem v_xf_word_0_0 {PT : PTy} (hp : HP15 PT) : vcOk PT w_xf_word_0_0 := vc_in [(2, 1, 8), (3, 0, 10), (4, 0, 8), (5, 0, 6), (6, 0, 6), (15, 0, 7), (18, 0, 49), (19, (-2147483648), 2147483647), (20, (-2147483648), 2147483647), (21, (-2147483648), 2147483647)] (by decide +kernel) (fun ρ α => by
  intro b2 b3 b4 b5 b6 b15 b18 b19 b20 b21 f0 f1 f2 f3 f4 f5 f6 f7 f8 f9 f10 f11 f12 f13 f14 tt
  clear f3 f4 f5 f6 f7 f8 f9 f11 f12 f13 f14
  have e86 : PT 86 = P_arr := pe86_15 hp
  have e87 : PT 87 = P_pr := pe87_15 hp
  have e160 : PT 160 = P_bc := pe160_15 hp
  simp only [hF2, hF17, hFp_86, hFp_87, hFp_160, e86, e87, e160, P_arr, P_pr, P_bc, den_s, den_c, Int.add_zero, List.map_cons, List.map_nil] at f0 f1 f2 f10 ⊢
  exact (f2).1)
set_option maxRecDepth 1000000 in
theorem k_xf_word {PT : PTy} (hp : HP15 PT) : wfX c_xf_word = true ∧ xcOk PT c_xf_word := xctr (xl (k_arrange14 hp.1.1.1.1.1.1.1.1.1.1.1.1) (xl (k_begin14 hp.1.1.1.1.1.1.1.1.1.1.1) (xl (k_advance14 hp.1.1.1.1.1.1.1.1.1.1.1) (xl (k_bitCount hp.1.1.1.1) (xl (k_au_X6_keepingsOf_0 hp) (xl (k_au_X6_weight_0 hp) (xl0))))))) c_xf_word 94 mX6_word rfl h_xf_word (by decide +kernel) (by decide +kernel) (by decide) (vcs_by [w_xf_word_0_0] (by decide +kernel) (vc (v_xf_word_0_0 hp) vn)) (fmc (vcs_by [] (by decide +kernel) vn) (fmc (vcs_by [] (by decide +kernel) vn) fmn))
def c_au_X6_withPromise_0 : XC := (100, 5, (bT ++ [((-2147483648), 2147483647)]), [.inr (.inl 0), .inr (.inr none), .inl (some 14, 0)], (gX 999), [], [((bT ++ [((-2147483648), 2147483647), (0, 49), (0, 49), ((-2147483648), 2147483647), ((-2147483648), 2147483647)]), some (.inr (.inr none)), (hst (gX 999) [(5, .inr (.inr (.inr (0, [.inr (.inl 6), .inr (.inl 9), .inr (.inl 14), .inr (.inl 18), .inr (.inl 22), .inr (.inl 26), .inr (.inl 27), .inr (.inl 28), .inr (.inl 29), .inr (.inl 30), .inl (some 15, 0), .inl (some 16, 0), .inl (some 17, 0), .inl (some 18, 0), .inr (.inl 999)]))))]), (ansT 58 [(13, 58), (26, 59), (27, 60), (28, 61), (29, 62), (30, 63)]), 64, [(27, [], [58, 13])])])
def h_au_X6_withPromise_0 : List XH := [(6, (bT ++ [((-2147483648), 2147483647), (0, 4)]), [some (.inr (.inl 0)), some (.inr (.inr none)), none, some (.inl (some 14, 0)), some (.inr (.inr none)), none, some (.inl (some 15, 0))], (gX 999), (List.range 58), 58, [], [(true, (none, 1)), (true, (some 15, 0))])]
def w_au_X6_withPromise_0_1_0 : VC := ((bT ++ [((-2147483648), 2147483647), (4, 4), ((-2), 3), (0, 49), (0, 49), ((-2147483648), 2147483647), ((-2147483648), 2147483647), ((-2), 3), (0, 49), (0, 49), ((-2147483648), 2147483647), ((-2147483648), 2147483647), ((-2147483648), 2147483647), (0, 49), (0, 49), ((-2147483648), 2147483647), ((-2147483648), 2147483647), ((-2147483648), 2147483647), (0, 49), (0, 49), ((-2147483648), 2147483647), ((-2147483648), 2147483647)]), [(27, [], [74, 68]), (27, [], [68, 13]), (2, [(none, 3), (some 15, 0)], [])], (27, [], [74, 13]))
set_option maxRecDepth 20000 in
theorem v_au_X6_withPromise_0_1_0 {PT : PTy} (hp : HP15 PT) : vcOk PT w_au_X6_withPromise_0_1_0 := vc_iv [(15, 4, 4)] [13, 68, 74] (by decide +kernel) (fun ρ α => by
  intro r15 g15 b15 a13 h13 a68 h68 a74 h74 f0 f1 f2 tt
  simp only [hF2, hF27, den_s, den_c, Int.add_zero, List.map_cons, List.map_nil, g15.eq, h13, h68, h74] at f0 f1 f2 ⊢
  clear g15 h13 h68 h74 tt
  subst_vars
  first
    | rfl
    | assumption
    | exact upd_bk (by assumption))
set_option maxRecDepth 1000000 in
theorem k_au_X6_withPromise_0 {PT : PTy} (hp : HP15 PT) : wfX c_au_X6_withPromise_0 = true ∧ xcOk PT c_au_X6_withPromise_0 := xctr (xl (k_xo_promise hp.1.1.1.1.1.1.1.1.1) (xl (k_xf_stands hp) (xl (k_xf_due hp) (xl0)))) c_au_X6_withPromise_0 79 mX6_withPromise rfl h_au_X6_withPromise_0 (by decide +kernel) (by decide +kernel) (by decide) (vcs_by [] (by decide +kernel) vn) (fmc (vcs_by [w_au_X6_withPromise_0_1_0] (by decide +kernel) (vc (v_au_X6_withPromise_0_1_0 hp) vn)) fmn)
def c_au_X6_withCoat_0 : XC := (102, 5, (bT ++ [((-2147483648), 2147483647), ((-2147483648), 2147483647)]), [.inr (.inl 0), .inr (.inr none), .inl (some 14, 0), .inl (some 15, 0)], (gX 999), [], [((bT ++ [((-2147483648), 2147483647), ((-2147483648), 2147483647), (0, 49), (0, 49), ((-2147483648), 2147483647), ((-2147483648), 2147483647)]), some (.inr (.inr none)), (hst (gX 999) [(5, .inr (.inr (.inr (0, [.inr (.inl 6), .inr (.inl 9), .inr (.inl 14), .inr (.inl 18), .inr (.inl 22), .inr (.inl 26), .inr (.inl 27), .inr (.inl 28), .inr (.inl 29), .inr (.inl 30), .inl (some 16, 0), .inl (some 17, 0), .inl (some 18, 0), .inl (some 19, 0), .inr (.inl 999)]))))]), (ansT 58 [(26, 58), (27, 59), (28, 60), (29, 61), (30, 62)]), 63, [])])
def h_au_X6_withCoat_0 : List XH := []
set_option maxRecDepth 1000000 in
theorem k_au_X6_withCoat_0 {PT : PTy} (hp : HP15 PT) : wfX c_au_X6_withCoat_0 = true ∧ xcOk PT c_au_X6_withCoat_0 := xctr (xl (k_xf_coat hp) (xl0)) c_au_X6_withCoat_0 65 mX6_withCoat rfl h_au_X6_withCoat_0 (by decide +kernel) (by decide +kernel) (by decide) (vcs_by [] (by decide +kernel) vn) fmn
def c_au_X6_withPerson_0 : XC := (101, 6, (bT ++ [((-2147483648), 2147483647)]), [.inr (.inl 0), .inr (.inr none), .inl (some 14, 0)], (gX 999), [], [((bT ++ [((-2147483648), 2147483647), (0, 49), (0, 49), ((-2147483648), 2147483647), ((-2147483648), 2147483647)]), some (.inr (.inr none)), (hst (gX 999) [(5, .inr (.inr (.inr (0, [.inr (.inl 6), .inr (.inl 9), .inr (.inl 14), .inr (.inl 18), .inr (.inl 22), .inr (.inl 26), .inr (.inl 27), .inr (.inl 28), .inr (.inl 29), .inr (.inl 30), .inl (some 15, 0), .inl (some 16, 0), .inl (some 17, 0), .inl (some 18, 0), .inr (.inl 999)]))))]), [0, 1, 2, 3, 4, 5, 6, 58, 59, 9, 60, 61, 62, 63, 14, 15, 16, 17, 18, 19, 20, 21, 22, 23, 24, 25, 64, 65, 66, 67, 68, 31, 32, 33, 34, 35, 36, 37, 38, 39, 40, 41, 42, 43, 44, 45, 46, 47, 69, 70, 71, 72, 73, 74, 75, 76, 77, 78], 79, [(27, [], [58, 7]), (27, [], [59, 8]), (186, [(some 3, 0)], [60, 10]), (186, [(some 3, 0)], [61, 11]), (186, [(some 3, 0)], [62, 12]), (186, [(some 3, 0)], [63, 13])])])
def h_au_X6_withPerson_0 : List XH := []
def w_au_X6_withPerson_0_0_0 : VC := ((bT ++ [((-2147483648), 2147483647), ((-2), 9), ((-2), 9), (0, 49), (0, 49), ((-2147483648), 2147483647), ((-2147483648), 2147483647), (0, 49), (0, 49), ((-2147483648), 2147483647), ((-2147483648), 2147483647), (0, 49), (0, 49), ((-2147483648), 2147483647), ((-2147483648), 2147483647), (0, 49), (0, 49), ((-2147483648), 2147483647), ((-2147483648), 2147483647), ((-2), 9), (0, 49), (0, 49), ((-2147483648), 2147483647), ((-2147483648), 2147483647), ((-2147483648), 2147483647), (0, 49), (0, 49), ((-2147483648), 2147483647), ((-2147483648), 2147483647), ((-2147483648), 2147483647), (0, 49), (0, 49), ((-2147483648), 2147483647), ((-2147483648), 2147483647), ((-2), 23), (0, 49), (0, 49), ((-2147483648), 2147483647), ((-2147483648), 2147483647), (0, 49), (0, 49), ((-2147483648), 2147483647), ((-2147483648), 2147483647), (0, 49), (0, 49), ((-2147483648), 2147483647), ((-2147483648), 2147483647)]), [(27, [], [101, 95]), (27, [], [94, 87]), (27, [], [95, 88]), (27, [], [87, 7]), (27, [], [88, 8]), (186, [(some 3, 0)], [78, 10]), (186, [(some 3, 0)], [79, 11]), (186, [(some 3, 0)], [80, 12]), (186, [(some 3, 0)], [81, 13]), (112, [(some 16, 0), (some 14, 0), (none, 1), (some 2, 0)], [7, 8]), (112, [(some 15, 0), (some 14, 0), (none, 0), (some 2, 0)], [7, 8])], (27, [], [94, 7]))
theorem pe112_15 {PT : PTy} (hp : HP15 PT) : PT 112 = P_peX := hp.1.1.1.1.1.1.1.1.1.2.2.2.2.2.2.1
set_option maxRecDepth 20000 in
theorem v_au_X6_withPerson_0_0_0 {PT : PTy} (hp : HP15 PT) : vcOk PT w_au_X6_withPerson_0_0_0 := vc_iv [(2, 0, 8), (3, 0, 10), (14, (-2147483648), 2147483647), (15, (-2), 9), (16, (-2), 9)] [7, 8, 10, 11, 12, 13, 78, 79, 80, 81, 87, 88, 94, 95, 101] (by decide +kernel) (fun ρ α => by
  intro r2 g2 b2 r3 g3 b3 r14 g14 b14 r15 g15 b15 r16 g16 b16 a7 h7 a8 h8 a10 h10 a11 h11 a12 h12 a13 h13 a78 h78 a79 h79 a80 h80 a81 h81 a87 h87 a88 h88 a94 h94 a95 h95 a101 h101 f0 f1 f2 f3 f4 f5 f6 f7 f8 f9 f10 tt
  have e112 : PT 112 = P_peX := pe112_15 hp
  have e186 : PT 186 = P_al := pe186_15 hp
  simp only [hF27, hFp_112, hFp_186, e112, e186, P_peX, P_al, den_s, den_c, Int.add_zero, List.map_cons, List.map_nil, g2.eq, g3.eq, g14.eq, g15.eq, g16.eq, h7, h8, h10, h11, h12, h13, h78, h79, h80, h81, h87, h88, h94, h95, h101] at f0 f1 f2 f3 f4 f5 f6 f7 f8 f9 f10 ⊢
  clear g2 g3 g14 g15 g16 h7 h8 h10 h11 h12 h13 h78 h79 h80 h81 h87 h88 h94 h95 h101 e112 e186 tt
  subst_vars
  first
    | rfl
    | assumption
    | exact upd_bk (by assumption))
def w_au_X6_withPerson_0_0_1 : VC := ((bT ++ [((-2147483648), 2147483647), ((-2), 9), ((-2), 9), (0, 49), (0, 49), ((-2147483648), 2147483647), ((-2147483648), 2147483647), (0, 49), (0, 49), ((-2147483648), 2147483647), ((-2147483648), 2147483647), (0, 49), (0, 49), ((-2147483648), 2147483647), ((-2147483648), 2147483647), (0, 49), (0, 49), ((-2147483648), 2147483647), ((-2147483648), 2147483647), ((-2), 9), (0, 49), (0, 49), ((-2147483648), 2147483647), ((-2147483648), 2147483647), ((-2147483648), 2147483647), (0, 49), (0, 49), ((-2147483648), 2147483647), ((-2147483648), 2147483647), ((-2147483648), 2147483647), (0, 49), (0, 49), ((-2147483648), 2147483647), ((-2147483648), 2147483647), ((-2), 23), (0, 49), (0, 49), ((-2147483648), 2147483647), ((-2147483648), 2147483647), (0, 49), (0, 49), ((-2147483648), 2147483647), ((-2147483648), 2147483647), (0, 49), (0, 49), ((-2147483648), 2147483647), ((-2147483648), 2147483647)]), [(27, [], [101, 95]), (27, [], [94, 87]), (27, [], [95, 88]), (27, [], [87, 7]), (27, [], [88, 8]), (186, [(some 3, 0)], [78, 10]), (186, [(some 3, 0)], [79, 11]), (186, [(some 3, 0)], [80, 12]), (186, [(some 3, 0)], [81, 13]), (112, [(some 16, 0), (some 14, 0), (none, 1), (some 2, 0)], [7, 8]), (112, [(some 15, 0), (some 14, 0), (none, 0), (some 2, 0)], [7, 8])], (27, [], [101, 8]))
set_option maxRecDepth 20000 in
theorem v_au_X6_withPerson_0_0_1 {PT : PTy} (hp : HP15 PT) : vcOk PT w_au_X6_withPerson_0_0_1 := vc_iv [(2, 0, 8), (3, 0, 10), (14, (-2147483648), 2147483647), (15, (-2), 9), (16, (-2), 9)] [7, 8, 10, 11, 12, 13, 78, 79, 80, 81, 87, 88, 94, 95, 101] (by decide +kernel) (fun ρ α => by
  intro r2 g2 b2 r3 g3 b3 r14 g14 b14 r15 g15 b15 r16 g16 b16 a7 h7 a8 h8 a10 h10 a11 h11 a12 h12 a13 h13 a78 h78 a79 h79 a80 h80 a81 h81 a87 h87 a88 h88 a94 h94 a95 h95 a101 h101 f0 f1 f2 f3 f4 f5 f6 f7 f8 f9 f10 tt
  have e112 : PT 112 = P_peX := pe112_15 hp
  have e186 : PT 186 = P_al := pe186_15 hp
  simp only [hF27, hFp_112, hFp_186, e112, e186, P_peX, P_al, den_s, den_c, Int.add_zero, List.map_cons, List.map_nil, g2.eq, g3.eq, g14.eq, g15.eq, g16.eq, h7, h8, h10, h11, h12, h13, h78, h79, h80, h81, h87, h88, h94, h95, h101] at f0 f1 f2 f3 f4 f5 f6 f7 f8 f9 f10 ⊢
  clear g2 g3 g14 g15 g16 h7 h8 h10 h11 h12 h13 h78 h79 h80 h81 h87 h88 h94 h95 h101 e112 e186 tt
  subst_vars
  first
    | rfl
    | assumption
    | exact upd_bk (by assumption))
set_option maxRecDepth 1000000 in
theorem k_au_X6_withPerson_0 {PT : PTy} (hp : HP15 PT) : wfX c_au_X6_withPerson_0 = true ∧ xcOk PT c_au_X6_withPerson_0 := xctr (xl (k_xo_person hp.1.1.1.1.1.1.1.1.1) (xl (k_xf_swear hp) (xl (k_xf_was hp) (xl (k_xf_ask hp) (xl (k_xf_word hp) (xl (k_au_X6_withCoat_0 hp) (xl0))))))) c_au_X6_withPerson_0 157 mX6_withPerson rfl h_au_X6_withPerson_0 (by decide +kernel) (by decide +kernel) (by decide) (vcs_by [w_au_X6_withPerson_0_0_0, w_au_X6_withPerson_0_0_1] (by decide +kernel) (vc (v_au_X6_withPerson_0_0_0 hp) (vc (v_au_X6_withPerson_0_0_1 hp) vn))) fmn
def c_xf_digest : XC := (79, 7, (bT), [.inr (.inl 0)], (gX 999), [], [((bT ++ [(0, 49), (0, 49), ((-2147483648), 2147483647), ((-2147483648), 2147483647), (0, 9)]), some (.inr (.inr none)), (hst (gX 999) [(5, .inr (.inr (.inr (0, [.inr (.inl 6), .inr (.inl 9), .inr (.inl 14), .inr (.inl 18), .inr (.inl 22), .inr (.inl 26), .inr (.inl 27), .inr (.inl 28), .inr (.inl 29), .inr (.inl 30), .inl (some 14, 0), .inl (some 15, 0), .inl (some 16, 0), .inl (some 17, 0), .inr (.inl 999)])))), (35, .inr (.inr (.inr (4, [.inr (.inl 36), .inr (.inl 37), .inr (.inl 38), .inl (none, 8), .inl (some 18, 0)]))))]), [0, 1, 2, 3, 4, 5, 6, 58, 59, 9, 60, 61, 62, 63, 14, 64, 65, 66, 18, 19, 20, 21, 22, 23, 24, 25, 67, 68, 69, 70, 71, 31, 32, 33, 34, 35, 72, 73, 74, 39, 40, 41, 42, 43, 44, 45, 46, 47, 75, 76, 77, 78, 79, 80, 81, 82, 83, 84], 85, [(27, [], [58, 7]), (27, [], [59, 8]), (186, [(some 3, 0)], [60, 10]), (186, [(some 3, 0)], [61, 11]), (186, [(some 3, 0)], [62, 12]), (186, [(some 3, 0)], [63, 13]), (186, [(some 4, 0)], [64, 15]), (186, [(some 4, 0)], [65, 16])])])
def h_xf_digest : List XH := [(105, (bT ++ [(0, 24), (0, 49), (0, 49), ((-2147483648), 2147483647), ((-2147483648), 2147483647)]), [some (.inr (.inl 0)), some (.inr (.inr none)), none, some (.inl (some 14, 0))], (hst (gX 999) [(5, .inr (.inr (.inr (0, [.inr (.inl 6), .inr (.inl 9), .inr (.inl 14), .inr (.inl 18), .inr (.inl 22), .inr (.inl 26), .inr (.inl 27), .inr (.inl 28), .inr (.inl 29), .inr (.inl 30), .inl (some 15, 0), .inl (some 16, 0), .inl (some 17, 0), .inl (some 18, 0), .inr (.inl 999)]))))]), [0, 1, 2, 3, 4, 5, 6, 58, 59, 9, 60, 61, 62, 63, 14, 15, 16, 17, 18, 19, 20, 21, 22, 23, 24, 25, 64, 65, 66, 67, 68, 31, 32, 33, 34, 35, 36, 37, 38, 39, 40, 41, 42, 43, 44, 45, 46, 47, 69, 70, 71, 72, 73, 74, 75, 76, 77, 78], 79, [(27, [], [58, 7]), (27, [], [59, 8]), (186, [(some 3, 0)], [60, 10]), (186, [(some 3, 0)], [61, 11]), (186, [(some 3, 0)], [62, 12]), (186, [(some 3, 0)], [63, 13]), (186, [(some 4, 0)], [15, 15]), (186, [(some 4, 0)], [16, 16])], [(true, (none, 4)), (true, (some 14, 0))]),
  (53, (bT ++ [(0, 10), (0, 49), (0, 49), ((-2147483648), 2147483647), ((-2147483648), 2147483647)]), [some (.inr (.inl 0)), some (.inr (.inr none)), none, some (.inl (some 14, 0))], (hst (gX 999) [(5, .inr (.inr (.inr (0, [.inr (.inl 6), .inr (.inl 9), .inr (.inl 14), .inr (.inl 18), .inr (.inl 22), .inr (.inl 26), .inr (.inl 27), .inr (.inl 28), .inr (.inl 29), .inr (.inl 30), .inl (some 15, 0), .inl (some 16, 0), .inl (some 17, 0), .inl (some 18, 0), .inr (.inl 999)]))))]), (ansT 58 [(13, 58), (26, 59), (27, 60), (28, 61), (29, 62), (30, 63)]), 64, [(27, [], [7, 7]), (27, [], [8, 8]), (186, [(some 3, 0)], [10, 10]), (186, [(some 3, 0)], [11, 11]), (186, [(some 3, 0)], [12, 12]), (186, [(some 3, 0)], [58, 13]), (186, [(some 4, 0)], [15, 15]), (186, [(some 4, 0)], [16, 16])], [(true, (none, 2)), (true, (some 14, 0))]),
  (6, (bT ++ [(0, 8)]), [some (.inr (.inl 0)), some (.inr (.inr none)), none, some (.inl (some 14, 0))], (gX 999), (List.range 58), 58, [(27, [], [7, 7]), (27, [], [8, 8]), (186, [(some 3, 0)], [10, 10]), (186, [(some 3, 0)], [11, 11]), (186, [(some 3, 0)], [12, 12]), (186, [(some 3, 0)], [13, 13]), (186, [(some 4, 0)], [15, 15]), (186, [(some 4, 0)], [16, 16])], [(true, (none, 1)), (true, (some 14, 0))]),
  (79, (bT ++ [(0, 8), (0, 49), (0, 49), ((-2147483648), 2147483647), ((-2147483648), 2147483647)]), [some (.inr (.inl 0)), some (.inr (.inr none)), none, some (.inl (some 14, 0))], (hst (gX 999) [(5, .inr (.inr (.inr (0, [.inr (.inl 6), .inr (.inl 9), .inr (.inl 14), .inr (.inl 18), .inr (.inl 22), .inr (.inl 26), .inr (.inl 27), .inr (.inl 28), .inr (.inl 29), .inr (.inl 30), .inl (some 15, 0), .inl (some 16, 0), .inl (some 17, 0), .inl (some 18, 0), .inr (.inl 999)]))))]), [0, 1, 2, 3, 4, 5, 6, 58, 59, 9, 60, 61, 62, 63, 14, 15, 16, 17, 18, 19, 20, 21, 22, 23, 24, 25, 64, 65, 66, 67, 68, 31, 32, 33, 34, 35, 36, 37, 38, 39, 40, 41, 42, 43, 44, 45, 46, 47, 69, 70, 71, 72, 73, 74, 75, 76, 77, 78], 79, [(27, [], [58, 7]), (27, [], [59, 8]), (186, [(some 3, 0)], [60, 10]), (186, [(some 3, 0)], [61, 11]), (186, [(some 3, 0)], [62, 12]), (186, [(some 3, 0)], [63, 13]), (186, [(some 4, 0)], [15, 15]), (186, [(some 4, 0)], [16, 16])], [(true, (none, 3)), (true, (some 14, 0))])]
def w_xf_digest_0_0 : VC := ((bT), [], (27, [], [7, 7]))
theorem v_xf_digest_0_0 {PT : PTy} (_ : HP15 PT) : vcOk PT w_xf_digest_0_0 := vc_of (fun ρ α _ _ => rfl)
def w_xf_digest_0_1 : VC := ((bT), [], (27, [], [8, 8]))
theorem v_xf_digest_0_1 {PT : PTy} (_ : HP15 PT) : vcOk PT w_xf_digest_0_1 := vc_of (fun ρ α _ _ => rfl)
def w_xf_digest_0_2 : VC := ((bT), [], (186, [(some 3, 0)], [10, 10]))
set_option maxRecDepth 20000 in
theorem v_xf_digest_0_2 {PT : PTy} (hp : HP15 PT) : vcOk PT w_xf_digest_0_2 := vc_iv [(3, 0, 10)] [10] (by decide +kernel) (fun ρ α => by
  intro r3 g3 b3 a10 h10 tt
  have e186 : PT 186 = P_al := pe186_15 hp
  simp only [hFp_186, e186, P_al, den_s, den_c, Int.add_zero, List.map_cons, List.map_nil, g3.eq, h10] at ⊢
  clear g3 h10 e186 tt
  subst_vars
  first
    | exact fun i h1 h2 => (by first | rfl | trivial)
    | assumption
    | exact al_up (Int.le_refl _) (by assumption)
    | exact al_up (Int.le_refl _) (fun i h1 h2 => rfl)
    | exact al_tr (by assumption) (by assumption))
def w_xf_digest_0_3 : VC := ((bT), [], (186, [(some 3, 0)], [11, 11]))
set_option maxRecDepth 20000 in
theorem v_xf_digest_0_3 {PT : PTy} (hp : HP15 PT) : vcOk PT w_xf_digest_0_3 := vc_iv [(3, 0, 10)] [11] (by decide +kernel) (fun ρ α => by
  intro r3 g3 b3 a11 h11 tt
  have e186 : PT 186 = P_al := pe186_15 hp
  simp only [hFp_186, e186, P_al, den_s, den_c, Int.add_zero, List.map_cons, List.map_nil, g3.eq, h11] at ⊢
  clear g3 h11 e186 tt
  subst_vars
  first
    | exact fun i h1 h2 => (by first | rfl | trivial)
    | assumption
    | exact al_up (Int.le_refl _) (by assumption)
    | exact al_up (Int.le_refl _) (fun i h1 h2 => rfl)
    | exact al_tr (by assumption) (by assumption))
def w_xf_digest_0_4 : VC := ((bT), [], (186, [(some 3, 0)], [12, 12]))
set_option maxRecDepth 20000 in
theorem v_xf_digest_0_4 {PT : PTy} (hp : HP15 PT) : vcOk PT w_xf_digest_0_4 := vc_iv [(3, 0, 10)] [12] (by decide +kernel) (fun ρ α => by
  intro r3 g3 b3 a12 h12 tt
  have e186 : PT 186 = P_al := pe186_15 hp
  simp only [hFp_186, e186, P_al, den_s, den_c, Int.add_zero, List.map_cons, List.map_nil, g3.eq, h12] at ⊢
  clear g3 h12 e186 tt
  subst_vars
  first
    | exact fun i h1 h2 => (by first | rfl | trivial)
    | assumption
    | exact al_up (Int.le_refl _) (by assumption)
    | exact al_up (Int.le_refl _) (fun i h1 h2 => rfl)
    | exact al_tr (by assumption) (by assumption))
def w_xf_digest_0_5 : VC := ((bT), [], (186, [(some 3, 0)], [13, 13]))
set_option maxRecDepth 20000 in
theorem v_xf_digest_0_5 {PT : PTy} (hp : HP15 PT) : vcOk PT w_xf_digest_0_5 := vc_iv [(3, 0, 10)] [13] (by decide +kernel) (fun ρ α => by
  intro r3 g3 b3 a13 h13 tt
  have e186 : PT 186 = P_al := pe186_15 hp
  simp only [hFp_186, e186, P_al, den_s, den_c, Int.add_zero, List.map_cons, List.map_nil, g3.eq, h13] at ⊢
  clear g3 h13 e186 tt
  subst_vars
  first
    | exact fun i h1 h2 => (by first | rfl | trivial)
    | assumption
    | exact al_up (Int.le_refl _) (by assumption)
    | exact al_up (Int.le_refl _) (fun i h1 h2 => rfl)
    | exact al_tr (by assumption) (by assumption))
def w_xf_digest_0_6 : VC := ((bT), [], (186, [(some 4, 0)], [15, 15]))
set_option maxRecDepth 20000 in
theorem v_xf_digest_0_6 {PT : PTy} (hp : HP15 PT) : vcOk PT w_xf_digest_0_6 := vc_iv [(4, 0, 8)] [15] (by decide +kernel) (fun ρ α => by
  intro r4 g4 b4 a15 h15 tt
  have e186 : PT 186 = P_al := pe186_15 hp
  simp only [hFp_186, e186, P_al, den_s, den_c, Int.add_zero, List.map_cons, List.map_nil, g4.eq, h15] at ⊢
  clear g4 h15 e186 tt
  subst_vars
  first
    | exact fun i h1 h2 => (by first | rfl | trivial)
    | assumption
    | exact al_up (Int.le_refl _) (by assumption)
    | exact al_up (Int.le_refl _) (fun i h1 h2 => rfl)
    | exact al_tr (by assumption) (by assumption))
def w_xf_digest_0_7 : VC := ((bT), [], (186, [(some 4, 0)], [16, 16]))
set_option maxRecDepth 20000 in
theorem v_xf_digest_0_7 {PT : PTy} (hp : HP15 PT) : vcOk PT w_xf_digest_0_7 := vc_iv [(4, 0, 8)] [16] (by decide +kernel) (fun ρ α => by
  intro r4 g4 b4 a16 h16 tt
  have e186 : PT 186 = P_al := pe186_15 hp
  simp only [hFp_186, e186, P_al, den_s, den_c, Int.add_zero, List.map_cons, List.map_nil, g4.eq, h16] at ⊢
  clear g4 h16 e186 tt
  subst_vars
  first
    | exact fun i h1 h2 => (by first | rfl | trivial)
    | assumption
    | exact al_up (Int.le_refl _) (by assumption)
    | exact al_up (Int.le_refl _) (fun i h1 h2 => rfl)
    | exact al_tr (by assumption) (by assumption))
def w_xf_digest_1_0 : VC := ((bT ++ [(24, 24), (0, 49), (0, 49), ((-2147483648), 2147483647), ((-2147483648), 2147483647), ((-2147483648), 2147483647), (0, 49), (0, 49), ((-1), 23), (0, 49), (0, 49), ((-2147483648), 2147483647), ((-2147483648), 2147483647), ((-2), 2147483647), (0, 49), (0, 49), ((-2147483648), 2147483647), ((-2147483648), 2147483647), ((-2), 2147483647), (0, 49), (0, 49), ((-2147483648), 2147483647), ((-2147483648), 2147483647), ((-2147483648), 2147483647), (0, 49), (0, 49), ((-2147483648), 2147483647), ((-2147483648), 2147483647), ((-2147483648), 2147483647), (0, 49), (0, 49), ((-2147483648), 2147483647), ((-2147483648), 2147483647), ((-2147483648), 2147483647), (0, 49), (0, 49), ((-2147483648), 2147483647), ((-2147483648), 2147483647), (0, 49), (0, 49), ((-2147483648), 2147483647), ((-2147483648), 2147483647), (0, 9), ((-2147483648), 2147483647), (0, 49), (0, 49), ((-2147483648), 2147483647), ((-2147483648), 2147483647), (0, 9)]), [(186, [(some 4, 0)], [97, 89]), (186, [(some 4, 0)], [98, 90]), (186, [(some 4, 0)], [89, 15]), (186, [(some 4, 0)], [90, 16]), (3, [(some 14, 0), (none, 24)], []), (27, [], [58, 7]), (27, [], [59, 8]), (186, [(some 3, 0)], [60, 10]), (186, [(some 3, 0)], [61, 11]), (186, [(some 3, 0)], [62, 12]), (186, [(some 3, 0)], [63, 13]), (186, [(some 4, 0)], [15, 15]), (186, [(some 4, 0)], [16, 16])], (186, [(some 4, 0)], [97, 15]))
set_option maxRecDepth 20000 in
theorem v_xf_digest_1_0 {PT : PTy} (hp : HP15 PT) : vcOk PT w_xf_digest_1_0 := vc_iv [(3, 0, 10), (4, 0, 8), (14, 24, 24)] [7, 8, 10, 11, 12, 13, 15, 16, 58, 59, 60, 61, 62, 63, 89, 90, 97, 98] (by decide +kernel) (fun ρ α => by
  intro r3 g3 b3 r4 g4 b4 r14 g14 b14 a7 h7 a8 h8 a10 h10 a11 h11 a12 h12 a13 h13 a15 h15 a16 h16 a58 h58 a59 h59 a60 h60 a61 h61 a62 h62 a63 h63 a89 h89 a90 h90 a97 h97 a98 h98 f0 f1 f2 f3 f4 f5 f6 f7 f8 f9 f10 f11 f12 tt
  have e186 : PT 186 = P_al := pe186_15 hp
  simp only [hF3, hF27, hFp_186, e186, P_al, den_s, den_c, Int.add_zero, List.map_cons, List.map_nil, g3.eq, g4.eq, g14.eq, h7, h8, h10, h11, h12, h13, h15, h16, h58, h59, h60, h61, h62, h63, h89, h90, h97, h98] at f0 f1 f2 f3 f4 f5 f6 f7 f8 f9 f10 f11 f12 ⊢
  clear g3 g4 g14 h7 h8 h10 h11 h12 h13 h15 h16 h58 h59 h60 h61 h62 h63 h89 h90 h97 h98 e186 tt
  subst_vars
  first
    | exact fun i h1 h2 => (by first | rfl | trivial)
    | assumption
    | exact al_up (Int.le_refl _) (by assumption)
    | exact al_up (Int.le_refl _) (fun i h1 h2 => rfl)
    | exact al_tr (by assumption) (by assumption))
def w_xf_digest_1_1 : VC := ((bT ++ [(24, 24), (0, 49), (0, 49), ((-2147483648), 2147483647), ((-2147483648), 2147483647), ((-2147483648), 2147483647), (0, 49), (0, 49), ((-1), 23), (0, 49), (0, 49), ((-2147483648), 2147483647), ((-2147483648), 2147483647), ((-2), 2147483647), (0, 49), (0, 49), ((-2147483648), 2147483647), ((-2147483648), 2147483647), ((-2), 2147483647), (0, 49), (0, 49), ((-2147483648), 2147483647), ((-2147483648), 2147483647), ((-2147483648), 2147483647), (0, 49), (0, 49), ((-2147483648), 2147483647), ((-2147483648), 2147483647), ((-2147483648), 2147483647), (0, 49), (0, 49), ((-2147483648), 2147483647), ((-2147483648), 2147483647), ((-2147483648), 2147483647), (0, 49), (0, 49), ((-2147483648), 2147483647), ((-2147483648), 2147483647), (0, 49), (0, 49), ((-2147483648), 2147483647), ((-2147483648), 2147483647), (0, 9), ((-2147483648), 2147483647), (0, 49), (0, 49), ((-2147483648), 2147483647), ((-2147483648), 2147483647), (0, 9)]), [(186, [(some 4, 0)], [97, 89]), (186, [(some 4, 0)], [98, 90]), (186, [(some 4, 0)], [89, 15]), (186, [(some 4, 0)], [90, 16]), (3, [(some 14, 0), (none, 24)], []), (27, [], [58, 7]), (27, [], [59, 8]), (186, [(some 3, 0)], [60, 10]), (186, [(some 3, 0)], [61, 11]), (186, [(some 3, 0)], [62, 12]), (186, [(some 3, 0)], [63, 13]), (186, [(some 4, 0)], [15, 15]), (186, [(some 4, 0)], [16, 16])], (186, [(some 4, 0)], [98, 16]))
set_option maxRecDepth 20000 in
theorem v_xf_digest_1_1 {PT : PTy} (hp : HP15 PT) : vcOk PT w_xf_digest_1_1 := vc_iv [(3, 0, 10), (4, 0, 8), (14, 24, 24)] [7, 8, 10, 11, 12, 13, 15, 16, 58, 59, 60, 61, 62, 63, 89, 90, 97, 98] (by decide +kernel) (fun ρ α => by
  intro r3 g3 b3 r4 g4 b4 r14 g14 b14 a7 h7 a8 h8 a10 h10 a11 h11 a12 h12 a13 h13 a15 h15 a16 h16 a58 h58 a59 h59 a60 h60 a61 h61 a62 h62 a63 h63 a89 h89 a90 h90 a97 h97 a98 h98 f0 f1 f2 f3 f4 f5 f6 f7 f8 f9 f10 f11 f12 tt
  have e186 : PT 186 = P_al := pe186_15 hp
  simp only [hF3, hF27, hFp_186, e186, P_al, den_s, den_c, Int.add_zero, List.map_cons, List.map_nil, g3.eq, g4.eq, g14.eq, h7, h8, h10, h11, h12, h13, h15, h16, h58, h59, h60, h61, h62, h63, h89, h90, h97, h98] at f0 f1 f2 f3 f4 f5 f6 f7 f8 f9 f10 f11 f12 ⊢
  clear g3 g4 g14 h7 h8 h10 h11 h12 h13 h15 h16 h58 h59 h60 h61 h62 h63 h89 h90 h97 h98 e186 tt
  subst_vars
  first
    | exact fun i h1 h2 => (by first | rfl | trivial)
    | assumption
    | exact al_up (Int.le_refl _) (by assumption)
    | exact al_up (Int.le_refl _) (fun i h1 h2 => rfl)
    | exact al_tr (by assumption) (by assumption))
def w_xf_digest_2_0 : VC := (([(0, 23), (0, 49), (0, 8), (1, 10), (0, 8), (0, 6), (0, 6), (0, 8), (0, 9), (0, 49), (0, 49), ((-2147483648), 2147483647), ((-2147483648), 2147483647), (0, 5), (0, 9), (0, 49), (0, 49), ((-2147483648), 2147483647), ((-2147483648), 2147483647), (0, 49), (0, 49), ((-2147483648), 2147483647), ((-2147483648), 2147483647)]), [(27, [], [64, 58]), (2, [(some 14, 0), (some 3, 0)], []), (27, [], [7, 7]), (27, [], [8, 8]), (186, [(some 3, 0)], [10, 10]), (186, [(some 3, 0)], [11, 11]), (186, [(some 3, 0)], [12, 12]), (186, [(some 3, 0)], [58, 13]), (186, [(some 4, 0)], [15, 15]), (186, [(some 4, 0)], [16, 16])], (186, [(some 3, 0)], [64, 13]))
set_option maxRecDepth 20000 in
theorem v_xf_digest_2_0 {PT : PTy} (hp : HP15 PT) : vcOk PT w_xf_digest_2_0 := vc_iv [(3, 1, 10), (4, 0, 8), (14, 0, 9)] [7, 8, 10, 11, 12, 13, 15, 16, 58, 64] (by decide +kernel) (fun ρ α => by
  intro r3 g3 b3 r4 g4 b4 r14 g14 b14 a7 h7 a8 h8 a10 h10 a11 h11 a12 h12 a13 h13 a15 h15 a16 h16 a58 h58 a64 h64 f0 f1 f2 f3 f4 f5 f6 f7 f8 f9 tt
  have e186 : PT 186 = P_al := pe186_15 hp
  simp only [hF2, hF27, hFp_186, e186, P_al, den_s, den_c, Int.add_zero, List.map_cons, List.map_nil, g3.eq, g4.eq, g14.eq, h7, h8, h10, h11, h12, h13, h15, h16, h58, h64] at f0 f1 f2 f3 f4 f5 f6 f7 f8 f9 ⊢
  clear g3 g4 g14 h7 h8 h10 h11 h12 h13 h15 h16 h58 h64 e186 tt
  subst_vars
  first
    | exact fun i h1 h2 => (by first | rfl | trivial)
    | assumption
    | exact al_up (Int.le_refl _) (by assumption)
    | exact al_up (Int.le_refl _) (fun i h1 h2 => rfl)
    | exact al_tr (by assumption) (by assumption))
def w_xf_digest_4_0 : VC := (([(0, 23), (0, 49), (1, 8), (0, 10), (0, 8), (0, 6), (0, 6), (0, 8), (0, 9), (0, 49), (0, 49), ((-2147483648), 2147483647), ((-2147483648), 2147483647), (0, 5), (0, 7), (0, 49), (0, 49), ((-2147483648), 2147483647), ((-2147483648), 2147483647), (0, 49), (0, 49), ((-2147483648), 2147483647), ((-2147483648), 2147483647)]), [(27, [], [79, 58]), (27, [], [80, 59]), (186, [(some 3, 0)], [81, 60]), (186, [(some 3, 0)], [82, 61]), (186, [(some 3, 0)], [83, 62]), (186, [(some 3, 0)], [84, 63]), (2, [(some 14, 0), (some 2, 0)], []), (27, [], [58, 7]), (27, [], [59, 8]), (186, [(some 3, 0)], [60, 10]), (186, [(some 3, 0)], [61, 11]), (186, [(some 3, 0)], [62, 12]), (186, [(some 3, 0)], [63, 13]), (186, [(some 4, 0)], [15, 15]), (186, [(some 4, 0)], [16, 16])], (27, [], [79, 7]))
set_option maxRecDepth 20000 in
theorem v_xf_digest_4_0 {PT : PTy} (hp : HP15 PT) : vcOk PT w_xf_digest_4_0 := vc_iv [(2, 1, 8), (3, 0, 10), (4, 0, 8), (14, 0, 7)] [7, 8, 10, 11, 12, 13, 15, 16, 58, 59, 60, 61, 62, 63, 79, 80, 81, 82, 83, 84] (by decide +kernel) (fun ρ α => by
  intro r2 g2 b2 r3 g3 b3 r4 g4 b4 r14 g14 b14 a7 h7 a8 h8 a10 h10 a11 h11 a12 h12 a13 h13 a15 h15 a16 h16 a58 h58 a59 h59 a60 h60 a61 h61 a62 h62 a63 h63 a79 h79 a80 h80 a81 h81 a82 h82 a83 h83 a84 h84 f0 f1 f2 f3 f4 f5 f6 f7 f8 f9 f10 f11 f12 f13 f14 tt
  have e186 : PT 186 = P_al := pe186_15 hp
  simp only [hF2, hF27, hFp_186, e186, P_al, den_s, den_c, Int.add_zero, List.map_cons, List.map_nil, g2.eq, g3.eq, g4.eq, g14.eq, h7, h8, h10, h11, h12, h13, h15, h16, h58, h59, h60, h61, h62, h63, h79, h80, h81, h82, h83, h84] at f0 f1 f2 f3 f4 f5 f6 f7 f8 f9 f10 f11 f12 f13 f14 ⊢
  clear g2 g3 g4 g14 h7 h8 h10 h11 h12 h13 h15 h16 h58 h59 h60 h61 h62 h63 h79 h80 h81 h82 h83 h84 e186 tt
  subst_vars
  first
    | rfl
    | assumption
    | exact upd_bk (by assumption))
def w_xf_digest_4_1 : VC := (([(0, 23), (0, 49), (1, 8), (0, 10), (0, 8), (0, 6), (0, 6), (0, 8), (0, 9), (0, 49), (0, 49), ((-2147483648), 2147483647), ((-2147483648), 2147483647), (0, 5), (0, 7), (0, 49), (0, 49), ((-2147483648), 2147483647), ((-2147483648), 2147483647), (0, 49), (0, 49), ((-2147483648), 2147483647), ((-2147483648), 2147483647)]), [(27, [], [79, 58]), (27, [], [80, 59]), (186, [(some 3, 0)], [81, 60]), (186, [(some 3, 0)], [82, 61]), (186, [(some 3, 0)], [83, 62]), (186, [(some 3, 0)], [84, 63]), (2, [(some 14, 0), (some 2, 0)], []), (27, [], [58, 7]), (27, [], [59, 8]), (186, [(some 3, 0)], [60, 10]), (186, [(some 3, 0)], [61, 11]), (186, [(some 3, 0)], [62, 12]), (186, [(some 3, 0)], [63, 13]), (186, [(some 4, 0)], [15, 15]), (186, [(some 4, 0)], [16, 16])], (27, [], [80, 8]))
set_option maxRecDepth 20000 in
theorem v_xf_digest_4_1 {PT : PTy} (hp : HP15 PT) : vcOk PT w_xf_digest_4_1 := vc_iv [(2, 1, 8), (3, 0, 10), (4, 0, 8), (14, 0, 7)] [7, 8, 10, 11, 12, 13, 15, 16, 58, 59, 60, 61, 62, 63, 79, 80, 81, 82, 83, 84] (by decide +kernel) (fun ρ α => by
  intro r2 g2 b2 r3 g3 b3 r4 g4 b4 r14 g14 b14 a7 h7 a8 h8 a10 h10 a11 h11 a12 h12 a13 h13 a15 h15 a16 h16 a58 h58 a59 h59 a60 h60 a61 h61 a62 h62 a63 h63 a79 h79 a80 h80 a81 h81 a82 h82 a83 h83 a84 h84 f0 f1 f2 f3 f4 f5 f6 f7 f8 f9 f10 f11 f12 f13 f14 tt
  have e186 : PT 186 = P_al := pe186_15 hp
  simp only [hF2, hF27, hFp_186, e186, P_al, den_s, den_c, Int.add_zero, List.map_cons, List.map_nil, g2.eq, g3.eq, g4.eq, g14.eq, h7, h8, h10, h11, h12, h13, h15, h16, h58, h59, h60, h61, h62, h63, h79, h80, h81, h82, h83, h84] at f0 f1 f2 f3 f4 f5 f6 f7 f8 f9 f10 f11 f12 f13 f14 ⊢
  clear g2 g3 g4 g14 h7 h8 h10 h11 h12 h13 h15 h16 h58 h59 h60 h61 h62 h63 h79 h80 h81 h82 h83 h84 e186 tt
  subst_vars
  first
    | rfl
    | assumption
    | exact upd_bk (by assumption))
def w_xf_digest_4_2 : VC := (([(0, 23), (0, 49), (1, 8), (0, 10), (0, 8), (0, 6), (0, 6), (0, 8), (0, 9), (0, 49), (0, 49), ((-2147483648), 2147483647), ((-2147483648), 2147483647), (0, 5), (0, 7), (0, 49), (0, 49), ((-2147483648), 2147483647), ((-2147483648), 2147483647), (0, 49), (0, 49), ((-2147483648), 2147483647), ((-2147483648), 2147483647)]), [(27, [], [79, 58]), (27, [], [80, 59]), (186, [(some 3, 0)], [81, 60]), (186, [(some 3, 0)], [82, 61]), (186, [(some 3, 0)], [83, 62]), (186, [(some 3, 0)], [84, 63]), (2, [(some 14, 0), (some 2, 0)], []), (27, [], [58, 7]), (27, [], [59, 8]), (186, [(some 3, 0)], [60, 10]), (186, [(some 3, 0)], [61, 11]), (186, [(some 3, 0)], [62, 12]), (186, [(some 3, 0)], [63, 13]), (186, [(some 4, 0)], [15, 15]), (186, [(some 4, 0)], [16, 16])], (186, [(some 3, 0)], [81, 10]))
set_option maxRecDepth 20000 in
theorem v_xf_digest_4_2 {PT : PTy} (hp : HP15 PT) : vcOk PT w_xf_digest_4_2 := vc_iv [(2, 1, 8), (3, 0, 10), (4, 0, 8), (14, 0, 7)] [7, 8, 10, 11, 12, 13, 15, 16, 58, 59, 60, 61, 62, 63, 79, 80, 81, 82, 83, 84] (by decide +kernel) (fun ρ α => by
  intro r2 g2 b2 r3 g3 b3 r4 g4 b4 r14 g14 b14 a7 h7 a8 h8 a10 h10 a11 h11 a12 h12 a13 h13 a15 h15 a16 h16 a58 h58 a59 h59 a60 h60 a61 h61 a62 h62 a63 h63 a79 h79 a80 h80 a81 h81 a82 h82 a83 h83 a84 h84 f0 f1 f2 f3 f4 f5 f6 f7 f8 f9 f10 f11 f12 f13 f14 tt
  have e186 : PT 186 = P_al := pe186_15 hp
  simp only [hF2, hF27, hFp_186, e186, P_al, den_s, den_c, Int.add_zero, List.map_cons, List.map_nil, g2.eq, g3.eq, g4.eq, g14.eq, h7, h8, h10, h11, h12, h13, h15, h16, h58, h59, h60, h61, h62, h63, h79, h80, h81, h82, h83, h84] at f0 f1 f2 f3 f4 f5 f6 f7 f8 f9 f10 f11 f12 f13 f14 ⊢
  clear g2 g3 g4 g14 h7 h8 h10 h11 h12 h13 h15 h16 h58 h59 h60 h61 h62 h63 h79 h80 h81 h82 h83 h84 e186 tt
  subst_vars
  first
    | exact fun i h1 h2 => (by first | rfl | trivial)
    | assumption
    | exact al_up (Int.le_refl _) (by assumption)
    | exact al_up (Int.le_refl _) (fun i h1 h2 => rfl)
    | exact al_tr (by assumption) (by assumption))
def w_xf_digest_4_3 : VC := (([(0, 23), (0, 49), (1, 8), (0, 10), (0, 8), (0, 6), (0, 6), (0, 8), (0, 9), (0, 49), (0, 49), ((-2147483648), 2147483647), ((-2147483648), 2147483647), (0, 5), (0, 7), (0, 49), (0, 49), ((-2147483648), 2147483647), ((-2147483648), 2147483647), (0, 49), (0, 49), ((-2147483648), 2147483647), ((-2147483648), 2147483647)]), [(27, [], [79, 58]), (27, [], [80, 59]), (186, [(some 3, 0)], [81, 60]), (186, [(some 3, 0)], [82, 61]), (186, [(some 3, 0)], [83, 62]), (186, [(some 3, 0)], [84, 63]), (2, [(some 14, 0), (some 2, 0)], []), (27, [], [58, 7]), (27, [], [59, 8]), (186, [(some 3, 0)], [60, 10]), (186, [(some 3, 0)], [61, 11]), (186, [(some 3, 0)], [62, 12]), (186, [(some 3, 0)], [63, 13]), (186, [(some 4, 0)], [15, 15]), (186, [(some 4, 0)], [16, 16])], (186, [(some 3, 0)], [82, 11]))
set_option maxRecDepth 20000 in
theorem v_xf_digest_4_3 {PT : PTy} (hp : HP15 PT) : vcOk PT w_xf_digest_4_3 := vc_iv [(2, 1, 8), (3, 0, 10), (4, 0, 8), (14, 0, 7)] [7, 8, 10, 11, 12, 13, 15, 16, 58, 59, 60, 61, 62, 63, 79, 80, 81, 82, 83, 84] (by decide +kernel) (fun ρ α => by
  intro r2 g2 b2 r3 g3 b3 r4 g4 b4 r14 g14 b14 a7 h7 a8 h8 a10 h10 a11 h11 a12 h12 a13 h13 a15 h15 a16 h16 a58 h58 a59 h59 a60 h60 a61 h61 a62 h62 a63 h63 a79 h79 a80 h80 a81 h81 a82 h82 a83 h83 a84 h84 f0 f1 f2 f3 f4 f5 f6 f7 f8 f9 f10 f11 f12 f13 f14 tt
  have e186 : PT 186 = P_al := pe186_15 hp
  simp only [hF2, hF27, hFp_186, e186, P_al, den_s, den_c, Int.add_zero, List.map_cons, List.map_nil, g2.eq, g3.eq, g4.eq, g14.eq, h7, h8, h10, h11, h12, h13, h15, h16, h58, h59, h60, h61, h62, h63, h79, h80, h81, h82, h83, h84] at f0 f1 f2 f3 f4 f5 f6 f7 f8 f9 f10 f11 f12 f13 f14 ⊢
  clear g2 g3 g4 g14 h7 h8 h10 h11 h12 h13 h15 h16 h58 h59 h60 h61 h62 h63 h79 h80 h81 h82 h83 h84 e186 tt
  subst_vars
  first
    | exact fun i h1 h2 => (by first | rfl | trivial)
    | assumption
    | exact al_up (Int.le_refl _) (by assumption)
    | exact al_up (Int.le_refl _) (fun i h1 h2 => rfl)
    | exact al_tr (by assumption) (by assumption))
def w_xf_digest_4_4 : VC := (([(0, 23), (0, 49), (1, 8), (0, 10), (0, 8), (0, 6), (0, 6), (0, 8), (0, 9), (0, 49), (0, 49), ((-2147483648), 2147483647), ((-2147483648), 2147483647), (0, 5), (0, 7), (0, 49), (0, 49), ((-2147483648), 2147483647), ((-2147483648), 2147483647), (0, 49), (0, 49), ((-2147483648), 2147483647), ((-2147483648), 2147483647)]), [(27, [], [79, 58]), (27, [], [80, 59]), (186, [(some 3, 0)], [81, 60]), (186, [(some 3, 0)], [82, 61]), (186, [(some 3, 0)], [83, 62]), (186, [(some 3, 0)], [84, 63]), (2, [(some 14, 0), (some 2, 0)], []), (27, [], [58, 7]), (27, [], [59, 8]), (186, [(some 3, 0)], [60, 10]), (186, [(some 3, 0)], [61, 11]), (186, [(some 3, 0)], [62, 12]), (186, [(some 3, 0)], [63, 13]), (186, [(some 4, 0)], [15, 15]), (186, [(some 4, 0)], [16, 16])], (186, [(some 3, 0)], [83, 12]))
set_option maxRecDepth 20000 in
theorem v_xf_digest_4_4 {PT : PTy} (hp : HP15 PT) : vcOk PT w_xf_digest_4_4 := vc_iv [(2, 1, 8), (3, 0, 10), (4, 0, 8), (14, 0, 7)] [7, 8, 10, 11, 12, 13, 15, 16, 58, 59, 60, 61, 62, 63, 79, 80, 81, 82, 83, 84] (by decide +kernel) (fun ρ α => by
  intro r2 g2 b2 r3 g3 b3 r4 g4 b4 r14 g14 b14 a7 h7 a8 h8 a10 h10 a11 h11 a12 h12 a13 h13 a15 h15 a16 h16 a58 h58 a59 h59 a60 h60 a61 h61 a62 h62 a63 h63 a79 h79 a80 h80 a81 h81 a82 h82 a83 h83 a84 h84 f0 f1 f2 f3 f4 f5 f6 f7 f8 f9 f10 f11 f12 f13 f14 tt
  have e186 : PT 186 = P_al := pe186_15 hp
  simp only [hF2, hF27, hFp_186, e186, P_al, den_s, den_c, Int.add_zero, List.map_cons, List.map_nil, g2.eq, g3.eq, g4.eq, g14.eq, h7, h8, h10, h11, h12, h13, h15, h16, h58, h59, h60, h61, h62, h63, h79, h80, h81, h82, h83, h84] at f0 f1 f2 f3 f4 f5 f6 f7 f8 f9 f10 f11 f12 f13 f14 ⊢
  clear g2 g3 g4 g14 h7 h8 h10 h11 h12 h13 h15 h16 h58 h59 h60 h61 h62 h63 h79 h80 h81 h82 h83 h84 e186 tt
  subst_vars
  first
    | exact fun i h1 h2 => (by first | rfl | trivial)
    | assumption
    | exact al_up (Int.le_refl _) (by assumption)
    | exact al_up (Int.le_refl _) (fun i h1 h2 => rfl)
    | exact al_tr (by assumption) (by assumption))
def w_xf_digest_4_5 : VC := (([(0, 23), (0, 49), (1, 8), (0, 10), (0, 8), (0, 6), (0, 6), (0, 8), (0, 9), (0, 49), (0, 49), ((-2147483648), 2147483647), ((-2147483648), 2147483647), (0, 5), (0, 7), (0, 49), (0, 49), ((-2147483648), 2147483647), ((-2147483648), 2147483647), (0, 49), (0, 49), ((-2147483648), 2147483647), ((-2147483648), 2147483647)]), [(27, [], [79, 58]), (27, [], [80, 59]), (186, [(some 3, 0)], [81, 60]), (186, [(some 3, 0)], [82, 61]), (186, [(some 3, 0)], [83, 62]), (186, [(some 3, 0)], [84, 63]), (2, [(some 14, 0), (some 2, 0)], []), (27, [], [58, 7]), (27, [], [59, 8]), (186, [(some 3, 0)], [60, 10]), (186, [(some 3, 0)], [61, 11]), (186, [(some 3, 0)], [62, 12]), (186, [(some 3, 0)], [63, 13]), (186, [(some 4, 0)], [15, 15]), (186, [(some 4, 0)], [16, 16])], (186, [(some 3, 0)], [84, 13]))
set_option maxRecDepth 20000 in
theorem v_xf_digest_4_5 {PT : PTy} (hp : HP15 PT) : vcOk PT w_xf_digest_4_5 := vc_iv [(2, 1, 8), (3, 0, 10), (4, 0, 8), (14, 0, 7)] [7, 8, 10, 11, 12, 13, 15, 16, 58, 59, 60, 61, 62, 63, 79, 80, 81, 82, 83, 84] (by decide +kernel) (fun ρ α => by
  intro r2 g2 b2 r3 g3 b3 r4 g4 b4 r14 g14 b14 a7 h7 a8 h8 a10 h10 a11 h11 a12 h12 a13 h13 a15 h15 a16 h16 a58 h58 a59 h59 a60 h60 a61 h61 a62 h62 a63 h63 a79 h79 a80 h80 a81 h81 a82 h82 a83 h83 a84 h84 f0 f1 f2 f3 f4 f5 f6 f7 f8 f9 f10 f11 f12 f13 f14 tt
  have e186 : PT 186 = P_al := pe186_15 hp
  simp only [hF2, hF27, hFp_186, e186, P_al, den_s, den_c, Int.add_zero, List.map_cons, List.map_nil, g2.eq, g3.eq, g4.eq, g14.eq, h7, h8, h10, h11, h12, h13, h15, h16, h58, h59, h60, h61, h62, h63, h79, h80, h81, h82, h83, h84] at f0 f1 f2 f3 f4 f5 f6 f7 f8 f9 f10 f11 f12 f13 f14 ⊢
  clear g2 g3 g4 g14 h7 h8 h10 h11 h12 h13 h15 h16 h58 h59 h60 h61 h62 h63 h79 h80 h81 h82 h83 h84 e186 tt
  subst_vars
  first
    | exact fun i h1 h2 => (by first | rfl | trivial)
    | assumption
    | exact al_up (Int.le_refl _) (by assumption)
    | exact al_up (Int.le_refl _) (fun i h1 h2 => rfl)
    | exact al_tr (by assumption) (by assumption))
set_option maxRecDepth 1000000 in
theorem k_xf_digest {PT : PTy} (hp : HP15 PT) : wfX c_xf_digest = true ∧ xcOk PT c_xf_digest := xctr (xl (k_xo_fault hp.1.1.1.1.1.1.1.1.1) (xl (k_xo_count hp.1.1.1.1.1.1) (xl (k_xf_neat hp) (xl (k_xf_naked hp) (xl (k_xf_longest hp) (xl (k_xf_splits hp) (xl (k_xf_best hp) (xl (k_xf_keep hp) (xl (k_xf_hush hp) (xl (k_xf_never hp) (xl (k_xf_year hp) (xl (k_au_X6_withPromise_0 hp) (xl (k_au_X6_withPerson_0 hp) (xl0)))))))))))))) c_xf_digest 143 mX6_digest rfl h_xf_digest (by decide +kernel) (by decide +kernel) (by decide) (vcs_by [w_xf_digest_0_0, w_xf_digest_0_1, w_xf_digest_0_2, w_xf_digest_0_3, w_xf_digest_0_4, w_xf_digest_0_5, w_xf_digest_0_6, w_xf_digest_0_7] (by decide +kernel) (vc (v_xf_digest_0_0 hp) (vc (v_xf_digest_0_1 hp) (vc (v_xf_digest_0_2 hp) (vc (v_xf_digest_0_3 hp) (vc (v_xf_digest_0_4 hp) (vc (v_xf_digest_0_5 hp) (vc (v_xf_digest_0_6 hp) (vc (v_xf_digest_0_7 hp) vn))))))))) (fmc (vcs_by [w_xf_digest_1_0, w_xf_digest_1_1] (by decide +kernel) (vc (v_xf_digest_1_0 hp) (vc (v_xf_digest_1_1 hp) vn))) (fmc (vcs_by [w_xf_digest_2_0] (by decide +kernel) (vc (v_xf_digest_2_0 hp) vn)) (fmc (vcs_by [] (by decide +kernel) vn) (fmc (vcs_by [w_xf_digest_4_0, w_xf_digest_4_1, w_xf_digest_4_2, w_xf_digest_4_3, w_xf_digest_4_4, w_xf_digest_4_5] (by decide +kernel) (vc (v_xf_digest_4_0 hp) (vc (v_xf_digest_4_1 hp) (vc (v_xf_digest_4_2 hp) (vc (v_xf_digest_4_3 hp) (vc (v_xf_digest_4_4 hp) (vc (v_xf_digest_4_5 hp) vn))))))) fmn))))
