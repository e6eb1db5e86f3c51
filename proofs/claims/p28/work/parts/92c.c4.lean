/-! ===== the class: its course; printed by wip/gen/x ===== -/
def P_bits (l : List Int) (a : List (Int → Int)) : Prop := match l, a with
  | [r, n], [L, Z] => r = foldI (fun i b => if L i - Z i = 0 ∨ L i - Z i = 1 then mOr b (mShl 1 i) else b) 0 n.toNat
  | _, _ => False
theorem hFp_92 {PT : PTy} {ρ : Nat → Int} {α : Nat → Int → Int} (l : List AN) (a : List Nat) : hF PT ρ α (92, l, a) = PT 92 (l.map (den ρ)) (a.map α) := rfl
def P_nkd (l : List Int) (a : List (Int → Int)) : Prop := match l, a with
  | [r, n], [L] => r = foldI (fun i b => if L i = 0 then mOr b (mShl 1 i) else b) 0 n.toNat
  | _, _ => False
theorem hFp_93 {PT : PTy} {ρ : Nat → Int} {α : Nat → Int → Int} (l : List AN) (a : List Nat) : hF PT ρ α (93, l, a) = PT 93 (l.map (den ρ)) (a.map α) := rfl
def P_rps (l : List Int) (a : List (Int → Int)) : Prop := match l, a with
  | [r, n], [t] => r = foldI (fun i b => mAdd b (t i)) 0 n.toNat
  | _, _ => False
theorem hFp_94 {PT : PTy} {ρ : Nat → Int} {α : Nat → Int → Int} (l : List AN) (a : List Nat) : hF PT ρ α (94, l, a) = PT 94 (l.map (den ρ)) (a.map α) := rfl
def HP4 (PT : PTy) : Prop := HP3 PT ∧ (PT 92 = P_bits ∧ PT 93 = P_nkd ∧ PT 94 = P_rps ∧ True)
def c_fill29_14 : XC := (202, 0, (bX), [.inr (.inl 29), .inl (none, 0)], (gX 14), [], [((bX), none, (gX 14), (ansT 58 [(29, 58)]), 59, [(88, [(none, 0), (none, 8)], [58])])])
def h_fill29_14 : List XH := [(5, (bX ++ [(0, 8)]), [some (.inr (.inl 29)), some (.inl (none, 0)), some (.inl (some 14, 0)), some (.inl (none, 8))], (gX 14), (ansT 58 [(29, 58)]), 59, [(88, [(none, 0), (some 14, 0)], [58])], [(true, (none, 1)), (true, (some 14, 0))])]
def w_fill29_14_0_0 : VC := ((bX), [], (88, [(none, 0), (none, 0)], [29]))
set_option maxRecDepth 20000 in
theorem v_fill29_14_0_0 {PT : PTy} (hp : HP4 PT) : vcOk PT w_fill29_14_0_0 := vc_of (fun ρ α hB hF => by
  have e88 : PT 88 = P_fil := hp.1.2.2.2.2.2.2.2.2.2.1
  simp only [hFp_88, e88, P_fil, den_s, den_c, Int.add_zero, List.map_cons, List.map_nil] at ⊢
  intro i h1 h2; omega)
def w_fill29_14_1_0 : VC := ((bX ++ [(8, 8)]), [(3, [(some 14, 0), (none, 8)], []), (88, [(none, 0), (some 14, 0)], [58])], (88, [(none, 0), (none, 8)], [58]))
set_option maxRecDepth 20000 in
theorem v_fill29_14_1_0 {PT : PTy} (hp : HP4 PT) : vcOk PT w_fill29_14_1_0 := vc_of (fun ρ α hB hF => by
  obtain ⟨-, f1, -⟩ := hF
  have e88 : PT 88 = P_fil := hp.1.2.2.2.2.2.2.2.2.2.1
  simp only [hFp_88, e88, P_fil, den_s, den_c, Int.add_zero, List.map_cons, List.map_nil] at f1 ⊢
  have b14 : (8 : Int) ≤ ρ 14 ∧ ρ 14 ≤ 8 := hB 14 (8, 8) rfl
  clear hB
  generalize ρ 14 = r14, α 58 = a58 at *
  first
    | (intro i h1 h2; exact f1 i h1 (by omega))
    | (intro i h1 h2; by_cases q : i = r14; (rw [q, updI_at]); (rw [updI_ne q]; exact f1 i h1 (by omega))))
def w_fill29_14_1_1 : VC := ((bX ++ [(0, 7)]), [(21, [(some 14, 0), (none, 0)], [59, 58]), (2, [(some 14, 0), (none, 8)], []), (88, [(none, 0), (some 14, 0)], [58])], (88, [(none, 0), (some 14, 1)], [59]))
set_option maxRecDepth 20000 in
theorem v_fill29_14_1_1 {PT : PTy} (hp : HP4 PT) : vcOk PT w_fill29_14_1_1 := vc_of (fun ρ α hB hF => by
  obtain ⟨f0, -, f2, -⟩ := hF
  have e88 : PT 88 = P_fil := hp.1.2.2.2.2.2.2.2.2.2.1
  simp only [hF21, hFp_88, e88, P_fil, den_s, den_c, Int.add_zero, List.map_cons, List.map_nil] at f0 f2 ⊢
  have b14 : (0 : Int) ≤ ρ 14 ∧ ρ 14 ≤ 7 := hB 14 (0, 7) rfl
  clear hB
  generalize ρ 14 = r14, α 58 = a58, α 59 = a59 at *
  subst f0
  first
    | (intro i h1 h2; exact f2 i h1 (by omega))
    | (intro i h1 h2; by_cases q : i = r14; (rw [q, updI_at]); (rw [updI_ne q]; exact f2 i h1 (by omega))))
set_option maxRecDepth 1000000 in
theorem k_fill29_14 {PT : PTy} (hp : HP4 PT) : wfX c_fill29_14 = true ∧ xcOk PT c_fill29_14 := xctr (xl0) c_fill29_14 30 mJ7_fill_53178 rfl h_fill29_14 (by decide +kernel) (by decide +kernel) (by decide) (vcs_by [w_fill29_14_0_0] (by decide +kernel) (vc (v_fill29_14_0_0 hp) vn)) (fmc (vcs_by [w_fill29_14_1_0, w_fill29_14_1_1] (by decide +kernel) (vc (v_fill29_14_1_0 hp) (vc (v_fill29_14_1_1 hp) vn))) fmn)
def c_fill30_14 : XC := (202, 0, (bX), [.inr (.inl 30), .inl (none, 0)], (gX 14), [], [((bX), none, (gX 14), (ansT 58 [(30, 58)]), 59, [(88, [(none, 0), (none, 11)], [58])])])
def h_fill30_14 : List XH := [(5, (bX ++ [(0, 11)]), [some (.inr (.inl 30)), some (.inl (none, 0)), some (.inl (some 14, 0)), some (.inl (none, 11))], (gX 14), (ansT 58 [(30, 58)]), 59, [(88, [(none, 0), (some 14, 0)], [58])], [(true, (none, 1)), (true, (some 14, 0))])]
def w_fill30_14_0_0 : VC := ((bX), [], (88, [(none, 0), (none, 0)], [30]))
set_option maxRecDepth 20000 in
theorem v_fill30_14_0_0 {PT : PTy} (hp : HP4 PT) : vcOk PT w_fill30_14_0_0 := vc_of (fun ρ α hB hF => by
  have e88 : PT 88 = P_fil := hp.1.2.2.2.2.2.2.2.2.2.1
  simp only [hFp_88, e88, P_fil, den_s, den_c, Int.add_zero, List.map_cons, List.map_nil] at ⊢
  intro i h1 h2; omega)
def w_fill30_14_1_0 : VC := ((bX ++ [(11, 11)]), [(3, [(some 14, 0), (none, 11)], []), (88, [(none, 0), (some 14, 0)], [58])], (88, [(none, 0), (none, 11)], [58]))
set_option maxRecDepth 20000 in
theorem v_fill30_14_1_0 {PT : PTy} (hp : HP4 PT) : vcOk PT w_fill30_14_1_0 := vc_of (fun ρ α hB hF => by
  obtain ⟨-, f1, -⟩ := hF
  have e88 : PT 88 = P_fil := hp.1.2.2.2.2.2.2.2.2.2.1
  simp only [hFp_88, e88, P_fil, den_s, den_c, Int.add_zero, List.map_cons, List.map_nil] at f1 ⊢
  have b14 : (11 : Int) ≤ ρ 14 ∧ ρ 14 ≤ 11 := hB 14 (11, 11) rfl
  clear hB
  generalize ρ 14 = r14, α 58 = a58 at *
  first
    | (intro i h1 h2; exact f1 i h1 (by omega))
    | (intro i h1 h2; by_cases q : i = r14; (rw [q, updI_at]); (rw [updI_ne q]; exact f1 i h1 (by omega))))
def w_fill30_14_1_1 : VC := ((bX ++ [(0, 10)]), [(21, [(some 14, 0), (none, 0)], [59, 58]), (2, [(some 14, 0), (none, 11)], []), (88, [(none, 0), (some 14, 0)], [58])], (88, [(none, 0), (some 14, 1)], [59]))
set_option maxRecDepth 20000 in
theorem v_fill30_14_1_1 {PT : PTy} (hp : HP4 PT) : vcOk PT w_fill30_14_1_1 := vc_of (fun ρ α hB hF => by
  obtain ⟨f0, -, f2, -⟩ := hF
  have e88 : PT 88 = P_fil := hp.1.2.2.2.2.2.2.2.2.2.1
  simp only [hF21, hFp_88, e88, P_fil, den_s, den_c, Int.add_zero, List.map_cons, List.map_nil] at f0 f2 ⊢
  have b14 : (0 : Int) ≤ ρ 14 ∧ ρ 14 ≤ 10 := hB 14 (0, 10) rfl
  clear hB
  generalize ρ 14 = r14, α 58 = a58, α 59 = a59 at *
  subst f0
  first
    | (intro i h1 h2; exact f2 i h1 (by omega))
    | (intro i h1 h2; by_cases q : i = r14; (rw [q, updI_at]); (rw [updI_ne q]; exact f2 i h1 (by omega))))
set_option maxRecDepth 1000000 in
theorem k_fill30_14 {PT : PTy} (hp : HP4 PT) : wfX c_fill30_14 = true ∧ xcOk PT c_fill30_14 := xctr (xl0) c_fill30_14 30 mJ7_fill_53178 rfl h_fill30_14 (by decide +kernel) (by decide +kernel) (by decide) (vcs_by [w_fill30_14_0_0] (by decide +kernel) (vc (v_fill30_14_0_0 hp) vn)) (fmc (vcs_by [w_fill30_14_1_0, w_fill30_14_1_1] (by decide +kernel) (vc (v_fill30_14_1_0 hp) (vc (v_fill30_14_1_1 hp) vn))) fmn)
def c_begin14 : XC := (4, 1, (bX), [.inr (.inl 5)], (gX 14), [], [((bX), none, (hst (gX 14) [(5, .inr (.inr (.inr (0, [.inr (.inl 6), .inr (.inl 9), .inr (.inl 14), .inr (.inl 18), .inr (.inl 22), .inr (.inl 26), .inr (.inl 27), .inr (.inl 28), .inr (.inl 29), .inr (.inl 30), .inl (some 9, 0), .inl (none, 0), .inl (some 11, 0), .inl (some 12, 0), .inr (.inl 14)]))))]), (ansT 58 [(28, 58), (29, 59), (30, 60)]), 61, [(89, [], [8, 58, 59, 60])])])
def h_begin14 : List XH := []
def w_begin14_0_0 : VC := ((bX), [(88, [(none, 0), (none, 11)], [60]), (88, [(none, 0), (none, 8)], [59]), (22, [(none, 0), (none, 0), (none, 8)], [58, 8, 28])], (89, [], [8, 58, 59, 60]))
set_option maxRecDepth 20000 in
theorem v_begin14_0_0 {PT : PTy} (hp : HP4 PT) : vcOk PT w_begin14_0_0 := vc_of (fun ρ α hB hF => by
  obtain ⟨f0, f1, f2, -⟩ := hF
  have e88 : PT 88 = P_fil := hp.1.2.2.2.2.2.2.2.2.2.1
  have e89 : PT 89 = P_bg := hp.1.2.2.2.2.2.2.2.2.2.2.1
  simp only [hF22, hFp_88, hFp_89, e88, e89, P_fil, P_bg, den_s, den_c, Int.add_zero, List.map_cons, List.map_nil] at f0 f1 f2 ⊢
  clear hB
  generalize α 8 = a8, α 28 = a28, α 58 = a58, α 59 = a59, α 60 = a60 at *
  subst f2
  refine ⟨fun i h1 h2 => ⟨?_, f1 i h1 (by omega)⟩, fun i h1 h2 => f0 i h1 (by omega)⟩
  unfold cpyF
  rw [if_pos (by omega)]
  congr 1
  omega)
set_option maxRecDepth 1000000 in
theorem k_begin14 {PT : PTy} (hp : HP4 PT) : wfX c_begin14 = true ∧ xcOk PT c_begin14 := xctr (xl (k_fill29_14 hp) (xl (k_fill30_14 hp) (xl0))) c_begin14 41 mX0_begin rfl h_begin14 (by decide +kernel) (by decide +kernel) (by decide) (vcs_by [w_begin14_0_0] (by decide +kernel) (vc (v_begin14_0_0 hp) vn)) fmn
def c_advance14 : XC := (5, 2, (bX ++ [(0, 23)]), [.inr (.inl 5), .inl (some 14, 0)], (gX 14), [(87, [(some 9, 0)], [26, 27])], [((bX ++ [(0, 23), (0, 49)]), none, (hst (gX 14) [(5, .inr (.inr (.inr (0, [.inr (.inl 6), .inr (.inl 9), .inr (.inl 14), .inr (.inl 18), .inr (.inl 22), .inr (.inl 26), .inr (.inl 27), .inr (.inl 28), .inr (.inl 29), .inr (.inl 30), .inl (some 9, 0), .inl (some 15, 0), .inl (some 11, 0), .inl (some 12, 0), .inr (.inl 14)]))))]), (ansT 58 [(28, 58), (29, 59), (30, 60)]), 61, [(91, [(some 10, 0), (some 15, 0), (some 9, 0), (some 14, 0), (some 11, 0), (some 12, 0)], [26, 27, 7, 8, 10, 11, 16, 20, 21, 24, 25, 28, 29, 30, 58, 59, 60])])])
def h_advance14 : List XH := [(0, (bX ++ [(0, 23), (0, 49)]), [some (.inr (.inl 5)), some (.inl (some 14, 0)), none], (hst (gX 14) [(5, .inr (.inr (.inr (0, [.inr (.inl 6), .inr (.inl 9), .inr (.inl 14), .inr (.inl 18), .inr (.inl 22), .inr (.inl 26), .inr (.inl 27), .inr (.inl 28), .inr (.inl 29), .inr (.inl 30), .inl (some 9, 0), .inl (some 15, 0), .inl (some 11, 0), .inl (some 12, 0), .inr (.inl 14)]))))]), (ansT 58 [(28, 58), (29, 59), (30, 60)]), 61, [(90, [(some 10, 0), (some 15, 0), (some 9, 0), (some 14, 0), (some 11, 0), (some 12, 0)], [26, 27, 7, 8, 10, 11, 16, 20, 21, 24, 25, 28, 29, 30, 58, 59, 60])], [(true, (none, 1)), (true, (some 15, 0))])]
def w_advance14_0_0 : VC := ((bX ++ [(0, 23)]), [(87, [(some 9, 0)], [26, 27])], (90, [(some 10, 0), (some 10, 0), (some 9, 0), (some 14, 0), (some 11, 0), (some 12, 0)], [26, 27, 7, 8, 10, 11, 16, 20, 21, 24, 25, 28, 29, 30, 28, 29, 30]))
set_option maxRecDepth 20000 in
theorem v_advance14_0_0 {PT : PTy} (hp : HP4 PT) : vcOk PT w_advance14_0_0 := vc_of (fun ρ α hB hF => by
  obtain ⟨f0, -⟩ := hF
  have e87 : PT 87 = P_pr := hp.1.2.2.2.2.2.2.2.2.1
  have e90 : PT 90 = P_adI := hp.1.2.2.2.2.2.2.2.2.2.2.2.1
  simp only [hFp_87, hFp_90, e87, e90, P_pr, P_adI, den_s, den_c, Int.add_zero, List.map_cons, List.map_nil] at f0 ⊢
  have b9 : (0 : Int) ≤ ρ 9 ∧ ρ 9 ≤ 49 := hB 9 (0, 49) rfl
  have b10 : (0 : Int) ≤ ρ 10 ∧ ρ 10 ≤ 49 := hB 10 (0, 49) rfl
  have b11 : ((-2147483648) : Int) ≤ ρ 11 ∧ ρ 11 ≤ 2147483647 := hB 11 ((-2147483648), 2147483647) rfl
  have b12 : ((-2147483648) : Int) ≤ ρ 12 ∧ ρ 12 ≤ 2147483647 := hB 12 ((-2147483648), 2147483647) rfl
  have b14 : (0 : Int) ≤ ρ 14 ∧ ρ 14 ≤ 23 := hB 14 (0, 23) rfl
  clear hB
  generalize ρ 9 = r9, ρ 10 = r10, ρ 11 = r11, ρ 12 = r12, ρ 14 = r14, α 7 = a7, α 8 = a8, α 10 = a10, α 11 = a11, α 16 = a16, α 20 = a20, α 21 = a21, α 24 = a24, α 25 = a25, α 26 = a26, α 27 = a27, α 28 = a28, α 29 = a29, α 30 = a30 at *
  exact adI_z)
def w_advance14_1_0 : VC := ((bX ++ [(0, 23), (0, 49)]), [(3, [(some 15, 0), (some 9, 0)], []), (90, [(some 10, 0), (some 15, 0), (some 9, 0), (some 14, 0), (some 11, 0), (some 12, 0)], [26, 27, 7, 8, 10, 11, 16, 20, 21, 24, 25, 28, 29, 30, 58, 59, 60]), (87, [(some 9, 0)], [26, 27])], (91, [(some 10, 0), (some 15, 0), (some 9, 0), (some 14, 0), (some 11, 0), (some 12, 0)], [26, 27, 7, 8, 10, 11, 16, 20, 21, 24, 25, 28, 29, 30, 58, 59, 60]))
set_option maxRecDepth 20000 in
theorem v_advance14_1_0 {PT : PTy} (hp : HP4 PT) : vcOk PT w_advance14_1_0 := vc_of (fun ρ α hB hF => by
  obtain ⟨f0, f1, f2, -⟩ := hF
  have e87 : PT 87 = P_pr := hp.1.2.2.2.2.2.2.2.2.1
  have e90 : PT 90 = P_adI := hp.1.2.2.2.2.2.2.2.2.2.2.2.1
  have e91 : PT 91 = P_adE := hp.1.2.2.2.2.2.2.2.2.2.2.2.2.1
  simp only [hF3, hFp_87, hFp_90, hFp_91, e87, e90, e91, P_pr, P_adI, P_adE, den_s, den_c, Int.add_zero, List.map_cons, List.map_nil] at f0 f1 f2 ⊢
  have b9 : (0 : Int) ≤ ρ 9 ∧ ρ 9 ≤ 49 := hB 9 (0, 49) rfl
  have b10 : (0 : Int) ≤ ρ 10 ∧ ρ 10 ≤ 49 := hB 10 (0, 49) rfl
  have b11 : ((-2147483648) : Int) ≤ ρ 11 ∧ ρ 11 ≤ 2147483647 := hB 11 ((-2147483648), 2147483647) rfl
  have b12 : ((-2147483648) : Int) ≤ ρ 12 ∧ ρ 12 ≤ 2147483647 := hB 12 ((-2147483648), 2147483647) rfl
  have b14 : (0 : Int) ≤ ρ 14 ∧ ρ 14 ≤ 23 := hB 14 (0, 23) rfl
  have b15 : (0 : Int) ≤ ρ 15 ∧ ρ 15 ≤ 49 := hB 15 (0, 49) rfl
  clear hB
  generalize ρ 9 = r9, ρ 10 = r10, ρ 11 = r11, ρ 12 = r12, ρ 14 = r14, ρ 15 = r15, α 7 = a7, α 8 = a8, α 10 = a10, α 11 = a11, α 16 = a16, α 20 = a20, α 21 = a21, α 24 = a24, α 25 = a25, α 26 = a26, α 27 = a27, α 28 = a28, α 29 = a29, α 30 = a30, α 58 = a58, α 59 = a59, α 60 = a60 at *
  exact ⟨f1, by omega⟩)
def w_advance14_1_1 : VC := (([(0, 23), (0, 49), (0, 8), (0, 11), (0, 9), (0, 6), (0, 6), (0, 8), (0, 9), (1, 49), (0, 49), ((-2147483648), 2147483647), ((-2147483648), 2147483647), (0, 5), (0, 23), (0, 48), (5, 119), (5, 119)]), [(3, [(some 16, 0), (some 17, 0)], []), (6, [(some 17, 0), (none, 5), (some 14, 1)], []), (20, [(some 16, 0), (some 15, 0)], [26]), (2, [(some 15, 0), (some 9, 0)], []), (90, [(some 10, 0), (some 15, 0), (some 9, 0), (some 14, 0), (some 11, 0), (some 12, 0)], [26, 27, 7, 8, 10, 11, 16, 20, 21, 24, 25, 28, 29, 30, 58, 59, 60]), (87, [(some 9, 0)], [26, 27])], (91, [(some 10, 0), (some 15, 0), (some 9, 0), (some 14, 0), (some 11, 0), (some 12, 0)], [26, 27, 7, 8, 10, 11, 16, 20, 21, 24, 25, 28, 29, 30, 58, 59, 60]))
set_option maxRecDepth 20000 in
theorem v_advance14_1_1 {PT : PTy} (hp : HP4 PT) : vcOk PT w_advance14_1_1 := vc_of (fun ρ α hB hF => by
  obtain ⟨f0, f1, f2, f3, f4, f5, -⟩ := hF
  have e87 : PT 87 = P_pr := hp.1.2.2.2.2.2.2.2.2.1
  have e90 : PT 90 = P_adI := hp.1.2.2.2.2.2.2.2.2.2.2.2.1
  have e91 : PT 91 = P_adE := hp.1.2.2.2.2.2.2.2.2.2.2.2.2.1
  simp only [hF2, hF3, hF6, hF20, hFp_87, hFp_90, hFp_91, e87, e90, e91, P_pr, P_adI, P_adE, den_s, den_c, Int.add_zero, List.map_cons, List.map_nil] at f0 f1 f2 f3 f4 f5 ⊢
  have b9 : (1 : Int) ≤ ρ 9 ∧ ρ 9 ≤ 49 := hB 9 (1, 49) rfl
  have b10 : (0 : Int) ≤ ρ 10 ∧ ρ 10 ≤ 49 := hB 10 (0, 49) rfl
  have b11 : ((-2147483648) : Int) ≤ ρ 11 ∧ ρ 11 ≤ 2147483647 := hB 11 ((-2147483648), 2147483647) rfl
  have b12 : ((-2147483648) : Int) ≤ ρ 12 ∧ ρ 12 ≤ 2147483647 := hB 12 ((-2147483648), 2147483647) rfl
  have b14 : (0 : Int) ≤ ρ 14 ∧ ρ 14 ≤ 23 := hB 14 (0, 23) rfl
  have b15 : (0 : Int) ≤ ρ 15 ∧ ρ 15 ≤ 48 := hB 15 (0, 48) rfl
  have b16 : (5 : Int) ≤ ρ 16 ∧ ρ 16 ≤ 119 := hB 16 (5, 119) rfl
  have b17 : (5 : Int) ≤ ρ 17 ∧ ρ 17 ≤ 119 := hB 17 (5, 119) rfl
  clear hB
  generalize ρ 9 = r9, ρ 10 = r10, ρ 11 = r11, ρ 12 = r12, ρ 14 = r14, ρ 15 = r15, ρ 16 = r16, ρ 17 = r17, α 7 = a7, α 8 = a8, α 10 = a10, α 11 = a11, α 16 = a16, α 20 = a20, α 21 = a21, α 24 = a24, α 25 = a25, α 26 = a26, α 27 = a27, α 28 = a28, α 29 = a29, α 30 = a30, α 58 = a58, α 59 = a59, α 60 = a60 at *
  subst f1
  subst f2
  exact ⟨f4, by omega⟩)
def w_advance14_1_2 : VC := (([(0, 23), (0, 49), (0, 8), (0, 11), (0, 9), (0, 6), (0, 6), (0, 8), (0, 9), (1, 49), (0, 49), ((-2147483648), 2147483647), ((-2147483648), 2147483647), (0, 5), (0, 23), (0, 48), (0, 119), (5, 120), (0, 10), (0, 119), (0, 4)]), [(25, [(some 20, 0), (none, 0), (none, 3)], []), (8, [(some 20, 0), (some 19, 0), (none, 5)], []), (20, [(some 19, 0), (some 15, 0)], [26]), (20, [(some 18, 0), (some 15, 0)], [27]), (2, [(some 16, 0), (some 17, 0)], []), (6, [(some 17, 0), (none, 5), (some 14, 1)], []), (20, [(some 16, 0), (some 15, 0)], [26]), (2, [(some 15, 0), (some 9, 0)], []), (90, [(some 10, 0), (some 15, 0), (some 9, 0), (some 14, 0), (some 11, 0), (some 12, 0)], [26, 27, 7, 8, 10, 11, 16, 20, 21, 24, 25, 28, 29, 30, 58, 59, 60]), (87, [(some 9, 0)], [26, 27])], (3, [(some 18, 0), (none, 0)], []))
set_option maxRecDepth 20000 in
theorem v_advance14_1_2 {PT : PTy} (hp : HP4 PT) : vcOk PT w_advance14_1_2 := vc_of (fun ρ α hB hF => by
  obtain ⟨f0, f1, f2, f3, f4, f5, f6, f7, f8, f9, -⟩ := hF
  have e87 : PT 87 = P_pr := hp.1.2.2.2.2.2.2.2.2.1
  have e90 : PT 90 = P_adI := hp.1.2.2.2.2.2.2.2.2.2.2.2.1
  simp only [hF2, hF3, hF6, hF8, hF20, hF25, hFp_87, hFp_90, e87, e90, P_pr, P_adI, den_s, den_c, Int.add_zero, List.map_cons, List.map_nil] at f0 f1 f2 f3 f4 f5 f6 f7 f8 f9 ⊢
  have b9 : (1 : Int) ≤ ρ 9 ∧ ρ 9 ≤ 49 := hB 9 (1, 49) rfl
  have b10 : (0 : Int) ≤ ρ 10 ∧ ρ 10 ≤ 49 := hB 10 (0, 49) rfl
  have b11 : ((-2147483648) : Int) ≤ ρ 11 ∧ ρ 11 ≤ 2147483647 := hB 11 ((-2147483648), 2147483647) rfl
  have b12 : ((-2147483648) : Int) ≤ ρ 12 ∧ ρ 12 ≤ 2147483647 := hB 12 ((-2147483648), 2147483647) rfl
  have b14 : (0 : Int) ≤ ρ 14 ∧ ρ 14 ≤ 23 := hB 14 (0, 23) rfl
  have b15 : (0 : Int) ≤ ρ 15 ∧ ρ 15 ≤ 48 := hB 15 (0, 48) rfl
  have b16 : (0 : Int) ≤ ρ 16 ∧ ρ 16 ≤ 119 := hB 16 (0, 119) rfl
  have b17 : (5 : Int) ≤ ρ 17 ∧ ρ 17 ≤ 120 := hB 17 (5, 120) rfl
  have b18 : (0 : Int) ≤ ρ 18 ∧ ρ 18 ≤ 10 := hB 18 (0, 10) rfl
  have b19 : (0 : Int) ≤ ρ 19 ∧ ρ 19 ≤ 119 := hB 19 (0, 119) rfl
  have b20 : (0 : Int) ≤ ρ 20 ∧ ρ 20 ≤ 4 := hB 20 (0, 4) rfl
  clear hB
  generalize ρ 9 = r9, ρ 10 = r10, ρ 11 = r11, ρ 12 = r12, ρ 14 = r14, ρ 15 = r15, ρ 16 = r16, ρ 17 = r17, ρ 18 = r18, ρ 19 = r19, ρ 20 = r20, α 7 = a7, α 8 = a8, α 10 = a10, α 11 = a11, α 16 = a16, α 20 = a20, α 21 = a21, α 24 = a24, α 25 = a25, α 26 = a26, α 27 = a27, α 28 = a28, α 29 = a29, α 30 = a30, α 58 = a58, α 59 = a59, α 60 = a60 at *
  subst f1
  subst f2
  subst f3
  subst f5
  subst f6
  first
    | omega
    | (have hpr := f9 r15 (by omega) (by omega) (by omega); omega))
def w_advance14_1_3 : VC := (([(0, 23), (0, 49), (0, 8), (0, 11), (0, 9), (0, 6), (0, 6), (0, 8), (0, 9), (1, 49), (0, 49), ((-2147483648), 2147483647), ((-2147483648), 2147483647), (0, 5), (0, 23), (0, 48), (0, 119), (5, 120), (0, 10), (0, 119), (0, 4)]), [(25, [(some 20, 0), (none, 0), (none, 3)], []), (8, [(some 20, 0), (some 19, 0), (none, 5)], []), (20, [(some 19, 0), (some 15, 0)], [26]), (20, [(some 18, 0), (some 15, 0)], [27]), (2, [(some 16, 0), (some 17, 0)], []), (6, [(some 17, 0), (none, 5), (some 14, 1)], []), (20, [(some 16, 0), (some 15, 0)], [26]), (2, [(some 15, 0), (some 9, 0)], []), (90, [(some 10, 0), (some 15, 0), (some 9, 0), (some 14, 0), (some 11, 0), (some 12, 0)], [26, 27, 7, 8, 10, 11, 16, 20, 21, 24, 25, 28, 29, 30, 58, 59, 60]), (87, [(some 9, 0)], [26, 27])], (3, [(none, 8), (some 18, 0)], []))
set_option maxRecDepth 20000 in
theorem v_advance14_1_3 {PT : PTy} (hp : HP4 PT) : vcOk PT w_advance14_1_3 := vc_of (fun ρ α hB hF => by
  obtain ⟨f0, f1, f2, f3, f4, f5, f6, f7, f8, f9, -⟩ := hF
  have e87 : PT 87 = P_pr := hp.1.2.2.2.2.2.2.2.2.1
  have e90 : PT 90 = P_adI := hp.1.2.2.2.2.2.2.2.2.2.2.2.1
  simp only [hF2, hF3, hF6, hF8, hF20, hF25, hFp_87, hFp_90, e87, e90, P_pr, P_adI, den_s, den_c, Int.add_zero, List.map_cons, List.map_nil] at f0 f1 f2 f3 f4 f5 f6 f7 f8 f9 ⊢
  have b9 : (1 : Int) ≤ ρ 9 ∧ ρ 9 ≤ 49 := hB 9 (1, 49) rfl
  have b10 : (0 : Int) ≤ ρ 10 ∧ ρ 10 ≤ 49 := hB 10 (0, 49) rfl
  have b11 : ((-2147483648) : Int) ≤ ρ 11 ∧ ρ 11 ≤ 2147483647 := hB 11 ((-2147483648), 2147483647) rfl
  have b12 : ((-2147483648) : Int) ≤ ρ 12 ∧ ρ 12 ≤ 2147483647 := hB 12 ((-2147483648), 2147483647) rfl
  have b14 : (0 : Int) ≤ ρ 14 ∧ ρ 14 ≤ 23 := hB 14 (0, 23) rfl
  have b15 : (0 : Int) ≤ ρ 15 ∧ ρ 15 ≤ 48 := hB 15 (0, 48) rfl
  have b16 : (0 : Int) ≤ ρ 16 ∧ ρ 16 ≤ 119 := hB 16 (0, 119) rfl
  have b17 : (5 : Int) ≤ ρ 17 ∧ ρ 17 ≤ 120 := hB 17 (5, 120) rfl
  have b18 : (0 : Int) ≤ ρ 18 ∧ ρ 18 ≤ 10 := hB 18 (0, 10) rfl
  have b19 : (0 : Int) ≤ ρ 19 ∧ ρ 19 ≤ 119 := hB 19 (0, 119) rfl
  have b20 : (0 : Int) ≤ ρ 20 ∧ ρ 20 ≤ 4 := hB 20 (0, 4) rfl
  clear hB
  generalize ρ 9 = r9, ρ 10 = r10, ρ 11 = r11, ρ 12 = r12, ρ 14 = r14, ρ 15 = r15, ρ 16 = r16, ρ 17 = r17, ρ 18 = r18, ρ 19 = r19, ρ 20 = r20, α 7 = a7, α 8 = a8, α 10 = a10, α 11 = a11, α 16 = a16, α 20 = a20, α 21 = a21, α 24 = a24, α 25 = a25, α 26 = a26, α 27 = a27, α 28 = a28, α 29 = a29, α 30 = a30, α 58 = a58, α 59 = a59, α 60 = a60 at *
  subst f1
  subst f2
  subst f3
  subst f5
  subst f6
  first
    | omega
    | (have hpr := f9 r15 (by omega) (by omega) (by omega); omega))
def w_advance14_1_4 : VC := (([(0, 23), (0, 49), (0, 8), (0, 11), (0, 9), (0, 6), (0, 6), (0, 8), (0, 9), (1, 49), (0, 49), ((-2147483648), 2147483647), ((-2147483648), 2147483647), (0, 5), (0, 23), (0, 48), (0, 119), (5, 120), (0, 8), (0, 119), (0, 4), (0, 7), (0, 9), (0, 99), (0, 99)]), [(21, [(some 21, 0), (some 24, 0)], [61, 58]), (3, [(none, 99), (some 24, 0)], []), (4, [(some 24, 0), (some 23, 0), (some 22, 0)], []), (20, [(some 23, 0), (some 21, 0)], [58]), (20, [(some 22, 0), (some 18, 0)], [25]), (20, [(some 21, 0), (some 18, 0)], [24]), (25, [(some 20, 0), (none, 0), (none, 3)], []), (8, [(some 20, 0), (some 19, 0), (none, 5)], []), (20, [(some 19, 0), (some 15, 0)], [26]), (20, [(some 18, 0), (some 15, 0)], [27]), (2, [(some 16, 0), (some 17, 0)], []), (6, [(some 17, 0), (none, 5), (some 14, 1)], []), (20, [(some 16, 0), (some 15, 0)], [26]), (2, [(some 15, 0), (some 9, 0)], []), (90, [(some 10, 0), (some 15, 0), (some 9, 0), (some 14, 0), (some 11, 0), (some 12, 0)], [26, 27, 7, 8, 10, 11, 16, 20, 21, 24, 25, 28, 29, 30, 58, 59, 60]), (87, [(some 9, 0)], [26, 27])], (90, [(some 10, 0), (some 15, 1), (some 9, 0), (some 14, 0), (some 11, 0), (some 12, 0)], [26, 27, 7, 8, 10, 11, 16, 20, 21, 24, 25, 28, 29, 30, 61, 59, 60]))
set_option maxRecDepth 20000 in
theorem v_advance14_1_4 {PT : PTy} (hp : HP4 PT) : vcOk PT w_advance14_1_4 := vc_of (fun ρ α hB hF => by
  obtain ⟨f0, -, f2, f3, f4, f5, f6, f7, f8, f9, f10, f11, f12, f13, f14, f15, -⟩ := hF
  have e87 : PT 87 = P_pr := hp.1.2.2.2.2.2.2.2.2.1
  have e90 : PT 90 = P_adI := hp.1.2.2.2.2.2.2.2.2.2.2.2.1
  simp only [hF2, hF4, hF6, hF8, hF20, hF21, hF25, hFp_87, hFp_90, e87, e90, P_pr, P_adI, den_s, den_c, Int.add_zero, List.map_cons, List.map_nil] at f0 f2 f3 f4 f5 f6 f7 f8 f9 f10 f11 f12 f13 f14 f15 ⊢
  have b9 : (1 : Int) ≤ ρ 9 ∧ ρ 9 ≤ 49 := hB 9 (1, 49) rfl
  have b10 : (0 : Int) ≤ ρ 10 ∧ ρ 10 ≤ 49 := hB 10 (0, 49) rfl
  have b11 : ((-2147483648) : Int) ≤ ρ 11 ∧ ρ 11 ≤ 2147483647 := hB 11 ((-2147483648), 2147483647) rfl
  have b12 : ((-2147483648) : Int) ≤ ρ 12 ∧ ρ 12 ≤ 2147483647 := hB 12 ((-2147483648), 2147483647) rfl
  have b14 : (0 : Int) ≤ ρ 14 ∧ ρ 14 ≤ 23 := hB 14 (0, 23) rfl
  have b15 : (0 : Int) ≤ ρ 15 ∧ ρ 15 ≤ 48 := hB 15 (0, 48) rfl
  have b16 : (0 : Int) ≤ ρ 16 ∧ ρ 16 ≤ 119 := hB 16 (0, 119) rfl
  have b17 : (5 : Int) ≤ ρ 17 ∧ ρ 17 ≤ 120 := hB 17 (5, 120) rfl
  have b18 : (0 : Int) ≤ ρ 18 ∧ ρ 18 ≤ 8 := hB 18 (0, 8) rfl
  have b19 : (0 : Int) ≤ ρ 19 ∧ ρ 19 ≤ 119 := hB 19 (0, 119) rfl
  have b20 : (0 : Int) ≤ ρ 20 ∧ ρ 20 ≤ 4 := hB 20 (0, 4) rfl
  have b21 : (0 : Int) ≤ ρ 21 ∧ ρ 21 ≤ 7 := hB 21 (0, 7) rfl
  have b22 : (0 : Int) ≤ ρ 22 ∧ ρ 22 ≤ 9 := hB 22 (0, 9) rfl
  have b23 : (0 : Int) ≤ ρ 23 ∧ ρ 23 ≤ 99 := hB 23 (0, 99) rfl
  have b24 : (0 : Int) ≤ ρ 24 ∧ ρ 24 ≤ 99 := hB 24 (0, 99) rfl
  clear hB
  generalize ρ 9 = r9, ρ 10 = r10, ρ 11 = r11, ρ 12 = r12, ρ 14 = r14, ρ 15 = r15, ρ 16 = r16, ρ 17 = r17, ρ 18 = r18, ρ 19 = r19, ρ 20 = r20, ρ 21 = r21, ρ 22 = r22, ρ 23 = r23, ρ 24 = r24, α 7 = a7, α 8 = a8, α 10 = a10, α 11 = a11, α 16 = a16, α 20 = a20, α 21 = a21, α 24 = a24, α 25 = a25, α 26 = a26, α 27 = a27, α 28 = a28, α 29 = a29, α 30 = a30, α 58 = a58, α 59 = a59, α 60 = a60, α 61 = a61 at *
  subst f0
  subst f2
  subst f3
  subst f4
  subst f5
  subst f7
  subst f8
  subst f9
  subst f11
  subst f12
  refine adI_s f14 (by omega) (by omega) ?_
  have k : a26 r15 % 5 = 4 := by omega
  rw [acF_4 k]
  unfold lgF
  dsimp only
  ((repeat' split) <;> first | rfl | (exfalso; omega)))
def w_advance14_1_5 : VC := (([(0, 23), (0, 49), (0, 8), (0, 11), (0, 9), (0, 6), (0, 6), (0, 8), (0, 9), (1, 49), (0, 49), ((-2147483648), 2147483647), ((-2147483648), 2147483647), (0, 5), (0, 23), (0, 48), (0, 119), (5, 120), (0, 8), (0, 119), (0, 4), (0, 7), (0, 9), (0, 99), (100, 108)]), [(21, [(some 21, 0), (none, 99)], [61, 58]), (2, [(none, 99), (some 24, 0)], []), (4, [(some 24, 0), (some 23, 0), (some 22, 0)], []), (20, [(some 23, 0), (some 21, 0)], [58]), (20, [(some 22, 0), (some 18, 0)], [25]), (20, [(some 21, 0), (some 18, 0)], [24]), (25, [(some 20, 0), (none, 0), (none, 3)], []), (8, [(some 20, 0), (some 19, 0), (none, 5)], []), (20, [(some 19, 0), (some 15, 0)], [26]), (20, [(some 18, 0), (some 15, 0)], [27]), (2, [(some 16, 0), (some 17, 0)], []), (6, [(some 17, 0), (none, 5), (some 14, 1)], []), (20, [(some 16, 0), (some 15, 0)], [26]), (2, [(some 15, 0), (some 9, 0)], []), (90, [(some 10, 0), (some 15, 0), (some 9, 0), (some 14, 0), (some 11, 0), (some 12, 0)], [26, 27, 7, 8, 10, 11, 16, 20, 21, 24, 25, 28, 29, 30, 58, 59, 60]), (87, [(some 9, 0)], [26, 27])], (90, [(some 10, 0), (some 15, 1), (some 9, 0), (some 14, 0), (some 11, 0), (some 12, 0)], [26, 27, 7, 8, 10, 11, 16, 20, 21, 24, 25, 28, 29, 30, 61, 59, 60]))
set_option maxRecDepth 20000 in
theorem v_advance14_1_5 {PT : PTy} (hp : HP4 PT) : vcOk PT w_advance14_1_5 := vc_of (fun ρ α hB hF => by
  obtain ⟨f0, -, f2, f3, f4, f5, f6, f7, f8, f9, f10, f11, f12, f13, f14, f15, -⟩ := hF
  have e87 : PT 87 = P_pr := hp.1.2.2.2.2.2.2.2.2.1
  have e90 : PT 90 = P_adI := hp.1.2.2.2.2.2.2.2.2.2.2.2.1
  simp only [hF2, hF4, hF6, hF8, hF20, hF21, hF25, hFp_87, hFp_90, e87, e90, P_pr, P_adI, den_s, den_c, Int.add_zero, List.map_cons, List.map_nil] at f0 f2 f3 f4 f5 f6 f7 f8 f9 f10 f11 f12 f13 f14 f15 ⊢
  have b9 : (1 : Int) ≤ ρ 9 ∧ ρ 9 ≤ 49 := hB 9 (1, 49) rfl
  have b10 : (0 : Int) ≤ ρ 10 ∧ ρ 10 ≤ 49 := hB 10 (0, 49) rfl
  have b11 : ((-2147483648) : Int) ≤ ρ 11 ∧ ρ 11 ≤ 2147483647 := hB 11 ((-2147483648), 2147483647) rfl
  have b12 : ((-2147483648) : Int) ≤ ρ 12 ∧ ρ 12 ≤ 2147483647 := hB 12 ((-2147483648), 2147483647) rfl
  have b14 : (0 : Int) ≤ ρ 14 ∧ ρ 14 ≤ 23 := hB 14 (0, 23) rfl
  have b15 : (0 : Int) ≤ ρ 15 ∧ ρ 15 ≤ 48 := hB 15 (0, 48) rfl
  have b16 : (0 : Int) ≤ ρ 16 ∧ ρ 16 ≤ 119 := hB 16 (0, 119) rfl
  have b17 : (5 : Int) ≤ ρ 17 ∧ ρ 17 ≤ 120 := hB 17 (5, 120) rfl
  have b18 : (0 : Int) ≤ ρ 18 ∧ ρ 18 ≤ 8 := hB 18 (0, 8) rfl
  have b19 : (0 : Int) ≤ ρ 19 ∧ ρ 19 ≤ 119 := hB 19 (0, 119) rfl
  have b20 : (0 : Int) ≤ ρ 20 ∧ ρ 20 ≤ 4 := hB 20 (0, 4) rfl
  have b21 : (0 : Int) ≤ ρ 21 ∧ ρ 21 ≤ 7 := hB 21 (0, 7) rfl
  have b22 : (0 : Int) ≤ ρ 22 ∧ ρ 22 ≤ 9 := hB 22 (0, 9) rfl
  have b23 : (0 : Int) ≤ ρ 23 ∧ ρ 23 ≤ 99 := hB 23 (0, 99) rfl
  have b24 : (100 : Int) ≤ ρ 24 ∧ ρ 24 ≤ 108 := hB 24 (100, 108) rfl
  clear hB
  generalize ρ 9 = r9, ρ 10 = r10, ρ 11 = r11, ρ 12 = r12, ρ 14 = r14, ρ 15 = r15, ρ 16 = r16, ρ 17 = r17, ρ 18 = r18, ρ 19 = r19, ρ 20 = r20, ρ 21 = r21, ρ 22 = r22, ρ 23 = r23, ρ 24 = r24, α 7 = a7, α 8 = a8, α 10 = a10, α 11 = a11, α 16 = a16, α 20 = a20, α 21 = a21, α 24 = a24, α 25 = a25, α 26 = a26, α 27 = a27, α 28 = a28, α 29 = a29, α 30 = a30, α 58 = a58, α 59 = a59, α 60 = a60, α 61 = a61 at *
  subst f0
  subst f2
  subst f3
  subst f4
  subst f5
  subst f7
  subst f8
  subst f9
  subst f11
  subst f12
  refine adI_s f14 (by omega) (by omega) ?_
  have k : a26 r15 % 5 = 4 := by omega
  rw [acF_4 k]
  unfold lgF
  dsimp only
  ((repeat' split) <;> first | rfl | (exfalso; omega)))
def w_advance14_1_6 : VC := (([(0, 23), (0, 49), (0, 8), (0, 11), (0, 9), (0, 6), (0, 6), (0, 8), (0, 9), (1, 49), (0, 49), ((-2147483648), 2147483647), ((-2147483648), 2147483647), (0, 5), (0, 23), (0, 48), (0, 119), (5, 120), (0, 10), (0, 119), (0, 0), (0, 7), (0, 7), (0, 1), (0, 9), (0, 9), (0, 99), (0, 99)]), [(21, [(some 21, 0), (some 27, 0)], [62, 58]), (3, [(none, 99), (some 27, 0)], []), (4, [(some 27, 0), (some 26, 0), (some 25, 0)], []), (20, [(some 26, 0), (some 21, 0)], [58]), (7, [(some 25, 0), (some 24, 0), (none, 2)], []), (1, [(some 23, 0), (none, 2)], []), (1, [(some 23, 0), (none, 1)], []), (20, [(some 24, 0), (some 18, 0)], [11]), (20, [(some 23, 0), (some 22, 0)], [7]), (20, [(some 22, 0), (some 18, 0)], [10]), (20, [(some 21, 0), (some 18, 0)], [10]), (21, [(some 18, 0), (none, 1)], [61, 60]), (0, [(some 20, 0), (none, 0)], []), (8, [(some 20, 0), (some 19, 0), (none, 5)], []), (20, [(some 19, 0), (some 15, 0)], [26]), (20, [(some 18, 0), (some 15, 0)], [27]), (2, [(some 16, 0), (some 17, 0)], []), (6, [(some 17, 0), (none, 5), (some 14, 1)], []), (20, [(some 16, 0), (some 15, 0)], [26]), (2, [(some 15, 0), (some 9, 0)], []), (90, [(some 10, 0), (some 15, 0), (some 9, 0), (some 14, 0), (some 11, 0), (some 12, 0)], [26, 27, 7, 8, 10, 11, 16, 20, 21, 24, 25, 28, 29, 30, 58, 59, 60]), (87, [(some 9, 0)], [26, 27])], (90, [(some 10, 0), (some 15, 1), (some 9, 0), (some 14, 0), (some 11, 0), (some 12, 0)], [26, 27, 7, 8, 10, 11, 16, 20, 21, 24, 25, 28, 29, 30, 62, 59, 61]))
set_option maxRecDepth 20000 in
theorem v_advance14_1_6 {PT : PTy} (hp : HP4 PT) : vcOk PT w_advance14_1_6 := vc_of (fun ρ α hB hF => by
  obtain ⟨f0, -, f2, f3, f4, -, f6, f7, f8, f9, f10, f11, f12, f13, f14, f15, f16, f17, f18, f19, f20, f21, -⟩ := hF
  have e87 : PT 87 = P_pr := hp.1.2.2.2.2.2.2.2.2.1
  have e90 : PT 90 = P_adI := hp.1.2.2.2.2.2.2.2.2.2.2.2.1
  simp only [hF0, hF1, hF2, hF4, hF6, hF7, hF8, hF20, hF21, hFp_87, hFp_90, e87, e90, P_pr, P_adI, den_s, den_c, Int.add_zero, List.map_cons, List.map_nil] at f0 f2 f3 f4 f6 f7 f8 f9 f10 f11 f12 f13 f14 f15 f16 f17 f18 f19 f20 f21 ⊢
  have b9 : (1 : Int) ≤ ρ 9 ∧ ρ 9 ≤ 49 := hB 9 (1, 49) rfl
  have b10 : (0 : Int) ≤ ρ 10 ∧ ρ 10 ≤ 49 := hB 10 (0, 49) rfl
  have b11 : ((-2147483648) : Int) ≤ ρ 11 ∧ ρ 11 ≤ 2147483647 := hB 11 ((-2147483648), 2147483647) rfl
  have b12 : ((-2147483648) : Int) ≤ ρ 12 ∧ ρ 12 ≤ 2147483647 := hB 12 ((-2147483648), 2147483647) rfl
  have b14 : (0 : Int) ≤ ρ 14 ∧ ρ 14 ≤ 23 := hB 14 (0, 23) rfl
  have b15 : (0 : Int) ≤ ρ 15 ∧ ρ 15 ≤ 48 := hB 15 (0, 48) rfl
  have b16 : (0 : Int) ≤ ρ 16 ∧ ρ 16 ≤ 119 := hB 16 (0, 119) rfl
  have b17 : (5 : Int) ≤ ρ 17 ∧ ρ 17 ≤ 120 := hB 17 (5, 120) rfl
  have b18 : (0 : Int) ≤ ρ 18 ∧ ρ 18 ≤ 10 := hB 18 (0, 10) rfl
  have b19 : (0 : Int) ≤ ρ 19 ∧ ρ 19 ≤ 119 := hB 19 (0, 119) rfl
  have b20 : (0 : Int) ≤ ρ 20 ∧ ρ 20 ≤ 0 := hB 20 (0, 0) rfl
  have b21 : (0 : Int) ≤ ρ 21 ∧ ρ 21 ≤ 7 := hB 21 (0, 7) rfl
  have b22 : (0 : Int) ≤ ρ 22 ∧ ρ 22 ≤ 7 := hB 22 (0, 7) rfl
  have b23 : (0 : Int) ≤ ρ 23 ∧ ρ 23 ≤ 1 := hB 23 (0, 1) rfl
  have b24 : (0 : Int) ≤ ρ 24 ∧ ρ 24 ≤ 9 := hB 24 (0, 9) rfl
  have b25 : (0 : Int) ≤ ρ 25 ∧ ρ 25 ≤ 9 := hB 25 (0, 9) rfl
  have b26 : (0 : Int) ≤ ρ 26 ∧ ρ 26 ≤ 99 := hB 26 (0, 99) rfl
  have b27 : (0 : Int) ≤ ρ 27 ∧ ρ 27 ≤ 99 := hB 27 (0, 99) rfl
  clear hB
  generalize ρ 9 = r9, ρ 10 = r10, ρ 11 = r11, ρ 12 = r12, ρ 14 = r14, ρ 15 = r15, ρ 16 = r16, ρ 17 = r17, ρ 18 = r18, ρ 19 = r19, ρ 20 = r20, ρ 21 = r21, ρ 22 = r22, ρ 23 = r23, ρ 24 = r24, ρ 25 = r25, ρ 26 = r26, ρ 27 = r27, α 7 = a7, α 8 = a8, α 10 = a10, α 11 = a11, α 16 = a16, α 20 = a20, α 21 = a21, α 24 = a24, α 25 = a25, α 26 = a26, α 27 = a27, α 28 = a28, α 29 = a29, α 30 = a30, α 58 = a58, α 59 = a59, α 60 = a60, α 61 = a61, α 62 = a62 at *
  subst f0
  subst f2
  subst f3
  subst f4
  subst f7
  subst f8
  subst f9
  subst f10
  subst f11
  subst f13
  subst f14
  subst f15
  subst f17
  subst f18
  refine adI_s f20 (by omega) (by omega) ?_
  have k : a26 r15 % 5 = 0 := by omega
  rw [acF_0 k]
  unfold lgF gnF
  dsimp only
  ((repeat' split) <;> first | rfl | (exfalso; omega)))
def w_advance14_1_7 : VC := (([(0, 23), (0, 49), (0, 8), (0, 11), (0, 9), (0, 6), (0, 6), (0, 8), (0, 9), (1, 49), (0, 49), ((-2147483648), 2147483647), ((-2147483648), 2147483647), (0, 5), (0, 23), (0, 48), (0, 119), (5, 120), (0, 10), (0, 119), (0, 0), (0, 7), (0, 7), (0, 1), (0, 9), (0, 9), (0, 99), (100, 108)]), [(21, [(some 21, 0), (none, 99)], [62, 58]), (2, [(none, 99), (some 27, 0)], []), (4, [(some 27, 0), (some 26, 0), (some 25, 0)], []), (20, [(some 26, 0), (some 21, 0)], [58]), (7, [(some 25, 0), (some 24, 0), (none, 2)], []), (1, [(some 23, 0), (none, 2)], []), (1, [(some 23, 0), (none, 1)], []), (20, [(some 24, 0), (some 18, 0)], [11]), (20, [(some 23, 0), (some 22, 0)], [7]), (20, [(some 22, 0), (some 18, 0)], [10]), (20, [(some 21, 0), (some 18, 0)], [10]), (21, [(some 18, 0), (none, 1)], [61, 60]), (0, [(some 20, 0), (none, 0)], []), (8, [(some 20, 0), (some 19, 0), (none, 5)], []), (20, [(some 19, 0), (some 15, 0)], [26]), (20, [(some 18, 0), (some 15, 0)], [27]), (2, [(some 16, 0), (some 17, 0)], []), (6, [(some 17, 0), (none, 5), (some 14, 1)], []), (20, [(some 16, 0), (some 15, 0)], [26]), (2, [(some 15, 0), (some 9, 0)], []), (90, [(some 10, 0), (some 15, 0), (some 9, 0), (some 14, 0), (some 11, 0), (some 12, 0)], [26, 27, 7, 8, 10, 11, 16, 20, 21, 24, 25, 28, 29, 30, 58, 59, 60]), (87, [(some 9, 0)], [26, 27])], (90, [(some 10, 0), (some 15, 1), (some 9, 0), (some 14, 0), (some 11, 0), (some 12, 0)], [26, 27, 7, 8, 10, 11, 16, 20, 21, 24, 25, 28, 29, 30, 62, 59, 61]))
set_option maxRecDepth 20000 in
theorem v_advance14_1_7 {PT : PTy} (hp : HP4 PT) : vcOk PT w_advance14_1_7 := vc_of (fun ρ α hB hF => by
  obtain ⟨f0, -, f2, f3, f4, -, f6, f7, f8, f9, f10, f11, f12, f13, f14, f15, f16, f17, f18, f19, f20, f21, -⟩ := hF
  have e87 : PT 87 = P_pr := hp.1.2.2.2.2.2.2.2.2.1
  have e90 : PT 90 = P_adI := hp.1.2.2.2.2.2.2.2.2.2.2.2.1
  simp only [hF0, hF1, hF2, hF4, hF6, hF7, hF8, hF20, hF21, hFp_87, hFp_90, e87, e90, P_pr, P_adI, den_s, den_c, Int.add_zero, List.map_cons, List.map_nil] at f0 f2 f3 f4 f6 f7 f8 f9 f10 f11 f12 f13 f14 f15 f16 f17 f18 f19 f20 f21 ⊢
  have b9 : (1 : Int) ≤ ρ 9 ∧ ρ 9 ≤ 49 := hB 9 (1, 49) rfl
  have b10 : (0 : Int) ≤ ρ 10 ∧ ρ 10 ≤ 49 := hB 10 (0, 49) rfl
  have b11 : ((-2147483648) : Int) ≤ ρ 11 ∧ ρ 11 ≤ 2147483647 := hB 11 ((-2147483648), 2147483647) rfl
  have b12 : ((-2147483648) : Int) ≤ ρ 12 ∧ ρ 12 ≤ 2147483647 := hB 12 ((-2147483648), 2147483647) rfl
  have b14 : (0 : Int) ≤ ρ 14 ∧ ρ 14 ≤ 23 := hB 14 (0, 23) rfl
  have b15 : (0 : Int) ≤ ρ 15 ∧ ρ 15 ≤ 48 := hB 15 (0, 48) rfl
  have b16 : (0 : Int) ≤ ρ 16 ∧ ρ 16 ≤ 119 := hB 16 (0, 119) rfl
  have b17 : (5 : Int) ≤ ρ 17 ∧ ρ 17 ≤ 120 := hB 17 (5, 120) rfl
  have b18 : (0 : Int) ≤ ρ 18 ∧ ρ 18 ≤ 10 := hB 18 (0, 10) rfl
  have b19 : (0 : Int) ≤ ρ 19 ∧ ρ 19 ≤ 119 := hB 19 (0, 119) rfl
  have b20 : (0 : Int) ≤ ρ 20 ∧ ρ 20 ≤ 0 := hB 20 (0, 0) rfl
  have b21 : (0 : Int) ≤ ρ 21 ∧ ρ 21 ≤ 7 := hB 21 (0, 7) rfl
  have b22 : (0 : Int) ≤ ρ 22 ∧ ρ 22 ≤ 7 := hB 22 (0, 7) rfl
  have b23 : (0 : Int) ≤ ρ 23 ∧ ρ 23 ≤ 1 := hB 23 (0, 1) rfl
  have b24 : (0 : Int) ≤ ρ 24 ∧ ρ 24 ≤ 9 := hB 24 (0, 9) rfl
  have b25 : (0 : Int) ≤ ρ 25 ∧ ρ 25 ≤ 9 := hB 25 (0, 9) rfl
  have b26 : (0 : Int) ≤ ρ 26 ∧ ρ 26 ≤ 99 := hB 26 (0, 99) rfl
  have b27 : (100 : Int) ≤ ρ 27 ∧ ρ 27 ≤ 108 := hB 27 (100, 108) rfl
  clear hB
  generalize ρ 9 = r9, ρ 10 = r10, ρ 11 = r11, ρ 12 = r12, ρ 14 = r14, ρ 15 = r15, ρ 16 = r16, ρ 17 = r17, ρ 18 = r18, ρ 19 = r19, ρ 20 = r20, ρ 21 = r21, ρ 22 = r22, ρ 23 = r23, ρ 24 = r24, ρ 25 = r25, ρ 26 = r26, ρ 27 = r27, α 7 = a7, α 8 = a8, α 10 = a10, α 11 = a11, α 16 = a16, α 20 = a20, α 21 = a21, α 24 = a24, α 25 = a25, α 26 = a26, α 27 = a27, α 28 = a28, α 29 = a29, α 30 = a30, α 58 = a58, α 59 = a59, α 60 = a60, α 61 = a61, α 62 = a62 at *
  subst f0
  subst f2
  subst f3
  subst f4
  subst f7
  subst f8
  subst f9
  subst f10
  subst f11
  subst f13
  subst f14
  subst f15
  subst f17
  subst f18
  refine adI_s f20 (by omega) (by omega) ?_
  have k : a26 r15 % 5 = 0 := by omega
  rw [acF_0 k]
  unfold lgF gnF
  dsimp only
  ((repeat' split) <;> first | rfl | (exfalso; omega)))
def w_advance14_1_8 : VC := (([(0, 23), (0, 49), (0, 8), (0, 11), (0, 9), (0, 6), (0, 6), (0, 8), (0, 9), (1, 49), (0, 49), ((-2147483648), 2147483647), ((-2147483648), 2147483647), (0, 5), (0, 23), (0, 48), (0, 119), (5, 120), (0, 10), (0, 119), (0, 0), (0, 7), (0, 7), (2, 2), (0, 9), (0, 99), (0, 99)]), [(21, [(some 21, 0), (some 26, 0)], [62, 58]), (3, [(none, 99), (some 26, 0)], []), (4, [(some 26, 0), (some 25, 0), (some 24, 0)], []), (20, [(some 25, 0), (some 21, 0)], [58]), (0, [(some 23, 0), (none, 2)], []), (1, [(some 23, 0), (none, 1)], []), (20, [(some 24, 0), (some 18, 0)], [11]), (20, [(some 23, 0), (some 22, 0)], [7]), (20, [(some 22, 0), (some 18, 0)], [10]), (20, [(some 21, 0), (some 18, 0)], [10]), (21, [(some 18, 0), (none, 1)], [61, 60]), (0, [(some 20, 0), (none, 0)], []), (8, [(some 20, 0), (some 19, 0), (none, 5)], []), (20, [(some 19, 0), (some 15, 0)], [26]), (20, [(some 18, 0), (some 15, 0)], [27]), (2, [(some 16, 0), (some 17, 0)], []), (6, [(some 17, 0), (none, 5), (some 14, 1)], []), (20, [(some 16, 0), (some 15, 0)], [26]), (2, [(some 15, 0), (some 9, 0)], []), (90, [(some 10, 0), (some 15, 0), (some 9, 0), (some 14, 0), (some 11, 0), (some 12, 0)], [26, 27, 7, 8, 10, 11, 16, 20, 21, 24, 25, 28, 29, 30, 58, 59, 60]), (87, [(some 9, 0)], [26, 27])], (90, [(some 10, 0), (some 15, 1), (some 9, 0), (some 14, 0), (some 11, 0), (some 12, 0)], [26, 27, 7, 8, 10, 11, 16, 20, 21, 24, 25, 28, 29, 30, 62, 59, 61]))
set_option maxRecDepth 20000 in
theorem v_advance14_1_8 {PT : PTy} (hp : HP4 PT) : vcOk PT w_advance14_1_8 := vc_of (fun ρ α hB hF => by
  obtain ⟨f0, -, f2, f3, f4, -, f6, f7, f8, f9, f10, f11, f12, f13, f14, f15, f16, f17, f18, f19, f20, -⟩ := hF
  have e87 : PT 87 = P_pr := hp.1.2.2.2.2.2.2.2.2.1
  have e90 : PT 90 = P_adI := hp.1.2.2.2.2.2.2.2.2.2.2.2.1
  simp only [hF0, hF2, hF4, hF6, hF8, hF20, hF21, hFp_87, hFp_90, e87, e90, P_pr, P_adI, den_s, den_c, Int.add_zero, List.map_cons, List.map_nil] at f0 f2 f3 f4 f6 f7 f8 f9 f10 f11 f12 f13 f14 f15 f16 f17 f18 f19 f20 ⊢
  have b9 : (1 : Int) ≤ ρ 9 ∧ ρ 9 ≤ 49 := hB 9 (1, 49) rfl
  have b10 : (0 : Int) ≤ ρ 10 ∧ ρ 10 ≤ 49 := hB 10 (0, 49) rfl
  have b11 : ((-2147483648) : Int) ≤ ρ 11 ∧ ρ 11 ≤ 2147483647 := hB 11 ((-2147483648), 2147483647) rfl
  have b12 : ((-2147483648) : Int) ≤ ρ 12 ∧ ρ 12 ≤ 2147483647 := hB 12 ((-2147483648), 2147483647) rfl
  have b14 : (0 : Int) ≤ ρ 14 ∧ ρ 14 ≤ 23 := hB 14 (0, 23) rfl
  have b15 : (0 : Int) ≤ ρ 15 ∧ ρ 15 ≤ 48 := hB 15 (0, 48) rfl
  have b16 : (0 : Int) ≤ ρ 16 ∧ ρ 16 ≤ 119 := hB 16 (0, 119) rfl
  have b17 : (5 : Int) ≤ ρ 17 ∧ ρ 17 ≤ 120 := hB 17 (5, 120) rfl
  have b18 : (0 : Int) ≤ ρ 18 ∧ ρ 18 ≤ 10 := hB 18 (0, 10) rfl
  have b19 : (0 : Int) ≤ ρ 19 ∧ ρ 19 ≤ 119 := hB 19 (0, 119) rfl
  have b20 : (0 : Int) ≤ ρ 20 ∧ ρ 20 ≤ 0 := hB 20 (0, 0) rfl
  have b21 : (0 : Int) ≤ ρ 21 ∧ ρ 21 ≤ 7 := hB 21 (0, 7) rfl
  have b22 : (0 : Int) ≤ ρ 22 ∧ ρ 22 ≤ 7 := hB 22 (0, 7) rfl
  have b23 : (2 : Int) ≤ ρ 23 ∧ ρ 23 ≤ 2 := hB 23 (2, 2) rfl
  have b24 : (0 : Int) ≤ ρ 24 ∧ ρ 24 ≤ 9 := hB 24 (0, 9) rfl
  have b25 : (0 : Int) ≤ ρ 25 ∧ ρ 25 ≤ 99 := hB 25 (0, 99) rfl
  have b26 : (0 : Int) ≤ ρ 26 ∧ ρ 26 ≤ 99 := hB 26 (0, 99) rfl
  clear hB
  generalize ρ 9 = r9, ρ 10 = r10, ρ 11 = r11, ρ 12 = r12, ρ 14 = r14, ρ 15 = r15, ρ 16 = r16, ρ 17 = r17, ρ 18 = r18, ρ 19 = r19, ρ 20 = r20, ρ 21 = r21, ρ 22 = r22, ρ 23 = r23, ρ 24 = r24, ρ 25 = r25, ρ 26 = r26, α 7 = a7, α 8 = a8, α 10 = a10, α 11 = a11, α 16 = a16, α 20 = a20, α 21 = a21, α 24 = a24, α 25 = a25, α 26 = a26, α 27 = a27, α 28 = a28, α 29 = a29, α 30 = a30, α 58 = a58, α 59 = a59, α 60 = a60, α 61 = a61, α 62 = a62 at *
  subst f0
  subst f2
  subst f3
  subst f6
  subst f7
  subst f8
  subst f9
  subst f10
  subst f12
  subst f13
  subst f14
  subst f16
  subst f17
  refine adI_s f19 (by omega) (by omega) ?_
  have k : a26 r15 % 5 = 0 := by omega
  rw [acF_0 k]
  unfold lgF gnF
  dsimp only
  ((repeat' split) <;> first | rfl | (exfalso; omega)))
def w_advance14_1_9 : VC := (([(0, 23), (0, 49), (0, 8), (0, 11), (0, 9), (0, 6), (0, 6), (0, 8), (0, 9), (1, 49), (0, 49), ((-2147483648), 2147483647), ((-2147483648), 2147483647), (0, 5), (0, 23), (0, 48), (0, 119), (5, 120), (0, 10), (0, 119), (0, 0), (0, 7), (0, 7), (2, 2), (0, 9), (0, 99), (100, 108)]), [(21, [(some 21, 0), (none, 99)], [62, 58]), (2, [(none, 99), (some 26, 0)], []), (4, [(some 26, 0), (some 25, 0), (some 24, 0)], []), (20, [(some 25, 0), (some 21, 0)], [58]), (0, [(some 23, 0), (none, 2)], []), (1, [(some 23, 0), (none, 1)], []), (20, [(some 24, 0), (some 18, 0)], [11]), (20, [(some 23, 0), (some 22, 0)], [7]), (20, [(some 22, 0), (some 18, 0)], [10]), (20, [(some 21, 0), (some 18, 0)], [10]), (21, [(some 18, 0), (none, 1)], [61, 60]), (0, [(some 20, 0), (none, 0)], []), (8, [(some 20, 0), (some 19, 0), (none, 5)], []), (20, [(some 19, 0), (some 15, 0)], [26]), (20, [(some 18, 0), (some 15, 0)], [27]), (2, [(some 16, 0), (some 17, 0)], []), (6, [(some 17, 0), (none, 5), (some 14, 1)], []), (20, [(some 16, 0), (some 15, 0)], [26]), (2, [(some 15, 0), (some 9, 0)], []), (90, [(some 10, 0), (some 15, 0), (some 9, 0), (some 14, 0), (some 11, 0), (some 12, 0)], [26, 27, 7, 8, 10, 11, 16, 20, 21, 24, 25, 28, 29, 30, 58, 59, 60]), (87, [(some 9, 0)], [26, 27])], (90, [(some 10, 0), (some 15, 1), (some 9, 0), (some 14, 0), (some 11, 0), (some 12, 0)], [26, 27, 7, 8, 10, 11, 16, 20, 21, 24, 25, 28, 29, 30, 62, 59, 61]))
set_option maxRecDepth 20000 in
theorem v_advance14_1_9 {PT : PTy} (hp : HP4 PT) : vcOk PT w_advance14_1_9 := vc_of (fun ρ α hB hF => by
  obtain ⟨f0, -, f2, f3, f4, -, f6, f7, f8, f9, f10, f11, f12, f13, f14, f15, f16, f17, f18, f19, f20, -⟩ := hF
  have e87 : PT 87 = P_pr := hp.1.2.2.2.2.2.2.2.2.1
  have e90 : PT 90 = P_adI := hp.1.2.2.2.2.2.2.2.2.2.2.2.1
  simp only [hF0, hF2, hF4, hF6, hF8, hF20, hF21, hFp_87, hFp_90, e87, e90, P_pr, P_adI, den_s, den_c, Int.add_zero, List.map_cons, List.map_nil] at f0 f2 f3 f4 f6 f7 f8 f9 f10 f11 f12 f13 f14 f15 f16 f17 f18 f19 f20 ⊢
  have b9 : (1 : Int) ≤ ρ 9 ∧ ρ 9 ≤ 49 := hB 9 (1, 49) rfl
  have b10 : (0 : Int) ≤ ρ 10 ∧ ρ 10 ≤ 49 := hB 10 (0, 49) rfl
  have b11 : ((-2147483648) : Int) ≤ ρ 11 ∧ ρ 11 ≤ 2147483647 := hB 11 ((-2147483648), 2147483647) rfl
  have b12 : ((-2147483648) : Int) ≤ ρ 12 ∧ ρ 12 ≤ 2147483647 := hB 12 ((-2147483648), 2147483647) rfl
  have b14 : (0 : Int) ≤ ρ 14 ∧ ρ 14 ≤ 23 := hB 14 (0, 23) rfl
  have b15 : (0 : Int) ≤ ρ 15 ∧ ρ 15 ≤ 48 := hB 15 (0, 48) rfl
  have b16 : (0 : Int) ≤ ρ 16 ∧ ρ 16 ≤ 119 := hB 16 (0, 119) rfl
  have b17 : (5 : Int) ≤ ρ 17 ∧ ρ 17 ≤ 120 := hB 17 (5, 120) rfl
  have b18 : (0 : Int) ≤ ρ 18 ∧ ρ 18 ≤ 10 := hB 18 (0, 10) rfl
  have b19 : (0 : Int) ≤ ρ 19 ∧ ρ 19 ≤ 119 := hB 19 (0, 119) rfl
  have b20 : (0 : Int) ≤ ρ 20 ∧ ρ 20 ≤ 0 := hB 20 (0, 0) rfl
  have b21 : (0 : Int) ≤ ρ 21 ∧ ρ 21 ≤ 7 := hB 21 (0, 7) rfl
  have b22 : (0 : Int) ≤ ρ 22 ∧ ρ 22 ≤ 7 := hB 22 (0, 7) rfl
  have b23 : (2 : Int) ≤ ρ 23 ∧ ρ 23 ≤ 2 := hB 23 (2, 2) rfl
  have b24 : (0 : Int) ≤ ρ 24 ∧ ρ 24 ≤ 9 := hB 24 (0, 9) rfl
  have b25 : (0 : Int) ≤ ρ 25 ∧ ρ 25 ≤ 99 := hB 25 (0, 99) rfl
  have b26 : (100 : Int) ≤ ρ 26 ∧ ρ 26 ≤ 108 := hB 26 (100, 108) rfl
  clear hB
  generalize ρ 9 = r9, ρ 10 = r10, ρ 11 = r11, ρ 12 = r12, ρ 14 = r14, ρ 15 = r15, ρ 16 = r16, ρ 17 = r17, ρ 18 = r18, ρ 19 = r19, ρ 20 = r20, ρ 21 = r21, ρ 22 = r22, ρ 23 = r23, ρ 24 = r24, ρ 25 = r25, ρ 26 = r26, α 7 = a7, α 8 = a8, α 10 = a10, α 11 = a11, α 16 = a16, α 20 = a20, α 21 = a21, α 24 = a24, α 25 = a25, α 26 = a26, α 27 = a27, α 28 = a28, α 29 = a29, α 30 = a30, α 58 = a58, α 59 = a59, α 60 = a60, α 61 = a61, α 62 = a62 at *
  subst f0
  subst f2
  subst f3
  subst f6
  subst f7
  subst f8
  subst f9
  subst f10
  subst f12
  subst f13
  subst f14
  subst f16
  subst f17
  refine adI_s f19 (by omega) (by omega) ?_
  have k : a26 r15 % 5 = 0 := by omega
  rw [acF_0 k]
  unfold lgF gnF
  dsimp only
  ((repeat' split) <;> first | rfl | (exfalso; omega)))
def w_advance14_1_10 : VC := (([(0, 23), (0, 49), (0, 8), (0, 11), (0, 9), (0, 6), (0, 6), (0, 8), (0, 9), (1, 49), (0, 49), ((-2147483648), 2147483647), ((-2147483648), 2147483647), (0, 5), (0, 23), (0, 48), (0, 119), (5, 120), (0, 10), (0, 119), (0, 0), (0, 7), (0, 7), (1, 1), (0, 9), (0, 18), (0, 99), (0, 99)]), [(21, [(some 21, 0), (some 27, 0)], [62, 58]), (3, [(none, 99), (some 27, 0)], []), (4, [(some 27, 0), (some 26, 0), (some 25, 0)], []), (20, [(some 26, 0), (some 21, 0)], [58]), (6, [(some 25, 0), (none, 2), (some 24, 0)], []), (0, [(some 23, 0), (none, 1)], []), (20, [(some 24, 0), (some 18, 0)], [11]), (20, [(some 23, 0), (some 22, 0)], [7]), (20, [(some 22, 0), (some 18, 0)], [10]), (20, [(some 21, 0), (some 18, 0)], [10]), (21, [(some 18, 0), (none, 1)], [61, 60]), (0, [(some 20, 0), (none, 0)], []), (8, [(some 20, 0), (some 19, 0), (none, 5)], []), (20, [(some 19, 0), (some 15, 0)], [26]), (20, [(some 18, 0), (some 15, 0)], [27]), (2, [(some 16, 0), (some 17, 0)], []), (6, [(some 17, 0), (none, 5), (some 14, 1)], []), (20, [(some 16, 0), (some 15, 0)], [26]), (2, [(some 15, 0), (some 9, 0)], []), (90, [(some 10, 0), (some 15, 0), (some 9, 0), (some 14, 0), (some 11, 0), (some 12, 0)], [26, 27, 7, 8, 10, 11, 16, 20, 21, 24, 25, 28, 29, 30, 58, 59, 60]), (87, [(some 9, 0)], [26, 27])], (90, [(some 10, 0), (some 15, 1), (some 9, 0), (some 14, 0), (some 11, 0), (some 12, 0)], [26, 27, 7, 8, 10, 11, 16, 20, 21, 24, 25, 28, 29, 30, 62, 59, 61]))
set_option maxRecDepth 20000 in
theorem v_advance14_1_10 {PT : PTy} (hp : HP4 PT) : vcOk PT w_advance14_1_10 := vc_of (fun ρ α hB hF => by
  obtain ⟨f0, -, f2, f3, f4, f5, f6, f7, f8, f9, f10, f11, f12, f13, f14, f15, f16, f17, f18, f19, f20, -⟩ := hF
  have e87 : PT 87 = P_pr := hp.1.2.2.2.2.2.2.2.2.1
  have e90 : PT 90 = P_adI := hp.1.2.2.2.2.2.2.2.2.2.2.2.1
  simp only [hF0, hF2, hF4, hF6, hF8, hF20, hF21, hFp_87, hFp_90, e87, e90, P_pr, P_adI, den_s, den_c, Int.add_zero, List.map_cons, List.map_nil] at f0 f2 f3 f4 f5 f6 f7 f8 f9 f10 f11 f12 f13 f14 f15 f16 f17 f18 f19 f20 ⊢
  have b9 : (1 : Int) ≤ ρ 9 ∧ ρ 9 ≤ 49 := hB 9 (1, 49) rfl
  have b10 : (0 : Int) ≤ ρ 10 ∧ ρ 10 ≤ 49 := hB 10 (0, 49) rfl
  have b11 : ((-2147483648) : Int) ≤ ρ 11 ∧ ρ 11 ≤ 2147483647 := hB 11 ((-2147483648), 2147483647) rfl
  have b12 : ((-2147483648) : Int) ≤ ρ 12 ∧ ρ 12 ≤ 2147483647 := hB 12 ((-2147483648), 2147483647) rfl
  have b14 : (0 : Int) ≤ ρ 14 ∧ ρ 14 ≤ 23 := hB 14 (0, 23) rfl
  have b15 : (0 : Int) ≤ ρ 15 ∧ ρ 15 ≤ 48 := hB 15 (0, 48) rfl
  have b16 : (0 : Int) ≤ ρ 16 ∧ ρ 16 ≤ 119 := hB 16 (0, 119) rfl
  have b17 : (5 : Int) ≤ ρ 17 ∧ ρ 17 ≤ 120 := hB 17 (5, 120) rfl
  have b18 : (0 : Int) ≤ ρ 18 ∧ ρ 18 ≤ 10 := hB 18 (0, 10) rfl
  have b19 : (0 : Int) ≤ ρ 19 ∧ ρ 19 ≤ 119 := hB 19 (0, 119) rfl
  have b20 : (0 : Int) ≤ ρ 20 ∧ ρ 20 ≤ 0 := hB 20 (0, 0) rfl
  have b21 : (0 : Int) ≤ ρ 21 ∧ ρ 21 ≤ 7 := hB 21 (0, 7) rfl
  have b22 : (0 : Int) ≤ ρ 22 ∧ ρ 22 ≤ 7 := hB 22 (0, 7) rfl
  have b23 : (1 : Int) ≤ ρ 23 ∧ ρ 23 ≤ 1 := hB 23 (1, 1) rfl
  have b24 : (0 : Int) ≤ ρ 24 ∧ ρ 24 ≤ 9 := hB 24 (0, 9) rfl
  have b25 : (0 : Int) ≤ ρ 25 ∧ ρ 25 ≤ 18 := hB 25 (0, 18) rfl
  have b26 : (0 : Int) ≤ ρ 26 ∧ ρ 26 ≤ 99 := hB 26 (0, 99) rfl
  have b27 : (0 : Int) ≤ ρ 27 ∧ ρ 27 ≤ 99 := hB 27 (0, 99) rfl
  clear hB
  generalize ρ 9 = r9, ρ 10 = r10, ρ 11 = r11, ρ 12 = r12, ρ 14 = r14, ρ 15 = r15, ρ 16 = r16, ρ 17 = r17, ρ 18 = r18, ρ 19 = r19, ρ 20 = r20, ρ 21 = r21, ρ 22 = r22, ρ 23 = r23, ρ 24 = r24, ρ 25 = r25, ρ 26 = r26, ρ 27 = r27, α 7 = a7, α 8 = a8, α 10 = a10, α 11 = a11, α 16 = a16, α 20 = a20, α 21 = a21, α 24 = a24, α 25 = a25, α 26 = a26, α 27 = a27, α 28 = a28, α 29 = a29, α 30 = a30, α 58 = a58, α 59 = a59, α 60 = a60, α 61 = a61, α 62 = a62 at *
  subst f0
  subst f2
  subst f3
  subst f4
  subst f6
  subst f7
  subst f8
  subst f9
  subst f10
  subst f12
  subst f13
  subst f14
  subst f16
  subst f17
  refine adI_s f19 (by omega) (by omega) ?_
  have k : a26 r15 % 5 = 0 := by omega
  rw [acF_0 k]
  unfold lgF gnF
  dsimp only
  ((repeat' split) <;> first | rfl | (exfalso; omega)))
def w_advance14_1_11 : VC := (([(0, 23), (0, 49), (0, 8), (0, 11), (0, 9), (0, 6), (0, 6), (0, 8), (0, 9), (1, 49), (0, 49), ((-2147483648), 2147483647), ((-2147483648), 2147483647), (0, 5), (0, 23), (0, 48), (0, 119), (5, 120), (0, 10), (0, 119), (0, 0), (0, 7), (0, 7), (1, 1), (0, 9), (0, 18), (0, 99), (100, 117)]), [(21, [(some 21, 0), (none, 99)], [62, 58]), (2, [(none, 99), (some 27, 0)], []), (4, [(some 27, 0), (some 26, 0), (some 25, 0)], []), (20, [(some 26, 0), (some 21, 0)], [58]), (6, [(some 25, 0), (none, 2), (some 24, 0)], []), (0, [(some 23, 0), (none, 1)], []), (20, [(some 24, 0), (some 18, 0)], [11]), (20, [(some 23, 0), (some 22, 0)], [7]), (20, [(some 22, 0), (some 18, 0)], [10]), (20, [(some 21, 0), (some 18, 0)], [10]), (21, [(some 18, 0), (none, 1)], [61, 60]), (0, [(some 20, 0), (none, 0)], []), (8, [(some 20, 0), (some 19, 0), (none, 5)], []), (20, [(some 19, 0), (some 15, 0)], [26]), (20, [(some 18, 0), (some 15, 0)], [27]), (2, [(some 16, 0), (some 17, 0)], []), (6, [(some 17, 0), (none, 5), (some 14, 1)], []), (20, [(some 16, 0), (some 15, 0)], [26]), (2, [(some 15, 0), (some 9, 0)], []), (90, [(some 10, 0), (some 15, 0), (some 9, 0), (some 14, 0), (some 11, 0), (some 12, 0)], [26, 27, 7, 8, 10, 11, 16, 20, 21, 24, 25, 28, 29, 30, 58, 59, 60]), (87, [(some 9, 0)], [26, 27])], (90, [(some 10, 0), (some 15, 1), (some 9, 0), (some 14, 0), (some 11, 0), (some 12, 0)], [26, 27, 7, 8, 10, 11, 16, 20, 21, 24, 25, 28, 29, 30, 62, 59, 61]))
set_option maxRecDepth 20000 in
theorem v_advance14_1_11 {PT : PTy} (hp : HP4 PT) : vcOk PT w_advance14_1_11 := vc_of (fun ρ α hB hF => by
  obtain ⟨f0, -, f2, f3, f4, f5, f6, f7, f8, f9, f10, f11, f12, f13, f14, f15, f16, f17, f18, f19, f20, -⟩ := hF
  have e87 : PT 87 = P_pr := hp.1.2.2.2.2.2.2.2.2.1
  have e90 : PT 90 = P_adI := hp.1.2.2.2.2.2.2.2.2.2.2.2.1
  simp only [hF0, hF2, hF4, hF6, hF8, hF20, hF21, hFp_87, hFp_90, e87, e90, P_pr, P_adI, den_s, den_c, Int.add_zero, List.map_cons, List.map_nil] at f0 f2 f3 f4 f5 f6 f7 f8 f9 f10 f11 f12 f13 f14 f15 f16 f17 f18 f19 f20 ⊢
  have b9 : (1 : Int) ≤ ρ 9 ∧ ρ 9 ≤ 49 := hB 9 (1, 49) rfl
  have b10 : (0 : Int) ≤ ρ 10 ∧ ρ 10 ≤ 49 := hB 10 (0, 49) rfl
  have b11 : ((-2147483648) : Int) ≤ ρ 11 ∧ ρ 11 ≤ 2147483647 := hB 11 ((-2147483648), 2147483647) rfl
  have b12 : ((-2147483648) : Int) ≤ ρ 12 ∧ ρ 12 ≤ 2147483647 := hB 12 ((-2147483648), 2147483647) rfl
  have b14 : (0 : Int) ≤ ρ 14 ∧ ρ 14 ≤ 23 := hB 14 (0, 23) rfl
  have b15 : (0 : Int) ≤ ρ 15 ∧ ρ 15 ≤ 48 := hB 15 (0, 48) rfl
  have b16 : (0 : Int) ≤ ρ 16 ∧ ρ 16 ≤ 119 := hB 16 (0, 119) rfl
  have b17 : (5 : Int) ≤ ρ 17 ∧ ρ 17 ≤ 120 := hB 17 (5, 120) rfl
  have b18 : (0 : Int) ≤ ρ 18 ∧ ρ 18 ≤ 10 := hB 18 (0, 10) rfl
  have b19 : (0 : Int) ≤ ρ 19 ∧ ρ 19 ≤ 119 := hB 19 (0, 119) rfl
  have b20 : (0 : Int) ≤ ρ 20 ∧ ρ 20 ≤ 0 := hB 20 (0, 0) rfl
  have b21 : (0 : Int) ≤ ρ 21 ∧ ρ 21 ≤ 7 := hB 21 (0, 7) rfl
  have b22 : (0 : Int) ≤ ρ 22 ∧ ρ 22 ≤ 7 := hB 22 (0, 7) rfl
  have b23 : (1 : Int) ≤ ρ 23 ∧ ρ 23 ≤ 1 := hB 23 (1, 1) rfl
  have b24 : (0 : Int) ≤ ρ 24 ∧ ρ 24 ≤ 9 := hB 24 (0, 9) rfl
  have b25 : (0 : Int) ≤ ρ 25 ∧ ρ 25 ≤ 18 := hB 25 (0, 18) rfl
  have b26 : (0 : Int) ≤ ρ 26 ∧ ρ 26 ≤ 99 := hB 26 (0, 99) rfl
  have b27 : (100 : Int) ≤ ρ 27 ∧ ρ 27 ≤ 117 := hB 27 (100, 117) rfl
  clear hB
  generalize ρ 9 = r9, ρ 10 = r10, ρ 11 = r11, ρ 12 = r12, ρ 14 = r14, ρ 15 = r15, ρ 16 = r16, ρ 17 = r17, ρ 18 = r18, ρ 19 = r19, ρ 20 = r20, ρ 21 = r21, ρ 22 = r22, ρ 23 = r23, ρ 24 = r24, ρ 25 = r25, ρ 26 = r26, ρ 27 = r27, α 7 = a7, α 8 = a8, α 10 = a10, α 11 = a11, α 16 = a16, α 20 = a20, α 21 = a21, α 24 = a24, α 25 = a25, α 26 = a26, α 27 = a27, α 28 = a28, α 29 = a29, α 30 = a30, α 58 = a58, α 59 = a59, α 60 = a60, α 61 = a61, α 62 = a62 at *
  subst f0
  subst f2
  subst f3
  subst f4
  subst f6
  subst f7
  subst f8
  subst f9
  subst f10
  subst f12
  subst f13
  subst f14
  subst f16
  subst f17
  refine adI_s f19 (by omega) (by omega) ?_
  have k : a26 r15 % 5 = 0 := by omega
  rw [acF_0 k]
  unfold lgF gnF
  dsimp only
  ((repeat' split) <;> first | rfl | (exfalso; omega)))
def w_advance14_1_12 : VC := (([(0, 23), (0, 49), (0, 8), (0, 11), (0, 9), (0, 6), (0, 6), (0, 8), (0, 9), (1, 49), (0, 49), ((-2147483648), 2147483647), ((-2147483648), 2147483647), (0, 5), (0, 23), (0, 48), (0, 119), (5, 120), (0, 10), (0, 119), (1, 1), ((-2147483648), 2147483647), ((-2147483648), 2147483647)]), [(1, [(some 22, 0), (none, 0)], []), (10, [(some 22, 0), (some 21, 0), (none, 1)], []), (14, [(some 21, 0), (some 11, 0), (some 18, 0)], []), (0, [(some 20, 0), (none, 1)], []), (8, [(some 20, 0), (some 19, 0), (none, 5)], []), (20, [(some 19, 0), (some 15, 0)], [26]), (20, [(some 18, 0), (some 15, 0)], [27]), (2, [(some 16, 0), (some 17, 0)], []), (6, [(some 17, 0), (none, 5), (some 14, 1)], []), (20, [(some 16, 0), (some 15, 0)], [26]), (2, [(some 15, 0), (some 9, 0)], []), (90, [(some 10, 0), (some 15, 0), (some 9, 0), (some 14, 0), (some 11, 0), (some 12, 0)], [26, 27, 7, 8, 10, 11, 16, 20, 21, 24, 25, 28, 29, 30, 58, 59, 60]), (87, [(some 9, 0)], [26, 27])], (90, [(some 10, 0), (some 15, 1), (some 9, 0), (some 14, 0), (some 11, 0), (some 12, 0)], [26, 27, 7, 8, 10, 11, 16, 20, 21, 24, 25, 28, 29, 30, 58, 59, 60]))
set_option maxRecDepth 20000 in
theorem v_advance14_1_12 {PT : PTy} (hp : HP4 PT) : vcOk PT w_advance14_1_12 := vc_of (fun ρ α hB hF => by
  obtain ⟨f0, f1, f2, f3, f4, f5, f6, f7, f8, f9, f10, f11, f12, -⟩ := hF
  have e87 : PT 87 = P_pr := hp.1.2.2.2.2.2.2.2.2.1
  have e90 : PT 90 = P_adI := hp.1.2.2.2.2.2.2.2.2.2.2.2.1
  simp only [hF0, hF1, hF2, hF6, hF8, hF10, hF14, hF20, hFp_87, hFp_90, e87, e90, P_pr, P_adI, den_s, den_c, Int.add_zero, List.map_cons, List.map_nil] at f0 f1 f2 f3 f4 f5 f6 f7 f8 f9 f10 f11 f12 ⊢
  have b9 : (1 : Int) ≤ ρ 9 ∧ ρ 9 ≤ 49 := hB 9 (1, 49) rfl
  have b10 : (0 : Int) ≤ ρ 10 ∧ ρ 10 ≤ 49 := hB 10 (0, 49) rfl
  have b11 : ((-2147483648) : Int) ≤ ρ 11 ∧ ρ 11 ≤ 2147483647 := hB 11 ((-2147483648), 2147483647) rfl
  have b12 : ((-2147483648) : Int) ≤ ρ 12 ∧ ρ 12 ≤ 2147483647 := hB 12 ((-2147483648), 2147483647) rfl
  have b14 : (0 : Int) ≤ ρ 14 ∧ ρ 14 ≤ 23 := hB 14 (0, 23) rfl
  have b15 : (0 : Int) ≤ ρ 15 ∧ ρ 15 ≤ 48 := hB 15 (0, 48) rfl
  have b16 : (0 : Int) ≤ ρ 16 ∧ ρ 16 ≤ 119 := hB 16 (0, 119) rfl
  have b17 : (5 : Int) ≤ ρ 17 ∧ ρ 17 ≤ 120 := hB 17 (5, 120) rfl
  have b18 : (0 : Int) ≤ ρ 18 ∧ ρ 18 ≤ 10 := hB 18 (0, 10) rfl
  have b19 : (0 : Int) ≤ ρ 19 ∧ ρ 19 ≤ 119 := hB 19 (0, 119) rfl
  have b20 : (1 : Int) ≤ ρ 20 ∧ ρ 20 ≤ 1 := hB 20 (1, 1) rfl
  have b21 : ((-2147483648) : Int) ≤ ρ 21 ∧ ρ 21 ≤ 2147483647 := hB 21 ((-2147483648), 2147483647) rfl
  have b22 : ((-2147483648) : Int) ≤ ρ 22 ∧ ρ 22 ≤ 2147483647 := hB 22 ((-2147483648), 2147483647) rfl
  clear hB
  generalize ρ 9 = r9, ρ 10 = r10, ρ 11 = r11, ρ 12 = r12, ρ 14 = r14, ρ 15 = r15, ρ 16 = r16, ρ 17 = r17, ρ 18 = r18, ρ 19 = r19, ρ 20 = r20, ρ 21 = r21, ρ 22 = r22, α 7 = a7, α 8 = a8, α 10 = a10, α 11 = a11, α 16 = a16, α 20 = a20, α 21 = a21, α 24 = a24, α 25 = a25, α 26 = a26, α 27 = a27, α 28 = a28, α 29 = a29, α 30 = a30, α 58 = a58, α 59 = a59, α 60 = a60 at *
  subst f1
  subst f2
  subst f4
  subst f5
  subst f6
  subst f8
  subst f9
  refine adI_s f11 (by omega) (by omega) ?_
  have k : a26 r15 % 5 = 1 := by omega
  rw [acF_1 k]
  unfold fuF
  dsimp only
  ((repeat' split) <;> first | rfl | (exfalso; omega)))
def w_advance14_1_13 : VC := (([(0, 23), (0, 49), (0, 8), (0, 11), (0, 9), (0, 6), (0, 6), (0, 8), (0, 9), (1, 49), (0, 49), ((-2147483648), 2147483647), ((-2147483648), 2147483647), (0, 5), (0, 23), (0, 48), (0, 119), (5, 120), (0, 10), (0, 119), (1, 1), ((-2147483648), 2147483647), (0, 0)]), [(0, [(some 22, 0), (none, 0)], []), (10, [(some 22, 0), (some 21, 0), (none, 1)], []), (14, [(some 21, 0), (some 11, 0), (some 18, 0)], []), (0, [(some 20, 0), (none, 1)], []), (8, [(some 20, 0), (some 19, 0), (none, 5)], []), (20, [(some 19, 0), (some 15, 0)], [26]), (20, [(some 18, 0), (some 15, 0)], [27]), (2, [(some 16, 0), (some 17, 0)], []), (6, [(some 17, 0), (none, 5), (some 14, 1)], []), (20, [(some 16, 0), (some 15, 0)], [26]), (2, [(some 15, 0), (some 9, 0)], []), (90, [(some 10, 0), (some 15, 0), (some 9, 0), (some 14, 0), (some 11, 0), (some 12, 0)], [26, 27, 7, 8, 10, 11, 16, 20, 21, 24, 25, 28, 29, 30, 58, 59, 60]), (87, [(some 9, 0)], [26, 27])], (3, [(some 18, 0), (none, 0)], []))
set_option maxRecDepth 20000 in
theorem v_advance14_1_13 {PT : PTy} (hp : HP4 PT) : vcOk PT w_advance14_1_13 := vc_of (fun ρ α hB hF => by
  obtain ⟨f0, f1, f2, f3, f4, f5, f6, f7, f8, f9, f10, f11, f12, -⟩ := hF
  have e87 : PT 87 = P_pr := hp.1.2.2.2.2.2.2.2.2.1
  have e90 : PT 90 = P_adI := hp.1.2.2.2.2.2.2.2.2.2.2.2.1
  simp only [hF0, hF2, hF3, hF6, hF8, hF10, hF14, hF20, hFp_87, hFp_90, e87, e90, P_pr, P_adI, den_s, den_c, Int.add_zero, List.map_cons, List.map_nil] at f0 f1 f2 f3 f4 f5 f6 f7 f8 f9 f10 f11 f12 ⊢
  have b9 : (1 : Int) ≤ ρ 9 ∧ ρ 9 ≤ 49 := hB 9 (1, 49) rfl
  have b10 : (0 : Int) ≤ ρ 10 ∧ ρ 10 ≤ 49 := hB 10 (0, 49) rfl
  have b11 : ((-2147483648) : Int) ≤ ρ 11 ∧ ρ 11 ≤ 2147483647 := hB 11 ((-2147483648), 2147483647) rfl
  have b12 : ((-2147483648) : Int) ≤ ρ 12 ∧ ρ 12 ≤ 2147483647 := hB 12 ((-2147483648), 2147483647) rfl
  have b14 : (0 : Int) ≤ ρ 14 ∧ ρ 14 ≤ 23 := hB 14 (0, 23) rfl
  have b15 : (0 : Int) ≤ ρ 15 ∧ ρ 15 ≤ 48 := hB 15 (0, 48) rfl
  have b16 : (0 : Int) ≤ ρ 16 ∧ ρ 16 ≤ 119 := hB 16 (0, 119) rfl
  have b17 : (5 : Int) ≤ ρ 17 ∧ ρ 17 ≤ 120 := hB 17 (5, 120) rfl
  have b18 : (0 : Int) ≤ ρ 18 ∧ ρ 18 ≤ 10 := hB 18 (0, 10) rfl
  have b19 : (0 : Int) ≤ ρ 19 ∧ ρ 19 ≤ 119 := hB 19 (0, 119) rfl
  have b20 : (1 : Int) ≤ ρ 20 ∧ ρ 20 ≤ 1 := hB 20 (1, 1) rfl
  have b21 : ((-2147483648) : Int) ≤ ρ 21 ∧ ρ 21 ≤ 2147483647 := hB 21 ((-2147483648), 2147483647) rfl
  have b22 : (0 : Int) ≤ ρ 22 ∧ ρ 22 ≤ 0 := hB 22 (0, 0) rfl
  clear hB
  generalize ρ 9 = r9, ρ 10 = r10, ρ 11 = r11, ρ 12 = r12, ρ 14 = r14, ρ 15 = r15, ρ 16 = r16, ρ 17 = r17, ρ 18 = r18, ρ 19 = r19, ρ 20 = r20, ρ 21 = r21, ρ 22 = r22, α 7 = a7, α 8 = a8, α 10 = a10, α 11 = a11, α 16 = a16, α 20 = a20, α 21 = a21, α 24 = a24, α 25 = a25, α 26 = a26, α 27 = a27, α 28 = a28, α 29 = a29, α 30 = a30, α 58 = a58, α 59 = a59, α 60 = a60 at *
  subst f1
  subst f2
  subst f4
  subst f5
  subst f6
  subst f8
  subst f9
  first
    | omega
    | (have hpr := f12 r15 (by omega) (by omega) (by omega); omega))
def w_advance14_1_14 : VC := (([(0, 23), (0, 49), (0, 8), (0, 11), (0, 9), (0, 6), (0, 6), (0, 8), (0, 9), (1, 49), (0, 49), ((-2147483648), 2147483647), ((-2147483648), 2147483647), (0, 5), (0, 23), (0, 48), (0, 119), (5, 120), (0, 10), (0, 119), (1, 1), ((-2147483648), 2147483647), (0, 0)]), [(0, [(some 22, 0), (none, 0)], []), (10, [(some 22, 0), (some 21, 0), (none, 1)], []), (14, [(some 21, 0), (some 11, 0), (some 18, 0)], []), (0, [(some 20, 0), (none, 1)], []), (8, [(some 20, 0), (some 19, 0), (none, 5)], []), (20, [(some 19, 0), (some 15, 0)], [26]), (20, [(some 18, 0), (some 15, 0)], [27]), (2, [(some 16, 0), (some 17, 0)], []), (6, [(some 17, 0), (none, 5), (some 14, 1)], []), (20, [(some 16, 0), (some 15, 0)], [26]), (2, [(some 15, 0), (some 9, 0)], []), (90, [(some 10, 0), (some 15, 0), (some 9, 0), (some 14, 0), (some 11, 0), (some 12, 0)], [26, 27, 7, 8, 10, 11, 16, 20, 21, 24, 25, 28, 29, 30, 58, 59, 60]), (87, [(some 9, 0)], [26, 27])], (3, [(none, 8), (some 18, 0)], []))
set_option maxRecDepth 20000 in
theorem v_advance14_1_14 {PT : PTy} (hp : HP4 PT) : vcOk PT w_advance14_1_14 := vc_of (fun ρ α hB hF => by
  obtain ⟨f0, f1, f2, f3, f4, f5, f6, f7, f8, f9, f10, f11, f12, -⟩ := hF
  have e87 : PT 87 = P_pr := hp.1.2.2.2.2.2.2.2.2.1
  have e90 : PT 90 = P_adI := hp.1.2.2.2.2.2.2.2.2.2.2.2.1
  simp only [hF0, hF2, hF3, hF6, hF8, hF10, hF14, hF20, hFp_87, hFp_90, e87, e90, P_pr, P_adI, den_s, den_c, Int.add_zero, List.map_cons, List.map_nil] at f0 f1 f2 f3 f4 f5 f6 f7 f8 f9 f10 f11 f12 ⊢
  have b9 : (1 : Int) ≤ ρ 9 ∧ ρ 9 ≤ 49 := hB 9 (1, 49) rfl
  have b10 : (0 : Int) ≤ ρ 10 ∧ ρ 10 ≤ 49 := hB 10 (0, 49) rfl
  have b11 : ((-2147483648) : Int) ≤ ρ 11 ∧ ρ 11 ≤ 2147483647 := hB 11 ((-2147483648), 2147483647) rfl
  have b12 : ((-2147483648) : Int) ≤ ρ 12 ∧ ρ 12 ≤ 2147483647 := hB 12 ((-2147483648), 2147483647) rfl
  have b14 : (0 : Int) ≤ ρ 14 ∧ ρ 14 ≤ 23 := hB 14 (0, 23) rfl
  have b15 : (0 : Int) ≤ ρ 15 ∧ ρ 15 ≤ 48 := hB 15 (0, 48) rfl
  have b16 : (0 : Int) ≤ ρ 16 ∧ ρ 16 ≤ 119 := hB 16 (0, 119) rfl
  have b17 : (5 : Int) ≤ ρ 17 ∧ ρ 17 ≤ 120 := hB 17 (5, 120) rfl
  have b18 : (0 : Int) ≤ ρ 18 ∧ ρ 18 ≤ 10 := hB 18 (0, 10) rfl
  have b19 : (0 : Int) ≤ ρ 19 ∧ ρ 19 ≤ 119 := hB 19 (0, 119) rfl
  have b20 : (1 : Int) ≤ ρ 20 ∧ ρ 20 ≤ 1 := hB 20 (1, 1) rfl
  have b21 : ((-2147483648) : Int) ≤ ρ 21 ∧ ρ 21 ≤ 2147483647 := hB 21 ((-2147483648), 2147483647) rfl
  have b22 : (0 : Int) ≤ ρ 22 ∧ ρ 22 ≤ 0 := hB 22 (0, 0) rfl
  clear hB
  generalize ρ 9 = r9, ρ 10 = r10, ρ 11 = r11, ρ 12 = r12, ρ 14 = r14, ρ 15 = r15, ρ 16 = r16, ρ 17 = r17, ρ 18 = r18, ρ 19 = r19, ρ 20 = r20, ρ 21 = r21, ρ 22 = r22, α 7 = a7, α 8 = a8, α 10 = a10, α 11 = a11, α 16 = a16, α 20 = a20, α 21 = a21, α 24 = a24, α 25 = a25, α 26 = a26, α 27 = a27, α 28 = a28, α 29 = a29, α 30 = a30, α 58 = a58, α 59 = a59, α 60 = a60 at *
  subst f1
  subst f2
  subst f4
  subst f5
  subst f6
  subst f8
  subst f9
  first
    | omega
    | (have hpr := f12 r15 (by omega) (by omega) (by omega); omega))
def w_advance14_1_15 : VC := (([(0, 23), (0, 49), (0, 8), (0, 11), (0, 9), (0, 6), (0, 6), (0, 8), (0, 9), (1, 49), (0, 49), ((-2147483648), 2147483647), ((-2147483648), 2147483647), (0, 5), (0, 23), (0, 48), (0, 119), (5, 120), (0, 8), (0, 119), (1, 1), ((-2147483648), 2147483647), (0, 0), (0, 9), (1, 1), (0, 7), (0, 9), (0, 9), (0, 9), (0, 99), (0, 108), (0, 9)]), [(21, [(some 25, 0), (some 31, 0)], [62, 58]), (23, [(some 31, 0), (some 26, 0), (some 30, 0)], []), (4, [(some 30, 0), (some 29, 0), (some 27, 0)], []), (20, [(some 29, 0), (some 25, 0)], [58]), (3, [(some 26, 0), (some 28, 0)], []), (20, [(some 28, 0), (some 25, 0)], [58]), (20, [(some 27, 0), (some 23, 0)], [11]), (20, [(some 26, 0), (some 25, 0)], [8]), (20, [(some 25, 0), (some 23, 0)], [10]), (21, [(some 23, 0), (none, 2)], [61, 60]), (0, [(some 24, 0), (none, 1)], []), (20, [(some 24, 0), (some 23, 0)], [60]), (20, [(some 23, 0), (some 18, 0)], [16]), (0, [(some 22, 0), (none, 0)], []), (10, [(some 22, 0), (some 21, 0), (none, 1)], []), (14, [(some 21, 0), (some 11, 0), (some 18, 0)], []), (0, [(some 20, 0), (none, 1)], []), (8, [(some 20, 0), (some 19, 0), (none, 5)], []), (20, [(some 19, 0), (some 15, 0)], [26]), (20, [(some 18, 0), (some 15, 0)], [27]), (2, [(some 16, 0), (some 17, 0)], []), (6, [(some 17, 0), (none, 5), (some 14, 1)], []), (20, [(some 16, 0), (some 15, 0)], [26]), (2, [(some 15, 0), (some 9, 0)], []), (90, [(some 10, 0), (some 15, 0), (some 9, 0), (some 14, 0), (some 11, 0), (some 12, 0)], [26, 27, 7, 8, 10, 11, 16, 20, 21, 24, 25, 28, 29, 30, 58, 59, 60]), (87, [(some 9, 0)], [26, 27])], (90, [(some 10, 0), (some 15, 1), (some 9, 0), (some 14, 0), (some 11, 0), (some 12, 0)], [26, 27, 7, 8, 10, 11, 16, 20, 21, 24, 25, 28, 29, 30, 62, 59, 61]))
set_option maxRecDepth 20000 in
theorem v_advance14_1_15 {PT : PTy} (hp : HP4 PT) : vcOk PT w_advance14_1_15 := vc_of (fun ρ α hB hF => by
  obtain ⟨f0, f1, f2, f3, f4, f5, f6, f7, f8, f9, f10, f11, f12, f13, f14, f15, f16, f17, f18, f19, f20, f21, f22, f23, f24, f25, -⟩ := hF
  have e87 : PT 87 = P_pr := hp.1.2.2.2.2.2.2.2.2.1
  have e90 : PT 90 = P_adI := hp.1.2.2.2.2.2.2.2.2.2.2.2.1
  simp only [hF0, hF2, hF3, hF4, hF6, hF8, hF10, hF14, hF20, hF21, hF23, hFp_87, hFp_90, e87, e90, P_pr, P_adI, den_s, den_c, Int.add_zero, List.map_cons, List.map_nil] at f0 f1 f2 f3 f4 f5 f6 f7 f8 f9 f10 f11 f12 f13 f14 f15 f16 f17 f18 f19 f20 f21 f22 f23 f24 f25 ⊢
  have b9 : (1 : Int) ≤ ρ 9 ∧ ρ 9 ≤ 49 := hB 9 (1, 49) rfl
  have b10 : (0 : Int) ≤ ρ 10 ∧ ρ 10 ≤ 49 := hB 10 (0, 49) rfl
  have b11 : ((-2147483648) : Int) ≤ ρ 11 ∧ ρ 11 ≤ 2147483647 := hB 11 ((-2147483648), 2147483647) rfl
  have b12 : ((-2147483648) : Int) ≤ ρ 12 ∧ ρ 12 ≤ 2147483647 := hB 12 ((-2147483648), 2147483647) rfl
  have b14 : (0 : Int) ≤ ρ 14 ∧ ρ 14 ≤ 23 := hB 14 (0, 23) rfl
  have b15 : (0 : Int) ≤ ρ 15 ∧ ρ 15 ≤ 48 := hB 15 (0, 48) rfl
  have b16 : (0 : Int) ≤ ρ 16 ∧ ρ 16 ≤ 119 := hB 16 (0, 119) rfl
  have b17 : (5 : Int) ≤ ρ 17 ∧ ρ 17 ≤ 120 := hB 17 (5, 120) rfl
  have b18 : (0 : Int) ≤ ρ 18 ∧ ρ 18 ≤ 8 := hB 18 (0, 8) rfl
  have b19 : (0 : Int) ≤ ρ 19 ∧ ρ 19 ≤ 119 := hB 19 (0, 119) rfl
  have b20 : (1 : Int) ≤ ρ 20 ∧ ρ 20 ≤ 1 := hB 20 (1, 1) rfl
  have b21 : ((-2147483648) : Int) ≤ ρ 21 ∧ ρ 21 ≤ 2147483647 := hB 21 ((-2147483648), 2147483647) rfl
  have b22 : (0 : Int) ≤ ρ 22 ∧ ρ 22 ≤ 0 := hB 22 (0, 0) rfl
  have b23 : (0 : Int) ≤ ρ 23 ∧ ρ 23 ≤ 9 := hB 23 (0, 9) rfl
  have b24 : (1 : Int) ≤ ρ 24 ∧ ρ 24 ≤ 1 := hB 24 (1, 1) rfl
  have b25 : (0 : Int) ≤ ρ 25 ∧ ρ 25 ≤ 7 := hB 25 (0, 7) rfl
  have b26 : (0 : Int) ≤ ρ 26 ∧ ρ 26 ≤ 9 := hB 26 (0, 9) rfl
  have b27 : (0 : Int) ≤ ρ 27 ∧ ρ 27 ≤ 9 := hB 27 (0, 9) rfl
  have b28 : (0 : Int) ≤ ρ 28 ∧ ρ 28 ≤ 9 := hB 28 (0, 9) rfl
  have b29 : (0 : Int) ≤ ρ 29 ∧ ρ 29 ≤ 99 := hB 29 (0, 99) rfl
  have b30 : (0 : Int) ≤ ρ 30 ∧ ρ 30 ≤ 108 := hB 30 (0, 108) rfl
  have b31 : (0 : Int) ≤ ρ 31 ∧ ρ 31 ≤ 9 := hB 31 (0, 9) rfl
  clear hB
  generalize ρ 9 = r9, ρ 10 = r10, ρ 11 = r11, ρ 12 = r12, ρ 14 = r14, ρ 15 = r15, ρ 16 = r16, ρ 17 = r17, ρ 18 = r18, ρ 19 = r19, ρ 20 = r20, ρ 21 = r21, ρ 22 = r22, ρ 23 = r23, ρ 24 = r24, ρ 25 = r25, ρ 26 = r26, ρ 27 = r27, ρ 28 = r28, ρ 29 = r29, ρ 30 = r30, ρ 31 = r31, α 7 = a7, α 8 = a8, α 10 = a10, α 11 = a11, α 16 = a16, α 20 = a20, α 21 = a21, α 24 = a24, α 25 = a25, α 26 = a26, α 27 = a27, α 28 = a28, α 29 = a29, α 30 = a30, α 58 = a58, α 59 = a59, α 60 = a60, α 61 = a61, α 62 = a62 at *
  subst f0
  subst f1
  subst f2
  subst f3
  subst f5
  subst f6
  subst f7
  subst f8
  subst f9
  subst f11
  subst f12
  subst f14
  subst f15
  subst f17
  subst f18
  subst f19
  subst f21
  subst f22
  refine adI_s f24 (by omega) (by omega) ?_
  have k : a26 r15 % 5 = 1 := by omega
  rw [acF_1 k]
  unfold fuF
  dsimp only
  ((repeat' split) <;> first | rfl | (exfalso; omega)))
def w_advance14_1_16 : VC := (([(0, 23), (0, 49), (0, 8), (0, 11), (0, 9), (0, 6), (0, 6), (0, 8), (0, 9), (1, 49), (0, 49), ((-2147483648), 2147483647), ((-2147483648), 2147483647), (0, 5), (0, 23), (0, 48), (0, 119), (5, 120), (0, 8), (0, 119), (1, 1), ((-2147483648), 2147483647), (0, 0), (0, 9), (1, 1), (0, 7), (0, 9), (0, 9), (1, 99), (0, 99), ((-9), 99), (0, 99)]), [(21, [(some 25, 0), (some 31, 0)], [62, 58]), (24, [(some 31, 0), (some 26, 0), (some 30, 0)], []), (5, [(some 30, 0), (some 29, 0), (some 27, 0)], []), (20, [(some 29, 0), (some 25, 0)], [58]), (2, [(some 26, 0), (some 28, 0)], []), (20, [(some 28, 0), (some 25, 0)], [58]), (20, [(some 27, 0), (some 23, 0)], [11]), (20, [(some 26, 0), (some 25, 0)], [8]), (20, [(some 25, 0), (some 23, 0)], [10]), (21, [(some 23, 0), (none, 2)], [61, 60]), (0, [(some 24, 0), (none, 1)], []), (20, [(some 24, 0), (some 23, 0)], [60]), (20, [(some 23, 0), (some 18, 0)], [16]), (0, [(some 22, 0), (none, 0)], []), (10, [(some 22, 0), (some 21, 0), (none, 1)], []), (14, [(some 21, 0), (some 11, 0), (some 18, 0)], []), (0, [(some 20, 0), (none, 1)], []), (8, [(some 20, 0), (some 19, 0), (none, 5)], []), (20, [(some 19, 0), (some 15, 0)], [26]), (20, [(some 18, 0), (some 15, 0)], [27]), (2, [(some 16, 0), (some 17, 0)], []), (6, [(some 17, 0), (none, 5), (some 14, 1)], []), (20, [(some 16, 0), (some 15, 0)], [26]), (2, [(some 15, 0), (some 9, 0)], []), (90, [(some 10, 0), (some 15, 0), (some 9, 0), (some 14, 0), (some 11, 0), (some 12, 0)], [26, 27, 7, 8, 10, 11, 16, 20, 21, 24, 25, 28, 29, 30, 58, 59, 60]), (87, [(some 9, 0)], [26, 27])], (90, [(some 10, 0), (some 15, 1), (some 9, 0), (some 14, 0), (some 11, 0), (some 12, 0)], [26, 27, 7, 8, 10, 11, 16, 20, 21, 24, 25, 28, 29, 30, 62, 59, 61]))
set_option maxRecDepth 20000 in
theorem v_advance14_1_16 {PT : PTy} (hp : HP4 PT) : vcOk PT w_advance14_1_16 := vc_of (fun ρ α hB hF => by
  obtain ⟨f0, f1, f2, f3, f4, f5, f6, f7, f8, f9, f10, f11, f12, f13, f14, f15, f16, f17, f18, f19, f20, f21, f22, f23, f24, f25, -⟩ := hF
  have e87 : PT 87 = P_pr := hp.1.2.2.2.2.2.2.2.2.1
  have e90 : PT 90 = P_adI := hp.1.2.2.2.2.2.2.2.2.2.2.2.1
  simp only [hF0, hF2, hF5, hF6, hF8, hF10, hF14, hF20, hF21, hF24, hFp_87, hFp_90, e87, e90, P_pr, P_adI, den_s, den_c, Int.add_zero, List.map_cons, List.map_nil] at f0 f1 f2 f3 f4 f5 f6 f7 f8 f9 f10 f11 f12 f13 f14 f15 f16 f17 f18 f19 f20 f21 f22 f23 f24 f25 ⊢
  have b9 : (1 : Int) ≤ ρ 9 ∧ ρ 9 ≤ 49 := hB 9 (1, 49) rfl
  have b10 : (0 : Int) ≤ ρ 10 ∧ ρ 10 ≤ 49 := hB 10 (0, 49) rfl
  have b11 : ((-2147483648) : Int) ≤ ρ 11 ∧ ρ 11 ≤ 2147483647 := hB 11 ((-2147483648), 2147483647) rfl
  have b12 : ((-2147483648) : Int) ≤ ρ 12 ∧ ρ 12 ≤ 2147483647 := hB 12 ((-2147483648), 2147483647) rfl
  have b14 : (0 : Int) ≤ ρ 14 ∧ ρ 14 ≤ 23 := hB 14 (0, 23) rfl
  have b15 : (0 : Int) ≤ ρ 15 ∧ ρ 15 ≤ 48 := hB 15 (0, 48) rfl
  have b16 : (0 : Int) ≤ ρ 16 ∧ ρ 16 ≤ 119 := hB 16 (0, 119) rfl
  have b17 : (5 : Int) ≤ ρ 17 ∧ ρ 17 ≤ 120 := hB 17 (5, 120) rfl
  have b18 : (0 : Int) ≤ ρ 18 ∧ ρ 18 ≤ 8 := hB 18 (0, 8) rfl
  have b19 : (0 : Int) ≤ ρ 19 ∧ ρ 19 ≤ 119 := hB 19 (0, 119) rfl
  have b20 : (1 : Int) ≤ ρ 20 ∧ ρ 20 ≤ 1 := hB 20 (1, 1) rfl
  have b21 : ((-2147483648) : Int) ≤ ρ 21 ∧ ρ 21 ≤ 2147483647 := hB 21 ((-2147483648), 2147483647) rfl
  have b22 : (0 : Int) ≤ ρ 22 ∧ ρ 22 ≤ 0 := hB 22 (0, 0) rfl
  have b23 : (0 : Int) ≤ ρ 23 ∧ ρ 23 ≤ 9 := hB 23 (0, 9) rfl
  have b24 : (1 : Int) ≤ ρ 24 ∧ ρ 24 ≤ 1 := hB 24 (1, 1) rfl
  have b25 : (0 : Int) ≤ ρ 25 ∧ ρ 25 ≤ 7 := hB 25 (0, 7) rfl
  have b26 : (0 : Int) ≤ ρ 26 ∧ ρ 26 ≤ 9 := hB 26 (0, 9) rfl
  have b27 : (0 : Int) ≤ ρ 27 ∧ ρ 27 ≤ 9 := hB 27 (0, 9) rfl
  have b28 : (1 : Int) ≤ ρ 28 ∧ ρ 28 ≤ 99 := hB 28 (1, 99) rfl
  have b29 : (0 : Int) ≤ ρ 29 ∧ ρ 29 ≤ 99 := hB 29 (0, 99) rfl
  have b30 : ((-9) : Int) ≤ ρ 30 ∧ ρ 30 ≤ 99 := hB 30 ((-9), 99) rfl
  have b31 : (0 : Int) ≤ ρ 31 ∧ ρ 31 ≤ 99 := hB 31 (0, 99) rfl
  clear hB
  generalize ρ 9 = r9, ρ 10 = r10, ρ 11 = r11, ρ 12 = r12, ρ 14 = r14, ρ 15 = r15, ρ 16 = r16, ρ 17 = r17, ρ 18 = r18, ρ 19 = r19, ρ 20 = r20, ρ 21 = r21, ρ 22 = r22, ρ 23 = r23, ρ 24 = r24, ρ 25 = r25, ρ 26 = r26, ρ 27 = r27, ρ 28 = r28, ρ 29 = r29, ρ 30 = r30, ρ 31 = r31, α 7 = a7, α 8 = a8, α 10 = a10, α 11 = a11, α 16 = a16, α 20 = a20, α 21 = a21, α 24 = a24, α 25 = a25, α 26 = a26, α 27 = a27, α 28 = a28, α 29 = a29, α 30 = a30, α 58 = a58, α 59 = a59, α 60 = a60, α 61 = a61, α 62 = a62 at *
  subst f0
  subst f1
  subst f2
  subst f3
  subst f5
  subst f6
  subst f7
  subst f8
  subst f9
  subst f11
  subst f12
  subst f14
  subst f15
  subst f17
  subst f18
  subst f19
  subst f21
  subst f22
  refine adI_s f24 (by omega) (by omega) ?_
  have k : a26 r15 % 5 = 1 := by omega
  rw [acF_1 k]
  unfold fuF
  dsimp only
  ((repeat' split) <;> first | rfl | (exfalso; omega)))
def w_advance14_1_17 : VC := (([(0, 23), (0, 49), (0, 8), (0, 11), (0, 9), (0, 6), (0, 6), (0, 8), (0, 9), (1, 49), (0, 49), ((-2147483648), 2147483647), ((-2147483648), 2147483647), (0, 5), (0, 23), (0, 48), (0, 119), (5, 120), (0, 8), (0, 119), (1, 1), ((-2147483648), 2147483647), (0, 0), (0, 9), (0, 3)]), [(1, [(some 24, 0), (none, 1)], []), (20, [(some 24, 0), (some 23, 0)], [60]), (20, [(some 23, 0), (some 18, 0)], [16]), (0, [(some 22, 0), (none, 0)], []), (10, [(some 22, 0), (some 21, 0), (none, 1)], []), (14, [(some 21, 0), (some 11, 0), (some 18, 0)], []), (0, [(some 20, 0), (none, 1)], []), (8, [(some 20, 0), (some 19, 0), (none, 5)], []), (20, [(some 19, 0), (some 15, 0)], [26]), (20, [(some 18, 0), (some 15, 0)], [27]), (2, [(some 16, 0), (some 17, 0)], []), (6, [(some 17, 0), (none, 5), (some 14, 1)], []), (20, [(some 16, 0), (some 15, 0)], [26]), (2, [(some 15, 0), (some 9, 0)], []), (90, [(some 10, 0), (some 15, 0), (some 9, 0), (some 14, 0), (some 11, 0), (some 12, 0)], [26, 27, 7, 8, 10, 11, 16, 20, 21, 24, 25, 28, 29, 30, 58, 59, 60]), (87, [(some 9, 0)], [26, 27])], (90, [(some 10, 0), (some 15, 1), (some 9, 0), (some 14, 0), (some 11, 0), (some 12, 0)], [26, 27, 7, 8, 10, 11, 16, 20, 21, 24, 25, 28, 29, 30, 58, 59, 60]))
set_option maxRecDepth 20000 in
theorem v_advance14_1_17 {PT : PTy} (hp : HP4 PT) : vcOk PT w_advance14_1_17 := vc_of (fun ρ α hB hF => by
  obtain ⟨f0, f1, f2, f3, f4, f5, f6, f7, f8, f9, f10, f11, f12, f13, f14, f15, -⟩ := hF
  have e87 : PT 87 = P_pr := hp.1.2.2.2.2.2.2.2.2.1
  have e90 : PT 90 = P_adI := hp.1.2.2.2.2.2.2.2.2.2.2.2.1
  simp only [hF0, hF1, hF2, hF6, hF8, hF10, hF14, hF20, hFp_87, hFp_90, e87, e90, P_pr, P_adI, den_s, den_c, Int.add_zero, List.map_cons, List.map_nil] at f0 f1 f2 f3 f4 f5 f6 f7 f8 f9 f10 f11 f12 f13 f14 f15 ⊢
  have b9 : (1 : Int) ≤ ρ 9 ∧ ρ 9 ≤ 49 := hB 9 (1, 49) rfl
  have b10 : (0 : Int) ≤ ρ 10 ∧ ρ 10 ≤ 49 := hB 10 (0, 49) rfl
  have b11 : ((-2147483648) : Int) ≤ ρ 11 ∧ ρ 11 ≤ 2147483647 := hB 11 ((-2147483648), 2147483647) rfl
  have b12 : ((-2147483648) : Int) ≤ ρ 12 ∧ ρ 12 ≤ 2147483647 := hB 12 ((-2147483648), 2147483647) rfl
  have b14 : (0 : Int) ≤ ρ 14 ∧ ρ 14 ≤ 23 := hB 14 (0, 23) rfl
  have b15 : (0 : Int) ≤ ρ 15 ∧ ρ 15 ≤ 48 := hB 15 (0, 48) rfl
  have b16 : (0 : Int) ≤ ρ 16 ∧ ρ 16 ≤ 119 := hB 16 (0, 119) rfl
  have b17 : (5 : Int) ≤ ρ 17 ∧ ρ 17 ≤ 120 := hB 17 (5, 120) rfl
  have b18 : (0 : Int) ≤ ρ 18 ∧ ρ 18 ≤ 8 := hB 18 (0, 8) rfl
  have b19 : (0 : Int) ≤ ρ 19 ∧ ρ 19 ≤ 119 := hB 19 (0, 119) rfl
  have b20 : (1 : Int) ≤ ρ 20 ∧ ρ 20 ≤ 1 := hB 20 (1, 1) rfl
  have b21 : ((-2147483648) : Int) ≤ ρ 21 ∧ ρ 21 ≤ 2147483647 := hB 21 ((-2147483648), 2147483647) rfl
  have b22 : (0 : Int) ≤ ρ 22 ∧ ρ 22 ≤ 0 := hB 22 (0, 0) rfl
  have b23 : (0 : Int) ≤ ρ 23 ∧ ρ 23 ≤ 9 := hB 23 (0, 9) rfl
  have b24 : (0 : Int) ≤ ρ 24 ∧ ρ 24 ≤ 3 := hB 24 (0, 3) rfl
  clear hB
  generalize ρ 9 = r9, ρ 10 = r10, ρ 11 = r11, ρ 12 = r12, ρ 14 = r14, ρ 15 = r15, ρ 16 = r16, ρ 17 = r17, ρ 18 = r18, ρ 19 = r19, ρ 20 = r20, ρ 21 = r21, ρ 22 = r22, ρ 23 = r23, ρ 24 = r24, α 7 = a7, α 8 = a8, α 10 = a10, α 11 = a11, α 16 = a16, α 20 = a20, α 21 = a21, α 24 = a24, α 25 = a25, α 26 = a26, α 27 = a27, α 28 = a28, α 29 = a29, α 30 = a30, α 58 = a58, α 59 = a59, α 60 = a60 at *
  subst f1
  subst f2
  subst f4
  subst f5
  subst f7
  subst f8
  subst f9
  subst f11
  subst f12
  refine adI_s f14 (by omega) (by omega) ?_
  have k : a26 r15 % 5 = 1 := by omega
  rw [acF_1 k]
  unfold fuF
  dsimp only
  ((repeat' split) <;> first | rfl | (exfalso; omega)))
def w_advance14_1_18 : VC := (([(0, 23), (0, 49), (0, 8), (0, 11), (0, 9), (0, 6), (0, 6), (0, 8), (0, 9), (1, 49), (0, 49), ((-2147483648), 2147483647), ((-2147483648), 2147483647), (0, 5), (0, 23), (0, 48), (0, 119), (5, 120), (0, 10), (0, 119), (2, 2), (1, 1), (0, 7), (0, 1), (0, 7), (0, 1), (0, 9), (0, 9), (0, 99), (0, 99), ((-2147483648), 2147483647), ((-2147483648), 2147483647)]), [(21, [(some 22, 0), (some 31, 0)], [63, 59]), (16, [(some 31, 0), (some 30, 0), (none, 1)], []), (20, [(some 30, 0), (some 22, 0)], [59]), (21, [(some 22, 0), (some 29, 0)], [62, 58]), (3, [(some 29, 0), (none, 0)], []), (5, [(some 29, 0), (some 28, 0), (some 27, 0)], []), (20, [(some 28, 0), (some 22, 0)], [58]), (7, [(some 27, 0), (some 26, 0), (none, 2)], []), (1, [(some 25, 0), (none, 2)], []), (1, [(some 25, 0), (none, 1)], []), (20, [(some 26, 0), (some 18, 0)], [11]), (20, [(some 25, 0), (some 24, 0)], [7]), (20, [(some 24, 0), (some 18, 0)], [10]), (1, [(some 23, 0), (none, 2)], []), (20, [(some 23, 0), (some 22, 0)], [7]), (20, [(some 22, 0), (some 18, 0)], [10]), (21, [(some 18, 0), (none, 3)], [61, 60]), (0, [(some 21, 0), (none, 1)], []), (20, [(some 21, 0), (some 18, 0)], [60]), (0, [(some 20, 0), (none, 2)], []), (8, [(some 20, 0), (some 19, 0), (none, 5)], []), (20, [(some 19, 0), (some 15, 0)], [26]), (20, [(some 18, 0), (some 15, 0)], [27]), (2, [(some 16, 0), (some 17, 0)], []), (6, [(some 17, 0), (none, 5), (some 14, 1)], []), (20, [(some 16, 0), (some 15, 0)], [26]), (2, [(some 15, 0), (some 9, 0)], []), (90, [(some 10, 0), (some 15, 0), (some 9, 0), (some 14, 0), (some 11, 0), (some 12, 0)], [26, 27, 7, 8, 10, 11, 16, 20, 21, 24, 25, 28, 29, 30, 58, 59, 60]), (87, [(some 9, 0)], [26, 27])], (90, [(some 10, 0), (some 15, 1), (some 9, 0), (some 14, 0), (some 11, 0), (some 12, 0)], [26, 27, 7, 8, 10, 11, 16, 20, 21, 24, 25, 28, 29, 30, 62, 63, 61]))
set_option maxRecDepth 20000 in
theorem v_advance14_1_18 {PT : PTy} (hp : HP4 PT) : vcOk PT w_advance14_1_18 := vc_of (fun ρ α hB hF => by
  obtain ⟨f0, f1, f2, f3, -, f5, f6, f7, -, f9, f10, f11, f12, -, f14, f15, f16, f17, f18, f19, f20, f21, f22, f23, f24, f25, f26, f27, f28, -⟩ := hF
  have e87 : PT 87 = P_pr := hp.1.2.2.2.2.2.2.2.2.1
  have e90 : PT 90 = P_adI := hp.1.2.2.2.2.2.2.2.2.2.2.2.1
  simp only [hF0, hF1, hF2, hF5, hF6, hF7, hF8, hF16, hF20, hF21, hFp_87, hFp_90, e87, e90, P_pr, P_adI, den_s, den_c, Int.add_zero, List.map_cons, List.map_nil] at f0 f1 f2 f3 f5 f6 f7 f9 f10 f11 f12 f14 f15 f16 f17 f18 f19 f20 f21 f22 f23 f24 f25 f26 f27 f28 ⊢
  have b9 : (1 : Int) ≤ ρ 9 ∧ ρ 9 ≤ 49 := hB 9 (1, 49) rfl
  have b10 : (0 : Int) ≤ ρ 10 ∧ ρ 10 ≤ 49 := hB 10 (0, 49) rfl
  have b11 : ((-2147483648) : Int) ≤ ρ 11 ∧ ρ 11 ≤ 2147483647 := hB 11 ((-2147483648), 2147483647) rfl
  have b12 : ((-2147483648) : Int) ≤ ρ 12 ∧ ρ 12 ≤ 2147483647 := hB 12 ((-2147483648), 2147483647) rfl
  have b14 : (0 : Int) ≤ ρ 14 ∧ ρ 14 ≤ 23 := hB 14 (0, 23) rfl
  have b15 : (0 : Int) ≤ ρ 15 ∧ ρ 15 ≤ 48 := hB 15 (0, 48) rfl
  have b16 : (0 : Int) ≤ ρ 16 ∧ ρ 16 ≤ 119 := hB 16 (0, 119) rfl
  have b17 : (5 : Int) ≤ ρ 17 ∧ ρ 17 ≤ 120 := hB 17 (5, 120) rfl
  have b18 : (0 : Int) ≤ ρ 18 ∧ ρ 18 ≤ 10 := hB 18 (0, 10) rfl
  have b19 : (0 : Int) ≤ ρ 19 ∧ ρ 19 ≤ 119 := hB 19 (0, 119) rfl
  have b20 : (2 : Int) ≤ ρ 20 ∧ ρ 20 ≤ 2 := hB 20 (2, 2) rfl
  have b21 : (1 : Int) ≤ ρ 21 ∧ ρ 21 ≤ 1 := hB 21 (1, 1) rfl
  have b22 : (0 : Int) ≤ ρ 22 ∧ ρ 22 ≤ 7 := hB 22 (0, 7) rfl
  have b23 : (0 : Int) ≤ ρ 23 ∧ ρ 23 ≤ 1 := hB 23 (0, 1) rfl
  have b24 : (0 : Int) ≤ ρ 24 ∧ ρ 24 ≤ 7 := hB 24 (0, 7) rfl
  have b25 : (0 : Int) ≤ ρ 25 ∧ ρ 25 ≤ 1 := hB 25 (0, 1) rfl
  have b26 : (0 : Int) ≤ ρ 26 ∧ ρ 26 ≤ 9 := hB 26 (0, 9) rfl
  have b27 : (0 : Int) ≤ ρ 27 ∧ ρ 27 ≤ 9 := hB 27 (0, 9) rfl
  have b28 : (0 : Int) ≤ ρ 28 ∧ ρ 28 ≤ 99 := hB 28 (0, 99) rfl
  have b29 : (0 : Int) ≤ ρ 29 ∧ ρ 29 ≤ 99 := hB 29 (0, 99) rfl
  have b30 : ((-2147483648) : Int) ≤ ρ 30 ∧ ρ 30 ≤ 2147483647 := hB 30 ((-2147483648), 2147483647) rfl
  have b31 : ((-2147483648) : Int) ≤ ρ 31 ∧ ρ 31 ≤ 2147483647 := hB 31 ((-2147483648), 2147483647) rfl
  clear hB
  generalize ρ 9 = r9, ρ 10 = r10, ρ 11 = r11, ρ 12 = r12, ρ 14 = r14, ρ 15 = r15, ρ 16 = r16, ρ 17 = r17, ρ 18 = r18, ρ 19 = r19, ρ 20 = r20, ρ 21 = r21, ρ 22 = r22, ρ 23 = r23, ρ 24 = r24, ρ 25 = r25, ρ 26 = r26, ρ 27 = r27, ρ 28 = r28, ρ 29 = r29, ρ 30 = r30, ρ 31 = r31, α 7 = a7, α 8 = a8, α 10 = a10, α 11 = a11, α 16 = a16, α 20 = a20, α 21 = a21, α 24 = a24, α 25 = a25, α 26 = a26, α 27 = a27, α 28 = a28, α 29 = a29, α 30 = a30, α 58 = a58, α 59 = a59, α 60 = a60, α 61 = a61, α 62 = a62, α 63 = a63 at *
  subst f0
  subst f1
  subst f2
  subst f3
  subst f5
  subst f6
  subst f7
  subst f10
  subst f11
  subst f12
  subst f14
  subst f15
  subst f16
  subst f18
  subst f20
  subst f21
  subst f22
  subst f24
  subst f25
  refine adI_s f27 (by omega) (by omega) ?_
  have k : a26 r15 % 5 = 2 := by omega
  rw [acF_2 k]
  unfold faF shF gnF
  dsimp only
  ((repeat' split) <;> first | rfl | (exfalso; omega)))
def w_advance14_1_19 : VC := (([(0, 23), (0, 49), (0, 8), (0, 11), (0, 9), (0, 6), (0, 6), (0, 8), (0, 9), (1, 49), (0, 49), ((-2147483648), 2147483647), ((-2147483648), 2147483647), (0, 5), (0, 23), (0, 48), (0, 119), (5, 120), (0, 10), (0, 119), (2, 2), (1, 1), (0, 7), (0, 1), (0, 7), (0, 1), (0, 9), (0, 9), (0, 99), ((-9), (-1)), ((-2147483648), 2147483647), ((-2147483648), 2147483647)]), [(21, [(some 22, 0), (some 31, 0)], [63, 59]), (16, [(some 31, 0), (some 30, 0), (none, 1)], []), (20, [(some 30, 0), (some 22, 0)], [59]), (21, [(some 22, 0), (none, 0)], [62, 58]), (2, [(some 29, 0), (none, 0)], []), (5, [(some 29, 0), (some 28, 0), (some 27, 0)], []), (20, [(some 28, 0), (some 22, 0)], [58]), (7, [(some 27, 0), (some 26, 0), (none, 2)], []), (1, [(some 25, 0), (none, 2)], []), (1, [(some 25, 0), (none, 1)], []), (20, [(some 26, 0), (some 18, 0)], [11]), (20, [(some 25, 0), (some 24, 0)], [7]), (20, [(some 24, 0), (some 18, 0)], [10]), (1, [(some 23, 0), (none, 2)], []), (20, [(some 23, 0), (some 22, 0)], [7]), (20, [(some 22, 0), (some 18, 0)], [10]), (21, [(some 18, 0), (none, 3)], [61, 60]), (0, [(some 21, 0), (none, 1)], []), (20, [(some 21, 0), (some 18, 0)], [60]), (0, [(some 20, 0), (none, 2)], []), (8, [(some 20, 0), (some 19, 0), (none, 5)], []), (20, [(some 19, 0), (some 15, 0)], [26]), (20, [(some 18, 0), (some 15, 0)], [27]), (2, [(some 16, 0), (some 17, 0)], []), (6, [(some 17, 0), (none, 5), (some 14, 1)], []), (20, [(some 16, 0), (some 15, 0)], [26]), (2, [(some 15, 0), (some 9, 0)], []), (90, [(some 10, 0), (some 15, 0), (some 9, 0), (some 14, 0), (some 11, 0), (some 12, 0)], [26, 27, 7, 8, 10, 11, 16, 20, 21, 24, 25, 28, 29, 30, 58, 59, 60]), (87, [(some 9, 0)], [26, 27])], (90, [(some 10, 0), (some 15, 1), (some 9, 0), (some 14, 0), (some 11, 0), (some 12, 0)], [26, 27, 7, 8, 10, 11, 16, 20, 21, 24, 25, 28, 29, 30, 62, 63, 61]))
set_option maxRecDepth 20000 in
theorem v_advance14_1_19 {PT : PTy} (hp : HP4 PT) : vcOk PT w_advance14_1_19 := vc_of (fun ρ α hB hF => by
  obtain ⟨f0, f1, f2, f3, -, f5, f6, f7, -, f9, f10, f11, f12, -, f14, f15, f16, f17, f18, f19, f20, f21, f22, f23, f24, f25, f26, f27, f28, -⟩ := hF
  have e87 : PT 87 = P_pr := hp.1.2.2.2.2.2.2.2.2.1
  have e90 : PT 90 = P_adI := hp.1.2.2.2.2.2.2.2.2.2.2.2.1
  simp only [hF0, hF1, hF2, hF5, hF6, hF7, hF8, hF16, hF20, hF21, hFp_87, hFp_90, e87, e90, P_pr, P_adI, den_s, den_c, Int.add_zero, List.map_cons, List.map_nil] at f0 f1 f2 f3 f5 f6 f7 f9 f10 f11 f12 f14 f15 f16 f17 f18 f19 f20 f21 f22 f23 f24 f25 f26 f27 f28 ⊢
  have b9 : (1 : Int) ≤ ρ 9 ∧ ρ 9 ≤ 49 := hB 9 (1, 49) rfl
  have b10 : (0 : Int) ≤ ρ 10 ∧ ρ 10 ≤ 49 := hB 10 (0, 49) rfl
  have b11 : ((-2147483648) : Int) ≤ ρ 11 ∧ ρ 11 ≤ 2147483647 := hB 11 ((-2147483648), 2147483647) rfl
  have b12 : ((-2147483648) : Int) ≤ ρ 12 ∧ ρ 12 ≤ 2147483647 := hB 12 ((-2147483648), 2147483647) rfl
  have b14 : (0 : Int) ≤ ρ 14 ∧ ρ 14 ≤ 23 := hB 14 (0, 23) rfl
  have b15 : (0 : Int) ≤ ρ 15 ∧ ρ 15 ≤ 48 := hB 15 (0, 48) rfl
  have b16 : (0 : Int) ≤ ρ 16 ∧ ρ 16 ≤ 119 := hB 16 (0, 119) rfl
  have b17 : (5 : Int) ≤ ρ 17 ∧ ρ 17 ≤ 120 := hB 17 (5, 120) rfl
  have b18 : (0 : Int) ≤ ρ 18 ∧ ρ 18 ≤ 10 := hB 18 (0, 10) rfl
  have b19 : (0 : Int) ≤ ρ 19 ∧ ρ 19 ≤ 119 := hB 19 (0, 119) rfl
  have b20 : (2 : Int) ≤ ρ 20 ∧ ρ 20 ≤ 2 := hB 20 (2, 2) rfl
  have b21 : (1 : Int) ≤ ρ 21 ∧ ρ 21 ≤ 1 := hB 21 (1, 1) rfl
  have b22 : (0 : Int) ≤ ρ 22 ∧ ρ 22 ≤ 7 := hB 22 (0, 7) rfl
  have b23 : (0 : Int) ≤ ρ 23 ∧ ρ 23 ≤ 1 := hB 23 (0, 1) rfl
  have b24 : (0 : Int) ≤ ρ 24 ∧ ρ 24 ≤ 7 := hB 24 (0, 7) rfl
  have b25 : (0 : Int) ≤ ρ 25 ∧ ρ 25 ≤ 1 := hB 25 (0, 1) rfl
  have b26 : (0 : Int) ≤ ρ 26 ∧ ρ 26 ≤ 9 := hB 26 (0, 9) rfl
  have b27 : (0 : Int) ≤ ρ 27 ∧ ρ 27 ≤ 9 := hB 27 (0, 9) rfl
  have b28 : (0 : Int) ≤ ρ 28 ∧ ρ 28 ≤ 99 := hB 28 (0, 99) rfl
  have b29 : ((-9) : Int) ≤ ρ 29 ∧ ρ 29 ≤ (-1) := hB 29 ((-9), (-1)) rfl
  have b30 : ((-2147483648) : Int) ≤ ρ 30 ∧ ρ 30 ≤ 2147483647 := hB 30 ((-2147483648), 2147483647) rfl
  have b31 : ((-2147483648) : Int) ≤ ρ 31 ∧ ρ 31 ≤ 2147483647 := hB 31 ((-2147483648), 2147483647) rfl
  clear hB
  generalize ρ 9 = r9, ρ 10 = r10, ρ 11 = r11, ρ 12 = r12, ρ 14 = r14, ρ 15 = r15, ρ 16 = r16, ρ 17 = r17, ρ 18 = r18, ρ 19 = r19, ρ 20 = r20, ρ 21 = r21, ρ 22 = r22, ρ 23 = r23, ρ 24 = r24, ρ 25 = r25, ρ 26 = r26, ρ 27 = r27, ρ 28 = r28, ρ 29 = r29, ρ 30 = r30, ρ 31 = r31, α 7 = a7, α 8 = a8, α 10 = a10, α 11 = a11, α 16 = a16, α 20 = a20, α 21 = a21, α 24 = a24, α 25 = a25, α 26 = a26, α 27 = a27, α 28 = a28, α 29 = a29, α 30 = a30, α 58 = a58, α 59 = a59, α 60 = a60, α 61 = a61, α 62 = a62, α 63 = a63 at *
  subst f0
  subst f1
  subst f2
  subst f3
  subst f5
  subst f6
  subst f7
  subst f10
  subst f11
  subst f12
  subst f14
  subst f15
  subst f16
  subst f18
  subst f20
  subst f21
  subst f22
  subst f24
  subst f25
  refine adI_s f27 (by omega) (by omega) ?_
  have k : a26 r15 % 5 = 2 := by omega
  rw [acF_2 k]
  unfold faF shF gnF
  dsimp only
  ((repeat' split) <;> first | rfl | (exfalso; omega)))
def w_advance14_1_20 : VC := (([(0, 23), (0, 49), (0, 8), (0, 11), (0, 9), (0, 6), (0, 6), (0, 8), (0, 9), (1, 49), (0, 49), ((-2147483648), 2147483647), ((-2147483648), 2147483647), (0, 5), (0, 23), (0, 48), (0, 119), (5, 120), (0, 10), (0, 119), (2, 2), (1, 1), (0, 7), (0, 1), (0, 7), (2, 2), (0, 9), (0, 99), (0, 99), ((-2147483648), 2147483647), ((-2147483648), 2147483647)]), [(21, [(some 22, 0), (some 30, 0)], [63, 59]), (16, [(some 30, 0), (some 29, 0), (none, 1)], []), (20, [(some 29, 0), (some 22, 0)], [59]), (21, [(some 22, 0), (some 28, 0)], [62, 58]), (3, [(some 28, 0), (none, 0)], []), (5, [(some 28, 0), (some 27, 0), (some 26, 0)], []), (20, [(some 27, 0), (some 22, 0)], [58]), (0, [(some 25, 0), (none, 2)], []), (1, [(some 25, 0), (none, 1)], []), (20, [(some 26, 0), (some 18, 0)], [11]), (20, [(some 25, 0), (some 24, 0)], [7]), (20, [(some 24, 0), (some 18, 0)], [10]), (1, [(some 23, 0), (none, 2)], []), (20, [(some 23, 0), (some 22, 0)], [7]), (20, [(some 22, 0), (some 18, 0)], [10]), (21, [(some 18, 0), (none, 3)], [61, 60]), (0, [(some 21, 0), (none, 1)], []), (20, [(some 21, 0), (some 18, 0)], [60]), (0, [(some 20, 0), (none, 2)], []), (8, [(some 20, 0), (some 19, 0), (none, 5)], []), (20, [(some 19, 0), (some 15, 0)], [26]), (20, [(some 18, 0), (some 15, 0)], [27]), (2, [(some 16, 0), (some 17, 0)], []), (6, [(some 17, 0), (none, 5), (some 14, 1)], []), (20, [(some 16, 0), (some 15, 0)], [26]), (2, [(some 15, 0), (some 9, 0)], []), (90, [(some 10, 0), (some 15, 0), (some 9, 0), (some 14, 0), (some 11, 0), (some 12, 0)], [26, 27, 7, 8, 10, 11, 16, 20, 21, 24, 25, 28, 29, 30, 58, 59, 60]), (87, [(some 9, 0)], [26, 27])], (90, [(some 10, 0), (some 15, 1), (some 9, 0), (some 14, 0), (some 11, 0), (some 12, 0)], [26, 27, 7, 8, 10, 11, 16, 20, 21, 24, 25, 28, 29, 30, 62, 63, 61]))
set_option maxRecDepth 20000 in
theorem v_advance14_1_20 {PT : PTy} (hp : HP4 PT) : vcOk PT w_advance14_1_20 := vc_of (fun ρ α hB hF => by
  obtain ⟨f0, f1, f2, f3, -, f5, f6, f7, -, f9, f10, f11, -, f13, f14, f15, f16, f17, f18, f19, f20, f21, f22, f23, f24, f25, f26, f27, -⟩ := hF
  have e87 : PT 87 = P_pr := hp.1.2.2.2.2.2.2.2.2.1
  have e90 : PT 90 = P_adI := hp.1.2.2.2.2.2.2.2.2.2.2.2.1
  simp only [hF0, hF2, hF5, hF6, hF8, hF16, hF20, hF21, hFp_87, hFp_90, e87, e90, P_pr, P_adI, den_s, den_c, Int.add_zero, List.map_cons, List.map_nil] at f0 f1 f2 f3 f5 f6 f7 f9 f10 f11 f13 f14 f15 f16 f17 f18 f19 f20 f21 f22 f23 f24 f25 f26 f27 ⊢
  have b9 : (1 : Int) ≤ ρ 9 ∧ ρ 9 ≤ 49 := hB 9 (1, 49) rfl
  have b10 : (0 : Int) ≤ ρ 10 ∧ ρ 10 ≤ 49 := hB 10 (0, 49) rfl
  have b11 : ((-2147483648) : Int) ≤ ρ 11 ∧ ρ 11 ≤ 2147483647 := hB 11 ((-2147483648), 2147483647) rfl
  have b12 : ((-2147483648) : Int) ≤ ρ 12 ∧ ρ 12 ≤ 2147483647 := hB 12 ((-2147483648), 2147483647) rfl
  have b14 : (0 : Int) ≤ ρ 14 ∧ ρ 14 ≤ 23 := hB 14 (0, 23) rfl
  have b15 : (0 : Int) ≤ ρ 15 ∧ ρ 15 ≤ 48 := hB 15 (0, 48) rfl
  have b16 : (0 : Int) ≤ ρ 16 ∧ ρ 16 ≤ 119 := hB 16 (0, 119) rfl
  have b17 : (5 : Int) ≤ ρ 17 ∧ ρ 17 ≤ 120 := hB 17 (5, 120) rfl
  have b18 : (0 : Int) ≤ ρ 18 ∧ ρ 18 ≤ 10 := hB 18 (0, 10) rfl
  have b19 : (0 : Int) ≤ ρ 19 ∧ ρ 19 ≤ 119 := hB 19 (0, 119) rfl
  have b20 : (2 : Int) ≤ ρ 20 ∧ ρ 20 ≤ 2 := hB 20 (2, 2) rfl
  have b21 : (1 : Int) ≤ ρ 21 ∧ ρ 21 ≤ 1 := hB 21 (1, 1) rfl
  have b22 : (0 : Int) ≤ ρ 22 ∧ ρ 22 ≤ 7 := hB 22 (0, 7) rfl
  have b23 : (0 : Int) ≤ ρ 23 ∧ ρ 23 ≤ 1 := hB 23 (0, 1) rfl
  have b24 : (0 : Int) ≤ ρ 24 ∧ ρ 24 ≤ 7 := hB 24 (0, 7) rfl
  have b25 : (2 : Int) ≤ ρ 25 ∧ ρ 25 ≤ 2 := hB 25 (2, 2) rfl
  have b26 : (0 : Int) ≤ ρ 26 ∧ ρ 26 ≤ 9 := hB 26 (0, 9) rfl
  have b27 : (0 : Int) ≤ ρ 27 ∧ ρ 27 ≤ 99 := hB 27 (0, 99) rfl
  have b28 : (0 : Int) ≤ ρ 28 ∧ ρ 28 ≤ 99 := hB 28 (0, 99) rfl
  have b29 : ((-2147483648) : Int) ≤ ρ 29 ∧ ρ 29 ≤ 2147483647 := hB 29 ((-2147483648), 2147483647) rfl
  have b30 : ((-2147483648) : Int) ≤ ρ 30 ∧ ρ 30 ≤ 2147483647 := hB 30 ((-2147483648), 2147483647) rfl
  clear hB
  generalize ρ 9 = r9, ρ 10 = r10, ρ 11 = r11, ρ 12 = r12, ρ 14 = r14, ρ 15 = r15, ρ 16 = r16, ρ 17 = r17, ρ 18 = r18, ρ 19 = r19, ρ 20 = r20, ρ 21 = r21, ρ 22 = r22, ρ 23 = r23, ρ 24 = r24, ρ 25 = r25, ρ 26 = r26, ρ 27 = r27, ρ 28 = r28, ρ 29 = r29, ρ 30 = r30, α 7 = a7, α 8 = a8, α 10 = a10, α 11 = a11, α 16 = a16, α 20 = a20, α 21 = a21, α 24 = a24, α 25 = a25, α 26 = a26, α 27 = a27, α 28 = a28, α 29 = a29, α 30 = a30, α 58 = a58, α 59 = a59, α 60 = a60, α 61 = a61, α 62 = a62, α 63 = a63 at *
  subst f0
  subst f1
  subst f2
  subst f3
  subst f5
  subst f6
  subst f9
  subst f10
  subst f11
  subst f13
  subst f14
  subst f15
  subst f17
  subst f19
  subst f20
  subst f21
  subst f23
  subst f24
  refine adI_s f26 (by omega) (by omega) ?_
  have k : a26 r15 % 5 = 2 := by omega
  rw [acF_2 k]
  unfold faF shF gnF
  dsimp only
  ((repeat' split) <;> first | rfl | (exfalso; omega)))
def w_advance14_1_21 : VC := (([(0, 23), (0, 49), (0, 8), (0, 11), (0, 9), (0, 6), (0, 6), (0, 8), (0, 9), (1, 49), (0, 49), ((-2147483648), 2147483647), ((-2147483648), 2147483647), (0, 5), (0, 23), (0, 48), (0, 119), (5, 120), (0, 10), (0, 119), (2, 2), (1, 1), (0, 7), (0, 1), (0, 7), (2, 2), (0, 9), (0, 99), ((-9), (-1)), ((-2147483648), 2147483647), ((-2147483648), 2147483647)]), [(21, [(some 22, 0), (some 30, 0)], [63, 59]), (16, [(some 30, 0), (some 29, 0), (none, 1)], []), (20, [(some 29, 0), (some 22, 0)], [59]), (21, [(some 22, 0), (none, 0)], [62, 58]), (2, [(some 28, 0), (none, 0)], []), (5, [(some 28, 0), (some 27, 0), (some 26, 0)], []), (20, [(some 27, 0), (some 22, 0)], [58]), (0, [(some 25, 0), (none, 2)], []), (1, [(some 25, 0), (none, 1)], []), (20, [(some 26, 0), (some 18, 0)], [11]), (20, [(some 25, 0), (some 24, 0)], [7]), (20, [(some 24, 0), (some 18, 0)], [10]), (1, [(some 23, 0), (none, 2)], []), (20, [(some 23, 0), (some 22, 0)], [7]), (20, [(some 22, 0), (some 18, 0)], [10]), (21, [(some 18, 0), (none, 3)], [61, 60]), (0, [(some 21, 0), (none, 1)], []), (20, [(some 21, 0), (some 18, 0)], [60]), (0, [(some 20, 0), (none, 2)], []), (8, [(some 20, 0), (some 19, 0), (none, 5)], []), (20, [(some 19, 0), (some 15, 0)], [26]), (20, [(some 18, 0), (some 15, 0)], [27]), (2, [(some 16, 0), (some 17, 0)], []), (6, [(some 17, 0), (none, 5), (some 14, 1)], []), (20, [(some 16, 0), (some 15, 0)], [26]), (2, [(some 15, 0), (some 9, 0)], []), (90, [(some 10, 0), (some 15, 0), (some 9, 0), (some 14, 0), (some 11, 0), (some 12, 0)], [26, 27, 7, 8, 10, 11, 16, 20, 21, 24, 25, 28, 29, 30, 58, 59, 60]), (87, [(some 9, 0)], [26, 27])], (90, [(some 10, 0), (some 15, 1), (some 9, 0), (some 14, 0), (some 11, 0), (some 12, 0)], [26, 27, 7, 8, 10, 11, 16, 20, 21, 24, 25, 28, 29, 30, 62, 63, 61]))
set_option maxRecDepth 20000 in
theorem v_advance14_1_21 {PT : PTy} (hp : HP4 PT) : vcOk PT w_advance14_1_21 := vc_of (fun ρ α hB hF => by
  obtain ⟨f0, f1, f2, f3, -, f5, f6, f7, -, f9, f10, f11, -, f13, f14, f15, f16, f17, f18, f19, f20, f21, f22, f23, f24, f25, f26, f27, -⟩ := hF
  have e87 : PT 87 = P_pr := hp.1.2.2.2.2.2.2.2.2.1
  have e90 : PT 90 = P_adI := hp.1.2.2.2.2.2.2.2.2.2.2.2.1
  simp only [hF0, hF2, hF5, hF6, hF8, hF16, hF20, hF21, hFp_87, hFp_90, e87, e90, P_pr, P_adI, den_s, den_c, Int.add_zero, List.map_cons, List.map_nil] at f0 f1 f2 f3 f5 f6 f7 f9 f10 f11 f13 f14 f15 f16 f17 f18 f19 f20 f21 f22 f23 f24 f25 f26 f27 ⊢
  have b9 : (1 : Int) ≤ ρ 9 ∧ ρ 9 ≤ 49 := hB 9 (1, 49) rfl
  have b10 : (0 : Int) ≤ ρ 10 ∧ ρ 10 ≤ 49 := hB 10 (0, 49) rfl
  have b11 : ((-2147483648) : Int) ≤ ρ 11 ∧ ρ 11 ≤ 2147483647 := hB 11 ((-2147483648), 2147483647) rfl
  have b12 : ((-2147483648) : Int) ≤ ρ 12 ∧ ρ 12 ≤ 2147483647 := hB 12 ((-2147483648), 2147483647) rfl
  have b14 : (0 : Int) ≤ ρ 14 ∧ ρ 14 ≤ 23 := hB 14 (0, 23) rfl
  have b15 : (0 : Int) ≤ ρ 15 ∧ ρ 15 ≤ 48 := hB 15 (0, 48) rfl
  have b16 : (0 : Int) ≤ ρ 16 ∧ ρ 16 ≤ 119 := hB 16 (0, 119) rfl
  have b17 : (5 : Int) ≤ ρ 17 ∧ ρ 17 ≤ 120 := hB 17 (5, 120) rfl
  have b18 : (0 : Int) ≤ ρ 18 ∧ ρ 18 ≤ 10 := hB 18 (0, 10) rfl
  have b19 : (0 : Int) ≤ ρ 19 ∧ ρ 19 ≤ 119 := hB 19 (0, 119) rfl
  have b20 : (2 : Int) ≤ ρ 20 ∧ ρ 20 ≤ 2 := hB 20 (2, 2) rfl
  have b21 : (1 : Int) ≤ ρ 21 ∧ ρ 21 ≤ 1 := hB 21 (1, 1) rfl
  have b22 : (0 : Int) ≤ ρ 22 ∧ ρ 22 ≤ 7 := hB 22 (0, 7) rfl
  have b23 : (0 : Int) ≤ ρ 23 ∧ ρ 23 ≤ 1 := hB 23 (0, 1) rfl
  have b24 : (0 : Int) ≤ ρ 24 ∧ ρ 24 ≤ 7 := hB 24 (0, 7) rfl
  have b25 : (2 : Int) ≤ ρ 25 ∧ ρ 25 ≤ 2 := hB 25 (2, 2) rfl
  have b26 : (0 : Int) ≤ ρ 26 ∧ ρ 26 ≤ 9 := hB 26 (0, 9) rfl
  have b27 : (0 : Int) ≤ ρ 27 ∧ ρ 27 ≤ 99 := hB 27 (0, 99) rfl
  have b28 : ((-9) : Int) ≤ ρ 28 ∧ ρ 28 ≤ (-1) := hB 28 ((-9), (-1)) rfl
  have b29 : ((-2147483648) : Int) ≤ ρ 29 ∧ ρ 29 ≤ 2147483647 := hB 29 ((-2147483648), 2147483647) rfl
  have b30 : ((-2147483648) : Int) ≤ ρ 30 ∧ ρ 30 ≤ 2147483647 := hB 30 ((-2147483648), 2147483647) rfl
  clear hB
  generalize ρ 9 = r9, ρ 10 = r10, ρ 11 = r11, ρ 12 = r12, ρ 14 = r14, ρ 15 = r15, ρ 16 = r16, ρ 17 = r17, ρ 18 = r18, ρ 19 = r19, ρ 20 = r20, ρ 21 = r21, ρ 22 = r22, ρ 23 = r23, ρ 24 = r24, ρ 25 = r25, ρ 26 = r26, ρ 27 = r27, ρ 28 = r28, ρ 29 = r29, ρ 30 = r30, α 7 = a7, α 8 = a8, α 10 = a10, α 11 = a11, α 16 = a16, α 20 = a20, α 21 = a21, α 24 = a24, α 25 = a25, α 26 = a26, α 27 = a27, α 28 = a28, α 29 = a29, α 30 = a30, α 58 = a58, α 59 = a59, α 60 = a60, α 61 = a61, α 62 = a62, α 63 = a63 at *
  subst f0
  subst f1
  subst f2
  subst f3
  subst f5
  subst f6
  subst f9
  subst f10
  subst f11
  subst f13
  subst f14
  subst f15
  subst f17
  subst f19
  subst f20
  subst f21
  subst f23
  subst f24
  refine adI_s f26 (by omega) (by omega) ?_
  have k : a26 r15 % 5 = 2 := by omega
  rw [acF_2 k]
  unfold faF shF gnF
  dsimp only
  ((repeat' split) <;> first | rfl | (exfalso; omega)))
def w_advance14_1_22 : VC := (([(0, 23), (0, 49), (0, 8), (0, 11), (0, 9), (0, 6), (0, 6), (0, 8), (0, 9), (1, 49), (0, 49), ((-2147483648), 2147483647), ((-2147483648), 2147483647), (0, 5), (0, 23), (0, 48), (0, 119), (5, 120), (0, 10), (0, 119), (2, 2), (1, 1), (0, 7), (0, 1), (0, 7), (1, 1), (0, 9), (0, 18), (0, 99), (0, 99), ((-2147483648), 2147483647), ((-2147483648), 2147483647)]), [(21, [(some 22, 0), (some 31, 0)], [63, 59]), (16, [(some 31, 0), (some 30, 0), (none, 1)], []), (20, [(some 30, 0), (some 22, 0)], [59]), (21, [(some 22, 0), (some 29, 0)], [62, 58]), (3, [(some 29, 0), (none, 0)], []), (5, [(some 29, 0), (some 28, 0), (some 27, 0)], []), (20, [(some 28, 0), (some 22, 0)], [58]), (6, [(some 27, 0), (none, 2), (some 26, 0)], []), (0, [(some 25, 0), (none, 1)], []), (20, [(some 26, 0), (some 18, 0)], [11]), (20, [(some 25, 0), (some 24, 0)], [7]), (20, [(some 24, 0), (some 18, 0)], [10]), (1, [(some 23, 0), (none, 2)], []), (20, [(some 23, 0), (some 22, 0)], [7]), (20, [(some 22, 0), (some 18, 0)], [10]), (21, [(some 18, 0), (none, 3)], [61, 60]), (0, [(some 21, 0), (none, 1)], []), (20, [(some 21, 0), (some 18, 0)], [60]), (0, [(some 20, 0), (none, 2)], []), (8, [(some 20, 0), (some 19, 0), (none, 5)], []), (20, [(some 19, 0), (some 15, 0)], [26]), (20, [(some 18, 0), (some 15, 0)], [27]), (2, [(some 16, 0), (some 17, 0)], []), (6, [(some 17, 0), (none, 5), (some 14, 1)], []), (20, [(some 16, 0), (some 15, 0)], [26]), (2, [(some 15, 0), (some 9, 0)], []), (90, [(some 10, 0), (some 15, 0), (some 9, 0), (some 14, 0), (some 11, 0), (some 12, 0)], [26, 27, 7, 8, 10, 11, 16, 20, 21, 24, 25, 28, 29, 30, 58, 59, 60]), (87, [(some 9, 0)], [26, 27])], (90, [(some 10, 0), (some 15, 1), (some 9, 0), (some 14, 0), (some 11, 0), (some 12, 0)], [26, 27, 7, 8, 10, 11, 16, 20, 21, 24, 25, 28, 29, 30, 62, 63, 61]))
set_option maxRecDepth 20000 in
theorem v_advance14_1_22 {PT : PTy} (hp : HP4 PT) : vcOk PT w_advance14_1_22 := vc_of (fun ρ α hB hF => by
  obtain ⟨f0, f1, f2, f3, -, f5, f6, f7, f8, f9, f10, f11, -, f13, f14, f15, f16, f17, f18, f19, f20, f21, f22, f23, f24, f25, f26, f27, -⟩ := hF
  have e87 : PT 87 = P_pr := hp.1.2.2.2.2.2.2.2.2.1
  have e90 : PT 90 = P_adI := hp.1.2.2.2.2.2.2.2.2.2.2.2.1
  simp only [hF0, hF2, hF5, hF6, hF8, hF16, hF20, hF21, hFp_87, hFp_90, e87, e90, P_pr, P_adI, den_s, den_c, Int.add_zero, List.map_cons, List.map_nil] at f0 f1 f2 f3 f5 f6 f7 f8 f9 f10 f11 f13 f14 f15 f16 f17 f18 f19 f20 f21 f22 f23 f24 f25 f26 f27 ⊢
  have b9 : (1 : Int) ≤ ρ 9 ∧ ρ 9 ≤ 49 := hB 9 (1, 49) rfl
  have b10 : (0 : Int) ≤ ρ 10 ∧ ρ 10 ≤ 49 := hB 10 (0, 49) rfl
  have b11 : ((-2147483648) : Int) ≤ ρ 11 ∧ ρ 11 ≤ 2147483647 := hB 11 ((-2147483648), 2147483647) rfl
  have b12 : ((-2147483648) : Int) ≤ ρ 12 ∧ ρ 12 ≤ 2147483647 := hB 12 ((-2147483648), 2147483647) rfl
  have b14 : (0 : Int) ≤ ρ 14 ∧ ρ 14 ≤ 23 := hB 14 (0, 23) rfl
  have b15 : (0 : Int) ≤ ρ 15 ∧ ρ 15 ≤ 48 := hB 15 (0, 48) rfl
  have b16 : (0 : Int) ≤ ρ 16 ∧ ρ 16 ≤ 119 := hB 16 (0, 119) rfl
  have b17 : (5 : Int) ≤ ρ 17 ∧ ρ 17 ≤ 120 := hB 17 (5, 120) rfl
  have b18 : (0 : Int) ≤ ρ 18 ∧ ρ 18 ≤ 10 := hB 18 (0, 10) rfl
  have b19 : (0 : Int) ≤ ρ 19 ∧ ρ 19 ≤ 119 := hB 19 (0, 119) rfl
  have b20 : (2 : Int) ≤ ρ 20 ∧ ρ 20 ≤ 2 := hB 20 (2, 2) rfl
  have b21 : (1 : Int) ≤ ρ 21 ∧ ρ 21 ≤ 1 := hB 21 (1, 1) rfl
  have b22 : (0 : Int) ≤ ρ 22 ∧ ρ 22 ≤ 7 := hB 22 (0, 7) rfl
  have b23 : (0 : Int) ≤ ρ 23 ∧ ρ 23 ≤ 1 := hB 23 (0, 1) rfl
  have b24 : (0 : Int) ≤ ρ 24 ∧ ρ 24 ≤ 7 := hB 24 (0, 7) rfl
  have b25 : (1 : Int) ≤ ρ 25 ∧ ρ 25 ≤ 1 := hB 25 (1, 1) rfl
  have b26 : (0 : Int) ≤ ρ 26 ∧ ρ 26 ≤ 9 := hB 26 (0, 9) rfl
  have b27 : (0 : Int) ≤ ρ 27 ∧ ρ 27 ≤ 18 := hB 27 (0, 18) rfl
  have b28 : (0 : Int) ≤ ρ 28 ∧ ρ 28 ≤ 99 := hB 28 (0, 99) rfl
  have b29 : (0 : Int) ≤ ρ 29 ∧ ρ 29 ≤ 99 := hB 29 (0, 99) rfl
  have b30 : ((-2147483648) : Int) ≤ ρ 30 ∧ ρ 30 ≤ 2147483647 := hB 30 ((-2147483648), 2147483647) rfl
  have b31 : ((-2147483648) : Int) ≤ ρ 31 ∧ ρ 31 ≤ 2147483647 := hB 31 ((-2147483648), 2147483647) rfl
  clear hB
  generalize ρ 9 = r9, ρ 10 = r10, ρ 11 = r11, ρ 12 = r12, ρ 14 = r14, ρ 15 = r15, ρ 16 = r16, ρ 17 = r17, ρ 18 = r18, ρ 19 = r19, ρ 20 = r20, ρ 21 = r21, ρ 22 = r22, ρ 23 = r23, ρ 24 = r24, ρ 25 = r25, ρ 26 = r26, ρ 27 = r27, ρ 28 = r28, ρ 29 = r29, ρ 30 = r30, ρ 31 = r31, α 7 = a7, α 8 = a8, α 10 = a10, α 11 = a11, α 16 = a16, α 20 = a20, α 21 = a21, α 24 = a24, α 25 = a25, α 26 = a26, α 27 = a27, α 28 = a28, α 29 = a29, α 30 = a30, α 58 = a58, α 59 = a59, α 60 = a60, α 61 = a61, α 62 = a62, α 63 = a63 at *
  subst f0
  subst f1
  subst f2
  subst f3
  subst f5
  subst f6
  subst f7
  subst f9
  subst f10
  subst f11
  subst f13
  subst f14
  subst f15
  subst f17
  subst f19
  subst f20
  subst f21
  subst f23
  subst f24
  refine adI_s f26 (by omega) (by omega) ?_
  have k : a26 r15 % 5 = 2 := by omega
  rw [acF_2 k]
  unfold faF shF gnF
  dsimp only
  ((repeat' split) <;> first | rfl | (exfalso; omega)))
def w_advance14_1_23 : VC := (([(0, 23), (0, 49), (0, 8), (0, 11), (0, 9), (0, 6), (0, 6), (0, 8), (0, 9), (1, 49), (0, 49), ((-2147483648), 2147483647), ((-2147483648), 2147483647), (0, 5), (0, 23), (0, 48), (0, 119), (5, 120), (0, 10), (0, 119), (2, 2), (1, 1), (0, 7), (0, 1), (0, 7), (1, 1), (0, 9), (0, 18), (0, 99), ((-18), (-1)), ((-2147483648), 2147483647), ((-2147483648), 2147483647)]), [(21, [(some 22, 0), (some 31, 0)], [63, 59]), (16, [(some 31, 0), (some 30, 0), (none, 1)], []), (20, [(some 30, 0), (some 22, 0)], [59]), (21, [(some 22, 0), (none, 0)], [62, 58]), (2, [(some 29, 0), (none, 0)], []), (5, [(some 29, 0), (some 28, 0), (some 27, 0)], []), (20, [(some 28, 0), (some 22, 0)], [58]), (6, [(some 27, 0), (none, 2), (some 26, 0)], []), (0, [(some 25, 0), (none, 1)], []), (20, [(some 26, 0), (some 18, 0)], [11]), (20, [(some 25, 0), (some 24, 0)], [7]), (20, [(some 24, 0), (some 18, 0)], [10]), (1, [(some 23, 0), (none, 2)], []), (20, [(some 23, 0), (some 22, 0)], [7]), (20, [(some 22, 0), (some 18, 0)], [10]), (21, [(some 18, 0), (none, 3)], [61, 60]), (0, [(some 21, 0), (none, 1)], []), (20, [(some 21, 0), (some 18, 0)], [60]), (0, [(some 20, 0), (none, 2)], []), (8, [(some 20, 0), (some 19, 0), (none, 5)], []), (20, [(some 19, 0), (some 15, 0)], [26]), (20, [(some 18, 0), (some 15, 0)], [27]), (2, [(some 16, 0), (some 17, 0)], []), (6, [(some 17, 0), (none, 5), (some 14, 1)], []), (20, [(some 16, 0), (some 15, 0)], [26]), (2, [(some 15, 0), (some 9, 0)], []), (90, [(some 10, 0), (some 15, 0), (some 9, 0), (some 14, 0), (some 11, 0), (some 12, 0)], [26, 27, 7, 8, 10, 11, 16, 20, 21, 24, 25, 28, 29, 30, 58, 59, 60]), (87, [(some 9, 0)], [26, 27])], (90, [(some 10, 0), (some 15, 1), (some 9, 0), (some 14, 0), (some 11, 0), (some 12, 0)], [26, 27, 7, 8, 10, 11, 16, 20, 21, 24, 25, 28, 29, 30, 62, 63, 61]))
set_option maxRecDepth 20000 in
theorem v_advance14_1_23 {PT : PTy} (hp : HP4 PT) : vcOk PT w_advance14_1_23 := vc_of (fun ρ α hB hF => by
  obtain ⟨f0, f1, f2, f3, -, f5, f6, f7, f8, f9, f10, f11, -, f13, f14, f15, f16, f17, f18, f19, f20, f21, f22, f23, f24, f25, f26, f27, -⟩ := hF
  have e87 : PT 87 = P_pr := hp.1.2.2.2.2.2.2.2.2.1
  have e90 : PT 90 = P_adI := hp.1.2.2.2.2.2.2.2.2.2.2.2.1
  simp only [hF0, hF2, hF5, hF6, hF8, hF16, hF20, hF21, hFp_87, hFp_90, e87, e90, P_pr, P_adI, den_s, den_c, Int.add_zero, List.map_cons, List.map_nil] at f0 f1 f2 f3 f5 f6 f7 f8 f9 f10 f11 f13 f14 f15 f16 f17 f18 f19 f20 f21 f22 f23 f24 f25 f26 f27 ⊢
  have b9 : (1 : Int) ≤ ρ 9 ∧ ρ 9 ≤ 49 := hB 9 (1, 49) rfl
  have b10 : (0 : Int) ≤ ρ 10 ∧ ρ 10 ≤ 49 := hB 10 (0, 49) rfl
  have b11 : ((-2147483648) : Int) ≤ ρ 11 ∧ ρ 11 ≤ 2147483647 := hB 11 ((-2147483648), 2147483647) rfl
  have b12 : ((-2147483648) : Int) ≤ ρ 12 ∧ ρ 12 ≤ 2147483647 := hB 12 ((-2147483648), 2147483647) rfl
  have b14 : (0 : Int) ≤ ρ 14 ∧ ρ 14 ≤ 23 := hB 14 (0, 23) rfl
  have b15 : (0 : Int) ≤ ρ 15 ∧ ρ 15 ≤ 48 := hB 15 (0, 48) rfl
  have b16 : (0 : Int) ≤ ρ 16 ∧ ρ 16 ≤ 119 := hB 16 (0, 119) rfl
  have b17 : (5 : Int) ≤ ρ 17 ∧ ρ 17 ≤ 120 := hB 17 (5, 120) rfl
  have b18 : (0 : Int) ≤ ρ 18 ∧ ρ 18 ≤ 10 := hB 18 (0, 10) rfl
  have b19 : (0 : Int) ≤ ρ 19 ∧ ρ 19 ≤ 119 := hB 19 (0, 119) rfl
  have b20 : (2 : Int) ≤ ρ 20 ∧ ρ 20 ≤ 2 := hB 20 (2, 2) rfl
  have b21 : (1 : Int) ≤ ρ 21 ∧ ρ 21 ≤ 1 := hB 21 (1, 1) rfl
  have b22 : (0 : Int) ≤ ρ 22 ∧ ρ 22 ≤ 7 := hB 22 (0, 7) rfl
  have b23 : (0 : Int) ≤ ρ 23 ∧ ρ 23 ≤ 1 := hB 23 (0, 1) rfl
  have b24 : (0 : Int) ≤ ρ 24 ∧ ρ 24 ≤ 7 := hB 24 (0, 7) rfl
  have b25 : (1 : Int) ≤ ρ 25 ∧ ρ 25 ≤ 1 := hB 25 (1, 1) rfl
  have b26 : (0 : Int) ≤ ρ 26 ∧ ρ 26 ≤ 9 := hB 26 (0, 9) rfl
  have b27 : (0 : Int) ≤ ρ 27 ∧ ρ 27 ≤ 18 := hB 27 (0, 18) rfl
  have b28 : (0 : Int) ≤ ρ 28 ∧ ρ 28 ≤ 99 := hB 28 (0, 99) rfl
  have b29 : ((-18) : Int) ≤ ρ 29 ∧ ρ 29 ≤ (-1) := hB 29 ((-18), (-1)) rfl
  have b30 : ((-2147483648) : Int) ≤ ρ 30 ∧ ρ 30 ≤ 2147483647 := hB 30 ((-2147483648), 2147483647) rfl
  have b31 : ((-2147483648) : Int) ≤ ρ 31 ∧ ρ 31 ≤ 2147483647 := hB 31 ((-2147483648), 2147483647) rfl
  clear hB
  generalize ρ 9 = r9, ρ 10 = r10, ρ 11 = r11, ρ 12 = r12, ρ 14 = r14, ρ 15 = r15, ρ 16 = r16, ρ 17 = r17, ρ 18 = r18, ρ 19 = r19, ρ 20 = r20, ρ 21 = r21, ρ 22 = r22, ρ 23 = r23, ρ 24 = r24, ρ 25 = r25, ρ 26 = r26, ρ 27 = r27, ρ 28 = r28, ρ 29 = r29, ρ 30 = r30, ρ 31 = r31, α 7 = a7, α 8 = a8, α 10 = a10, α 11 = a11, α 16 = a16, α 20 = a20, α 21 = a21, α 24 = a24, α 25 = a25, α 26 = a26, α 27 = a27, α 28 = a28, α 29 = a29, α 30 = a30, α 58 = a58, α 59 = a59, α 60 = a60, α 61 = a61, α 62 = a62, α 63 = a63 at *
  subst f0
  subst f1
  subst f2
  subst f3
  subst f5
  subst f6
  subst f7
  subst f9
  subst f10
  subst f11
  subst f13
  subst f14
  subst f15
  subst f17
  subst f19
  subst f20
  subst f21
  subst f23
  subst f24
  refine adI_s f26 (by omega) (by omega) ?_
  have k : a26 r15 % 5 = 2 := by omega
  rw [acF_2 k]
  unfold faF shF gnF
  dsimp only
  ((repeat' split) <;> first | rfl | (exfalso; omega)))
def w_advance14_1_24 : VC := (([(0, 23), (0, 49), (0, 8), (0, 11), (0, 9), (0, 6), (0, 6), (0, 8), (0, 9), (1, 49), (0, 49), ((-2147483648), 2147483647), ((-2147483648), 2147483647), (0, 5), (0, 23), (0, 48), (0, 119), (5, 120), (0, 10), (0, 119), (2, 2), (1, 1), (0, 7), (2, 2), (0, 7), (0, 1), (0, 9), (0, 9), (0, 99), (0, 97), ((-2147483648), 2147483647), ((-2147483648), 2147483647)]), [(21, [(some 22, 0), (some 31, 0)], [63, 59]), (16, [(some 31, 0), (some 30, 0), (none, 1)], []), (20, [(some 30, 0), (some 22, 0)], [59]), (21, [(some 22, 0), (some 29, 0)], [62, 58]), (3, [(some 29, 0), (none, 0)], []), (5, [(some 29, 0), (some 28, 0), (some 27, 2)], []), (20, [(some 28, 0), (some 22, 0)], [58]), (7, [(some 27, 0), (some 26, 0), (none, 2)], []), (1, [(some 25, 0), (none, 2)], []), (1, [(some 25, 0), (none, 1)], []), (20, [(some 26, 0), (some 18, 0)], [11]), (20, [(some 25, 0), (some 24, 0)], [7]), (20, [(some 24, 0), (some 18, 0)], [10]), (0, [(some 23, 0), (none, 2)], []), (20, [(some 23, 0), (some 22, 0)], [7]), (20, [(some 22, 0), (some 18, 0)], [10]), (21, [(some 18, 0), (none, 3)], [61, 60]), (0, [(some 21, 0), (none, 1)], []), (20, [(some 21, 0), (some 18, 0)], [60]), (0, [(some 20, 0), (none, 2)], []), (8, [(some 20, 0), (some 19, 0), (none, 5)], []), (20, [(some 19, 0), (some 15, 0)], [26]), (20, [(some 18, 0), (some 15, 0)], [27]), (2, [(some 16, 0), (some 17, 0)], []), (6, [(some 17, 0), (none, 5), (some 14, 1)], []), (20, [(some 16, 0), (some 15, 0)], [26]), (2, [(some 15, 0), (some 9, 0)], []), (90, [(some 10, 0), (some 15, 0), (some 9, 0), (some 14, 0), (some 11, 0), (some 12, 0)], [26, 27, 7, 8, 10, 11, 16, 20, 21, 24, 25, 28, 29, 30, 58, 59, 60]), (87, [(some 9, 0)], [26, 27])], (90, [(some 10, 0), (some 15, 1), (some 9, 0), (some 14, 0), (some 11, 0), (some 12, 0)], [26, 27, 7, 8, 10, 11, 16, 20, 21, 24, 25, 28, 29, 30, 62, 63, 61]))
set_option maxRecDepth 20000 in
theorem v_advance14_1_24 {PT : PTy} (hp : HP4 PT) : vcOk PT w_advance14_1_24 := vc_of (fun ρ α hB hF => by
  obtain ⟨f0, f1, f2, f3, -, f5, f6, f7, -, f9, f10, f11, f12, f13, f14, f15, f16, f17, f18, f19, f20, f21, f22, f23, f24, f25, f26, f27, f28, -⟩ := hF
  have e87 : PT 87 = P_pr := hp.1.2.2.2.2.2.2.2.2.1
  have e90 : PT 90 = P_adI := hp.1.2.2.2.2.2.2.2.2.2.2.2.1
  simp only [hF0, hF1, hF2, hF5, hF6, hF7, hF8, hF16, hF20, hF21, hFp_87, hFp_90, e87, e90, P_pr, P_adI, den_s, den_c, Int.add_zero, List.map_cons, List.map_nil] at f0 f1 f2 f3 f5 f6 f7 f9 f10 f11 f12 f13 f14 f15 f16 f17 f18 f19 f20 f21 f22 f23 f24 f25 f26 f27 f28 ⊢
  have b9 : (1 : Int) ≤ ρ 9 ∧ ρ 9 ≤ 49 := hB 9 (1, 49) rfl
  have b10 : (0 : Int) ≤ ρ 10 ∧ ρ 10 ≤ 49 := hB 10 (0, 49) rfl
  have b11 : ((-2147483648) : Int) ≤ ρ 11 ∧ ρ 11 ≤ 2147483647 := hB 11 ((-2147483648), 2147483647) rfl
  have b12 : ((-2147483648) : Int) ≤ ρ 12 ∧ ρ 12 ≤ 2147483647 := hB 12 ((-2147483648), 2147483647) rfl
  have b14 : (0 : Int) ≤ ρ 14 ∧ ρ 14 ≤ 23 := hB 14 (0, 23) rfl
  have b15 : (0 : Int) ≤ ρ 15 ∧ ρ 15 ≤ 48 := hB 15 (0, 48) rfl
  have b16 : (0 : Int) ≤ ρ 16 ∧ ρ 16 ≤ 119 := hB 16 (0, 119) rfl
  have b17 : (5 : Int) ≤ ρ 17 ∧ ρ 17 ≤ 120 := hB 17 (5, 120) rfl
  have b18 : (0 : Int) ≤ ρ 18 ∧ ρ 18 ≤ 10 := hB 18 (0, 10) rfl
  have b19 : (0 : Int) ≤ ρ 19 ∧ ρ 19 ≤ 119 := hB 19 (0, 119) rfl
  have b20 : (2 : Int) ≤ ρ 20 ∧ ρ 20 ≤ 2 := hB 20 (2, 2) rfl
  have b21 : (1 : Int) ≤ ρ 21 ∧ ρ 21 ≤ 1 := hB 21 (1, 1) rfl
  have b22 : (0 : Int) ≤ ρ 22 ∧ ρ 22 ≤ 7 := hB 22 (0, 7) rfl
  have b23 : (2 : Int) ≤ ρ 23 ∧ ρ 23 ≤ 2 := hB 23 (2, 2) rfl
  have b24 : (0 : Int) ≤ ρ 24 ∧ ρ 24 ≤ 7 := hB 24 (0, 7) rfl
  have b25 : (0 : Int) ≤ ρ 25 ∧ ρ 25 ≤ 1 := hB 25 (0, 1) rfl
  have b26 : (0 : Int) ≤ ρ 26 ∧ ρ 26 ≤ 9 := hB 26 (0, 9) rfl
  have b27 : (0 : Int) ≤ ρ 27 ∧ ρ 27 ≤ 9 := hB 27 (0, 9) rfl
  have b28 : (0 : Int) ≤ ρ 28 ∧ ρ 28 ≤ 99 := hB 28 (0, 99) rfl
  have b29 : (0 : Int) ≤ ρ 29 ∧ ρ 29 ≤ 97 := hB 29 (0, 97) rfl
  have b30 : ((-2147483648) : Int) ≤ ρ 30 ∧ ρ 30 ≤ 2147483647 := hB 30 ((-2147483648), 2147483647) rfl
  have b31 : ((-2147483648) : Int) ≤ ρ 31 ∧ ρ 31 ≤ 2147483647 := hB 31 ((-2147483648), 2147483647) rfl
  clear hB
  generalize ρ 9 = r9, ρ 10 = r10, ρ 11 = r11, ρ 12 = r12, ρ 14 = r14, ρ 15 = r15, ρ 16 = r16, ρ 17 = r17, ρ 18 = r18, ρ 19 = r19, ρ 20 = r20, ρ 21 = r21, ρ 22 = r22, ρ 23 = r23, ρ 24 = r24, ρ 25 = r25, ρ 26 = r26, ρ 27 = r27, ρ 28 = r28, ρ 29 = r29, ρ 30 = r30, ρ 31 = r31, α 7 = a7, α 8 = a8, α 10 = a10, α 11 = a11, α 16 = a16, α 20 = a20, α 21 = a21, α 24 = a24, α 25 = a25, α 26 = a26, α 27 = a27, α 28 = a28, α 29 = a29, α 30 = a30, α 58 = a58, α 59 = a59, α 60 = a60, α 61 = a61, α 62 = a62, α 63 = a63 at *
  subst f0
  subst f1
  subst f2
  subst f3
  subst f5
  subst f6
  subst f7
  subst f10
  subst f11
  subst f12
  subst f14
  subst f15
  subst f16
  subst f18
  subst f20
  subst f21
  subst f22
  subst f24
  subst f25
  refine adI_s f27 (by omega) (by omega) ?_
  have k : a26 r15 % 5 = 2 := by omega
  rw [acF_2 k]
  unfold faF shF gnF
  dsimp only
  ((repeat' split) <;> first | rfl | (exfalso; omega)))
def w_advance14_1_25 : VC := (([(0, 23), (0, 49), (0, 8), (0, 11), (0, 9), (0, 6), (0, 6), (0, 8), (0, 9), (1, 49), (0, 49), ((-2147483648), 2147483647), ((-2147483648), 2147483647), (0, 5), (0, 23), (0, 48), (0, 119), (5, 120), (0, 10), (0, 119), (2, 2), (1, 1), (0, 7), (2, 2), (0, 7), (0, 1), (0, 9), (0, 9), (0, 99), ((-11), (-1)), ((-2147483648), 2147483647), ((-2147483648), 2147483647)]), [(21, [(some 22, 0), (some 31, 0)], [63, 59]), (16, [(some 31, 0), (some 30, 0), (none, 1)], []), (20, [(some 30, 0), (some 22, 0)], [59]), (21, [(some 22, 0), (none, 0)], [62, 58]), (2, [(some 29, 0), (none, 0)], []), (5, [(some 29, 0), (some 28, 0), (some 27, 2)], []), (20, [(some 28, 0), (some 22, 0)], [58]), (7, [(some 27, 0), (some 26, 0), (none, 2)], []), (1, [(some 25, 0), (none, 2)], []), (1, [(some 25, 0), (none, 1)], []), (20, [(some 26, 0), (some 18, 0)], [11]), (20, [(some 25, 0), (some 24, 0)], [7]), (20, [(some 24, 0), (some 18, 0)], [10]), (0, [(some 23, 0), (none, 2)], []), (20, [(some 23, 0), (some 22, 0)], [7]), (20, [(some 22, 0), (some 18, 0)], [10]), (21, [(some 18, 0), (none, 3)], [61, 60]), (0, [(some 21, 0), (none, 1)], []), (20, [(some 21, 0), (some 18, 0)], [60]), (0, [(some 20, 0), (none, 2)], []), (8, [(some 20, 0), (some 19, 0), (none, 5)], []), (20, [(some 19, 0), (some 15, 0)], [26]), (20, [(some 18, 0), (some 15, 0)], [27]), (2, [(some 16, 0), (some 17, 0)], []), (6, [(some 17, 0), (none, 5), (some 14, 1)], []), (20, [(some 16, 0), (some 15, 0)], [26]), (2, [(some 15, 0), (some 9, 0)], []), (90, [(some 10, 0), (some 15, 0), (some 9, 0), (some 14, 0), (some 11, 0), (some 12, 0)], [26, 27, 7, 8, 10, 11, 16, 20, 21, 24, 25, 28, 29, 30, 58, 59, 60]), (87, [(some 9, 0)], [26, 27])], (90, [(some 10, 0), (some 15, 1), (some 9, 0), (some 14, 0), (some 11, 0), (some 12, 0)], [26, 27, 7, 8, 10, 11, 16, 20, 21, 24, 25, 28, 29, 30, 62, 63, 61]))
set_option maxRecDepth 20000 in
theorem v_advance14_1_25 {PT : PTy} (hp : HP4 PT) : vcOk PT w_advance14_1_25 := vc_of (fun ρ α hB hF => by
  obtain ⟨f0, f1, f2, f3, -, f5, f6, f7, -, f9, f10, f11, f12, f13, f14, f15, f16, f17, f18, f19, f20, f21, f22, f23, f24, f25, f26, f27, f28, -⟩ := hF
  have e87 : PT 87 = P_pr := hp.1.2.2.2.2.2.2.2.2.1
  have e90 : PT 90 = P_adI := hp.1.2.2.2.2.2.2.2.2.2.2.2.1
  simp only [hF0, hF1, hF2, hF5, hF6, hF7, hF8, hF16, hF20, hF21, hFp_87, hFp_90, e87, e90, P_pr, P_adI, den_s, den_c, Int.add_zero, List.map_cons, List.map_nil] at f0 f1 f2 f3 f5 f6 f7 f9 f10 f11 f12 f13 f14 f15 f16 f17 f18 f19 f20 f21 f22 f23 f24 f25 f26 f27 f28 ⊢
  have b9 : (1 : Int) ≤ ρ 9 ∧ ρ 9 ≤ 49 := hB 9 (1, 49) rfl
  have b10 : (0 : Int) ≤ ρ 10 ∧ ρ 10 ≤ 49 := hB 10 (0, 49) rfl
  have b11 : ((-2147483648) : Int) ≤ ρ 11 ∧ ρ 11 ≤ 2147483647 := hB 11 ((-2147483648), 2147483647) rfl
  have b12 : ((-2147483648) : Int) ≤ ρ 12 ∧ ρ 12 ≤ 2147483647 := hB 12 ((-2147483648), 2147483647) rfl
  have b14 : (0 : Int) ≤ ρ 14 ∧ ρ 14 ≤ 23 := hB 14 (0, 23) rfl
  have b15 : (0 : Int) ≤ ρ 15 ∧ ρ 15 ≤ 48 := hB 15 (0, 48) rfl
  have b16 : (0 : Int) ≤ ρ 16 ∧ ρ 16 ≤ 119 := hB 16 (0, 119) rfl
  have b17 : (5 : Int) ≤ ρ 17 ∧ ρ 17 ≤ 120 := hB 17 (5, 120) rfl
  have b18 : (0 : Int) ≤ ρ 18 ∧ ρ 18 ≤ 10 := hB 18 (0, 10) rfl
  have b19 : (0 : Int) ≤ ρ 19 ∧ ρ 19 ≤ 119 := hB 19 (0, 119) rfl
  have b20 : (2 : Int) ≤ ρ 20 ∧ ρ 20 ≤ 2 := hB 20 (2, 2) rfl
  have b21 : (1 : Int) ≤ ρ 21 ∧ ρ 21 ≤ 1 := hB 21 (1, 1) rfl
  have b22 : (0 : Int) ≤ ρ 22 ∧ ρ 22 ≤ 7 := hB 22 (0, 7) rfl
  have b23 : (2 : Int) ≤ ρ 23 ∧ ρ 23 ≤ 2 := hB 23 (2, 2) rfl
  have b24 : (0 : Int) ≤ ρ 24 ∧ ρ 24 ≤ 7 := hB 24 (0, 7) rfl
  have b25 : (0 : Int) ≤ ρ 25 ∧ ρ 25 ≤ 1 := hB 25 (0, 1) rfl
  have b26 : (0 : Int) ≤ ρ 26 ∧ ρ 26 ≤ 9 := hB 26 (0, 9) rfl
  have b27 : (0 : Int) ≤ ρ 27 ∧ ρ 27 ≤ 9 := hB 27 (0, 9) rfl
  have b28 : (0 : Int) ≤ ρ 28 ∧ ρ 28 ≤ 99 := hB 28 (0, 99) rfl
  have b29 : ((-11) : Int) ≤ ρ 29 ∧ ρ 29 ≤ (-1) := hB 29 ((-11), (-1)) rfl
  have b30 : ((-2147483648) : Int) ≤ ρ 30 ∧ ρ 30 ≤ 2147483647 := hB 30 ((-2147483648), 2147483647) rfl
  have b31 : ((-2147483648) : Int) ≤ ρ 31 ∧ ρ 31 ≤ 2147483647 := hB 31 ((-2147483648), 2147483647) rfl
  clear hB
  generalize ρ 9 = r9, ρ 10 = r10, ρ 11 = r11, ρ 12 = r12, ρ 14 = r14, ρ 15 = r15, ρ 16 = r16, ρ 17 = r17, ρ 18 = r18, ρ 19 = r19, ρ 20 = r20, ρ 21 = r21, ρ 22 = r22, ρ 23 = r23, ρ 24 = r24, ρ 25 = r25, ρ 26 = r26, ρ 27 = r27, ρ 28 = r28, ρ 29 = r29, ρ 30 = r30, ρ 31 = r31, α 7 = a7, α 8 = a8, α 10 = a10, α 11 = a11, α 16 = a16, α 20 = a20, α 21 = a21, α 24 = a24, α 25 = a25, α 26 = a26, α 27 = a27, α 28 = a28, α 29 = a29, α 30 = a30, α 58 = a58, α 59 = a59, α 60 = a60, α 61 = a61, α 62 = a62, α 63 = a63 at *
  subst f0
  subst f1
  subst f2
  subst f3
  subst f5
  subst f6
  subst f7
  subst f10
  subst f11
  subst f12
  subst f14
  subst f15
  subst f16
  subst f18
  subst f20
  subst f21
  subst f22
  subst f24
  subst f25
  refine adI_s f27 (by omega) (by omega) ?_
  have k : a26 r15 % 5 = 2 := by omega
  rw [acF_2 k]
  unfold faF shF gnF
  dsimp only
  ((repeat' split) <;> first | rfl | (exfalso; omega)))
def w_advance14_1_26 : VC := (([(0, 23), (0, 49), (0, 8), (0, 11), (0, 9), (0, 6), (0, 6), (0, 8), (0, 9), (1, 49), (0, 49), ((-2147483648), 2147483647), ((-2147483648), 2147483647), (0, 5), (0, 23), (0, 48), (0, 119), (5, 120), (0, 10), (0, 119), (2, 2), (1, 1), (0, 7), (2, 2), (0, 7), (2, 2), (0, 9), (0, 99), (0, 97), ((-2147483648), 2147483647), ((-2147483648), 2147483647)]), [(21, [(some 22, 0), (some 30, 0)], [63, 59]), (16, [(some 30, 0), (some 29, 0), (none, 1)], []), (20, [(some 29, 0), (some 22, 0)], [59]), (21, [(some 22, 0), (some 28, 0)], [62, 58]), (3, [(some 28, 0), (none, 0)], []), (5, [(some 28, 0), (some 27, 0), (some 26, 2)], []), (20, [(some 27, 0), (some 22, 0)], [58]), (0, [(some 25, 0), (none, 2)], []), (1, [(some 25, 0), (none, 1)], []), (20, [(some 26, 0), (some 18, 0)], [11]), (20, [(some 25, 0), (some 24, 0)], [7]), (20, [(some 24, 0), (some 18, 0)], [10]), (0, [(some 23, 0), (none, 2)], []), (20, [(some 23, 0), (some 22, 0)], [7]), (20, [(some 22, 0), (some 18, 0)], [10]), (21, [(some 18, 0), (none, 3)], [61, 60]), (0, [(some 21, 0), (none, 1)], []), (20, [(some 21, 0), (some 18, 0)], [60]), (0, [(some 20, 0), (none, 2)], []), (8, [(some 20, 0), (some 19, 0), (none, 5)], []), (20, [(some 19, 0), (some 15, 0)], [26]), (20, [(some 18, 0), (some 15, 0)], [27]), (2, [(some 16, 0), (some 17, 0)], []), (6, [(some 17, 0), (none, 5), (some 14, 1)], []), (20, [(some 16, 0), (some 15, 0)], [26]), (2, [(some 15, 0), (some 9, 0)], []), (90, [(some 10, 0), (some 15, 0), (some 9, 0), (some 14, 0), (some 11, 0), (some 12, 0)], [26, 27, 7, 8, 10, 11, 16, 20, 21, 24, 25, 28, 29, 30, 58, 59, 60]), (87, [(some 9, 0)], [26, 27])], (90, [(some 10, 0), (some 15, 1), (some 9, 0), (some 14, 0), (some 11, 0), (some 12, 0)], [26, 27, 7, 8, 10, 11, 16, 20, 21, 24, 25, 28, 29, 30, 62, 63, 61]))
set_option maxRecDepth 20000 in
theorem v_advance14_1_26 {PT : PTy} (hp : HP4 PT) : vcOk PT w_advance14_1_26 := vc_of (fun ρ α hB hF => by
  obtain ⟨f0, f1, f2, f3, -, f5, f6, f7, -, f9, f10, f11, f12, f13, f14, f15, f16, f17, f18, f19, f20, f21, f22, f23, f24, f25, f26, f27, -⟩ := hF
  have e87 : PT 87 = P_pr := hp.1.2.2.2.2.2.2.2.2.1
  have e90 : PT 90 = P_adI := hp.1.2.2.2.2.2.2.2.2.2.2.2.1
  simp only [hF0, hF2, hF5, hF6, hF8, hF16, hF20, hF21, hFp_87, hFp_90, e87, e90, P_pr, P_adI, den_s, den_c, Int.add_zero, List.map_cons, List.map_nil] at f0 f1 f2 f3 f5 f6 f7 f9 f10 f11 f12 f13 f14 f15 f16 f17 f18 f19 f20 f21 f22 f23 f24 f25 f26 f27 ⊢
  have b9 : (1 : Int) ≤ ρ 9 ∧ ρ 9 ≤ 49 := hB 9 (1, 49) rfl
  have b10 : (0 : Int) ≤ ρ 10 ∧ ρ 10 ≤ 49 := hB 10 (0, 49) rfl
  have b11 : ((-2147483648) : Int) ≤ ρ 11 ∧ ρ 11 ≤ 2147483647 := hB 11 ((-2147483648), 2147483647) rfl
  have b12 : ((-2147483648) : Int) ≤ ρ 12 ∧ ρ 12 ≤ 2147483647 := hB 12 ((-2147483648), 2147483647) rfl
  have b14 : (0 : Int) ≤ ρ 14 ∧ ρ 14 ≤ 23 := hB 14 (0, 23) rfl
  have b15 : (0 : Int) ≤ ρ 15 ∧ ρ 15 ≤ 48 := hB 15 (0, 48) rfl
  have b16 : (0 : Int) ≤ ρ 16 ∧ ρ 16 ≤ 119 := hB 16 (0, 119) rfl
  have b17 : (5 : Int) ≤ ρ 17 ∧ ρ 17 ≤ 120 := hB 17 (5, 120) rfl
  have b18 : (0 : Int) ≤ ρ 18 ∧ ρ 18 ≤ 10 := hB 18 (0, 10) rfl
  have b19 : (0 : Int) ≤ ρ 19 ∧ ρ 19 ≤ 119 := hB 19 (0, 119) rfl
  have b20 : (2 : Int) ≤ ρ 20 ∧ ρ 20 ≤ 2 := hB 20 (2, 2) rfl
  have b21 : (1 : Int) ≤ ρ 21 ∧ ρ 21 ≤ 1 := hB 21 (1, 1) rfl
  have b22 : (0 : Int) ≤ ρ 22 ∧ ρ 22 ≤ 7 := hB 22 (0, 7) rfl
  have b23 : (2 : Int) ≤ ρ 23 ∧ ρ 23 ≤ 2 := hB 23 (2, 2) rfl
  have b24 : (0 : Int) ≤ ρ 24 ∧ ρ 24 ≤ 7 := hB 24 (0, 7) rfl
  have b25 : (2 : Int) ≤ ρ 25 ∧ ρ 25 ≤ 2 := hB 25 (2, 2) rfl
  have b26 : (0 : Int) ≤ ρ 26 ∧ ρ 26 ≤ 9 := hB 26 (0, 9) rfl
  have b27 : (0 : Int) ≤ ρ 27 ∧ ρ 27 ≤ 99 := hB 27 (0, 99) rfl
  have b28 : (0 : Int) ≤ ρ 28 ∧ ρ 28 ≤ 97 := hB 28 (0, 97) rfl
  have b29 : ((-2147483648) : Int) ≤ ρ 29 ∧ ρ 29 ≤ 2147483647 := hB 29 ((-2147483648), 2147483647) rfl
  have b30 : ((-2147483648) : Int) ≤ ρ 30 ∧ ρ 30 ≤ 2147483647 := hB 30 ((-2147483648), 2147483647) rfl
  clear hB
  generalize ρ 9 = r9, ρ 10 = r10, ρ 11 = r11, ρ 12 = r12, ρ 14 = r14, ρ 15 = r15, ρ 16 = r16, ρ 17 = r17, ρ 18 = r18, ρ 19 = r19, ρ 20 = r20, ρ 21 = r21, ρ 22 = r22, ρ 23 = r23, ρ 24 = r24, ρ 25 = r25, ρ 26 = r26, ρ 27 = r27, ρ 28 = r28, ρ 29 = r29, ρ 30 = r30, α 7 = a7, α 8 = a8, α 10 = a10, α 11 = a11, α 16 = a16, α 20 = a20, α 21 = a21, α 24 = a24, α 25 = a25, α 26 = a26, α 27 = a27, α 28 = a28, α 29 = a29, α 30 = a30, α 58 = a58, α 59 = a59, α 60 = a60, α 61 = a61, α 62 = a62, α 63 = a63 at *
  subst f0
  subst f1
  subst f2
  subst f3
  subst f5
  subst f6
  subst f9
  subst f10
  subst f11
  subst f13
  subst f14
  subst f15
  subst f17
  subst f19
  subst f20
  subst f21
  subst f23
  subst f24
  refine adI_s f26 (by omega) (by omega) ?_
  have k : a26 r15 % 5 = 2 := by omega
  rw [acF_2 k]
  unfold faF shF gnF
  dsimp only
  ((repeat' split) <;> first | rfl | (exfalso; omega)))
def w_advance14_1_27 : VC := (([(0, 23), (0, 49), (0, 8), (0, 11), (0, 9), (0, 6), (0, 6), (0, 8), (0, 9), (1, 49), (0, 49), ((-2147483648), 2147483647), ((-2147483648), 2147483647), (0, 5), (0, 23), (0, 48), (0, 119), (5, 120), (0, 10), (0, 119), (2, 2), (1, 1), (0, 7), (2, 2), (0, 7), (2, 2), (0, 9), (0, 99), ((-11), (-1)), ((-2147483648), 2147483647), ((-2147483648), 2147483647)]), [(21, [(some 22, 0), (some 30, 0)], [63, 59]), (16, [(some 30, 0), (some 29, 0), (none, 1)], []), (20, [(some 29, 0), (some 22, 0)], [59]), (21, [(some 22, 0), (none, 0)], [62, 58]), (2, [(some 28, 0), (none, 0)], []), (5, [(some 28, 0), (some 27, 0), (some 26, 2)], []), (20, [(some 27, 0), (some 22, 0)], [58]), (0, [(some 25, 0), (none, 2)], []), (1, [(some 25, 0), (none, 1)], []), (20, [(some 26, 0), (some 18, 0)], [11]), (20, [(some 25, 0), (some 24, 0)], [7]), (20, [(some 24, 0), (some 18, 0)], [10]), (0, [(some 23, 0), (none, 2)], []), (20, [(some 23, 0), (some 22, 0)], [7]), (20, [(some 22, 0), (some 18, 0)], [10]), (21, [(some 18, 0), (none, 3)], [61, 60]), (0, [(some 21, 0), (none, 1)], []), (20, [(some 21, 0), (some 18, 0)], [60]), (0, [(some 20, 0), (none, 2)], []), (8, [(some 20, 0), (some 19, 0), (none, 5)], []), (20, [(some 19, 0), (some 15, 0)], [26]), (20, [(some 18, 0), (some 15, 0)], [27]), (2, [(some 16, 0), (some 17, 0)], []), (6, [(some 17, 0), (none, 5), (some 14, 1)], []), (20, [(some 16, 0), (some 15, 0)], [26]), (2, [(some 15, 0), (some 9, 0)], []), (90, [(some 10, 0), (some 15, 0), (some 9, 0), (some 14, 0), (some 11, 0), (some 12, 0)], [26, 27, 7, 8, 10, 11, 16, 20, 21, 24, 25, 28, 29, 30, 58, 59, 60]), (87, [(some 9, 0)], [26, 27])], (90, [(some 10, 0), (some 15, 1), (some 9, 0), (some 14, 0), (some 11, 0), (some 12, 0)], [26, 27, 7, 8, 10, 11, 16, 20, 21, 24, 25, 28, 29, 30, 62, 63, 61]))
set_option maxRecDepth 20000 in
theorem v_advance14_1_27 {PT : PTy} (hp : HP4 PT) : vcOk PT w_advance14_1_27 := vc_of (fun ρ α hB hF => by
  obtain ⟨f0, f1, f2, f3, -, f5, f6, f7, -, f9, f10, f11, f12, f13, f14, f15, f16, f17, f18, f19, f20, f21, f22, f23, f24, f25, f26, f27, -⟩ := hF
  have e87 : PT 87 = P_pr := hp.1.2.2.2.2.2.2.2.2.1
  have e90 : PT 90 = P_adI := hp.1.2.2.2.2.2.2.2.2.2.2.2.1
  simp only [hF0, hF2, hF5, hF6, hF8, hF16, hF20, hF21, hFp_87, hFp_90, e87, e90, P_pr, P_adI, den_s, den_c, Int.add_zero, List.map_cons, List.map_nil] at f0 f1 f2 f3 f5 f6 f7 f9 f10 f11 f12 f13 f14 f15 f16 f17 f18 f19 f20 f21 f22 f23 f24 f25 f26 f27 ⊢
  have b9 : (1 : Int) ≤ ρ 9 ∧ ρ 9 ≤ 49 := hB 9 (1, 49) rfl
  have b10 : (0 : Int) ≤ ρ 10 ∧ ρ 10 ≤ 49 := hB 10 (0, 49) rfl
  have b11 : ((-2147483648) : Int) ≤ ρ 11 ∧ ρ 11 ≤ 2147483647 := hB 11 ((-2147483648), 2147483647) rfl
  have b12 : ((-2147483648) : Int) ≤ ρ 12 ∧ ρ 12 ≤ 2147483647 := hB 12 ((-2147483648), 2147483647) rfl
  have b14 : (0 : Int) ≤ ρ 14 ∧ ρ 14 ≤ 23 := hB 14 (0, 23) rfl
  have b15 : (0 : Int) ≤ ρ 15 ∧ ρ 15 ≤ 48 := hB 15 (0, 48) rfl
  have b16 : (0 : Int) ≤ ρ 16 ∧ ρ 16 ≤ 119 := hB 16 (0, 119) rfl
  have b17 : (5 : Int) ≤ ρ 17 ∧ ρ 17 ≤ 120 := hB 17 (5, 120) rfl
  have b18 : (0 : Int) ≤ ρ 18 ∧ ρ 18 ≤ 10 := hB 18 (0, 10) rfl
  have b19 : (0 : Int) ≤ ρ 19 ∧ ρ 19 ≤ 119 := hB 19 (0, 119) rfl
  have b20 : (2 : Int) ≤ ρ 20 ∧ ρ 20 ≤ 2 := hB 20 (2, 2) rfl
  have b21 : (1 : Int) ≤ ρ 21 ∧ ρ 21 ≤ 1 := hB 21 (1, 1) rfl
  have b22 : (0 : Int) ≤ ρ 22 ∧ ρ 22 ≤ 7 := hB 22 (0, 7) rfl
  have b23 : (2 : Int) ≤ ρ 23 ∧ ρ 23 ≤ 2 := hB 23 (2, 2) rfl
  have b24 : (0 : Int) ≤ ρ 24 ∧ ρ 24 ≤ 7 := hB 24 (0, 7) rfl
  have b25 : (2 : Int) ≤ ρ 25 ∧ ρ 25 ≤ 2 := hB 25 (2, 2) rfl
  have b26 : (0 : Int) ≤ ρ 26 ∧ ρ 26 ≤ 9 := hB 26 (0, 9) rfl
  have b27 : (0 : Int) ≤ ρ 27 ∧ ρ 27 ≤ 99 := hB 27 (0, 99) rfl
  have b28 : ((-11) : Int) ≤ ρ 28 ∧ ρ 28 ≤ (-1) := hB 28 ((-11), (-1)) rfl
  have b29 : ((-2147483648) : Int) ≤ ρ 29 ∧ ρ 29 ≤ 2147483647 := hB 29 ((-2147483648), 2147483647) rfl
  have b30 : ((-2147483648) : Int) ≤ ρ 30 ∧ ρ 30 ≤ 2147483647 := hB 30 ((-2147483648), 2147483647) rfl
  clear hB
  generalize ρ 9 = r9, ρ 10 = r10, ρ 11 = r11, ρ 12 = r12, ρ 14 = r14, ρ 15 = r15, ρ 16 = r16, ρ 17 = r17, ρ 18 = r18, ρ 19 = r19, ρ 20 = r20, ρ 21 = r21, ρ 22 = r22, ρ 23 = r23, ρ 24 = r24, ρ 25 = r25, ρ 26 = r26, ρ 27 = r27, ρ 28 = r28, ρ 29 = r29, ρ 30 = r30, α 7 = a7, α 8 = a8, α 10 = a10, α 11 = a11, α 16 = a16, α 20 = a20, α 21 = a21, α 24 = a24, α 25 = a25, α 26 = a26, α 27 = a27, α 28 = a28, α 29 = a29, α 30 = a30, α 58 = a58, α 59 = a59, α 60 = a60, α 61 = a61, α 62 = a62, α 63 = a63 at *
  subst f0
  subst f1
  subst f2
  subst f3
  subst f5
  subst f6
  subst f9
  subst f10
  subst f11
  subst f13
  subst f14
  subst f15
  subst f17
  subst f19
  subst f20
  subst f21
  subst f23
  subst f24
  refine adI_s f26 (by omega) (by omega) ?_
  have k : a26 r15 % 5 = 2 := by omega
  rw [acF_2 k]
  unfold faF shF gnF
  dsimp only
  ((repeat' split) <;> first | rfl | (exfalso; omega)))
def w_advance14_1_28 : VC := (([(0, 23), (0, 49), (0, 8), (0, 11), (0, 9), (0, 6), (0, 6), (0, 8), (0, 9), (1, 49), (0, 49), ((-2147483648), 2147483647), ((-2147483648), 2147483647), (0, 5), (0, 23), (0, 48), (0, 119), (5, 120), (0, 10), (0, 119), (2, 2), (1, 1), (0, 7), (2, 2), (0, 7), (1, 1), (0, 9), (0, 18), (0, 99), (0, 97), ((-2147483648), 2147483647), ((-2147483648), 2147483647)]), [(21, [(some 22, 0), (some 31, 0)], [63, 59]), (16, [(some 31, 0), (some 30, 0), (none, 1)], []), (20, [(some 30, 0), (some 22, 0)], [59]), (21, [(some 22, 0), (some 29, 0)], [62, 58]), (3, [(some 29, 0), (none, 0)], []), (5, [(some 29, 0), (some 28, 0), (some 27, 2)], []), (20, [(some 28, 0), (some 22, 0)], [58]), (6, [(some 27, 0), (none, 2), (some 26, 0)], []), (0, [(some 25, 0), (none, 1)], []), (20, [(some 26, 0), (some 18, 0)], [11]), (20, [(some 25, 0), (some 24, 0)], [7]), (20, [(some 24, 0), (some 18, 0)], [10]), (0, [(some 23, 0), (none, 2)], []), (20, [(some 23, 0), (some 22, 0)], [7]), (20, [(some 22, 0), (some 18, 0)], [10]), (21, [(some 18, 0), (none, 3)], [61, 60]), (0, [(some 21, 0), (none, 1)], []), (20, [(some 21, 0), (some 18, 0)], [60]), (0, [(some 20, 0), (none, 2)], []), (8, [(some 20, 0), (some 19, 0), (none, 5)], []), (20, [(some 19, 0), (some 15, 0)], [26]), (20, [(some 18, 0), (some 15, 0)], [27]), (2, [(some 16, 0), (some 17, 0)], []), (6, [(some 17, 0), (none, 5), (some 14, 1)], []), (20, [(some 16, 0), (some 15, 0)], [26]), (2, [(some 15, 0), (some 9, 0)], []), (90, [(some 10, 0), (some 15, 0), (some 9, 0), (some 14, 0), (some 11, 0), (some 12, 0)], [26, 27, 7, 8, 10, 11, 16, 20, 21, 24, 25, 28, 29, 30, 58, 59, 60]), (87, [(some 9, 0)], [26, 27])], (90, [(some 10, 0), (some 15, 1), (some 9, 0), (some 14, 0), (some 11, 0), (some 12, 0)], [26, 27, 7, 8, 10, 11, 16, 20, 21, 24, 25, 28, 29, 30, 62, 63, 61]))
set_option maxRecDepth 20000 in
theorem v_advance14_1_28 {PT : PTy} (hp : HP4 PT) : vcOk PT w_advance14_1_28 := vc_of (fun ρ α hB hF => by
  obtain ⟨f0, f1, f2, f3, -, f5, f6, f7, f8, f9, f10, f11, f12, f13, f14, f15, f16, f17, f18, f19, f20, f21, f22, f23, f24, f25, f26, f27, -⟩ := hF
  have e87 : PT 87 = P_pr := hp.1.2.2.2.2.2.2.2.2.1
  have e90 : PT 90 = P_adI := hp.1.2.2.2.2.2.2.2.2.2.2.2.1
  simp only [hF0, hF2, hF5, hF6, hF8, hF16, hF20, hF21, hFp_87, hFp_90, e87, e90, P_pr, P_adI, den_s, den_c, Int.add_zero, List.map_cons, List.map_nil] at f0 f1 f2 f3 f5 f6 f7 f8 f9 f10 f11 f12 f13 f14 f15 f16 f17 f18 f19 f20 f21 f22 f23 f24 f25 f26 f27 ⊢
  have b9 : (1 : Int) ≤ ρ 9 ∧ ρ 9 ≤ 49 := hB 9 (1, 49) rfl
  have b10 : (0 : Int) ≤ ρ 10 ∧ ρ 10 ≤ 49 := hB 10 (0, 49) rfl
  have b11 : ((-2147483648) : Int) ≤ ρ 11 ∧ ρ 11 ≤ 2147483647 := hB 11 ((-2147483648), 2147483647) rfl
  have b12 : ((-2147483648) : Int) ≤ ρ 12 ∧ ρ 12 ≤ 2147483647 := hB 12 ((-2147483648), 2147483647) rfl
  have b14 : (0 : Int) ≤ ρ 14 ∧ ρ 14 ≤ 23 := hB 14 (0, 23) rfl
  have b15 : (0 : Int) ≤ ρ 15 ∧ ρ 15 ≤ 48 := hB 15 (0, 48) rfl
  have b16 : (0 : Int) ≤ ρ 16 ∧ ρ 16 ≤ 119 := hB 16 (0, 119) rfl
  have b17 : (5 : Int) ≤ ρ 17 ∧ ρ 17 ≤ 120 := hB 17 (5, 120) rfl
  have b18 : (0 : Int) ≤ ρ 18 ∧ ρ 18 ≤ 10 := hB 18 (0, 10) rfl
  have b19 : (0 : Int) ≤ ρ 19 ∧ ρ 19 ≤ 119 := hB 19 (0, 119) rfl
  have b20 : (2 : Int) ≤ ρ 20 ∧ ρ 20 ≤ 2 := hB 20 (2, 2) rfl
  have b21 : (1 : Int) ≤ ρ 21 ∧ ρ 21 ≤ 1 := hB 21 (1, 1) rfl
  have b22 : (0 : Int) ≤ ρ 22 ∧ ρ 22 ≤ 7 := hB 22 (0, 7) rfl
  have b23 : (2 : Int) ≤ ρ 23 ∧ ρ 23 ≤ 2 := hB 23 (2, 2) rfl
  have b24 : (0 : Int) ≤ ρ 24 ∧ ρ 24 ≤ 7 := hB 24 (0, 7) rfl
  have b25 : (1 : Int) ≤ ρ 25 ∧ ρ 25 ≤ 1 := hB 25 (1, 1) rfl
  have b26 : (0 : Int) ≤ ρ 26 ∧ ρ 26 ≤ 9 := hB 26 (0, 9) rfl
  have b27 : (0 : Int) ≤ ρ 27 ∧ ρ 27 ≤ 18 := hB 27 (0, 18) rfl
  have b28 : (0 : Int) ≤ ρ 28 ∧ ρ 28 ≤ 99 := hB 28 (0, 99) rfl
  have b29 : (0 : Int) ≤ ρ 29 ∧ ρ 29 ≤ 97 := hB 29 (0, 97) rfl
  have b30 : ((-2147483648) : Int) ≤ ρ 30 ∧ ρ 30 ≤ 2147483647 := hB 30 ((-2147483648), 2147483647) rfl
  have b31 : ((-2147483648) : Int) ≤ ρ 31 ∧ ρ 31 ≤ 2147483647 := hB 31 ((-2147483648), 2147483647) rfl
  clear hB
  generalize ρ 9 = r9, ρ 10 = r10, ρ 11 = r11, ρ 12 = r12, ρ 14 = r14, ρ 15 = r15, ρ 16 = r16, ρ 17 = r17, ρ 18 = r18, ρ 19 = r19, ρ 20 = r20, ρ 21 = r21, ρ 22 = r22, ρ 23 = r23, ρ 24 = r24, ρ 25 = r25, ρ 26 = r26, ρ 27 = r27, ρ 28 = r28, ρ 29 = r29, ρ 30 = r30, ρ 31 = r31, α 7 = a7, α 8 = a8, α 10 = a10, α 11 = a11, α 16 = a16, α 20 = a20, α 21 = a21, α 24 = a24, α 25 = a25, α 26 = a26, α 27 = a27, α 28 = a28, α 29 = a29, α 30 = a30, α 58 = a58, α 59 = a59, α 60 = a60, α 61 = a61, α 62 = a62, α 63 = a63 at *
  subst f0
  subst f1
  subst f2
  subst f3
  subst f5
  subst f6
  subst f7
  subst f9
  subst f10
  subst f11
  subst f13
  subst f14
  subst f15
  subst f17
  subst f19
  subst f20
  subst f21
  subst f23
  subst f24
  refine adI_s f26 (by omega) (by omega) ?_
  have k : a26 r15 % 5 = 2 := by omega
  rw [acF_2 k]
  unfold faF shF gnF
  dsimp only
  ((repeat' split) <;> first | rfl | (exfalso; omega)))
def w_advance14_1_29 : VC := (([(0, 23), (0, 49), (0, 8), (0, 11), (0, 9), (0, 6), (0, 6), (0, 8), (0, 9), (1, 49), (0, 49), ((-2147483648), 2147483647), ((-2147483648), 2147483647), (0, 5), (0, 23), (0, 48), (0, 119), (5, 120), (0, 10), (0, 119), (2, 2), (1, 1), (0, 7), (2, 2), (0, 7), (1, 1), (0, 9), (0, 18), (0, 99), ((-20), (-1)), ((-2147483648), 2147483647), ((-2147483648), 2147483647)]), [(21, [(some 22, 0), (some 31, 0)], [63, 59]), (16, [(some 31, 0), (some 30, 0), (none, 1)], []), (20, [(some 30, 0), (some 22, 0)], [59]), (21, [(some 22, 0), (none, 0)], [62, 58]), (2, [(some 29, 0), (none, 0)], []), (5, [(some 29, 0), (some 28, 0), (some 27, 2)], []), (20, [(some 28, 0), (some 22, 0)], [58]), (6, [(some 27, 0), (none, 2), (some 26, 0)], []), (0, [(some 25, 0), (none, 1)], []), (20, [(some 26, 0), (some 18, 0)], [11]), (20, [(some 25, 0), (some 24, 0)], [7]), (20, [(some 24, 0), (some 18, 0)], [10]), (0, [(some 23, 0), (none, 2)], []), (20, [(some 23, 0), (some 22, 0)], [7]), (20, [(some 22, 0), (some 18, 0)], [10]), (21, [(some 18, 0), (none, 3)], [61, 60]), (0, [(some 21, 0), (none, 1)], []), (20, [(some 21, 0), (some 18, 0)], [60]), (0, [(some 20, 0), (none, 2)], []), (8, [(some 20, 0), (some 19, 0), (none, 5)], []), (20, [(some 19, 0), (some 15, 0)], [26]), (20, [(some 18, 0), (some 15, 0)], [27]), (2, [(some 16, 0), (some 17, 0)], []), (6, [(some 17, 0), (none, 5), (some 14, 1)], []), (20, [(some 16, 0), (some 15, 0)], [26]), (2, [(some 15, 0), (some 9, 0)], []), (90, [(some 10, 0), (some 15, 0), (some 9, 0), (some 14, 0), (some 11, 0), (some 12, 0)], [26, 27, 7, 8, 10, 11, 16, 20, 21, 24, 25, 28, 29, 30, 58, 59, 60]), (87, [(some 9, 0)], [26, 27])], (90, [(some 10, 0), (some 15, 1), (some 9, 0), (some 14, 0), (some 11, 0), (some 12, 0)], [26, 27, 7, 8, 10, 11, 16, 20, 21, 24, 25, 28, 29, 30, 62, 63, 61]))
set_option maxRecDepth 20000 in
theorem v_advance14_1_29 {PT : PTy} (hp : HP4 PT) : vcOk PT w_advance14_1_29 := vc_of (fun ρ α hB hF => by
  obtain ⟨f0, f1, f2, f3, -, f5, f6, f7, f8, f9, f10, f11, f12, f13, f14, f15, f16, f17, f18, f19, f20, f21, f22, f23, f24, f25, f26, f27, -⟩ := hF
  have e87 : PT 87 = P_pr := hp.1.2.2.2.2.2.2.2.2.1
  have e90 : PT 90 = P_adI := hp.1.2.2.2.2.2.2.2.2.2.2.2.1
  simp only [hF0, hF2, hF5, hF6, hF8, hF16, hF20, hF21, hFp_87, hFp_90, e87, e90, P_pr, P_adI, den_s, den_c, Int.add_zero, List.map_cons, List.map_nil] at f0 f1 f2 f3 f5 f6 f7 f8 f9 f10 f11 f12 f13 f14 f15 f16 f17 f18 f19 f20 f21 f22 f23 f24 f25 f26 f27 ⊢
  have b9 : (1 : Int) ≤ ρ 9 ∧ ρ 9 ≤ 49 := hB 9 (1, 49) rfl
  have b10 : (0 : Int) ≤ ρ 10 ∧ ρ 10 ≤ 49 := hB 10 (0, 49) rfl
  have b11 : ((-2147483648) : Int) ≤ ρ 11 ∧ ρ 11 ≤ 2147483647 := hB 11 ((-2147483648), 2147483647) rfl
  have b12 : ((-2147483648) : Int) ≤ ρ 12 ∧ ρ 12 ≤ 2147483647 := hB 12 ((-2147483648), 2147483647) rfl
  have b14 : (0 : Int) ≤ ρ 14 ∧ ρ 14 ≤ 23 := hB 14 (0, 23) rfl
  have b15 : (0 : Int) ≤ ρ 15 ∧ ρ 15 ≤ 48 := hB 15 (0, 48) rfl
  have b16 : (0 : Int) ≤ ρ 16 ∧ ρ 16 ≤ 119 := hB 16 (0, 119) rfl
  have b17 : (5 : Int) ≤ ρ 17 ∧ ρ 17 ≤ 120 := hB 17 (5, 120) rfl
  have b18 : (0 : Int) ≤ ρ 18 ∧ ρ 18 ≤ 10 := hB 18 (0, 10) rfl
  have b19 : (0 : Int) ≤ ρ 19 ∧ ρ 19 ≤ 119 := hB 19 (0, 119) rfl
  have b20 : (2 : Int) ≤ ρ 20 ∧ ρ 20 ≤ 2 := hB 20 (2, 2) rfl
  have b21 : (1 : Int) ≤ ρ 21 ∧ ρ 21 ≤ 1 := hB 21 (1, 1) rfl
  have b22 : (0 : Int) ≤ ρ 22 ∧ ρ 22 ≤ 7 := hB 22 (0, 7) rfl
  have b23 : (2 : Int) ≤ ρ 23 ∧ ρ 23 ≤ 2 := hB 23 (2, 2) rfl
  have b24 : (0 : Int) ≤ ρ 24 ∧ ρ 24 ≤ 7 := hB 24 (0, 7) rfl
  have b25 : (1 : Int) ≤ ρ 25 ∧ ρ 25 ≤ 1 := hB 25 (1, 1) rfl
  have b26 : (0 : Int) ≤ ρ 26 ∧ ρ 26 ≤ 9 := hB 26 (0, 9) rfl
  have b27 : (0 : Int) ≤ ρ 27 ∧ ρ 27 ≤ 18 := hB 27 (0, 18) rfl
  have b28 : (0 : Int) ≤ ρ 28 ∧ ρ 28 ≤ 99 := hB 28 (0, 99) rfl
  have b29 : ((-20) : Int) ≤ ρ 29 ∧ ρ 29 ≤ (-1) := hB 29 ((-20), (-1)) rfl
  have b30 : ((-2147483648) : Int) ≤ ρ 30 ∧ ρ 30 ≤ 2147483647 := hB 30 ((-2147483648), 2147483647) rfl
  have b31 : ((-2147483648) : Int) ≤ ρ 31 ∧ ρ 31 ≤ 2147483647 := hB 31 ((-2147483648), 2147483647) rfl
  clear hB
  generalize ρ 9 = r9, ρ 10 = r10, ρ 11 = r11, ρ 12 = r12, ρ 14 = r14, ρ 15 = r15, ρ 16 = r16, ρ 17 = r17, ρ 18 = r18, ρ 19 = r19, ρ 20 = r20, ρ 21 = r21, ρ 22 = r22, ρ 23 = r23, ρ 24 = r24, ρ 25 = r25, ρ 26 = r26, ρ 27 = r27, ρ 28 = r28, ρ 29 = r29, ρ 30 = r30, ρ 31 = r31, α 7 = a7, α 8 = a8, α 10 = a10, α 11 = a11, α 16 = a16, α 20 = a20, α 21 = a21, α 24 = a24, α 25 = a25, α 26 = a26, α 27 = a27, α 28 = a28, α 29 = a29, α 30 = a30, α 58 = a58, α 59 = a59, α 60 = a60, α 61 = a61, α 62 = a62, α 63 = a63 at *
  subst f0
  subst f1
  subst f2
  subst f3
  subst f5
  subst f6
  subst f7
  subst f9
  subst f10
  subst f11
  subst f13
  subst f14
  subst f15
  subst f17
  subst f19
  subst f20
  subst f21
  subst f23
  subst f24
  refine adI_s f26 (by omega) (by omega) ?_
  have k : a26 r15 % 5 = 2 := by omega
  rw [acF_2 k]
  unfold faF shF gnF
  dsimp only
  ((repeat' split) <;> first | rfl | (exfalso; omega)))
def w_advance14_1_30 : VC := (([(0, 23), (0, 49), (0, 8), (0, 11), (0, 9), (0, 6), (0, 6), (0, 8), (0, 9), (1, 49), (0, 49), ((-2147483648), 2147483647), ((-2147483648), 2147483647), (0, 5), (0, 23), (0, 48), (0, 119), (5, 120), (0, 10), (0, 119), (2, 2), (0, 3)]), [(1, [(some 21, 0), (none, 1)], []), (20, [(some 21, 0), (some 18, 0)], [60]), (0, [(some 20, 0), (none, 2)], []), (8, [(some 20, 0), (some 19, 0), (none, 5)], []), (20, [(some 19, 0), (some 15, 0)], [26]), (20, [(some 18, 0), (some 15, 0)], [27]), (2, [(some 16, 0), (some 17, 0)], []), (6, [(some 17, 0), (none, 5), (some 14, 1)], []), (20, [(some 16, 0), (some 15, 0)], [26]), (2, [(some 15, 0), (some 9, 0)], []), (90, [(some 10, 0), (some 15, 0), (some 9, 0), (some 14, 0), (some 11, 0), (some 12, 0)], [26, 27, 7, 8, 10, 11, 16, 20, 21, 24, 25, 28, 29, 30, 58, 59, 60]), (87, [(some 9, 0)], [26, 27])], (90, [(some 10, 0), (some 15, 1), (some 9, 0), (some 14, 0), (some 11, 0), (some 12, 0)], [26, 27, 7, 8, 10, 11, 16, 20, 21, 24, 25, 28, 29, 30, 58, 59, 60]))
set_option maxRecDepth 20000 in
theorem v_advance14_1_30 {PT : PTy} (hp : HP4 PT) : vcOk PT w_advance14_1_30 := vc_of (fun ρ α hB hF => by
  obtain ⟨f0, f1, f2, f3, f4, f5, f6, f7, f8, f9, f10, f11, -⟩ := hF
  have e87 : PT 87 = P_pr := hp.1.2.2.2.2.2.2.2.2.1
  have e90 : PT 90 = P_adI := hp.1.2.2.2.2.2.2.2.2.2.2.2.1
  simp only [hF0, hF1, hF2, hF6, hF8, hF20, hFp_87, hFp_90, e87, e90, P_pr, P_adI, den_s, den_c, Int.add_zero, List.map_cons, List.map_nil] at f0 f1 f2 f3 f4 f5 f6 f7 f8 f9 f10 f11 ⊢
  have b9 : (1 : Int) ≤ ρ 9 ∧ ρ 9 ≤ 49 := hB 9 (1, 49) rfl
  have b10 : (0 : Int) ≤ ρ 10 ∧ ρ 10 ≤ 49 := hB 10 (0, 49) rfl
  have b11 : ((-2147483648) : Int) ≤ ρ 11 ∧ ρ 11 ≤ 2147483647 := hB 11 ((-2147483648), 2147483647) rfl
  have b12 : ((-2147483648) : Int) ≤ ρ 12 ∧ ρ 12 ≤ 2147483647 := hB 12 ((-2147483648), 2147483647) rfl
  have b14 : (0 : Int) ≤ ρ 14 ∧ ρ 14 ≤ 23 := hB 14 (0, 23) rfl
  have b15 : (0 : Int) ≤ ρ 15 ∧ ρ 15 ≤ 48 := hB 15 (0, 48) rfl
  have b16 : (0 : Int) ≤ ρ 16 ∧ ρ 16 ≤ 119 := hB 16 (0, 119) rfl
  have b17 : (5 : Int) ≤ ρ 17 ∧ ρ 17 ≤ 120 := hB 17 (5, 120) rfl
  have b18 : (0 : Int) ≤ ρ 18 ∧ ρ 18 ≤ 10 := hB 18 (0, 10) rfl
  have b19 : (0 : Int) ≤ ρ 19 ∧ ρ 19 ≤ 119 := hB 19 (0, 119) rfl
  have b20 : (2 : Int) ≤ ρ 20 ∧ ρ 20 ≤ 2 := hB 20 (2, 2) rfl
  have b21 : (0 : Int) ≤ ρ 21 ∧ ρ 21 ≤ 3 := hB 21 (0, 3) rfl
  clear hB
  generalize ρ 9 = r9, ρ 10 = r10, ρ 11 = r11, ρ 12 = r12, ρ 14 = r14, ρ 15 = r15, ρ 16 = r16, ρ 17 = r17, ρ 18 = r18, ρ 19 = r19, ρ 20 = r20, ρ 21 = r21, α 7 = a7, α 8 = a8, α 10 = a10, α 11 = a11, α 16 = a16, α 20 = a20, α 21 = a21, α 24 = a24, α 25 = a25, α 26 = a26, α 27 = a27, α 28 = a28, α 29 = a29, α 30 = a30, α 58 = a58, α 59 = a59, α 60 = a60 at *
  subst f1
  subst f3
  subst f4
  subst f5
  subst f7
  subst f8
  refine adI_s f10 (by omega) (by omega) ?_
  have k : a26 r15 % 5 = 2 := by omega
  rw [acF_2 k]
  unfold faF shF gnF
  dsimp only
  ((repeat' split) <;> first | rfl | (exfalso; omega)))
def w_advance14_1_31 : VC := (([(0, 23), (0, 49), (0, 8), (0, 11), (0, 9), (0, 6), (0, 6), (0, 8), (0, 9), (1, 49), (0, 49), ((-2147483648), 2147483647), ((-2147483648), 2147483647), (0, 5), (0, 23), (0, 48), (0, 119), (5, 120), (0, 10), (0, 119), (3, 3), ((-2147483648), 2147483647), ((-2147483648), 2147483647)]), [(1, [(some 22, 0), (none, 0)], []), (10, [(some 22, 0), (some 21, 0), (none, 1)], []), (14, [(some 21, 0), (some 12, 0), (some 18, 0)], []), (0, [(some 20, 0), (none, 3)], []), (8, [(some 20, 0), (some 19, 0), (none, 5)], []), (20, [(some 19, 0), (some 15, 0)], [26]), (20, [(some 18, 0), (some 15, 0)], [27]), (2, [(some 16, 0), (some 17, 0)], []), (6, [(some 17, 0), (none, 5), (some 14, 1)], []), (20, [(some 16, 0), (some 15, 0)], [26]), (2, [(some 15, 0), (some 9, 0)], []), (90, [(some 10, 0), (some 15, 0), (some 9, 0), (some 14, 0), (some 11, 0), (some 12, 0)], [26, 27, 7, 8, 10, 11, 16, 20, 21, 24, 25, 28, 29, 30, 58, 59, 60]), (87, [(some 9, 0)], [26, 27])], (90, [(some 10, 0), (some 15, 1), (some 9, 0), (some 14, 0), (some 11, 0), (some 12, 0)], [26, 27, 7, 8, 10, 11, 16, 20, 21, 24, 25, 28, 29, 30, 58, 59, 60]))
set_option maxRecDepth 20000 in
theorem v_advance14_1_31 {PT : PTy} (hp : HP4 PT) : vcOk PT w_advance14_1_31 := vc_of (fun ρ α hB hF => by
  obtain ⟨f0, f1, f2, f3, f4, f5, f6, f7, f8, f9, f10, f11, f12, -⟩ := hF
  have e87 : PT 87 = P_pr := hp.1.2.2.2.2.2.2.2.2.1
  have e90 : PT 90 = P_adI := hp.1.2.2.2.2.2.2.2.2.2.2.2.1
  simp only [hF0, hF1, hF2, hF6, hF8, hF10, hF14, hF20, hFp_87, hFp_90, e87, e90, P_pr, P_adI, den_s, den_c, Int.add_zero, List.map_cons, List.map_nil] at f0 f1 f2 f3 f4 f5 f6 f7 f8 f9 f10 f11 f12 ⊢
  have b9 : (1 : Int) ≤ ρ 9 ∧ ρ 9 ≤ 49 := hB 9 (1, 49) rfl
  have b10 : (0 : Int) ≤ ρ 10 ∧ ρ 10 ≤ 49 := hB 10 (0, 49) rfl
  have b11 : ((-2147483648) : Int) ≤ ρ 11 ∧ ρ 11 ≤ 2147483647 := hB 11 ((-2147483648), 2147483647) rfl
  have b12 : ((-2147483648) : Int) ≤ ρ 12 ∧ ρ 12 ≤ 2147483647 := hB 12 ((-2147483648), 2147483647) rfl
  have b14 : (0 : Int) ≤ ρ 14 ∧ ρ 14 ≤ 23 := hB 14 (0, 23) rfl
  have b15 : (0 : Int) ≤ ρ 15 ∧ ρ 15 ≤ 48 := hB 15 (0, 48) rfl
  have b16 : (0 : Int) ≤ ρ 16 ∧ ρ 16 ≤ 119 := hB 16 (0, 119) rfl
  have b17 : (5 : Int) ≤ ρ 17 ∧ ρ 17 ≤ 120 := hB 17 (5, 120) rfl
  have b18 : (0 : Int) ≤ ρ 18 ∧ ρ 18 ≤ 10 := hB 18 (0, 10) rfl
  have b19 : (0 : Int) ≤ ρ 19 ∧ ρ 19 ≤ 119 := hB 19 (0, 119) rfl
  have b20 : (3 : Int) ≤ ρ 20 ∧ ρ 20 ≤ 3 := hB 20 (3, 3) rfl
  have b21 : ((-2147483648) : Int) ≤ ρ 21 ∧ ρ 21 ≤ 2147483647 := hB 21 ((-2147483648), 2147483647) rfl
  have b22 : ((-2147483648) : Int) ≤ ρ 22 ∧ ρ 22 ≤ 2147483647 := hB 22 ((-2147483648), 2147483647) rfl
  clear hB
  generalize ρ 9 = r9, ρ 10 = r10, ρ 11 = r11, ρ 12 = r12, ρ 14 = r14, ρ 15 = r15, ρ 16 = r16, ρ 17 = r17, ρ 18 = r18, ρ 19 = r19, ρ 20 = r20, ρ 21 = r21, ρ 22 = r22, α 7 = a7, α 8 = a8, α 10 = a10, α 11 = a11, α 16 = a16, α 20 = a20, α 21 = a21, α 24 = a24, α 25 = a25, α 26 = a26, α 27 = a27, α 28 = a28, α 29 = a29, α 30 = a30, α 58 = a58, α 59 = a59, α 60 = a60 at *
  subst f1
  subst f2
  subst f4
  subst f5
  subst f6
  subst f8
  subst f9
  refine adI_s f11 (by omega) (by omega) ?_
  have k : a26 r15 % 5 = 3 := by omega
  rw [acF_3 k]
  unfold shF
  dsimp only
  ((repeat' split) <;> first | rfl | (exfalso; omega)))
def w_advance14_1_32 : VC := (([(0, 23), (0, 49), (0, 8), (0, 11), (0, 9), (0, 6), (0, 6), (0, 8), (0, 9), (1, 49), (0, 49), ((-2147483648), 2147483647), ((-2147483648), 2147483647), (0, 5), (0, 23), (0, 48), (0, 119), (5, 120), (0, 10), (0, 119), (3, 3), ((-2147483648), 2147483647), (0, 0)]), [(0, [(some 22, 0), (none, 0)], []), (10, [(some 22, 0), (some 21, 0), (none, 1)], []), (14, [(some 21, 0), (some 12, 0), (some 18, 0)], []), (0, [(some 20, 0), (none, 3)], []), (8, [(some 20, 0), (some 19, 0), (none, 5)], []), (20, [(some 19, 0), (some 15, 0)], [26]), (20, [(some 18, 0), (some 15, 0)], [27]), (2, [(some 16, 0), (some 17, 0)], []), (6, [(some 17, 0), (none, 5), (some 14, 1)], []), (20, [(some 16, 0), (some 15, 0)], [26]), (2, [(some 15, 0), (some 9, 0)], []), (90, [(some 10, 0), (some 15, 0), (some 9, 0), (some 14, 0), (some 11, 0), (some 12, 0)], [26, 27, 7, 8, 10, 11, 16, 20, 21, 24, 25, 28, 29, 30, 58, 59, 60]), (87, [(some 9, 0)], [26, 27])], (3, [(some 18, 0), (none, 0)], []))
set_option maxRecDepth 20000 in
theorem v_advance14_1_32 {PT : PTy} (hp : HP4 PT) : vcOk PT w_advance14_1_32 := vc_of (fun ρ α hB hF => by
  obtain ⟨f0, f1, f2, f3, f4, f5, f6, f7, f8, f9, f10, f11, f12, -⟩ := hF
  have e87 : PT 87 = P_pr := hp.1.2.2.2.2.2.2.2.2.1
  have e90 : PT 90 = P_adI := hp.1.2.2.2.2.2.2.2.2.2.2.2.1
  simp only [hF0, hF2, hF3, hF6, hF8, hF10, hF14, hF20, hFp_87, hFp_90, e87, e90, P_pr, P_adI, den_s, den_c, Int.add_zero, List.map_cons, List.map_nil] at f0 f1 f2 f3 f4 f5 f6 f7 f8 f9 f10 f11 f12 ⊢
  have b9 : (1 : Int) ≤ ρ 9 ∧ ρ 9 ≤ 49 := hB 9 (1, 49) rfl
  have b10 : (0 : Int) ≤ ρ 10 ∧ ρ 10 ≤ 49 := hB 10 (0, 49) rfl
  have b11 : ((-2147483648) : Int) ≤ ρ 11 ∧ ρ 11 ≤ 2147483647 := hB 11 ((-2147483648), 2147483647) rfl
  have b12 : ((-2147483648) : Int) ≤ ρ 12 ∧ ρ 12 ≤ 2147483647 := hB 12 ((-2147483648), 2147483647) rfl
  have b14 : (0 : Int) ≤ ρ 14 ∧ ρ 14 ≤ 23 := hB 14 (0, 23) rfl
  have b15 : (0 : Int) ≤ ρ 15 ∧ ρ 15 ≤ 48 := hB 15 (0, 48) rfl
  have b16 : (0 : Int) ≤ ρ 16 ∧ ρ 16 ≤ 119 := hB 16 (0, 119) rfl
  have b17 : (5 : Int) ≤ ρ 17 ∧ ρ 17 ≤ 120 := hB 17 (5, 120) rfl
  have b18 : (0 : Int) ≤ ρ 18 ∧ ρ 18 ≤ 10 := hB 18 (0, 10) rfl
  have b19 : (0 : Int) ≤ ρ 19 ∧ ρ 19 ≤ 119 := hB 19 (0, 119) rfl
  have b20 : (3 : Int) ≤ ρ 20 ∧ ρ 20 ≤ 3 := hB 20 (3, 3) rfl
  have b21 : ((-2147483648) : Int) ≤ ρ 21 ∧ ρ 21 ≤ 2147483647 := hB 21 ((-2147483648), 2147483647) rfl
  have b22 : (0 : Int) ≤ ρ 22 ∧ ρ 22 ≤ 0 := hB 22 (0, 0) rfl
  clear hB
  generalize ρ 9 = r9, ρ 10 = r10, ρ 11 = r11, ρ 12 = r12, ρ 14 = r14, ρ 15 = r15, ρ 16 = r16, ρ 17 = r17, ρ 18 = r18, ρ 19 = r19, ρ 20 = r20, ρ 21 = r21, ρ 22 = r22, α 7 = a7, α 8 = a8, α 10 = a10, α 11 = a11, α 16 = a16, α 20 = a20, α 21 = a21, α 24 = a24, α 25 = a25, α 26 = a26, α 27 = a27, α 28 = a28, α 29 = a29, α 30 = a30, α 58 = a58, α 59 = a59, α 60 = a60 at *
  subst f1
  subst f2
  subst f4
  subst f5
  subst f6
  subst f8
  subst f9
  first
    | omega
    | (have hpr := f12 r15 (by omega) (by omega) (by omega); omega))
def w_advance14_1_33 : VC := (([(0, 23), (0, 49), (0, 8), (0, 11), (0, 9), (0, 6), (0, 6), (0, 8), (0, 9), (1, 49), (0, 49), ((-2147483648), 2147483647), ((-2147483648), 2147483647), (0, 5), (0, 23), (0, 48), (0, 119), (5, 120), (0, 10), (0, 119), (3, 3), ((-2147483648), 2147483647), (0, 0)]), [(0, [(some 22, 0), (none, 0)], []), (10, [(some 22, 0), (some 21, 0), (none, 1)], []), (14, [(some 21, 0), (some 12, 0), (some 18, 0)], []), (0, [(some 20, 0), (none, 3)], []), (8, [(some 20, 0), (some 19, 0), (none, 5)], []), (20, [(some 19, 0), (some 15, 0)], [26]), (20, [(some 18, 0), (some 15, 0)], [27]), (2, [(some 16, 0), (some 17, 0)], []), (6, [(some 17, 0), (none, 5), (some 14, 1)], []), (20, [(some 16, 0), (some 15, 0)], [26]), (2, [(some 15, 0), (some 9, 0)], []), (90, [(some 10, 0), (some 15, 0), (some 9, 0), (some 14, 0), (some 11, 0), (some 12, 0)], [26, 27, 7, 8, 10, 11, 16, 20, 21, 24, 25, 28, 29, 30, 58, 59, 60]), (87, [(some 9, 0)], [26, 27])], (3, [(none, 8), (some 18, 0)], []))
set_option maxRecDepth 20000 in
theorem v_advance14_1_33 {PT : PTy} (hp : HP4 PT) : vcOk PT w_advance14_1_33 := vc_of (fun ρ α hB hF => by
  obtain ⟨f0, f1, f2, f3, f4, f5, f6, f7, f8, f9, f10, f11, f12, -⟩ := hF
  have e87 : PT 87 = P_pr := hp.1.2.2.2.2.2.2.2.2.1
  have e90 : PT 90 = P_adI := hp.1.2.2.2.2.2.2.2.2.2.2.2.1
  simp only [hF0, hF2, hF3, hF6, hF8, hF10, hF14, hF20, hFp_87, hFp_90, e87, e90, P_pr, P_adI, den_s, den_c, Int.add_zero, List.map_cons, List.map_nil] at f0 f1 f2 f3 f4 f5 f6 f7 f8 f9 f10 f11 f12 ⊢
  have b9 : (1 : Int) ≤ ρ 9 ∧ ρ 9 ≤ 49 := hB 9 (1, 49) rfl
  have b10 : (0 : Int) ≤ ρ 10 ∧ ρ 10 ≤ 49 := hB 10 (0, 49) rfl
  have b11 : ((-2147483648) : Int) ≤ ρ 11 ∧ ρ 11 ≤ 2147483647 := hB 11 ((-2147483648), 2147483647) rfl
  have b12 : ((-2147483648) : Int) ≤ ρ 12 ∧ ρ 12 ≤ 2147483647 := hB 12 ((-2147483648), 2147483647) rfl
  have b14 : (0 : Int) ≤ ρ 14 ∧ ρ 14 ≤ 23 := hB 14 (0, 23) rfl
  have b15 : (0 : Int) ≤ ρ 15 ∧ ρ 15 ≤ 48 := hB 15 (0, 48) rfl
  have b16 : (0 : Int) ≤ ρ 16 ∧ ρ 16 ≤ 119 := hB 16 (0, 119) rfl
  have b17 : (5 : Int) ≤ ρ 17 ∧ ρ 17 ≤ 120 := hB 17 (5, 120) rfl
  have b18 : (0 : Int) ≤ ρ 18 ∧ ρ 18 ≤ 10 := hB 18 (0, 10) rfl
  have b19 : (0 : Int) ≤ ρ 19 ∧ ρ 19 ≤ 119 := hB 19 (0, 119) rfl
  have b20 : (3 : Int) ≤ ρ 20 ∧ ρ 20 ≤ 3 := hB 20 (3, 3) rfl
  have b21 : ((-2147483648) : Int) ≤ ρ 21 ∧ ρ 21 ≤ 2147483647 := hB 21 ((-2147483648), 2147483647) rfl
  have b22 : (0 : Int) ≤ ρ 22 ∧ ρ 22 ≤ 0 := hB 22 (0, 0) rfl
  clear hB
  generalize ρ 9 = r9, ρ 10 = r10, ρ 11 = r11, ρ 12 = r12, ρ 14 = r14, ρ 15 = r15, ρ 16 = r16, ρ 17 = r17, ρ 18 = r18, ρ 19 = r19, ρ 20 = r20, ρ 21 = r21, ρ 22 = r22, α 7 = a7, α 8 = a8, α 10 = a10, α 11 = a11, α 16 = a16, α 20 = a20, α 21 = a21, α 24 = a24, α 25 = a25, α 26 = a26, α 27 = a27, α 28 = a28, α 29 = a29, α 30 = a30, α 58 = a58, α 59 = a59, α 60 = a60 at *
  subst f1
  subst f2
  subst f4
  subst f5
  subst f6
  subst f8
  subst f9
  first
    | omega
    | (have hpr := f12 r15 (by omega) (by omega) (by omega); omega))
def w_advance14_1_34 : VC := (([(0, 23), (0, 49), (0, 8), (0, 11), (0, 9), (0, 6), (0, 6), (0, 8), (0, 9), (1, 49), (0, 49), ((-2147483648), 2147483647), ((-2147483648), 2147483647), (0, 5), (0, 23), (0, 48), (0, 119), (5, 120), (0, 8), (0, 119), (3, 3), ((-2147483648), 2147483647), (0, 0), (0, 7), (0, 9), (0, 99), (0, 99)]), [(21, [(some 23, 0), (some 26, 0)], [61, 58]), (3, [(some 26, 0), (none, 0)], []), (5, [(some 26, 0), (some 25, 0), (some 24, 0)], []), (20, [(some 25, 0), (some 23, 0)], [58]), (20, [(some 24, 0), (some 18, 0)], [21]), (20, [(some 23, 0), (some 18, 0)], [20]), (0, [(some 22, 0), (none, 0)], []), (10, [(some 22, 0), (some 21, 0), (none, 1)], []), (14, [(some 21, 0), (some 12, 0), (some 18, 0)], []), (0, [(some 20, 0), (none, 3)], []), (8, [(some 20, 0), (some 19, 0), (none, 5)], []), (20, [(some 19, 0), (some 15, 0)], [26]), (20, [(some 18, 0), (some 15, 0)], [27]), (2, [(some 16, 0), (some 17, 0)], []), (6, [(some 17, 0), (none, 5), (some 14, 1)], []), (20, [(some 16, 0), (some 15, 0)], [26]), (2, [(some 15, 0), (some 9, 0)], []), (90, [(some 10, 0), (some 15, 0), (some 9, 0), (some 14, 0), (some 11, 0), (some 12, 0)], [26, 27, 7, 8, 10, 11, 16, 20, 21, 24, 25, 28, 29, 30, 58, 59, 60]), (87, [(some 9, 0)], [26, 27])], (90, [(some 10, 0), (some 15, 1), (some 9, 0), (some 14, 0), (some 11, 0), (some 12, 0)], [26, 27, 7, 8, 10, 11, 16, 20, 21, 24, 25, 28, 29, 30, 61, 59, 60]))
set_option maxRecDepth 20000 in
theorem v_advance14_1_34 {PT : PTy} (hp : HP4 PT) : vcOk PT w_advance14_1_34 := vc_of (fun ρ α hB hF => by
  obtain ⟨f0, -, f2, f3, f4, f5, f6, f7, f8, f9, f10, f11, f12, f13, f14, f15, f16, f17, f18, -⟩ := hF
  have e87 : PT 87 = P_pr := hp.1.2.2.2.2.2.2.2.2.1
  have e90 : PT 90 = P_adI := hp.1.2.2.2.2.2.2.2.2.2.2.2.1
  simp only [hF0, hF2, hF5, hF6, hF8, hF10, hF14, hF20, hF21, hFp_87, hFp_90, e87, e90, P_pr, P_adI, den_s, den_c, Int.add_zero, List.map_cons, List.map_nil] at f0 f2 f3 f4 f5 f6 f7 f8 f9 f10 f11 f12 f13 f14 f15 f16 f17 f18 ⊢
  have b9 : (1 : Int) ≤ ρ 9 ∧ ρ 9 ≤ 49 := hB 9 (1, 49) rfl
  have b10 : (0 : Int) ≤ ρ 10 ∧ ρ 10 ≤ 49 := hB 10 (0, 49) rfl
  have b11 : ((-2147483648) : Int) ≤ ρ 11 ∧ ρ 11 ≤ 2147483647 := hB 11 ((-2147483648), 2147483647) rfl
  have b12 : ((-2147483648) : Int) ≤ ρ 12 ∧ ρ 12 ≤ 2147483647 := hB 12 ((-2147483648), 2147483647) rfl
  have b14 : (0 : Int) ≤ ρ 14 ∧ ρ 14 ≤ 23 := hB 14 (0, 23) rfl
  have b15 : (0 : Int) ≤ ρ 15 ∧ ρ 15 ≤ 48 := hB 15 (0, 48) rfl
  have b16 : (0 : Int) ≤ ρ 16 ∧ ρ 16 ≤ 119 := hB 16 (0, 119) rfl
  have b17 : (5 : Int) ≤ ρ 17 ∧ ρ 17 ≤ 120 := hB 17 (5, 120) rfl
  have b18 : (0 : Int) ≤ ρ 18 ∧ ρ 18 ≤ 8 := hB 18 (0, 8) rfl
  have b19 : (0 : Int) ≤ ρ 19 ∧ ρ 19 ≤ 119 := hB 19 (0, 119) rfl
  have b20 : (3 : Int) ≤ ρ 20 ∧ ρ 20 ≤ 3 := hB 20 (3, 3) rfl
  have b21 : ((-2147483648) : Int) ≤ ρ 21 ∧ ρ 21 ≤ 2147483647 := hB 21 ((-2147483648), 2147483647) rfl
  have b22 : (0 : Int) ≤ ρ 22 ∧ ρ 22 ≤ 0 := hB 22 (0, 0) rfl
  have b23 : (0 : Int) ≤ ρ 23 ∧ ρ 23 ≤ 7 := hB 23 (0, 7) rfl
  have b24 : (0 : Int) ≤ ρ 24 ∧ ρ 24 ≤ 9 := hB 24 (0, 9) rfl
  have b25 : (0 : Int) ≤ ρ 25 ∧ ρ 25 ≤ 99 := hB 25 (0, 99) rfl
  have b26 : (0 : Int) ≤ ρ 26 ∧ ρ 26 ≤ 99 := hB 26 (0, 99) rfl
  clear hB
  generalize ρ 9 = r9, ρ 10 = r10, ρ 11 = r11, ρ 12 = r12, ρ 14 = r14, ρ 15 = r15, ρ 16 = r16, ρ 17 = r17, ρ 18 = r18, ρ 19 = r19, ρ 20 = r20, ρ 21 = r21, ρ 22 = r22, ρ 23 = r23, ρ 24 = r24, ρ 25 = r25, ρ 26 = r26, α 7 = a7, α 8 = a8, α 10 = a10, α 11 = a11, α 16 = a16, α 20 = a20, α 21 = a21, α 24 = a24, α 25 = a25, α 26 = a26, α 27 = a27, α 28 = a28, α 29 = a29, α 30 = a30, α 58 = a58, α 59 = a59, α 60 = a60, α 61 = a61 at *
  subst f0
  subst f2
  subst f3
  subst f4
  subst f5
  subst f7
  subst f8
  subst f10
  subst f11
  subst f12
  subst f14
  subst f15
  refine adI_s f17 (by omega) (by omega) ?_
  have k : a26 r15 % 5 = 3 := by omega
  rw [acF_3 k]
  unfold shF
  dsimp only
  ((repeat' split) <;> first | rfl | (exfalso; omega)))
def w_advance14_1_35 : VC := (([(0, 23), (0, 49), (0, 8), (0, 11), (0, 9), (0, 6), (0, 6), (0, 8), (0, 9), (1, 49), (0, 49), ((-2147483648), 2147483647), ((-2147483648), 2147483647), (0, 5), (0, 23), (0, 48), (0, 119), (5, 120), (0, 8), (0, 119), (3, 3), ((-2147483648), 2147483647), (0, 0), (0, 7), (0, 9), (0, 99), ((-9), (-1))]), [(21, [(some 23, 0), (none, 0)], [61, 58]), (2, [(some 26, 0), (none, 0)], []), (5, [(some 26, 0), (some 25, 0), (some 24, 0)], []), (20, [(some 25, 0), (some 23, 0)], [58]), (20, [(some 24, 0), (some 18, 0)], [21]), (20, [(some 23, 0), (some 18, 0)], [20]), (0, [(some 22, 0), (none, 0)], []), (10, [(some 22, 0), (some 21, 0), (none, 1)], []), (14, [(some 21, 0), (some 12, 0), (some 18, 0)], []), (0, [(some 20, 0), (none, 3)], []), (8, [(some 20, 0), (some 19, 0), (none, 5)], []), (20, [(some 19, 0), (some 15, 0)], [26]), (20, [(some 18, 0), (some 15, 0)], [27]), (2, [(some 16, 0), (some 17, 0)], []), (6, [(some 17, 0), (none, 5), (some 14, 1)], []), (20, [(some 16, 0), (some 15, 0)], [26]), (2, [(some 15, 0), (some 9, 0)], []), (90, [(some 10, 0), (some 15, 0), (some 9, 0), (some 14, 0), (some 11, 0), (some 12, 0)], [26, 27, 7, 8, 10, 11, 16, 20, 21, 24, 25, 28, 29, 30, 58, 59, 60]), (87, [(some 9, 0)], [26, 27])], (90, [(some 10, 0), (some 15, 1), (some 9, 0), (some 14, 0), (some 11, 0), (some 12, 0)], [26, 27, 7, 8, 10, 11, 16, 20, 21, 24, 25, 28, 29, 30, 61, 59, 60]))
set_option maxRecDepth 20000 in
theorem v_advance14_1_35 {PT : PTy} (hp : HP4 PT) : vcOk PT w_advance14_1_35 := vc_of (fun ρ α hB hF => by
  obtain ⟨f0, -, f2, f3, f4, f5, f6, f7, f8, f9, f10, f11, f12, f13, f14, f15, f16, f17, f18, -⟩ := hF
  have e87 : PT 87 = P_pr := hp.1.2.2.2.2.2.2.2.2.1
  have e90 : PT 90 = P_adI := hp.1.2.2.2.2.2.2.2.2.2.2.2.1
  simp only [hF0, hF2, hF5, hF6, hF8, hF10, hF14, hF20, hF21, hFp_87, hFp_90, e87, e90, P_pr, P_adI, den_s, den_c, Int.add_zero, List.map_cons, List.map_nil] at f0 f2 f3 f4 f5 f6 f7 f8 f9 f10 f11 f12 f13 f14 f15 f16 f17 f18 ⊢
  have b9 : (1 : Int) ≤ ρ 9 ∧ ρ 9 ≤ 49 := hB 9 (1, 49) rfl
  have b10 : (0 : Int) ≤ ρ 10 ∧ ρ 10 ≤ 49 := hB 10 (0, 49) rfl
  have b11 : ((-2147483648) : Int) ≤ ρ 11 ∧ ρ 11 ≤ 2147483647 := hB 11 ((-2147483648), 2147483647) rfl
  have b12 : ((-2147483648) : Int) ≤ ρ 12 ∧ ρ 12 ≤ 2147483647 := hB 12 ((-2147483648), 2147483647) rfl
  have b14 : (0 : Int) ≤ ρ 14 ∧ ρ 14 ≤ 23 := hB 14 (0, 23) rfl
  have b15 : (0 : Int) ≤ ρ 15 ∧ ρ 15 ≤ 48 := hB 15 (0, 48) rfl
  have b16 : (0 : Int) ≤ ρ 16 ∧ ρ 16 ≤ 119 := hB 16 (0, 119) rfl
  have b17 : (5 : Int) ≤ ρ 17 ∧ ρ 17 ≤ 120 := hB 17 (5, 120) rfl
  have b18 : (0 : Int) ≤ ρ 18 ∧ ρ 18 ≤ 8 := hB 18 (0, 8) rfl
  have b19 : (0 : Int) ≤ ρ 19 ∧ ρ 19 ≤ 119 := hB 19 (0, 119) rfl
  have b20 : (3 : Int) ≤ ρ 20 ∧ ρ 20 ≤ 3 := hB 20 (3, 3) rfl
  have b21 : ((-2147483648) : Int) ≤ ρ 21 ∧ ρ 21 ≤ 2147483647 := hB 21 ((-2147483648), 2147483647) rfl
  have b22 : (0 : Int) ≤ ρ 22 ∧ ρ 22 ≤ 0 := hB 22 (0, 0) rfl
  have b23 : (0 : Int) ≤ ρ 23 ∧ ρ 23 ≤ 7 := hB 23 (0, 7) rfl
  have b24 : (0 : Int) ≤ ρ 24 ∧ ρ 24 ≤ 9 := hB 24 (0, 9) rfl
  have b25 : (0 : Int) ≤ ρ 25 ∧ ρ 25 ≤ 99 := hB 25 (0, 99) rfl
  have b26 : ((-9) : Int) ≤ ρ 26 ∧ ρ 26 ≤ (-1) := hB 26 ((-9), (-1)) rfl
  clear hB
  generalize ρ 9 = r9, ρ 10 = r10, ρ 11 = r11, ρ 12 = r12, ρ 14 = r14, ρ 15 = r15, ρ 16 = r16, ρ 17 = r17, ρ 18 = r18, ρ 19 = r19, ρ 20 = r20, ρ 21 = r21, ρ 22 = r22, ρ 23 = r23, ρ 24 = r24, ρ 25 = r25, ρ 26 = r26, α 7 = a7, α 8 = a8, α 10 = a10, α 11 = a11, α 16 = a16, α 20 = a20, α 21 = a21, α 24 = a24, α 25 = a25, α 26 = a26, α 27 = a27, α 28 = a28, α 29 = a29, α 30 = a30, α 58 = a58, α 59 = a59, α 60 = a60, α 61 = a61 at *
  subst f0
  subst f2
  subst f3
  subst f4
  subst f5
  subst f7
  subst f8
  subst f10
  subst f11
  subst f12
  subst f14
  subst f15
  refine adI_s f17 (by omega) (by omega) ?_
  have k : a26 r15 % 5 = 3 := by omega
  rw [acF_3 k]
  unfold shF
  dsimp only
  ((repeat' split) <;> first | rfl | (exfalso; omega)))
set_option maxRecDepth 1000000 in
theorem k_advance14 {PT : PTy} (hp : HP4 PT) : wfX c_advance14 = true ∧ xcOk PT c_advance14 := xctr (xl0) c_advance14 146 mX0_advance rfl h_advance14 (by decide +kernel) (by decide +kernel) (by decide) (vcs_by [w_advance14_0_0] (by decide +kernel) (vc (v_advance14_0_0 hp) vn)) (fmc (vcs_by [w_advance14_1_0, w_advance14_1_1, w_advance14_1_2, w_advance14_1_3, w_advance14_1_4, w_advance14_1_5, w_advance14_1_6, w_advance14_1_7, w_advance14_1_8, w_advance14_1_9, w_advance14_1_10, w_advance14_1_11, w_advance14_1_12, w_advance14_1_13, w_advance14_1_14, w_advance14_1_15, w_advance14_1_16, w_advance14_1_17, w_advance14_1_18, w_advance14_1_19, w_advance14_1_20, w_advance14_1_21, w_advance14_1_22, w_advance14_1_23, w_advance14_1_24, w_advance14_1_25, w_advance14_1_26, w_advance14_1_27, w_advance14_1_28, w_advance14_1_29, w_advance14_1_30, w_advance14_1_31, w_advance14_1_32, w_advance14_1_33, w_advance14_1_34, w_advance14_1_35] (by decide +kernel) (vc (v_advance14_1_0 hp) (vc (v_advance14_1_1 hp) (vc (v_advance14_1_2 hp) (vc (v_advance14_1_3 hp) (vc (v_advance14_1_4 hp) (vc (v_advance14_1_5 hp) (vc (v_advance14_1_6 hp) (vc (v_advance14_1_7 hp) (vc (v_advance14_1_8 hp) (vc (v_advance14_1_9 hp) (vc (v_advance14_1_10 hp) (vc (v_advance14_1_11 hp) (vc (v_advance14_1_12 hp) (vc (v_advance14_1_13 hp) (vc (v_advance14_1_14 hp) (vc (v_advance14_1_15 hp) (vc (v_advance14_1_16 hp) (vc (v_advance14_1_17 hp) (vc (v_advance14_1_18 hp) (vc (v_advance14_1_19 hp) (vc (v_advance14_1_20 hp) (vc (v_advance14_1_21 hp) (vc (v_advance14_1_22 hp) (vc (v_advance14_1_23 hp) (vc (v_advance14_1_24 hp) (vc (v_advance14_1_25 hp) (vc (v_advance14_1_26 hp) (vc (v_advance14_1_27 hp) (vc (v_advance14_1_28 hp) (vc (v_advance14_1_29 hp) (vc (v_advance14_1_30 hp) (vc (v_advance14_1_31 hp) (vc (v_advance14_1_32 hp) (vc (v_advance14_1_33 hp) (vc (v_advance14_1_34 hp) (vc (v_advance14_1_35 hp) vn))))))))))))))))))))))))))))))))))))) fmn)
def c_fittingBits14 : XC := (12, 1, (bX), [.inr (.inl 5)], (gX 14), [], [((bX ++ [((-2147483648), 2147483647)]), some (.inl (some 14, 0)), (gX 14), (List.range 58), 58, [(92, [(some 14, 0), (some 2, 0)], [28, 8])])])
def h_fittingBits14 : List XH := [(4, (bX ++ [((-2147483648), 2147483647), (0, 8)]), [some (.inr (.inl 5)), some (.inl (some 14, 0)), some (.inl (some 15, 0))], (gX 14), (List.range 58), 58, [(92, [(some 14, 0), (some 15, 0)], [28, 8]), (3, [(some 2, 0), (some 15, 0)], [])], [(true, (none, 1)), (true, (some 15, 0))])]
def w_fittingBits14_0_0 : VC := ((bX), [], (92, [(none, 0), (none, 0)], [28, 8]))
set_option maxRecDepth 20000 in
theorem v_fittingBits14_0_0 {PT : PTy} (hp : HP4 PT) : vcOk PT w_fittingBits14_0_0 := vc_of (fun ρ α hB hF => by
  have e92 : PT 92 = P_bits := hp.2.1
  simp only [hFp_92, e92, P_bits, den_s, den_c, Int.add_zero, List.map_cons, List.map_nil] at ⊢
  first | rfl | omega)
def w_fittingBits14_0_1 : VC := ((bX), [], (3, [(some 2, 0), (none, 0)], []))
set_option maxRecDepth 20000 in
theorem v_fittingBits14_0_1 {PT : PTy} (hp : HP4 PT) : vcOk PT w_fittingBits14_0_1 := vc_of (fun ρ α hB hF => by
  simp only [hF3, den_s, den_c, Int.add_zero, List.map_cons, List.map_nil] at ⊢
  have b2 : (0 : Int) ≤ ρ 2 ∧ ρ 2 ≤ 8 := hB 2 (0, 8) rfl
  first | rfl | omega)
def w_fittingBits14_1_0 : VC := ((bX ++ [((-2147483648), 2147483647), (0, 8)]), [(3, [(some 15, 0), (some 2, 0)], []), (92, [(some 14, 0), (some 15, 0)], [28, 8]), (3, [(some 2, 0), (some 15, 0)], [])], (92, [(some 14, 0), (some 2, 0)], [28, 8]))
set_option maxRecDepth 20000 in
theorem v_fittingBits14_1_0 {PT : PTy} (hp : HP4 PT) : vcOk PT w_fittingBits14_1_0 := vc_of (fun ρ α hB hF => by
  obtain ⟨f0, f1, f2, -⟩ := hF
  have e92 : PT 92 = P_bits := hp.2.1
  simp only [hF3, hFp_92, e92, P_bits, den_s, den_c, Int.add_zero, List.map_cons, List.map_nil] at f0 f1 f2 ⊢
  have b2 : (0 : Int) ≤ ρ 2 ∧ ρ 2 ≤ 8 := hB 2 (0, 8) rfl
  have b14 : ((-2147483648) : Int) ≤ ρ 14 ∧ ρ 14 ≤ 2147483647 := hB 14 ((-2147483648), 2147483647) rfl
  have b15 : (0 : Int) ≤ ρ 15 ∧ ρ 15 ≤ 8 := hB 15 (0, 8) rfl
  clear hB
  generalize ρ 2 = r2, ρ 14 = r14, ρ 15 = r15, α 8 = a8, α 28 = a28 at *
  first
    | omega
    | (rw [show r2 = r15 by omega]; exact f1)
    | (rw [foldI_s (by omega), ← f1]; first | (rw [if_pos (by omega)]) | (rw [if_neg (by omega)])))
def w_fittingBits14_1_1 : VC := (([(0, 23), (0, 49), (1, 8), (0, 11), (0, 9), (0, 6), (0, 6), (0, 8), (0, 9), (0, 49), (0, 49), ((-2147483648), 2147483647), ((-2147483648), 2147483647), (0, 5), ((-2147483648), 2147483647), (0, 7), (0, 99), (0, 9), (0, 0), (1, 128), ((-2147483648), 2147483647)]), [(11, [(some 20, 0), (some 14, 0), (some 19, 0)], []), (13, [(some 19, 0), (none, 1), (some 15, 0)], []), (1, [(none, 1), (none, 0)], []), (0, [(some 18, 0), (none, 0)], []), (5, [(some 18, 0), (some 16, 0), (some 17, 0)], []), (20, [(some 17, 0), (some 15, 0)], [8]), (20, [(some 16, 0), (some 15, 0)], [28]), (2, [(some 15, 0), (some 2, 0)], []), (92, [(some 14, 0), (some 15, 0)], [28, 8]), (3, [(some 2, 0), (some 15, 0)], [])], (92, [(some 20, 0), (some 15, 1)], [28, 8]))
set_option maxRecDepth 20000 in
theorem v_fittingBits14_1_1 {PT : PTy} (hp : HP4 PT) : vcOk PT w_fittingBits14_1_1 := vc_of (fun ρ α hB hF => by
  obtain ⟨f0, f1, -, f3, f4, f5, f6, f7, f8, f9, -⟩ := hF
  have e92 : PT 92 = P_bits := hp.2.1
  simp only [hF0, hF2, hF3, hF5, hF11, hF13, hF20, hFp_92, e92, P_bits, den_s, den_c, Int.add_zero, List.map_cons, List.map_nil] at f0 f1 f3 f4 f5 f6 f7 f8 f9 ⊢
  have b2 : (1 : Int) ≤ ρ 2 ∧ ρ 2 ≤ 8 := hB 2 (1, 8) rfl
  have b14 : ((-2147483648) : Int) ≤ ρ 14 ∧ ρ 14 ≤ 2147483647 := hB 14 ((-2147483648), 2147483647) rfl
  have b15 : (0 : Int) ≤ ρ 15 ∧ ρ 15 ≤ 7 := hB 15 (0, 7) rfl
  have b16 : (0 : Int) ≤ ρ 16 ∧ ρ 16 ≤ 99 := hB 16 (0, 99) rfl
  have b17 : (0 : Int) ≤ ρ 17 ∧ ρ 17 ≤ 9 := hB 17 (0, 9) rfl
  have b18 : (0 : Int) ≤ ρ 18 ∧ ρ 18 ≤ 0 := hB 18 (0, 0) rfl
  have b19 : (1 : Int) ≤ ρ 19 ∧ ρ 19 ≤ 128 := hB 19 (1, 128) rfl
  have b20 : ((-2147483648) : Int) ≤ ρ 20 ∧ ρ 20 ≤ 2147483647 := hB 20 ((-2147483648), 2147483647) rfl
  clear hB
  generalize ρ 2 = r2, ρ 14 = r14, ρ 15 = r15, ρ 16 = r16, ρ 17 = r17, ρ 18 = r18, ρ 19 = r19, ρ 20 = r20, α 8 = a8, α 28 = a28 at *
  subst f0
  subst f1
  subst f4
  subst f5
  subst f6
  first
    | omega
    | (rw [show r2 = r15 by omega]; exact f8)
    | (rw [foldI_s (by omega), ← f8]; first | (rw [if_pos (by omega)]) | (rw [if_neg (by omega)])))
def w_fittingBits14_1_2 : VC := (([(0, 23), (0, 49), (1, 8), (0, 11), (0, 9), (0, 6), (0, 6), (0, 8), (0, 9), (0, 49), (0, 49), ((-2147483648), 2147483647), ((-2147483648), 2147483647), (0, 5), ((-2147483648), 2147483647), (0, 7), (0, 99), (0, 9), (0, 0), (1, 128), ((-2147483648), 2147483647)]), [(11, [(some 20, 0), (some 14, 0), (some 19, 0)], []), (13, [(some 19, 0), (none, 1), (some 15, 0)], []), (1, [(none, 1), (none, 0)], []), (0, [(some 18, 0), (none, 0)], []), (5, [(some 18, 0), (some 16, 0), (some 17, 0)], []), (20, [(some 17, 0), (some 15, 0)], [8]), (20, [(some 16, 0), (some 15, 0)], [28]), (2, [(some 15, 0), (some 2, 0)], []), (92, [(some 14, 0), (some 15, 0)], [28, 8]), (3, [(some 2, 0), (some 15, 0)], [])], (3, [(some 2, 0), (some 15, 1)], []))
set_option maxRecDepth 20000 in
theorem v_fittingBits14_1_2 {PT : PTy} (hp : HP4 PT) : vcOk PT w_fittingBits14_1_2 := vc_of (fun ρ α hB hF => by
  obtain ⟨f0, f1, -, f3, f4, f5, f6, f7, f8, f9, -⟩ := hF
  have e92 : PT 92 = P_bits := hp.2.1
  simp only [hF0, hF2, hF3, hF5, hF11, hF13, hF20, hFp_92, e92, P_bits, den_s, den_c, Int.add_zero, List.map_cons, List.map_nil] at f0 f1 f3 f4 f5 f6 f7 f8 f9 ⊢
  have b2 : (1 : Int) ≤ ρ 2 ∧ ρ 2 ≤ 8 := hB 2 (1, 8) rfl
  have b14 : ((-2147483648) : Int) ≤ ρ 14 ∧ ρ 14 ≤ 2147483647 := hB 14 ((-2147483648), 2147483647) rfl
  have b15 : (0 : Int) ≤ ρ 15 ∧ ρ 15 ≤ 7 := hB 15 (0, 7) rfl
  have b16 : (0 : Int) ≤ ρ 16 ∧ ρ 16 ≤ 99 := hB 16 (0, 99) rfl
  have b17 : (0 : Int) ≤ ρ 17 ∧ ρ 17 ≤ 9 := hB 17 (0, 9) rfl
  have b18 : (0 : Int) ≤ ρ 18 ∧ ρ 18 ≤ 0 := hB 18 (0, 0) rfl
  have b19 : (1 : Int) ≤ ρ 19 ∧ ρ 19 ≤ 128 := hB 19 (1, 128) rfl
  have b20 : ((-2147483648) : Int) ≤ ρ 20 ∧ ρ 20 ≤ 2147483647 := hB 20 ((-2147483648), 2147483647) rfl
  clear hB
  generalize ρ 2 = r2, ρ 14 = r14, ρ 15 = r15, ρ 16 = r16, ρ 17 = r17, ρ 18 = r18, ρ 19 = r19, ρ 20 = r20, α 8 = a8, α 28 = a28 at *
  subst f0
  subst f1
  subst f4
  subst f5
  subst f6
  first
    | omega
    | (rw [show r2 = r15 by omega]; exact f8)
    | (rw [foldI_s (by omega), ← f8]; first | (rw [if_pos (by omega)]) | (rw [if_neg (by omega)])))
def w_fittingBits14_1_3 : VC := (([(0, 23), (0, 49), (1, 8), (0, 11), (0, 9), (0, 6), (0, 6), (0, 8), (0, 9), (0, 49), (0, 49), ((-2147483648), 2147483647), ((-2147483648), 2147483647), (0, 5), ((-2147483648), 2147483647), (0, 7), (0, 99), (0, 9), ((-9), 99)]), [(0, [(none, 0), (none, 0)], []), (1, [(some 18, 0), (none, 1)], []), (1, [(some 18, 0), (none, 0)], []), (5, [(some 18, 0), (some 16, 0), (some 17, 0)], []), (20, [(some 17, 0), (some 15, 0)], [8]), (20, [(some 16, 0), (some 15, 0)], [28]), (2, [(some 15, 0), (some 2, 0)], []), (92, [(some 14, 0), (some 15, 0)], [28, 8]), (3, [(some 2, 0), (some 15, 0)], [])], (92, [(some 14, 0), (some 15, 1)], [28, 8]))
set_option maxRecDepth 20000 in
theorem v_fittingBits14_1_3 {PT : PTy} (hp : HP4 PT) : vcOk PT w_fittingBits14_1_3 := vc_of (fun ρ α hB hF => by
  obtain ⟨-, f1, f2, f3, f4, f5, f6, f7, f8, -⟩ := hF
  have e92 : PT 92 = P_bits := hp.2.1
  simp only [hF1, hF2, hF3, hF5, hF20, hFp_92, e92, P_bits, den_s, den_c, Int.add_zero, List.map_cons, List.map_nil] at f1 f2 f3 f4 f5 f6 f7 f8 ⊢
  have b2 : (1 : Int) ≤ ρ 2 ∧ ρ 2 ≤ 8 := hB 2 (1, 8) rfl
  have b14 : ((-2147483648) : Int) ≤ ρ 14 ∧ ρ 14 ≤ 2147483647 := hB 14 ((-2147483648), 2147483647) rfl
  have b15 : (0 : Int) ≤ ρ 15 ∧ ρ 15 ≤ 7 := hB 15 (0, 7) rfl
  have b16 : (0 : Int) ≤ ρ 16 ∧ ρ 16 ≤ 99 := hB 16 (0, 99) rfl
  have b17 : (0 : Int) ≤ ρ 17 ∧ ρ 17 ≤ 9 := hB 17 (0, 9) rfl
  have b18 : ((-9) : Int) ≤ ρ 18 ∧ ρ 18 ≤ 99 := hB 18 ((-9), 99) rfl
  clear hB
  generalize ρ 2 = r2, ρ 14 = r14, ρ 15 = r15, ρ 16 = r16, ρ 17 = r17, ρ 18 = r18, α 8 = a8, α 28 = a28 at *
  subst f3
  subst f4
  subst f5
  first
    | omega
    | (rw [show r2 = r15 by omega]; exact f7)
    | (rw [foldI_s (by omega), ← f7]; first | (rw [if_pos (by omega)]) | (rw [if_neg (by omega)])))
def w_fittingBits14_1_4 : VC := (([(0, 23), (0, 49), (1, 8), (0, 11), (0, 9), (0, 6), (0, 6), (0, 8), (0, 9), (0, 49), (0, 49), ((-2147483648), 2147483647), ((-2147483648), 2147483647), (0, 5), ((-2147483648), 2147483647), (0, 7), (0, 99), (0, 9), ((-9), 99)]), [(0, [(none, 0), (none, 0)], []), (1, [(some 18, 0), (none, 1)], []), (1, [(some 18, 0), (none, 0)], []), (5, [(some 18, 0), (some 16, 0), (some 17, 0)], []), (20, [(some 17, 0), (some 15, 0)], [8]), (20, [(some 16, 0), (some 15, 0)], [28]), (2, [(some 15, 0), (some 2, 0)], []), (92, [(some 14, 0), (some 15, 0)], [28, 8]), (3, [(some 2, 0), (some 15, 0)], [])], (3, [(some 2, 0), (some 15, 1)], []))
set_option maxRecDepth 20000 in
theorem v_fittingBits14_1_4 {PT : PTy} (hp : HP4 PT) : vcOk PT w_fittingBits14_1_4 := vc_of (fun ρ α hB hF => by
  obtain ⟨-, f1, f2, f3, f4, f5, f6, f7, f8, -⟩ := hF
  have e92 : PT 92 = P_bits := hp.2.1
  simp only [hF1, hF2, hF3, hF5, hF20, hFp_92, e92, P_bits, den_s, den_c, Int.add_zero, List.map_cons, List.map_nil] at f1 f2 f3 f4 f5 f6 f7 f8 ⊢
  have b2 : (1 : Int) ≤ ρ 2 ∧ ρ 2 ≤ 8 := hB 2 (1, 8) rfl
  have b14 : ((-2147483648) : Int) ≤ ρ 14 ∧ ρ 14 ≤ 2147483647 := hB 14 ((-2147483648), 2147483647) rfl
  have b15 : (0 : Int) ≤ ρ 15 ∧ ρ 15 ≤ 7 := hB 15 (0, 7) rfl
  have b16 : (0 : Int) ≤ ρ 16 ∧ ρ 16 ≤ 99 := hB 16 (0, 99) rfl
  have b17 : (0 : Int) ≤ ρ 17 ∧ ρ 17 ≤ 9 := hB 17 (0, 9) rfl
  have b18 : ((-9) : Int) ≤ ρ 18 ∧ ρ 18 ≤ 99 := hB 18 ((-9), 99) rfl
  clear hB
  generalize ρ 2 = r2, ρ 14 = r14, ρ 15 = r15, ρ 16 = r16, ρ 17 = r17, ρ 18 = r18, α 8 = a8, α 28 = a28 at *
  subst f3
  subst f4
  subst f5
  first
    | omega
    | (rw [show r2 = r15 by omega]; exact f7)
    | (rw [foldI_s (by omega), ← f7]; first | (rw [if_pos (by omega)]) | (rw [if_neg (by omega)])))
def w_fittingBits14_1_5 : VC := (([(0, 23), (0, 49), (1, 8), (0, 11), (0, 9), (0, 6), (0, 6), (0, 8), (0, 9), (0, 49), (0, 49), ((-2147483648), 2147483647), ((-2147483648), 2147483647), (0, 5), ((-2147483648), 2147483647), (0, 7), (0, 99), (0, 9), (1, 1), (1, 128), ((-2147483648), 2147483647)]), [(11, [(some 20, 0), (some 14, 0), (some 19, 0)], []), (13, [(some 19, 0), (none, 1), (some 15, 0)], []), (1, [(none, 1), (none, 0)], []), (0, [(some 18, 0), (none, 1)], []), (1, [(some 18, 0), (none, 0)], []), (5, [(some 18, 0), (some 16, 0), (some 17, 0)], []), (20, [(some 17, 0), (some 15, 0)], [8]), (20, [(some 16, 0), (some 15, 0)], [28]), (2, [(some 15, 0), (some 2, 0)], []), (92, [(some 14, 0), (some 15, 0)], [28, 8]), (3, [(some 2, 0), (some 15, 0)], [])], (92, [(some 20, 0), (some 15, 1)], [28, 8]))
set_option maxRecDepth 20000 in
theorem v_fittingBits14_1_5 {PT : PTy} (hp : HP4 PT) : vcOk PT w_fittingBits14_1_5 := vc_of (fun ρ α hB hF => by
  obtain ⟨f0, f1, -, f3, -, f5, f6, f7, f8, f9, f10, -⟩ := hF
  have e92 : PT 92 = P_bits := hp.2.1
  simp only [hF0, hF2, hF3, hF5, hF11, hF13, hF20, hFp_92, e92, P_bits, den_s, den_c, Int.add_zero, List.map_cons, List.map_nil] at f0 f1 f3 f5 f6 f7 f8 f9 f10 ⊢
  have b2 : (1 : Int) ≤ ρ 2 ∧ ρ 2 ≤ 8 := hB 2 (1, 8) rfl
  have b14 : ((-2147483648) : Int) ≤ ρ 14 ∧ ρ 14 ≤ 2147483647 := hB 14 ((-2147483648), 2147483647) rfl
  have b15 : (0 : Int) ≤ ρ 15 ∧ ρ 15 ≤ 7 := hB 15 (0, 7) rfl
  have b16 : (0 : Int) ≤ ρ 16 ∧ ρ 16 ≤ 99 := hB 16 (0, 99) rfl
  have b17 : (0 : Int) ≤ ρ 17 ∧ ρ 17 ≤ 9 := hB 17 (0, 9) rfl
  have b18 : (1 : Int) ≤ ρ 18 ∧ ρ 18 ≤ 1 := hB 18 (1, 1) rfl
  have b19 : (1 : Int) ≤ ρ 19 ∧ ρ 19 ≤ 128 := hB 19 (1, 128) rfl
  have b20 : ((-2147483648) : Int) ≤ ρ 20 ∧ ρ 20 ≤ 2147483647 := hB 20 ((-2147483648), 2147483647) rfl
  clear hB
  generalize ρ 2 = r2, ρ 14 = r14, ρ 15 = r15, ρ 16 = r16, ρ 17 = r17, ρ 18 = r18, ρ 19 = r19, ρ 20 = r20, α 8 = a8, α 28 = a28 at *
  subst f0
  subst f1
  subst f5
  subst f6
  subst f7
  first
    | omega
    | (rw [show r2 = r15 by omega]; exact f9)
    | (rw [foldI_s (by omega), ← f9]; first | (rw [if_pos (by omega)]) | (rw [if_neg (by omega)])))
def w_fittingBits14_1_6 : VC := (([(0, 23), (0, 49), (1, 8), (0, 11), (0, 9), (0, 6), (0, 6), (0, 8), (0, 9), (0, 49), (0, 49), ((-2147483648), 2147483647), ((-2147483648), 2147483647), (0, 5), ((-2147483648), 2147483647), (0, 7), (0, 99), (0, 9), (1, 1), (1, 128), ((-2147483648), 2147483647)]), [(11, [(some 20, 0), (some 14, 0), (some 19, 0)], []), (13, [(some 19, 0), (none, 1), (some 15, 0)], []), (1, [(none, 1), (none, 0)], []), (0, [(some 18, 0), (none, 1)], []), (1, [(some 18, 0), (none, 0)], []), (5, [(some 18, 0), (some 16, 0), (some 17, 0)], []), (20, [(some 17, 0), (some 15, 0)], [8]), (20, [(some 16, 0), (some 15, 0)], [28]), (2, [(some 15, 0), (some 2, 0)], []), (92, [(some 14, 0), (some 15, 0)], [28, 8]), (3, [(some 2, 0), (some 15, 0)], [])], (3, [(some 2, 0), (some 15, 1)], []))
set_option maxRecDepth 20000 in
theorem v_fittingBits14_1_6 {PT : PTy} (hp : HP4 PT) : vcOk PT w_fittingBits14_1_6 := vc_of (fun ρ α hB hF => by
  obtain ⟨f0, f1, -, f3, -, f5, f6, f7, f8, f9, f10, -⟩ := hF
  have e92 : PT 92 = P_bits := hp.2.1
  simp only [hF0, hF2, hF3, hF5, hF11, hF13, hF20, hFp_92, e92, P_bits, den_s, den_c, Int.add_zero, List.map_cons, List.map_nil] at f0 f1 f3 f5 f6 f7 f8 f9 f10 ⊢
  have b2 : (1 : Int) ≤ ρ 2 ∧ ρ 2 ≤ 8 := hB 2 (1, 8) rfl
  have b14 : ((-2147483648) : Int) ≤ ρ 14 ∧ ρ 14 ≤ 2147483647 := hB 14 ((-2147483648), 2147483647) rfl
  have b15 : (0 : Int) ≤ ρ 15 ∧ ρ 15 ≤ 7 := hB 15 (0, 7) rfl
  have b16 : (0 : Int) ≤ ρ 16 ∧ ρ 16 ≤ 99 := hB 16 (0, 99) rfl
  have b17 : (0 : Int) ≤ ρ 17 ∧ ρ 17 ≤ 9 := hB 17 (0, 9) rfl
  have b18 : (1 : Int) ≤ ρ 18 ∧ ρ 18 ≤ 1 := hB 18 (1, 1) rfl
  have b19 : (1 : Int) ≤ ρ 19 ∧ ρ 19 ≤ 128 := hB 19 (1, 128) rfl
  have b20 : ((-2147483648) : Int) ≤ ρ 20 ∧ ρ 20 ≤ 2147483647 := hB 20 ((-2147483648), 2147483647) rfl
  clear hB
  generalize ρ 2 = r2, ρ 14 = r14, ρ 15 = r15, ρ 16 = r16, ρ 17 = r17, ρ 18 = r18, ρ 19 = r19, ρ 20 = r20, α 8 = a8, α 28 = a28 at *
  subst f0
  subst f1
  subst f5
  subst f6
  subst f7
  first
    | omega
    | (rw [show r2 = r15 by omega]; exact f9)
    | (rw [foldI_s (by omega), ← f9]; first | (rw [if_pos (by omega)]) | (rw [if_neg (by omega)])))
set_option maxRecDepth 1000000 in
theorem k_fittingBits14 {PT : PTy} (hp : HP4 PT) : wfX c_fittingBits14 = true ∧ xcOk PT c_fittingBits14 := xctr (xl0) c_fittingBits14 57 mX0_fittingBits rfl h_fittingBits14 (by decide +kernel) (by decide +kernel) (by decide) (vcs_by [w_fittingBits14_0_0, w_fittingBits14_0_1] (by decide +kernel) (vc (v_fittingBits14_0_0 hp) (vc (v_fittingBits14_0_1 hp) vn))) (fmc (vcs_by [w_fittingBits14_1_0, w_fittingBits14_1_1, w_fittingBits14_1_2, w_fittingBits14_1_3, w_fittingBits14_1_4, w_fittingBits14_1_5, w_fittingBits14_1_6] (by decide +kernel) (vc (v_fittingBits14_1_0 hp) (vc (v_fittingBits14_1_1 hp) (vc (v_fittingBits14_1_2 hp) (vc (v_fittingBits14_1_3 hp) (vc (v_fittingBits14_1_4 hp) (vc (v_fittingBits14_1_5 hp) (vc (v_fittingBits14_1_6 hp) vn)))))))) fmn)
def c_nakedBits14 : XC := (13, 0, (bX), [.inr (.inl 5)], (gX 14), [], [((bX ++ [((-2147483648), 2147483647)]), some (.inl (some 14, 0)), (gX 14), (List.range 58), 58, [(93, [(some 14, 0), (some 2, 0)], [28])])])
def h_nakedBits14 : List XH := [(4, (bX ++ [((-2147483648), 2147483647), (0, 8)]), [some (.inr (.inl 5)), some (.inl (some 14, 0)), some (.inl (some 15, 0))], (gX 14), (List.range 58), 58, [(93, [(some 14, 0), (some 15, 0)], [28]), (3, [(some 2, 0), (some 15, 0)], [])], [(true, (none, 1)), (true, (some 15, 0))])]
def w_nakedBits14_0_0 : VC := ((bX), [], (93, [(none, 0), (none, 0)], [28]))
set_option maxRecDepth 20000 in
theorem v_nakedBits14_0_0 {PT : PTy} (hp : HP4 PT) : vcOk PT w_nakedBits14_0_0 := vc_of (fun ρ α hB hF => by
  have e93 : PT 93 = P_nkd := hp.2.2.1
  simp only [hFp_93, e93, P_nkd, den_s, den_c, Int.add_zero, List.map_cons, List.map_nil] at ⊢
  first | rfl | omega)
def w_nakedBits14_0_1 : VC := ((bX), [], (3, [(some 2, 0), (none, 0)], []))
set_option maxRecDepth 20000 in
theorem v_nakedBits14_0_1 {PT : PTy} (hp : HP4 PT) : vcOk PT w_nakedBits14_0_1 := vc_of (fun ρ α hB hF => by
  simp only [hF3, den_s, den_c, Int.add_zero, List.map_cons, List.map_nil] at ⊢
  have b2 : (0 : Int) ≤ ρ 2 ∧ ρ 2 ≤ 8 := hB 2 (0, 8) rfl
  first | rfl | omega)
def w_nakedBits14_1_0 : VC := ((bX ++ [((-2147483648), 2147483647), (0, 8)]), [(3, [(some 15, 0), (some 2, 0)], []), (93, [(some 14, 0), (some 15, 0)], [28]), (3, [(some 2, 0), (some 15, 0)], [])], (93, [(some 14, 0), (some 2, 0)], [28]))
set_option maxRecDepth 20000 in
theorem v_nakedBits14_1_0 {PT : PTy} (hp : HP4 PT) : vcOk PT w_nakedBits14_1_0 := vc_of (fun ρ α hB hF => by
  obtain ⟨f0, f1, f2, -⟩ := hF
  have e93 : PT 93 = P_nkd := hp.2.2.1
  simp only [hF3, hFp_93, e93, P_nkd, den_s, den_c, Int.add_zero, List.map_cons, List.map_nil] at f0 f1 f2 ⊢
  have b2 : (0 : Int) ≤ ρ 2 ∧ ρ 2 ≤ 8 := hB 2 (0, 8) rfl
  have b14 : ((-2147483648) : Int) ≤ ρ 14 ∧ ρ 14 ≤ 2147483647 := hB 14 ((-2147483648), 2147483647) rfl
  have b15 : (0 : Int) ≤ ρ 15 ∧ ρ 15 ≤ 8 := hB 15 (0, 8) rfl
  clear hB
  generalize ρ 2 = r2, ρ 14 = r14, ρ 15 = r15, α 28 = a28 at *
  first
    | omega
    | (rw [show r2 = r15 by omega]; exact f1)
    | (rw [foldI_s (by omega), ← f1]; first | (rw [if_pos (by omega)]) | (rw [if_neg (by omega)])))
def w_nakedBits14_1_1 : VC := (([(0, 23), (0, 49), (1, 8), (0, 11), (0, 9), (0, 6), (0, 6), (0, 8), (0, 9), (0, 49), (0, 49), ((-2147483648), 2147483647), ((-2147483648), 2147483647), (0, 5), ((-2147483648), 2147483647), (0, 7), (1, 99)]), [(1, [(some 16, 0), (none, 0)], []), (20, [(some 16, 0), (some 15, 0)], [28]), (2, [(some 15, 0), (some 2, 0)], []), (93, [(some 14, 0), (some 15, 0)], [28]), (3, [(some 2, 0), (some 15, 0)], [])], (93, [(some 14, 0), (some 15, 1)], [28]))
set_option maxRecDepth 20000 in
theorem v_nakedBits14_1_1 {PT : PTy} (hp : HP4 PT) : vcOk PT w_nakedBits14_1_1 := vc_of (fun ρ α hB hF => by
  obtain ⟨-, f1, f2, f3, f4, -⟩ := hF
  have e93 : PT 93 = P_nkd := hp.2.2.1
  simp only [hF2, hF3, hF20, hFp_93, e93, P_nkd, den_s, den_c, Int.add_zero, List.map_cons, List.map_nil] at f1 f2 f3 f4 ⊢
  have b2 : (1 : Int) ≤ ρ 2 ∧ ρ 2 ≤ 8 := hB 2 (1, 8) rfl
  have b14 : ((-2147483648) : Int) ≤ ρ 14 ∧ ρ 14 ≤ 2147483647 := hB 14 ((-2147483648), 2147483647) rfl
  have b15 : (0 : Int) ≤ ρ 15 ∧ ρ 15 ≤ 7 := hB 15 (0, 7) rfl
  have b16 : (1 : Int) ≤ ρ 16 ∧ ρ 16 ≤ 99 := hB 16 (1, 99) rfl
  clear hB
  generalize ρ 2 = r2, ρ 14 = r14, ρ 15 = r15, ρ 16 = r16, α 28 = a28 at *
  subst f1
  first
    | omega
    | (rw [show r2 = r15 by omega]; exact f3)
    | (rw [foldI_s (by omega), ← f3]; first | (rw [if_pos (by omega)]) | (rw [if_neg (by omega)])))
def w_nakedBits14_1_2 : VC := (([(0, 23), (0, 49), (1, 8), (0, 11), (0, 9), (0, 6), (0, 6), (0, 8), (0, 9), (0, 49), (0, 49), ((-2147483648), 2147483647), ((-2147483648), 2147483647), (0, 5), ((-2147483648), 2147483647), (0, 7), (1, 99)]), [(1, [(some 16, 0), (none, 0)], []), (20, [(some 16, 0), (some 15, 0)], [28]), (2, [(some 15, 0), (some 2, 0)], []), (93, [(some 14, 0), (some 15, 0)], [28]), (3, [(some 2, 0), (some 15, 0)], [])], (3, [(some 2, 0), (some 15, 1)], []))
set_option maxRecDepth 20000 in
theorem v_nakedBits14_1_2 {PT : PTy} (hp : HP4 PT) : vcOk PT w_nakedBits14_1_2 := vc_of (fun ρ α hB hF => by
  obtain ⟨-, f1, f2, f3, f4, -⟩ := hF
  have e93 : PT 93 = P_nkd := hp.2.2.1
  simp only [hF2, hF3, hF20, hFp_93, e93, P_nkd, den_s, den_c, Int.add_zero, List.map_cons, List.map_nil] at f1 f2 f3 f4 ⊢
  have b2 : (1 : Int) ≤ ρ 2 ∧ ρ 2 ≤ 8 := hB 2 (1, 8) rfl
  have b14 : ((-2147483648) : Int) ≤ ρ 14 ∧ ρ 14 ≤ 2147483647 := hB 14 ((-2147483648), 2147483647) rfl
  have b15 : (0 : Int) ≤ ρ 15 ∧ ρ 15 ≤ 7 := hB 15 (0, 7) rfl
  have b16 : (1 : Int) ≤ ρ 16 ∧ ρ 16 ≤ 99 := hB 16 (1, 99) rfl
  clear hB
  generalize ρ 2 = r2, ρ 14 = r14, ρ 15 = r15, ρ 16 = r16, α 28 = a28 at *
  subst f1
  first
    | omega
    | (rw [show r2 = r15 by omega]; exact f3)
    | (rw [foldI_s (by omega), ← f3]; first | (rw [if_pos (by omega)]) | (rw [if_neg (by omega)])))
def w_nakedBits14_1_3 : VC := (([(0, 23), (0, 49), (1, 8), (0, 11), (0, 9), (0, 6), (0, 6), (0, 8), (0, 9), (0, 49), (0, 49), ((-2147483648), 2147483647), ((-2147483648), 2147483647), (0, 5), ((-2147483648), 2147483647), (0, 7), (0, 0), (1, 128), ((-2147483648), 2147483647)]), [(11, [(some 18, 0), (some 14, 0), (some 17, 0)], []), (13, [(some 17, 0), (none, 1), (some 15, 0)], []), (0, [(some 16, 0), (none, 0)], []), (20, [(some 16, 0), (some 15, 0)], [28]), (2, [(some 15, 0), (some 2, 0)], []), (93, [(some 14, 0), (some 15, 0)], [28]), (3, [(some 2, 0), (some 15, 0)], [])], (93, [(some 18, 0), (some 15, 1)], [28]))
set_option maxRecDepth 20000 in
theorem v_nakedBits14_1_3 {PT : PTy} (hp : HP4 PT) : vcOk PT w_nakedBits14_1_3 := vc_of (fun ρ α hB hF => by
  obtain ⟨f0, f1, f2, f3, f4, f5, f6, -⟩ := hF
  have e93 : PT 93 = P_nkd := hp.2.2.1
  simp only [hF0, hF2, hF3, hF11, hF13, hF20, hFp_93, e93, P_nkd, den_s, den_c, Int.add_zero, List.map_cons, List.map_nil] at f0 f1 f2 f3 f4 f5 f6 ⊢
  have b2 : (1 : Int) ≤ ρ 2 ∧ ρ 2 ≤ 8 := hB 2 (1, 8) rfl
  have b14 : ((-2147483648) : Int) ≤ ρ 14 ∧ ρ 14 ≤ 2147483647 := hB 14 ((-2147483648), 2147483647) rfl
  have b15 : (0 : Int) ≤ ρ 15 ∧ ρ 15 ≤ 7 := hB 15 (0, 7) rfl
  have b16 : (0 : Int) ≤ ρ 16 ∧ ρ 16 ≤ 0 := hB 16 (0, 0) rfl
  have b17 : (1 : Int) ≤ ρ 17 ∧ ρ 17 ≤ 128 := hB 17 (1, 128) rfl
  have b18 : ((-2147483648) : Int) ≤ ρ 18 ∧ ρ 18 ≤ 2147483647 := hB 18 ((-2147483648), 2147483647) rfl
  clear hB
  generalize ρ 2 = r2, ρ 14 = r14, ρ 15 = r15, ρ 16 = r16, ρ 17 = r17, ρ 18 = r18, α 28 = a28 at *
  subst f0
  subst f1
  subst f3
  first
    | omega
    | (rw [show r2 = r15 by omega]; exact f5)
    | (rw [foldI_s (by omega), ← f5]; first | (rw [if_pos (by omega)]) | (rw [if_neg (by omega)])))
def w_nakedBits14_1_4 : VC := (([(0, 23), (0, 49), (1, 8), (0, 11), (0, 9), (0, 6), (0, 6), (0, 8), (0, 9), (0, 49), (0, 49), ((-2147483648), 2147483647), ((-2147483648), 2147483647), (0, 5), ((-2147483648), 2147483647), (0, 7), (0, 0), (1, 128), ((-2147483648), 2147483647)]), [(11, [(some 18, 0), (some 14, 0), (some 17, 0)], []), (13, [(some 17, 0), (none, 1), (some 15, 0)], []), (0, [(some 16, 0), (none, 0)], []), (20, [(some 16, 0), (some 15, 0)], [28]), (2, [(some 15, 0), (some 2, 0)], []), (93, [(some 14, 0), (some 15, 0)], [28]), (3, [(some 2, 0), (some 15, 0)], [])], (3, [(some 2, 0), (some 15, 1)], []))
set_option maxRecDepth 20000 in
theorem v_nakedBits14_1_4 {PT : PTy} (hp : HP4 PT) : vcOk PT w_nakedBits14_1_4 := vc_of (fun ρ α hB hF => by
  obtain ⟨f0, f1, f2, f3, f4, f5, f6, -⟩ := hF
  have e93 : PT 93 = P_nkd := hp.2.2.1
  simp only [hF0, hF2, hF3, hF11, hF13, hF20, hFp_93, e93, P_nkd, den_s, den_c, Int.add_zero, List.map_cons, List.map_nil] at f0 f1 f2 f3 f4 f5 f6 ⊢
  have b2 : (1 : Int) ≤ ρ 2 ∧ ρ 2 ≤ 8 := hB 2 (1, 8) rfl
  have b14 : ((-2147483648) : Int) ≤ ρ 14 ∧ ρ 14 ≤ 2147483647 := hB 14 ((-2147483648), 2147483647) rfl
  have b15 : (0 : Int) ≤ ρ 15 ∧ ρ 15 ≤ 7 := hB 15 (0, 7) rfl
  have b16 : (0 : Int) ≤ ρ 16 ∧ ρ 16 ≤ 0 := hB 16 (0, 0) rfl
  have b17 : (1 : Int) ≤ ρ 17 ∧ ρ 17 ≤ 128 := hB 17 (1, 128) rfl
  have b18 : ((-2147483648) : Int) ≤ ρ 18 ∧ ρ 18 ≤ 2147483647 := hB 18 ((-2147483648), 2147483647) rfl
  clear hB
  generalize ρ 2 = r2, ρ 14 = r14, ρ 15 = r15, ρ 16 = r16, ρ 17 = r17, ρ 18 = r18, α 28 = a28 at *
  subst f0
  subst f1
  subst f3
  first
    | omega
    | (rw [show r2 = r15 by omega]; exact f5)
    | (rw [foldI_s (by omega), ← f5]; first | (rw [if_pos (by omega)]) | (rw [if_neg (by omega)])))
set_option maxRecDepth 1000000 in
theorem k_nakedBits14 {PT : PTy} (hp : HP4 PT) : wfX c_nakedBits14 = true ∧ xcOk PT c_nakedBits14 := xctr (xl0) c_nakedBits14 39 mX0_nakedBits rfl h_nakedBits14 (by decide +kernel) (by decide +kernel) (by decide) (vcs_by [w_nakedBits14_0_0, w_nakedBits14_0_1] (by decide +kernel) (vc (v_nakedBits14_0_0 hp) (vc (v_nakedBits14_0_1 hp) vn))) (fmc (vcs_by [w_nakedBits14_1_0, w_nakedBits14_1_1, w_nakedBits14_1_2, w_nakedBits14_1_3, w_nakedBits14_1_4] (by decide +kernel) (vc (v_nakedBits14_1_0 hp) (vc (v_nakedBits14_1_1 hp) (vc (v_nakedBits14_1_2 hp) (vc (v_nakedBits14_1_3 hp) (vc (v_nakedBits14_1_4 hp) vn)))))) fmn)
def c_allRips14 : XC := (14, 0, (bX), [.inr (.inl 5)], (gX 14), [], [((bX ++ [((-2147483648), 2147483647)]), some (.inl (some 14, 0)), (gX 14), (List.range 58), 58, [(94, [(some 14, 0), (some 2, 0)], [29])])])
def h_allRips14 : List XH := [(4, (bX ++ [((-2147483648), 2147483647), (0, 8)]), [some (.inr (.inl 5)), some (.inl (some 14, 0)), some (.inl (some 15, 0))], (gX 14), (List.range 58), 58, [(94, [(some 14, 0), (some 15, 0)], [29]), (3, [(some 2, 0), (some 15, 0)], [])], [(true, (none, 1)), (true, (some 15, 0))])]
def w_allRips14_0_0 : VC := ((bX), [], (94, [(none, 0), (none, 0)], [29]))
set_option maxRecDepth 20000 in
theorem v_allRips14_0_0 {PT : PTy} (hp : HP4 PT) : vcOk PT w_allRips14_0_0 := vc_of (fun ρ α hB hF => by
  have e94 : PT 94 = P_rps := hp.2.2.2.1
  simp only [hFp_94, e94, P_rps, den_s, den_c, Int.add_zero, List.map_cons, List.map_nil] at ⊢
  first | rfl | omega)
def w_allRips14_0_1 : VC := ((bX), [], (3, [(some 2, 0), (none, 0)], []))
set_option maxRecDepth 20000 in
theorem v_allRips14_0_1 {PT : PTy} (hp : HP4 PT) : vcOk PT w_allRips14_0_1 := vc_of (fun ρ α hB hF => by
  simp only [hF3, den_s, den_c, Int.add_zero, List.map_cons, List.map_nil] at ⊢
  have b2 : (0 : Int) ≤ ρ 2 ∧ ρ 2 ≤ 8 := hB 2 (0, 8) rfl
  first | rfl | omega)
def w_allRips14_1_0 : VC := ((bX ++ [((-2147483648), 2147483647), (0, 8)]), [(3, [(some 15, 0), (some 2, 0)], []), (94, [(some 14, 0), (some 15, 0)], [29]), (3, [(some 2, 0), (some 15, 0)], [])], (94, [(some 14, 0), (some 2, 0)], [29]))
set_option maxRecDepth 20000 in
theorem v_allRips14_1_0 {PT : PTy} (hp : HP4 PT) : vcOk PT w_allRips14_1_0 := vc_of (fun ρ α hB hF => by
  obtain ⟨f0, f1, f2, -⟩ := hF
  have e94 : PT 94 = P_rps := hp.2.2.2.1
  simp only [hF3, hFp_94, e94, P_rps, den_s, den_c, Int.add_zero, List.map_cons, List.map_nil] at f0 f1 f2 ⊢
  have b2 : (0 : Int) ≤ ρ 2 ∧ ρ 2 ≤ 8 := hB 2 (0, 8) rfl
  have b14 : ((-2147483648) : Int) ≤ ρ 14 ∧ ρ 14 ≤ 2147483647 := hB 14 ((-2147483648), 2147483647) rfl
  have b15 : (0 : Int) ≤ ρ 15 ∧ ρ 15 ≤ 8 := hB 15 (0, 8) rfl
  clear hB
  generalize ρ 2 = r2, ρ 14 = r14, ρ 15 = r15, α 29 = a29 at *
  first
    | omega
    | (rw [show r2 = r15 by omega]; exact f1)
    | (rw [foldI_s (by omega), ← f1]))
def w_allRips14_1_1 : VC := (([(0, 23), (0, 49), (1, 8), (0, 11), (0, 9), (0, 6), (0, 6), (0, 8), (0, 9), (0, 49), (0, 49), ((-2147483648), 2147483647), ((-2147483648), 2147483647), (0, 5), ((-2147483648), 2147483647), (0, 7), ((-2147483648), 2147483647), ((-2147483648), 2147483647)]), [(16, [(some 17, 0), (some 14, 0), (some 16, 0)], []), (20, [(some 16, 0), (some 15, 0)], [29]), (2, [(some 15, 0), (some 2, 0)], []), (94, [(some 14, 0), (some 15, 0)], [29]), (3, [(some 2, 0), (some 15, 0)], [])], (94, [(some 17, 0), (some 15, 1)], [29]))
set_option maxRecDepth 20000 in
theorem v_allRips14_1_1 {PT : PTy} (hp : HP4 PT) : vcOk PT w_allRips14_1_1 := vc_of (fun ρ α hB hF => by
  obtain ⟨f0, f1, f2, f3, f4, -⟩ := hF
  have e94 : PT 94 = P_rps := hp.2.2.2.1
  simp only [hF2, hF3, hF16, hF20, hFp_94, e94, P_rps, den_s, den_c, Int.add_zero, List.map_cons, List.map_nil] at f0 f1 f2 f3 f4 ⊢
  have b2 : (1 : Int) ≤ ρ 2 ∧ ρ 2 ≤ 8 := hB 2 (1, 8) rfl
  have b14 : ((-2147483648) : Int) ≤ ρ 14 ∧ ρ 14 ≤ 2147483647 := hB 14 ((-2147483648), 2147483647) rfl
  have b15 : (0 : Int) ≤ ρ 15 ∧ ρ 15 ≤ 7 := hB 15 (0, 7) rfl
  have b16 : ((-2147483648) : Int) ≤ ρ 16 ∧ ρ 16 ≤ 2147483647 := hB 16 ((-2147483648), 2147483647) rfl
  have b17 : ((-2147483648) : Int) ≤ ρ 17 ∧ ρ 17 ≤ 2147483647 := hB 17 ((-2147483648), 2147483647) rfl
  clear hB
  generalize ρ 2 = r2, ρ 14 = r14, ρ 15 = r15, ρ 16 = r16, ρ 17 = r17, α 29 = a29 at *
  subst f0
  subst f1
  first
    | omega
    | (rw [show r2 = r15 by omega]; exact f3)
    | (rw [foldI_s (by omega), ← f3]))
def w_allRips14_1_2 : VC := (([(0, 23), (0, 49), (1, 8), (0, 11), (0, 9), (0, 6), (0, 6), (0, 8), (0, 9), (0, 49), (0, 49), ((-2147483648), 2147483647), ((-2147483648), 2147483647), (0, 5), ((-2147483648), 2147483647), (0, 7), ((-2147483648), 2147483647), ((-2147483648), 2147483647)]), [(16, [(some 17, 0), (some 14, 0), (some 16, 0)], []), (20, [(some 16, 0), (some 15, 0)], [29]), (2, [(some 15, 0), (some 2, 0)], []), (94, [(some 14, 0), (some 15, 0)], [29]), (3, [(some 2, 0), (some 15, 0)], [])], (3, [(some 2, 0), (some 15, 1)], []))
set_option maxRecDepth 20000 in
theorem v_allRips14_1_2 {PT : PTy} (hp : HP4 PT) : vcOk PT w_allRips14_1_2 := vc_of (fun ρ α hB hF => by
  obtain ⟨f0, f1, f2, f3, f4, -⟩ := hF
  have e94 : PT 94 = P_rps := hp.2.2.2.1
  simp only [hF2, hF3, hF16, hF20, hFp_94, e94, P_rps, den_s, den_c, Int.add_zero, List.map_cons, List.map_nil] at f0 f1 f2 f3 f4 ⊢
  have b2 : (1 : Int) ≤ ρ 2 ∧ ρ 2 ≤ 8 := hB 2 (1, 8) rfl
  have b14 : ((-2147483648) : Int) ≤ ρ 14 ∧ ρ 14 ≤ 2147483647 := hB 14 ((-2147483648), 2147483647) rfl
  have b15 : (0 : Int) ≤ ρ 15 ∧ ρ 15 ≤ 7 := hB 15 (0, 7) rfl
  have b16 : ((-2147483648) : Int) ≤ ρ 16 ∧ ρ 16 ≤ 2147483647 := hB 16 ((-2147483648), 2147483647) rfl
  have b17 : ((-2147483648) : Int) ≤ ρ 17 ∧ ρ 17 ≤ 2147483647 := hB 17 ((-2147483648), 2147483647) rfl
  clear hB
  generalize ρ 2 = r2, ρ 14 = r14, ρ 15 = r15, ρ 16 = r16, ρ 17 = r17, α 29 = a29 at *
  subst f0
  subst f1
  first
    | omega
    | (rw [show r2 = r15 by omega]; exact f3)
    | (rw [foldI_s (by omega), ← f3]))
set_option maxRecDepth 1000000 in
theorem k_allRips14 {PT : PTy} (hp : HP4 PT) : wfX c_allRips14 = true ∧ xcOk PT c_allRips14 := xctr (xl0) c_allRips14 35 mX0_allRips rfl h_allRips14 (by decide +kernel) (by decide +kernel) (by decide) (vcs_by [w_allRips14_0_0, w_allRips14_0_1] (by decide +kernel) (vc (v_allRips14_0_0 hp) (vc (v_allRips14_0_1 hp) vn))) (fmc (vcs_by [w_allRips14_1_0, w_allRips14_1_1, w_allRips14_1_2] (by decide +kernel) (vc (v_allRips14_1_0 hp) (vc (v_allRips14_1_1 hp) (vc (v_allRips14_1_2 hp) vn)))) fmn)
def c_fill29_35 : XC := (202, 0, (bX), [.inr (.inl 29), .inl (none, 0)], (gX 35), [], [((bX), none, (gX 35), (ansT 58 [(29, 58)]), 59, [])])
def h_fill29_35 : List XH := [(5, (bX ++ [(0, 8)]), [some (.inr (.inl 29)), some (.inl (none, 0)), some (.inl (some 14, 0)), some (.inl (none, 8))], (gX 35), (ansT 58 [(29, 58)]), 59, [], [(true, (none, 1)), (true, (some 14, 0))])]
set_option maxRecDepth 1000000 in
theorem k_fill29_35 {PT : PTy} (hp : HP4 PT) : wfX c_fill29_35 = true ∧ xcOk PT c_fill29_35 := xctr (xl0) c_fill29_35 30 mJ7_fill_53178 rfl h_fill29_35 (by decide +kernel) (by decide +kernel) (by decide) (vcs_by [] (by decide +kernel) vn) (fmc (vcs_by [] (by decide +kernel) vn) fmn)
def c_fill30_35 : XC := (202, 0, (bX), [.inr (.inl 30), .inl (none, 0)], (gX 35), [], [((bX), none, (gX 35), (ansT 58 [(30, 58)]), 59, [])])
def h_fill30_35 : List XH := [(5, (bX ++ [(0, 11)]), [some (.inr (.inl 30)), some (.inl (none, 0)), some (.inl (some 14, 0)), some (.inl (none, 11))], (gX 35), (ansT 58 [(30, 58)]), 59, [], [(true, (none, 1)), (true, (some 14, 0))])]
set_option maxRecDepth 1000000 in
theorem k_fill30_35 {PT : PTy} (hp : HP4 PT) : wfX c_fill30_35 = true ∧ xcOk PT c_fill30_35 := xctr (xl0) c_fill30_35 30 mJ7_fill_53178 rfl h_fill30_35 (by decide +kernel) (by decide +kernel) (by decide) (vcs_by [] (by decide +kernel) vn) (fmc (vcs_by [] (by decide +kernel) vn) fmn)
def c_begin35 : XC := (4, 1, (bX), [.inr (.inl 5)], (gX 35), [], [((bX), none, (hst (gX 35) [(5, .inr (.inr (.inr (0, [.inr (.inl 6), .inr (.inl 9), .inr (.inl 14), .inr (.inl 18), .inr (.inl 22), .inr (.inl 26), .inr (.inl 27), .inr (.inl 28), .inr (.inl 29), .inr (.inl 30), .inl (some 9, 0), .inl (none, 0), .inl (some 11, 0), .inl (some 12, 0), .inr (.inl 35)]))))]), (ansT 58 [(28, 58), (29, 59), (30, 60)]), 61, [])])
def h_begin35 : List XH := []
set_option maxRecDepth 1000000 in
theorem k_begin35 {PT : PTy} (hp : HP4 PT) : wfX c_begin35 = true ∧ xcOk PT c_begin35 := xctr (xl (k_fill29_35 hp) (xl (k_fill30_35 hp) (xl0))) c_begin35 41 mX0_begin rfl h_begin35 (by decide +kernel) (by decide +kernel) (by decide) (vcs_by [] (by decide +kernel) vn) fmn
def c_advance35 : XC := (5, 2, (bX ++ [(0, 23)]), [.inr (.inl 5), .inl (some 14, 0)], (gX 35), [(87, [(some 9, 0)], [26, 27])], [((bX ++ [(0, 23), (0, 49)]), none, (hst (gX 35) [(5, .inr (.inr (.inr (0, [.inr (.inl 6), .inr (.inl 9), .inr (.inl 14), .inr (.inl 18), .inr (.inl 22), .inr (.inl 26), .inr (.inl 27), .inr (.inl 28), .inr (.inl 29), .inr (.inl 30), .inl (some 9, 0), .inl (some 15, 0), .inl (some 11, 0), .inl (some 12, 0), .inr (.inl 35)]))))]), (ansT 58 [(28, 58), (29, 59), (30, 60)]), 61, [])])
def h_advance35 : List XH := [(0, (bX ++ [(0, 23), (0, 49)]), [some (.inr (.inl 5)), some (.inl (some 14, 0)), none], (hst (gX 35) [(5, .inr (.inr (.inr (0, [.inr (.inl 6), .inr (.inl 9), .inr (.inl 14), .inr (.inl 18), .inr (.inl 22), .inr (.inl 26), .inr (.inl 27), .inr (.inl 28), .inr (.inl 29), .inr (.inl 30), .inl (some 9, 0), .inl (some 15, 0), .inl (some 11, 0), .inl (some 12, 0), .inr (.inl 35)]))))]), (ansT 58 [(28, 58), (29, 59), (30, 60)]), 61, [], [(true, (none, 1)), (true, (some 15, 0))])]
def w_advance35_1_0 : VC := (([(0, 23), (0, 49), (0, 8), (0, 11), (0, 9), (0, 6), (0, 6), (0, 8), (0, 9), (1, 49), (0, 49), ((-2147483648), 2147483647), ((-2147483648), 2147483647), (0, 5), (0, 23), (0, 48), (0, 119), (5, 120), (0, 10), (0, 119), (0, 4)]), [(25, [(some 20, 0), (none, 0), (none, 3)], []), (8, [(some 20, 0), (some 19, 0), (none, 5)], []), (20, [(some 19, 0), (some 15, 0)], [26]), (20, [(some 18, 0), (some 15, 0)], [27]), (2, [(some 16, 0), (some 17, 0)], []), (6, [(some 17, 0), (none, 5), (some 14, 1)], []), (20, [(some 16, 0), (some 15, 0)], [26]), (2, [(some 15, 0), (some 9, 0)], []), (87, [(some 9, 0)], [26, 27])], (3, [(some 18, 0), (none, 0)], []))
set_option maxRecDepth 20000 in
theorem v_advance35_1_0 {PT : PTy} (hp : HP4 PT) : vcOk PT w_advance35_1_0 := vc_of (fun ρ α hB hF => by
  obtain ⟨f0, f1, f2, f3, f4, f5, f6, f7, f8, -⟩ := hF
  have e87 : PT 87 = P_pr := hp.1.2.2.2.2.2.2.2.2.1
  simp only [hF2, hF3, hF6, hF8, hF20, hF25, hFp_87, e87, P_pr, den_s, den_c, Int.add_zero, List.map_cons, List.map_nil] at f0 f1 f2 f3 f4 f5 f6 f7 f8 ⊢
  have b9 : (1 : Int) ≤ ρ 9 ∧ ρ 9 ≤ 49 := hB 9 (1, 49) rfl
  have b14 : (0 : Int) ≤ ρ 14 ∧ ρ 14 ≤ 23 := hB 14 (0, 23) rfl
  have b15 : (0 : Int) ≤ ρ 15 ∧ ρ 15 ≤ 48 := hB 15 (0, 48) rfl
  have b16 : (0 : Int) ≤ ρ 16 ∧ ρ 16 ≤ 119 := hB 16 (0, 119) rfl
  have b17 : (5 : Int) ≤ ρ 17 ∧ ρ 17 ≤ 120 := hB 17 (5, 120) rfl
  have b18 : (0 : Int) ≤ ρ 18 ∧ ρ 18 ≤ 10 := hB 18 (0, 10) rfl
  have b19 : (0 : Int) ≤ ρ 19 ∧ ρ 19 ≤ 119 := hB 19 (0, 119) rfl
  have b20 : (0 : Int) ≤ ρ 20 ∧ ρ 20 ≤ 4 := hB 20 (0, 4) rfl
  clear hB
  generalize ρ 9 = r9, ρ 14 = r14, ρ 15 = r15, ρ 16 = r16, ρ 17 = r17, ρ 18 = r18, ρ 19 = r19, ρ 20 = r20, α 26 = a26, α 27 = a27 at *
  subst f1
  subst f2
  subst f3
  subst f5
  subst f6
  first
    | omega
    | (have hpr := f8 r15 (by omega) (by omega) (by omega); omega))
def w_advance35_1_1 : VC := (([(0, 23), (0, 49), (0, 8), (0, 11), (0, 9), (0, 6), (0, 6), (0, 8), (0, 9), (1, 49), (0, 49), ((-2147483648), 2147483647), ((-2147483648), 2147483647), (0, 5), (0, 23), (0, 48), (0, 119), (5, 120), (0, 10), (0, 119), (0, 4)]), [(25, [(some 20, 0), (none, 0), (none, 3)], []), (8, [(some 20, 0), (some 19, 0), (none, 5)], []), (20, [(some 19, 0), (some 15, 0)], [26]), (20, [(some 18, 0), (some 15, 0)], [27]), (2, [(some 16, 0), (some 17, 0)], []), (6, [(some 17, 0), (none, 5), (some 14, 1)], []), (20, [(some 16, 0), (some 15, 0)], [26]), (2, [(some 15, 0), (some 9, 0)], []), (87, [(some 9, 0)], [26, 27])], (3, [(none, 8), (some 18, 0)], []))
set_option maxRecDepth 20000 in
theorem v_advance35_1_1 {PT : PTy} (hp : HP4 PT) : vcOk PT w_advance35_1_1 := vc_of (fun ρ α hB hF => by
  obtain ⟨f0, f1, f2, f3, f4, f5, f6, f7, f8, -⟩ := hF
  have e87 : PT 87 = P_pr := hp.1.2.2.2.2.2.2.2.2.1
  simp only [hF2, hF3, hF6, hF8, hF20, hF25, hFp_87, e87, P_pr, den_s, den_c, Int.add_zero, List.map_cons, List.map_nil] at f0 f1 f2 f3 f4 f5 f6 f7 f8 ⊢
  have b9 : (1 : Int) ≤ ρ 9 ∧ ρ 9 ≤ 49 := hB 9 (1, 49) rfl
  have b14 : (0 : Int) ≤ ρ 14 ∧ ρ 14 ≤ 23 := hB 14 (0, 23) rfl
  have b15 : (0 : Int) ≤ ρ 15 ∧ ρ 15 ≤ 48 := hB 15 (0, 48) rfl
  have b16 : (0 : Int) ≤ ρ 16 ∧ ρ 16 ≤ 119 := hB 16 (0, 119) rfl
  have b17 : (5 : Int) ≤ ρ 17 ∧ ρ 17 ≤ 120 := hB 17 (5, 120) rfl
  have b18 : (0 : Int) ≤ ρ 18 ∧ ρ 18 ≤ 10 := hB 18 (0, 10) rfl
  have b19 : (0 : Int) ≤ ρ 19 ∧ ρ 19 ≤ 119 := hB 19 (0, 119) rfl
  have b20 : (0 : Int) ≤ ρ 20 ∧ ρ 20 ≤ 4 := hB 20 (0, 4) rfl
  clear hB
  generalize ρ 9 = r9, ρ 14 = r14, ρ 15 = r15, ρ 16 = r16, ρ 17 = r17, ρ 18 = r18, ρ 19 = r19, ρ 20 = r20, α 26 = a26, α 27 = a27 at *
  subst f1
  subst f2
  subst f3
  subst f5
  subst f6
  first
    | omega
    | (have hpr := f8 r15 (by omega) (by omega) (by omega); omega))
def w_advance35_1_2 : VC := (([(0, 23), (0, 49), (0, 8), (0, 11), (0, 9), (0, 6), (0, 6), (0, 8), (0, 9), (1, 49), (0, 49), ((-2147483648), 2147483647), ((-2147483648), 2147483647), (0, 5), (0, 23), (0, 48), (0, 119), (5, 120), (0, 10), (0, 119), (1, 1), ((-2147483648), 2147483647), (0, 0)]), [(0, [(some 22, 0), (none, 0)], []), (10, [(some 22, 0), (some 21, 0), (none, 1)], []), (14, [(some 21, 0), (some 11, 0), (some 18, 0)], []), (0, [(some 20, 0), (none, 1)], []), (8, [(some 20, 0), (some 19, 0), (none, 5)], []), (20, [(some 19, 0), (some 15, 0)], [26]), (20, [(some 18, 0), (some 15, 0)], [27]), (2, [(some 16, 0), (some 17, 0)], []), (6, [(some 17, 0), (none, 5), (some 14, 1)], []), (20, [(some 16, 0), (some 15, 0)], [26]), (2, [(some 15, 0), (some 9, 0)], []), (87, [(some 9, 0)], [26, 27])], (3, [(some 18, 0), (none, 0)], []))
set_option maxRecDepth 20000 in
theorem v_advance35_1_2 {PT : PTy} (hp : HP4 PT) : vcOk PT w_advance35_1_2 := vc_of (fun ρ α hB hF => by
  obtain ⟨f0, f1, f2, f3, f4, f5, f6, f7, f8, f9, f10, f11, -⟩ := hF
  have e87 : PT 87 = P_pr := hp.1.2.2.2.2.2.2.2.2.1
  simp only [hF0, hF2, hF3, hF6, hF8, hF10, hF14, hF20, hFp_87, e87, P_pr, den_s, den_c, Int.add_zero, List.map_cons, List.map_nil] at f0 f1 f2 f3 f4 f5 f6 f7 f8 f9 f10 f11 ⊢
  have b9 : (1 : Int) ≤ ρ 9 ∧ ρ 9 ≤ 49 := hB 9 (1, 49) rfl
  have b11 : ((-2147483648) : Int) ≤ ρ 11 ∧ ρ 11 ≤ 2147483647 := hB 11 ((-2147483648), 2147483647) rfl
  have b14 : (0 : Int) ≤ ρ 14 ∧ ρ 14 ≤ 23 := hB 14 (0, 23) rfl
  have b15 : (0 : Int) ≤ ρ 15 ∧ ρ 15 ≤ 48 := hB 15 (0, 48) rfl
  have b16 : (0 : Int) ≤ ρ 16 ∧ ρ 16 ≤ 119 := hB 16 (0, 119) rfl
  have b17 : (5 : Int) ≤ ρ 17 ∧ ρ 17 ≤ 120 := hB 17 (5, 120) rfl
  have b18 : (0 : Int) ≤ ρ 18 ∧ ρ 18 ≤ 10 := hB 18 (0, 10) rfl
  have b19 : (0 : Int) ≤ ρ 19 ∧ ρ 19 ≤ 119 := hB 19 (0, 119) rfl
  have b20 : (1 : Int) ≤ ρ 20 ∧ ρ 20 ≤ 1 := hB 20 (1, 1) rfl
  have b21 : ((-2147483648) : Int) ≤ ρ 21 ∧ ρ 21 ≤ 2147483647 := hB 21 ((-2147483648), 2147483647) rfl
  have b22 : (0 : Int) ≤ ρ 22 ∧ ρ 22 ≤ 0 := hB 22 (0, 0) rfl
  clear hB
  generalize ρ 9 = r9, ρ 11 = r11, ρ 14 = r14, ρ 15 = r15, ρ 16 = r16, ρ 17 = r17, ρ 18 = r18, ρ 19 = r19, ρ 20 = r20, ρ 21 = r21, ρ 22 = r22, α 26 = a26, α 27 = a27 at *
  subst f1
  subst f2
  subst f4
  subst f5
  subst f6
  subst f8
  subst f9
  first
    | omega
    | (have hpr := f11 r15 (by omega) (by omega) (by omega); omega))
def w_advance35_1_3 : VC := (([(0, 23), (0, 49), (0, 8), (0, 11), (0, 9), (0, 6), (0, 6), (0, 8), (0, 9), (1, 49), (0, 49), ((-2147483648), 2147483647), ((-2147483648), 2147483647), (0, 5), (0, 23), (0, 48), (0, 119), (5, 120), (0, 10), (0, 119), (1, 1), ((-2147483648), 2147483647), (0, 0)]), [(0, [(some 22, 0), (none, 0)], []), (10, [(some 22, 0), (some 21, 0), (none, 1)], []), (14, [(some 21, 0), (some 11, 0), (some 18, 0)], []), (0, [(some 20, 0), (none, 1)], []), (8, [(some 20, 0), (some 19, 0), (none, 5)], []), (20, [(some 19, 0), (some 15, 0)], [26]), (20, [(some 18, 0), (some 15, 0)], [27]), (2, [(some 16, 0), (some 17, 0)], []), (6, [(some 17, 0), (none, 5), (some 14, 1)], []), (20, [(some 16, 0), (some 15, 0)], [26]), (2, [(some 15, 0), (some 9, 0)], []), (87, [(some 9, 0)], [26, 27])], (3, [(none, 8), (some 18, 0)], []))
set_option maxRecDepth 20000 in
theorem v_advance35_1_3 {PT : PTy} (hp : HP4 PT) : vcOk PT w_advance35_1_3 := vc_of (fun ρ α hB hF => by
  obtain ⟨f0, f1, f2, f3, f4, f5, f6, f7, f8, f9, f10, f11, -⟩ := hF
  have e87 : PT 87 = P_pr := hp.1.2.2.2.2.2.2.2.2.1
  simp only [hF0, hF2, hF3, hF6, hF8, hF10, hF14, hF20, hFp_87, e87, P_pr, den_s, den_c, Int.add_zero, List.map_cons, List.map_nil] at f0 f1 f2 f3 f4 f5 f6 f7 f8 f9 f10 f11 ⊢
  have b9 : (1 : Int) ≤ ρ 9 ∧ ρ 9 ≤ 49 := hB 9 (1, 49) rfl
  have b11 : ((-2147483648) : Int) ≤ ρ 11 ∧ ρ 11 ≤ 2147483647 := hB 11 ((-2147483648), 2147483647) rfl
  have b14 : (0 : Int) ≤ ρ 14 ∧ ρ 14 ≤ 23 := hB 14 (0, 23) rfl
  have b15 : (0 : Int) ≤ ρ 15 ∧ ρ 15 ≤ 48 := hB 15 (0, 48) rfl
  have b16 : (0 : Int) ≤ ρ 16 ∧ ρ 16 ≤ 119 := hB 16 (0, 119) rfl
  have b17 : (5 : Int) ≤ ρ 17 ∧ ρ 17 ≤ 120 := hB 17 (5, 120) rfl
  have b18 : (0 : Int) ≤ ρ 18 ∧ ρ 18 ≤ 10 := hB 18 (0, 10) rfl
  have b19 : (0 : Int) ≤ ρ 19 ∧ ρ 19 ≤ 119 := hB 19 (0, 119) rfl
  have b20 : (1 : Int) ≤ ρ 20 ∧ ρ 20 ≤ 1 := hB 20 (1, 1) rfl
  have b21 : ((-2147483648) : Int) ≤ ρ 21 ∧ ρ 21 ≤ 2147483647 := hB 21 ((-2147483648), 2147483647) rfl
  have b22 : (0 : Int) ≤ ρ 22 ∧ ρ 22 ≤ 0 := hB 22 (0, 0) rfl
  clear hB
  generalize ρ 9 = r9, ρ 11 = r11, ρ 14 = r14, ρ 15 = r15, ρ 16 = r16, ρ 17 = r17, ρ 18 = r18, ρ 19 = r19, ρ 20 = r20, ρ 21 = r21, ρ 22 = r22, α 26 = a26, α 27 = a27 at *
  subst f1
  subst f2
  subst f4
  subst f5
  subst f6
  subst f8
  subst f9
  first
    | omega
    | (have hpr := f11 r15 (by omega) (by omega) (by omega); omega))
def w_advance35_1_4 : VC := (([(0, 23), (0, 49), (0, 8), (0, 11), (0, 9), (0, 6), (0, 6), (0, 8), (0, 9), (1, 49), (0, 49), ((-2147483648), 2147483647), ((-2147483648), 2147483647), (0, 5), (0, 23), (0, 48), (0, 119), (5, 120), (0, 10), (0, 119), (3, 3), ((-2147483648), 2147483647), (0, 0)]), [(0, [(some 22, 0), (none, 0)], []), (10, [(some 22, 0), (some 21, 0), (none, 1)], []), (14, [(some 21, 0), (some 12, 0), (some 18, 0)], []), (0, [(some 20, 0), (none, 3)], []), (8, [(some 20, 0), (some 19, 0), (none, 5)], []), (20, [(some 19, 0), (some 15, 0)], [26]), (20, [(some 18, 0), (some 15, 0)], [27]), (2, [(some 16, 0), (some 17, 0)], []), (6, [(some 17, 0), (none, 5), (some 14, 1)], []), (20, [(some 16, 0), (some 15, 0)], [26]), (2, [(some 15, 0), (some 9, 0)], []), (87, [(some 9, 0)], [26, 27])], (3, [(some 18, 0), (none, 0)], []))
set_option maxRecDepth 20000 in
theorem v_advance35_1_4 {PT : PTy} (hp : HP4 PT) : vcOk PT w_advance35_1_4 := vc_of (fun ρ α hB hF => by
  obtain ⟨f0, f1, f2, f3, f4, f5, f6, f7, f8, f9, f10, f11, -⟩ := hF
  have e87 : PT 87 = P_pr := hp.1.2.2.2.2.2.2.2.2.1
  simp only [hF0, hF2, hF3, hF6, hF8, hF10, hF14, hF20, hFp_87, e87, P_pr, den_s, den_c, Int.add_zero, List.map_cons, List.map_nil] at f0 f1 f2 f3 f4 f5 f6 f7 f8 f9 f10 f11 ⊢
  have b9 : (1 : Int) ≤ ρ 9 ∧ ρ 9 ≤ 49 := hB 9 (1, 49) rfl
  have b12 : ((-2147483648) : Int) ≤ ρ 12 ∧ ρ 12 ≤ 2147483647 := hB 12 ((-2147483648), 2147483647) rfl
  have b14 : (0 : Int) ≤ ρ 14 ∧ ρ 14 ≤ 23 := hB 14 (0, 23) rfl
  have b15 : (0 : Int) ≤ ρ 15 ∧ ρ 15 ≤ 48 := hB 15 (0, 48) rfl
  have b16 : (0 : Int) ≤ ρ 16 ∧ ρ 16 ≤ 119 := hB 16 (0, 119) rfl
  have b17 : (5 : Int) ≤ ρ 17 ∧ ρ 17 ≤ 120 := hB 17 (5, 120) rfl
  have b18 : (0 : Int) ≤ ρ 18 ∧ ρ 18 ≤ 10 := hB 18 (0, 10) rfl
  have b19 : (0 : Int) ≤ ρ 19 ∧ ρ 19 ≤ 119 := hB 19 (0, 119) rfl
  have b20 : (3 : Int) ≤ ρ 20 ∧ ρ 20 ≤ 3 := hB 20 (3, 3) rfl
  have b21 : ((-2147483648) : Int) ≤ ρ 21 ∧ ρ 21 ≤ 2147483647 := hB 21 ((-2147483648), 2147483647) rfl
  have b22 : (0 : Int) ≤ ρ 22 ∧ ρ 22 ≤ 0 := hB 22 (0, 0) rfl
  clear hB
  generalize ρ 9 = r9, ρ 12 = r12, ρ 14 = r14, ρ 15 = r15, ρ 16 = r16, ρ 17 = r17, ρ 18 = r18, ρ 19 = r19, ρ 20 = r20, ρ 21 = r21, ρ 22 = r22, α 26 = a26, α 27 = a27 at *
  subst f1
  subst f2
  subst f4
  subst f5
  subst f6
  subst f8
  subst f9
  first
    | omega
    | (have hpr := f11 r15 (by omega) (by omega) (by omega); omega))
def w_advance35_1_5 : VC := (([(0, 23), (0, 49), (0, 8), (0, 11), (0, 9), (0, 6), (0, 6), (0, 8), (0, 9), (1, 49), (0, 49), ((-2147483648), 2147483647), ((-2147483648), 2147483647), (0, 5), (0, 23), (0, 48), (0, 119), (5, 120), (0, 10), (0, 119), (3, 3), ((-2147483648), 2147483647), (0, 0)]), [(0, [(some 22, 0), (none, 0)], []), (10, [(some 22, 0), (some 21, 0), (none, 1)], []), (14, [(some 21, 0), (some 12, 0), (some 18, 0)], []), (0, [(some 20, 0), (none, 3)], []), (8, [(some 20, 0), (some 19, 0), (none, 5)], []), (20, [(some 19, 0), (some 15, 0)], [26]), (20, [(some 18, 0), (some 15, 0)], [27]), (2, [(some 16, 0), (some 17, 0)], []), (6, [(some 17, 0), (none, 5), (some 14, 1)], []), (20, [(some 16, 0), (some 15, 0)], [26]), (2, [(some 15, 0), (some 9, 0)], []), (87, [(some 9, 0)], [26, 27])], (3, [(none, 8), (some 18, 0)], []))
set_option maxRecDepth 20000 in
theorem v_advance35_1_5 {PT : PTy} (hp : HP4 PT) : vcOk PT w_advance35_1_5 := vc_of (fun ρ α hB hF => by
  obtain ⟨f0, f1, f2, f3, f4, f5, f6, f7, f8, f9, f10, f11, -⟩ := hF
  have e87 : PT 87 = P_pr := hp.1.2.2.2.2.2.2.2.2.1
  simp only [hF0, hF2, hF3, hF6, hF8, hF10, hF14, hF20, hFp_87, e87, P_pr, den_s, den_c, Int.add_zero, List.map_cons, List.map_nil] at f0 f1 f2 f3 f4 f5 f6 f7 f8 f9 f10 f11 ⊢
  have b9 : (1 : Int) ≤ ρ 9 ∧ ρ 9 ≤ 49 := hB 9 (1, 49) rfl
  have b12 : ((-2147483648) : Int) ≤ ρ 12 ∧ ρ 12 ≤ 2147483647 := hB 12 ((-2147483648), 2147483647) rfl
  have b14 : (0 : Int) ≤ ρ 14 ∧ ρ 14 ≤ 23 := hB 14 (0, 23) rfl
  have b15 : (0 : Int) ≤ ρ 15 ∧ ρ 15 ≤ 48 := hB 15 (0, 48) rfl
  have b16 : (0 : Int) ≤ ρ 16 ∧ ρ 16 ≤ 119 := hB 16 (0, 119) rfl
  have b17 : (5 : Int) ≤ ρ 17 ∧ ρ 17 ≤ 120 := hB 17 (5, 120) rfl
  have b18 : (0 : Int) ≤ ρ 18 ∧ ρ 18 ≤ 10 := hB 18 (0, 10) rfl
  have b19 : (0 : Int) ≤ ρ 19 ∧ ρ 19 ≤ 119 := hB 19 (0, 119) rfl
  have b20 : (3 : Int) ≤ ρ 20 ∧ ρ 20 ≤ 3 := hB 20 (3, 3) rfl
  have b21 : ((-2147483648) : Int) ≤ ρ 21 ∧ ρ 21 ≤ 2147483647 := hB 21 ((-2147483648), 2147483647) rfl
  have b22 : (0 : Int) ≤ ρ 22 ∧ ρ 22 ≤ 0 := hB 22 (0, 0) rfl
  clear hB
  generalize ρ 9 = r9, ρ 12 = r12, ρ 14 = r14, ρ 15 = r15, ρ 16 = r16, ρ 17 = r17, ρ 18 = r18, ρ 19 = r19, ρ 20 = r20, ρ 21 = r21, ρ 22 = r22, α 26 = a26, α 27 = a27 at *
  subst f1
  subst f2
  subst f4
  subst f5
  subst f6
  subst f8
  subst f9
  first
    | omega
    | (have hpr := f11 r15 (by omega) (by omega) (by omega); omega))
set_option maxRecDepth 1000000 in
theorem k_advance35 {PT : PTy} (hp : HP4 PT) : wfX c_advance35 = true ∧ xcOk PT c_advance35 := xctr (xl0) c_advance35 146 mX0_advance rfl h_advance35 (by decide +kernel) (by decide +kernel) (by decide) (vcs_by [] (by decide +kernel) vn) (fmc (vcs_by [w_advance35_1_0, w_advance35_1_1, w_advance35_1_2, w_advance35_1_3, w_advance35_1_4, w_advance35_1_5] (by decide +kernel) (vc (v_advance35_1_0 hp) (vc (v_advance35_1_1 hp) (vc (v_advance35_1_2 hp) (vc (v_advance35_1_3 hp) (vc (v_advance35_1_4 hp) (vc (v_advance35_1_5 hp) vn))))))) fmn)
def c_fittingBits35 : XC := (12, 1, (bX), [.inr (.inl 5)], (gX 35), [], [((bX ++ [((-2147483648), 2147483647)]), some (.inl (some 14, 0)), (gX 35), (List.range 58), 58, [])])
def h_fittingBits35 : List XH := [(4, (bX ++ [((-2147483648), 2147483647), (0, 8)]), [some (.inr (.inl 5)), some (.inl (some 14, 0)), some (.inl (some 15, 0))], (gX 35), (List.range 58), 58, [(3, [(some 2, 0), (some 15, 0)], [])], [(true, (none, 1)), (true, (some 15, 0))])]
def w_fittingBits35_0_0 : VC := ((bX), [], (3, [(some 2, 0), (none, 0)], []))
set_option maxRecDepth 20000 in
theorem v_fittingBits35_0_0 {PT : PTy} (hp : HP4 PT) : vcOk PT w_fittingBits35_0_0 := vc_of (fun ρ α hB hF => by
  simp only [hF3, den_s, den_c, Int.add_zero, List.map_cons, List.map_nil] at ⊢
  have b2 : (0 : Int) ≤ ρ 2 ∧ ρ 2 ≤ 8 := hB 2 (0, 8) rfl
  first | rfl | omega)
def w_fittingBits35_1_0 : VC := (([(0, 23), (0, 49), (1, 8), (0, 11), (0, 9), (0, 6), (0, 6), (0, 8), (0, 9), (0, 49), (0, 49), ((-2147483648), 2147483647), ((-2147483648), 2147483647), (0, 5), ((-2147483648), 2147483647), (0, 7), (0, 99), (0, 9), (0, 0), (1, 128), ((-2147483648), 2147483647)]), [(11, [(some 20, 0), (some 14, 0), (some 19, 0)], []), (13, [(some 19, 0), (none, 1), (some 15, 0)], []), (1, [(none, 1), (none, 0)], []), (0, [(some 18, 0), (none, 0)], []), (5, [(some 18, 0), (some 16, 0), (some 17, 0)], []), (20, [(some 17, 0), (some 15, 0)], [8]), (20, [(some 16, 0), (some 15, 0)], [28]), (2, [(some 15, 0), (some 2, 0)], []), (3, [(some 2, 0), (some 15, 0)], [])], (3, [(some 2, 0), (some 15, 1)], []))
set_option maxRecDepth 20000 in
theorem v_fittingBits35_1_0 {PT : PTy} (hp : HP4 PT) : vcOk PT w_fittingBits35_1_0 := vc_of (fun ρ α hB hF => by
  obtain ⟨f0, f1, -, f3, f4, f5, f6, f7, f8, -⟩ := hF
  simp only [hF0, hF2, hF3, hF5, hF11, hF13, hF20, den_s, den_c, Int.add_zero, List.map_cons, List.map_nil] at f0 f1 f3 f4 f5 f6 f7 f8 ⊢
  have b2 : (1 : Int) ≤ ρ 2 ∧ ρ 2 ≤ 8 := hB 2 (1, 8) rfl
  have b14 : ((-2147483648) : Int) ≤ ρ 14 ∧ ρ 14 ≤ 2147483647 := hB 14 ((-2147483648), 2147483647) rfl
  have b15 : (0 : Int) ≤ ρ 15 ∧ ρ 15 ≤ 7 := hB 15 (0, 7) rfl
  have b16 : (0 : Int) ≤ ρ 16 ∧ ρ 16 ≤ 99 := hB 16 (0, 99) rfl
  have b17 : (0 : Int) ≤ ρ 17 ∧ ρ 17 ≤ 9 := hB 17 (0, 9) rfl
  have b18 : (0 : Int) ≤ ρ 18 ∧ ρ 18 ≤ 0 := hB 18 (0, 0) rfl
  have b19 : (1 : Int) ≤ ρ 19 ∧ ρ 19 ≤ 128 := hB 19 (1, 128) rfl
  have b20 : ((-2147483648) : Int) ≤ ρ 20 ∧ ρ 20 ≤ 2147483647 := hB 20 ((-2147483648), 2147483647) rfl
  clear hB
  generalize ρ 2 = r2, ρ 14 = r14, ρ 15 = r15, ρ 16 = r16, ρ 17 = r17, ρ 18 = r18, ρ 19 = r19, ρ 20 = r20, α 8 = a8, α 28 = a28 at *
  subst f0
  subst f1
  subst f4
  subst f5
  subst f6
  first
    | omega
    | (rw [show r2 = r15 by omega]; exact f8)
    | (rw [foldI_s (by omega), ← f8]; first | (rw [if_pos (by omega)]) | (rw [if_neg (by omega)])))
def w_fittingBits35_1_1 : VC := (([(0, 23), (0, 49), (1, 8), (0, 11), (0, 9), (0, 6), (0, 6), (0, 8), (0, 9), (0, 49), (0, 49), ((-2147483648), 2147483647), ((-2147483648), 2147483647), (0, 5), ((-2147483648), 2147483647), (0, 7), (0, 99), (0, 9), ((-9), 99)]), [(0, [(none, 0), (none, 0)], []), (1, [(some 18, 0), (none, 1)], []), (1, [(some 18, 0), (none, 0)], []), (5, [(some 18, 0), (some 16, 0), (some 17, 0)], []), (20, [(some 17, 0), (some 15, 0)], [8]), (20, [(some 16, 0), (some 15, 0)], [28]), (2, [(some 15, 0), (some 2, 0)], []), (3, [(some 2, 0), (some 15, 0)], [])], (3, [(some 2, 0), (some 15, 1)], []))
set_option maxRecDepth 20000 in
theorem v_fittingBits35_1_1 {PT : PTy} (hp : HP4 PT) : vcOk PT w_fittingBits35_1_1 := vc_of (fun ρ α hB hF => by
  obtain ⟨-, f1, f2, f3, f4, f5, f6, f7, -⟩ := hF
  simp only [hF1, hF2, hF3, hF5, hF20, den_s, den_c, Int.add_zero, List.map_cons, List.map_nil] at f1 f2 f3 f4 f5 f6 f7 ⊢
  have b2 : (1 : Int) ≤ ρ 2 ∧ ρ 2 ≤ 8 := hB 2 (1, 8) rfl
  have b15 : (0 : Int) ≤ ρ 15 ∧ ρ 15 ≤ 7 := hB 15 (0, 7) rfl
  have b16 : (0 : Int) ≤ ρ 16 ∧ ρ 16 ≤ 99 := hB 16 (0, 99) rfl
  have b17 : (0 : Int) ≤ ρ 17 ∧ ρ 17 ≤ 9 := hB 17 (0, 9) rfl
  have b18 : ((-9) : Int) ≤ ρ 18 ∧ ρ 18 ≤ 99 := hB 18 ((-9), 99) rfl
  clear hB
  generalize ρ 2 = r2, ρ 15 = r15, ρ 16 = r16, ρ 17 = r17, ρ 18 = r18, α 8 = a8, α 28 = a28 at *
  subst f3
  subst f4
  subst f5
  first
    | omega
    | (rw [show r2 = r15 by omega]; exact f7)
    | (rw [foldI_s (by omega), ← f7]; first | (rw [if_pos (by omega)]) | (rw [if_neg (by omega)])))
def w_fittingBits35_1_2 : VC := (([(0, 23), (0, 49), (1, 8), (0, 11), (0, 9), (0, 6), (0, 6), (0, 8), (0, 9), (0, 49), (0, 49), ((-2147483648), 2147483647), ((-2147483648), 2147483647), (0, 5), ((-2147483648), 2147483647), (0, 7), (0, 99), (0, 9), (1, 1), (1, 128), ((-2147483648), 2147483647)]), [(11, [(some 20, 0), (some 14, 0), (some 19, 0)], []), (13, [(some 19, 0), (none, 1), (some 15, 0)], []), (1, [(none, 1), (none, 0)], []), (0, [(some 18, 0), (none, 1)], []), (1, [(some 18, 0), (none, 0)], []), (5, [(some 18, 0), (some 16, 0), (some 17, 0)], []), (20, [(some 17, 0), (some 15, 0)], [8]), (20, [(some 16, 0), (some 15, 0)], [28]), (2, [(some 15, 0), (some 2, 0)], []), (3, [(some 2, 0), (some 15, 0)], [])], (3, [(some 2, 0), (some 15, 1)], []))
set_option maxRecDepth 20000 in
theorem v_fittingBits35_1_2 {PT : PTy} (hp : HP4 PT) : vcOk PT w_fittingBits35_1_2 := vc_of (fun ρ α hB hF => by
  obtain ⟨f0, f1, -, f3, -, f5, f6, f7, f8, f9, -⟩ := hF
  simp only [hF0, hF2, hF3, hF5, hF11, hF13, hF20, den_s, den_c, Int.add_zero, List.map_cons, List.map_nil] at f0 f1 f3 f5 f6 f7 f8 f9 ⊢
  have b2 : (1 : Int) ≤ ρ 2 ∧ ρ 2 ≤ 8 := hB 2 (1, 8) rfl
  have b14 : ((-2147483648) : Int) ≤ ρ 14 ∧ ρ 14 ≤ 2147483647 := hB 14 ((-2147483648), 2147483647) rfl
  have b15 : (0 : Int) ≤ ρ 15 ∧ ρ 15 ≤ 7 := hB 15 (0, 7) rfl
  have b16 : (0 : Int) ≤ ρ 16 ∧ ρ 16 ≤ 99 := hB 16 (0, 99) rfl
  have b17 : (0 : Int) ≤ ρ 17 ∧ ρ 17 ≤ 9 := hB 17 (0, 9) rfl
  have b18 : (1 : Int) ≤ ρ 18 ∧ ρ 18 ≤ 1 := hB 18 (1, 1) rfl
  have b19 : (1 : Int) ≤ ρ 19 ∧ ρ 19 ≤ 128 := hB 19 (1, 128) rfl
  have b20 : ((-2147483648) : Int) ≤ ρ 20 ∧ ρ 20 ≤ 2147483647 := hB 20 ((-2147483648), 2147483647) rfl
  clear hB
  generalize ρ 2 = r2, ρ 14 = r14, ρ 15 = r15, ρ 16 = r16, ρ 17 = r17, ρ 18 = r18, ρ 19 = r19, ρ 20 = r20, α 8 = a8, α 28 = a28 at *
  subst f0
  subst f1
  subst f5
  subst f6
  subst f7
  first
    | omega
    | (rw [show r2 = r15 by omega]; exact f9)
    | (rw [foldI_s (by omega), ← f9]; first | (rw [if_pos (by omega)]) | (rw [if_neg (by omega)])))
set_option maxRecDepth 1000000 in
theorem k_fittingBits35 {PT : PTy} (hp : HP4 PT) : wfX c_fittingBits35 = true ∧ xcOk PT c_fittingBits35 := xctr (xl0) c_fittingBits35 57 mX0_fittingBits rfl h_fittingBits35 (by decide +kernel) (by decide +kernel) (by decide) (vcs_by [w_fittingBits35_0_0] (by decide +kernel) (vc (v_fittingBits35_0_0 hp) vn)) (fmc (vcs_by [w_fittingBits35_1_0, w_fittingBits35_1_1, w_fittingBits35_1_2] (by decide +kernel) (vc (v_fittingBits35_1_0 hp) (vc (v_fittingBits35_1_1 hp) (vc (v_fittingBits35_1_2 hp) vn)))) fmn)
def c_allRips35 : XC := (14, 0, (bX), [.inr (.inl 5)], (gX 35), [], [((bX ++ [((-2147483648), 2147483647)]), some (.inl (some 14, 0)), (gX 35), (List.range 58), 58, [])])
def h_allRips35 : List XH := [(4, (bX ++ [((-2147483648), 2147483647), (0, 8)]), [some (.inr (.inl 5)), some (.inl (some 14, 0)), some (.inl (some 15, 0))], (gX 35), (List.range 58), 58, [(3, [(some 2, 0), (some 15, 0)], [])], [(true, (none, 1)), (true, (some 15, 0))])]
def w_allRips35_0_0 : VC := ((bX), [], (3, [(some 2, 0), (none, 0)], []))
set_option maxRecDepth 20000 in
theorem v_allRips35_0_0 {PT : PTy} (hp : HP4 PT) : vcOk PT w_allRips35_0_0 := vc_of (fun ρ α hB hF => by
  simp only [hF3, den_s, den_c, Int.add_zero, List.map_cons, List.map_nil] at ⊢
  have b2 : (0 : Int) ≤ ρ 2 ∧ ρ 2 ≤ 8 := hB 2 (0, 8) rfl
  first | rfl | omega)
def w_allRips35_1_0 : VC := (([(0, 23), (0, 49), (1, 8), (0, 11), (0, 9), (0, 6), (0, 6), (0, 8), (0, 9), (0, 49), (0, 49), ((-2147483648), 2147483647), ((-2147483648), 2147483647), (0, 5), ((-2147483648), 2147483647), (0, 7), ((-2147483648), 2147483647), ((-2147483648), 2147483647)]), [(16, [(some 17, 0), (some 14, 0), (some 16, 0)], []), (20, [(some 16, 0), (some 15, 0)], [29]), (2, [(some 15, 0), (some 2, 0)], []), (3, [(some 2, 0), (some 15, 0)], [])], (3, [(some 2, 0), (some 15, 1)], []))
set_option maxRecDepth 20000 in
theorem v_allRips35_1_0 {PT : PTy} (hp : HP4 PT) : vcOk PT w_allRips35_1_0 := vc_of (fun ρ α hB hF => by
  obtain ⟨f0, f1, f2, f3, -⟩ := hF
  simp only [hF2, hF3, hF16, hF20, den_s, den_c, Int.add_zero, List.map_cons, List.map_nil] at f0 f1 f2 f3 ⊢
  have b2 : (1 : Int) ≤ ρ 2 ∧ ρ 2 ≤ 8 := hB 2 (1, 8) rfl
  have b14 : ((-2147483648) : Int) ≤ ρ 14 ∧ ρ 14 ≤ 2147483647 := hB 14 ((-2147483648), 2147483647) rfl
  have b15 : (0 : Int) ≤ ρ 15 ∧ ρ 15 ≤ 7 := hB 15 (0, 7) rfl
  have b16 : ((-2147483648) : Int) ≤ ρ 16 ∧ ρ 16 ≤ 2147483647 := hB 16 ((-2147483648), 2147483647) rfl
  have b17 : ((-2147483648) : Int) ≤ ρ 17 ∧ ρ 17 ≤ 2147483647 := hB 17 ((-2147483648), 2147483647) rfl
  clear hB
  generalize ρ 2 = r2, ρ 14 = r14, ρ 15 = r15, ρ 16 = r16, ρ 17 = r17, α 29 = a29 at *
  subst f0
  subst f1
  first
    | omega
    | (rw [show r2 = r15 by omega]; exact f3)
    | (rw [foldI_s (by omega), ← f3]))
set_option maxRecDepth 1000000 in
theorem k_allRips35 {PT : PTy} (hp : HP4 PT) : wfX c_allRips35 = true ∧ xcOk PT c_allRips35 := xctr (xl0) c_allRips35 35 mX0_allRips rfl h_allRips35 (by decide +kernel) (by decide +kernel) (by decide) (vcs_by [w_allRips35_0_0] (by decide +kernel) (vc (v_allRips35_0_0 hp) vn)) (fmc (vcs_by [w_allRips35_1_0] (by decide +kernel) (vc (v_allRips35_1_0 hp) vn)) fmn)
