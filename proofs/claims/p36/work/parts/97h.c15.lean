/-! ===== read; printed by wip/gen/x ===== -/
def c_xo_readC : XC := (53, 3, (bT ++ [((-2147483648), 2147483647)]), [.inr (.inl 0), .inl (some 14, 0)], (gX 999), [], [((bT ++ [((-2147483648), 2147483647), ((-11), 30), (0, 5), (0, 8)]), some (.inl (some 15, 0)), (hst (gX 999) [(0, .inr (.inr (.inr (6, [.inr (.inl 1), .inr (.inl 3), .inr (.inl 5), .inr (.inl 6), .inr (.inl 9), .inr (.inl 14), .inr (.inl 18), .inr (.inl 22), .inr (.inl 31), .inr (.inl 35), .inr (.inl 39), .inr (.inl 47), .inl (some 16, 0)])))), (14, .inr (.inr (.inr (4, [.inr (.inl 15), .inr (.inl 16), .inr (.inl 17), .inl (none, 8), .inl (some 17, 0)]))))]), (ansT 58 [(15, 58), (16, 59), (17, 60)]), 61, [(140, [(some 15, 0), (some 14, 0), (none, 0), (some 4, 0), (some 17, 0), (some 13, 0), (some 16, 0)], [45, 46, 41, 42, 43, 44, 15, 16, 58, 59])])])
def h_xo_readC : List XH := [(31, (bT ++ [(0, 3), (0, 30), (0, 60), (0, 8)]), [some (.inr (.inl 0)), some (.inl (some 14, 0)), some (.inl (some 15, 0)), some (.inl (some 16, 0)), none, none], (hst (gX 999) [(14, .inr (.inr (.inr (4, [.inr (.inl 15), .inr (.inl 16), .inr (.inl 17), .inl (none, 8), .inl (some 17, 0)]))))]), (ansT 58 [(15, 58), (16, 59), (17, 60)]), 61, [(141, [(some 15, 0), (some 16, 0), (some 4, 0), (some 17, 0), (some 14, 0)], [45, 46, 41, 42, 43, 44, 15, 16, 58, 59])], [(true, (none, 1)), (true, (some 16, 0))])]
def w_xo_readC_0_0 : VC := ((bT ++ [((-2147483648), (-1))]), [(0, [(none, 0), (none, 0)], []), (2, [(some 14, 0), (none, 0)], [])], (140, [(none, (-2)), (some 14, 0), (none, 0), (some 4, 0), (some 4, 0), (some 13, 0), (some 13, 0)], [45, 46, 41, 42, 43, 44, 15, 16, 15, 16]))
set_option maxRecDepth 20000 in
theorem v_xo_readC_0_0 {PT : PTy} (hp : HP12 PT) : vcOk PT w_xo_readC_0_0 := vc_of (fun ρ α hB hF => by
  obtain ⟨f0, f1, -⟩ := hF
  have e140 : PT 140 = P_rdX := hp.1.1.1.2.2.2.2.2.2.1
  simp only [hF0, hF2, hFp_140, e140, P_rdX, den_s, den_c, Int.add_zero, List.map_cons, List.map_nil] at f0 f1 ⊢
  have b4 : (0 : Int) ≤ ρ 4 ∧ ρ 4 ≤ 8 := hB 4 (0, 8) rfl
  have b13 : (0 : Int) ≤ ρ 13 ∧ ρ 13 ≤ 5 := hB 13 (0, 5) rfl
  have b14 : ((-2147483648) : Int) ≤ ρ 14 ∧ ρ 14 ≤ (-1) := hB 14 ((-2147483648), (-1)) rfl
  clear hB
  generalize ρ 4 = r4, ρ 13 = r13, ρ 14 = r14, α 15 = a15, α 16 = a16, α 41 = a41, α 42 = a42, α 43 = a43, α 44 = a44, α 45 = a45, α 46 = a46 at *
  first
    | omega
    | exact ⟨by omega, by omega, by omega, by omega, reI_z⟩
    | ((repeat' (first | apply And.intro | intro h)) <;> first | omega | rfl | trivial | (exfalso; omega) | (congr 1; omega) | (congr 1; (repeat' split) <;> first | rfl | (exfalso; omega))))
def w_xo_readC_0_1 : VC := ((bT ++ [(4, 2147483647)]), [(0, [(none, 0), (none, 0)], []), (2, [(none, 3), (some 14, 0)], []), (3, [(some 14, 0), (none, 0)], [])], (140, [(none, (-2)), (some 14, 0), (none, 0), (some 4, 0), (some 4, 0), (some 13, 0), (some 13, 0)], [45, 46, 41, 42, 43, 44, 15, 16, 15, 16]))
set_option maxRecDepth 20000 in
theorem v_xo_readC_0_1 {PT : PTy} (hp : HP12 PT) : vcOk PT w_xo_readC_0_1 := vc_of (fun ρ α hB hF => by
  obtain ⟨f0, f1, f2, -⟩ := hF
  have e140 : PT 140 = P_rdX := hp.1.1.1.2.2.2.2.2.2.1
  simp only [hF0, hF2, hF3, hFp_140, e140, P_rdX, den_s, den_c, Int.add_zero, List.map_cons, List.map_nil] at f0 f1 f2 ⊢
  have b4 : (0 : Int) ≤ ρ 4 ∧ ρ 4 ≤ 8 := hB 4 (0, 8) rfl
  have b13 : (0 : Int) ≤ ρ 13 ∧ ρ 13 ≤ 5 := hB 13 (0, 5) rfl
  have b14 : (4 : Int) ≤ ρ 14 ∧ ρ 14 ≤ 2147483647 := hB 14 (4, 2147483647) rfl
  clear hB
  generalize ρ 4 = r4, ρ 13 = r13, ρ 14 = r14, α 15 = a15, α 16 = a16, α 41 = a41, α 42 = a42, α 43 = a43, α 44 = a44, α 45 = a45, α 46 = a46 at *
  first
    | omega
    | exact ⟨by omega, by omega, by omega, by omega, reI_z⟩
    | ((repeat' (first | apply And.intro | intro h)) <;> first | omega | rfl | trivial | (exfalso; omega) | (congr 1; omega) | (congr 1; (repeat' split) <;> first | rfl | (exfalso; omega))))
def w_xo_readC_0_2 : VC := ((bT ++ [(0, 3), (0, 2)]), [(0, [(none, 0), (none, 0)], []), (1, [(some 15, 0), (none, (-1))], []), (20, [(some 15, 0), (some 14, 0)], [46]), (1, [(none, 1), (none, 0)], []), (3, [(none, 3), (some 14, 0)], []), (3, [(some 14, 0), (none, 0)], [])], (141, [(none, 0), (none, 0), (some 4, 0), (some 4, 0), (some 14, 0)], [45, 46, 41, 42, 43, 44, 15, 16, 15, 16]))
set_option maxRecDepth 20000 in
theorem v_xo_readC_0_2 {PT : PTy} (hp : HP12 PT) : vcOk PT w_xo_readC_0_2 := vc_of (fun ρ α hB hF => by
  obtain ⟨f0, f1, f2, f3, f4, f5, -⟩ := hF
  have e141 : PT 141 = P_rdXI := hp.1.1.1.2.2.2.2.2.2.2.1
  simp only [hF0, hF1, hF3, hF20, hFp_141, e141, P_rdXI, den_s, den_c, Int.add_zero, List.map_cons, List.map_nil] at f0 f1 f2 f3 f4 f5 ⊢
  have b4 : (0 : Int) ≤ ρ 4 ∧ ρ 4 ≤ 8 := hB 4 (0, 8) rfl
  have b14 : (0 : Int) ≤ ρ 14 ∧ ρ 14 ≤ 3 := hB 14 (0, 3) rfl
  have b15 : (0 : Int) ≤ ρ 15 ∧ ρ 15 ≤ 2 := hB 15 (0, 2) rfl
  clear hB
  generalize ρ 4 = r4, ρ 14 = r14, ρ 15 = r15, α 15 = a15, α 16 = a16, α 41 = a41, α 42 = a42, α 43 = a43, α 44 = a44, α 45 = a45, α 46 = a46 at *
  subst f2
  first
    | omega
    | exact ⟨by omega, by omega, by omega, by omega, reI_z⟩
    | ((repeat' (first | apply And.intro | intro h)) <;> first | omega | rfl | trivial | (exfalso; omega) | (congr 1; omega) | (congr 1; (repeat' split) <;> first | rfl | (exfalso; omega))))
def w_xo_readC_0_3 : VC := ((bT ++ [(0, 3), ((-1), (-1))]), [(1, [(none, 1), (none, 0)], []), (0, [(some 15, 0), (none, (-1))], []), (20, [(some 15, 0), (some 14, 0)], [46]), (1, [(none, 1), (none, 0)], []), (3, [(none, 3), (some 14, 0)], []), (3, [(some 14, 0), (none, 0)], [])], (140, [(none, (-11)), (some 14, 0), (none, 0), (some 4, 0), (some 4, 0), (some 13, 0), (none, 1)], [45, 46, 41, 42, 43, 44, 15, 16, 15, 16]))
set_option maxRecDepth 20000 in
theorem v_xo_readC_0_3 {PT : PTy} (hp : HP12 PT) : vcOk PT w_xo_readC_0_3 := vc_of (fun ρ α hB hF => by
  obtain ⟨f0, f1, f2, f3, f4, f5, -⟩ := hF
  have e140 : PT 140 = P_rdX := hp.1.1.1.2.2.2.2.2.2.1
  simp only [hF0, hF1, hF3, hF20, hFp_140, e140, P_rdX, den_s, den_c, Int.add_zero, List.map_cons, List.map_nil] at f0 f1 f2 f3 f4 f5 ⊢
  have b4 : (0 : Int) ≤ ρ 4 ∧ ρ 4 ≤ 8 := hB 4 (0, 8) rfl
  have b13 : (0 : Int) ≤ ρ 13 ∧ ρ 13 ≤ 5 := hB 13 (0, 5) rfl
  have b14 : (0 : Int) ≤ ρ 14 ∧ ρ 14 ≤ 3 := hB 14 (0, 3) rfl
  have b15 : ((-1) : Int) ≤ ρ 15 ∧ ρ 15 ≤ (-1) := hB 15 ((-1), (-1)) rfl
  clear hB
  generalize ρ 4 = r4, ρ 13 = r13, ρ 14 = r14, ρ 15 = r15, α 15 = a15, α 16 = a16, α 41 = a41, α 42 = a42, α 43 = a43, α 44 = a44, α 45 = a45, α 46 = a46 at *
  subst f2
  first
    | omega
    | exact ⟨by omega, by omega, by omega, by omega, reI_z⟩
    | ((repeat' (first | apply And.intro | intro h)) <;> first | omega | rfl | trivial | (exfalso; omega) | (congr 1; omega) | (congr 1; (repeat' split) <;> first | rfl | (exfalso; omega))))
def w_xo_readC_1_0 : VC := ((bT ++ [(0, 3), (0, 30), (0, 60), (0, 8), (0, 60)]), [(3, [(some 16, 1), (some 18, 0)], []), (20, [(some 18, 0), (some 14, 0)], [45]), (141, [(some 15, 0), (some 16, 0), (some 4, 0), (some 17, 0), (some 14, 0)], [45, 46, 41, 42, 43, 44, 15, 16, 58, 59])], (140, [(some 15, 0), (some 14, 0), (none, 0), (some 4, 0), (some 17, 0), (some 13, 0), (some 13, 0)], [45, 46, 41, 42, 43, 44, 15, 16, 58, 59]))
set_option maxRecDepth 20000 in
theorem v_xo_readC_1_0 {PT : PTy} (hp : HP12 PT) : vcOk PT w_xo_readC_1_0 := vc_of (fun ρ α hB hF => by
  obtain ⟨f0, f1, f2, -⟩ := hF
  have e140 : PT 140 = P_rdX := hp.1.1.1.2.2.2.2.2.2.1
  have e141 : PT 141 = P_rdXI := hp.1.1.1.2.2.2.2.2.2.2.1
  simp only [hF3, hF20, hFp_140, hFp_141, e140, e141, P_rdX, P_rdXI, den_s, den_c, Int.add_zero, List.map_cons, List.map_nil] at f0 f1 f2 ⊢
  have b4 : (0 : Int) ≤ ρ 4 ∧ ρ 4 ≤ 8 := hB 4 (0, 8) rfl
  have b13 : (0 : Int) ≤ ρ 13 ∧ ρ 13 ≤ 5 := hB 13 (0, 5) rfl
  have b14 : (0 : Int) ≤ ρ 14 ∧ ρ 14 ≤ 3 := hB 14 (0, 3) rfl
  have b15 : (0 : Int) ≤ ρ 15 ∧ ρ 15 ≤ 30 := hB 15 (0, 30) rfl
  have b16 : (0 : Int) ≤ ρ 16 ∧ ρ 16 ≤ 60 := hB 16 (0, 60) rfl
  have b17 : (0 : Int) ≤ ρ 17 ∧ ρ 17 ≤ 8 := hB 17 (0, 8) rfl
  have b18 : (0 : Int) ≤ ρ 18 ∧ ρ 18 ≤ 60 := hB 18 (0, 60) rfl
  clear hB
  generalize ρ 4 = r4, ρ 13 = r13, ρ 14 = r14, ρ 15 = r15, ρ 16 = r16, ρ 17 = r17, ρ 18 = r18, α 15 = a15, α 16 = a16, α 41 = a41, α 42 = a42, α 43 = a43, α 44 = a44, α 45 = a45, α 46 = a46, α 58 = a58, α 59 = a59 at *
  subst f1
  obtain ⟨i1, i2, i3, i4, i5⟩ := f2
  subst i1
  first
    | omega
    | (rcases (show r14 = 0 ∨ r14 = 1 ∨ r14 = 2 ∨ r14 = 3 by omega) with z | z | z | z <;> subst z <;> first | (exfalso; omega) | exact ⟨fun h => by omega, fun h h' => by omega, fun _ _ => ⟨by first | rfl | trivial, i5, by unfold okK; simp only [rowX_0, rowX_1, rowX_2, rowX_3]; omega⟩⟩)
    | (rcases (show r14 = 0 ∨ r14 = 1 ∨ r14 = 2 ∨ r14 = 3 by omega) with z | z | z | z <;> subst z <;> first | (exfalso; omega) | exact ⟨by omega, by omega, by omega, by omega, reI_s i5 (by omega) (by unfold okK; omega) (by omega) (by simp only [rowX_0, rowX_1, rowX_2, rowX_3]) (by simp only [rowX_0, rowX_1, rowX_2, rowX_3])⟩))
def w_xo_readC_1_1 : VC := ((bT ++ [(0, 0), (0, 30), (0, 58), (0, 8), (2, 60), ((-2147483648), (-1)), ((-2147483648), 2147483647)]), [(0, [(none, 0), (none, 0)], []), (0, [(none, 0), (none, 0)], []), (2, [(some 19, 0), (none, 0)], []), (20, [(some 20, 0), (some 16, 1)], [41]), (0, [(some 14, 0), (none, 0)], []), (20, [(some 19, 0), (some 16, 0)], [41]), (0, [(some 14, 0), (none, 0)], []), (2, [(some 16, 1), (some 18, 0)], []), (20, [(some 18, 0), (some 14, 0)], [45]), (141, [(some 15, 0), (some 16, 0), (some 4, 0), (some 17, 0), (some 14, 0)], [45, 46, 41, 42, 43, 44, 15, 16, 58, 59])], (140, [(some 15, 0), (some 14, 0), (none, 0), (some 4, 0), (some 17, 0), (some 13, 0), (some 13, 0)], [45, 46, 41, 42, 43, 44, 15, 16, 58, 59]))
set_option maxRecDepth 20000 in
theorem v_xo_readC_1_1 {PT : PTy} (hp : HP12 PT) : vcOk PT w_xo_readC_1_1 := vc_of (fun ρ α hB hF => by
  obtain ⟨f0, f1, f2, f3, f4, f5, f6, f7, f8, f9, -⟩ := hF
  have e140 : PT 140 = P_rdX := hp.1.1.1.2.2.2.2.2.2.1
  have e141 : PT 141 = P_rdXI := hp.1.1.1.2.2.2.2.2.2.2.1
  simp only [hF0, hF2, hF20, hFp_140, hFp_141, e140, e141, P_rdX, P_rdXI, den_s, den_c, Int.add_zero, List.map_cons, List.map_nil] at f0 f1 f2 f3 f4 f5 f6 f7 f8 f9 ⊢
  have b4 : (0 : Int) ≤ ρ 4 ∧ ρ 4 ≤ 8 := hB 4 (0, 8) rfl
  have b13 : (0 : Int) ≤ ρ 13 ∧ ρ 13 ≤ 5 := hB 13 (0, 5) rfl
  have b14 : (0 : Int) ≤ ρ 14 ∧ ρ 14 ≤ 0 := hB 14 (0, 0) rfl
  have b15 : (0 : Int) ≤ ρ 15 ∧ ρ 15 ≤ 30 := hB 15 (0, 30) rfl
  have b16 : (0 : Int) ≤ ρ 16 ∧ ρ 16 ≤ 58 := hB 16 (0, 58) rfl
  have b17 : (0 : Int) ≤ ρ 17 ∧ ρ 17 ≤ 8 := hB 17 (0, 8) rfl
  have b18 : (2 : Int) ≤ ρ 18 ∧ ρ 18 ≤ 60 := hB 18 (2, 60) rfl
  have b19 : ((-2147483648) : Int) ≤ ρ 19 ∧ ρ 19 ≤ (-1) := hB 19 ((-2147483648), (-1)) rfl
  have b20 : ((-2147483648) : Int) ≤ ρ 20 ∧ ρ 20 ≤ 2147483647 := hB 20 ((-2147483648), 2147483647) rfl
  clear hB
  generalize ρ 4 = r4, ρ 13 = r13, ρ 14 = r14, ρ 15 = r15, ρ 16 = r16, ρ 17 = r17, ρ 18 = r18, ρ 19 = r19, ρ 20 = r20, α 15 = a15, α 16 = a16, α 41 = a41, α 42 = a42, α 43 = a43, α 44 = a44, α 45 = a45, α 46 = a46, α 58 = a58, α 59 = a59 at *
  subst f3
  subst f5
  subst f8
  obtain ⟨i1, i2, i3, i4, i5⟩ := f9
  subst i1
  first
    | omega
    | (rcases (show r14 = 0 ∨ r14 = 1 ∨ r14 = 2 ∨ r14 = 3 by omega) with z | z | z | z <;> subst z <;> first | (exfalso; omega) | exact ⟨fun h => by omega, fun h h' => by omega, fun _ _ => ⟨by first | rfl | trivial, i5, by unfold okK; simp only [rowX_0, rowX_1, rowX_2, rowX_3]; omega⟩⟩)
    | (rcases (show r14 = 0 ∨ r14 = 1 ∨ r14 = 2 ∨ r14 = 3 by omega) with z | z | z | z <;> subst z <;> first | (exfalso; omega) | exact ⟨by omega, by omega, by omega, by omega, reI_s i5 (by omega) (by unfold okK; omega) (by omega) (by simp only [rowX_0, rowX_1, rowX_2, rowX_3]) (by simp only [rowX_0, rowX_1, rowX_2, rowX_3])⟩))
def w_xo_readC_1_2 : VC := ((bT ++ [(0, 0), (0, 30), (0, 58), (0, 8), (2, 60), (24, 2147483647), ((-2147483648), 2147483647)]), [(0, [(none, 0), (none, 0)], []), (0, [(none, 0), (none, 0)], []), (2, [(none, 23), (some 19, 0)], []), (3, [(some 19, 0), (none, 0)], []), (20, [(some 20, 0), (some 16, 1)], [41]), (0, [(some 14, 0), (none, 0)], []), (20, [(some 19, 0), (some 16, 0)], [41]), (0, [(some 14, 0), (none, 0)], []), (2, [(some 16, 1), (some 18, 0)], []), (20, [(some 18, 0), (some 14, 0)], [45]), (141, [(some 15, 0), (some 16, 0), (some 4, 0), (some 17, 0), (some 14, 0)], [45, 46, 41, 42, 43, 44, 15, 16, 58, 59])], (140, [(some 15, 0), (some 14, 0), (none, 0), (some 4, 0), (some 17, 0), (some 13, 0), (some 13, 0)], [45, 46, 41, 42, 43, 44, 15, 16, 58, 59]))
set_option maxRecDepth 20000 in
theorem v_xo_readC_1_2 {PT : PTy} (hp : HP12 PT) : vcOk PT w_xo_readC_1_2 := vc_of (fun ρ α hB hF => by
  obtain ⟨f0, f1, f2, f3, f4, f5, f6, f7, f8, f9, f10, -⟩ := hF
  have e140 : PT 140 = P_rdX := hp.1.1.1.2.2.2.2.2.2.1
  have e141 : PT 141 = P_rdXI := hp.1.1.1.2.2.2.2.2.2.2.1
  simp only [hF0, hF2, hF3, hF20, hFp_140, hFp_141, e140, e141, P_rdX, P_rdXI, den_s, den_c, Int.add_zero, List.map_cons, List.map_nil] at f0 f1 f2 f3 f4 f5 f6 f7 f8 f9 f10 ⊢
  have b4 : (0 : Int) ≤ ρ 4 ∧ ρ 4 ≤ 8 := hB 4 (0, 8) rfl
  have b13 : (0 : Int) ≤ ρ 13 ∧ ρ 13 ≤ 5 := hB 13 (0, 5) rfl
  have b14 : (0 : Int) ≤ ρ 14 ∧ ρ 14 ≤ 0 := hB 14 (0, 0) rfl
  have b15 : (0 : Int) ≤ ρ 15 ∧ ρ 15 ≤ 30 := hB 15 (0, 30) rfl
  have b16 : (0 : Int) ≤ ρ 16 ∧ ρ 16 ≤ 58 := hB 16 (0, 58) rfl
  have b17 : (0 : Int) ≤ ρ 17 ∧ ρ 17 ≤ 8 := hB 17 (0, 8) rfl
  have b18 : (2 : Int) ≤ ρ 18 ∧ ρ 18 ≤ 60 := hB 18 (2, 60) rfl
  have b19 : (24 : Int) ≤ ρ 19 ∧ ρ 19 ≤ 2147483647 := hB 19 (24, 2147483647) rfl
  have b20 : ((-2147483648) : Int) ≤ ρ 20 ∧ ρ 20 ≤ 2147483647 := hB 20 ((-2147483648), 2147483647) rfl
  clear hB
  generalize ρ 4 = r4, ρ 13 = r13, ρ 14 = r14, ρ 15 = r15, ρ 16 = r16, ρ 17 = r17, ρ 18 = r18, ρ 19 = r19, ρ 20 = r20, α 15 = a15, α 16 = a16, α 41 = a41, α 42 = a42, α 43 = a43, α 44 = a44, α 45 = a45, α 46 = a46, α 58 = a58, α 59 = a59 at *
  subst f4
  subst f6
  subst f9
  obtain ⟨i1, i2, i3, i4, i5⟩ := f10
  subst i1
  first
    | omega
    | (rcases (show r14 = 0 ∨ r14 = 1 ∨ r14 = 2 ∨ r14 = 3 by omega) with z | z | z | z <;> subst z <;> first | (exfalso; omega) | exact ⟨fun h => by omega, fun h h' => by omega, fun _ _ => ⟨by first | rfl | trivial, i5, by unfold okK; simp only [rowX_0, rowX_1, rowX_2, rowX_3]; omega⟩⟩)
    | (rcases (show r14 = 0 ∨ r14 = 1 ∨ r14 = 2 ∨ r14 = 3 by omega) with z | z | z | z <;> subst z <;> first | (exfalso; omega) | exact ⟨by omega, by omega, by omega, by omega, reI_s i5 (by omega) (by unfold okK; omega) (by omega) (by simp only [rowX_0, rowX_1, rowX_2, rowX_3]) (by simp only [rowX_0, rowX_1, rowX_2, rowX_3])⟩))
def w_xo_readC_1_3 : VC := ((bT ++ [(0, 0), (0, 30), (0, 58), (0, 8), (2, 60), (0, 23), ((-2147483648), (-1))]), [(0, [(none, 0), (none, 0)], []), (0, [(none, 0), (none, 0)], []), (2, [(some 20, 0), (none, 0)], []), (1, [(none, 1), (none, 0)], []), (3, [(none, 23), (some 19, 0)], []), (3, [(some 19, 0), (none, 0)], []), (20, [(some 20, 0), (some 16, 1)], [41]), (0, [(some 14, 0), (none, 0)], []), (20, [(some 19, 0), (some 16, 0)], [41]), (0, [(some 14, 0), (none, 0)], []), (2, [(some 16, 1), (some 18, 0)], []), (20, [(some 18, 0), (some 14, 0)], [45]), (141, [(some 15, 0), (some 16, 0), (some 4, 0), (some 17, 0), (some 14, 0)], [45, 46, 41, 42, 43, 44, 15, 16, 58, 59])], (140, [(some 15, 0), (some 14, 0), (none, 0), (some 4, 0), (some 17, 0), (some 13, 0), (some 13, 0)], [45, 46, 41, 42, 43, 44, 15, 16, 58, 59]))
set_option maxRecDepth 20000 in
theorem v_xo_readC_1_3 {PT : PTy} (hp : HP12 PT) : vcOk PT w_xo_readC_1_3 := vc_of (fun ρ α hB hF => by
  obtain ⟨f0, f1, f2, f3, f4, f5, f6, f7, f8, f9, f10, f11, f12, -⟩ := hF
  have e140 : PT 140 = P_rdX := hp.1.1.1.2.2.2.2.2.2.1
  have e141 : PT 141 = P_rdXI := hp.1.1.1.2.2.2.2.2.2.2.1
  simp only [hF0, hF1, hF2, hF3, hF20, hFp_140, hFp_141, e140, e141, P_rdX, P_rdXI, den_s, den_c, Int.add_zero, List.map_cons, List.map_nil] at f0 f1 f2 f3 f4 f5 f6 f7 f8 f9 f10 f11 f12 ⊢
  have b4 : (0 : Int) ≤ ρ 4 ∧ ρ 4 ≤ 8 := hB 4 (0, 8) rfl
  have b13 : (0 : Int) ≤ ρ 13 ∧ ρ 13 ≤ 5 := hB 13 (0, 5) rfl
  have b14 : (0 : Int) ≤ ρ 14 ∧ ρ 14 ≤ 0 := hB 14 (0, 0) rfl
  have b15 : (0 : Int) ≤ ρ 15 ∧ ρ 15 ≤ 30 := hB 15 (0, 30) rfl
  have b16 : (0 : Int) ≤ ρ 16 ∧ ρ 16 ≤ 58 := hB 16 (0, 58) rfl
  have b17 : (0 : Int) ≤ ρ 17 ∧ ρ 17 ≤ 8 := hB 17 (0, 8) rfl
  have b18 : (2 : Int) ≤ ρ 18 ∧ ρ 18 ≤ 60 := hB 18 (2, 60) rfl
  have b19 : (0 : Int) ≤ ρ 19 ∧ ρ 19 ≤ 23 := hB 19 (0, 23) rfl
  have b20 : ((-2147483648) : Int) ≤ ρ 20 ∧ ρ 20 ≤ (-1) := hB 20 ((-2147483648), (-1)) rfl
  clear hB
  generalize ρ 4 = r4, ρ 13 = r13, ρ 14 = r14, ρ 15 = r15, ρ 16 = r16, ρ 17 = r17, ρ 18 = r18, ρ 19 = r19, ρ 20 = r20, α 15 = a15, α 16 = a16, α 41 = a41, α 42 = a42, α 43 = a43, α 44 = a44, α 45 = a45, α 46 = a46, α 58 = a58, α 59 = a59 at *
  subst f6
  subst f8
  subst f11
  obtain ⟨i1, i2, i3, i4, i5⟩ := f12
  subst i1
  first
    | omega
    | (rcases (show r14 = 0 ∨ r14 = 1 ∨ r14 = 2 ∨ r14 = 3 by omega) with z | z | z | z <;> subst z <;> first | (exfalso; omega) | exact ⟨fun h => by omega, fun h h' => by omega, fun _ _ => ⟨by first | rfl | trivial, i5, by unfold okK; simp only [rowX_0, rowX_1, rowX_2, rowX_3]; omega⟩⟩)
    | (rcases (show r14 = 0 ∨ r14 = 1 ∨ r14 = 2 ∨ r14 = 3 by omega) with z | z | z | z <;> subst z <;> first | (exfalso; omega) | exact ⟨by omega, by omega, by omega, by omega, reI_s i5 (by omega) (by unfold okK; omega) (by omega) (by simp only [rowX_0, rowX_1, rowX_2, rowX_3]) (by simp only [rowX_0, rowX_1, rowX_2, rowX_3])⟩))
def w_xo_readC_1_4 : VC := ((bT ++ [(0, 0), (0, 30), (0, 58), (0, 8), (2, 60), (0, 23), (10, 2147483647)]), [(0, [(none, 0), (none, 0)], []), (0, [(none, 0), (none, 0)], []), (2, [(none, 9), (some 20, 0)], []), (3, [(some 20, 0), (none, 0)], []), (1, [(none, 1), (none, 0)], []), (3, [(none, 23), (some 19, 0)], []), (3, [(some 19, 0), (none, 0)], []), (20, [(some 20, 0), (some 16, 1)], [41]), (0, [(some 14, 0), (none, 0)], []), (20, [(some 19, 0), (some 16, 0)], [41]), (0, [(some 14, 0), (none, 0)], []), (2, [(some 16, 1), (some 18, 0)], []), (20, [(some 18, 0), (some 14, 0)], [45]), (141, [(some 15, 0), (some 16, 0), (some 4, 0), (some 17, 0), (some 14, 0)], [45, 46, 41, 42, 43, 44, 15, 16, 58, 59])], (140, [(some 15, 0), (some 14, 0), (none, 0), (some 4, 0), (some 17, 0), (some 13, 0), (some 13, 0)], [45, 46, 41, 42, 43, 44, 15, 16, 58, 59]))
set_option maxRecDepth 20000 in
theorem v_xo_readC_1_4 {PT : PTy} (hp : HP12 PT) : vcOk PT w_xo_readC_1_4 := vc_of (fun ρ α hB hF => by
  obtain ⟨f0, f1, f2, f3, f4, f5, f6, f7, f8, f9, f10, f11, f12, f13, -⟩ := hF
  have e140 : PT 140 = P_rdX := hp.1.1.1.2.2.2.2.2.2.1
  have e141 : PT 141 = P_rdXI := hp.1.1.1.2.2.2.2.2.2.2.1
  simp only [hF0, hF1, hF2, hF3, hF20, hFp_140, hFp_141, e140, e141, P_rdX, P_rdXI, den_s, den_c, Int.add_zero, List.map_cons, List.map_nil] at f0 f1 f2 f3 f4 f5 f6 f7 f8 f9 f10 f11 f12 f13 ⊢
  have b4 : (0 : Int) ≤ ρ 4 ∧ ρ 4 ≤ 8 := hB 4 (0, 8) rfl
  have b13 : (0 : Int) ≤ ρ 13 ∧ ρ 13 ≤ 5 := hB 13 (0, 5) rfl
  have b14 : (0 : Int) ≤ ρ 14 ∧ ρ 14 ≤ 0 := hB 14 (0, 0) rfl
  have b15 : (0 : Int) ≤ ρ 15 ∧ ρ 15 ≤ 30 := hB 15 (0, 30) rfl
  have b16 : (0 : Int) ≤ ρ 16 ∧ ρ 16 ≤ 58 := hB 16 (0, 58) rfl
  have b17 : (0 : Int) ≤ ρ 17 ∧ ρ 17 ≤ 8 := hB 17 (0, 8) rfl
  have b18 : (2 : Int) ≤ ρ 18 ∧ ρ 18 ≤ 60 := hB 18 (2, 60) rfl
  have b19 : (0 : Int) ≤ ρ 19 ∧ ρ 19 ≤ 23 := hB 19 (0, 23) rfl
  have b20 : (10 : Int) ≤ ρ 20 ∧ ρ 20 ≤ 2147483647 := hB 20 (10, 2147483647) rfl
  clear hB
  generalize ρ 4 = r4, ρ 13 = r13, ρ 14 = r14, ρ 15 = r15, ρ 16 = r16, ρ 17 = r17, ρ 18 = r18, ρ 19 = r19, ρ 20 = r20, α 15 = a15, α 16 = a16, α 41 = a41, α 42 = a42, α 43 = a43, α 44 = a44, α 45 = a45, α 46 = a46, α 58 = a58, α 59 = a59 at *
  subst f7
  subst f9
  subst f12
  obtain ⟨i1, i2, i3, i4, i5⟩ := f13
  subst i1
  first
    | omega
    | (rcases (show r14 = 0 ∨ r14 = 1 ∨ r14 = 2 ∨ r14 = 3 by omega) with z | z | z | z <;> subst z <;> first | (exfalso; omega) | exact ⟨fun h => by omega, fun h h' => by omega, fun _ _ => ⟨by first | rfl | trivial, i5, by unfold okK; simp only [rowX_0, rowX_1, rowX_2, rowX_3]; omega⟩⟩)
    | (rcases (show r14 = 0 ∨ r14 = 1 ∨ r14 = 2 ∨ r14 = 3 by omega) with z | z | z | z <;> subst z <;> first | (exfalso; omega) | exact ⟨by omega, by omega, by omega, by omega, reI_s i5 (by omega) (by unfold okK; omega) (by omega) (by simp only [rowX_0, rowX_1, rowX_2, rowX_3]) (by simp only [rowX_0, rowX_1, rowX_2, rowX_3])⟩))
def w_xo_readC_1_5 : VC := ((bT ++ [(0, 0), (0, 30), (0, 58), (0, 7), (2, 60), (0, 23), (0, 9)]), [(21, [(some 17, 0), (none, 0)], [63, 60]), (21, [(some 17, 0), (some 20, 0)], [62, 59]), (21, [(some 17, 0), (some 19, 0)], [61, 58]), (2, [(some 17, 0), (none, 9)], []), (0, [(none, 0), (none, 0)], []), (2, [(some 17, 0), (none, 8)], []), (1, [(none, 1), (none, 0)], []), (1, [(none, 1), (none, 0)], []), (3, [(none, 9), (some 20, 0)], []), (3, [(some 20, 0), (none, 0)], []), (1, [(none, 1), (none, 0)], []), (3, [(none, 23), (some 19, 0)], []), (3, [(some 19, 0), (none, 0)], []), (20, [(some 20, 0), (some 16, 1)], [41]), (0, [(some 14, 0), (none, 0)], []), (20, [(some 19, 0), (some 16, 0)], [41]), (0, [(some 14, 0), (none, 0)], []), (2, [(some 16, 1), (some 18, 0)], []), (20, [(some 18, 0), (some 14, 0)], [45]), (141, [(some 15, 0), (some 16, 0), (some 4, 0), (some 17, 0), (some 14, 0)], [45, 46, 41, 42, 43, 44, 15, 16, 58, 59])], (3, [(some 15, 1), (none, 0)], []))
set_option maxRecDepth 20000 in
theorem v_xo_readC_1_5 {PT : PTy} (hp : HP12 PT) : vcOk PT w_xo_readC_1_5 := vc_of (fun ρ α hB hF => by
  obtain ⟨f0, f1, f2, f3, f4, f5, f6, f7, f8, f9, f10, f11, f12, f13, f14, f15, f16, f17, f18, f19, -⟩ := hF
  have e141 : PT 141 = P_rdXI := hp.1.1.1.2.2.2.2.2.2.2.1
  simp only [hF0, hF1, hF2, hF3, hF20, hF21, hFp_141, e141, P_rdXI, den_s, den_c, Int.add_zero, List.map_cons, List.map_nil] at f0 f1 f2 f3 f4 f5 f6 f7 f8 f9 f10 f11 f12 f13 f14 f15 f16 f17 f18 f19 ⊢
  have b4 : (0 : Int) ≤ ρ 4 ∧ ρ 4 ≤ 8 := hB 4 (0, 8) rfl
  have b14 : (0 : Int) ≤ ρ 14 ∧ ρ 14 ≤ 0 := hB 14 (0, 0) rfl
  have b15 : (0 : Int) ≤ ρ 15 ∧ ρ 15 ≤ 30 := hB 15 (0, 30) rfl
  have b16 : (0 : Int) ≤ ρ 16 ∧ ρ 16 ≤ 58 := hB 16 (0, 58) rfl
  have b17 : (0 : Int) ≤ ρ 17 ∧ ρ 17 ≤ 7 := hB 17 (0, 7) rfl
  have b18 : (2 : Int) ≤ ρ 18 ∧ ρ 18 ≤ 60 := hB 18 (2, 60) rfl
  have b19 : (0 : Int) ≤ ρ 19 ∧ ρ 19 ≤ 23 := hB 19 (0, 23) rfl
  have b20 : (0 : Int) ≤ ρ 20 ∧ ρ 20 ≤ 9 := hB 20 (0, 9) rfl
  clear hB
  generalize ρ 4 = r4, ρ 14 = r14, ρ 15 = r15, ρ 16 = r16, ρ 17 = r17, ρ 18 = r18, ρ 19 = r19, ρ 20 = r20, α 15 = a15, α 16 = a16, α 41 = a41, α 42 = a42, α 43 = a43, α 44 = a44, α 45 = a45, α 46 = a46, α 58 = a58, α 59 = a59, α 60 = a60, α 61 = a61, α 62 = a62, α 63 = a63 at *
  subst f0
  subst f1
  subst f2
  subst f13
  subst f15
  subst f18
  obtain ⟨i1, i2, i3, i4, i5⟩ := f19
  subst i1
  first
    | omega
    | (rcases (show r14 = 0 ∨ r14 = 1 ∨ r14 = 2 ∨ r14 = 3 by omega) with z | z | z | z <;> subst z <;> first | (exfalso; omega) | exact ⟨fun h => by omega, fun h h' => by omega, fun _ _ => ⟨by first | rfl | trivial, i5, by unfold okK; simp only [rowX_0, rowX_1, rowX_2, rowX_3]; omega⟩⟩)
    | (rcases (show r14 = 0 ∨ r14 = 1 ∨ r14 = 2 ∨ r14 = 3 by omega) with z | z | z | z <;> subst z <;> first | (exfalso; omega) | exact ⟨by omega, by omega, by omega, by omega, reI_s i5 (by omega) (by unfold okK; omega) (by omega) (by simp only [rowX_0, rowX_1, rowX_2, rowX_3]) (by simp only [rowX_0, rowX_1, rowX_2, rowX_3])⟩))
def w_xo_readC_1_6 : VC := ((bT ++ [(0, 0), (0, 30), (0, 58), (0, 7), (2, 60), (0, 23), (0, 9)]), [(21, [(some 17, 0), (none, 0)], [63, 60]), (21, [(some 17, 0), (some 20, 0)], [62, 59]), (21, [(some 17, 0), (some 19, 0)], [61, 58]), (2, [(some 17, 0), (none, 9)], []), (0, [(none, 0), (none, 0)], []), (2, [(some 17, 0), (none, 8)], []), (1, [(none, 1), (none, 0)], []), (1, [(none, 1), (none, 0)], []), (3, [(none, 9), (some 20, 0)], []), (3, [(some 20, 0), (none, 0)], []), (1, [(none, 1), (none, 0)], []), (3, [(none, 23), (some 19, 0)], []), (3, [(some 19, 0), (none, 0)], []), (20, [(some 20, 0), (some 16, 1)], [41]), (0, [(some 14, 0), (none, 0)], []), (20, [(some 19, 0), (some 16, 0)], [41]), (0, [(some 14, 0), (none, 0)], []), (2, [(some 16, 1), (some 18, 0)], []), (20, [(some 18, 0), (some 14, 0)], [45]), (141, [(some 15, 0), (some 16, 0), (some 4, 0), (some 17, 0), (some 14, 0)], [45, 46, 41, 42, 43, 44, 15, 16, 58, 59])], (3, [(none, 30), (some 15, 1)], []))
set_option maxRecDepth 20000 in
theorem v_xo_readC_1_6 {PT : PTy} (hp : HP12 PT) : vcOk PT w_xo_readC_1_6 := vc_of (fun ρ α hB hF => by
  obtain ⟨f0, f1, f2, f3, f4, f5, f6, f7, f8, f9, f10, f11, f12, f13, f14, f15, f16, f17, f18, f19, -⟩ := hF
  have e141 : PT 141 = P_rdXI := hp.1.1.1.2.2.2.2.2.2.2.1
  simp only [hF0, hF1, hF2, hF3, hF20, hF21, hFp_141, e141, P_rdXI, den_s, den_c, Int.add_zero, List.map_cons, List.map_nil] at f0 f1 f2 f3 f4 f5 f6 f7 f8 f9 f10 f11 f12 f13 f14 f15 f16 f17 f18 f19 ⊢
  have b4 : (0 : Int) ≤ ρ 4 ∧ ρ 4 ≤ 8 := hB 4 (0, 8) rfl
  have b14 : (0 : Int) ≤ ρ 14 ∧ ρ 14 ≤ 0 := hB 14 (0, 0) rfl
  have b15 : (0 : Int) ≤ ρ 15 ∧ ρ 15 ≤ 30 := hB 15 (0, 30) rfl
  have b16 : (0 : Int) ≤ ρ 16 ∧ ρ 16 ≤ 58 := hB 16 (0, 58) rfl
  have b17 : (0 : Int) ≤ ρ 17 ∧ ρ 17 ≤ 7 := hB 17 (0, 7) rfl
  have b18 : (2 : Int) ≤ ρ 18 ∧ ρ 18 ≤ 60 := hB 18 (2, 60) rfl
  have b19 : (0 : Int) ≤ ρ 19 ∧ ρ 19 ≤ 23 := hB 19 (0, 23) rfl
  have b20 : (0 : Int) ≤ ρ 20 ∧ ρ 20 ≤ 9 := hB 20 (0, 9) rfl
  clear hB
  generalize ρ 4 = r4, ρ 14 = r14, ρ 15 = r15, ρ 16 = r16, ρ 17 = r17, ρ 18 = r18, ρ 19 = r19, ρ 20 = r20, α 15 = a15, α 16 = a16, α 41 = a41, α 42 = a42, α 43 = a43, α 44 = a44, α 45 = a45, α 46 = a46, α 58 = a58, α 59 = a59, α 60 = a60, α 61 = a61, α 62 = a62, α 63 = a63 at *
  subst f0
  subst f1
  subst f2
  subst f13
  subst f15
  subst f18
  obtain ⟨i1, i2, i3, i4, i5⟩ := f19
  subst i1
  first
    | omega
    | (rcases (show r14 = 0 ∨ r14 = 1 ∨ r14 = 2 ∨ r14 = 3 by omega) with z | z | z | z <;> subst z <;> first | (exfalso; omega) | exact ⟨fun h => by omega, fun h h' => by omega, fun _ _ => ⟨by first | rfl | trivial, i5, by unfold okK; simp only [rowX_0, rowX_1, rowX_2, rowX_3]; omega⟩⟩)
    | (rcases (show r14 = 0 ∨ r14 = 1 ∨ r14 = 2 ∨ r14 = 3 by omega) with z | z | z | z <;> subst z <;> first | (exfalso; omega) | exact ⟨by omega, by omega, by omega, by omega, reI_s i5 (by omega) (by unfold okK; omega) (by omega) (by simp only [rowX_0, rowX_1, rowX_2, rowX_3]) (by simp only [rowX_0, rowX_1, rowX_2, rowX_3])⟩))
def w_xo_readC_1_7 : VC := ((bT ++ [(0, 0), (0, 30), (0, 58), (0, 7), (2, 60), (0, 23), (0, 9)]), [(21, [(some 17, 0), (none, 0)], [63, 60]), (21, [(some 17, 0), (some 20, 0)], [62, 59]), (21, [(some 17, 0), (some 19, 0)], [61, 58]), (2, [(some 17, 0), (none, 9)], []), (0, [(none, 0), (none, 0)], []), (2, [(some 17, 0), (none, 8)], []), (1, [(none, 1), (none, 0)], []), (1, [(none, 1), (none, 0)], []), (3, [(none, 9), (some 20, 0)], []), (3, [(some 20, 0), (none, 0)], []), (1, [(none, 1), (none, 0)], []), (3, [(none, 23), (some 19, 0)], []), (3, [(some 19, 0), (none, 0)], []), (20, [(some 20, 0), (some 16, 1)], [41]), (0, [(some 14, 0), (none, 0)], []), (20, [(some 19, 0), (some 16, 0)], [41]), (0, [(some 14, 0), (none, 0)], []), (2, [(some 16, 1), (some 18, 0)], []), (20, [(some 18, 0), (some 14, 0)], [45]), (141, [(some 15, 0), (some 16, 0), (some 4, 0), (some 17, 0), (some 14, 0)], [45, 46, 41, 42, 43, 44, 15, 16, 58, 59])], (141, [(some 15, 1), (some 16, 2), (some 4, 0), (some 17, 1), (some 14, 0)], [45, 46, 41, 42, 43, 44, 15, 16, 61, 62]))
set_option maxRecDepth 20000 in
theorem v_xo_readC_1_7 {PT : PTy} (hp : HP12 PT) : vcOk PT w_xo_readC_1_7 := vc_of (fun ρ α hB hF => by
  obtain ⟨f0, f1, f2, f3, f4, f5, f6, f7, f8, f9, f10, f11, f12, f13, f14, f15, f16, f17, f18, f19, -⟩ := hF
  have e141 : PT 141 = P_rdXI := hp.1.1.1.2.2.2.2.2.2.2.1
  simp only [hF0, hF1, hF2, hF3, hF20, hF21, hFp_141, e141, P_rdXI, den_s, den_c, Int.add_zero, List.map_cons, List.map_nil] at f0 f1 f2 f3 f4 f5 f6 f7 f8 f9 f10 f11 f12 f13 f14 f15 f16 f17 f18 f19 ⊢
  have b4 : (0 : Int) ≤ ρ 4 ∧ ρ 4 ≤ 8 := hB 4 (0, 8) rfl
  have b14 : (0 : Int) ≤ ρ 14 ∧ ρ 14 ≤ 0 := hB 14 (0, 0) rfl
  have b15 : (0 : Int) ≤ ρ 15 ∧ ρ 15 ≤ 30 := hB 15 (0, 30) rfl
  have b16 : (0 : Int) ≤ ρ 16 ∧ ρ 16 ≤ 58 := hB 16 (0, 58) rfl
  have b17 : (0 : Int) ≤ ρ 17 ∧ ρ 17 ≤ 7 := hB 17 (0, 7) rfl
  have b18 : (2 : Int) ≤ ρ 18 ∧ ρ 18 ≤ 60 := hB 18 (2, 60) rfl
  have b19 : (0 : Int) ≤ ρ 19 ∧ ρ 19 ≤ 23 := hB 19 (0, 23) rfl
  have b20 : (0 : Int) ≤ ρ 20 ∧ ρ 20 ≤ 9 := hB 20 (0, 9) rfl
  clear hB
  generalize ρ 4 = r4, ρ 14 = r14, ρ 15 = r15, ρ 16 = r16, ρ 17 = r17, ρ 18 = r18, ρ 19 = r19, ρ 20 = r20, α 15 = a15, α 16 = a16, α 41 = a41, α 42 = a42, α 43 = a43, α 44 = a44, α 45 = a45, α 46 = a46, α 58 = a58, α 59 = a59, α 60 = a60, α 61 = a61, α 62 = a62, α 63 = a63 at *
  subst f0
  subst f1
  subst f2
  subst f13
  subst f15
  subst f18
  obtain ⟨i1, i2, i3, i4, i5⟩ := f19
  subst i1
  first
    | omega
    | (rcases (show r14 = 0 ∨ r14 = 1 ∨ r14 = 2 ∨ r14 = 3 by omega) with z | z | z | z <;> subst z <;> first | (exfalso; omega) | exact ⟨fun h => by omega, fun h h' => by omega, fun _ _ => ⟨by first | rfl | trivial, i5, by unfold okK; simp only [rowX_0, rowX_1, rowX_2, rowX_3]; omega⟩⟩)
    | (rcases (show r14 = 0 ∨ r14 = 1 ∨ r14 = 2 ∨ r14 = 3 by omega) with z | z | z | z <;> subst z <;> first | (exfalso; omega) | exact ⟨by omega, by omega, by omega, by omega, reI_s i5 (by omega) (by unfold okK; omega) (by omega) (by simp only [rowX_0, rowX_1, rowX_2, rowX_3]) (by simp only [rowX_0, rowX_1, rowX_2, rowX_3])⟩))
def w_xo_readC_1_8 : VC := ((bT ++ [(0, 0), (0, 30), (0, 58), (8, 8), (2, 60), (0, 23), (0, 9)]), [(1, [(none, 1), (none, 0)], []), (3, [(some 17, 0), (none, 8)], []), (1, [(none, 1), (none, 0)], []), (1, [(none, 1), (none, 0)], []), (3, [(none, 9), (some 20, 0)], []), (3, [(some 20, 0), (none, 0)], []), (1, [(none, 1), (none, 0)], []), (3, [(none, 23), (some 19, 0)], []), (3, [(some 19, 0), (none, 0)], []), (20, [(some 20, 0), (some 16, 1)], [41]), (0, [(some 14, 0), (none, 0)], []), (20, [(some 19, 0), (some 16, 0)], [41]), (0, [(some 14, 0), (none, 0)], []), (2, [(some 16, 1), (some 18, 0)], []), (20, [(some 18, 0), (some 14, 0)], [45]), (141, [(some 15, 0), (some 16, 0), (some 4, 0), (some 17, 0), (some 14, 0)], [45, 46, 41, 42, 43, 44, 15, 16, 58, 59])], (140, [(some 15, 0), (some 14, 0), (none, 0), (some 4, 0), (some 17, 0), (some 13, 0), (some 13, 0)], [45, 46, 41, 42, 43, 44, 15, 16, 58, 59]))
set_option maxRecDepth 20000 in
theorem v_xo_readC_1_8 {PT : PTy} (hp : HP12 PT) : vcOk PT w_xo_readC_1_8 := vc_of (fun ρ α hB hF => by
  obtain ⟨f0, f1, f2, f3, f4, f5, f6, f7, f8, f9, f10, f11, f12, f13, f14, f15, -⟩ := hF
  have e140 : PT 140 = P_rdX := hp.1.1.1.2.2.2.2.2.2.1
  have e141 : PT 141 = P_rdXI := hp.1.1.1.2.2.2.2.2.2.2.1
  simp only [hF0, hF1, hF2, hF3, hF20, hFp_140, hFp_141, e140, e141, P_rdX, P_rdXI, den_s, den_c, Int.add_zero, List.map_cons, List.map_nil] at f0 f1 f2 f3 f4 f5 f6 f7 f8 f9 f10 f11 f12 f13 f14 f15 ⊢
  have b4 : (0 : Int) ≤ ρ 4 ∧ ρ 4 ≤ 8 := hB 4 (0, 8) rfl
  have b13 : (0 : Int) ≤ ρ 13 ∧ ρ 13 ≤ 5 := hB 13 (0, 5) rfl
  have b14 : (0 : Int) ≤ ρ 14 ∧ ρ 14 ≤ 0 := hB 14 (0, 0) rfl
  have b15 : (0 : Int) ≤ ρ 15 ∧ ρ 15 ≤ 30 := hB 15 (0, 30) rfl
  have b16 : (0 : Int) ≤ ρ 16 ∧ ρ 16 ≤ 58 := hB 16 (0, 58) rfl
  have b17 : (8 : Int) ≤ ρ 17 ∧ ρ 17 ≤ 8 := hB 17 (8, 8) rfl
  have b18 : (2 : Int) ≤ ρ 18 ∧ ρ 18 ≤ 60 := hB 18 (2, 60) rfl
  have b19 : (0 : Int) ≤ ρ 19 ∧ ρ 19 ≤ 23 := hB 19 (0, 23) rfl
  have b20 : (0 : Int) ≤ ρ 20 ∧ ρ 20 ≤ 9 := hB 20 (0, 9) rfl
  clear hB
  generalize ρ 4 = r4, ρ 13 = r13, ρ 14 = r14, ρ 15 = r15, ρ 16 = r16, ρ 17 = r17, ρ 18 = r18, ρ 19 = r19, ρ 20 = r20, α 15 = a15, α 16 = a16, α 41 = a41, α 42 = a42, α 43 = a43, α 44 = a44, α 45 = a45, α 46 = a46, α 58 = a58, α 59 = a59 at *
  subst f9
  subst f11
  subst f14
  obtain ⟨i1, i2, i3, i4, i5⟩ := f15
  subst i1
  first
    | omega
    | (rcases (show r14 = 0 ∨ r14 = 1 ∨ r14 = 2 ∨ r14 = 3 by omega) with z | z | z | z <;> subst z <;> first | (exfalso; omega) | exact ⟨fun h => by omega, fun h h' => by omega, fun _ _ => ⟨by first | rfl | trivial, i5, by unfold okK; simp only [rowX_0, rowX_1, rowX_2, rowX_3]; omega⟩⟩)
    | (rcases (show r14 = 0 ∨ r14 = 1 ∨ r14 = 2 ∨ r14 = 3 by omega) with z | z | z | z <;> subst z <;> first | (exfalso; omega) | exact ⟨by omega, by omega, by omega, by omega, reI_s i5 (by omega) (by unfold okK; omega) (by omega) (by simp only [rowX_0, rowX_1, rowX_2, rowX_3]) (by simp only [rowX_0, rowX_1, rowX_2, rowX_3])⟩))
def w_xo_readC_1_9 : VC := ((bT ++ [(1, 1), (0, 30), (0, 58), (0, 8), (2, 60), ((-2147483648), (-1)), ((-2147483648), 2147483647)]), [(0, [(none, 0), (none, 0)], []), (0, [(none, 0), (none, 0)], []), (2, [(some 19, 0), (none, 0)], []), (20, [(some 20, 0), (some 16, 1)], [42]), (0, [(some 14, 0), (none, 1)], []), (20, [(some 19, 0), (some 16, 0)], [42]), (0, [(some 14, 0), (none, 1)], []), (2, [(some 16, 1), (some 18, 0)], []), (20, [(some 18, 0), (some 14, 0)], [45]), (141, [(some 15, 0), (some 16, 0), (some 4, 0), (some 17, 0), (some 14, 0)], [45, 46, 41, 42, 43, 44, 15, 16, 58, 59])], (140, [(some 15, 0), (some 14, 0), (none, 0), (some 4, 0), (some 17, 0), (some 13, 0), (some 13, 0)], [45, 46, 41, 42, 43, 44, 15, 16, 58, 59]))
set_option maxRecDepth 20000 in
theorem v_xo_readC_1_9 {PT : PTy} (hp : HP12 PT) : vcOk PT w_xo_readC_1_9 := vc_of (fun ρ α hB hF => by
  obtain ⟨f0, f1, f2, f3, f4, f5, f6, f7, f8, f9, -⟩ := hF
  have e140 : PT 140 = P_rdX := hp.1.1.1.2.2.2.2.2.2.1
  have e141 : PT 141 = P_rdXI := hp.1.1.1.2.2.2.2.2.2.2.1
  simp only [hF0, hF2, hF20, hFp_140, hFp_141, e140, e141, P_rdX, P_rdXI, den_s, den_c, Int.add_zero, List.map_cons, List.map_nil] at f0 f1 f2 f3 f4 f5 f6 f7 f8 f9 ⊢
  have b4 : (0 : Int) ≤ ρ 4 ∧ ρ 4 ≤ 8 := hB 4 (0, 8) rfl
  have b13 : (0 : Int) ≤ ρ 13 ∧ ρ 13 ≤ 5 := hB 13 (0, 5) rfl
  have b14 : (1 : Int) ≤ ρ 14 ∧ ρ 14 ≤ 1 := hB 14 (1, 1) rfl
  have b15 : (0 : Int) ≤ ρ 15 ∧ ρ 15 ≤ 30 := hB 15 (0, 30) rfl
  have b16 : (0 : Int) ≤ ρ 16 ∧ ρ 16 ≤ 58 := hB 16 (0, 58) rfl
  have b17 : (0 : Int) ≤ ρ 17 ∧ ρ 17 ≤ 8 := hB 17 (0, 8) rfl
  have b18 : (2 : Int) ≤ ρ 18 ∧ ρ 18 ≤ 60 := hB 18 (2, 60) rfl
  have b19 : ((-2147483648) : Int) ≤ ρ 19 ∧ ρ 19 ≤ (-1) := hB 19 ((-2147483648), (-1)) rfl
  have b20 : ((-2147483648) : Int) ≤ ρ 20 ∧ ρ 20 ≤ 2147483647 := hB 20 ((-2147483648), 2147483647) rfl
  clear hB
  generalize ρ 4 = r4, ρ 13 = r13, ρ 14 = r14, ρ 15 = r15, ρ 16 = r16, ρ 17 = r17, ρ 18 = r18, ρ 19 = r19, ρ 20 = r20, α 15 = a15, α 16 = a16, α 41 = a41, α 42 = a42, α 43 = a43, α 44 = a44, α 45 = a45, α 46 = a46, α 58 = a58, α 59 = a59 at *
  subst f3
  subst f5
  subst f8
  obtain ⟨i1, i2, i3, i4, i5⟩ := f9
  subst i1
  first
    | omega
    | (rcases (show r14 = 0 ∨ r14 = 1 ∨ r14 = 2 ∨ r14 = 3 by omega) with z | z | z | z <;> subst z <;> first | (exfalso; omega) | exact ⟨fun h => by omega, fun h h' => by omega, fun _ _ => ⟨by first | rfl | trivial, i5, by unfold okK; simp only [rowX_0, rowX_1, rowX_2, rowX_3]; omega⟩⟩)
    | (rcases (show r14 = 0 ∨ r14 = 1 ∨ r14 = 2 ∨ r14 = 3 by omega) with z | z | z | z <;> subst z <;> first | (exfalso; omega) | exact ⟨by omega, by omega, by omega, by omega, reI_s i5 (by omega) (by unfold okK; omega) (by omega) (by simp only [rowX_0, rowX_1, rowX_2, rowX_3]) (by simp only [rowX_0, rowX_1, rowX_2, rowX_3])⟩))
def w_xo_readC_1_10 : VC := ((bT ++ [(1, 1), (0, 30), (0, 58), (0, 8), (2, 60), (24, 2147483647), ((-2147483648), 2147483647)]), [(0, [(none, 0), (none, 0)], []), (0, [(none, 0), (none, 0)], []), (2, [(none, 23), (some 19, 0)], []), (3, [(some 19, 0), (none, 0)], []), (20, [(some 20, 0), (some 16, 1)], [42]), (0, [(some 14, 0), (none, 1)], []), (20, [(some 19, 0), (some 16, 0)], [42]), (0, [(some 14, 0), (none, 1)], []), (2, [(some 16, 1), (some 18, 0)], []), (20, [(some 18, 0), (some 14, 0)], [45]), (141, [(some 15, 0), (some 16, 0), (some 4, 0), (some 17, 0), (some 14, 0)], [45, 46, 41, 42, 43, 44, 15, 16, 58, 59])], (140, [(some 15, 0), (some 14, 0), (none, 0), (some 4, 0), (some 17, 0), (some 13, 0), (some 13, 0)], [45, 46, 41, 42, 43, 44, 15, 16, 58, 59]))
set_option maxRecDepth 20000 in
theorem v_xo_readC_1_10 {PT : PTy} (hp : HP12 PT) : vcOk PT w_xo_readC_1_10 := vc_of (fun ρ α hB hF => by
  obtain ⟨f0, f1, f2, f3, f4, f5, f6, f7, f8, f9, f10, -⟩ := hF
  have e140 : PT 140 = P_rdX := hp.1.1.1.2.2.2.2.2.2.1
  have e141 : PT 141 = P_rdXI := hp.1.1.1.2.2.2.2.2.2.2.1
  simp only [hF0, hF2, hF3, hF20, hFp_140, hFp_141, e140, e141, P_rdX, P_rdXI, den_s, den_c, Int.add_zero, List.map_cons, List.map_nil] at f0 f1 f2 f3 f4 f5 f6 f7 f8 f9 f10 ⊢
  have b4 : (0 : Int) ≤ ρ 4 ∧ ρ 4 ≤ 8 := hB 4 (0, 8) rfl
  have b13 : (0 : Int) ≤ ρ 13 ∧ ρ 13 ≤ 5 := hB 13 (0, 5) rfl
  have b14 : (1 : Int) ≤ ρ 14 ∧ ρ 14 ≤ 1 := hB 14 (1, 1) rfl
  have b15 : (0 : Int) ≤ ρ 15 ∧ ρ 15 ≤ 30 := hB 15 (0, 30) rfl
  have b16 : (0 : Int) ≤ ρ 16 ∧ ρ 16 ≤ 58 := hB 16 (0, 58) rfl
  have b17 : (0 : Int) ≤ ρ 17 ∧ ρ 17 ≤ 8 := hB 17 (0, 8) rfl
  have b18 : (2 : Int) ≤ ρ 18 ∧ ρ 18 ≤ 60 := hB 18 (2, 60) rfl
  have b19 : (24 : Int) ≤ ρ 19 ∧ ρ 19 ≤ 2147483647 := hB 19 (24, 2147483647) rfl
  have b20 : ((-2147483648) : Int) ≤ ρ 20 ∧ ρ 20 ≤ 2147483647 := hB 20 ((-2147483648), 2147483647) rfl
  clear hB
  generalize ρ 4 = r4, ρ 13 = r13, ρ 14 = r14, ρ 15 = r15, ρ 16 = r16, ρ 17 = r17, ρ 18 = r18, ρ 19 = r19, ρ 20 = r20, α 15 = a15, α 16 = a16, α 41 = a41, α 42 = a42, α 43 = a43, α 44 = a44, α 45 = a45, α 46 = a46, α 58 = a58, α 59 = a59 at *
  subst f4
  subst f6
  subst f9
  obtain ⟨i1, i2, i3, i4, i5⟩ := f10
  subst i1
  first
    | omega
    | (rcases (show r14 = 0 ∨ r14 = 1 ∨ r14 = 2 ∨ r14 = 3 by omega) with z | z | z | z <;> subst z <;> first | (exfalso; omega) | exact ⟨fun h => by omega, fun h h' => by omega, fun _ _ => ⟨by first | rfl | trivial, i5, by unfold okK; simp only [rowX_0, rowX_1, rowX_2, rowX_3]; omega⟩⟩)
    | (rcases (show r14 = 0 ∨ r14 = 1 ∨ r14 = 2 ∨ r14 = 3 by omega) with z | z | z | z <;> subst z <;> first | (exfalso; omega) | exact ⟨by omega, by omega, by omega, by omega, reI_s i5 (by omega) (by unfold okK; omega) (by omega) (by simp only [rowX_0, rowX_1, rowX_2, rowX_3]) (by simp only [rowX_0, rowX_1, rowX_2, rowX_3])⟩))
def w_xo_readC_1_11 : VC := ((bT ++ [(1, 1), (0, 30), (0, 58), (0, 8), (2, 60), (0, 23), ((-2147483648), (-1))]), [(0, [(none, 0), (none, 0)], []), (0, [(none, 0), (none, 0)], []), (2, [(some 20, 0), (none, 0)], []), (1, [(none, 1), (none, 0)], []), (3, [(none, 23), (some 19, 0)], []), (3, [(some 19, 0), (none, 0)], []), (20, [(some 20, 0), (some 16, 1)], [42]), (0, [(some 14, 0), (none, 1)], []), (20, [(some 19, 0), (some 16, 0)], [42]), (0, [(some 14, 0), (none, 1)], []), (2, [(some 16, 1), (some 18, 0)], []), (20, [(some 18, 0), (some 14, 0)], [45]), (141, [(some 15, 0), (some 16, 0), (some 4, 0), (some 17, 0), (some 14, 0)], [45, 46, 41, 42, 43, 44, 15, 16, 58, 59])], (140, [(some 15, 0), (some 14, 0), (none, 0), (some 4, 0), (some 17, 0), (some 13, 0), (some 13, 0)], [45, 46, 41, 42, 43, 44, 15, 16, 58, 59]))
set_option maxRecDepth 20000 in
theorem v_xo_readC_1_11 {PT : PTy} (hp : HP12 PT) : vcOk PT w_xo_readC_1_11 := vc_of (fun ρ α hB hF => by
  obtain ⟨f0, f1, f2, f3, f4, f5, f6, f7, f8, f9, f10, f11, f12, -⟩ := hF
  have e140 : PT 140 = P_rdX := hp.1.1.1.2.2.2.2.2.2.1
  have e141 : PT 141 = P_rdXI := hp.1.1.1.2.2.2.2.2.2.2.1
  simp only [hF0, hF1, hF2, hF3, hF20, hFp_140, hFp_141, e140, e141, P_rdX, P_rdXI, den_s, den_c, Int.add_zero, List.map_cons, List.map_nil] at f0 f1 f2 f3 f4 f5 f6 f7 f8 f9 f10 f11 f12 ⊢
  have b4 : (0 : Int) ≤ ρ 4 ∧ ρ 4 ≤ 8 := hB 4 (0, 8) rfl
  have b13 : (0 : Int) ≤ ρ 13 ∧ ρ 13 ≤ 5 := hB 13 (0, 5) rfl
  have b14 : (1 : Int) ≤ ρ 14 ∧ ρ 14 ≤ 1 := hB 14 (1, 1) rfl
  have b15 : (0 : Int) ≤ ρ 15 ∧ ρ 15 ≤ 30 := hB 15 (0, 30) rfl
  have b16 : (0 : Int) ≤ ρ 16 ∧ ρ 16 ≤ 58 := hB 16 (0, 58) rfl
  have b17 : (0 : Int) ≤ ρ 17 ∧ ρ 17 ≤ 8 := hB 17 (0, 8) rfl
  have b18 : (2 : Int) ≤ ρ 18 ∧ ρ 18 ≤ 60 := hB 18 (2, 60) rfl
  have b19 : (0 : Int) ≤ ρ 19 ∧ ρ 19 ≤ 23 := hB 19 (0, 23) rfl
  have b20 : ((-2147483648) : Int) ≤ ρ 20 ∧ ρ 20 ≤ (-1) := hB 20 ((-2147483648), (-1)) rfl
  clear hB
  generalize ρ 4 = r4, ρ 13 = r13, ρ 14 = r14, ρ 15 = r15, ρ 16 = r16, ρ 17 = r17, ρ 18 = r18, ρ 19 = r19, ρ 20 = r20, α 15 = a15, α 16 = a16, α 41 = a41, α 42 = a42, α 43 = a43, α 44 = a44, α 45 = a45, α 46 = a46, α 58 = a58, α 59 = a59 at *
  subst f6
  subst f8
  subst f11
  obtain ⟨i1, i2, i3, i4, i5⟩ := f12
  subst i1
  first
    | omega
    | (rcases (show r14 = 0 ∨ r14 = 1 ∨ r14 = 2 ∨ r14 = 3 by omega) with z | z | z | z <;> subst z <;> first | (exfalso; omega) | exact ⟨fun h => by omega, fun h h' => by omega, fun _ _ => ⟨by first | rfl | trivial, i5, by unfold okK; simp only [rowX_0, rowX_1, rowX_2, rowX_3]; omega⟩⟩)
    | (rcases (show r14 = 0 ∨ r14 = 1 ∨ r14 = 2 ∨ r14 = 3 by omega) with z | z | z | z <;> subst z <;> first | (exfalso; omega) | exact ⟨by omega, by omega, by omega, by omega, reI_s i5 (by omega) (by unfold okK; omega) (by omega) (by simp only [rowX_0, rowX_1, rowX_2, rowX_3]) (by simp only [rowX_0, rowX_1, rowX_2, rowX_3])⟩))
def w_xo_readC_1_12 : VC := ((bT ++ [(1, 1), (0, 30), (0, 58), (0, 8), (2, 60), (0, 23), (10, 2147483647)]), [(0, [(none, 0), (none, 0)], []), (0, [(none, 0), (none, 0)], []), (2, [(none, 9), (some 20, 0)], []), (3, [(some 20, 0), (none, 0)], []), (1, [(none, 1), (none, 0)], []), (3, [(none, 23), (some 19, 0)], []), (3, [(some 19, 0), (none, 0)], []), (20, [(some 20, 0), (some 16, 1)], [42]), (0, [(some 14, 0), (none, 1)], []), (20, [(some 19, 0), (some 16, 0)], [42]), (0, [(some 14, 0), (none, 1)], []), (2, [(some 16, 1), (some 18, 0)], []), (20, [(some 18, 0), (some 14, 0)], [45]), (141, [(some 15, 0), (some 16, 0), (some 4, 0), (some 17, 0), (some 14, 0)], [45, 46, 41, 42, 43, 44, 15, 16, 58, 59])], (140, [(some 15, 0), (some 14, 0), (none, 0), (some 4, 0), (some 17, 0), (some 13, 0), (some 13, 0)], [45, 46, 41, 42, 43, 44, 15, 16, 58, 59]))
set_option maxRecDepth 20000 in
theorem v_xo_readC_1_12 {PT : PTy} (hp : HP12 PT) : vcOk PT w_xo_readC_1_12 := vc_of (fun ρ α hB hF => by
  obtain ⟨f0, f1, f2, f3, f4, f5, f6, f7, f8, f9, f10, f11, f12, f13, -⟩ := hF
  have e140 : PT 140 = P_rdX := hp.1.1.1.2.2.2.2.2.2.1
  have e141 : PT 141 = P_rdXI := hp.1.1.1.2.2.2.2.2.2.2.1
  simp only [hF0, hF1, hF2, hF3, hF20, hFp_140, hFp_141, e140, e141, P_rdX, P_rdXI, den_s, den_c, Int.add_zero, List.map_cons, List.map_nil] at f0 f1 f2 f3 f4 f5 f6 f7 f8 f9 f10 f11 f12 f13 ⊢
  have b4 : (0 : Int) ≤ ρ 4 ∧ ρ 4 ≤ 8 := hB 4 (0, 8) rfl
  have b13 : (0 : Int) ≤ ρ 13 ∧ ρ 13 ≤ 5 := hB 13 (0, 5) rfl
  have b14 : (1 : Int) ≤ ρ 14 ∧ ρ 14 ≤ 1 := hB 14 (1, 1) rfl
  have b15 : (0 : Int) ≤ ρ 15 ∧ ρ 15 ≤ 30 := hB 15 (0, 30) rfl
  have b16 : (0 : Int) ≤ ρ 16 ∧ ρ 16 ≤ 58 := hB 16 (0, 58) rfl
  have b17 : (0 : Int) ≤ ρ 17 ∧ ρ 17 ≤ 8 := hB 17 (0, 8) rfl
  have b18 : (2 : Int) ≤ ρ 18 ∧ ρ 18 ≤ 60 := hB 18 (2, 60) rfl
  have b19 : (0 : Int) ≤ ρ 19 ∧ ρ 19 ≤ 23 := hB 19 (0, 23) rfl
  have b20 : (10 : Int) ≤ ρ 20 ∧ ρ 20 ≤ 2147483647 := hB 20 (10, 2147483647) rfl
  clear hB
  generalize ρ 4 = r4, ρ 13 = r13, ρ 14 = r14, ρ 15 = r15, ρ 16 = r16, ρ 17 = r17, ρ 18 = r18, ρ 19 = r19, ρ 20 = r20, α 15 = a15, α 16 = a16, α 41 = a41, α 42 = a42, α 43 = a43, α 44 = a44, α 45 = a45, α 46 = a46, α 58 = a58, α 59 = a59 at *
  subst f7
  subst f9
  subst f12
  obtain ⟨i1, i2, i3, i4, i5⟩ := f13
  subst i1
  first
    | omega
    | (rcases (show r14 = 0 ∨ r14 = 1 ∨ r14 = 2 ∨ r14 = 3 by omega) with z | z | z | z <;> subst z <;> first | (exfalso; omega) | exact ⟨fun h => by omega, fun h h' => by omega, fun _ _ => ⟨by first | rfl | trivial, i5, by unfold okK; simp only [rowX_0, rowX_1, rowX_2, rowX_3]; omega⟩⟩)
    | (rcases (show r14 = 0 ∨ r14 = 1 ∨ r14 = 2 ∨ r14 = 3 by omega) with z | z | z | z <;> subst z <;> first | (exfalso; omega) | exact ⟨by omega, by omega, by omega, by omega, reI_s i5 (by omega) (by unfold okK; omega) (by omega) (by simp only [rowX_0, rowX_1, rowX_2, rowX_3]) (by simp only [rowX_0, rowX_1, rowX_2, rowX_3])⟩))
def w_xo_readC_1_13 : VC := ((bT ++ [(1, 1), (0, 30), (0, 58), (0, 7), (2, 60), (0, 23), (0, 9)]), [(21, [(some 17, 0), (none, 0)], [63, 60]), (21, [(some 17, 0), (some 20, 0)], [62, 59]), (21, [(some 17, 0), (some 19, 0)], [61, 58]), (2, [(some 17, 0), (none, 9)], []), (0, [(none, 0), (none, 0)], []), (2, [(some 17, 0), (none, 8)], []), (1, [(none, 1), (none, 0)], []), (1, [(none, 1), (none, 0)], []), (3, [(none, 9), (some 20, 0)], []), (3, [(some 20, 0), (none, 0)], []), (1, [(none, 1), (none, 0)], []), (3, [(none, 23), (some 19, 0)], []), (3, [(some 19, 0), (none, 0)], []), (20, [(some 20, 0), (some 16, 1)], [42]), (0, [(some 14, 0), (none, 1)], []), (20, [(some 19, 0), (some 16, 0)], [42]), (0, [(some 14, 0), (none, 1)], []), (2, [(some 16, 1), (some 18, 0)], []), (20, [(some 18, 0), (some 14, 0)], [45]), (141, [(some 15, 0), (some 16, 0), (some 4, 0), (some 17, 0), (some 14, 0)], [45, 46, 41, 42, 43, 44, 15, 16, 58, 59])], (3, [(some 15, 1), (none, 0)], []))
set_option maxRecDepth 20000 in
theorem v_xo_readC_1_13 {PT : PTy} (hp : HP12 PT) : vcOk PT w_xo_readC_1_13 := vc_of (fun ρ α hB hF => by
  obtain ⟨f0, f1, f2, f3, f4, f5, f6, f7, f8, f9, f10, f11, f12, f13, f14, f15, f16, f17, f18, f19, -⟩ := hF
  have e141 : PT 141 = P_rdXI := hp.1.1.1.2.2.2.2.2.2.2.1
  simp only [hF0, hF1, hF2, hF3, hF20, hF21, hFp_141, e141, P_rdXI, den_s, den_c, Int.add_zero, List.map_cons, List.map_nil] at f0 f1 f2 f3 f4 f5 f6 f7 f8 f9 f10 f11 f12 f13 f14 f15 f16 f17 f18 f19 ⊢
  have b4 : (0 : Int) ≤ ρ 4 ∧ ρ 4 ≤ 8 := hB 4 (0, 8) rfl
  have b14 : (1 : Int) ≤ ρ 14 ∧ ρ 14 ≤ 1 := hB 14 (1, 1) rfl
  have b15 : (0 : Int) ≤ ρ 15 ∧ ρ 15 ≤ 30 := hB 15 (0, 30) rfl
  have b16 : (0 : Int) ≤ ρ 16 ∧ ρ 16 ≤ 58 := hB 16 (0, 58) rfl
  have b17 : (0 : Int) ≤ ρ 17 ∧ ρ 17 ≤ 7 := hB 17 (0, 7) rfl
  have b18 : (2 : Int) ≤ ρ 18 ∧ ρ 18 ≤ 60 := hB 18 (2, 60) rfl
  have b19 : (0 : Int) ≤ ρ 19 ∧ ρ 19 ≤ 23 := hB 19 (0, 23) rfl
  have b20 : (0 : Int) ≤ ρ 20 ∧ ρ 20 ≤ 9 := hB 20 (0, 9) rfl
  clear hB
  generalize ρ 4 = r4, ρ 14 = r14, ρ 15 = r15, ρ 16 = r16, ρ 17 = r17, ρ 18 = r18, ρ 19 = r19, ρ 20 = r20, α 15 = a15, α 16 = a16, α 41 = a41, α 42 = a42, α 43 = a43, α 44 = a44, α 45 = a45, α 46 = a46, α 58 = a58, α 59 = a59, α 60 = a60, α 61 = a61, α 62 = a62, α 63 = a63 at *
  subst f0
  subst f1
  subst f2
  subst f13
  subst f15
  subst f18
  obtain ⟨i1, i2, i3, i4, i5⟩ := f19
  subst i1
  first
    | omega
    | (rcases (show r14 = 0 ∨ r14 = 1 ∨ r14 = 2 ∨ r14 = 3 by omega) with z | z | z | z <;> subst z <;> first | (exfalso; omega) | exact ⟨fun h => by omega, fun h h' => by omega, fun _ _ => ⟨by first | rfl | trivial, i5, by unfold okK; simp only [rowX_0, rowX_1, rowX_2, rowX_3]; omega⟩⟩)
    | (rcases (show r14 = 0 ∨ r14 = 1 ∨ r14 = 2 ∨ r14 = 3 by omega) with z | z | z | z <;> subst z <;> first | (exfalso; omega) | exact ⟨by omega, by omega, by omega, by omega, reI_s i5 (by omega) (by unfold okK; omega) (by omega) (by simp only [rowX_0, rowX_1, rowX_2, rowX_3]) (by simp only [rowX_0, rowX_1, rowX_2, rowX_3])⟩))
def w_xo_readC_1_14 : VC := ((bT ++ [(1, 1), (0, 30), (0, 58), (0, 7), (2, 60), (0, 23), (0, 9)]), [(21, [(some 17, 0), (none, 0)], [63, 60]), (21, [(some 17, 0), (some 20, 0)], [62, 59]), (21, [(some 17, 0), (some 19, 0)], [61, 58]), (2, [(some 17, 0), (none, 9)], []), (0, [(none, 0), (none, 0)], []), (2, [(some 17, 0), (none, 8)], []), (1, [(none, 1), (none, 0)], []), (1, [(none, 1), (none, 0)], []), (3, [(none, 9), (some 20, 0)], []), (3, [(some 20, 0), (none, 0)], []), (1, [(none, 1), (none, 0)], []), (3, [(none, 23), (some 19, 0)], []), (3, [(some 19, 0), (none, 0)], []), (20, [(some 20, 0), (some 16, 1)], [42]), (0, [(some 14, 0), (none, 1)], []), (20, [(some 19, 0), (some 16, 0)], [42]), (0, [(some 14, 0), (none, 1)], []), (2, [(some 16, 1), (some 18, 0)], []), (20, [(some 18, 0), (some 14, 0)], [45]), (141, [(some 15, 0), (some 16, 0), (some 4, 0), (some 17, 0), (some 14, 0)], [45, 46, 41, 42, 43, 44, 15, 16, 58, 59])], (3, [(none, 30), (some 15, 1)], []))
set_option maxRecDepth 20000 in
theorem v_xo_readC_1_14 {PT : PTy} (hp : HP12 PT) : vcOk PT w_xo_readC_1_14 := vc_of (fun ρ α hB hF => by
  obtain ⟨f0, f1, f2, f3, f4, f5, f6, f7, f8, f9, f10, f11, f12, f13, f14, f15, f16, f17, f18, f19, -⟩ := hF
  have e141 : PT 141 = P_rdXI := hp.1.1.1.2.2.2.2.2.2.2.1
  simp only [hF0, hF1, hF2, hF3, hF20, hF21, hFp_141, e141, P_rdXI, den_s, den_c, Int.add_zero, List.map_cons, List.map_nil] at f0 f1 f2 f3 f4 f5 f6 f7 f8 f9 f10 f11 f12 f13 f14 f15 f16 f17 f18 f19 ⊢
  have b4 : (0 : Int) ≤ ρ 4 ∧ ρ 4 ≤ 8 := hB 4 (0, 8) rfl
  have b14 : (1 : Int) ≤ ρ 14 ∧ ρ 14 ≤ 1 := hB 14 (1, 1) rfl
  have b15 : (0 : Int) ≤ ρ 15 ∧ ρ 15 ≤ 30 := hB 15 (0, 30) rfl
  have b16 : (0 : Int) ≤ ρ 16 ∧ ρ 16 ≤ 58 := hB 16 (0, 58) rfl
  have b17 : (0 : Int) ≤ ρ 17 ∧ ρ 17 ≤ 7 := hB 17 (0, 7) rfl
  have b18 : (2 : Int) ≤ ρ 18 ∧ ρ 18 ≤ 60 := hB 18 (2, 60) rfl
  have b19 : (0 : Int) ≤ ρ 19 ∧ ρ 19 ≤ 23 := hB 19 (0, 23) rfl
  have b20 : (0 : Int) ≤ ρ 20 ∧ ρ 20 ≤ 9 := hB 20 (0, 9) rfl
  clear hB
  generalize ρ 4 = r4, ρ 14 = r14, ρ 15 = r15, ρ 16 = r16, ρ 17 = r17, ρ 18 = r18, ρ 19 = r19, ρ 20 = r20, α 15 = a15, α 16 = a16, α 41 = a41, α 42 = a42, α 43 = a43, α 44 = a44, α 45 = a45, α 46 = a46, α 58 = a58, α 59 = a59, α 60 = a60, α 61 = a61, α 62 = a62, α 63 = a63 at *
  subst f0
  subst f1
  subst f2
  subst f13
  subst f15
  subst f18
  obtain ⟨i1, i2, i3, i4, i5⟩ := f19
  subst i1
  first
    | omega
    | (rcases (show r14 = 0 ∨ r14 = 1 ∨ r14 = 2 ∨ r14 = 3 by omega) with z | z | z | z <;> subst z <;> first | (exfalso; omega) | exact ⟨fun h => by omega, fun h h' => by omega, fun _ _ => ⟨by first | rfl | trivial, i5, by unfold okK; simp only [rowX_0, rowX_1, rowX_2, rowX_3]; omega⟩⟩)
    | (rcases (show r14 = 0 ∨ r14 = 1 ∨ r14 = 2 ∨ r14 = 3 by omega) with z | z | z | z <;> subst z <;> first | (exfalso; omega) | exact ⟨by omega, by omega, by omega, by omega, reI_s i5 (by omega) (by unfold okK; omega) (by omega) (by simp only [rowX_0, rowX_1, rowX_2, rowX_3]) (by simp only [rowX_0, rowX_1, rowX_2, rowX_3])⟩))
def w_xo_readC_1_15 : VC := ((bT ++ [(1, 1), (0, 30), (0, 58), (0, 7), (2, 60), (0, 23), (0, 9)]), [(21, [(some 17, 0), (none, 0)], [63, 60]), (21, [(some 17, 0), (some 20, 0)], [62, 59]), (21, [(some 17, 0), (some 19, 0)], [61, 58]), (2, [(some 17, 0), (none, 9)], []), (0, [(none, 0), (none, 0)], []), (2, [(some 17, 0), (none, 8)], []), (1, [(none, 1), (none, 0)], []), (1, [(none, 1), (none, 0)], []), (3, [(none, 9), (some 20, 0)], []), (3, [(some 20, 0), (none, 0)], []), (1, [(none, 1), (none, 0)], []), (3, [(none, 23), (some 19, 0)], []), (3, [(some 19, 0), (none, 0)], []), (20, [(some 20, 0), (some 16, 1)], [42]), (0, [(some 14, 0), (none, 1)], []), (20, [(some 19, 0), (some 16, 0)], [42]), (0, [(some 14, 0), (none, 1)], []), (2, [(some 16, 1), (some 18, 0)], []), (20, [(some 18, 0), (some 14, 0)], [45]), (141, [(some 15, 0), (some 16, 0), (some 4, 0), (some 17, 0), (some 14, 0)], [45, 46, 41, 42, 43, 44, 15, 16, 58, 59])], (141, [(some 15, 1), (some 16, 2), (some 4, 0), (some 17, 1), (some 14, 0)], [45, 46, 41, 42, 43, 44, 15, 16, 61, 62]))
set_option maxRecDepth 20000 in
theorem v_xo_readC_1_15 {PT : PTy} (hp : HP12 PT) : vcOk PT w_xo_readC_1_15 := vc_of (fun ρ α hB hF => by
  obtain ⟨f0, f1, f2, f3, f4, f5, f6, f7, f8, f9, f10, f11, f12, f13, f14, f15, f16, f17, f18, f19, -⟩ := hF
  have e141 : PT 141 = P_rdXI := hp.1.1.1.2.2.2.2.2.2.2.1
  simp only [hF0, hF1, hF2, hF3, hF20, hF21, hFp_141, e141, P_rdXI, den_s, den_c, Int.add_zero, List.map_cons, List.map_nil] at f0 f1 f2 f3 f4 f5 f6 f7 f8 f9 f10 f11 f12 f13 f14 f15 f16 f17 f18 f19 ⊢
  have b4 : (0 : Int) ≤ ρ 4 ∧ ρ 4 ≤ 8 := hB 4 (0, 8) rfl
  have b14 : (1 : Int) ≤ ρ 14 ∧ ρ 14 ≤ 1 := hB 14 (1, 1) rfl
  have b15 : (0 : Int) ≤ ρ 15 ∧ ρ 15 ≤ 30 := hB 15 (0, 30) rfl
  have b16 : (0 : Int) ≤ ρ 16 ∧ ρ 16 ≤ 58 := hB 16 (0, 58) rfl
  have b17 : (0 : Int) ≤ ρ 17 ∧ ρ 17 ≤ 7 := hB 17 (0, 7) rfl
  have b18 : (2 : Int) ≤ ρ 18 ∧ ρ 18 ≤ 60 := hB 18 (2, 60) rfl
  have b19 : (0 : Int) ≤ ρ 19 ∧ ρ 19 ≤ 23 := hB 19 (0, 23) rfl
  have b20 : (0 : Int) ≤ ρ 20 ∧ ρ 20 ≤ 9 := hB 20 (0, 9) rfl
  clear hB
  generalize ρ 4 = r4, ρ 14 = r14, ρ 15 = r15, ρ 16 = r16, ρ 17 = r17, ρ 18 = r18, ρ 19 = r19, ρ 20 = r20, α 15 = a15, α 16 = a16, α 41 = a41, α 42 = a42, α 43 = a43, α 44 = a44, α 45 = a45, α 46 = a46, α 58 = a58, α 59 = a59, α 60 = a60, α 61 = a61, α 62 = a62, α 63 = a63 at *
  subst f0
  subst f1
  subst f2
  subst f13
  subst f15
  subst f18
  obtain ⟨i1, i2, i3, i4, i5⟩ := f19
  subst i1
  first
    | omega
    | (rcases (show r14 = 0 ∨ r14 = 1 ∨ r14 = 2 ∨ r14 = 3 by omega) with z | z | z | z <;> subst z <;> first | (exfalso; omega) | exact ⟨fun h => by omega, fun h h' => by omega, fun _ _ => ⟨by first | rfl | trivial, i5, by unfold okK; simp only [rowX_0, rowX_1, rowX_2, rowX_3]; omega⟩⟩)
    | (rcases (show r14 = 0 ∨ r14 = 1 ∨ r14 = 2 ∨ r14 = 3 by omega) with z | z | z | z <;> subst z <;> first | (exfalso; omega) | exact ⟨by omega, by omega, by omega, by omega, reI_s i5 (by omega) (by unfold okK; omega) (by omega) (by simp only [rowX_0, rowX_1, rowX_2, rowX_3]) (by simp only [rowX_0, rowX_1, rowX_2, rowX_3])⟩))
def w_xo_readC_1_16 : VC := ((bT ++ [(1, 1), (0, 30), (0, 58), (8, 8), (2, 60), (0, 23), (0, 9)]), [(1, [(none, 1), (none, 0)], []), (3, [(some 17, 0), (none, 8)], []), (1, [(none, 1), (none, 0)], []), (1, [(none, 1), (none, 0)], []), (3, [(none, 9), (some 20, 0)], []), (3, [(some 20, 0), (none, 0)], []), (1, [(none, 1), (none, 0)], []), (3, [(none, 23), (some 19, 0)], []), (3, [(some 19, 0), (none, 0)], []), (20, [(some 20, 0), (some 16, 1)], [42]), (0, [(some 14, 0), (none, 1)], []), (20, [(some 19, 0), (some 16, 0)], [42]), (0, [(some 14, 0), (none, 1)], []), (2, [(some 16, 1), (some 18, 0)], []), (20, [(some 18, 0), (some 14, 0)], [45]), (141, [(some 15, 0), (some 16, 0), (some 4, 0), (some 17, 0), (some 14, 0)], [45, 46, 41, 42, 43, 44, 15, 16, 58, 59])], (140, [(some 15, 0), (some 14, 0), (none, 0), (some 4, 0), (some 17, 0), (some 13, 0), (some 13, 0)], [45, 46, 41, 42, 43, 44, 15, 16, 58, 59]))
set_option maxRecDepth 20000 in
theorem v_xo_readC_1_16 {PT : PTy} (hp : HP12 PT) : vcOk PT w_xo_readC_1_16 := vc_of (fun ρ α hB hF => by
  obtain ⟨f0, f1, f2, f3, f4, f5, f6, f7, f8, f9, f10, f11, f12, f13, f14, f15, -⟩ := hF
  have e140 : PT 140 = P_rdX := hp.1.1.1.2.2.2.2.2.2.1
  have e141 : PT 141 = P_rdXI := hp.1.1.1.2.2.2.2.2.2.2.1
  simp only [hF0, hF1, hF2, hF3, hF20, hFp_140, hFp_141, e140, e141, P_rdX, P_rdXI, den_s, den_c, Int.add_zero, List.map_cons, List.map_nil] at f0 f1 f2 f3 f4 f5 f6 f7 f8 f9 f10 f11 f12 f13 f14 f15 ⊢
  have b4 : (0 : Int) ≤ ρ 4 ∧ ρ 4 ≤ 8 := hB 4 (0, 8) rfl
  have b13 : (0 : Int) ≤ ρ 13 ∧ ρ 13 ≤ 5 := hB 13 (0, 5) rfl
  have b14 : (1 : Int) ≤ ρ 14 ∧ ρ 14 ≤ 1 := hB 14 (1, 1) rfl
  have b15 : (0 : Int) ≤ ρ 15 ∧ ρ 15 ≤ 30 := hB 15 (0, 30) rfl
  have b16 : (0 : Int) ≤ ρ 16 ∧ ρ 16 ≤ 58 := hB 16 (0, 58) rfl
  have b17 : (8 : Int) ≤ ρ 17 ∧ ρ 17 ≤ 8 := hB 17 (8, 8) rfl
  have b18 : (2 : Int) ≤ ρ 18 ∧ ρ 18 ≤ 60 := hB 18 (2, 60) rfl
  have b19 : (0 : Int) ≤ ρ 19 ∧ ρ 19 ≤ 23 := hB 19 (0, 23) rfl
  have b20 : (0 : Int) ≤ ρ 20 ∧ ρ 20 ≤ 9 := hB 20 (0, 9) rfl
  clear hB
  generalize ρ 4 = r4, ρ 13 = r13, ρ 14 = r14, ρ 15 = r15, ρ 16 = r16, ρ 17 = r17, ρ 18 = r18, ρ 19 = r19, ρ 20 = r20, α 15 = a15, α 16 = a16, α 41 = a41, α 42 = a42, α 43 = a43, α 44 = a44, α 45 = a45, α 46 = a46, α 58 = a58, α 59 = a59 at *
  subst f9
  subst f11
  subst f14
  obtain ⟨i1, i2, i3, i4, i5⟩ := f15
  subst i1
  first
    | omega
    | (rcases (show r14 = 0 ∨ r14 = 1 ∨ r14 = 2 ∨ r14 = 3 by omega) with z | z | z | z <;> subst z <;> first | (exfalso; omega) | exact ⟨fun h => by omega, fun h h' => by omega, fun _ _ => ⟨by first | rfl | trivial, i5, by unfold okK; simp only [rowX_0, rowX_1, rowX_2, rowX_3]; omega⟩⟩)
    | (rcases (show r14 = 0 ∨ r14 = 1 ∨ r14 = 2 ∨ r14 = 3 by omega) with z | z | z | z <;> subst z <;> first | (exfalso; omega) | exact ⟨by omega, by omega, by omega, by omega, reI_s i5 (by omega) (by unfold okK; omega) (by omega) (by simp only [rowX_0, rowX_1, rowX_2, rowX_3]) (by simp only [rowX_0, rowX_1, rowX_2, rowX_3])⟩))
def w_xo_readC_1_17 : VC := ((bT ++ [(2, 2), (0, 30), (0, 58), (0, 8), (2, 60), ((-2147483648), (-1)), ((-2147483648), 2147483647)]), [(0, [(none, 0), (none, 0)], []), (0, [(none, 0), (none, 0)], []), (2, [(some 19, 0), (none, 0)], []), (20, [(some 20, 0), (some 16, 1)], [43]), (0, [(some 14, 0), (none, 2)], []), (20, [(some 19, 0), (some 16, 0)], [43]), (0, [(some 14, 0), (none, 2)], []), (2, [(some 16, 1), (some 18, 0)], []), (20, [(some 18, 0), (some 14, 0)], [45]), (141, [(some 15, 0), (some 16, 0), (some 4, 0), (some 17, 0), (some 14, 0)], [45, 46, 41, 42, 43, 44, 15, 16, 58, 59])], (140, [(some 15, 0), (some 14, 0), (none, 0), (some 4, 0), (some 17, 0), (some 13, 0), (some 13, 0)], [45, 46, 41, 42, 43, 44, 15, 16, 58, 59]))
set_option maxRecDepth 20000 in
theorem v_xo_readC_1_17 {PT : PTy} (hp : HP12 PT) : vcOk PT w_xo_readC_1_17 := vc_of (fun ρ α hB hF => by
  obtain ⟨f0, f1, f2, f3, f4, f5, f6, f7, f8, f9, -⟩ := hF
  have e140 : PT 140 = P_rdX := hp.1.1.1.2.2.2.2.2.2.1
  have e141 : PT 141 = P_rdXI := hp.1.1.1.2.2.2.2.2.2.2.1
  simp only [hF0, hF2, hF20, hFp_140, hFp_141, e140, e141, P_rdX, P_rdXI, den_s, den_c, Int.add_zero, List.map_cons, List.map_nil] at f0 f1 f2 f3 f4 f5 f6 f7 f8 f9 ⊢
  have b4 : (0 : Int) ≤ ρ 4 ∧ ρ 4 ≤ 8 := hB 4 (0, 8) rfl
  have b13 : (0 : Int) ≤ ρ 13 ∧ ρ 13 ≤ 5 := hB 13 (0, 5) rfl
  have b14 : (2 : Int) ≤ ρ 14 ∧ ρ 14 ≤ 2 := hB 14 (2, 2) rfl
  have b15 : (0 : Int) ≤ ρ 15 ∧ ρ 15 ≤ 30 := hB 15 (0, 30) rfl
  have b16 : (0 : Int) ≤ ρ 16 ∧ ρ 16 ≤ 58 := hB 16 (0, 58) rfl
  have b17 : (0 : Int) ≤ ρ 17 ∧ ρ 17 ≤ 8 := hB 17 (0, 8) rfl
  have b18 : (2 : Int) ≤ ρ 18 ∧ ρ 18 ≤ 60 := hB 18 (2, 60) rfl
  have b19 : ((-2147483648) : Int) ≤ ρ 19 ∧ ρ 19 ≤ (-1) := hB 19 ((-2147483648), (-1)) rfl
  have b20 : ((-2147483648) : Int) ≤ ρ 20 ∧ ρ 20 ≤ 2147483647 := hB 20 ((-2147483648), 2147483647) rfl
  clear hB
  generalize ρ 4 = r4, ρ 13 = r13, ρ 14 = r14, ρ 15 = r15, ρ 16 = r16, ρ 17 = r17, ρ 18 = r18, ρ 19 = r19, ρ 20 = r20, α 15 = a15, α 16 = a16, α 41 = a41, α 42 = a42, α 43 = a43, α 44 = a44, α 45 = a45, α 46 = a46, α 58 = a58, α 59 = a59 at *
  subst f3
  subst f5
  subst f8
  obtain ⟨i1, i2, i3, i4, i5⟩ := f9
  subst i1
  first
    | omega
    | (rcases (show r14 = 0 ∨ r14 = 1 ∨ r14 = 2 ∨ r14 = 3 by omega) with z | z | z | z <;> subst z <;> first | (exfalso; omega) | exact ⟨fun h => by omega, fun h h' => by omega, fun _ _ => ⟨by first | rfl | trivial, i5, by unfold okK; simp only [rowX_0, rowX_1, rowX_2, rowX_3]; omega⟩⟩)
    | (rcases (show r14 = 0 ∨ r14 = 1 ∨ r14 = 2 ∨ r14 = 3 by omega) with z | z | z | z <;> subst z <;> first | (exfalso; omega) | exact ⟨by omega, by omega, by omega, by omega, reI_s i5 (by omega) (by unfold okK; omega) (by omega) (by simp only [rowX_0, rowX_1, rowX_2, rowX_3]) (by simp only [rowX_0, rowX_1, rowX_2, rowX_3])⟩))
def w_xo_readC_1_18 : VC := ((bT ++ [(2, 2), (0, 30), (0, 58), (0, 8), (2, 60), (24, 2147483647), ((-2147483648), 2147483647)]), [(0, [(none, 0), (none, 0)], []), (0, [(none, 0), (none, 0)], []), (2, [(none, 23), (some 19, 0)], []), (3, [(some 19, 0), (none, 0)], []), (20, [(some 20, 0), (some 16, 1)], [43]), (0, [(some 14, 0), (none, 2)], []), (20, [(some 19, 0), (some 16, 0)], [43]), (0, [(some 14, 0), (none, 2)], []), (2, [(some 16, 1), (some 18, 0)], []), (20, [(some 18, 0), (some 14, 0)], [45]), (141, [(some 15, 0), (some 16, 0), (some 4, 0), (some 17, 0), (some 14, 0)], [45, 46, 41, 42, 43, 44, 15, 16, 58, 59])], (140, [(some 15, 0), (some 14, 0), (none, 0), (some 4, 0), (some 17, 0), (some 13, 0), (some 13, 0)], [45, 46, 41, 42, 43, 44, 15, 16, 58, 59]))
set_option maxRecDepth 20000 in
theorem v_xo_readC_1_18 {PT : PTy} (hp : HP12 PT) : vcOk PT w_xo_readC_1_18 := vc_of (fun ρ α hB hF => by
  obtain ⟨f0, f1, f2, f3, f4, f5, f6, f7, f8, f9, f10, -⟩ := hF
  have e140 : PT 140 = P_rdX := hp.1.1.1.2.2.2.2.2.2.1
  have e141 : PT 141 = P_rdXI := hp.1.1.1.2.2.2.2.2.2.2.1
  simp only [hF0, hF2, hF3, hF20, hFp_140, hFp_141, e140, e141, P_rdX, P_rdXI, den_s, den_c, Int.add_zero, List.map_cons, List.map_nil] at f0 f1 f2 f3 f4 f5 f6 f7 f8 f9 f10 ⊢
  have b4 : (0 : Int) ≤ ρ 4 ∧ ρ 4 ≤ 8 := hB 4 (0, 8) rfl
  have b13 : (0 : Int) ≤ ρ 13 ∧ ρ 13 ≤ 5 := hB 13 (0, 5) rfl
  have b14 : (2 : Int) ≤ ρ 14 ∧ ρ 14 ≤ 2 := hB 14 (2, 2) rfl
  have b15 : (0 : Int) ≤ ρ 15 ∧ ρ 15 ≤ 30 := hB 15 (0, 30) rfl
  have b16 : (0 : Int) ≤ ρ 16 ∧ ρ 16 ≤ 58 := hB 16 (0, 58) rfl
  have b17 : (0 : Int) ≤ ρ 17 ∧ ρ 17 ≤ 8 := hB 17 (0, 8) rfl
  have b18 : (2 : Int) ≤ ρ 18 ∧ ρ 18 ≤ 60 := hB 18 (2, 60) rfl
  have b19 : (24 : Int) ≤ ρ 19 ∧ ρ 19 ≤ 2147483647 := hB 19 (24, 2147483647) rfl
  have b20 : ((-2147483648) : Int) ≤ ρ 20 ∧ ρ 20 ≤ 2147483647 := hB 20 ((-2147483648), 2147483647) rfl
  clear hB
  generalize ρ 4 = r4, ρ 13 = r13, ρ 14 = r14, ρ 15 = r15, ρ 16 = r16, ρ 17 = r17, ρ 18 = r18, ρ 19 = r19, ρ 20 = r20, α 15 = a15, α 16 = a16, α 41 = a41, α 42 = a42, α 43 = a43, α 44 = a44, α 45 = a45, α 46 = a46, α 58 = a58, α 59 = a59 at *
  subst f4
  subst f6
  subst f9
  obtain ⟨i1, i2, i3, i4, i5⟩ := f10
  subst i1
  first
    | omega
    | (rcases (show r14 = 0 ∨ r14 = 1 ∨ r14 = 2 ∨ r14 = 3 by omega) with z | z | z | z <;> subst z <;> first | (exfalso; omega) | exact ⟨fun h => by omega, fun h h' => by omega, fun _ _ => ⟨by first | rfl | trivial, i5, by unfold okK; simp only [rowX_0, rowX_1, rowX_2, rowX_3]; omega⟩⟩)
    | (rcases (show r14 = 0 ∨ r14 = 1 ∨ r14 = 2 ∨ r14 = 3 by omega) with z | z | z | z <;> subst z <;> first | (exfalso; omega) | exact ⟨by omega, by omega, by omega, by omega, reI_s i5 (by omega) (by unfold okK; omega) (by omega) (by simp only [rowX_0, rowX_1, rowX_2, rowX_3]) (by simp only [rowX_0, rowX_1, rowX_2, rowX_3])⟩))
def w_xo_readC_1_19 : VC := ((bT ++ [(2, 2), (0, 30), (0, 58), (0, 8), (2, 60), (0, 23), ((-2147483648), (-1))]), [(0, [(none, 0), (none, 0)], []), (0, [(none, 0), (none, 0)], []), (2, [(some 20, 0), (none, 0)], []), (1, [(none, 1), (none, 0)], []), (3, [(none, 23), (some 19, 0)], []), (3, [(some 19, 0), (none, 0)], []), (20, [(some 20, 0), (some 16, 1)], [43]), (0, [(some 14, 0), (none, 2)], []), (20, [(some 19, 0), (some 16, 0)], [43]), (0, [(some 14, 0), (none, 2)], []), (2, [(some 16, 1), (some 18, 0)], []), (20, [(some 18, 0), (some 14, 0)], [45]), (141, [(some 15, 0), (some 16, 0), (some 4, 0), (some 17, 0), (some 14, 0)], [45, 46, 41, 42, 43, 44, 15, 16, 58, 59])], (140, [(some 15, 0), (some 14, 0), (none, 0), (some 4, 0), (some 17, 0), (some 13, 0), (some 13, 0)], [45, 46, 41, 42, 43, 44, 15, 16, 58, 59]))
set_option maxRecDepth 20000 in
theorem v_xo_readC_1_19 {PT : PTy} (hp : HP12 PT) : vcOk PT w_xo_readC_1_19 := vc_of (fun ρ α hB hF => by
  obtain ⟨f0, f1, f2, f3, f4, f5, f6, f7, f8, f9, f10, f11, f12, -⟩ := hF
  have e140 : PT 140 = P_rdX := hp.1.1.1.2.2.2.2.2.2.1
  have e141 : PT 141 = P_rdXI := hp.1.1.1.2.2.2.2.2.2.2.1
  simp only [hF0, hF1, hF2, hF3, hF20, hFp_140, hFp_141, e140, e141, P_rdX, P_rdXI, den_s, den_c, Int.add_zero, List.map_cons, List.map_nil] at f0 f1 f2 f3 f4 f5 f6 f7 f8 f9 f10 f11 f12 ⊢
  have b4 : (0 : Int) ≤ ρ 4 ∧ ρ 4 ≤ 8 := hB 4 (0, 8) rfl
  have b13 : (0 : Int) ≤ ρ 13 ∧ ρ 13 ≤ 5 := hB 13 (0, 5) rfl
  have b14 : (2 : Int) ≤ ρ 14 ∧ ρ 14 ≤ 2 := hB 14 (2, 2) rfl
  have b15 : (0 : Int) ≤ ρ 15 ∧ ρ 15 ≤ 30 := hB 15 (0, 30) rfl
  have b16 : (0 : Int) ≤ ρ 16 ∧ ρ 16 ≤ 58 := hB 16 (0, 58) rfl
  have b17 : (0 : Int) ≤ ρ 17 ∧ ρ 17 ≤ 8 := hB 17 (0, 8) rfl
  have b18 : (2 : Int) ≤ ρ 18 ∧ ρ 18 ≤ 60 := hB 18 (2, 60) rfl
  have b19 : (0 : Int) ≤ ρ 19 ∧ ρ 19 ≤ 23 := hB 19 (0, 23) rfl
  have b20 : ((-2147483648) : Int) ≤ ρ 20 ∧ ρ 20 ≤ (-1) := hB 20 ((-2147483648), (-1)) rfl
  clear hB
  generalize ρ 4 = r4, ρ 13 = r13, ρ 14 = r14, ρ 15 = r15, ρ 16 = r16, ρ 17 = r17, ρ 18 = r18, ρ 19 = r19, ρ 20 = r20, α 15 = a15, α 16 = a16, α 41 = a41, α 42 = a42, α 43 = a43, α 44 = a44, α 45 = a45, α 46 = a46, α 58 = a58, α 59 = a59 at *
  subst f6
  subst f8
  subst f11
  obtain ⟨i1, i2, i3, i4, i5⟩ := f12
  subst i1
  first
    | omega
    | (rcases (show r14 = 0 ∨ r14 = 1 ∨ r14 = 2 ∨ r14 = 3 by omega) with z | z | z | z <;> subst z <;> first | (exfalso; omega) | exact ⟨fun h => by omega, fun h h' => by omega, fun _ _ => ⟨by first | rfl | trivial, i5, by unfold okK; simp only [rowX_0, rowX_1, rowX_2, rowX_3]; omega⟩⟩)
    | (rcases (show r14 = 0 ∨ r14 = 1 ∨ r14 = 2 ∨ r14 = 3 by omega) with z | z | z | z <;> subst z <;> first | (exfalso; omega) | exact ⟨by omega, by omega, by omega, by omega, reI_s i5 (by omega) (by unfold okK; omega) (by omega) (by simp only [rowX_0, rowX_1, rowX_2, rowX_3]) (by simp only [rowX_0, rowX_1, rowX_2, rowX_3])⟩))
def w_xo_readC_1_20 : VC := ((bT ++ [(2, 2), (0, 30), (0, 58), (0, 8), (2, 60), (0, 23), (10, 2147483647)]), [(0, [(none, 0), (none, 0)], []), (0, [(none, 0), (none, 0)], []), (2, [(none, 9), (some 20, 0)], []), (3, [(some 20, 0), (none, 0)], []), (1, [(none, 1), (none, 0)], []), (3, [(none, 23), (some 19, 0)], []), (3, [(some 19, 0), (none, 0)], []), (20, [(some 20, 0), (some 16, 1)], [43]), (0, [(some 14, 0), (none, 2)], []), (20, [(some 19, 0), (some 16, 0)], [43]), (0, [(some 14, 0), (none, 2)], []), (2, [(some 16, 1), (some 18, 0)], []), (20, [(some 18, 0), (some 14, 0)], [45]), (141, [(some 15, 0), (some 16, 0), (some 4, 0), (some 17, 0), (some 14, 0)], [45, 46, 41, 42, 43, 44, 15, 16, 58, 59])], (140, [(some 15, 0), (some 14, 0), (none, 0), (some 4, 0), (some 17, 0), (some 13, 0), (some 13, 0)], [45, 46, 41, 42, 43, 44, 15, 16, 58, 59]))
set_option maxRecDepth 20000 in
theorem v_xo_readC_1_20 {PT : PTy} (hp : HP12 PT) : vcOk PT w_xo_readC_1_20 := vc_of (fun ρ α hB hF => by
  obtain ⟨f0, f1, f2, f3, f4, f5, f6, f7, f8, f9, f10, f11, f12, f13, -⟩ := hF
  have e140 : PT 140 = P_rdX := hp.1.1.1.2.2.2.2.2.2.1
  have e141 : PT 141 = P_rdXI := hp.1.1.1.2.2.2.2.2.2.2.1
  simp only [hF0, hF1, hF2, hF3, hF20, hFp_140, hFp_141, e140, e141, P_rdX, P_rdXI, den_s, den_c, Int.add_zero, List.map_cons, List.map_nil] at f0 f1 f2 f3 f4 f5 f6 f7 f8 f9 f10 f11 f12 f13 ⊢
  have b4 : (0 : Int) ≤ ρ 4 ∧ ρ 4 ≤ 8 := hB 4 (0, 8) rfl
  have b13 : (0 : Int) ≤ ρ 13 ∧ ρ 13 ≤ 5 := hB 13 (0, 5) rfl
  have b14 : (2 : Int) ≤ ρ 14 ∧ ρ 14 ≤ 2 := hB 14 (2, 2) rfl
  have b15 : (0 : Int) ≤ ρ 15 ∧ ρ 15 ≤ 30 := hB 15 (0, 30) rfl
  have b16 : (0 : Int) ≤ ρ 16 ∧ ρ 16 ≤ 58 := hB 16 (0, 58) rfl
  have b17 : (0 : Int) ≤ ρ 17 ∧ ρ 17 ≤ 8 := hB 17 (0, 8) rfl
  have b18 : (2 : Int) ≤ ρ 18 ∧ ρ 18 ≤ 60 := hB 18 (2, 60) rfl
  have b19 : (0 : Int) ≤ ρ 19 ∧ ρ 19 ≤ 23 := hB 19 (0, 23) rfl
  have b20 : (10 : Int) ≤ ρ 20 ∧ ρ 20 ≤ 2147483647 := hB 20 (10, 2147483647) rfl
  clear hB
  generalize ρ 4 = r4, ρ 13 = r13, ρ 14 = r14, ρ 15 = r15, ρ 16 = r16, ρ 17 = r17, ρ 18 = r18, ρ 19 = r19, ρ 20 = r20, α 15 = a15, α 16 = a16, α 41 = a41, α 42 = a42, α 43 = a43, α 44 = a44, α 45 = a45, α 46 = a46, α 58 = a58, α 59 = a59 at *
  subst f7
  subst f9
  subst f12
  obtain ⟨i1, i2, i3, i4, i5⟩ := f13
  subst i1
  first
    | omega
    | (rcases (show r14 = 0 ∨ r14 = 1 ∨ r14 = 2 ∨ r14 = 3 by omega) with z | z | z | z <;> subst z <;> first | (exfalso; omega) | exact ⟨fun h => by omega, fun h h' => by omega, fun _ _ => ⟨by first | rfl | trivial, i5, by unfold okK; simp only [rowX_0, rowX_1, rowX_2, rowX_3]; omega⟩⟩)
    | (rcases (show r14 = 0 ∨ r14 = 1 ∨ r14 = 2 ∨ r14 = 3 by omega) with z | z | z | z <;> subst z <;> first | (exfalso; omega) | exact ⟨by omega, by omega, by omega, by omega, reI_s i5 (by omega) (by unfold okK; omega) (by omega) (by simp only [rowX_0, rowX_1, rowX_2, rowX_3]) (by simp only [rowX_0, rowX_1, rowX_2, rowX_3])⟩))
def w_xo_readC_1_21 : VC := ((bT ++ [(2, 2), (0, 30), (0, 58), (0, 7), (2, 60), (0, 23), (0, 9)]), [(21, [(some 17, 0), (none, 0)], [63, 60]), (21, [(some 17, 0), (some 20, 0)], [62, 59]), (21, [(some 17, 0), (some 19, 0)], [61, 58]), (2, [(some 17, 0), (none, 9)], []), (0, [(none, 0), (none, 0)], []), (2, [(some 17, 0), (none, 8)], []), (1, [(none, 1), (none, 0)], []), (1, [(none, 1), (none, 0)], []), (3, [(none, 9), (some 20, 0)], []), (3, [(some 20, 0), (none, 0)], []), (1, [(none, 1), (none, 0)], []), (3, [(none, 23), (some 19, 0)], []), (3, [(some 19, 0), (none, 0)], []), (20, [(some 20, 0), (some 16, 1)], [43]), (0, [(some 14, 0), (none, 2)], []), (20, [(some 19, 0), (some 16, 0)], [43]), (0, [(some 14, 0), (none, 2)], []), (2, [(some 16, 1), (some 18, 0)], []), (20, [(some 18, 0), (some 14, 0)], [45]), (141, [(some 15, 0), (some 16, 0), (some 4, 0), (some 17, 0), (some 14, 0)], [45, 46, 41, 42, 43, 44, 15, 16, 58, 59])], (3, [(some 15, 1), (none, 0)], []))
set_option maxRecDepth 20000 in
theorem v_xo_readC_1_21 {PT : PTy} (hp : HP12 PT) : vcOk PT w_xo_readC_1_21 := vc_of (fun ρ α hB hF => by
  obtain ⟨f0, f1, f2, f3, f4, f5, f6, f7, f8, f9, f10, f11, f12, f13, f14, f15, f16, f17, f18, f19, -⟩ := hF
  have e141 : PT 141 = P_rdXI := hp.1.1.1.2.2.2.2.2.2.2.1
  simp only [hF0, hF1, hF2, hF3, hF20, hF21, hFp_141, e141, P_rdXI, den_s, den_c, Int.add_zero, List.map_cons, List.map_nil] at f0 f1 f2 f3 f4 f5 f6 f7 f8 f9 f10 f11 f12 f13 f14 f15 f16 f17 f18 f19 ⊢
  have b4 : (0 : Int) ≤ ρ 4 ∧ ρ 4 ≤ 8 := hB 4 (0, 8) rfl
  have b14 : (2 : Int) ≤ ρ 14 ∧ ρ 14 ≤ 2 := hB 14 (2, 2) rfl
  have b15 : (0 : Int) ≤ ρ 15 ∧ ρ 15 ≤ 30 := hB 15 (0, 30) rfl
  have b16 : (0 : Int) ≤ ρ 16 ∧ ρ 16 ≤ 58 := hB 16 (0, 58) rfl
  have b17 : (0 : Int) ≤ ρ 17 ∧ ρ 17 ≤ 7 := hB 17 (0, 7) rfl
  have b18 : (2 : Int) ≤ ρ 18 ∧ ρ 18 ≤ 60 := hB 18 (2, 60) rfl
  have b19 : (0 : Int) ≤ ρ 19 ∧ ρ 19 ≤ 23 := hB 19 (0, 23) rfl
  have b20 : (0 : Int) ≤ ρ 20 ∧ ρ 20 ≤ 9 := hB 20 (0, 9) rfl
  clear hB
  generalize ρ 4 = r4, ρ 14 = r14, ρ 15 = r15, ρ 16 = r16, ρ 17 = r17, ρ 18 = r18, ρ 19 = r19, ρ 20 = r20, α 15 = a15, α 16 = a16, α 41 = a41, α 42 = a42, α 43 = a43, α 44 = a44, α 45 = a45, α 46 = a46, α 58 = a58, α 59 = a59, α 60 = a60, α 61 = a61, α 62 = a62, α 63 = a63 at *
  subst f0
  subst f1
  subst f2
  subst f13
  subst f15
  subst f18
  obtain ⟨i1, i2, i3, i4, i5⟩ := f19
  subst i1
  first
    | omega
    | (rcases (show r14 = 0 ∨ r14 = 1 ∨ r14 = 2 ∨ r14 = 3 by omega) with z | z | z | z <;> subst z <;> first | (exfalso; omega) | exact ⟨fun h => by omega, fun h h' => by omega, fun _ _ => ⟨by first | rfl | trivial, i5, by unfold okK; simp only [rowX_0, rowX_1, rowX_2, rowX_3]; omega⟩⟩)
    | (rcases (show r14 = 0 ∨ r14 = 1 ∨ r14 = 2 ∨ r14 = 3 by omega) with z | z | z | z <;> subst z <;> first | (exfalso; omega) | exact ⟨by omega, by omega, by omega, by omega, reI_s i5 (by omega) (by unfold okK; omega) (by omega) (by simp only [rowX_0, rowX_1, rowX_2, rowX_3]) (by simp only [rowX_0, rowX_1, rowX_2, rowX_3])⟩))
def w_xo_readC_1_22 : VC := ((bT ++ [(2, 2), (0, 30), (0, 58), (0, 7), (2, 60), (0, 23), (0, 9)]), [(21, [(some 17, 0), (none, 0)], [63, 60]), (21, [(some 17, 0), (some 20, 0)], [62, 59]), (21, [(some 17, 0), (some 19, 0)], [61, 58]), (2, [(some 17, 0), (none, 9)], []), (0, [(none, 0), (none, 0)], []), (2, [(some 17, 0), (none, 8)], []), (1, [(none, 1), (none, 0)], []), (1, [(none, 1), (none, 0)], []), (3, [(none, 9), (some 20, 0)], []), (3, [(some 20, 0), (none, 0)], []), (1, [(none, 1), (none, 0)], []), (3, [(none, 23), (some 19, 0)], []), (3, [(some 19, 0), (none, 0)], []), (20, [(some 20, 0), (some 16, 1)], [43]), (0, [(some 14, 0), (none, 2)], []), (20, [(some 19, 0), (some 16, 0)], [43]), (0, [(some 14, 0), (none, 2)], []), (2, [(some 16, 1), (some 18, 0)], []), (20, [(some 18, 0), (some 14, 0)], [45]), (141, [(some 15, 0), (some 16, 0), (some 4, 0), (some 17, 0), (some 14, 0)], [45, 46, 41, 42, 43, 44, 15, 16, 58, 59])], (3, [(none, 30), (some 15, 1)], []))
set_option maxRecDepth 20000 in
theorem v_xo_readC_1_22 {PT : PTy} (hp : HP12 PT) : vcOk PT w_xo_readC_1_22 := vc_of (fun ρ α hB hF => by
  obtain ⟨f0, f1, f2, f3, f4, f5, f6, f7, f8, f9, f10, f11, f12, f13, f14, f15, f16, f17, f18, f19, -⟩ := hF
  have e141 : PT 141 = P_rdXI := hp.1.1.1.2.2.2.2.2.2.2.1
  simp only [hF0, hF1, hF2, hF3, hF20, hF21, hFp_141, e141, P_rdXI, den_s, den_c, Int.add_zero, List.map_cons, List.map_nil] at f0 f1 f2 f3 f4 f5 f6 f7 f8 f9 f10 f11 f12 f13 f14 f15 f16 f17 f18 f19 ⊢
  have b4 : (0 : Int) ≤ ρ 4 ∧ ρ 4 ≤ 8 := hB 4 (0, 8) rfl
  have b14 : (2 : Int) ≤ ρ 14 ∧ ρ 14 ≤ 2 := hB 14 (2, 2) rfl
  have b15 : (0 : Int) ≤ ρ 15 ∧ ρ 15 ≤ 30 := hB 15 (0, 30) rfl
  have b16 : (0 : Int) ≤ ρ 16 ∧ ρ 16 ≤ 58 := hB 16 (0, 58) rfl
  have b17 : (0 : Int) ≤ ρ 17 ∧ ρ 17 ≤ 7 := hB 17 (0, 7) rfl
  have b18 : (2 : Int) ≤ ρ 18 ∧ ρ 18 ≤ 60 := hB 18 (2, 60) rfl
  have b19 : (0 : Int) ≤ ρ 19 ∧ ρ 19 ≤ 23 := hB 19 (0, 23) rfl
  have b20 : (0 : Int) ≤ ρ 20 ∧ ρ 20 ≤ 9 := hB 20 (0, 9) rfl
  clear hB
  generalize ρ 4 = r4, ρ 14 = r14, ρ 15 = r15, ρ 16 = r16, ρ 17 = r17, ρ 18 = r18, ρ 19 = r19, ρ 20 = r20, α 15 = a15, α 16 = a16, α 41 = a41, α 42 = a42, α 43 = a43, α 44 = a44, α 45 = a45, α 46 = a46, α 58 = a58, α 59 = a59, α 60 = a60, α 61 = a61, α 62 = a62, α 63 = a63 at *
  subst f0
  subst f1
  subst f2
  subst f13
  subst f15
  subst f18
  obtain ⟨i1, i2, i3, i4, i5⟩ := f19
  subst i1
  first
    | omega
    | (rcases (show r14 = 0 ∨ r14 = 1 ∨ r14 = 2 ∨ r14 = 3 by omega) with z | z | z | z <;> subst z <;> first | (exfalso; omega) | exact ⟨fun h => by omega, fun h h' => by omega, fun _ _ => ⟨by first | rfl | trivial, i5, by unfold okK; simp only [rowX_0, rowX_1, rowX_2, rowX_3]; omega⟩⟩)
    | (rcases (show r14 = 0 ∨ r14 = 1 ∨ r14 = 2 ∨ r14 = 3 by omega) with z | z | z | z <;> subst z <;> first | (exfalso; omega) | exact ⟨by omega, by omega, by omega, by omega, reI_s i5 (by omega) (by unfold okK; omega) (by omega) (by simp only [rowX_0, rowX_1, rowX_2, rowX_3]) (by simp only [rowX_0, rowX_1, rowX_2, rowX_3])⟩))
def w_xo_readC_1_23 : VC := ((bT ++ [(2, 2), (0, 30), (0, 58), (0, 7), (2, 60), (0, 23), (0, 9)]), [(21, [(some 17, 0), (none, 0)], [63, 60]), (21, [(some 17, 0), (some 20, 0)], [62, 59]), (21, [(some 17, 0), (some 19, 0)], [61, 58]), (2, [(some 17, 0), (none, 9)], []), (0, [(none, 0), (none, 0)], []), (2, [(some 17, 0), (none, 8)], []), (1, [(none, 1), (none, 0)], []), (1, [(none, 1), (none, 0)], []), (3, [(none, 9), (some 20, 0)], []), (3, [(some 20, 0), (none, 0)], []), (1, [(none, 1), (none, 0)], []), (3, [(none, 23), (some 19, 0)], []), (3, [(some 19, 0), (none, 0)], []), (20, [(some 20, 0), (some 16, 1)], [43]), (0, [(some 14, 0), (none, 2)], []), (20, [(some 19, 0), (some 16, 0)], [43]), (0, [(some 14, 0), (none, 2)], []), (2, [(some 16, 1), (some 18, 0)], []), (20, [(some 18, 0), (some 14, 0)], [45]), (141, [(some 15, 0), (some 16, 0), (some 4, 0), (some 17, 0), (some 14, 0)], [45, 46, 41, 42, 43, 44, 15, 16, 58, 59])], (141, [(some 15, 1), (some 16, 2), (some 4, 0), (some 17, 1), (some 14, 0)], [45, 46, 41, 42, 43, 44, 15, 16, 61, 62]))
set_option maxRecDepth 20000 in
theorem v_xo_readC_1_23 {PT : PTy} (hp : HP12 PT) : vcOk PT w_xo_readC_1_23 := vc_of (fun ρ α hB hF => by
  obtain ⟨f0, f1, f2, f3, f4, f5, f6, f7, f8, f9, f10, f11, f12, f13, f14, f15, f16, f17, f18, f19, -⟩ := hF
  have e141 : PT 141 = P_rdXI := hp.1.1.1.2.2.2.2.2.2.2.1
  simp only [hF0, hF1, hF2, hF3, hF20, hF21, hFp_141, e141, P_rdXI, den_s, den_c, Int.add_zero, List.map_cons, List.map_nil] at f0 f1 f2 f3 f4 f5 f6 f7 f8 f9 f10 f11 f12 f13 f14 f15 f16 f17 f18 f19 ⊢
  have b4 : (0 : Int) ≤ ρ 4 ∧ ρ 4 ≤ 8 := hB 4 (0, 8) rfl
  have b14 : (2 : Int) ≤ ρ 14 ∧ ρ 14 ≤ 2 := hB 14 (2, 2) rfl
  have b15 : (0 : Int) ≤ ρ 15 ∧ ρ 15 ≤ 30 := hB 15 (0, 30) rfl
  have b16 : (0 : Int) ≤ ρ 16 ∧ ρ 16 ≤ 58 := hB 16 (0, 58) rfl
  have b17 : (0 : Int) ≤ ρ 17 ∧ ρ 17 ≤ 7 := hB 17 (0, 7) rfl
  have b18 : (2 : Int) ≤ ρ 18 ∧ ρ 18 ≤ 60 := hB 18 (2, 60) rfl
  have b19 : (0 : Int) ≤ ρ 19 ∧ ρ 19 ≤ 23 := hB 19 (0, 23) rfl
  have b20 : (0 : Int) ≤ ρ 20 ∧ ρ 20 ≤ 9 := hB 20 (0, 9) rfl
  clear hB
  generalize ρ 4 = r4, ρ 14 = r14, ρ 15 = r15, ρ 16 = r16, ρ 17 = r17, ρ 18 = r18, ρ 19 = r19, ρ 20 = r20, α 15 = a15, α 16 = a16, α 41 = a41, α 42 = a42, α 43 = a43, α 44 = a44, α 45 = a45, α 46 = a46, α 58 = a58, α 59 = a59, α 60 = a60, α 61 = a61, α 62 = a62, α 63 = a63 at *
  subst f0
  subst f1
  subst f2
  subst f13
  subst f15
  subst f18
  obtain ⟨i1, i2, i3, i4, i5⟩ := f19
  subst i1
  first
    | omega
    | (rcases (show r14 = 0 ∨ r14 = 1 ∨ r14 = 2 ∨ r14 = 3 by omega) with z | z | z | z <;> subst z <;> first | (exfalso; omega) | exact ⟨fun h => by omega, fun h h' => by omega, fun _ _ => ⟨by first | rfl | trivial, i5, by unfold okK; simp only [rowX_0, rowX_1, rowX_2, rowX_3]; omega⟩⟩)
    | (rcases (show r14 = 0 ∨ r14 = 1 ∨ r14 = 2 ∨ r14 = 3 by omega) with z | z | z | z <;> subst z <;> first | (exfalso; omega) | exact ⟨by omega, by omega, by omega, by omega, reI_s i5 (by omega) (by unfold okK; omega) (by omega) (by simp only [rowX_0, rowX_1, rowX_2, rowX_3]) (by simp only [rowX_0, rowX_1, rowX_2, rowX_3])⟩))
def w_xo_readC_1_24 : VC := ((bT ++ [(2, 2), (0, 30), (0, 58), (8, 8), (2, 60), (0, 23), (0, 9)]), [(1, [(none, 1), (none, 0)], []), (3, [(some 17, 0), (none, 8)], []), (1, [(none, 1), (none, 0)], []), (1, [(none, 1), (none, 0)], []), (3, [(none, 9), (some 20, 0)], []), (3, [(some 20, 0), (none, 0)], []), (1, [(none, 1), (none, 0)], []), (3, [(none, 23), (some 19, 0)], []), (3, [(some 19, 0), (none, 0)], []), (20, [(some 20, 0), (some 16, 1)], [43]), (0, [(some 14, 0), (none, 2)], []), (20, [(some 19, 0), (some 16, 0)], [43]), (0, [(some 14, 0), (none, 2)], []), (2, [(some 16, 1), (some 18, 0)], []), (20, [(some 18, 0), (some 14, 0)], [45]), (141, [(some 15, 0), (some 16, 0), (some 4, 0), (some 17, 0), (some 14, 0)], [45, 46, 41, 42, 43, 44, 15, 16, 58, 59])], (140, [(some 15, 0), (some 14, 0), (none, 0), (some 4, 0), (some 17, 0), (some 13, 0), (some 13, 0)], [45, 46, 41, 42, 43, 44, 15, 16, 58, 59]))
set_option maxRecDepth 20000 in
theorem v_xo_readC_1_24 {PT : PTy} (hp : HP12 PT) : vcOk PT w_xo_readC_1_24 := vc_of (fun ρ α hB hF => by
  obtain ⟨f0, f1, f2, f3, f4, f5, f6, f7, f8, f9, f10, f11, f12, f13, f14, f15, -⟩ := hF
  have e140 : PT 140 = P_rdX := hp.1.1.1.2.2.2.2.2.2.1
  have e141 : PT 141 = P_rdXI := hp.1.1.1.2.2.2.2.2.2.2.1
  simp only [hF0, hF1, hF2, hF3, hF20, hFp_140, hFp_141, e140, e141, P_rdX, P_rdXI, den_s, den_c, Int.add_zero, List.map_cons, List.map_nil] at f0 f1 f2 f3 f4 f5 f6 f7 f8 f9 f10 f11 f12 f13 f14 f15 ⊢
  have b4 : (0 : Int) ≤ ρ 4 ∧ ρ 4 ≤ 8 := hB 4 (0, 8) rfl
  have b13 : (0 : Int) ≤ ρ 13 ∧ ρ 13 ≤ 5 := hB 13 (0, 5) rfl
  have b14 : (2 : Int) ≤ ρ 14 ∧ ρ 14 ≤ 2 := hB 14 (2, 2) rfl
  have b15 : (0 : Int) ≤ ρ 15 ∧ ρ 15 ≤ 30 := hB 15 (0, 30) rfl
  have b16 : (0 : Int) ≤ ρ 16 ∧ ρ 16 ≤ 58 := hB 16 (0, 58) rfl
  have b17 : (8 : Int) ≤ ρ 17 ∧ ρ 17 ≤ 8 := hB 17 (8, 8) rfl
  have b18 : (2 : Int) ≤ ρ 18 ∧ ρ 18 ≤ 60 := hB 18 (2, 60) rfl
  have b19 : (0 : Int) ≤ ρ 19 ∧ ρ 19 ≤ 23 := hB 19 (0, 23) rfl
  have b20 : (0 : Int) ≤ ρ 20 ∧ ρ 20 ≤ 9 := hB 20 (0, 9) rfl
  clear hB
  generalize ρ 4 = r4, ρ 13 = r13, ρ 14 = r14, ρ 15 = r15, ρ 16 = r16, ρ 17 = r17, ρ 18 = r18, ρ 19 = r19, ρ 20 = r20, α 15 = a15, α 16 = a16, α 41 = a41, α 42 = a42, α 43 = a43, α 44 = a44, α 45 = a45, α 46 = a46, α 58 = a58, α 59 = a59 at *
  subst f9
  subst f11
  subst f14
  obtain ⟨i1, i2, i3, i4, i5⟩ := f15
  subst i1
  first
    | omega
    | (rcases (show r14 = 0 ∨ r14 = 1 ∨ r14 = 2 ∨ r14 = 3 by omega) with z | z | z | z <;> subst z <;> first | (exfalso; omega) | exact ⟨fun h => by omega, fun h h' => by omega, fun _ _ => ⟨by first | rfl | trivial, i5, by unfold okK; simp only [rowX_0, rowX_1, rowX_2, rowX_3]; omega⟩⟩)
    | (rcases (show r14 = 0 ∨ r14 = 1 ∨ r14 = 2 ∨ r14 = 3 by omega) with z | z | z | z <;> subst z <;> first | (exfalso; omega) | exact ⟨by omega, by omega, by omega, by omega, reI_s i5 (by omega) (by unfold okK; omega) (by omega) (by simp only [rowX_0, rowX_1, rowX_2, rowX_3]) (by simp only [rowX_0, rowX_1, rowX_2, rowX_3])⟩))
def w_xo_readC_1_25 : VC := ((bT ++ [(3, 3), (0, 30), (0, 58), (0, 8), (2, 60), ((-2147483648), (-1)), ((-2147483648), 2147483647)]), [(0, [(none, 0), (none, 0)], []), (0, [(none, 0), (none, 0)], []), (2, [(some 19, 0), (none, 0)], []), (20, [(some 20, 0), (some 16, 1)], [44]), (0, [(some 14, 0), (none, 3)], []), (20, [(some 19, 0), (some 16, 0)], [44]), (0, [(some 14, 0), (none, 3)], []), (2, [(some 16, 1), (some 18, 0)], []), (20, [(some 18, 0), (some 14, 0)], [45]), (141, [(some 15, 0), (some 16, 0), (some 4, 0), (some 17, 0), (some 14, 0)], [45, 46, 41, 42, 43, 44, 15, 16, 58, 59])], (140, [(some 15, 0), (some 14, 0), (none, 0), (some 4, 0), (some 17, 0), (some 13, 0), (some 13, 0)], [45, 46, 41, 42, 43, 44, 15, 16, 58, 59]))
set_option maxRecDepth 20000 in
theorem v_xo_readC_1_25 {PT : PTy} (hp : HP12 PT) : vcOk PT w_xo_readC_1_25 := vc_of (fun ρ α hB hF => by
  obtain ⟨f0, f1, f2, f3, f4, f5, f6, f7, f8, f9, -⟩ := hF
  have e140 : PT 140 = P_rdX := hp.1.1.1.2.2.2.2.2.2.1
  have e141 : PT 141 = P_rdXI := hp.1.1.1.2.2.2.2.2.2.2.1
  simp only [hF0, hF2, hF20, hFp_140, hFp_141, e140, e141, P_rdX, P_rdXI, den_s, den_c, Int.add_zero, List.map_cons, List.map_nil] at f0 f1 f2 f3 f4 f5 f6 f7 f8 f9 ⊢
  have b4 : (0 : Int) ≤ ρ 4 ∧ ρ 4 ≤ 8 := hB 4 (0, 8) rfl
  have b13 : (0 : Int) ≤ ρ 13 ∧ ρ 13 ≤ 5 := hB 13 (0, 5) rfl
  have b14 : (3 : Int) ≤ ρ 14 ∧ ρ 14 ≤ 3 := hB 14 (3, 3) rfl
  have b15 : (0 : Int) ≤ ρ 15 ∧ ρ 15 ≤ 30 := hB 15 (0, 30) rfl
  have b16 : (0 : Int) ≤ ρ 16 ∧ ρ 16 ≤ 58 := hB 16 (0, 58) rfl
  have b17 : (0 : Int) ≤ ρ 17 ∧ ρ 17 ≤ 8 := hB 17 (0, 8) rfl
  have b18 : (2 : Int) ≤ ρ 18 ∧ ρ 18 ≤ 60 := hB 18 (2, 60) rfl
  have b19 : ((-2147483648) : Int) ≤ ρ 19 ∧ ρ 19 ≤ (-1) := hB 19 ((-2147483648), (-1)) rfl
  have b20 : ((-2147483648) : Int) ≤ ρ 20 ∧ ρ 20 ≤ 2147483647 := hB 20 ((-2147483648), 2147483647) rfl
  clear hB
  generalize ρ 4 = r4, ρ 13 = r13, ρ 14 = r14, ρ 15 = r15, ρ 16 = r16, ρ 17 = r17, ρ 18 = r18, ρ 19 = r19, ρ 20 = r20, α 15 = a15, α 16 = a16, α 41 = a41, α 42 = a42, α 43 = a43, α 44 = a44, α 45 = a45, α 46 = a46, α 58 = a58, α 59 = a59 at *
  subst f3
  subst f5
  subst f8
  obtain ⟨i1, i2, i3, i4, i5⟩ := f9
  subst i1
  first
    | omega
    | (rcases (show r14 = 0 ∨ r14 = 1 ∨ r14 = 2 ∨ r14 = 3 by omega) with z | z | z | z <;> subst z <;> first | (exfalso; omega) | exact ⟨fun h => by omega, fun h h' => by omega, fun _ _ => ⟨by first | rfl | trivial, i5, by unfold okK; simp only [rowX_0, rowX_1, rowX_2, rowX_3]; omega⟩⟩)
    | (rcases (show r14 = 0 ∨ r14 = 1 ∨ r14 = 2 ∨ r14 = 3 by omega) with z | z | z | z <;> subst z <;> first | (exfalso; omega) | exact ⟨by omega, by omega, by omega, by omega, reI_s i5 (by omega) (by unfold okK; omega) (by omega) (by simp only [rowX_0, rowX_1, rowX_2, rowX_3]) (by simp only [rowX_0, rowX_1, rowX_2, rowX_3])⟩))
def w_xo_readC_1_26 : VC := ((bT ++ [(3, 3), (0, 30), (0, 58), (0, 8), (2, 60), (24, 2147483647), ((-2147483648), 2147483647)]), [(0, [(none, 0), (none, 0)], []), (0, [(none, 0), (none, 0)], []), (2, [(none, 23), (some 19, 0)], []), (3, [(some 19, 0), (none, 0)], []), (20, [(some 20, 0), (some 16, 1)], [44]), (0, [(some 14, 0), (none, 3)], []), (20, [(some 19, 0), (some 16, 0)], [44]), (0, [(some 14, 0), (none, 3)], []), (2, [(some 16, 1), (some 18, 0)], []), (20, [(some 18, 0), (some 14, 0)], [45]), (141, [(some 15, 0), (some 16, 0), (some 4, 0), (some 17, 0), (some 14, 0)], [45, 46, 41, 42, 43, 44, 15, 16, 58, 59])], (140, [(some 15, 0), (some 14, 0), (none, 0), (some 4, 0), (some 17, 0), (some 13, 0), (some 13, 0)], [45, 46, 41, 42, 43, 44, 15, 16, 58, 59]))
set_option maxRecDepth 20000 in
theorem v_xo_readC_1_26 {PT : PTy} (hp : HP12 PT) : vcOk PT w_xo_readC_1_26 := vc_of (fun ρ α hB hF => by
  obtain ⟨f0, f1, f2, f3, f4, f5, f6, f7, f8, f9, f10, -⟩ := hF
  have e140 : PT 140 = P_rdX := hp.1.1.1.2.2.2.2.2.2.1
  have e141 : PT 141 = P_rdXI := hp.1.1.1.2.2.2.2.2.2.2.1
  simp only [hF0, hF2, hF3, hF20, hFp_140, hFp_141, e140, e141, P_rdX, P_rdXI, den_s, den_c, Int.add_zero, List.map_cons, List.map_nil] at f0 f1 f2 f3 f4 f5 f6 f7 f8 f9 f10 ⊢
  have b4 : (0 : Int) ≤ ρ 4 ∧ ρ 4 ≤ 8 := hB 4 (0, 8) rfl
  have b13 : (0 : Int) ≤ ρ 13 ∧ ρ 13 ≤ 5 := hB 13 (0, 5) rfl
  have b14 : (3 : Int) ≤ ρ 14 ∧ ρ 14 ≤ 3 := hB 14 (3, 3) rfl
  have b15 : (0 : Int) ≤ ρ 15 ∧ ρ 15 ≤ 30 := hB 15 (0, 30) rfl
  have b16 : (0 : Int) ≤ ρ 16 ∧ ρ 16 ≤ 58 := hB 16 (0, 58) rfl
  have b17 : (0 : Int) ≤ ρ 17 ∧ ρ 17 ≤ 8 := hB 17 (0, 8) rfl
  have b18 : (2 : Int) ≤ ρ 18 ∧ ρ 18 ≤ 60 := hB 18 (2, 60) rfl
  have b19 : (24 : Int) ≤ ρ 19 ∧ ρ 19 ≤ 2147483647 := hB 19 (24, 2147483647) rfl
  have b20 : ((-2147483648) : Int) ≤ ρ 20 ∧ ρ 20 ≤ 2147483647 := hB 20 ((-2147483648), 2147483647) rfl
  clear hB
  generalize ρ 4 = r4, ρ 13 = r13, ρ 14 = r14, ρ 15 = r15, ρ 16 = r16, ρ 17 = r17, ρ 18 = r18, ρ 19 = r19, ρ 20 = r20, α 15 = a15, α 16 = a16, α 41 = a41, α 42 = a42, α 43 = a43, α 44 = a44, α 45 = a45, α 46 = a46, α 58 = a58, α 59 = a59 at *
  subst f4
  subst f6
  subst f9
  obtain ⟨i1, i2, i3, i4, i5⟩ := f10
  subst i1
  first
    | omega
    | (rcases (show r14 = 0 ∨ r14 = 1 ∨ r14 = 2 ∨ r14 = 3 by omega) with z | z | z | z <;> subst z <;> first | (exfalso; omega) | exact ⟨fun h => by omega, fun h h' => by omega, fun _ _ => ⟨by first | rfl | trivial, i5, by unfold okK; simp only [rowX_0, rowX_1, rowX_2, rowX_3]; omega⟩⟩)
    | (rcases (show r14 = 0 ∨ r14 = 1 ∨ r14 = 2 ∨ r14 = 3 by omega) with z | z | z | z <;> subst z <;> first | (exfalso; omega) | exact ⟨by omega, by omega, by omega, by omega, reI_s i5 (by omega) (by unfold okK; omega) (by omega) (by simp only [rowX_0, rowX_1, rowX_2, rowX_3]) (by simp only [rowX_0, rowX_1, rowX_2, rowX_3])⟩))
def w_xo_readC_1_27 : VC := ((bT ++ [(3, 3), (0, 30), (0, 58), (0, 8), (2, 60), (0, 23), ((-2147483648), (-1))]), [(0, [(none, 0), (none, 0)], []), (0, [(none, 0), (none, 0)], []), (2, [(some 20, 0), (none, 0)], []), (1, [(none, 1), (none, 0)], []), (3, [(none, 23), (some 19, 0)], []), (3, [(some 19, 0), (none, 0)], []), (20, [(some 20, 0), (some 16, 1)], [44]), (0, [(some 14, 0), (none, 3)], []), (20, [(some 19, 0), (some 16, 0)], [44]), (0, [(some 14, 0), (none, 3)], []), (2, [(some 16, 1), (some 18, 0)], []), (20, [(some 18, 0), (some 14, 0)], [45]), (141, [(some 15, 0), (some 16, 0), (some 4, 0), (some 17, 0), (some 14, 0)], [45, 46, 41, 42, 43, 44, 15, 16, 58, 59])], (140, [(some 15, 0), (some 14, 0), (none, 0), (some 4, 0), (some 17, 0), (some 13, 0), (some 13, 0)], [45, 46, 41, 42, 43, 44, 15, 16, 58, 59]))
set_option maxRecDepth 20000 in
theorem v_xo_readC_1_27 {PT : PTy} (hp : HP12 PT) : vcOk PT w_xo_readC_1_27 := vc_of (fun ρ α hB hF => by
  obtain ⟨f0, f1, f2, f3, f4, f5, f6, f7, f8, f9, f10, f11, f12, -⟩ := hF
  have e140 : PT 140 = P_rdX := hp.1.1.1.2.2.2.2.2.2.1
  have e141 : PT 141 = P_rdXI := hp.1.1.1.2.2.2.2.2.2.2.1
  simp only [hF0, hF1, hF2, hF3, hF20, hFp_140, hFp_141, e140, e141, P_rdX, P_rdXI, den_s, den_c, Int.add_zero, List.map_cons, List.map_nil] at f0 f1 f2 f3 f4 f5 f6 f7 f8 f9 f10 f11 f12 ⊢
  have b4 : (0 : Int) ≤ ρ 4 ∧ ρ 4 ≤ 8 := hB 4 (0, 8) rfl
  have b13 : (0 : Int) ≤ ρ 13 ∧ ρ 13 ≤ 5 := hB 13 (0, 5) rfl
  have b14 : (3 : Int) ≤ ρ 14 ∧ ρ 14 ≤ 3 := hB 14 (3, 3) rfl
  have b15 : (0 : Int) ≤ ρ 15 ∧ ρ 15 ≤ 30 := hB 15 (0, 30) rfl
  have b16 : (0 : Int) ≤ ρ 16 ∧ ρ 16 ≤ 58 := hB 16 (0, 58) rfl
  have b17 : (0 : Int) ≤ ρ 17 ∧ ρ 17 ≤ 8 := hB 17 (0, 8) rfl
  have b18 : (2 : Int) ≤ ρ 18 ∧ ρ 18 ≤ 60 := hB 18 (2, 60) rfl
  have b19 : (0 : Int) ≤ ρ 19 ∧ ρ 19 ≤ 23 := hB 19 (0, 23) rfl
  have b20 : ((-2147483648) : Int) ≤ ρ 20 ∧ ρ 20 ≤ (-1) := hB 20 ((-2147483648), (-1)) rfl
  clear hB
  generalize ρ 4 = r4, ρ 13 = r13, ρ 14 = r14, ρ 15 = r15, ρ 16 = r16, ρ 17 = r17, ρ 18 = r18, ρ 19 = r19, ρ 20 = r20, α 15 = a15, α 16 = a16, α 41 = a41, α 42 = a42, α 43 = a43, α 44 = a44, α 45 = a45, α 46 = a46, α 58 = a58, α 59 = a59 at *
  subst f6
  subst f8
  subst f11
  obtain ⟨i1, i2, i3, i4, i5⟩ := f12
  subst i1
  first
    | omega
    | (rcases (show r14 = 0 ∨ r14 = 1 ∨ r14 = 2 ∨ r14 = 3 by omega) with z | z | z | z <;> subst z <;> first | (exfalso; omega) | exact ⟨fun h => by omega, fun h h' => by omega, fun _ _ => ⟨by first | rfl | trivial, i5, by unfold okK; simp only [rowX_0, rowX_1, rowX_2, rowX_3]; omega⟩⟩)
    | (rcases (show r14 = 0 ∨ r14 = 1 ∨ r14 = 2 ∨ r14 = 3 by omega) with z | z | z | z <;> subst z <;> first | (exfalso; omega) | exact ⟨by omega, by omega, by omega, by omega, reI_s i5 (by omega) (by unfold okK; omega) (by omega) (by simp only [rowX_0, rowX_1, rowX_2, rowX_3]) (by simp only [rowX_0, rowX_1, rowX_2, rowX_3])⟩))
def w_xo_readC_1_28 : VC := ((bT ++ [(3, 3), (0, 30), (0, 58), (0, 8), (2, 60), (0, 23), (10, 2147483647)]), [(0, [(none, 0), (none, 0)], []), (0, [(none, 0), (none, 0)], []), (2, [(none, 9), (some 20, 0)], []), (3, [(some 20, 0), (none, 0)], []), (1, [(none, 1), (none, 0)], []), (3, [(none, 23), (some 19, 0)], []), (3, [(some 19, 0), (none, 0)], []), (20, [(some 20, 0), (some 16, 1)], [44]), (0, [(some 14, 0), (none, 3)], []), (20, [(some 19, 0), (some 16, 0)], [44]), (0, [(some 14, 0), (none, 3)], []), (2, [(some 16, 1), (some 18, 0)], []), (20, [(some 18, 0), (some 14, 0)], [45]), (141, [(some 15, 0), (some 16, 0), (some 4, 0), (some 17, 0), (some 14, 0)], [45, 46, 41, 42, 43, 44, 15, 16, 58, 59])], (140, [(some 15, 0), (some 14, 0), (none, 0), (some 4, 0), (some 17, 0), (some 13, 0), (some 13, 0)], [45, 46, 41, 42, 43, 44, 15, 16, 58, 59]))
set_option maxRecDepth 20000 in
theorem v_xo_readC_1_28 {PT : PTy} (hp : HP12 PT) : vcOk PT w_xo_readC_1_28 := vc_of (fun ρ α hB hF => by
  obtain ⟨f0, f1, f2, f3, f4, f5, f6, f7, f8, f9, f10, f11, f12, f13, -⟩ := hF
  have e140 : PT 140 = P_rdX := hp.1.1.1.2.2.2.2.2.2.1
  have e141 : PT 141 = P_rdXI := hp.1.1.1.2.2.2.2.2.2.2.1
  simp only [hF0, hF1, hF2, hF3, hF20, hFp_140, hFp_141, e140, e141, P_rdX, P_rdXI, den_s, den_c, Int.add_zero, List.map_cons, List.map_nil] at f0 f1 f2 f3 f4 f5 f6 f7 f8 f9 f10 f11 f12 f13 ⊢
  have b4 : (0 : Int) ≤ ρ 4 ∧ ρ 4 ≤ 8 := hB 4 (0, 8) rfl
  have b13 : (0 : Int) ≤ ρ 13 ∧ ρ 13 ≤ 5 := hB 13 (0, 5) rfl
  have b14 : (3 : Int) ≤ ρ 14 ∧ ρ 14 ≤ 3 := hB 14 (3, 3) rfl
  have b15 : (0 : Int) ≤ ρ 15 ∧ ρ 15 ≤ 30 := hB 15 (0, 30) rfl
  have b16 : (0 : Int) ≤ ρ 16 ∧ ρ 16 ≤ 58 := hB 16 (0, 58) rfl
  have b17 : (0 : Int) ≤ ρ 17 ∧ ρ 17 ≤ 8 := hB 17 (0, 8) rfl
  have b18 : (2 : Int) ≤ ρ 18 ∧ ρ 18 ≤ 60 := hB 18 (2, 60) rfl
  have b19 : (0 : Int) ≤ ρ 19 ∧ ρ 19 ≤ 23 := hB 19 (0, 23) rfl
  have b20 : (10 : Int) ≤ ρ 20 ∧ ρ 20 ≤ 2147483647 := hB 20 (10, 2147483647) rfl
  clear hB
  generalize ρ 4 = r4, ρ 13 = r13, ρ 14 = r14, ρ 15 = r15, ρ 16 = r16, ρ 17 = r17, ρ 18 = r18, ρ 19 = r19, ρ 20 = r20, α 15 = a15, α 16 = a16, α 41 = a41, α 42 = a42, α 43 = a43, α 44 = a44, α 45 = a45, α 46 = a46, α 58 = a58, α 59 = a59 at *
  subst f7
  subst f9
  subst f12
  obtain ⟨i1, i2, i3, i4, i5⟩ := f13
  subst i1
  first
    | omega
    | (rcases (show r14 = 0 ∨ r14 = 1 ∨ r14 = 2 ∨ r14 = 3 by omega) with z | z | z | z <;> subst z <;> first | (exfalso; omega) | exact ⟨fun h => by omega, fun h h' => by omega, fun _ _ => ⟨by first | rfl | trivial, i5, by unfold okK; simp only [rowX_0, rowX_1, rowX_2, rowX_3]; omega⟩⟩)
    | (rcases (show r14 = 0 ∨ r14 = 1 ∨ r14 = 2 ∨ r14 = 3 by omega) with z | z | z | z <;> subst z <;> first | (exfalso; omega) | exact ⟨by omega, by omega, by omega, by omega, reI_s i5 (by omega) (by unfold okK; omega) (by omega) (by simp only [rowX_0, rowX_1, rowX_2, rowX_3]) (by simp only [rowX_0, rowX_1, rowX_2, rowX_3])⟩))
def w_xo_readC_1_29 : VC := ((bT ++ [(3, 3), (0, 30), (0, 58), (0, 7), (2, 60), (0, 23), (0, 9)]), [(21, [(some 17, 0), (none, 0)], [63, 60]), (21, [(some 17, 0), (some 20, 0)], [62, 59]), (21, [(some 17, 0), (some 19, 0)], [61, 58]), (2, [(some 17, 0), (none, 9)], []), (0, [(none, 0), (none, 0)], []), (2, [(some 17, 0), (none, 8)], []), (1, [(none, 1), (none, 0)], []), (1, [(none, 1), (none, 0)], []), (3, [(none, 9), (some 20, 0)], []), (3, [(some 20, 0), (none, 0)], []), (1, [(none, 1), (none, 0)], []), (3, [(none, 23), (some 19, 0)], []), (3, [(some 19, 0), (none, 0)], []), (20, [(some 20, 0), (some 16, 1)], [44]), (0, [(some 14, 0), (none, 3)], []), (20, [(some 19, 0), (some 16, 0)], [44]), (0, [(some 14, 0), (none, 3)], []), (2, [(some 16, 1), (some 18, 0)], []), (20, [(some 18, 0), (some 14, 0)], [45]), (141, [(some 15, 0), (some 16, 0), (some 4, 0), (some 17, 0), (some 14, 0)], [45, 46, 41, 42, 43, 44, 15, 16, 58, 59])], (3, [(some 15, 1), (none, 0)], []))
set_option maxRecDepth 20000 in
theorem v_xo_readC_1_29 {PT : PTy} (hp : HP12 PT) : vcOk PT w_xo_readC_1_29 := vc_of (fun ρ α hB hF => by
  obtain ⟨f0, f1, f2, f3, f4, f5, f6, f7, f8, f9, f10, f11, f12, f13, f14, f15, f16, f17, f18, f19, -⟩ := hF
  have e141 : PT 141 = P_rdXI := hp.1.1.1.2.2.2.2.2.2.2.1
  simp only [hF0, hF1, hF2, hF3, hF20, hF21, hFp_141, e141, P_rdXI, den_s, den_c, Int.add_zero, List.map_cons, List.map_nil] at f0 f1 f2 f3 f4 f5 f6 f7 f8 f9 f10 f11 f12 f13 f14 f15 f16 f17 f18 f19 ⊢
  have b4 : (0 : Int) ≤ ρ 4 ∧ ρ 4 ≤ 8 := hB 4 (0, 8) rfl
  have b14 : (3 : Int) ≤ ρ 14 ∧ ρ 14 ≤ 3 := hB 14 (3, 3) rfl
  have b15 : (0 : Int) ≤ ρ 15 ∧ ρ 15 ≤ 30 := hB 15 (0, 30) rfl
  have b16 : (0 : Int) ≤ ρ 16 ∧ ρ 16 ≤ 58 := hB 16 (0, 58) rfl
  have b17 : (0 : Int) ≤ ρ 17 ∧ ρ 17 ≤ 7 := hB 17 (0, 7) rfl
  have b18 : (2 : Int) ≤ ρ 18 ∧ ρ 18 ≤ 60 := hB 18 (2, 60) rfl
  have b19 : (0 : Int) ≤ ρ 19 ∧ ρ 19 ≤ 23 := hB 19 (0, 23) rfl
  have b20 : (0 : Int) ≤ ρ 20 ∧ ρ 20 ≤ 9 := hB 20 (0, 9) rfl
  clear hB
  generalize ρ 4 = r4, ρ 14 = r14, ρ 15 = r15, ρ 16 = r16, ρ 17 = r17, ρ 18 = r18, ρ 19 = r19, ρ 20 = r20, α 15 = a15, α 16 = a16, α 41 = a41, α 42 = a42, α 43 = a43, α 44 = a44, α 45 = a45, α 46 = a46, α 58 = a58, α 59 = a59, α 60 = a60, α 61 = a61, α 62 = a62, α 63 = a63 at *
  subst f0
  subst f1
  subst f2
  subst f13
  subst f15
  subst f18
  obtain ⟨i1, i2, i3, i4, i5⟩ := f19
  subst i1
  first
    | omega
    | (rcases (show r14 = 0 ∨ r14 = 1 ∨ r14 = 2 ∨ r14 = 3 by omega) with z | z | z | z <;> subst z <;> first | (exfalso; omega) | exact ⟨fun h => by omega, fun h h' => by omega, fun _ _ => ⟨by first | rfl | trivial, i5, by unfold okK; simp only [rowX_0, rowX_1, rowX_2, rowX_3]; omega⟩⟩)
    | (rcases (show r14 = 0 ∨ r14 = 1 ∨ r14 = 2 ∨ r14 = 3 by omega) with z | z | z | z <;> subst z <;> first | (exfalso; omega) | exact ⟨by omega, by omega, by omega, by omega, reI_s i5 (by omega) (by unfold okK; omega) (by omega) (by simp only [rowX_0, rowX_1, rowX_2, rowX_3]) (by simp only [rowX_0, rowX_1, rowX_2, rowX_3])⟩))
def w_xo_readC_1_30 : VC := ((bT ++ [(3, 3), (0, 30), (0, 58), (0, 7), (2, 60), (0, 23), (0, 9)]), [(21, [(some 17, 0), (none, 0)], [63, 60]), (21, [(some 17, 0), (some 20, 0)], [62, 59]), (21, [(some 17, 0), (some 19, 0)], [61, 58]), (2, [(some 17, 0), (none, 9)], []), (0, [(none, 0), (none, 0)], []), (2, [(some 17, 0), (none, 8)], []), (1, [(none, 1), (none, 0)], []), (1, [(none, 1), (none, 0)], []), (3, [(none, 9), (some 20, 0)], []), (3, [(some 20, 0), (none, 0)], []), (1, [(none, 1), (none, 0)], []), (3, [(none, 23), (some 19, 0)], []), (3, [(some 19, 0), (none, 0)], []), (20, [(some 20, 0), (some 16, 1)], [44]), (0, [(some 14, 0), (none, 3)], []), (20, [(some 19, 0), (some 16, 0)], [44]), (0, [(some 14, 0), (none, 3)], []), (2, [(some 16, 1), (some 18, 0)], []), (20, [(some 18, 0), (some 14, 0)], [45]), (141, [(some 15, 0), (some 16, 0), (some 4, 0), (some 17, 0), (some 14, 0)], [45, 46, 41, 42, 43, 44, 15, 16, 58, 59])], (3, [(none, 30), (some 15, 1)], []))
set_option maxRecDepth 20000 in
theorem v_xo_readC_1_30 {PT : PTy} (hp : HP12 PT) : vcOk PT w_xo_readC_1_30 := vc_of (fun ρ α hB hF => by
  obtain ⟨f0, f1, f2, f3, f4, f5, f6, f7, f8, f9, f10, f11, f12, f13, f14, f15, f16, f17, f18, f19, -⟩ := hF
  have e141 : PT 141 = P_rdXI := hp.1.1.1.2.2.2.2.2.2.2.1
  simp only [hF0, hF1, hF2, hF3, hF20, hF21, hFp_141, e141, P_rdXI, den_s, den_c, Int.add_zero, List.map_cons, List.map_nil] at f0 f1 f2 f3 f4 f5 f6 f7 f8 f9 f10 f11 f12 f13 f14 f15 f16 f17 f18 f19 ⊢
  have b4 : (0 : Int) ≤ ρ 4 ∧ ρ 4 ≤ 8 := hB 4 (0, 8) rfl
  have b14 : (3 : Int) ≤ ρ 14 ∧ ρ 14 ≤ 3 := hB 14 (3, 3) rfl
  have b15 : (0 : Int) ≤ ρ 15 ∧ ρ 15 ≤ 30 := hB 15 (0, 30) rfl
  have b16 : (0 : Int) ≤ ρ 16 ∧ ρ 16 ≤ 58 := hB 16 (0, 58) rfl
  have b17 : (0 : Int) ≤ ρ 17 ∧ ρ 17 ≤ 7 := hB 17 (0, 7) rfl
  have b18 : (2 : Int) ≤ ρ 18 ∧ ρ 18 ≤ 60 := hB 18 (2, 60) rfl
  have b19 : (0 : Int) ≤ ρ 19 ∧ ρ 19 ≤ 23 := hB 19 (0, 23) rfl
  have b20 : (0 : Int) ≤ ρ 20 ∧ ρ 20 ≤ 9 := hB 20 (0, 9) rfl
  clear hB
  generalize ρ 4 = r4, ρ 14 = r14, ρ 15 = r15, ρ 16 = r16, ρ 17 = r17, ρ 18 = r18, ρ 19 = r19, ρ 20 = r20, α 15 = a15, α 16 = a16, α 41 = a41, α 42 = a42, α 43 = a43, α 44 = a44, α 45 = a45, α 46 = a46, α 58 = a58, α 59 = a59, α 60 = a60, α 61 = a61, α 62 = a62, α 63 = a63 at *
  subst f0
  subst f1
  subst f2
  subst f13
  subst f15
  subst f18
  obtain ⟨i1, i2, i3, i4, i5⟩ := f19
  subst i1
  first
    | omega
    | (rcases (show r14 = 0 ∨ r14 = 1 ∨ r14 = 2 ∨ r14 = 3 by omega) with z | z | z | z <;> subst z <;> first | (exfalso; omega) | exact ⟨fun h => by omega, fun h h' => by omega, fun _ _ => ⟨by first | rfl | trivial, i5, by unfold okK; simp only [rowX_0, rowX_1, rowX_2, rowX_3]; omega⟩⟩)
    | (rcases (show r14 = 0 ∨ r14 = 1 ∨ r14 = 2 ∨ r14 = 3 by omega) with z | z | z | z <;> subst z <;> first | (exfalso; omega) | exact ⟨by omega, by omega, by omega, by omega, reI_s i5 (by omega) (by unfold okK; omega) (by omega) (by simp only [rowX_0, rowX_1, rowX_2, rowX_3]) (by simp only [rowX_0, rowX_1, rowX_2, rowX_3])⟩))
def w_xo_readC_1_31 : VC := ((bT ++ [(3, 3), (0, 30), (0, 58), (0, 7), (2, 60), (0, 23), (0, 9)]), [(21, [(some 17, 0), (none, 0)], [63, 60]), (21, [(some 17, 0), (some 20, 0)], [62, 59]), (21, [(some 17, 0), (some 19, 0)], [61, 58]), (2, [(some 17, 0), (none, 9)], []), (0, [(none, 0), (none, 0)], []), (2, [(some 17, 0), (none, 8)], []), (1, [(none, 1), (none, 0)], []), (1, [(none, 1), (none, 0)], []), (3, [(none, 9), (some 20, 0)], []), (3, [(some 20, 0), (none, 0)], []), (1, [(none, 1), (none, 0)], []), (3, [(none, 23), (some 19, 0)], []), (3, [(some 19, 0), (none, 0)], []), (20, [(some 20, 0), (some 16, 1)], [44]), (0, [(some 14, 0), (none, 3)], []), (20, [(some 19, 0), (some 16, 0)], [44]), (0, [(some 14, 0), (none, 3)], []), (2, [(some 16, 1), (some 18, 0)], []), (20, [(some 18, 0), (some 14, 0)], [45]), (141, [(some 15, 0), (some 16, 0), (some 4, 0), (some 17, 0), (some 14, 0)], [45, 46, 41, 42, 43, 44, 15, 16, 58, 59])], (141, [(some 15, 1), (some 16, 2), (some 4, 0), (some 17, 1), (some 14, 0)], [45, 46, 41, 42, 43, 44, 15, 16, 61, 62]))
set_option maxRecDepth 20000 in
theorem v_xo_readC_1_31 {PT : PTy} (hp : HP12 PT) : vcOk PT w_xo_readC_1_31 := vc_of (fun ρ α hB hF => by
  obtain ⟨f0, f1, f2, f3, f4, f5, f6, f7, f8, f9, f10, f11, f12, f13, f14, f15, f16, f17, f18, f19, -⟩ := hF
  have e141 : PT 141 = P_rdXI := hp.1.1.1.2.2.2.2.2.2.2.1
  simp only [hF0, hF1, hF2, hF3, hF20, hF21, hFp_141, e141, P_rdXI, den_s, den_c, Int.add_zero, List.map_cons, List.map_nil] at f0 f1 f2 f3 f4 f5 f6 f7 f8 f9 f10 f11 f12 f13 f14 f15 f16 f17 f18 f19 ⊢
  have b4 : (0 : Int) ≤ ρ 4 ∧ ρ 4 ≤ 8 := hB 4 (0, 8) rfl
  have b14 : (3 : Int) ≤ ρ 14 ∧ ρ 14 ≤ 3 := hB 14 (3, 3) rfl
  have b15 : (0 : Int) ≤ ρ 15 ∧ ρ 15 ≤ 30 := hB 15 (0, 30) rfl
  have b16 : (0 : Int) ≤ ρ 16 ∧ ρ 16 ≤ 58 := hB 16 (0, 58) rfl
  have b17 : (0 : Int) ≤ ρ 17 ∧ ρ 17 ≤ 7 := hB 17 (0, 7) rfl
  have b18 : (2 : Int) ≤ ρ 18 ∧ ρ 18 ≤ 60 := hB 18 (2, 60) rfl
  have b19 : (0 : Int) ≤ ρ 19 ∧ ρ 19 ≤ 23 := hB 19 (0, 23) rfl
  have b20 : (0 : Int) ≤ ρ 20 ∧ ρ 20 ≤ 9 := hB 20 (0, 9) rfl
  clear hB
  generalize ρ 4 = r4, ρ 14 = r14, ρ 15 = r15, ρ 16 = r16, ρ 17 = r17, ρ 18 = r18, ρ 19 = r19, ρ 20 = r20, α 15 = a15, α 16 = a16, α 41 = a41, α 42 = a42, α 43 = a43, α 44 = a44, α 45 = a45, α 46 = a46, α 58 = a58, α 59 = a59, α 60 = a60, α 61 = a61, α 62 = a62, α 63 = a63 at *
  subst f0
  subst f1
  subst f2
  subst f13
  subst f15
  subst f18
  obtain ⟨i1, i2, i3, i4, i5⟩ := f19
  subst i1
  first
    | omega
    | (rcases (show r14 = 0 ∨ r14 = 1 ∨ r14 = 2 ∨ r14 = 3 by omega) with z | z | z | z <;> subst z <;> first | (exfalso; omega) | exact ⟨fun h => by omega, fun h h' => by omega, fun _ _ => ⟨by first | rfl | trivial, i5, by unfold okK; simp only [rowX_0, rowX_1, rowX_2, rowX_3]; omega⟩⟩)
    | (rcases (show r14 = 0 ∨ r14 = 1 ∨ r14 = 2 ∨ r14 = 3 by omega) with z | z | z | z <;> subst z <;> first | (exfalso; omega) | exact ⟨by omega, by omega, by omega, by omega, reI_s i5 (by omega) (by unfold okK; omega) (by omega) (by simp only [rowX_0, rowX_1, rowX_2, rowX_3]) (by simp only [rowX_0, rowX_1, rowX_2, rowX_3])⟩))
def w_xo_readC_1_32 : VC := ((bT ++ [(3, 3), (0, 30), (0, 58), (8, 8), (2, 60), (0, 23), (0, 9)]), [(1, [(none, 1), (none, 0)], []), (3, [(some 17, 0), (none, 8)], []), (1, [(none, 1), (none, 0)], []), (1, [(none, 1), (none, 0)], []), (3, [(none, 9), (some 20, 0)], []), (3, [(some 20, 0), (none, 0)], []), (1, [(none, 1), (none, 0)], []), (3, [(none, 23), (some 19, 0)], []), (3, [(some 19, 0), (none, 0)], []), (20, [(some 20, 0), (some 16, 1)], [44]), (0, [(some 14, 0), (none, 3)], []), (20, [(some 19, 0), (some 16, 0)], [44]), (0, [(some 14, 0), (none, 3)], []), (2, [(some 16, 1), (some 18, 0)], []), (20, [(some 18, 0), (some 14, 0)], [45]), (141, [(some 15, 0), (some 16, 0), (some 4, 0), (some 17, 0), (some 14, 0)], [45, 46, 41, 42, 43, 44, 15, 16, 58, 59])], (140, [(some 15, 0), (some 14, 0), (none, 0), (some 4, 0), (some 17, 0), (some 13, 0), (some 13, 0)], [45, 46, 41, 42, 43, 44, 15, 16, 58, 59]))
set_option maxRecDepth 20000 in
theorem v_xo_readC_1_32 {PT : PTy} (hp : HP12 PT) : vcOk PT w_xo_readC_1_32 := vc_of (fun ρ α hB hF => by
  obtain ⟨f0, f1, f2, f3, f4, f5, f6, f7, f8, f9, f10, f11, f12, f13, f14, f15, -⟩ := hF
  have e140 : PT 140 = P_rdX := hp.1.1.1.2.2.2.2.2.2.1
  have e141 : PT 141 = P_rdXI := hp.1.1.1.2.2.2.2.2.2.2.1
  simp only [hF0, hF1, hF2, hF3, hF20, hFp_140, hFp_141, e140, e141, P_rdX, P_rdXI, den_s, den_c, Int.add_zero, List.map_cons, List.map_nil] at f0 f1 f2 f3 f4 f5 f6 f7 f8 f9 f10 f11 f12 f13 f14 f15 ⊢
  have b4 : (0 : Int) ≤ ρ 4 ∧ ρ 4 ≤ 8 := hB 4 (0, 8) rfl
  have b13 : (0 : Int) ≤ ρ 13 ∧ ρ 13 ≤ 5 := hB 13 (0, 5) rfl
  have b14 : (3 : Int) ≤ ρ 14 ∧ ρ 14 ≤ 3 := hB 14 (3, 3) rfl
  have b15 : (0 : Int) ≤ ρ 15 ∧ ρ 15 ≤ 30 := hB 15 (0, 30) rfl
  have b16 : (0 : Int) ≤ ρ 16 ∧ ρ 16 ≤ 58 := hB 16 (0, 58) rfl
  have b17 : (8 : Int) ≤ ρ 17 ∧ ρ 17 ≤ 8 := hB 17 (8, 8) rfl
  have b18 : (2 : Int) ≤ ρ 18 ∧ ρ 18 ≤ 60 := hB 18 (2, 60) rfl
  have b19 : (0 : Int) ≤ ρ 19 ∧ ρ 19 ≤ 23 := hB 19 (0, 23) rfl
  have b20 : (0 : Int) ≤ ρ 20 ∧ ρ 20 ≤ 9 := hB 20 (0, 9) rfl
  clear hB
  generalize ρ 4 = r4, ρ 13 = r13, ρ 14 = r14, ρ 15 = r15, ρ 16 = r16, ρ 17 = r17, ρ 18 = r18, ρ 19 = r19, ρ 20 = r20, α 15 = a15, α 16 = a16, α 41 = a41, α 42 = a42, α 43 = a43, α 44 = a44, α 45 = a45, α 46 = a46, α 58 = a58, α 59 = a59 at *
  subst f9
  subst f11
  subst f14
  obtain ⟨i1, i2, i3, i4, i5⟩ := f15
  subst i1
  first
    | omega
    | (rcases (show r14 = 0 ∨ r14 = 1 ∨ r14 = 2 ∨ r14 = 3 by omega) with z | z | z | z <;> subst z <;> first | (exfalso; omega) | exact ⟨fun h => by omega, fun h h' => by omega, fun _ _ => ⟨by first | rfl | trivial, i5, by unfold okK; simp only [rowX_0, rowX_1, rowX_2, rowX_3]; omega⟩⟩)
    | (rcases (show r14 = 0 ∨ r14 = 1 ∨ r14 = 2 ∨ r14 = 3 by omega) with z | z | z | z <;> subst z <;> first | (exfalso; omega) | exact ⟨by omega, by omega, by omega, by omega, reI_s i5 (by omega) (by unfold okK; omega) (by omega) (by simp only [rowX_0, rowX_1, rowX_2, rowX_3]) (by simp only [rowX_0, rowX_1, rowX_2, rowX_3])⟩))
set_option maxRecDepth 1000000 in
theorem k_xo_readC {PT : PTy} (hp : HP12 PT) : wfX c_xo_readC = true ∧ xcOk PT c_xo_readC := xctr (xl0) c_xo_readC 134 mX6_read rfl h_xo_readC (by decide +kernel) (by decide +kernel) (by decide) (vcs_by [w_xo_readC_0_0, w_xo_readC_0_1, w_xo_readC_0_2, w_xo_readC_0_3] (by decide +kernel) (vc (v_xo_readC_0_0 hp) (vc (v_xo_readC_0_1 hp) (vc (v_xo_readC_0_2 hp) (vc (v_xo_readC_0_3 hp) vn))))) (fmc (vcs_by [w_xo_readC_1_0, w_xo_readC_1_1, w_xo_readC_1_2, w_xo_readC_1_3, w_xo_readC_1_4, w_xo_readC_1_5, w_xo_readC_1_6, w_xo_readC_1_7, w_xo_readC_1_8, w_xo_readC_1_9, w_xo_readC_1_10, w_xo_readC_1_11, w_xo_readC_1_12, w_xo_readC_1_13, w_xo_readC_1_14, w_xo_readC_1_15, w_xo_readC_1_16, w_xo_readC_1_17, w_xo_readC_1_18, w_xo_readC_1_19, w_xo_readC_1_20, w_xo_readC_1_21, w_xo_readC_1_22, w_xo_readC_1_23, w_xo_readC_1_24, w_xo_readC_1_25, w_xo_readC_1_26, w_xo_readC_1_27, w_xo_readC_1_28, w_xo_readC_1_29, w_xo_readC_1_30, w_xo_readC_1_31, w_xo_readC_1_32] (by decide +kernel) (vc (v_xo_readC_1_0 hp) (vc (v_xo_readC_1_1 hp) (vc (v_xo_readC_1_2 hp) (vc (v_xo_readC_1_3 hp) (vc (v_xo_readC_1_4 hp) (vc (v_xo_readC_1_5 hp) (vc (v_xo_readC_1_6 hp) (vc (v_xo_readC_1_7 hp) (vc (v_xo_readC_1_8 hp) (vc (v_xo_readC_1_9 hp) (vc (v_xo_readC_1_10 hp) (vc (v_xo_readC_1_11 hp) (vc (v_xo_readC_1_12 hp) (vc (v_xo_readC_1_13 hp) (vc (v_xo_readC_1_14 hp) (vc (v_xo_readC_1_15 hp) (vc (v_xo_readC_1_16 hp) (vc (v_xo_readC_1_17 hp) (vc (v_xo_readC_1_18 hp) (vc (v_xo_readC_1_19 hp) (vc (v_xo_readC_1_20 hp) (vc (v_xo_readC_1_21 hp) (vc (v_xo_readC_1_22 hp) (vc (v_xo_readC_1_23 hp) (vc (v_xo_readC_1_24 hp) (vc (v_xo_readC_1_25 hp) (vc (v_xo_readC_1_26 hp) (vc (v_xo_readC_1_27 hp) (vc (v_xo_readC_1_28 hp) (vc (v_xo_readC_1_29 hp) (vc (v_xo_readC_1_30 hp) (vc (v_xo_readC_1_31 hp) (vc (v_xo_readC_1_32 hp) vn)))))))))))))))))))))))))))))))))) fmn)
def c_yo_readC : XC := (131, 3, (bY ++ [((-2147483648), 2147483647)]), [.inr (.inl 0), .inl (some 13, 0)], gY2, [], [((bY ++ [((-2147483648), 2147483647), ((-11), 30), (0, 8), (0, 5)]), some (.inl (some 14, 0)), (hst gY2 [(0, .inr (.inr (.inr (7, [.inr (.inl 1), .inr (.inl 2), .inl (some 2, 0), .inr (.inl 3), .inr (.inl 4), .inl (some 3, 0), .inr (.inl 5), .inr (.inl 6), .inr (.inl 7), .inr (.inl 8), .inl (some 15, 0), .inr (.inl 9), .inr (.inl 10), .inl (some 5, 0), .inr (.inl 11), .inr (.inl 12), .inr (.inl 13), .inl (some 6, 0), .inr (.inl 14), .inr (.inl 15), .inr (.inl 16), .inl (some 8, 0), .inl (some 9, 0), .inr (.inl 17), .inr (.inl 18), .inl (some 10, 0), .inl (some 11, 0), .inr (.inl 19), .inr (.inl 20), .inr (.inl 21), .inr (.inl 22), .inr (.inl 23), .inr (.inl 24), .inr (.inl 25), .inl (some 7, 0), .inr (.inl 26), .inr (.inl 27), .inr (.inl 28), .inr (.inl 29), .inr (.inl 30), .inr (.inl 31), .inr (.inl 32), .inr (.inl 33), .inr (.inl 34), .inl (some 16, 0)]))))]), (ansT 35 [(9, 35), (10, 36)]), 37, [(142, [(some 14, 0), (some 13, 0), (some 4, 0), (some 15, 0), (some 12, 0), (some 16, 0)], [30, 32, 33, 9, 10, 35, 36])])])
def h_yo_readC : List XH := [(27, (bY ++ [(0, 3), (0, 30), (0, 8)]), [some (.inr (.inl 0)), some (.inl (some 13, 0)), some (.inl (some 14, 0))], (hst gY2 [(0, .inr (.inr (.inr (7, [.inr (.inl 1), .inr (.inl 2), .inl (some 2, 0), .inr (.inl 3), .inr (.inl 4), .inl (some 3, 0), .inr (.inl 5), .inr (.inl 6), .inr (.inl 7), .inr (.inl 8), .inl (some 15, 0), .inr (.inl 9), .inr (.inl 10), .inl (some 5, 0), .inr (.inl 11), .inr (.inl 12), .inr (.inl 13), .inl (some 6, 0), .inr (.inl 14), .inr (.inl 15), .inr (.inl 16), .inl (some 8, 0), .inl (some 9, 0), .inr (.inl 17), .inr (.inl 18), .inl (some 10, 0), .inl (some 11, 0), .inr (.inl 19), .inr (.inl 20), .inr (.inl 21), .inr (.inl 22), .inr (.inl 23), .inr (.inl 24), .inr (.inl 25), .inl (some 7, 0), .inr (.inl 26), .inr (.inl 27), .inr (.inl 28), .inr (.inl 29), .inr (.inl 30), .inr (.inl 31), .inr (.inl 32), .inr (.inl 33), .inr (.inl 34), .inl (some 12, 0)]))))]), (ansT 35 [(9, 35), (10, 36)]), 37, [(143, [(some 14, 0), (some 4, 0), (some 15, 0), (some 13, 0)], [30, 32, 33, 9, 10, 35, 36])], [(true, (none, 1)), (true, (some 14, 0))])]
def w_yo_readC_0_0 : VC := ((bY ++ [((-2147483648), (-1))]), [(0, [(none, 0), (none, 0)], []), (2, [(some 13, 0), (none, 0)], [])], (142, [(none, (-2)), (some 13, 0), (some 4, 0), (some 4, 0), (some 12, 0), (some 12, 0)], [30, 32, 33, 9, 10, 9, 10]))
set_option maxRecDepth 20000 in
theorem v_yo_readC_0_0 {PT : PTy} (hp : HP12 PT) : vcOk PT w_yo_readC_0_0 := vc_of (fun ρ α hB hF => by
  obtain ⟨f0, f1, -⟩ := hF
  have e142 : PT 142 = P_rdY := hp.1.1.1.2.2.2.2.2.2.2.2.1
  simp only [hF0, hF2, hFp_142, e142, P_rdY, den_s, den_c, Int.add_zero, List.map_cons, List.map_nil] at f0 f1 ⊢
  have b4 : (0 : Int) ≤ ρ 4 ∧ ρ 4 ≤ 8 := hB 4 (0, 8) rfl
  have b12 : (0 : Int) ≤ ρ 12 ∧ ρ 12 ≤ 5 := hB 12 (0, 5) rfl
  have b13 : ((-2147483648) : Int) ≤ ρ 13 ∧ ρ 13 ≤ (-1) := hB 13 ((-2147483648), (-1)) rfl
  clear hB
  generalize ρ 4 = r4, ρ 12 = r12, ρ 13 = r13, α 9 = a9, α 10 = a10, α 30 = a30, α 32 = a32, α 33 = a33 at *
  first
    | omega
    | exact ⟨by omega, by omega, by omega, reI_z⟩
    | ((repeat' (first | apply And.intro | intro h)) <;> first | omega | rfl | trivial | (exfalso; omega) | (congr 1; omega) | (congr 1; (repeat' split) <;> first | rfl | (exfalso; omega))))
def w_yo_readC_0_1 : VC := ((bY ++ [(4, 2147483647)]), [(0, [(none, 0), (none, 0)], []), (2, [(none, 3), (some 13, 0)], []), (3, [(some 13, 0), (none, 0)], [])], (142, [(none, (-2)), (some 13, 0), (some 4, 0), (some 4, 0), (some 12, 0), (some 12, 0)], [30, 32, 33, 9, 10, 9, 10]))
set_option maxRecDepth 20000 in
theorem v_yo_readC_0_1 {PT : PTy} (hp : HP12 PT) : vcOk PT w_yo_readC_0_1 := vc_of (fun ρ α hB hF => by
  obtain ⟨f0, f1, f2, -⟩ := hF
  have e142 : PT 142 = P_rdY := hp.1.1.1.2.2.2.2.2.2.2.2.1
  simp only [hF0, hF2, hF3, hFp_142, e142, P_rdY, den_s, den_c, Int.add_zero, List.map_cons, List.map_nil] at f0 f1 f2 ⊢
  have b4 : (0 : Int) ≤ ρ 4 ∧ ρ 4 ≤ 8 := hB 4 (0, 8) rfl
  have b12 : (0 : Int) ≤ ρ 12 ∧ ρ 12 ≤ 5 := hB 12 (0, 5) rfl
  have b13 : (4 : Int) ≤ ρ 13 ∧ ρ 13 ≤ 2147483647 := hB 13 (4, 2147483647) rfl
  clear hB
  generalize ρ 4 = r4, ρ 12 = r12, ρ 13 = r13, α 9 = a9, α 10 = a10, α 30 = a30, α 32 = a32, α 33 = a33 at *
  first
    | omega
    | exact ⟨by omega, by omega, by omega, reI_z⟩
    | ((repeat' (first | apply And.intro | intro h)) <;> first | omega | rfl | trivial | (exfalso; omega) | (congr 1; omega) | (congr 1; (repeat' split) <;> first | rfl | (exfalso; omega))))
def w_yo_readC_0_2 : VC := ((bY ++ [(0, 3), (1, 1)]), [(1, [(some 14, 0), (none, 0)], []), (20, [(some 14, 0), (some 13, 0)], [30]), (1, [(none, 1), (none, 0)], []), (3, [(none, 3), (some 13, 0)], []), (3, [(some 13, 0), (none, 0)], [])], (143, [(none, 0), (some 4, 0), (some 4, 0), (some 13, 0)], [30, 32, 33, 9, 10, 9, 10]))
set_option maxRecDepth 20000 in
theorem v_yo_readC_0_2 {PT : PTy} (hp : HP12 PT) : vcOk PT w_yo_readC_0_2 := vc_of (fun ρ α hB hF => by
  obtain ⟨f0, f1, f2, f3, f4, -⟩ := hF
  have e143 : PT 143 = P_rdYI := hp.1.1.1.2.2.2.2.2.2.2.2.2.1
  simp only [hF1, hF3, hF20, hFp_143, e143, P_rdYI, den_s, den_c, Int.add_zero, List.map_cons, List.map_nil] at f0 f1 f2 f3 f4 ⊢
  have b4 : (0 : Int) ≤ ρ 4 ∧ ρ 4 ≤ 8 := hB 4 (0, 8) rfl
  have b13 : (0 : Int) ≤ ρ 13 ∧ ρ 13 ≤ 3 := hB 13 (0, 3) rfl
  have b14 : (1 : Int) ≤ ρ 14 ∧ ρ 14 ≤ 1 := hB 14 (1, 1) rfl
  clear hB
  generalize ρ 4 = r4, ρ 13 = r13, ρ 14 = r14, α 9 = a9, α 10 = a10, α 30 = a30, α 32 = a32, α 33 = a33 at *
  subst f1
  first
    | omega
    | exact ⟨by omega, by omega, by omega, reI_z⟩
    | ((repeat' (first | apply And.intro | intro h)) <;> first | omega | rfl | trivial | (exfalso; omega) | (congr 1; omega) | (congr 1; (repeat' split) <;> first | rfl | (exfalso; omega))))
def w_yo_readC_0_3 : VC := ((bY ++ [(0, 3), (0, 0)]), [(0, [(some 14, 0), (none, 0)], []), (20, [(some 14, 0), (some 13, 0)], [30]), (1, [(none, 1), (none, 0)], []), (3, [(none, 3), (some 13, 0)], []), (3, [(some 13, 0), (none, 0)], [])], (142, [(none, (-11)), (some 13, 0), (some 4, 0), (some 4, 0), (some 12, 0), (none, 1)], [30, 32, 33, 9, 10, 9, 10]))
set_option maxRecDepth 20000 in
theorem v_yo_readC_0_3 {PT : PTy} (hp : HP12 PT) : vcOk PT w_yo_readC_0_3 := vc_of (fun ρ α hB hF => by
  obtain ⟨f0, f1, f2, f3, f4, -⟩ := hF
  have e142 : PT 142 = P_rdY := hp.1.1.1.2.2.2.2.2.2.2.2.1
  simp only [hF0, hF1, hF3, hF20, hFp_142, e142, P_rdY, den_s, den_c, Int.add_zero, List.map_cons, List.map_nil] at f0 f1 f2 f3 f4 ⊢
  have b4 : (0 : Int) ≤ ρ 4 ∧ ρ 4 ≤ 8 := hB 4 (0, 8) rfl
  have b12 : (0 : Int) ≤ ρ 12 ∧ ρ 12 ≤ 5 := hB 12 (0, 5) rfl
  have b13 : (0 : Int) ≤ ρ 13 ∧ ρ 13 ≤ 3 := hB 13 (0, 3) rfl
  have b14 : (0 : Int) ≤ ρ 14 ∧ ρ 14 ≤ 0 := hB 14 (0, 0) rfl
  clear hB
  generalize ρ 4 = r4, ρ 12 = r12, ρ 13 = r13, ρ 14 = r14, α 9 = a9, α 10 = a10, α 30 = a30, α 32 = a32, α 33 = a33 at *
  subst f1
  first
    | omega
    | exact ⟨by omega, by omega, by omega, reI_z⟩
    | ((repeat' (first | apply And.intro | intro h)) <;> first | omega | rfl | trivial | (exfalso; omega) | (congr 1; omega) | (congr 1; (repeat' split) <;> first | rfl | (exfalso; omega))))
def w_yo_readC_1_0 : VC := ((bY ++ [(0, 3), (0, 30), (0, 8), (0, 60), (0, 60)]), [(3, [(some 16, 1), (some 17, 0)], []), (20, [(some 17, 0), (some 13, 0)], [32]), (6, [(some 16, 0), (none, 2), (some 14, 0)], []), (143, [(some 14, 0), (some 4, 0), (some 15, 0), (some 13, 0)], [30, 32, 33, 9, 10, 35, 36])], (142, [(some 14, 0), (some 13, 0), (some 4, 0), (some 15, 0), (some 12, 0), (some 12, 0)], [30, 32, 33, 9, 10, 35, 36]))
set_option maxRecDepth 20000 in
theorem v_yo_readC_1_0 {PT : PTy} (hp : HP12 PT) : vcOk PT w_yo_readC_1_0 := vc_of (fun ρ α hB hF => by
  obtain ⟨f0, f1, f2, f3, -⟩ := hF
  have e142 : PT 142 = P_rdY := hp.1.1.1.2.2.2.2.2.2.2.2.1
  have e143 : PT 143 = P_rdYI := hp.1.1.1.2.2.2.2.2.2.2.2.2.1
  simp only [hF3, hF6, hF20, hFp_142, hFp_143, e142, e143, P_rdY, P_rdYI, den_s, den_c, Int.add_zero, List.map_cons, List.map_nil] at f0 f1 f2 f3 ⊢
  have b4 : (0 : Int) ≤ ρ 4 ∧ ρ 4 ≤ 8 := hB 4 (0, 8) rfl
  have b12 : (0 : Int) ≤ ρ 12 ∧ ρ 12 ≤ 5 := hB 12 (0, 5) rfl
  have b13 : (0 : Int) ≤ ρ 13 ∧ ρ 13 ≤ 3 := hB 13 (0, 3) rfl
  have b14 : (0 : Int) ≤ ρ 14 ∧ ρ 14 ≤ 30 := hB 14 (0, 30) rfl
  have b15 : (0 : Int) ≤ ρ 15 ∧ ρ 15 ≤ 8 := hB 15 (0, 8) rfl
  have b16 : (0 : Int) ≤ ρ 16 ∧ ρ 16 ≤ 60 := hB 16 (0, 60) rfl
  have b17 : (0 : Int) ≤ ρ 17 ∧ ρ 17 ≤ 60 := hB 17 (0, 60) rfl
  clear hB
  generalize ρ 4 = r4, ρ 12 = r12, ρ 13 = r13, ρ 14 = r14, ρ 15 = r15, ρ 16 = r16, ρ 17 = r17, α 9 = a9, α 10 = a10, α 30 = a30, α 32 = a32, α 33 = a33, α 35 = a35, α 36 = a36 at *
  subst f1
  subst f2
  obtain ⟨i1, i2, i3, i4⟩ := f3
  first
    | omega
    | exact ⟨fun h => by omega, fun h h' => by omega, fun _ _ => ⟨by first | rfl | trivial, i4, fun h => by have := h.1; omega⟩⟩
    | (obtain ⟨y1, y2, y3⟩ := MISSING
       rw [show 60 * r13 + 2 * r14 + 1 = 60 * r13 + (2 * r14 + 1) by omega] at y1 y2 y3
       by_cases ok : 0 ≤ a33 (60 * r13 + 2 * r14) ∧ a33 (60 * r13 + 2 * r14) ≤ 23 ∧ 0 ≤ a33 (60 * r13 + (2 * r14 + 1)) ∧ a33 (60 * r13 + (2 * r14 + 1)) ≤ 9
       · by_cases f : r15 < 8
         · obtain ⟨u1, u2, u3, u4⟩ := y2 ok f
           subst u2 u3 u4
           first
             | (exfalso; omega)
             | exact ⟨i1, i2, i3, reI_s i4 (by omega) ok f rfl rfl⟩
         · obtain ⟨u1, u2, u3, u4⟩ := y3 ok (by omega)
           subst u2 u3 u4
           first
             | (exfalso; omega)
             | exact ⟨fun h => by omega, fun h h' => by omega, fun _ _ => ⟨by first | rfl | trivial, i4, fun q => f q.2.2⟩⟩
       · obtain ⟨u1, u2, u3, u4⟩ := y1 ok
         subst u2 u3 u4
         first
           | (exfalso; omega)
           | exact ⟨fun h => by omega, fun h h' => by omega, fun _ _ => ⟨by first | rfl | trivial, i4, fun q => ok q.2.1⟩⟩))
def w_yo_readC_1_1 : VC := ((bY ++ [(0, 3), (0, 30), (0, 8), (0, 58), (2, 60), (0, 180), (0, 60), (0, 240)]), [(4, [(some 20, 0), (some 18, 0), (some 19, 0)], []), (6, [(some 19, 0), (none, 2), (some 14, 0)], []), (6, [(some 18, 0), (none, 60), (some 13, 0)], []), (2, [(some 16, 1), (some 17, 0)], []), (20, [(some 17, 0), (some 13, 0)], [32]), (6, [(some 16, 0), (none, 2), (some 14, 0)], []), (143, [(some 14, 0), (some 4, 0), (some 15, 0), (some 13, 0)], [30, 32, 33, 9, 10, 35, 36])], (3, [(some 20, 0), (none, 0)], []))
set_option maxRecDepth 20000 in
theorem v_yo_readC_1_1 {PT : PTy} (hp : HP12 PT) : vcOk PT w_yo_readC_1_1 := vc_of (fun ρ α hB hF => by
  obtain ⟨f0, f1, f2, f3, f4, f5, f6, -⟩ := hF
  have e143 : PT 143 = P_rdYI := hp.1.1.1.2.2.2.2.2.2.2.2.2.1
  simp only [hF2, hF3, hF4, hF6, hF20, hFp_143, e143, P_rdYI, den_s, den_c, Int.add_zero, List.map_cons, List.map_nil] at f0 f1 f2 f3 f4 f5 f6 ⊢
  have b4 : (0 : Int) ≤ ρ 4 ∧ ρ 4 ≤ 8 := hB 4 (0, 8) rfl
  have b13 : (0 : Int) ≤ ρ 13 ∧ ρ 13 ≤ 3 := hB 13 (0, 3) rfl
  have b14 : (0 : Int) ≤ ρ 14 ∧ ρ 14 ≤ 30 := hB 14 (0, 30) rfl
  have b15 : (0 : Int) ≤ ρ 15 ∧ ρ 15 ≤ 8 := hB 15 (0, 8) rfl
  have b16 : (0 : Int) ≤ ρ 16 ∧ ρ 16 ≤ 58 := hB 16 (0, 58) rfl
  have b17 : (2 : Int) ≤ ρ 17 ∧ ρ 17 ≤ 60 := hB 17 (2, 60) rfl
  have b18 : (0 : Int) ≤ ρ 18 ∧ ρ 18 ≤ 180 := hB 18 (0, 180) rfl
  have b19 : (0 : Int) ≤ ρ 19 ∧ ρ 19 ≤ 60 := hB 19 (0, 60) rfl
  have b20 : (0 : Int) ≤ ρ 20 ∧ ρ 20 ≤ 240 := hB 20 (0, 240) rfl
  clear hB
  generalize ρ 4 = r4, ρ 13 = r13, ρ 14 = r14, ρ 15 = r15, ρ 16 = r16, ρ 17 = r17, ρ 18 = r18, ρ 19 = r19, ρ 20 = r20, α 9 = a9, α 10 = a10, α 30 = a30, α 32 = a32, α 33 = a33, α 35 = a35, α 36 = a36 at *
  subst f0
  subst f1
  subst f2
  subst f4
  subst f5
  obtain ⟨i1, i2, i3, i4⟩ := f6
  first
    | omega
    | exact ⟨fun h => by omega, fun h h' => by omega, fun _ _ => ⟨by first | rfl | trivial, i4, fun h => by have := h.1; omega⟩⟩
    | (obtain ⟨y1, y2, y3⟩ := MISSING
       rw [show 60 * r13 + 2 * r14 + 1 = 60 * r13 + (2 * r14 + 1) by omega] at y1 y2 y3
       by_cases ok : 0 ≤ a33 (60 * r13 + 2 * r14) ∧ a33 (60 * r13 + 2 * r14) ≤ 23 ∧ 0 ≤ a33 (60 * r13 + (2 * r14 + 1)) ∧ a33 (60 * r13 + (2 * r14 + 1)) ≤ 9
       · by_cases f : r15 < 8
         · obtain ⟨u1, u2, u3, u4⟩ := y2 ok f
           subst u2 u3 u4
           first
             | (exfalso; omega)
             | exact ⟨i1, i2, i3, reI_s i4 (by omega) ok f rfl rfl⟩
         · obtain ⟨u1, u2, u3, u4⟩ := y3 ok (by omega)
           subst u2 u3 u4
           first
             | (exfalso; omega)
             | exact ⟨fun h => by omega, fun h h' => by omega, fun _ _ => ⟨by first | rfl | trivial, i4, fun q => f q.2.2⟩⟩
       · obtain ⟨u1, u2, u3, u4⟩ := y1 ok
         subst u2 u3 u4
         first
           | (exfalso; omega)
           | exact ⟨fun h => by omega, fun h h' => by omega, fun _ _ => ⟨by first | rfl | trivial, i4, fun q => ok q.2.1⟩⟩))
def w_yo_readC_1_2 : VC := ((bY ++ [(0, 3), (0, 30), (0, 8), (0, 58), (2, 60), (0, 180), (0, 60), (0, 240)]), [(4, [(some 20, 0), (some 18, 0), (some 19, 0)], []), (6, [(some 19, 0), (none, 2), (some 14, 0)], []), (6, [(some 18, 0), (none, 60), (some 13, 0)], []), (2, [(some 16, 1), (some 17, 0)], []), (20, [(some 17, 0), (some 13, 0)], [32]), (6, [(some 16, 0), (none, 2), (some 14, 0)], []), (143, [(some 14, 0), (some 4, 0), (some 15, 0), (some 13, 0)], [30, 32, 33, 9, 10, 35, 36])], (3, [(none, 239), (some 20, 0)], []))
set_option maxRecDepth 20000 in
theorem v_yo_readC_1_2 {PT : PTy} (hp : HP12 PT) : vcOk PT w_yo_readC_1_2 := vc_of (fun ρ α hB hF => by
  obtain ⟨f0, f1, f2, f3, f4, f5, f6, -⟩ := hF
  have e143 : PT 143 = P_rdYI := hp.1.1.1.2.2.2.2.2.2.2.2.2.1
  simp only [hF2, hF3, hF4, hF6, hF20, hFp_143, e143, P_rdYI, den_s, den_c, Int.add_zero, List.map_cons, List.map_nil] at f0 f1 f2 f3 f4 f5 f6 ⊢
  have b4 : (0 : Int) ≤ ρ 4 ∧ ρ 4 ≤ 8 := hB 4 (0, 8) rfl
  have b13 : (0 : Int) ≤ ρ 13 ∧ ρ 13 ≤ 3 := hB 13 (0, 3) rfl
  have b14 : (0 : Int) ≤ ρ 14 ∧ ρ 14 ≤ 30 := hB 14 (0, 30) rfl
  have b15 : (0 : Int) ≤ ρ 15 ∧ ρ 15 ≤ 8 := hB 15 (0, 8) rfl
  have b16 : (0 : Int) ≤ ρ 16 ∧ ρ 16 ≤ 58 := hB 16 (0, 58) rfl
  have b17 : (2 : Int) ≤ ρ 17 ∧ ρ 17 ≤ 60 := hB 17 (2, 60) rfl
  have b18 : (0 : Int) ≤ ρ 18 ∧ ρ 18 ≤ 180 := hB 18 (0, 180) rfl
  have b19 : (0 : Int) ≤ ρ 19 ∧ ρ 19 ≤ 60 := hB 19 (0, 60) rfl
  have b20 : (0 : Int) ≤ ρ 20 ∧ ρ 20 ≤ 240 := hB 20 (0, 240) rfl
  clear hB
  generalize ρ 4 = r4, ρ 13 = r13, ρ 14 = r14, ρ 15 = r15, ρ 16 = r16, ρ 17 = r17, ρ 18 = r18, ρ 19 = r19, ρ 20 = r20, α 9 = a9, α 10 = a10, α 30 = a30, α 32 = a32, α 33 = a33, α 35 = a35, α 36 = a36 at *
  subst f0
  subst f1
  subst f2
  subst f4
  subst f5
  obtain ⟨i1, i2, i3, i4⟩ := f6
  first
    | omega
    | exact ⟨fun h => by omega, fun h h' => by omega, fun _ _ => ⟨by first | rfl | trivial, i4, fun h => by have := h.1; omega⟩⟩
    | (obtain ⟨y1, y2, y3⟩ := MISSING
       rw [show 60 * r13 + 2 * r14 + 1 = 60 * r13 + (2 * r14 + 1) by omega] at y1 y2 y3
       by_cases ok : 0 ≤ a33 (60 * r13 + 2 * r14) ∧ a33 (60 * r13 + 2 * r14) ≤ 23 ∧ 0 ≤ a33 (60 * r13 + (2 * r14 + 1)) ∧ a33 (60 * r13 + (2 * r14 + 1)) ≤ 9
       · by_cases f : r15 < 8
         · obtain ⟨u1, u2, u3, u4⟩ := y2 ok f
           subst u2 u3 u4
           first
             | (exfalso; omega)
             | exact ⟨i1, i2, i3, reI_s i4 (by omega) ok f rfl rfl⟩
         · obtain ⟨u1, u2, u3, u4⟩ := y3 ok (by omega)
           subst u2 u3 u4
           first
             | (exfalso; omega)
             | exact ⟨fun h => by omega, fun h h' => by omega, fun _ _ => ⟨by first | rfl | trivial, i4, fun q => f q.2.2⟩⟩
       · obtain ⟨u1, u2, u3, u4⟩ := y1 ok
         subst u2 u3 u4
         first
           | (exfalso; omega)
           | exact ⟨fun h => by omega, fun h h' => by omega, fun _ _ => ⟨by first | rfl | trivial, i4, fun q => ok q.2.1⟩⟩))
def w_yo_readC_1_3 : VC := ((bY ++ [(0, 3), (0, 30), (0, 8), (0, 58), (2, 60), (0, 180), (0, 60), (0, 239), ((-2147483648), 2147483647), (0, 180), (0, 60), (0, 240)]), [(4, [(some 24, 0), (some 22, 0), (some 23, 0)], []), (6, [(some 23, 0), (none, 2), (some 14, 0)], []), (6, [(some 22, 0), (none, 60), (some 13, 0)], []), (20, [(some 21, 0), (some 20, 0)], [33]), (4, [(some 20, 0), (some 18, 0), (some 19, 0)], []), (6, [(some 19, 0), (none, 2), (some 14, 0)], []), (6, [(some 18, 0), (none, 60), (some 13, 0)], []), (2, [(some 16, 1), (some 17, 0)], []), (20, [(some 17, 0), (some 13, 0)], [32]), (6, [(some 16, 0), (none, 2), (some 14, 0)], []), (143, [(some 14, 0), (some 4, 0), (some 15, 0), (some 13, 0)], [30, 32, 33, 9, 10, 35, 36])], (3, [(some 24, 1), (none, 0)], []))
set_option maxRecDepth 20000 in
theorem v_yo_readC_1_3 {PT : PTy} (hp : HP12 PT) : vcOk PT w_yo_readC_1_3 := vc_of (fun ρ α hB hF => by
  obtain ⟨f0, f1, f2, f3, f4, f5, f6, f7, f8, f9, f10, -⟩ := hF
  have e143 : PT 143 = P_rdYI := hp.1.1.1.2.2.2.2.2.2.2.2.2.1
  simp only [hF2, hF3, hF4, hF6, hF20, hFp_143, e143, P_rdYI, den_s, den_c, Int.add_zero, List.map_cons, List.map_nil] at f0 f1 f2 f3 f4 f5 f6 f7 f8 f9 f10 ⊢
  have b4 : (0 : Int) ≤ ρ 4 ∧ ρ 4 ≤ 8 := hB 4 (0, 8) rfl
  have b13 : (0 : Int) ≤ ρ 13 ∧ ρ 13 ≤ 3 := hB 13 (0, 3) rfl
  have b14 : (0 : Int) ≤ ρ 14 ∧ ρ 14 ≤ 30 := hB 14 (0, 30) rfl
  have b15 : (0 : Int) ≤ ρ 15 ∧ ρ 15 ≤ 8 := hB 15 (0, 8) rfl
  have b16 : (0 : Int) ≤ ρ 16 ∧ ρ 16 ≤ 58 := hB 16 (0, 58) rfl
  have b17 : (2 : Int) ≤ ρ 17 ∧ ρ 17 ≤ 60 := hB 17 (2, 60) rfl
  have b18 : (0 : Int) ≤ ρ 18 ∧ ρ 18 ≤ 180 := hB 18 (0, 180) rfl
  have b19 : (0 : Int) ≤ ρ 19 ∧ ρ 19 ≤ 60 := hB 19 (0, 60) rfl
  have b20 : (0 : Int) ≤ ρ 20 ∧ ρ 20 ≤ 239 := hB 20 (0, 239) rfl
  have b21 : ((-2147483648) : Int) ≤ ρ 21 ∧ ρ 21 ≤ 2147483647 := hB 21 ((-2147483648), 2147483647) rfl
  have b22 : (0 : Int) ≤ ρ 22 ∧ ρ 22 ≤ 180 := hB 22 (0, 180) rfl
  have b23 : (0 : Int) ≤ ρ 23 ∧ ρ 23 ≤ 60 := hB 23 (0, 60) rfl
  have b24 : (0 : Int) ≤ ρ 24 ∧ ρ 24 ≤ 240 := hB 24 (0, 240) rfl
  clear hB
  generalize ρ 4 = r4, ρ 13 = r13, ρ 14 = r14, ρ 15 = r15, ρ 16 = r16, ρ 17 = r17, ρ 18 = r18, ρ 19 = r19, ρ 20 = r20, ρ 21 = r21, ρ 22 = r22, ρ 23 = r23, ρ 24 = r24, α 9 = a9, α 10 = a10, α 30 = a30, α 32 = a32, α 33 = a33, α 35 = a35, α 36 = a36 at *
  subst f0
  subst f1
  subst f2
  subst f3
  subst f4
  subst f5
  subst f6
  subst f8
  subst f9
  obtain ⟨i1, i2, i3, i4⟩ := f10
  first
    | omega
    | exact ⟨fun h => by omega, fun h h' => by omega, fun _ _ => ⟨by first | rfl | trivial, i4, fun h => by have := h.1; omega⟩⟩
    | (obtain ⟨y1, y2, y3⟩ := MISSING
       rw [show 60 * r13 + 2 * r14 + 1 = 60 * r13 + (2 * r14 + 1) by omega] at y1 y2 y3
       by_cases ok : 0 ≤ a33 (60 * r13 + 2 * r14) ∧ a33 (60 * r13 + 2 * r14) ≤ 23 ∧ 0 ≤ a33 (60 * r13 + (2 * r14 + 1)) ∧ a33 (60 * r13 + (2 * r14 + 1)) ≤ 9
       · by_cases f : r15 < 8
         · obtain ⟨u1, u2, u3, u4⟩ := y2 ok f
           subst u2 u3 u4
           first
             | (exfalso; omega)
             | exact ⟨i1, i2, i3, reI_s i4 (by omega) ok f rfl rfl⟩
         · obtain ⟨u1, u2, u3, u4⟩ := y3 ok (by omega)
           subst u2 u3 u4
           first
             | (exfalso; omega)
             | exact ⟨fun h => by omega, fun h h' => by omega, fun _ _ => ⟨by first | rfl | trivial, i4, fun q => f q.2.2⟩⟩
       · obtain ⟨u1, u2, u3, u4⟩ := y1 ok
         subst u2 u3 u4
         first
           | (exfalso; omega)
           | exact ⟨fun h => by omega, fun h h' => by omega, fun _ _ => ⟨by first | rfl | trivial, i4, fun q => ok q.2.1⟩⟩))
def w_yo_readC_1_4 : VC := ((bY ++ [(0, 3), (0, 30), (0, 8), (0, 58), (2, 60), (0, 180), (0, 60), (0, 239), ((-2147483648), 2147483647), (0, 180), (0, 60), (0, 240)]), [(4, [(some 24, 0), (some 22, 0), (some 23, 0)], []), (6, [(some 23, 0), (none, 2), (some 14, 0)], []), (6, [(some 22, 0), (none, 60), (some 13, 0)], []), (20, [(some 21, 0), (some 20, 0)], [33]), (4, [(some 20, 0), (some 18, 0), (some 19, 0)], []), (6, [(some 19, 0), (none, 2), (some 14, 0)], []), (6, [(some 18, 0), (none, 60), (some 13, 0)], []), (2, [(some 16, 1), (some 17, 0)], []), (20, [(some 17, 0), (some 13, 0)], [32]), (6, [(some 16, 0), (none, 2), (some 14, 0)], []), (143, [(some 14, 0), (some 4, 0), (some 15, 0), (some 13, 0)], [30, 32, 33, 9, 10, 35, 36])], (3, [(none, 239), (some 24, 1)], []))
set_option maxRecDepth 20000 in
theorem v_yo_readC_1_4 {PT : PTy} (hp : HP12 PT) : vcOk PT w_yo_readC_1_4 := vc_of (fun ρ α hB hF => by
  obtain ⟨f0, f1, f2, f3, f4, f5, f6, f7, f8, f9, f10, -⟩ := hF
  have e143 : PT 143 = P_rdYI := hp.1.1.1.2.2.2.2.2.2.2.2.2.1
  simp only [hF2, hF3, hF4, hF6, hF20, hFp_143, e143, P_rdYI, den_s, den_c, Int.add_zero, List.map_cons, List.map_nil] at f0 f1 f2 f3 f4 f5 f6 f7 f8 f9 f10 ⊢
  have b4 : (0 : Int) ≤ ρ 4 ∧ ρ 4 ≤ 8 := hB 4 (0, 8) rfl
  have b13 : (0 : Int) ≤ ρ 13 ∧ ρ 13 ≤ 3 := hB 13 (0, 3) rfl
  have b14 : (0 : Int) ≤ ρ 14 ∧ ρ 14 ≤ 30 := hB 14 (0, 30) rfl
  have b15 : (0 : Int) ≤ ρ 15 ∧ ρ 15 ≤ 8 := hB 15 (0, 8) rfl
  have b16 : (0 : Int) ≤ ρ 16 ∧ ρ 16 ≤ 58 := hB 16 (0, 58) rfl
  have b17 : (2 : Int) ≤ ρ 17 ∧ ρ 17 ≤ 60 := hB 17 (2, 60) rfl
  have b18 : (0 : Int) ≤ ρ 18 ∧ ρ 18 ≤ 180 := hB 18 (0, 180) rfl
  have b19 : (0 : Int) ≤ ρ 19 ∧ ρ 19 ≤ 60 := hB 19 (0, 60) rfl
  have b20 : (0 : Int) ≤ ρ 20 ∧ ρ 20 ≤ 239 := hB 20 (0, 239) rfl
  have b21 : ((-2147483648) : Int) ≤ ρ 21 ∧ ρ 21 ≤ 2147483647 := hB 21 ((-2147483648), 2147483647) rfl
  have b22 : (0 : Int) ≤ ρ 22 ∧ ρ 22 ≤ 180 := hB 22 (0, 180) rfl
  have b23 : (0 : Int) ≤ ρ 23 ∧ ρ 23 ≤ 60 := hB 23 (0, 60) rfl
  have b24 : (0 : Int) ≤ ρ 24 ∧ ρ 24 ≤ 240 := hB 24 (0, 240) rfl
  clear hB
  generalize ρ 4 = r4, ρ 13 = r13, ρ 14 = r14, ρ 15 = r15, ρ 16 = r16, ρ 17 = r17, ρ 18 = r18, ρ 19 = r19, ρ 20 = r20, ρ 21 = r21, ρ 22 = r22, ρ 23 = r23, ρ 24 = r24, α 9 = a9, α 10 = a10, α 30 = a30, α 32 = a32, α 33 = a33, α 35 = a35, α 36 = a36 at *
  subst f0
  subst f1
  subst f2
  subst f3
  subst f4
  subst f5
  subst f6
  subst f8
  subst f9
  obtain ⟨i1, i2, i3, i4⟩ := f10
  first
    | omega
    | exact ⟨fun h => by omega, fun h h' => by omega, fun _ _ => ⟨by first | rfl | trivial, i4, fun h => by have := h.1; omega⟩⟩
    | (obtain ⟨y1, y2, y3⟩ := MISSING
       rw [show 60 * r13 + 2 * r14 + 1 = 60 * r13 + (2 * r14 + 1) by omega] at y1 y2 y3
       by_cases ok : 0 ≤ a33 (60 * r13 + 2 * r14) ∧ a33 (60 * r13 + 2 * r14) ≤ 23 ∧ 0 ≤ a33 (60 * r13 + (2 * r14 + 1)) ∧ a33 (60 * r13 + (2 * r14 + 1)) ≤ 9
       · by_cases f : r15 < 8
         · obtain ⟨u1, u2, u3, u4⟩ := y2 ok f
           subst u2 u3 u4
           first
             | (exfalso; omega)
             | exact ⟨i1, i2, i3, reI_s i4 (by omega) ok f rfl rfl⟩
         · obtain ⟨u1, u2, u3, u4⟩ := y3 ok (by omega)
           subst u2 u3 u4
           first
             | (exfalso; omega)
             | exact ⟨fun h => by omega, fun h h' => by omega, fun _ _ => ⟨by first | rfl | trivial, i4, fun q => f q.2.2⟩⟩
       · obtain ⟨u1, u2, u3, u4⟩ := y1 ok
         subst u2 u3 u4
         first
           | (exfalso; omega)
           | exact ⟨fun h => by omega, fun h h' => by omega, fun _ _ => ⟨by first | rfl | trivial, i4, fun q => ok q.2.1⟩⟩))
def w_yo_readC_1_5 : VC := ((bY ++ [(0, 3), (0, 30), (0, 8), (0, 58), (2, 60), (0, 180), (0, 60), (0, 239), ((-2147483648), 2147483647), (0, 180), (0, 60), (0, 238), ((-2147483648), 2147483647), ((-4), 0), (0, 8)]), [(3, [(none, 0), (some 26, 0)], []), (114, [(some 26, 0), (some 21, 0), (some 25, 0), (some 15, 0), (some 27, 0)], [35, 36, 37, 38]), (20, [(some 25, 0), (some 24, 1)], [33]), (4, [(some 24, 0), (some 22, 0), (some 23, 0)], []), (6, [(some 23, 0), (none, 2), (some 14, 0)], []), (6, [(some 22, 0), (none, 60), (some 13, 0)], []), (20, [(some 21, 0), (some 20, 0)], [33]), (4, [(some 20, 0), (some 18, 0), (some 19, 0)], []), (6, [(some 19, 0), (none, 2), (some 14, 0)], []), (6, [(some 18, 0), (none, 60), (some 13, 0)], []), (2, [(some 16, 1), (some 17, 0)], []), (20, [(some 17, 0), (some 13, 0)], [32]), (6, [(some 16, 0), (none, 2), (some 14, 0)], []), (143, [(some 14, 0), (some 4, 0), (some 15, 0), (some 13, 0)], [30, 32, 33, 9, 10, 35, 36])], (142, [(some 14, 0), (some 13, 0), (some 4, 0), (some 27, 0), (some 12, 0), (some 12, 0)], [30, 32, 33, 9, 10, 37, 38]))
set_option maxRecDepth 20000 in
theorem v_yo_readC_1_5 {PT : PTy} (hp : HP12 PT) : vcOk PT w_yo_readC_1_5 := vc_of (fun ρ α hB hF => by
  obtain ⟨f0, f1, f2, f3, f4, f5, f6, f7, f8, f9, f10, f11, f12, f13, -⟩ := hF
  have e114 : PT 114 = P_kgA := hp.1.1.1.1.1.1.2.2.2.2.2.2.2.2.1
  have e142 : PT 142 = P_rdY := hp.1.1.1.2.2.2.2.2.2.2.2.1
  have e143 : PT 143 = P_rdYI := hp.1.1.1.2.2.2.2.2.2.2.2.2.1
  simp only [hF2, hF3, hF4, hF6, hF20, hFp_114, hFp_142, hFp_143, e114, e142, e143, P_kgA, P_rdY, P_rdYI, den_s, den_c, Int.add_zero, List.map_cons, List.map_nil] at f0 f1 f2 f3 f4 f5 f6 f7 f8 f9 f10 f11 f12 f13 ⊢
  have b4 : (0 : Int) ≤ ρ 4 ∧ ρ 4 ≤ 8 := hB 4 (0, 8) rfl
  have b12 : (0 : Int) ≤ ρ 12 ∧ ρ 12 ≤ 5 := hB 12 (0, 5) rfl
  have b13 : (0 : Int) ≤ ρ 13 ∧ ρ 13 ≤ 3 := hB 13 (0, 3) rfl
  have b14 : (0 : Int) ≤ ρ 14 ∧ ρ 14 ≤ 30 := hB 14 (0, 30) rfl
  have b15 : (0 : Int) ≤ ρ 15 ∧ ρ 15 ≤ 8 := hB 15 (0, 8) rfl
  have b16 : (0 : Int) ≤ ρ 16 ∧ ρ 16 ≤ 58 := hB 16 (0, 58) rfl
  have b17 : (2 : Int) ≤ ρ 17 ∧ ρ 17 ≤ 60 := hB 17 (2, 60) rfl
  have b18 : (0 : Int) ≤ ρ 18 ∧ ρ 18 ≤ 180 := hB 18 (0, 180) rfl
  have b19 : (0 : Int) ≤ ρ 19 ∧ ρ 19 ≤ 60 := hB 19 (0, 60) rfl
  have b20 : (0 : Int) ≤ ρ 20 ∧ ρ 20 ≤ 239 := hB 20 (0, 239) rfl
  have b21 : ((-2147483648) : Int) ≤ ρ 21 ∧ ρ 21 ≤ 2147483647 := hB 21 ((-2147483648), 2147483647) rfl
  have b22 : (0 : Int) ≤ ρ 22 ∧ ρ 22 ≤ 180 := hB 22 (0, 180) rfl
  have b23 : (0 : Int) ≤ ρ 23 ∧ ρ 23 ≤ 60 := hB 23 (0, 60) rfl
  have b24 : (0 : Int) ≤ ρ 24 ∧ ρ 24 ≤ 238 := hB 24 (0, 238) rfl
  have b25 : ((-2147483648) : Int) ≤ ρ 25 ∧ ρ 25 ≤ 2147483647 := hB 25 ((-2147483648), 2147483647) rfl
  have b26 : ((-4) : Int) ≤ ρ 26 ∧ ρ 26 ≤ 0 := hB 26 ((-4), 0) rfl
  have b27 : (0 : Int) ≤ ρ 27 ∧ ρ 27 ≤ 8 := hB 27 (0, 8) rfl
  clear hB
  generalize ρ 4 = r4, ρ 12 = r12, ρ 13 = r13, ρ 14 = r14, ρ 15 = r15, ρ 16 = r16, ρ 17 = r17, ρ 18 = r18, ρ 19 = r19, ρ 20 = r20, ρ 21 = r21, ρ 22 = r22, ρ 23 = r23, ρ 24 = r24, ρ 25 = r25, ρ 26 = r26, ρ 27 = r27, α 9 = a9, α 10 = a10, α 30 = a30, α 32 = a32, α 33 = a33, α 35 = a35, α 36 = a36, α 37 = a37, α 38 = a38 at *
  subst f2
  subst f3
  subst f4
  subst f5
  subst f6
  subst f7
  subst f8
  subst f9
  subst f11
  subst f12
  obtain ⟨i1, i2, i3, i4⟩ := f13
  first
    | omega
    | exact ⟨fun h => by omega, fun h h' => by omega, fun _ _ => ⟨by first | rfl | trivial, i4, fun h => by have := h.1; omega⟩⟩
    | (obtain ⟨y1, y2, y3⟩ := f1
       rw [show 60 * r13 + 2 * r14 + 1 = 60 * r13 + (2 * r14 + 1) by omega] at y1 y2 y3
       by_cases ok : 0 ≤ a33 (60 * r13 + 2 * r14) ∧ a33 (60 * r13 + 2 * r14) ≤ 23 ∧ 0 ≤ a33 (60 * r13 + (2 * r14 + 1)) ∧ a33 (60 * r13 + (2 * r14 + 1)) ≤ 9
       · by_cases f : r15 < 8
         · obtain ⟨u1, u2, u3, u4⟩ := y2 ok f
           subst u2 u3 u4
           first
             | (exfalso; omega)
             | exact ⟨i1, i2, i3, reI_s i4 (by omega) ok f rfl rfl⟩
         · obtain ⟨u1, u2, u3, u4⟩ := y3 ok (by omega)
           subst u2 u3 u4
           first
             | (exfalso; omega)
             | exact ⟨fun h => by omega, fun h h' => by omega, fun _ _ => ⟨by first | rfl | trivial, i4, fun q => f q.2.2⟩⟩
       · obtain ⟨u1, u2, u3, u4⟩ := y1 ok
         subst u2 u3 u4
         first
           | (exfalso; omega)
           | exact ⟨fun h => by omega, fun h h' => by omega, fun _ _ => ⟨by first | rfl | trivial, i4, fun q => ok q.2.1⟩⟩))
def w_yo_readC_1_6 : VC := ((bY ++ [(0, 3), (0, 30), (0, 8), (0, 58), (2, 60), (0, 180), (0, 60), (0, 239), ((-2147483648), 2147483647), (0, 180), (0, 60), (0, 238), ((-2147483648), 2147483647), (1, 8), (0, 8)]), [(2, [(none, 0), (some 26, 0)], []), (114, [(some 26, 0), (some 21, 0), (some 25, 0), (some 15, 0), (some 27, 0)], [35, 36, 37, 38]), (20, [(some 25, 0), (some 24, 1)], [33]), (4, [(some 24, 0), (some 22, 0), (some 23, 0)], []), (6, [(some 23, 0), (none, 2), (some 14, 0)], []), (6, [(some 22, 0), (none, 60), (some 13, 0)], []), (20, [(some 21, 0), (some 20, 0)], [33]), (4, [(some 20, 0), (some 18, 0), (some 19, 0)], []), (6, [(some 19, 0), (none, 2), (some 14, 0)], []), (6, [(some 18, 0), (none, 60), (some 13, 0)], []), (2, [(some 16, 1), (some 17, 0)], []), (20, [(some 17, 0), (some 13, 0)], [32]), (6, [(some 16, 0), (none, 2), (some 14, 0)], []), (143, [(some 14, 0), (some 4, 0), (some 15, 0), (some 13, 0)], [30, 32, 33, 9, 10, 35, 36])], (3, [(some 14, 1), (none, 0)], []))
set_option maxRecDepth 20000 in
theorem v_yo_readC_1_6 {PT : PTy} (hp : HP12 PT) : vcOk PT w_yo_readC_1_6 := vc_of (fun ρ α hB hF => by
  obtain ⟨f0, f1, f2, f3, f4, f5, f6, f7, f8, f9, f10, f11, f12, f13, -⟩ := hF
  have e114 : PT 114 = P_kgA := hp.1.1.1.1.1.1.2.2.2.2.2.2.2.2.1
  have e143 : PT 143 = P_rdYI := hp.1.1.1.2.2.2.2.2.2.2.2.2.1
  simp only [hF2, hF3, hF4, hF6, hF20, hFp_114, hFp_143, e114, e143, P_kgA, P_rdYI, den_s, den_c, Int.add_zero, List.map_cons, List.map_nil] at f0 f1 f2 f3 f4 f5 f6 f7 f8 f9 f10 f11 f12 f13 ⊢
  have b4 : (0 : Int) ≤ ρ 4 ∧ ρ 4 ≤ 8 := hB 4 (0, 8) rfl
  have b13 : (0 : Int) ≤ ρ 13 ∧ ρ 13 ≤ 3 := hB 13 (0, 3) rfl
  have b14 : (0 : Int) ≤ ρ 14 ∧ ρ 14 ≤ 30 := hB 14 (0, 30) rfl
  have b15 : (0 : Int) ≤ ρ 15 ∧ ρ 15 ≤ 8 := hB 15 (0, 8) rfl
  have b16 : (0 : Int) ≤ ρ 16 ∧ ρ 16 ≤ 58 := hB 16 (0, 58) rfl
  have b17 : (2 : Int) ≤ ρ 17 ∧ ρ 17 ≤ 60 := hB 17 (2, 60) rfl
  have b18 : (0 : Int) ≤ ρ 18 ∧ ρ 18 ≤ 180 := hB 18 (0, 180) rfl
  have b19 : (0 : Int) ≤ ρ 19 ∧ ρ 19 ≤ 60 := hB 19 (0, 60) rfl
  have b20 : (0 : Int) ≤ ρ 20 ∧ ρ 20 ≤ 239 := hB 20 (0, 239) rfl
  have b21 : ((-2147483648) : Int) ≤ ρ 21 ∧ ρ 21 ≤ 2147483647 := hB 21 ((-2147483648), 2147483647) rfl
  have b22 : (0 : Int) ≤ ρ 22 ∧ ρ 22 ≤ 180 := hB 22 (0, 180) rfl
  have b23 : (0 : Int) ≤ ρ 23 ∧ ρ 23 ≤ 60 := hB 23 (0, 60) rfl
  have b24 : (0 : Int) ≤ ρ 24 ∧ ρ 24 ≤ 238 := hB 24 (0, 238) rfl
  have b25 : ((-2147483648) : Int) ≤ ρ 25 ∧ ρ 25 ≤ 2147483647 := hB 25 ((-2147483648), 2147483647) rfl
  have b26 : (1 : Int) ≤ ρ 26 ∧ ρ 26 ≤ 8 := hB 26 (1, 8) rfl
  have b27 : (0 : Int) ≤ ρ 27 ∧ ρ 27 ≤ 8 := hB 27 (0, 8) rfl
  clear hB
  generalize ρ 4 = r4, ρ 13 = r13, ρ 14 = r14, ρ 15 = r15, ρ 16 = r16, ρ 17 = r17, ρ 18 = r18, ρ 19 = r19, ρ 20 = r20, ρ 21 = r21, ρ 22 = r22, ρ 23 = r23, ρ 24 = r24, ρ 25 = r25, ρ 26 = r26, ρ 27 = r27, α 9 = a9, α 10 = a10, α 30 = a30, α 32 = a32, α 33 = a33, α 35 = a35, α 36 = a36, α 37 = a37, α 38 = a38 at *
  subst f2
  subst f3
  subst f4
  subst f5
  subst f6
  subst f7
  subst f8
  subst f9
  subst f11
  subst f12
  obtain ⟨i1, i2, i3, i4⟩ := f13
  first
    | omega
    | exact ⟨fun h => by omega, fun h h' => by omega, fun _ _ => ⟨by first | rfl | trivial, i4, fun h => by have := h.1; omega⟩⟩
    | (obtain ⟨y1, y2, y3⟩ := f1
       rw [show 60 * r13 + 2 * r14 + 1 = 60 * r13 + (2 * r14 + 1) by omega] at y1 y2 y3
       by_cases ok : 0 ≤ a33 (60 * r13 + 2 * r14) ∧ a33 (60 * r13 + 2 * r14) ≤ 23 ∧ 0 ≤ a33 (60 * r13 + (2 * r14 + 1)) ∧ a33 (60 * r13 + (2 * r14 + 1)) ≤ 9
       · by_cases f : r15 < 8
         · obtain ⟨u1, u2, u3, u4⟩ := y2 ok f
           subst u2 u3 u4
           first
             | (exfalso; omega)
             | exact ⟨i1, i2, i3, reI_s i4 (by omega) ok f rfl rfl⟩
         · obtain ⟨u1, u2, u3, u4⟩ := y3 ok (by omega)
           subst u2 u3 u4
           first
             | (exfalso; omega)
             | exact ⟨fun h => by omega, fun h h' => by omega, fun _ _ => ⟨by first | rfl | trivial, i4, fun q => f q.2.2⟩⟩
       · obtain ⟨u1, u2, u3, u4⟩ := y1 ok
         subst u2 u3 u4
         first
           | (exfalso; omega)
           | exact ⟨fun h => by omega, fun h h' => by omega, fun _ _ => ⟨by first | rfl | trivial, i4, fun q => ok q.2.1⟩⟩))
def w_yo_readC_1_7 : VC := ((bY ++ [(0, 3), (0, 30), (0, 8), (0, 58), (2, 60), (0, 180), (0, 60), (0, 239), ((-2147483648), 2147483647), (0, 180), (0, 60), (0, 238), ((-2147483648), 2147483647), (1, 8), (0, 8)]), [(2, [(none, 0), (some 26, 0)], []), (114, [(some 26, 0), (some 21, 0), (some 25, 0), (some 15, 0), (some 27, 0)], [35, 36, 37, 38]), (20, [(some 25, 0), (some 24, 1)], [33]), (4, [(some 24, 0), (some 22, 0), (some 23, 0)], []), (6, [(some 23, 0), (none, 2), (some 14, 0)], []), (6, [(some 22, 0), (none, 60), (some 13, 0)], []), (20, [(some 21, 0), (some 20, 0)], [33]), (4, [(some 20, 0), (some 18, 0), (some 19, 0)], []), (6, [(some 19, 0), (none, 2), (some 14, 0)], []), (6, [(some 18, 0), (none, 60), (some 13, 0)], []), (2, [(some 16, 1), (some 17, 0)], []), (20, [(some 17, 0), (some 13, 0)], [32]), (6, [(some 16, 0), (none, 2), (some 14, 0)], []), (143, [(some 14, 0), (some 4, 0), (some 15, 0), (some 13, 0)], [30, 32, 33, 9, 10, 35, 36])], (3, [(none, 30), (some 14, 1)], []))
set_option maxRecDepth 20000 in
theorem v_yo_readC_1_7 {PT : PTy} (hp : HP12 PT) : vcOk PT w_yo_readC_1_7 := vc_of (fun ρ α hB hF => by
  obtain ⟨f0, f1, f2, f3, f4, f5, f6, f7, f8, f9, f10, f11, f12, f13, -⟩ := hF
  have e114 : PT 114 = P_kgA := hp.1.1.1.1.1.1.2.2.2.2.2.2.2.2.1
  have e143 : PT 143 = P_rdYI := hp.1.1.1.2.2.2.2.2.2.2.2.2.1
  simp only [hF2, hF3, hF4, hF6, hF20, hFp_114, hFp_143, e114, e143, P_kgA, P_rdYI, den_s, den_c, Int.add_zero, List.map_cons, List.map_nil] at f0 f1 f2 f3 f4 f5 f6 f7 f8 f9 f10 f11 f12 f13 ⊢
  have b4 : (0 : Int) ≤ ρ 4 ∧ ρ 4 ≤ 8 := hB 4 (0, 8) rfl
  have b13 : (0 : Int) ≤ ρ 13 ∧ ρ 13 ≤ 3 := hB 13 (0, 3) rfl
  have b14 : (0 : Int) ≤ ρ 14 ∧ ρ 14 ≤ 30 := hB 14 (0, 30) rfl
  have b15 : (0 : Int) ≤ ρ 15 ∧ ρ 15 ≤ 8 := hB 15 (0, 8) rfl
  have b16 : (0 : Int) ≤ ρ 16 ∧ ρ 16 ≤ 58 := hB 16 (0, 58) rfl
  have b17 : (2 : Int) ≤ ρ 17 ∧ ρ 17 ≤ 60 := hB 17 (2, 60) rfl
  have b18 : (0 : Int) ≤ ρ 18 ∧ ρ 18 ≤ 180 := hB 18 (0, 180) rfl
  have b19 : (0 : Int) ≤ ρ 19 ∧ ρ 19 ≤ 60 := hB 19 (0, 60) rfl
  have b20 : (0 : Int) ≤ ρ 20 ∧ ρ 20 ≤ 239 := hB 20 (0, 239) rfl
  have b21 : ((-2147483648) : Int) ≤ ρ 21 ∧ ρ 21 ≤ 2147483647 := hB 21 ((-2147483648), 2147483647) rfl
  have b22 : (0 : Int) ≤ ρ 22 ∧ ρ 22 ≤ 180 := hB 22 (0, 180) rfl
  have b23 : (0 : Int) ≤ ρ 23 ∧ ρ 23 ≤ 60 := hB 23 (0, 60) rfl
  have b24 : (0 : Int) ≤ ρ 24 ∧ ρ 24 ≤ 238 := hB 24 (0, 238) rfl
  have b25 : ((-2147483648) : Int) ≤ ρ 25 ∧ ρ 25 ≤ 2147483647 := hB 25 ((-2147483648), 2147483647) rfl
  have b26 : (1 : Int) ≤ ρ 26 ∧ ρ 26 ≤ 8 := hB 26 (1, 8) rfl
  have b27 : (0 : Int) ≤ ρ 27 ∧ ρ 27 ≤ 8 := hB 27 (0, 8) rfl
  clear hB
  generalize ρ 4 = r4, ρ 13 = r13, ρ 14 = r14, ρ 15 = r15, ρ 16 = r16, ρ 17 = r17, ρ 18 = r18, ρ 19 = r19, ρ 20 = r20, ρ 21 = r21, ρ 22 = r22, ρ 23 = r23, ρ 24 = r24, ρ 25 = r25, ρ 26 = r26, ρ 27 = r27, α 9 = a9, α 10 = a10, α 30 = a30, α 32 = a32, α 33 = a33, α 35 = a35, α 36 = a36, α 37 = a37, α 38 = a38 at *
  subst f2
  subst f3
  subst f4
  subst f5
  subst f6
  subst f7
  subst f8
  subst f9
  subst f11
  subst f12
  obtain ⟨i1, i2, i3, i4⟩ := f13
  first
    | omega
    | exact ⟨fun h => by omega, fun h h' => by omega, fun _ _ => ⟨by first | rfl | trivial, i4, fun h => by have := h.1; omega⟩⟩
    | (obtain ⟨y1, y2, y3⟩ := f1
       rw [show 60 * r13 + 2 * r14 + 1 = 60 * r13 + (2 * r14 + 1) by omega] at y1 y2 y3
       by_cases ok : 0 ≤ a33 (60 * r13 + 2 * r14) ∧ a33 (60 * r13 + 2 * r14) ≤ 23 ∧ 0 ≤ a33 (60 * r13 + (2 * r14 + 1)) ∧ a33 (60 * r13 + (2 * r14 + 1)) ≤ 9
       · by_cases f : r15 < 8
         · obtain ⟨u1, u2, u3, u4⟩ := y2 ok f
           subst u2 u3 u4
           first
             | (exfalso; omega)
             | exact ⟨i1, i2, i3, reI_s i4 (by omega) ok f rfl rfl⟩
         · obtain ⟨u1, u2, u3, u4⟩ := y3 ok (by omega)
           subst u2 u3 u4
           first
             | (exfalso; omega)
             | exact ⟨fun h => by omega, fun h h' => by omega, fun _ _ => ⟨by first | rfl | trivial, i4, fun q => f q.2.2⟩⟩
       · obtain ⟨u1, u2, u3, u4⟩ := y1 ok
         subst u2 u3 u4
         first
           | (exfalso; omega)
           | exact ⟨fun h => by omega, fun h h' => by omega, fun _ _ => ⟨by first | rfl | trivial, i4, fun q => ok q.2.1⟩⟩))
def w_yo_readC_1_8 : VC := ((bY ++ [(0, 3), (0, 30), (0, 8), (0, 58), (2, 60), (0, 180), (0, 60), (0, 239), ((-2147483648), 2147483647), (0, 180), (0, 60), (0, 238), ((-2147483648), 2147483647), (1, 8), (0, 8)]), [(2, [(none, 0), (some 26, 0)], []), (114, [(some 26, 0), (some 21, 0), (some 25, 0), (some 15, 0), (some 27, 0)], [35, 36, 37, 38]), (20, [(some 25, 0), (some 24, 1)], [33]), (4, [(some 24, 0), (some 22, 0), (some 23, 0)], []), (6, [(some 23, 0), (none, 2), (some 14, 0)], []), (6, [(some 22, 0), (none, 60), (some 13, 0)], []), (20, [(some 21, 0), (some 20, 0)], [33]), (4, [(some 20, 0), (some 18, 0), (some 19, 0)], []), (6, [(some 19, 0), (none, 2), (some 14, 0)], []), (6, [(some 18, 0), (none, 60), (some 13, 0)], []), (2, [(some 16, 1), (some 17, 0)], []), (20, [(some 17, 0), (some 13, 0)], [32]), (6, [(some 16, 0), (none, 2), (some 14, 0)], []), (143, [(some 14, 0), (some 4, 0), (some 15, 0), (some 13, 0)], [30, 32, 33, 9, 10, 35, 36])], (143, [(some 14, 1), (some 4, 0), (some 27, 0), (some 13, 0)], [30, 32, 33, 9, 10, 37, 38]))
set_option maxRecDepth 20000 in
theorem v_yo_readC_1_8 {PT : PTy} (hp : HP12 PT) : vcOk PT w_yo_readC_1_8 := vc_of (fun ρ α hB hF => by
  obtain ⟨f0, f1, f2, f3, f4, f5, f6, f7, f8, f9, f10, f11, f12, f13, -⟩ := hF
  have e114 : PT 114 = P_kgA := hp.1.1.1.1.1.1.2.2.2.2.2.2.2.2.1
  have e143 : PT 143 = P_rdYI := hp.1.1.1.2.2.2.2.2.2.2.2.2.1
  simp only [hF2, hF4, hF6, hF20, hFp_114, hFp_143, e114, e143, P_kgA, P_rdYI, den_s, den_c, Int.add_zero, List.map_cons, List.map_nil] at f0 f1 f2 f3 f4 f5 f6 f7 f8 f9 f10 f11 f12 f13 ⊢
  have b4 : (0 : Int) ≤ ρ 4 ∧ ρ 4 ≤ 8 := hB 4 (0, 8) rfl
  have b13 : (0 : Int) ≤ ρ 13 ∧ ρ 13 ≤ 3 := hB 13 (0, 3) rfl
  have b14 : (0 : Int) ≤ ρ 14 ∧ ρ 14 ≤ 30 := hB 14 (0, 30) rfl
  have b15 : (0 : Int) ≤ ρ 15 ∧ ρ 15 ≤ 8 := hB 15 (0, 8) rfl
  have b16 : (0 : Int) ≤ ρ 16 ∧ ρ 16 ≤ 58 := hB 16 (0, 58) rfl
  have b17 : (2 : Int) ≤ ρ 17 ∧ ρ 17 ≤ 60 := hB 17 (2, 60) rfl
  have b18 : (0 : Int) ≤ ρ 18 ∧ ρ 18 ≤ 180 := hB 18 (0, 180) rfl
  have b19 : (0 : Int) ≤ ρ 19 ∧ ρ 19 ≤ 60 := hB 19 (0, 60) rfl
  have b20 : (0 : Int) ≤ ρ 20 ∧ ρ 20 ≤ 239 := hB 20 (0, 239) rfl
  have b21 : ((-2147483648) : Int) ≤ ρ 21 ∧ ρ 21 ≤ 2147483647 := hB 21 ((-2147483648), 2147483647) rfl
  have b22 : (0 : Int) ≤ ρ 22 ∧ ρ 22 ≤ 180 := hB 22 (0, 180) rfl
  have b23 : (0 : Int) ≤ ρ 23 ∧ ρ 23 ≤ 60 := hB 23 (0, 60) rfl
  have b24 : (0 : Int) ≤ ρ 24 ∧ ρ 24 ≤ 238 := hB 24 (0, 238) rfl
  have b25 : ((-2147483648) : Int) ≤ ρ 25 ∧ ρ 25 ≤ 2147483647 := hB 25 ((-2147483648), 2147483647) rfl
  have b26 : (1 : Int) ≤ ρ 26 ∧ ρ 26 ≤ 8 := hB 26 (1, 8) rfl
  have b27 : (0 : Int) ≤ ρ 27 ∧ ρ 27 ≤ 8 := hB 27 (0, 8) rfl
  clear hB
  generalize ρ 4 = r4, ρ 13 = r13, ρ 14 = r14, ρ 15 = r15, ρ 16 = r16, ρ 17 = r17, ρ 18 = r18, ρ 19 = r19, ρ 20 = r20, ρ 21 = r21, ρ 22 = r22, ρ 23 = r23, ρ 24 = r24, ρ 25 = r25, ρ 26 = r26, ρ 27 = r27, α 9 = a9, α 10 = a10, α 30 = a30, α 32 = a32, α 33 = a33, α 35 = a35, α 36 = a36, α 37 = a37, α 38 = a38 at *
  subst f2
  subst f3
  subst f4
  subst f5
  subst f6
  subst f7
  subst f8
  subst f9
  subst f11
  subst f12
  obtain ⟨i1, i2, i3, i4⟩ := f13
  first
    | omega
    | exact ⟨fun h => by omega, fun h h' => by omega, fun _ _ => ⟨by first | rfl | trivial, i4, fun h => by have := h.1; omega⟩⟩
    | (obtain ⟨y1, y2, y3⟩ := f1
       rw [show 60 * r13 + 2 * r14 + 1 = 60 * r13 + (2 * r14 + 1) by omega] at y1 y2 y3
       by_cases ok : 0 ≤ a33 (60 * r13 + 2 * r14) ∧ a33 (60 * r13 + 2 * r14) ≤ 23 ∧ 0 ≤ a33 (60 * r13 + (2 * r14 + 1)) ∧ a33 (60 * r13 + (2 * r14 + 1)) ≤ 9
       · by_cases f : r15 < 8
         · obtain ⟨u1, u2, u3, u4⟩ := y2 ok f
           subst u2 u3 u4
           first
             | (exfalso; omega)
             | exact ⟨i1, i2, i3, reI_s i4 (by omega) ok f rfl rfl⟩
         · obtain ⟨u1, u2, u3, u4⟩ := y3 ok (by omega)
           subst u2 u3 u4
           first
             | (exfalso; omega)
             | exact ⟨fun h => by omega, fun h h' => by omega, fun _ _ => ⟨by first | rfl | trivial, i4, fun q => f q.2.2⟩⟩
       · obtain ⟨u1, u2, u3, u4⟩ := y1 ok
         subst u2 u3 u4
         first
           | (exfalso; omega)
           | exact ⟨fun h => by omega, fun h h' => by omega, fun _ _ => ⟨by first | rfl | trivial, i4, fun q => ok q.2.1⟩⟩))
set_option maxRecDepth 1000000 in
theorem k_yo_readC {PT : PTy} (hp : HP12 PT) : wfX c_yo_readC = true ∧ xcOk PT c_yo_readC := xctr (xl (k_yo_keeping hp.1.1.1.1.1) (xl0)) c_yo_readC 58 mX7_read rfl h_yo_readC (by decide +kernel) (by decide +kernel) (by decide) (vcs_by [w_yo_readC_0_0, w_yo_readC_0_1, w_yo_readC_0_2, w_yo_readC_0_3] (by decide +kernel) (vc (v_yo_readC_0_0 hp) (vc (v_yo_readC_0_1 hp) (vc (v_yo_readC_0_2 hp) (vc (v_yo_readC_0_3 hp) vn))))) (fmc (vcs_by [w_yo_readC_1_0, w_yo_readC_1_1, w_yo_readC_1_2, w_yo_readC_1_3, w_yo_readC_1_4, w_yo_readC_1_5, w_yo_readC_1_6, w_yo_readC_1_7, w_yo_readC_1_8] (by decide +kernel) (vc (v_yo_readC_1_0 hp) (vc (v_yo_readC_1_1 hp) (vc (v_yo_readC_1_2 hp) (vc (v_yo_readC_1_3 hp) (vc (v_yo_readC_1_4 hp) (vc (v_yo_readC_1_5 hp) (vc (v_yo_readC_1_6 hp) (vc (v_yo_readC_1_7 hp) (vc (v_yo_readC_1_8 hp) vn)))))))))) fmn)
