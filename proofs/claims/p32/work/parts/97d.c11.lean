/-! ===== texts and counts alone; printed by wip/gen/x ===== -/
def P_XN (l : List Int) (a : List (Int → Int)) : Prop := match l, a with
  | [n, m, p, q], [A, V] => nP n p A ∧ nV m q V
  | _, _ => False
theorem hFp_146 {PT : PTy} {ρ : Nat → Int} {α : Nat → Int → Int} (l : List AN) (a : List Nat) : hF PT ρ α (146, l, a) = PT 146 (l.map (den ρ)) (a.map α) := rfl
def HP10 (PT : PTy) : Prop := HP9 PT ∧ (PT 146 = P_XN ∧ True)
def c_xn_type : XC := (43, 4, (bT ++ [((-2147483648), 2147483647), ((-2147483648), 2147483647)]), [.inr (.inl 0), .inl (some 14, 0), .inl (some 15, 0)], (gX 999), [(146, [(some 2, 0), (some 3, 0), (some 0, 0), (some 1, 0)], [2, 4])], [((bT ++ [((-2147483648), 2147483647), ((-2147483648), 2147483647), ((-4), 49), (0, 23), (0, 49), (0, 8), (0, 10)]), some (.inl (some 16, 0)), (hst (gX 999) [(1, .inr (.inr (.inr (3, [.inr (.inl 2), .inl (none, 23), .inl (none, 0), .inl (some 17, 0)])))), (3, .inr (.inr (.inr (3, [.inr (.inl 4), .inl (none, 49), .inl (none, 1), .inl (some 18, 0)])))), (6, .inr (.inr (.inr (1, [.inr (.inl 7), .inr (.inl 8), .inl (some 19, 0)])))), (9, .inr (.inr (.inr (5, [.inr (.inl 10), .inr (.inl 11), .inr (.inl 12), .inr (.inl 13), .inl (some 20, 0)]))))]), (ansT 58 [(2, 58), (4, 59), (7, 60), (8, 61), (10, 62), (11, 63), (12, 64), (13, 65)]), 66, [(108, [(some 16, 0), (some 14, 0), (some 15, 0), (some 0, 0), (some 1, 0), (some 17, 0), (some 18, 0)], [2, 4, 58, 59]), (146, [(some 19, 0), (some 20, 0), (some 17, 0), (some 18, 0)], [58, 59])])])
def h_xn_type : List XH := []
def w_xn_type_0_0 : VC := ((bT ++ [((-2147483648), (-1)), ((-2147483648), 2147483647)]), [(0, [(none, 0), (none, 0)], []), (2, [(some 14, 0), (none, 0)], []), (146, [(some 2, 0), (some 3, 0), (some 0, 0), (some 1, 0)], [2, 4])], (108, [(none, (-2)), (some 14, 0), (some 15, 0), (some 0, 0), (some 1, 0), (some 0, 0), (some 1, 0)], [2, 4, 2, 4]))
set_option maxRecDepth 20000 in
theorem v_xn_type_0_0 {PT : PTy} (hp : HP10 PT) : vcOk PT w_xn_type_0_0 := vc_of (fun ρ α hB hF => by
  obtain ⟨f0, f1, f2, -⟩ := hF
  have e108 : PT 108 = P_tyX := hp.1.1.1.1.2.2.1
  have e146 : PT 146 = P_XN := hp.2.1
  simp only [hF0, hF2, hFp_108, hFp_146, e108, e146, P_tyX, P_XN, den_s, den_c, Int.add_zero, List.map_cons, List.map_nil] at f0 f1 f2 ⊢
  have b0 : (0 : Int) ≤ ρ 0 ∧ ρ 0 ≤ 23 := hB 0 (0, 23) rfl
  have b1 : (0 : Int) ≤ ρ 1 ∧ ρ 1 ≤ 49 := hB 1 (0, 49) rfl
  have b2 : (0 : Int) ≤ ρ 2 ∧ ρ 2 ≤ 8 := hB 2 (0, 8) rfl
  have b3 : (0 : Int) ≤ ρ 3 ∧ ρ 3 ≤ 10 := hB 3 (0, 10) rfl
  have b14 : ((-2147483648) : Int) ≤ ρ 14 ∧ ρ 14 ≤ (-1) := hB 14 ((-2147483648), (-1)) rfl
  have b15 : ((-2147483648) : Int) ≤ ρ 15 ∧ ρ 15 ≤ 2147483647 := hB 15 ((-2147483648), 2147483647) rfl
  clear hB
  generalize ρ 0 = r0, ρ 1 = r1, ρ 2 = r2, ρ 3 = r3, ρ 14 = r14, ρ 15 = r15, α 2 = a2, α 4 = a4 at *
  first
    | exact ⟨MISSING, MISSING⟩
    | exact f2
    | ((repeat' (first | apply And.intro | intro h)) <;> first | omega | rfl | trivial | (exfalso; omega)))
def w_xn_type_0_1 : VC := ((bT ++ [(2, 2147483647), ((-2147483648), 2147483647)]), [(0, [(none, 0), (none, 0)], []), (2, [(none, 1), (some 14, 0)], []), (3, [(some 14, 0), (none, 0)], []), (146, [(some 2, 0), (some 3, 0), (some 0, 0), (some 1, 0)], [2, 4])], (108, [(none, (-2)), (some 14, 0), (some 15, 0), (some 0, 0), (some 1, 0), (some 0, 0), (some 1, 0)], [2, 4, 2, 4]))
set_option maxRecDepth 20000 in
theorem v_xn_type_0_1 {PT : PTy} (hp : HP10 PT) : vcOk PT w_xn_type_0_1 := vc_of (fun ρ α hB hF => by
  obtain ⟨f0, f1, f2, f3, -⟩ := hF
  have e108 : PT 108 = P_tyX := hp.1.1.1.1.2.2.1
  have e146 : PT 146 = P_XN := hp.2.1
  simp only [hF0, hF2, hF3, hFp_108, hFp_146, e108, e146, P_tyX, P_XN, den_s, den_c, Int.add_zero, List.map_cons, List.map_nil] at f0 f1 f2 f3 ⊢
  have b0 : (0 : Int) ≤ ρ 0 ∧ ρ 0 ≤ 23 := hB 0 (0, 23) rfl
  have b1 : (0 : Int) ≤ ρ 1 ∧ ρ 1 ≤ 49 := hB 1 (0, 49) rfl
  have b2 : (0 : Int) ≤ ρ 2 ∧ ρ 2 ≤ 8 := hB 2 (0, 8) rfl
  have b3 : (0 : Int) ≤ ρ 3 ∧ ρ 3 ≤ 10 := hB 3 (0, 10) rfl
  have b14 : (2 : Int) ≤ ρ 14 ∧ ρ 14 ≤ 2147483647 := hB 14 (2, 2147483647) rfl
  have b15 : ((-2147483648) : Int) ≤ ρ 15 ∧ ρ 15 ≤ 2147483647 := hB 15 ((-2147483648), 2147483647) rfl
  clear hB
  generalize ρ 0 = r0, ρ 1 = r1, ρ 2 = r2, ρ 3 = r3, ρ 14 = r14, ρ 15 = r15, α 2 = a2, α 4 = a4 at *
  first
    | exact ⟨MISSING, MISSING⟩
    | exact f3
    | ((repeat' (first | apply And.intro | intro h)) <;> first | omega | rfl | trivial | (exfalso; omega)))
def w_xn_type_0_2 : VC := ((bT ++ [(0, 1), ((-2147483648), (-1))]), [(0, [(none, 0), (none, 0)], []), (2, [(some 15, 0), (none, 0)], []), (1, [(none, 1), (none, 0)], []), (3, [(none, 1), (some 14, 0)], []), (3, [(some 14, 0), (none, 0)], []), (146, [(some 2, 0), (some 3, 0), (some 0, 0), (some 1, 0)], [2, 4])], (108, [(none, (-2)), (some 14, 0), (some 15, 0), (some 0, 0), (some 1, 0), (some 0, 0), (some 1, 0)], [2, 4, 2, 4]))
set_option maxRecDepth 20000 in
theorem v_xn_type_0_2 {PT : PTy} (hp : HP10 PT) : vcOk PT w_xn_type_0_2 := vc_of (fun ρ α hB hF => by
  obtain ⟨f0, f1, f2, f3, f4, f5, -⟩ := hF
  have e108 : PT 108 = P_tyX := hp.1.1.1.1.2.2.1
  have e146 : PT 146 = P_XN := hp.2.1
  simp only [hF0, hF1, hF2, hF3, hFp_108, hFp_146, e108, e146, P_tyX, P_XN, den_s, den_c, Int.add_zero, List.map_cons, List.map_nil] at f0 f1 f2 f3 f4 f5 ⊢
  have b0 : (0 : Int) ≤ ρ 0 ∧ ρ 0 ≤ 23 := hB 0 (0, 23) rfl
  have b1 : (0 : Int) ≤ ρ 1 ∧ ρ 1 ≤ 49 := hB 1 (0, 49) rfl
  have b2 : (0 : Int) ≤ ρ 2 ∧ ρ 2 ≤ 8 := hB 2 (0, 8) rfl
  have b3 : (0 : Int) ≤ ρ 3 ∧ ρ 3 ≤ 10 := hB 3 (0, 10) rfl
  have b14 : (0 : Int) ≤ ρ 14 ∧ ρ 14 ≤ 1 := hB 14 (0, 1) rfl
  have b15 : ((-2147483648) : Int) ≤ ρ 15 ∧ ρ 15 ≤ (-1) := hB 15 ((-2147483648), (-1)) rfl
  clear hB
  generalize ρ 0 = r0, ρ 1 = r1, ρ 2 = r2, ρ 3 = r3, ρ 14 = r14, ρ 15 = r15, α 2 = a2, α 4 = a4 at *
  first
    | exact ⟨MISSING, MISSING⟩
    | exact f5
    | ((repeat' (first | apply And.intro | intro h)) <;> first | omega | rfl | trivial | (exfalso; omega)))
def w_xn_type_0_3 : VC := ((bT ++ [(0, 1), (256, 2147483647)]), [(0, [(none, 0), (none, 0)], []), (2, [(none, 255), (some 15, 0)], []), (3, [(some 15, 0), (none, 0)], []), (1, [(none, 1), (none, 0)], []), (3, [(none, 1), (some 14, 0)], []), (3, [(some 14, 0), (none, 0)], []), (146, [(some 2, 0), (some 3, 0), (some 0, 0), (some 1, 0)], [2, 4])], (108, [(none, (-2)), (some 14, 0), (some 15, 0), (some 0, 0), (some 1, 0), (some 0, 0), (some 1, 0)], [2, 4, 2, 4]))
set_option maxRecDepth 20000 in
theorem v_xn_type_0_3 {PT : PTy} (hp : HP10 PT) : vcOk PT w_xn_type_0_3 := vc_of (fun ρ α hB hF => by
  obtain ⟨f0, f1, f2, f3, f4, f5, f6, -⟩ := hF
  have e108 : PT 108 = P_tyX := hp.1.1.1.1.2.2.1
  have e146 : PT 146 = P_XN := hp.2.1
  simp only [hF0, hF1, hF2, hF3, hFp_108, hFp_146, e108, e146, P_tyX, P_XN, den_s, den_c, Int.add_zero, List.map_cons, List.map_nil] at f0 f1 f2 f3 f4 f5 f6 ⊢
  have b0 : (0 : Int) ≤ ρ 0 ∧ ρ 0 ≤ 23 := hB 0 (0, 23) rfl
  have b1 : (0 : Int) ≤ ρ 1 ∧ ρ 1 ≤ 49 := hB 1 (0, 49) rfl
  have b2 : (0 : Int) ≤ ρ 2 ∧ ρ 2 ≤ 8 := hB 2 (0, 8) rfl
  have b3 : (0 : Int) ≤ ρ 3 ∧ ρ 3 ≤ 10 := hB 3 (0, 10) rfl
  have b14 : (0 : Int) ≤ ρ 14 ∧ ρ 14 ≤ 1 := hB 14 (0, 1) rfl
  have b15 : (256 : Int) ≤ ρ 15 ∧ ρ 15 ≤ 2147483647 := hB 15 (256, 2147483647) rfl
  clear hB
  generalize ρ 0 = r0, ρ 1 = r1, ρ 2 = r2, ρ 3 = r3, ρ 14 = r14, ρ 15 = r15, α 2 = a2, α 4 = a4 at *
  first
    | exact ⟨MISSING, MISSING⟩
    | exact f6
    | ((repeat' (first | apply And.intro | intro h)) <;> first | omega | rfl | trivial | (exfalso; omega)))
def w_xn_type_0_4 : VC := (([(0, 23), (0, 48), (0, 8), (0, 10), (0, 8), (0, 6), (0, 6), (0, 8), (0, 9), (0, 49), (0, 49), ((-2147483648), 2147483647), ((-2147483648), 2147483647), (0, 5), (1, 1), (0, 255), (0, 8), (0, 10)]), [(1, [(some 14, 0), (none, 0)], []), (68, [(some 16, 0), (some 0, 0)], [2]), (70, [(some 16, 0)], [2, 59, 60]), (69, [(some 17, 0), (some 1, 1)], [58]), (71, [(some 17, 0)], [58, 61, 62, 63, 64]), (1, [(none, 1), (none, 0)], []), (21, [(some 1, 0), (some 15, 0)], [58, 4]), (2, [(some 1, 0), (none, 49)], []), (1, [(some 14, 0), (none, 0)], []), (1, [(none, 1), (none, 0)], []), (3, [(none, 255), (some 15, 0)], []), (3, [(some 15, 0), (none, 0)], []), (1, [(none, 1), (none, 0)], []), (3, [(none, 1), (some 14, 0)], []), (3, [(some 14, 0), (none, 0)], []), (146, [(some 2, 0), (some 3, 0), (some 0, 0), (some 1, 0)], [2, 4])], (108, [(some 1, 1), (some 14, 0), (some 15, 0), (some 0, 0), (some 1, 0), (some 0, 0), (some 1, 1)], [2, 4, 2, 58]))
set_option maxRecDepth 20000 in
theorem v_xn_type_0_4 {PT : PTy} (hp : HP10 PT) : vcOk PT w_xn_type_0_4 := vc_of (fun ρ α hB hF => by
  obtain ⟨f0, f1, f2, f3, f4, f5, f6, f7, f8, f9, f10, f11, f12, f13, f14, f15, -⟩ := hF
  have e68 : PT 68 = P_nP := hp.1.1.1.1.1.1.1.1.1.2.2.2.2.2.1
  have e69 : PT 69 = P_nV := hp.1.1.1.1.1.1.1.1.1.2.2.2.2.2.2.1
  have e70 : PT 70 = P_tkP := hp.1.1.1.1.1.1.1.1.1.2.2.2.2.2.2.2.1
  have e71 : PT 71 = P_tkV := hp.1.1.1.1.1.1.1.1.1.2.2.2.2.2.2.2.2.1
  have e108 : PT 108 = P_tyX := hp.1.1.1.1.2.2.1
  have e146 : PT 146 = P_XN := hp.2.1
  simp only [hF1, hF2, hF3, hF21, hFp_68, hFp_69, hFp_70, hFp_71, hFp_108, hFp_146, e68, e69, e70, e71, e108, e146, P_nP, P_nV, P_tkP, P_tkV, P_tyX, P_XN, den_s, den_c, Int.add_zero, List.map_cons, List.map_nil] at f0 f1 f2 f3 f4 f5 f6 f7 f8 f9 f10 f11 f12 f13 f14 f15 ⊢
  have b0 : (0 : Int) ≤ ρ 0 ∧ ρ 0 ≤ 23 := hB 0 (0, 23) rfl
  have b1 : (0 : Int) ≤ ρ 1 ∧ ρ 1 ≤ 48 := hB 1 (0, 48) rfl
  have b2 : (0 : Int) ≤ ρ 2 ∧ ρ 2 ≤ 8 := hB 2 (0, 8) rfl
  have b3 : (0 : Int) ≤ ρ 3 ∧ ρ 3 ≤ 10 := hB 3 (0, 10) rfl
  have b14 : (1 : Int) ≤ ρ 14 ∧ ρ 14 ≤ 1 := hB 14 (1, 1) rfl
  have b15 : (0 : Int) ≤ ρ 15 ∧ ρ 15 ≤ 255 := hB 15 (0, 255) rfl
  have b16 : (0 : Int) ≤ ρ 16 ∧ ρ 16 ≤ 8 := hB 16 (0, 8) rfl
  have b17 : (0 : Int) ≤ ρ 17 ∧ ρ 17 ≤ 10 := hB 17 (0, 10) rfl
  clear hB
  generalize ρ 0 = r0, ρ 1 = r1, ρ 2 = r2, ρ 3 = r3, ρ 14 = r14, ρ 15 = r15, ρ 16 = r16, ρ 17 = r17, α 2 = a2, α 4 = a4, α 58 = a58, α 59 = a59, α 60 = a60, α 61 = a61, α 62 = a62, α 63 = a63, α 64 = a64 at *
  subst f6
  first
    | exact ⟨f1, f3⟩
    | exact f15
    | ((repeat' (first | apply And.intro | intro h)) <;> first | omega | rfl | trivial | (exfalso; omega)))
def w_xn_type_0_5 : VC := (([(0, 23), (0, 48), (0, 8), (0, 10), (0, 8), (0, 6), (0, 6), (0, 8), (0, 9), (0, 49), (0, 49), ((-2147483648), 2147483647), ((-2147483648), 2147483647), (0, 5), (1, 1), (0, 255), (0, 8), (0, 10)]), [(1, [(some 14, 0), (none, 0)], []), (68, [(some 16, 0), (some 0, 0)], [2]), (70, [(some 16, 0)], [2, 59, 60]), (69, [(some 17, 0), (some 1, 1)], [58]), (71, [(some 17, 0)], [58, 61, 62, 63, 64]), (1, [(none, 1), (none, 0)], []), (21, [(some 1, 0), (some 15, 0)], [58, 4]), (2, [(some 1, 0), (none, 49)], []), (1, [(some 14, 0), (none, 0)], []), (1, [(none, 1), (none, 0)], []), (3, [(none, 255), (some 15, 0)], []), (3, [(some 15, 0), (none, 0)], []), (1, [(none, 1), (none, 0)], []), (3, [(none, 1), (some 14, 0)], []), (3, [(some 14, 0), (none, 0)], []), (146, [(some 2, 0), (some 3, 0), (some 0, 0), (some 1, 0)], [2, 4])], (146, [(some 16, 0), (some 17, 0), (some 0, 0), (some 1, 1)], [2, 58]))
set_option maxRecDepth 20000 in
theorem v_xn_type_0_5 {PT : PTy} (hp : HP10 PT) : vcOk PT w_xn_type_0_5 := vc_of (fun ρ α hB hF => by
  obtain ⟨f0, f1, f2, f3, f4, f5, f6, f7, f8, f9, f10, f11, f12, f13, f14, f15, -⟩ := hF
  have e68 : PT 68 = P_nP := hp.1.1.1.1.1.1.1.1.1.2.2.2.2.2.1
  have e69 : PT 69 = P_nV := hp.1.1.1.1.1.1.1.1.1.2.2.2.2.2.2.1
  have e70 : PT 70 = P_tkP := hp.1.1.1.1.1.1.1.1.1.2.2.2.2.2.2.2.1
  have e71 : PT 71 = P_tkV := hp.1.1.1.1.1.1.1.1.1.2.2.2.2.2.2.2.2.1
  have e146 : PT 146 = P_XN := hp.2.1
  simp only [hF1, hF2, hF3, hF21, hFp_68, hFp_69, hFp_70, hFp_71, hFp_146, e68, e69, e70, e71, e146, P_nP, P_nV, P_tkP, P_tkV, P_XN, den_s, den_c, Int.add_zero, List.map_cons, List.map_nil] at f0 f1 f2 f3 f4 f5 f6 f7 f8 f9 f10 f11 f12 f13 f14 f15 ⊢
  have b0 : (0 : Int) ≤ ρ 0 ∧ ρ 0 ≤ 23 := hB 0 (0, 23) rfl
  have b1 : (0 : Int) ≤ ρ 1 ∧ ρ 1 ≤ 48 := hB 1 (0, 48) rfl
  have b2 : (0 : Int) ≤ ρ 2 ∧ ρ 2 ≤ 8 := hB 2 (0, 8) rfl
  have b3 : (0 : Int) ≤ ρ 3 ∧ ρ 3 ≤ 10 := hB 3 (0, 10) rfl
  have b14 : (1 : Int) ≤ ρ 14 ∧ ρ 14 ≤ 1 := hB 14 (1, 1) rfl
  have b15 : (0 : Int) ≤ ρ 15 ∧ ρ 15 ≤ 255 := hB 15 (0, 255) rfl
  have b16 : (0 : Int) ≤ ρ 16 ∧ ρ 16 ≤ 8 := hB 16 (0, 8) rfl
  have b17 : (0 : Int) ≤ ρ 17 ∧ ρ 17 ≤ 10 := hB 17 (0, 10) rfl
  clear hB
  generalize ρ 0 = r0, ρ 1 = r1, ρ 2 = r2, ρ 3 = r3, ρ 14 = r14, ρ 15 = r15, ρ 16 = r16, ρ 17 = r17, α 2 = a2, α 4 = a4, α 58 = a58, α 59 = a59, α 60 = a60, α 61 = a61, α 62 = a62, α 63 = a63, α 64 = a64 at *
  subst f6
  first
    | exact ⟨f1, f3⟩
    | exact f15
    | ((repeat' (first | apply And.intro | intro h)) <;> first | omega | rfl | trivial | (exfalso; omega)))
def w_xn_type_0_6 : VC := (([(0, 23), (49, 49), (0, 8), (0, 10), (0, 8), (0, 6), (0, 6), (0, 8), (0, 9), (0, 49), (0, 49), ((-2147483648), 2147483647), ((-2147483648), 2147483647), (0, 5), (1, 1), (0, 255)]), [(0, [(none, 0), (none, 0)], []), (3, [(some 1, 0), (none, 49)], []), (1, [(some 14, 0), (none, 0)], []), (1, [(none, 1), (none, 0)], []), (3, [(none, 255), (some 15, 0)], []), (3, [(some 15, 0), (none, 0)], []), (1, [(none, 1), (none, 0)], []), (3, [(none, 1), (some 14, 0)], []), (3, [(some 14, 0), (none, 0)], []), (146, [(some 2, 0), (some 3, 0), (some 0, 0), (some 1, 0)], [2, 4])], (108, [(none, (-4)), (some 14, 0), (some 15, 0), (some 0, 0), (some 1, 0), (some 0, 0), (some 1, 0)], [2, 4, 2, 4]))
set_option maxRecDepth 20000 in
theorem v_xn_type_0_6 {PT : PTy} (hp : HP10 PT) : vcOk PT w_xn_type_0_6 := vc_of (fun ρ α hB hF => by
  obtain ⟨f0, f1, f2, f3, f4, f5, f6, f7, f8, f9, -⟩ := hF
  have e108 : PT 108 = P_tyX := hp.1.1.1.1.2.2.1
  have e146 : PT 146 = P_XN := hp.2.1
  simp only [hF0, hF1, hF3, hFp_108, hFp_146, e108, e146, P_tyX, P_XN, den_s, den_c, Int.add_zero, List.map_cons, List.map_nil] at f0 f1 f2 f3 f4 f5 f6 f7 f8 f9 ⊢
  have b0 : (0 : Int) ≤ ρ 0 ∧ ρ 0 ≤ 23 := hB 0 (0, 23) rfl
  have b1 : (49 : Int) ≤ ρ 1 ∧ ρ 1 ≤ 49 := hB 1 (49, 49) rfl
  have b2 : (0 : Int) ≤ ρ 2 ∧ ρ 2 ≤ 8 := hB 2 (0, 8) rfl
  have b3 : (0 : Int) ≤ ρ 3 ∧ ρ 3 ≤ 10 := hB 3 (0, 10) rfl
  have b14 : (1 : Int) ≤ ρ 14 ∧ ρ 14 ≤ 1 := hB 14 (1, 1) rfl
  have b15 : (0 : Int) ≤ ρ 15 ∧ ρ 15 ≤ 255 := hB 15 (0, 255) rfl
  clear hB
  generalize ρ 0 = r0, ρ 1 = r1, ρ 2 = r2, ρ 3 = r3, ρ 14 = r14, ρ 15 = r15, α 2 = a2, α 4 = a4 at *
  first
    | exact ⟨MISSING, MISSING⟩
    | exact f9
    | ((repeat' (first | apply And.intro | intro h)) <;> first | omega | rfl | trivial | (exfalso; omega)))
def w_xn_type_0_7 : VC := (([(0, 22), (0, 49), (0, 8), (0, 10), (0, 8), (0, 6), (0, 6), (0, 8), (0, 9), (0, 49), (0, 49), ((-2147483648), 2147483647), ((-2147483648), 2147483647), (0, 5), (0, 0), (0, 255), (0, 8), (0, 10)]), [(0, [(some 14, 0), (none, 0)], []), (68, [(some 16, 0), (some 0, 1)], [58]), (70, [(some 16, 0)], [58, 59, 60]), (69, [(some 17, 0), (some 1, 0)], [4]), (71, [(some 17, 0)], [4, 61, 62, 63, 64]), (1, [(none, 1), (none, 0)], []), (21, [(some 0, 0), (some 15, 0)], [58, 2]), (2, [(some 0, 0), (none, 23)], []), (0, [(some 14, 0), (none, 0)], []), (1, [(none, 1), (none, 0)], []), (3, [(none, 255), (some 15, 0)], []), (3, [(some 15, 0), (none, 0)], []), (1, [(none, 1), (none, 0)], []), (3, [(none, 1), (some 14, 0)], []), (3, [(some 14, 0), (none, 0)], []), (146, [(some 2, 0), (some 3, 0), (some 0, 0), (some 1, 0)], [2, 4])], (108, [(some 0, 1), (some 14, 0), (some 15, 0), (some 0, 0), (some 1, 0), (some 0, 1), (some 1, 0)], [2, 4, 58, 4]))
set_option maxRecDepth 20000 in
theorem v_xn_type_0_7 {PT : PTy} (hp : HP10 PT) : vcOk PT w_xn_type_0_7 := vc_of (fun ρ α hB hF => by
  obtain ⟨f0, f1, f2, f3, f4, f5, f6, f7, f8, f9, f10, f11, f12, f13, f14, f15, -⟩ := hF
  have e68 : PT 68 = P_nP := hp.1.1.1.1.1.1.1.1.1.2.2.2.2.2.1
  have e69 : PT 69 = P_nV := hp.1.1.1.1.1.1.1.1.1.2.2.2.2.2.2.1
  have e70 : PT 70 = P_tkP := hp.1.1.1.1.1.1.1.1.1.2.2.2.2.2.2.2.1
  have e71 : PT 71 = P_tkV := hp.1.1.1.1.1.1.1.1.1.2.2.2.2.2.2.2.2.1
  have e108 : PT 108 = P_tyX := hp.1.1.1.1.2.2.1
  have e146 : PT 146 = P_XN := hp.2.1
  simp only [hF0, hF1, hF2, hF3, hF21, hFp_68, hFp_69, hFp_70, hFp_71, hFp_108, hFp_146, e68, e69, e70, e71, e108, e146, P_nP, P_nV, P_tkP, P_tkV, P_tyX, P_XN, den_s, den_c, Int.add_zero, List.map_cons, List.map_nil] at f0 f1 f2 f3 f4 f5 f6 f7 f8 f9 f10 f11 f12 f13 f14 f15 ⊢
  have b0 : (0 : Int) ≤ ρ 0 ∧ ρ 0 ≤ 22 := hB 0 (0, 22) rfl
  have b1 : (0 : Int) ≤ ρ 1 ∧ ρ 1 ≤ 49 := hB 1 (0, 49) rfl
  have b2 : (0 : Int) ≤ ρ 2 ∧ ρ 2 ≤ 8 := hB 2 (0, 8) rfl
  have b3 : (0 : Int) ≤ ρ 3 ∧ ρ 3 ≤ 10 := hB 3 (0, 10) rfl
  have b14 : (0 : Int) ≤ ρ 14 ∧ ρ 14 ≤ 0 := hB 14 (0, 0) rfl
  have b15 : (0 : Int) ≤ ρ 15 ∧ ρ 15 ≤ 255 := hB 15 (0, 255) rfl
  have b16 : (0 : Int) ≤ ρ 16 ∧ ρ 16 ≤ 8 := hB 16 (0, 8) rfl
  have b17 : (0 : Int) ≤ ρ 17 ∧ ρ 17 ≤ 10 := hB 17 (0, 10) rfl
  clear hB
  generalize ρ 0 = r0, ρ 1 = r1, ρ 2 = r2, ρ 3 = r3, ρ 14 = r14, ρ 15 = r15, ρ 16 = r16, ρ 17 = r17, α 2 = a2, α 4 = a4, α 58 = a58, α 59 = a59, α 60 = a60, α 61 = a61, α 62 = a62, α 63 = a63, α 64 = a64 at *
  subst f6
  first
    | exact ⟨f1, f3⟩
    | exact f15
    | ((repeat' (first | apply And.intro | intro h)) <;> first | omega | rfl | trivial | (exfalso; omega)))
def w_xn_type_0_8 : VC := (([(0, 22), (0, 49), (0, 8), (0, 10), (0, 8), (0, 6), (0, 6), (0, 8), (0, 9), (0, 49), (0, 49), ((-2147483648), 2147483647), ((-2147483648), 2147483647), (0, 5), (0, 0), (0, 255), (0, 8), (0, 10)]), [(0, [(some 14, 0), (none, 0)], []), (68, [(some 16, 0), (some 0, 1)], [58]), (70, [(some 16, 0)], [58, 59, 60]), (69, [(some 17, 0), (some 1, 0)], [4]), (71, [(some 17, 0)], [4, 61, 62, 63, 64]), (1, [(none, 1), (none, 0)], []), (21, [(some 0, 0), (some 15, 0)], [58, 2]), (2, [(some 0, 0), (none, 23)], []), (0, [(some 14, 0), (none, 0)], []), (1, [(none, 1), (none, 0)], []), (3, [(none, 255), (some 15, 0)], []), (3, [(some 15, 0), (none, 0)], []), (1, [(none, 1), (none, 0)], []), (3, [(none, 1), (some 14, 0)], []), (3, [(some 14, 0), (none, 0)], []), (146, [(some 2, 0), (some 3, 0), (some 0, 0), (some 1, 0)], [2, 4])], (146, [(some 16, 0), (some 17, 0), (some 0, 1), (some 1, 0)], [58, 4]))
set_option maxRecDepth 20000 in
theorem v_xn_type_0_8 {PT : PTy} (hp : HP10 PT) : vcOk PT w_xn_type_0_8 := vc_of (fun ρ α hB hF => by
  obtain ⟨f0, f1, f2, f3, f4, f5, f6, f7, f8, f9, f10, f11, f12, f13, f14, f15, -⟩ := hF
  have e68 : PT 68 = P_nP := hp.1.1.1.1.1.1.1.1.1.2.2.2.2.2.1
  have e69 : PT 69 = P_nV := hp.1.1.1.1.1.1.1.1.1.2.2.2.2.2.2.1
  have e70 : PT 70 = P_tkP := hp.1.1.1.1.1.1.1.1.1.2.2.2.2.2.2.2.1
  have e71 : PT 71 = P_tkV := hp.1.1.1.1.1.1.1.1.1.2.2.2.2.2.2.2.2.1
  have e146 : PT 146 = P_XN := hp.2.1
  simp only [hF0, hF1, hF2, hF3, hF21, hFp_68, hFp_69, hFp_70, hFp_71, hFp_146, e68, e69, e70, e71, e146, P_nP, P_nV, P_tkP, P_tkV, P_XN, den_s, den_c, Int.add_zero, List.map_cons, List.map_nil] at f0 f1 f2 f3 f4 f5 f6 f7 f8 f9 f10 f11 f12 f13 f14 f15 ⊢
  have b0 : (0 : Int) ≤ ρ 0 ∧ ρ 0 ≤ 22 := hB 0 (0, 22) rfl
  have b1 : (0 : Int) ≤ ρ 1 ∧ ρ 1 ≤ 49 := hB 1 (0, 49) rfl
  have b2 : (0 : Int) ≤ ρ 2 ∧ ρ 2 ≤ 8 := hB 2 (0, 8) rfl
  have b3 : (0 : Int) ≤ ρ 3 ∧ ρ 3 ≤ 10 := hB 3 (0, 10) rfl
  have b14 : (0 : Int) ≤ ρ 14 ∧ ρ 14 ≤ 0 := hB 14 (0, 0) rfl
  have b15 : (0 : Int) ≤ ρ 15 ∧ ρ 15 ≤ 255 := hB 15 (0, 255) rfl
  have b16 : (0 : Int) ≤ ρ 16 ∧ ρ 16 ≤ 8 := hB 16 (0, 8) rfl
  have b17 : (0 : Int) ≤ ρ 17 ∧ ρ 17 ≤ 10 := hB 17 (0, 10) rfl
  clear hB
  generalize ρ 0 = r0, ρ 1 = r1, ρ 2 = r2, ρ 3 = r3, ρ 14 = r14, ρ 15 = r15, ρ 16 = r16, ρ 17 = r17, α 2 = a2, α 4 = a4, α 58 = a58, α 59 = a59, α 60 = a60, α 61 = a61, α 62 = a62, α 63 = a63, α 64 = a64 at *
  subst f6
  first
    | exact ⟨f1, f3⟩
    | exact f15
    | ((repeat' (first | apply And.intro | intro h)) <;> first | omega | rfl | trivial | (exfalso; omega)))
def w_xn_type_0_9 : VC := (([(23, 23), (0, 49), (0, 8), (0, 10), (0, 8), (0, 6), (0, 6), (0, 8), (0, 9), (0, 49), (0, 49), ((-2147483648), 2147483647), ((-2147483648), 2147483647), (0, 5), (0, 0), (0, 255)]), [(0, [(none, 0), (none, 0)], []), (3, [(some 0, 0), (none, 23)], []), (0, [(some 14, 0), (none, 0)], []), (1, [(none, 1), (none, 0)], []), (3, [(none, 255), (some 15, 0)], []), (3, [(some 15, 0), (none, 0)], []), (1, [(none, 1), (none, 0)], []), (3, [(none, 1), (some 14, 0)], []), (3, [(some 14, 0), (none, 0)], []), (146, [(some 2, 0), (some 3, 0), (some 0, 0), (some 1, 0)], [2, 4])], (108, [(none, (-4)), (some 14, 0), (some 15, 0), (some 0, 0), (some 1, 0), (some 0, 0), (some 1, 0)], [2, 4, 2, 4]))
set_option maxRecDepth 20000 in
theorem v_xn_type_0_9 {PT : PTy} (hp : HP10 PT) : vcOk PT w_xn_type_0_9 := vc_of (fun ρ α hB hF => by
  obtain ⟨f0, f1, f2, f3, f4, f5, f6, f7, f8, f9, -⟩ := hF
  have e108 : PT 108 = P_tyX := hp.1.1.1.1.2.2.1
  have e146 : PT 146 = P_XN := hp.2.1
  simp only [hF0, hF1, hF3, hFp_108, hFp_146, e108, e146, P_tyX, P_XN, den_s, den_c, Int.add_zero, List.map_cons, List.map_nil] at f0 f1 f2 f3 f4 f5 f6 f7 f8 f9 ⊢
  have b0 : (23 : Int) ≤ ρ 0 ∧ ρ 0 ≤ 23 := hB 0 (23, 23) rfl
  have b1 : (0 : Int) ≤ ρ 1 ∧ ρ 1 ≤ 49 := hB 1 (0, 49) rfl
  have b2 : (0 : Int) ≤ ρ 2 ∧ ρ 2 ≤ 8 := hB 2 (0, 8) rfl
  have b3 : (0 : Int) ≤ ρ 3 ∧ ρ 3 ≤ 10 := hB 3 (0, 10) rfl
  have b14 : (0 : Int) ≤ ρ 14 ∧ ρ 14 ≤ 0 := hB 14 (0, 0) rfl
  have b15 : (0 : Int) ≤ ρ 15 ∧ ρ 15 ≤ 255 := hB 15 (0, 255) rfl
  clear hB
  generalize ρ 0 = r0, ρ 1 = r1, ρ 2 = r2, ρ 3 = r3, ρ 14 = r14, ρ 15 = r15, α 2 = a2, α 4 = a4 at *
  first
    | exact ⟨MISSING, MISSING⟩
    | exact f9
    | ((repeat' (first | apply And.intro | intro h)) <;> first | omega | rfl | trivial | (exfalso; omega)))
set_option maxRecDepth 1000000 in
theorem k_xn_type {PT : PTy} (hp : HP10 PT) : wfX c_xn_type = true ∧ xcOk PT c_xn_type := xctr (xl (k_takeTexts hp.1.1.1.1.1.1.1.1.1) (xl0)) c_xn_type 91 mX6_type rfl h_xn_type (by decide +kernel) (by decide +kernel) (by decide) (vcs_by [w_xn_type_0_0, w_xn_type_0_1, w_xn_type_0_2, w_xn_type_0_3, w_xn_type_0_4, w_xn_type_0_5, w_xn_type_0_6, w_xn_type_0_7, w_xn_type_0_8, w_xn_type_0_9] (by decide +kernel) (vc (v_xn_type_0_0 hp) (vc (v_xn_type_0_1 hp) (vc (v_xn_type_0_2 hp) (vc (v_xn_type_0_3 hp) (vc (v_xn_type_0_4 hp) (vc (v_xn_type_0_5 hp) (vc (v_xn_type_0_6 hp) (vc (v_xn_type_0_7 hp) (vc (v_xn_type_0_8 hp) (vc (v_xn_type_0_9 hp) vn))))))))))) fmn
def c_xn_wipe : XC := (44, 4, (bT ++ [((-2147483648), 2147483647)]), [.inr (.inl 0), .inl (some 14, 0)], (gX 999), [(146, [(some 2, 0), (some 3, 0), (some 0, 0), (some 1, 0)], [2, 4])], [((bT ++ [((-2147483648), 2147483647), ((-2), 49), (0, 23), (0, 49), (0, 8), (0, 10)]), some (.inl (some 15, 0)), (hst (gX 999) [(1, .inr (.inr (.inr (3, [.inr (.inl 2), .inl (none, 23), .inl (none, 0), .inl (some 16, 0)])))), (3, .inr (.inr (.inr (3, [.inr (.inl 4), .inl (none, 49), .inl (none, 1), .inl (some 17, 0)])))), (6, .inr (.inr (.inr (1, [.inr (.inl 7), .inr (.inl 8), .inl (some 18, 0)])))), (9, .inr (.inr (.inr (5, [.inr (.inl 10), .inr (.inl 11), .inr (.inl 12), .inr (.inl 13), .inl (some 19, 0)]))))]), (ansT 58 [(7, 58), (8, 59), (10, 60), (11, 61), (12, 62), (13, 63)]), 64, [(109, [(some 15, 0), (some 14, 0), (some 0, 0), (some 1, 0), (some 16, 0), (some 17, 0)], []), (146, [(some 18, 0), (some 19, 0), (some 16, 0), (some 17, 0)], [2, 4])])])
def h_xn_wipe : List XH := []
def w_xn_wipe_0_0 : VC := ((bT ++ [((-2147483648), (-1))]), [(0, [(none, 0), (none, 0)], []), (2, [(some 14, 0), (none, 0)], []), (146, [(some 2, 0), (some 3, 0), (some 0, 0), (some 1, 0)], [2, 4])], (109, [(none, (-2)), (some 14, 0), (some 0, 0), (some 1, 0), (some 0, 0), (some 1, 0)], []))
set_option maxRecDepth 20000 in
theorem v_xn_wipe_0_0 {PT : PTy} (hp : HP10 PT) : vcOk PT w_xn_wipe_0_0 := vc_of (fun ρ α hB hF => by
  obtain ⟨f0, f1, f2, -⟩ := hF
  have e109 : PT 109 = P_wiX := hp.1.1.1.1.2.2.2.1
  have e146 : PT 146 = P_XN := hp.2.1
  simp only [hF0, hF2, hFp_109, hFp_146, e109, e146, P_wiX, P_XN, den_s, den_c, Int.add_zero, List.map_cons, List.map_nil] at f0 f1 f2 ⊢
  have b0 : (0 : Int) ≤ ρ 0 ∧ ρ 0 ≤ 23 := hB 0 (0, 23) rfl
  have b1 : (0 : Int) ≤ ρ 1 ∧ ρ 1 ≤ 49 := hB 1 (0, 49) rfl
  have b2 : (0 : Int) ≤ ρ 2 ∧ ρ 2 ≤ 8 := hB 2 (0, 8) rfl
  have b3 : (0 : Int) ≤ ρ 3 ∧ ρ 3 ≤ 10 := hB 3 (0, 10) rfl
  have b14 : ((-2147483648) : Int) ≤ ρ 14 ∧ ρ 14 ≤ (-1) := hB 14 ((-2147483648), (-1)) rfl
  clear hB
  generalize ρ 0 = r0, ρ 1 = r1, ρ 2 = r2, ρ 3 = r3, ρ 14 = r14, α 2 = a2, α 4 = a4 at *
  first
    | exact ⟨MISSING, MISSING⟩
    | exact f2
    | ((repeat' (first | apply And.intro | intro h)) <;> first | omega | rfl | trivial | (exfalso; omega)))
def w_xn_wipe_0_1 : VC := ((bT ++ [(2, 2147483647)]), [(0, [(none, 0), (none, 0)], []), (2, [(none, 1), (some 14, 0)], []), (3, [(some 14, 0), (none, 0)], []), (146, [(some 2, 0), (some 3, 0), (some 0, 0), (some 1, 0)], [2, 4])], (109, [(none, (-2)), (some 14, 0), (some 0, 0), (some 1, 0), (some 0, 0), (some 1, 0)], []))
set_option maxRecDepth 20000 in
theorem v_xn_wipe_0_1 {PT : PTy} (hp : HP10 PT) : vcOk PT w_xn_wipe_0_1 := vc_of (fun ρ α hB hF => by
  obtain ⟨f0, f1, f2, f3, -⟩ := hF
  have e109 : PT 109 = P_wiX := hp.1.1.1.1.2.2.2.1
  have e146 : PT 146 = P_XN := hp.2.1
  simp only [hF0, hF2, hF3, hFp_109, hFp_146, e109, e146, P_wiX, P_XN, den_s, den_c, Int.add_zero, List.map_cons, List.map_nil] at f0 f1 f2 f3 ⊢
  have b0 : (0 : Int) ≤ ρ 0 ∧ ρ 0 ≤ 23 := hB 0 (0, 23) rfl
  have b1 : (0 : Int) ≤ ρ 1 ∧ ρ 1 ≤ 49 := hB 1 (0, 49) rfl
  have b2 : (0 : Int) ≤ ρ 2 ∧ ρ 2 ≤ 8 := hB 2 (0, 8) rfl
  have b3 : (0 : Int) ≤ ρ 3 ∧ ρ 3 ≤ 10 := hB 3 (0, 10) rfl
  have b14 : (2 : Int) ≤ ρ 14 ∧ ρ 14 ≤ 2147483647 := hB 14 (2, 2147483647) rfl
  clear hB
  generalize ρ 0 = r0, ρ 1 = r1, ρ 2 = r2, ρ 3 = r3, ρ 14 = r14, α 2 = a2, α 4 = a4 at *
  first
    | exact ⟨MISSING, MISSING⟩
    | exact f3
    | ((repeat' (first | apply And.intro | intro h)) <;> first | omega | rfl | trivial | (exfalso; omega)))
def w_xn_wipe_0_2 : VC := ((bT ++ [(1, 1), (0, 8), (0, 10)]), [(68, [(some 15, 0), (some 0, 0)], [2]), (70, [(some 15, 0)], [2, 58, 59]), (69, [(some 16, 0), (none, 0)], [4]), (71, [(some 16, 0)], [4, 60, 61, 62, 63]), (1, [(some 14, 0), (none, 0)], []), (1, [(some 14, 0), (none, 0)], []), (1, [(none, 1), (none, 0)], []), (3, [(none, 1), (some 14, 0)], []), (3, [(some 14, 0), (none, 0)], []), (146, [(some 2, 0), (some 3, 0), (some 0, 0), (some 1, 0)], [2, 4])], (109, [(some 1, 0), (some 14, 0), (some 0, 0), (some 1, 0), (some 0, 0), (none, 0)], []))
set_option maxRecDepth 20000 in
theorem v_xn_wipe_0_2 {PT : PTy} (hp : HP10 PT) : vcOk PT w_xn_wipe_0_2 := vc_of (fun ρ α hB hF => by
  obtain ⟨f0, f1, f2, f3, f4, f5, f6, f7, f8, f9, -⟩ := hF
  have e68 : PT 68 = P_nP := hp.1.1.1.1.1.1.1.1.1.2.2.2.2.2.1
  have e69 : PT 69 = P_nV := hp.1.1.1.1.1.1.1.1.1.2.2.2.2.2.2.1
  have e70 : PT 70 = P_tkP := hp.1.1.1.1.1.1.1.1.1.2.2.2.2.2.2.2.1
  have e71 : PT 71 = P_tkV := hp.1.1.1.1.1.1.1.1.1.2.2.2.2.2.2.2.2.1
  have e109 : PT 109 = P_wiX := hp.1.1.1.1.2.2.2.1
  have e146 : PT 146 = P_XN := hp.2.1
  simp only [hF1, hF3, hFp_68, hFp_69, hFp_70, hFp_71, hFp_109, hFp_146, e68, e69, e70, e71, e109, e146, P_nP, P_nV, P_tkP, P_tkV, P_wiX, P_XN, den_s, den_c, Int.add_zero, List.map_cons, List.map_nil] at f0 f1 f2 f3 f4 f5 f6 f7 f8 f9 ⊢
  have b0 : (0 : Int) ≤ ρ 0 ∧ ρ 0 ≤ 23 := hB 0 (0, 23) rfl
  have b1 : (0 : Int) ≤ ρ 1 ∧ ρ 1 ≤ 49 := hB 1 (0, 49) rfl
  have b2 : (0 : Int) ≤ ρ 2 ∧ ρ 2 ≤ 8 := hB 2 (0, 8) rfl
  have b3 : (0 : Int) ≤ ρ 3 ∧ ρ 3 ≤ 10 := hB 3 (0, 10) rfl
  have b14 : (1 : Int) ≤ ρ 14 ∧ ρ 14 ≤ 1 := hB 14 (1, 1) rfl
  have b15 : (0 : Int) ≤ ρ 15 ∧ ρ 15 ≤ 8 := hB 15 (0, 8) rfl
  have b16 : (0 : Int) ≤ ρ 16 ∧ ρ 16 ≤ 10 := hB 16 (0, 10) rfl
  clear hB
  generalize ρ 0 = r0, ρ 1 = r1, ρ 2 = r2, ρ 3 = r3, ρ 14 = r14, ρ 15 = r15, ρ 16 = r16, α 2 = a2, α 4 = a4, α 58 = a58, α 59 = a59, α 60 = a60, α 61 = a61, α 62 = a62, α 63 = a63 at *
  first
    | exact ⟨f0, f2⟩
    | exact f9
    | ((repeat' (first | apply And.intro | intro h)) <;> first | omega | rfl | trivial | (exfalso; omega)))
def w_xn_wipe_0_3 : VC := ((bT ++ [(1, 1), (0, 8), (0, 10)]), [(68, [(some 15, 0), (some 0, 0)], [2]), (70, [(some 15, 0)], [2, 58, 59]), (69, [(some 16, 0), (none, 0)], [4]), (71, [(some 16, 0)], [4, 60, 61, 62, 63]), (1, [(some 14, 0), (none, 0)], []), (1, [(some 14, 0), (none, 0)], []), (1, [(none, 1), (none, 0)], []), (3, [(none, 1), (some 14, 0)], []), (3, [(some 14, 0), (none, 0)], []), (146, [(some 2, 0), (some 3, 0), (some 0, 0), (some 1, 0)], [2, 4])], (146, [(some 15, 0), (some 16, 0), (some 0, 0), (none, 0)], [2, 4]))
set_option maxRecDepth 20000 in
theorem v_xn_wipe_0_3 {PT : PTy} (hp : HP10 PT) : vcOk PT w_xn_wipe_0_3 := vc_of (fun ρ α hB hF => by
  obtain ⟨f0, f1, f2, f3, f4, f5, f6, f7, f8, f9, -⟩ := hF
  have e68 : PT 68 = P_nP := hp.1.1.1.1.1.1.1.1.1.2.2.2.2.2.1
  have e69 : PT 69 = P_nV := hp.1.1.1.1.1.1.1.1.1.2.2.2.2.2.2.1
  have e70 : PT 70 = P_tkP := hp.1.1.1.1.1.1.1.1.1.2.2.2.2.2.2.2.1
  have e71 : PT 71 = P_tkV := hp.1.1.1.1.1.1.1.1.1.2.2.2.2.2.2.2.2.1
  have e146 : PT 146 = P_XN := hp.2.1
  simp only [hF1, hF3, hFp_68, hFp_69, hFp_70, hFp_71, hFp_146, e68, e69, e70, e71, e146, P_nP, P_nV, P_tkP, P_tkV, P_XN, den_s, den_c, Int.add_zero, List.map_cons, List.map_nil] at f0 f1 f2 f3 f4 f5 f6 f7 f8 f9 ⊢
  have b0 : (0 : Int) ≤ ρ 0 ∧ ρ 0 ≤ 23 := hB 0 (0, 23) rfl
  have b1 : (0 : Int) ≤ ρ 1 ∧ ρ 1 ≤ 49 := hB 1 (0, 49) rfl
  have b2 : (0 : Int) ≤ ρ 2 ∧ ρ 2 ≤ 8 := hB 2 (0, 8) rfl
  have b3 : (0 : Int) ≤ ρ 3 ∧ ρ 3 ≤ 10 := hB 3 (0, 10) rfl
  have b14 : (1 : Int) ≤ ρ 14 ∧ ρ 14 ≤ 1 := hB 14 (1, 1) rfl
  have b15 : (0 : Int) ≤ ρ 15 ∧ ρ 15 ≤ 8 := hB 15 (0, 8) rfl
  have b16 : (0 : Int) ≤ ρ 16 ∧ ρ 16 ≤ 10 := hB 16 (0, 10) rfl
  clear hB
  generalize ρ 0 = r0, ρ 1 = r1, ρ 2 = r2, ρ 3 = r3, ρ 14 = r14, ρ 15 = r15, ρ 16 = r16, α 2 = a2, α 4 = a4, α 58 = a58, α 59 = a59, α 60 = a60, α 61 = a61, α 62 = a62, α 63 = a63 at *
  first
    | exact ⟨f0, f2⟩
    | exact f9
    | ((repeat' (first | apply And.intro | intro h)) <;> first | omega | rfl | trivial | (exfalso; omega)))
def w_xn_wipe_0_4 : VC := ((bT ++ [(0, 0), (0, 8), (0, 10)]), [(68, [(some 15, 0), (none, 0)], [2]), (70, [(some 15, 0)], [2, 58, 59]), (69, [(some 16, 0), (some 1, 0)], [4]), (71, [(some 16, 0)], [4, 60, 61, 62, 63]), (0, [(some 14, 0), (none, 0)], []), (0, [(some 14, 0), (none, 0)], []), (1, [(none, 1), (none, 0)], []), (3, [(none, 1), (some 14, 0)], []), (3, [(some 14, 0), (none, 0)], []), (146, [(some 2, 0), (some 3, 0), (some 0, 0), (some 1, 0)], [2, 4])], (109, [(some 0, 0), (some 14, 0), (some 0, 0), (some 1, 0), (none, 0), (some 1, 0)], []))
set_option maxRecDepth 20000 in
theorem v_xn_wipe_0_4 {PT : PTy} (hp : HP10 PT) : vcOk PT w_xn_wipe_0_4 := vc_of (fun ρ α hB hF => by
  obtain ⟨f0, f1, f2, f3, f4, f5, f6, f7, f8, f9, -⟩ := hF
  have e68 : PT 68 = P_nP := hp.1.1.1.1.1.1.1.1.1.2.2.2.2.2.1
  have e69 : PT 69 = P_nV := hp.1.1.1.1.1.1.1.1.1.2.2.2.2.2.2.1
  have e70 : PT 70 = P_tkP := hp.1.1.1.1.1.1.1.1.1.2.2.2.2.2.2.2.1
  have e71 : PT 71 = P_tkV := hp.1.1.1.1.1.1.1.1.1.2.2.2.2.2.2.2.2.1
  have e109 : PT 109 = P_wiX := hp.1.1.1.1.2.2.2.1
  have e146 : PT 146 = P_XN := hp.2.1
  simp only [hF0, hF1, hF3, hFp_68, hFp_69, hFp_70, hFp_71, hFp_109, hFp_146, e68, e69, e70, e71, e109, e146, P_nP, P_nV, P_tkP, P_tkV, P_wiX, P_XN, den_s, den_c, Int.add_zero, List.map_cons, List.map_nil] at f0 f1 f2 f3 f4 f5 f6 f7 f8 f9 ⊢
  have b0 : (0 : Int) ≤ ρ 0 ∧ ρ 0 ≤ 23 := hB 0 (0, 23) rfl
  have b1 : (0 : Int) ≤ ρ 1 ∧ ρ 1 ≤ 49 := hB 1 (0, 49) rfl
  have b2 : (0 : Int) ≤ ρ 2 ∧ ρ 2 ≤ 8 := hB 2 (0, 8) rfl
  have b3 : (0 : Int) ≤ ρ 3 ∧ ρ 3 ≤ 10 := hB 3 (0, 10) rfl
  have b14 : (0 : Int) ≤ ρ 14 ∧ ρ 14 ≤ 0 := hB 14 (0, 0) rfl
  have b15 : (0 : Int) ≤ ρ 15 ∧ ρ 15 ≤ 8 := hB 15 (0, 8) rfl
  have b16 : (0 : Int) ≤ ρ 16 ∧ ρ 16 ≤ 10 := hB 16 (0, 10) rfl
  clear hB
  generalize ρ 0 = r0, ρ 1 = r1, ρ 2 = r2, ρ 3 = r3, ρ 14 = r14, ρ 15 = r15, ρ 16 = r16, α 2 = a2, α 4 = a4, α 58 = a58, α 59 = a59, α 60 = a60, α 61 = a61, α 62 = a62, α 63 = a63 at *
  first
    | exact ⟨f0, f2⟩
    | exact f9
    | ((repeat' (first | apply And.intro | intro h)) <;> first | omega | rfl | trivial | (exfalso; omega)))
def w_xn_wipe_0_5 : VC := ((bT ++ [(0, 0), (0, 8), (0, 10)]), [(68, [(some 15, 0), (none, 0)], [2]), (70, [(some 15, 0)], [2, 58, 59]), (69, [(some 16, 0), (some 1, 0)], [4]), (71, [(some 16, 0)], [4, 60, 61, 62, 63]), (0, [(some 14, 0), (none, 0)], []), (0, [(some 14, 0), (none, 0)], []), (1, [(none, 1), (none, 0)], []), (3, [(none, 1), (some 14, 0)], []), (3, [(some 14, 0), (none, 0)], []), (146, [(some 2, 0), (some 3, 0), (some 0, 0), (some 1, 0)], [2, 4])], (146, [(some 15, 0), (some 16, 0), (none, 0), (some 1, 0)], [2, 4]))
set_option maxRecDepth 20000 in
theorem v_xn_wipe_0_5 {PT : PTy} (hp : HP10 PT) : vcOk PT w_xn_wipe_0_5 := vc_of (fun ρ α hB hF => by
  obtain ⟨f0, f1, f2, f3, f4, f5, f6, f7, f8, f9, -⟩ := hF
  have e68 : PT 68 = P_nP := hp.1.1.1.1.1.1.1.1.1.2.2.2.2.2.1
  have e69 : PT 69 = P_nV := hp.1.1.1.1.1.1.1.1.1.2.2.2.2.2.2.1
  have e70 : PT 70 = P_tkP := hp.1.1.1.1.1.1.1.1.1.2.2.2.2.2.2.2.1
  have e71 : PT 71 = P_tkV := hp.1.1.1.1.1.1.1.1.1.2.2.2.2.2.2.2.2.1
  have e146 : PT 146 = P_XN := hp.2.1
  simp only [hF0, hF1, hF3, hFp_68, hFp_69, hFp_70, hFp_71, hFp_146, e68, e69, e70, e71, e146, P_nP, P_nV, P_tkP, P_tkV, P_XN, den_s, den_c, Int.add_zero, List.map_cons, List.map_nil] at f0 f1 f2 f3 f4 f5 f6 f7 f8 f9 ⊢
  have b0 : (0 : Int) ≤ ρ 0 ∧ ρ 0 ≤ 23 := hB 0 (0, 23) rfl
  have b1 : (0 : Int) ≤ ρ 1 ∧ ρ 1 ≤ 49 := hB 1 (0, 49) rfl
  have b2 : (0 : Int) ≤ ρ 2 ∧ ρ 2 ≤ 8 := hB 2 (0, 8) rfl
  have b3 : (0 : Int) ≤ ρ 3 ∧ ρ 3 ≤ 10 := hB 3 (0, 10) rfl
  have b14 : (0 : Int) ≤ ρ 14 ∧ ρ 14 ≤ 0 := hB 14 (0, 0) rfl
  have b15 : (0 : Int) ≤ ρ 15 ∧ ρ 15 ≤ 8 := hB 15 (0, 8) rfl
  have b16 : (0 : Int) ≤ ρ 16 ∧ ρ 16 ≤ 10 := hB 16 (0, 10) rfl
  clear hB
  generalize ρ 0 = r0, ρ 1 = r1, ρ 2 = r2, ρ 3 = r3, ρ 14 = r14, ρ 15 = r15, ρ 16 = r16, α 2 = a2, α 4 = a4, α 58 = a58, α 59 = a59, α 60 = a60, α 61 = a61, α 62 = a62, α 63 = a63 at *
  first
    | exact ⟨f0, f2⟩
    | exact f9
    | ((repeat' (first | apply And.intro | intro h)) <;> first | omega | rfl | trivial | (exfalso; omega)))
set_option maxRecDepth 1000000 in
theorem k_xn_wipe {PT : PTy} (hp : HP10 PT) : wfX c_xn_wipe = true ∧ xcOk PT c_xn_wipe := xctr (xl (k_takeTexts hp.1.1.1.1.1.1.1.1.1) (xl0)) c_xn_wipe 61 mX6_wipe rfl h_xn_wipe (by decide +kernel) (by decide +kernel) (by decide) (vcs_by [w_xn_wipe_0_0, w_xn_wipe_0_1, w_xn_wipe_0_2, w_xn_wipe_0_3, w_xn_wipe_0_4, w_xn_wipe_0_5] (by decide +kernel) (vc (v_xn_wipe_0_0 hp) (vc (v_xn_wipe_0_1 hp) (vc (v_xn_wipe_0_2 hp) (vc (v_xn_wipe_0_3 hp) (vc (v_xn_wipe_0_4 hp) (vc (v_xn_wipe_0_5 hp) vn))))))) fmn
def c_xn_undo : XC := (45, 4, (bT ++ [((-2147483648), 2147483647)]), [.inr (.inl 0), .inl (some 14, 0)], (gX 999), [(146, [(some 2, 0), (some 3, 0), (some 0, 0), (some 1, 0)], [2, 4])], [((bT ++ [((-2147483648), 2147483647), ((-3), 48), (0, 23), (0, 49), (0, 8), (0, 10)]), some (.inl (some 15, 0)), (hst (gX 999) [(1, .inr (.inr (.inr (3, [.inr (.inl 2), .inl (none, 23), .inl (none, 0), .inl (some 16, 0)])))), (3, .inr (.inr (.inr (3, [.inr (.inl 4), .inl (none, 49), .inl (none, 1), .inl (some 17, 0)])))), (6, .inr (.inr (.inr (1, [.inr (.inl 7), .inr (.inl 8), .inl (some 18, 0)])))), (9, .inr (.inr (.inr (5, [.inr (.inl 10), .inr (.inl 11), .inr (.inl 12), .inr (.inl 13), .inl (some 19, 0)]))))]), (ansT 58 [(7, 58), (8, 59), (10, 60), (11, 61), (12, 62), (13, 63)]), 64, [(110, [(some 15, 0), (some 14, 0), (some 0, 0), (some 1, 0), (some 16, 0), (some 17, 0)], []), (146, [(some 18, 0), (some 19, 0), (some 16, 0), (some 17, 0)], [2, 4])])])
def h_xn_undo : List XH := []
def w_xn_undo_0_0 : VC := ((bT ++ [((-2147483648), (-1))]), [(0, [(none, 0), (none, 0)], []), (2, [(some 14, 0), (none, 0)], []), (146, [(some 2, 0), (some 3, 0), (some 0, 0), (some 1, 0)], [2, 4])], (110, [(none, (-2)), (some 14, 0), (some 0, 0), (some 1, 0), (some 0, 0), (some 1, 0)], []))
set_option maxRecDepth 20000 in
theorem v_xn_undo_0_0 {PT : PTy} (hp : HP10 PT) : vcOk PT w_xn_undo_0_0 := vc_of (fun ρ α hB hF => by
  obtain ⟨f0, f1, f2, -⟩ := hF
  have e110 : PT 110 = P_unX := hp.1.1.1.1.2.2.2.2.1
  have e146 : PT 146 = P_XN := hp.2.1
  simp only [hF0, hF2, hFp_110, hFp_146, e110, e146, P_unX, P_XN, den_s, den_c, Int.add_zero, List.map_cons, List.map_nil] at f0 f1 f2 ⊢
  have b0 : (0 : Int) ≤ ρ 0 ∧ ρ 0 ≤ 23 := hB 0 (0, 23) rfl
  have b1 : (0 : Int) ≤ ρ 1 ∧ ρ 1 ≤ 49 := hB 1 (0, 49) rfl
  have b2 : (0 : Int) ≤ ρ 2 ∧ ρ 2 ≤ 8 := hB 2 (0, 8) rfl
  have b3 : (0 : Int) ≤ ρ 3 ∧ ρ 3 ≤ 10 := hB 3 (0, 10) rfl
  have b14 : ((-2147483648) : Int) ≤ ρ 14 ∧ ρ 14 ≤ (-1) := hB 14 ((-2147483648), (-1)) rfl
  clear hB
  generalize ρ 0 = r0, ρ 1 = r1, ρ 2 = r2, ρ 3 = r3, ρ 14 = r14, α 2 = a2, α 4 = a4 at *
  first
    | exact ⟨MISSING, MISSING⟩
    | exact f2
    | ((repeat' (first | apply And.intro | intro h)) <;> first | omega | rfl | trivial | (exfalso; omega)))
def w_xn_undo_0_1 : VC := ((bT ++ [(2, 2147483647)]), [(0, [(none, 0), (none, 0)], []), (2, [(none, 1), (some 14, 0)], []), (3, [(some 14, 0), (none, 0)], []), (146, [(some 2, 0), (some 3, 0), (some 0, 0), (some 1, 0)], [2, 4])], (110, [(none, (-2)), (some 14, 0), (some 0, 0), (some 1, 0), (some 0, 0), (some 1, 0)], []))
set_option maxRecDepth 20000 in
theorem v_xn_undo_0_1 {PT : PTy} (hp : HP10 PT) : vcOk PT w_xn_undo_0_1 := vc_of (fun ρ α hB hF => by
  obtain ⟨f0, f1, f2, f3, -⟩ := hF
  have e110 : PT 110 = P_unX := hp.1.1.1.1.2.2.2.2.1
  have e146 : PT 146 = P_XN := hp.2.1
  simp only [hF0, hF2, hF3, hFp_110, hFp_146, e110, e146, P_unX, P_XN, den_s, den_c, Int.add_zero, List.map_cons, List.map_nil] at f0 f1 f2 f3 ⊢
  have b0 : (0 : Int) ≤ ρ 0 ∧ ρ 0 ≤ 23 := hB 0 (0, 23) rfl
  have b1 : (0 : Int) ≤ ρ 1 ∧ ρ 1 ≤ 49 := hB 1 (0, 49) rfl
  have b2 : (0 : Int) ≤ ρ 2 ∧ ρ 2 ≤ 8 := hB 2 (0, 8) rfl
  have b3 : (0 : Int) ≤ ρ 3 ∧ ρ 3 ≤ 10 := hB 3 (0, 10) rfl
  have b14 : (2 : Int) ≤ ρ 14 ∧ ρ 14 ≤ 2147483647 := hB 14 (2, 2147483647) rfl
  clear hB
  generalize ρ 0 = r0, ρ 1 = r1, ρ 2 = r2, ρ 3 = r3, ρ 14 = r14, α 2 = a2, α 4 = a4 at *
  first
    | exact ⟨MISSING, MISSING⟩
    | exact f3
    | ((repeat' (first | apply And.intro | intro h)) <;> first | omega | rfl | trivial | (exfalso; omega)))
def w_xn_undo_0_2 : VC := (([(0, 23), (1, 49), (0, 8), (0, 10), (0, 8), (0, 6), (0, 6), (0, 8), (0, 9), (0, 49), (0, 49), ((-2147483648), 2147483647), ((-2147483648), 2147483647), (0, 5), (1, 1), (0, 8), (0, 10)]), [(1, [(some 14, 0), (none, 0)], []), (68, [(some 15, 0), (some 0, 0)], [2]), (70, [(some 15, 0)], [2, 58, 59]), (69, [(some 16, 0), (some 1, (-1))], [4]), (71, [(some 16, 0)], [4, 60, 61, 62, 63]), (1, [(some 14, 0), (none, 0)], []), (1, [(some 1, 0), (none, 0)], []), (1, [(some 14, 0), (none, 0)], []), (1, [(none, 1), (none, 0)], []), (3, [(none, 1), (some 14, 0)], []), (3, [(some 14, 0), (none, 0)], []), (146, [(some 2, 0), (some 3, 0), (some 0, 0), (some 1, 0)], [2, 4])], (110, [(some 1, (-1)), (some 14, 0), (some 0, 0), (some 1, 0), (some 0, 0), (some 1, (-1))], []))
set_option maxRecDepth 20000 in
theorem v_xn_undo_0_2 {PT : PTy} (hp : HP10 PT) : vcOk PT w_xn_undo_0_2 := vc_of (fun ρ α hB hF => by
  obtain ⟨f0, f1, f2, f3, f4, f5, f6, f7, f8, f9, f10, f11, -⟩ := hF
  have e68 : PT 68 = P_nP := hp.1.1.1.1.1.1.1.1.1.2.2.2.2.2.1
  have e69 : PT 69 = P_nV := hp.1.1.1.1.1.1.1.1.1.2.2.2.2.2.2.1
  have e70 : PT 70 = P_tkP := hp.1.1.1.1.1.1.1.1.1.2.2.2.2.2.2.2.1
  have e71 : PT 71 = P_tkV := hp.1.1.1.1.1.1.1.1.1.2.2.2.2.2.2.2.2.1
  have e110 : PT 110 = P_unX := hp.1.1.1.1.2.2.2.2.1
  have e146 : PT 146 = P_XN := hp.2.1
  simp only [hF1, hF3, hFp_68, hFp_69, hFp_70, hFp_71, hFp_110, hFp_146, e68, e69, e70, e71, e110, e146, P_nP, P_nV, P_tkP, P_tkV, P_unX, P_XN, den_s, den_c, Int.add_zero, List.map_cons, List.map_nil] at f0 f1 f2 f3 f4 f5 f6 f7 f8 f9 f10 f11 ⊢
  have b0 : (0 : Int) ≤ ρ 0 ∧ ρ 0 ≤ 23 := hB 0 (0, 23) rfl
  have b1 : (1 : Int) ≤ ρ 1 ∧ ρ 1 ≤ 49 := hB 1 (1, 49) rfl
  have b2 : (0 : Int) ≤ ρ 2 ∧ ρ 2 ≤ 8 := hB 2 (0, 8) rfl
  have b3 : (0 : Int) ≤ ρ 3 ∧ ρ 3 ≤ 10 := hB 3 (0, 10) rfl
  have b14 : (1 : Int) ≤ ρ 14 ∧ ρ 14 ≤ 1 := hB 14 (1, 1) rfl
  have b15 : (0 : Int) ≤ ρ 15 ∧ ρ 15 ≤ 8 := hB 15 (0, 8) rfl
  have b16 : (0 : Int) ≤ ρ 16 ∧ ρ 16 ≤ 10 := hB 16 (0, 10) rfl
  clear hB
  generalize ρ 0 = r0, ρ 1 = r1, ρ 2 = r2, ρ 3 = r3, ρ 14 = r14, ρ 15 = r15, ρ 16 = r16, α 2 = a2, α 4 = a4, α 58 = a58, α 59 = a59, α 60 = a60, α 61 = a61, α 62 = a62, α 63 = a63 at *
  first
    | exact ⟨f1, f3⟩
    | exact f11
    | ((repeat' (first | apply And.intro | intro h)) <;> first | omega | rfl | trivial | (exfalso; omega)))
def w_xn_undo_0_3 : VC := (([(0, 23), (1, 49), (0, 8), (0, 10), (0, 8), (0, 6), (0, 6), (0, 8), (0, 9), (0, 49), (0, 49), ((-2147483648), 2147483647), ((-2147483648), 2147483647), (0, 5), (1, 1), (0, 8), (0, 10)]), [(1, [(some 14, 0), (none, 0)], []), (68, [(some 15, 0), (some 0, 0)], [2]), (70, [(some 15, 0)], [2, 58, 59]), (69, [(some 16, 0), (some 1, (-1))], [4]), (71, [(some 16, 0)], [4, 60, 61, 62, 63]), (1, [(some 14, 0), (none, 0)], []), (1, [(some 1, 0), (none, 0)], []), (1, [(some 14, 0), (none, 0)], []), (1, [(none, 1), (none, 0)], []), (3, [(none, 1), (some 14, 0)], []), (3, [(some 14, 0), (none, 0)], []), (146, [(some 2, 0), (some 3, 0), (some 0, 0), (some 1, 0)], [2, 4])], (146, [(some 15, 0), (some 16, 0), (some 0, 0), (some 1, (-1))], [2, 4]))
set_option maxRecDepth 20000 in
theorem v_xn_undo_0_3 {PT : PTy} (hp : HP10 PT) : vcOk PT w_xn_undo_0_3 := vc_of (fun ρ α hB hF => by
  obtain ⟨f0, f1, f2, f3, f4, f5, f6, f7, f8, f9, f10, f11, -⟩ := hF
  have e68 : PT 68 = P_nP := hp.1.1.1.1.1.1.1.1.1.2.2.2.2.2.1
  have e69 : PT 69 = P_nV := hp.1.1.1.1.1.1.1.1.1.2.2.2.2.2.2.1
  have e70 : PT 70 = P_tkP := hp.1.1.1.1.1.1.1.1.1.2.2.2.2.2.2.2.1
  have e71 : PT 71 = P_tkV := hp.1.1.1.1.1.1.1.1.1.2.2.2.2.2.2.2.2.1
  have e146 : PT 146 = P_XN := hp.2.1
  simp only [hF1, hF3, hFp_68, hFp_69, hFp_70, hFp_71, hFp_146, e68, e69, e70, e71, e146, P_nP, P_nV, P_tkP, P_tkV, P_XN, den_s, den_c, Int.add_zero, List.map_cons, List.map_nil] at f0 f1 f2 f3 f4 f5 f6 f7 f8 f9 f10 f11 ⊢
  have b0 : (0 : Int) ≤ ρ 0 ∧ ρ 0 ≤ 23 := hB 0 (0, 23) rfl
  have b1 : (1 : Int) ≤ ρ 1 ∧ ρ 1 ≤ 49 := hB 1 (1, 49) rfl
  have b2 : (0 : Int) ≤ ρ 2 ∧ ρ 2 ≤ 8 := hB 2 (0, 8) rfl
  have b3 : (0 : Int) ≤ ρ 3 ∧ ρ 3 ≤ 10 := hB 3 (0, 10) rfl
  have b14 : (1 : Int) ≤ ρ 14 ∧ ρ 14 ≤ 1 := hB 14 (1, 1) rfl
  have b15 : (0 : Int) ≤ ρ 15 ∧ ρ 15 ≤ 8 := hB 15 (0, 8) rfl
  have b16 : (0 : Int) ≤ ρ 16 ∧ ρ 16 ≤ 10 := hB 16 (0, 10) rfl
  clear hB
  generalize ρ 0 = r0, ρ 1 = r1, ρ 2 = r2, ρ 3 = r3, ρ 14 = r14, ρ 15 = r15, ρ 16 = r16, α 2 = a2, α 4 = a4, α 58 = a58, α 59 = a59, α 60 = a60, α 61 = a61, α 62 = a62, α 63 = a63 at *
  first
    | exact ⟨f1, f3⟩
    | exact f11
    | ((repeat' (first | apply And.intro | intro h)) <;> first | omega | rfl | trivial | (exfalso; omega)))
def w_xn_undo_0_4 : VC := (([(0, 23), (0, 0), (0, 8), (0, 10), (0, 8), (0, 6), (0, 6), (0, 8), (0, 9), (0, 49), (0, 49), ((-2147483648), 2147483647), ((-2147483648), 2147483647), (0, 5), (1, 1)]), [(0, [(some 1, 0), (none, 0)], []), (1, [(some 14, 0), (none, 0)], []), (1, [(none, 1), (none, 0)], []), (3, [(none, 1), (some 14, 0)], []), (3, [(some 14, 0), (none, 0)], []), (146, [(some 2, 0), (some 3, 0), (some 0, 0), (some 1, 0)], [2, 4])], (110, [(none, (-3)), (some 14, 0), (some 0, 0), (some 1, 0), (some 0, 0), (some 1, 0)], []))
set_option maxRecDepth 20000 in
theorem v_xn_undo_0_4 {PT : PTy} (hp : HP10 PT) : vcOk PT w_xn_undo_0_4 := vc_of (fun ρ α hB hF => by
  obtain ⟨f0, f1, f2, f3, f4, f5, -⟩ := hF
  have e110 : PT 110 = P_unX := hp.1.1.1.1.2.2.2.2.1
  have e146 : PT 146 = P_XN := hp.2.1
  simp only [hF0, hF1, hF3, hFp_110, hFp_146, e110, e146, P_unX, P_XN, den_s, den_c, Int.add_zero, List.map_cons, List.map_nil] at f0 f1 f2 f3 f4 f5 ⊢
  have b0 : (0 : Int) ≤ ρ 0 ∧ ρ 0 ≤ 23 := hB 0 (0, 23) rfl
  have b1 : (0 : Int) ≤ ρ 1 ∧ ρ 1 ≤ 0 := hB 1 (0, 0) rfl
  have b2 : (0 : Int) ≤ ρ 2 ∧ ρ 2 ≤ 8 := hB 2 (0, 8) rfl
  have b3 : (0 : Int) ≤ ρ 3 ∧ ρ 3 ≤ 10 := hB 3 (0, 10) rfl
  have b14 : (1 : Int) ≤ ρ 14 ∧ ρ 14 ≤ 1 := hB 14 (1, 1) rfl
  clear hB
  generalize ρ 0 = r0, ρ 1 = r1, ρ 2 = r2, ρ 3 = r3, ρ 14 = r14, α 2 = a2, α 4 = a4 at *
  first
    | exact ⟨MISSING, MISSING⟩
    | exact f5
    | ((repeat' (first | apply And.intro | intro h)) <;> first | omega | rfl | trivial | (exfalso; omega)))
def w_xn_undo_0_5 : VC := (([(1, 23), (0, 49), (0, 8), (0, 10), (0, 8), (0, 6), (0, 6), (0, 8), (0, 9), (0, 49), (0, 49), ((-2147483648), 2147483647), ((-2147483648), 2147483647), (0, 5), (0, 0), (0, 8), (0, 10)]), [(0, [(some 14, 0), (none, 0)], []), (68, [(some 15, 0), (some 0, (-1))], [2]), (70, [(some 15, 0)], [2, 58, 59]), (69, [(some 16, 0), (some 1, 0)], [4]), (71, [(some 16, 0)], [4, 60, 61, 62, 63]), (0, [(some 14, 0), (none, 0)], []), (1, [(some 0, 0), (none, 0)], []), (0, [(some 14, 0), (none, 0)], []), (1, [(none, 1), (none, 0)], []), (3, [(none, 1), (some 14, 0)], []), (3, [(some 14, 0), (none, 0)], []), (146, [(some 2, 0), (some 3, 0), (some 0, 0), (some 1, 0)], [2, 4])], (110, [(some 0, (-1)), (some 14, 0), (some 0, 0), (some 1, 0), (some 0, (-1)), (some 1, 0)], []))
set_option maxRecDepth 20000 in
theorem v_xn_undo_0_5 {PT : PTy} (hp : HP10 PT) : vcOk PT w_xn_undo_0_5 := vc_of (fun ρ α hB hF => by
  obtain ⟨f0, f1, f2, f3, f4, f5, f6, f7, f8, f9, f10, f11, -⟩ := hF
  have e68 : PT 68 = P_nP := hp.1.1.1.1.1.1.1.1.1.2.2.2.2.2.1
  have e69 : PT 69 = P_nV := hp.1.1.1.1.1.1.1.1.1.2.2.2.2.2.2.1
  have e70 : PT 70 = P_tkP := hp.1.1.1.1.1.1.1.1.1.2.2.2.2.2.2.2.1
  have e71 : PT 71 = P_tkV := hp.1.1.1.1.1.1.1.1.1.2.2.2.2.2.2.2.2.1
  have e110 : PT 110 = P_unX := hp.1.1.1.1.2.2.2.2.1
  have e146 : PT 146 = P_XN := hp.2.1
  simp only [hF0, hF1, hF3, hFp_68, hFp_69, hFp_70, hFp_71, hFp_110, hFp_146, e68, e69, e70, e71, e110, e146, P_nP, P_nV, P_tkP, P_tkV, P_unX, P_XN, den_s, den_c, Int.add_zero, List.map_cons, List.map_nil] at f0 f1 f2 f3 f4 f5 f6 f7 f8 f9 f10 f11 ⊢
  have b0 : (1 : Int) ≤ ρ 0 ∧ ρ 0 ≤ 23 := hB 0 (1, 23) rfl
  have b1 : (0 : Int) ≤ ρ 1 ∧ ρ 1 ≤ 49 := hB 1 (0, 49) rfl
  have b2 : (0 : Int) ≤ ρ 2 ∧ ρ 2 ≤ 8 := hB 2 (0, 8) rfl
  have b3 : (0 : Int) ≤ ρ 3 ∧ ρ 3 ≤ 10 := hB 3 (0, 10) rfl
  have b14 : (0 : Int) ≤ ρ 14 ∧ ρ 14 ≤ 0 := hB 14 (0, 0) rfl
  have b15 : (0 : Int) ≤ ρ 15 ∧ ρ 15 ≤ 8 := hB 15 (0, 8) rfl
  have b16 : (0 : Int) ≤ ρ 16 ∧ ρ 16 ≤ 10 := hB 16 (0, 10) rfl
  clear hB
  generalize ρ 0 = r0, ρ 1 = r1, ρ 2 = r2, ρ 3 = r3, ρ 14 = r14, ρ 15 = r15, ρ 16 = r16, α 2 = a2, α 4 = a4, α 58 = a58, α 59 = a59, α 60 = a60, α 61 = a61, α 62 = a62, α 63 = a63 at *
  first
    | exact ⟨f1, f3⟩
    | exact f11
    | ((repeat' (first | apply And.intro | intro h)) <;> first | omega | rfl | trivial | (exfalso; omega)))
def w_xn_undo_0_6 : VC := (([(1, 23), (0, 49), (0, 8), (0, 10), (0, 8), (0, 6), (0, 6), (0, 8), (0, 9), (0, 49), (0, 49), ((-2147483648), 2147483647), ((-2147483648), 2147483647), (0, 5), (0, 0), (0, 8), (0, 10)]), [(0, [(some 14, 0), (none, 0)], []), (68, [(some 15, 0), (some 0, (-1))], [2]), (70, [(some 15, 0)], [2, 58, 59]), (69, [(some 16, 0), (some 1, 0)], [4]), (71, [(some 16, 0)], [4, 60, 61, 62, 63]), (0, [(some 14, 0), (none, 0)], []), (1, [(some 0, 0), (none, 0)], []), (0, [(some 14, 0), (none, 0)], []), (1, [(none, 1), (none, 0)], []), (3, [(none, 1), (some 14, 0)], []), (3, [(some 14, 0), (none, 0)], []), (146, [(some 2, 0), (some 3, 0), (some 0, 0), (some 1, 0)], [2, 4])], (146, [(some 15, 0), (some 16, 0), (some 0, (-1)), (some 1, 0)], [2, 4]))
set_option maxRecDepth 20000 in
theorem v_xn_undo_0_6 {PT : PTy} (hp : HP10 PT) : vcOk PT w_xn_undo_0_6 := vc_of (fun ρ α hB hF => by
  obtain ⟨f0, f1, f2, f3, f4, f5, f6, f7, f8, f9, f10, f11, -⟩ := hF
  have e68 : PT 68 = P_nP := hp.1.1.1.1.1.1.1.1.1.2.2.2.2.2.1
  have e69 : PT 69 = P_nV := hp.1.1.1.1.1.1.1.1.1.2.2.2.2.2.2.1
  have e70 : PT 70 = P_tkP := hp.1.1.1.1.1.1.1.1.1.2.2.2.2.2.2.2.1
  have e71 : PT 71 = P_tkV := hp.1.1.1.1.1.1.1.1.1.2.2.2.2.2.2.2.2.1
  have e146 : PT 146 = P_XN := hp.2.1
  simp only [hF0, hF1, hF3, hFp_68, hFp_69, hFp_70, hFp_71, hFp_146, e68, e69, e70, e71, e146, P_nP, P_nV, P_tkP, P_tkV, P_XN, den_s, den_c, Int.add_zero, List.map_cons, List.map_nil] at f0 f1 f2 f3 f4 f5 f6 f7 f8 f9 f10 f11 ⊢
  have b0 : (1 : Int) ≤ ρ 0 ∧ ρ 0 ≤ 23 := hB 0 (1, 23) rfl
  have b1 : (0 : Int) ≤ ρ 1 ∧ ρ 1 ≤ 49 := hB 1 (0, 49) rfl
  have b2 : (0 : Int) ≤ ρ 2 ∧ ρ 2 ≤ 8 := hB 2 (0, 8) rfl
  have b3 : (0 : Int) ≤ ρ 3 ∧ ρ 3 ≤ 10 := hB 3 (0, 10) rfl
  have b14 : (0 : Int) ≤ ρ 14 ∧ ρ 14 ≤ 0 := hB 14 (0, 0) rfl
  have b15 : (0 : Int) ≤ ρ 15 ∧ ρ 15 ≤ 8 := hB 15 (0, 8) rfl
  have b16 : (0 : Int) ≤ ρ 16 ∧ ρ 16 ≤ 10 := hB 16 (0, 10) rfl
  clear hB
  generalize ρ 0 = r0, ρ 1 = r1, ρ 2 = r2, ρ 3 = r3, ρ 14 = r14, ρ 15 = r15, ρ 16 = r16, α 2 = a2, α 4 = a4, α 58 = a58, α 59 = a59, α 60 = a60, α 61 = a61, α 62 = a62, α 63 = a63 at *
  first
    | exact ⟨f1, f3⟩
    | exact f11
    | ((repeat' (first | apply And.intro | intro h)) <;> first | omega | rfl | trivial | (exfalso; omega)))
def w_xn_undo_0_7 : VC := (([(0, 0), (0, 49), (0, 8), (0, 10), (0, 8), (0, 6), (0, 6), (0, 8), (0, 9), (0, 49), (0, 49), ((-2147483648), 2147483647), ((-2147483648), 2147483647), (0, 5), (0, 0)]), [(0, [(some 0, 0), (none, 0)], []), (0, [(some 14, 0), (none, 0)], []), (1, [(none, 1), (none, 0)], []), (3, [(none, 1), (some 14, 0)], []), (3, [(some 14, 0), (none, 0)], []), (146, [(some 2, 0), (some 3, 0), (some 0, 0), (some 1, 0)], [2, 4])], (110, [(none, (-3)), (some 14, 0), (some 0, 0), (some 1, 0), (some 0, 0), (some 1, 0)], []))
set_option maxRecDepth 20000 in
theorem v_xn_undo_0_7 {PT : PTy} (hp : HP10 PT) : vcOk PT w_xn_undo_0_7 := vc_of (fun ρ α hB hF => by
  obtain ⟨f0, f1, f2, f3, f4, f5, -⟩ := hF
  have e110 : PT 110 = P_unX := hp.1.1.1.1.2.2.2.2.1
  have e146 : PT 146 = P_XN := hp.2.1
  simp only [hF0, hF1, hF3, hFp_110, hFp_146, e110, e146, P_unX, P_XN, den_s, den_c, Int.add_zero, List.map_cons, List.map_nil] at f0 f1 f2 f3 f4 f5 ⊢
  have b0 : (0 : Int) ≤ ρ 0 ∧ ρ 0 ≤ 0 := hB 0 (0, 0) rfl
  have b1 : (0 : Int) ≤ ρ 1 ∧ ρ 1 ≤ 49 := hB 1 (0, 49) rfl
  have b2 : (0 : Int) ≤ ρ 2 ∧ ρ 2 ≤ 8 := hB 2 (0, 8) rfl
  have b3 : (0 : Int) ≤ ρ 3 ∧ ρ 3 ≤ 10 := hB 3 (0, 10) rfl
  have b14 : (0 : Int) ≤ ρ 14 ∧ ρ 14 ≤ 0 := hB 14 (0, 0) rfl
  clear hB
  generalize ρ 0 = r0, ρ 1 = r1, ρ 2 = r2, ρ 3 = r3, ρ 14 = r14, α 2 = a2, α 4 = a4 at *
  first
    | exact ⟨MISSING, MISSING⟩
    | exact f5
    | ((repeat' (first | apply And.intro | intro h)) <;> first | omega | rfl | trivial | (exfalso; omega)))
set_option maxRecDepth 1000000 in
theorem k_xn_undo {PT : PTy} (hp : HP10 PT) : wfX c_xn_undo = true ∧ xcOk PT c_xn_undo := xctr (xl (k_takeTexts hp.1.1.1.1.1.1.1.1.1) (xl0)) c_xn_undo 73 mX6_undo rfl h_xn_undo (by decide +kernel) (by decide +kernel) (by decide) (vcs_by [w_xn_undo_0_0, w_xn_undo_0_1, w_xn_undo_0_2, w_xn_undo_0_3, w_xn_undo_0_4, w_xn_undo_0_5, w_xn_undo_0_6, w_xn_undo_0_7] (by decide +kernel) (vc (v_xn_undo_0_0 hp) (vc (v_xn_undo_0_1 hp) (vc (v_xn_undo_0_2 hp) (vc (v_xn_undo_0_3 hp) (vc (v_xn_undo_0_4 hp) (vc (v_xn_undo_0_5 hp) (vc (v_xn_undo_0_6 hp) (vc (v_xn_undo_0_7 hp) vn))))))))) fmn
