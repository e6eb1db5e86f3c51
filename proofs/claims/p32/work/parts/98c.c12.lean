/-! ===== write: its answer; printed by wip/gen/x ===== -/
def P_wrX (l : List Int) (a : List (Int → Int)) : Prop := match l, a with
  | [r, k, s, n], [L, M] => (¬ (0 ≤ k ∧ k < n ∧ 0 ≤ s ∧ s ≤ 3) → r = -2) ∧ (0 ≤ k ∧ k < n ∧ 0 ≤ s ∧ s ≤ 3 → M s = -1 → r = -11) ∧ (0 ≤ k ∧ k < n ∧ 0 ≤ s ∧ s ≤ 3 → ¬ M s = -1 → L s ≤ 24 → r = L s) ∧ (0 ≤ k ∧ k < n ∧ 0 ≤ s ∧ s ≤ 3 → ¬ M s = -1 → 24 ≤ L s → r = 24)
  | _, _ => False
theorem hFp_147 {PT : PTy} {ρ : Nat → Int} {α : Nat → Int → Int} (l : List AN) (a : List Nat) : hF PT ρ α (147, l, a) = PT 147 (l.map (den ρ)) (a.map α) := rfl
def P_wrY (l : List Int) (a : List (Int → Int)) : Prop := match l, a with
  | [r, k, s], [L, T, I, N] => ∃ n, nP n (L 0) T ∧ (¬ (0 ≤ k ∧ k < n ∧ 0 ≤ s ∧ s ≤ 3) → r = -2) ∧ (0 ≤ k ∧ k < n ∧ 0 ≤ s ∧ s ≤ 3 → I s = 0 → r = -11) ∧ (0 ≤ k ∧ k < n ∧ 0 ≤ s ∧ s ≤ 3 → ¬ I s = 0 → N s ≤ 24 → r = N s) ∧ (0 ≤ k ∧ k < n ∧ 0 ≤ s ∧ s ≤ 3 → ¬ I s = 0 → 24 ≤ N s → r = 24)
  | _, _ => False
theorem hFp_148 {PT : PTy} {ρ : Nat → Int} {α : Nat → Int → Int} (l : List AN) (a : List Nat) : hF PT ρ α (148, l, a) = PT 148 (l.map (den ρ)) (a.map α) := rfl
def P_wrI (l : List Int) (a : List (Int → Int)) : Prop := match l, a with
  | [i, k, s], [L, T, I, N] => ∃ n, nP n (L 0) T ∧ 0 ≤ k ∧ k < n ∧ 0 ≤ s ∧ s ≤ 3 ∧ ¬ I s = 0 ∧ (0 < i → i ≤ N s)
  | _, _ => False
theorem hFp_149 {PT : PTy} {ρ : Nat → Int} {α : Nat → Int → Int} (l : List AN) (a : List Nat) : hF PT ρ α (149, l, a) = PT 149 (l.map (den ρ)) (a.map α) := rfl
def HP11 (PT : PTy) : Prop := HP10 PT ∧ (PT 147 = P_wrX ∧ PT 148 = P_wrY ∧ PT 149 = P_wrI ∧ True)
def c_xo_write : XC := (77, 3, (bT ++ [((-2147483648), 2147483647), ((-2147483648), 2147483647)]), [.inr (.inl 0), .inl (some 14, 0), .inl (some 15, 0)], (gX 999), [], [((bT ++ [((-2147483648), 2147483647), ((-2147483648), 2147483647), ((-11), 24), (0, 5), (0, 49), (0, 49), ((-2147483648), 2147483647), ((-2147483648), 2147483647)]), some (.inl (some 16, 0)), (hst (gX 999) [(0, .inr (.inr (.inr (6, [.inr (.inl 1), .inr (.inl 3), .inr (.inl 5), .inr (.inl 6), .inr (.inl 9), .inr (.inl 14), .inr (.inl 18), .inr (.inl 22), .inr (.inl 31), .inr (.inl 35), .inr (.inl 39), .inr (.inl 47), .inl (some 17, 0)])))), (5, .inr (.inr (.inr (0, [.inr (.inl 6), .inr (.inl 9), .inr (.inl 14), .inr (.inl 18), .inr (.inl 22), .inr (.inl 26), .inr (.inl 27), .inr (.inl 28), .inr (.inl 29), .inr (.inl 30), .inl (some 18, 0), .inl (some 19, 0), .inl (some 20, 0), .inl (some 21, 0), .inr (.inl 999)]))))]), (ansT 58 [(26, 58), (27, 59), (28, 60), (29, 61), (30, 62), (41, 63), (42, 64), (43, 65), (44, 66)]), 67, [(147, [(some 16, 0), (some 14, 0), (some 15, 0), (some 2, 0)], [45, 46])])])
def h_xo_write : List XH := [(74, ([(0, 23), (0, 49), (1, 8), (0, 10), (0, 8), (0, 6), (0, 6), (0, 8), (0, 9), (0, 49), (0, 49), ((-2147483648), 2147483647), ((-2147483648), 2147483647), (0, 5), (0, 7), (0, 3), (0, 24), (0, 24), (0, 49), (0, 49)]), [some (.inr (.inl 0)), some (.inl (some 14, 0)), some (.inl (some 15, 0)), some (.inl (some 16, 0)), some (.inl (some 17, 0))], (hst (gX 14) [(5, .inr (.inr (.inr (0, [.inr (.inl 6), .inr (.inl 9), .inr (.inl 14), .inr (.inl 18), .inr (.inl 22), .inr (.inl 26), .inr (.inl 27), .inr (.inl 28), .inr (.inl 29), .inr (.inl 30), .inl (some 18, 0), .inl (some 19, 0), .inl (none, 0), .inl (none, 0), .inr (.inl 14)]))))]), (ansT 58 [(26, 58), (27, 59), (28, 60), (29, 61), (30, 62), (41, 63), (42, 64), (43, 65), (44, 66)]), 67, [(87, [(some 18, 0)], [58, 59]), (147, [(some 16, 0), (some 14, 0), (some 15, 0), (some 2, 0)], [45, 46])], [(true, (none, 1)), (true, (some 17, 0))])]
def w_xo_write_0_0 : VC := ((bT ++ [((-2147483648), (-1)), ((-2147483648), 2147483647)]), [(0, [(none, 0), (none, 0)], []), (2, [(some 14, 0), (none, 0)], [])], (147, [(none, (-2)), (some 14, 0), (some 15, 0), (some 2, 0)], [45, 46]))
set_option maxRecDepth 20000 in
theorem v_xo_write_0_0 {PT : PTy} (hp : HP11 PT) : vcOk PT w_xo_write_0_0 := vc_of (fun ρ α hB hF => by
  obtain ⟨f0, f1, -⟩ := hF
  have e147 : PT 147 = P_wrX := hp.2.1
  simp only [hF0, hF2, hFp_147, e147, P_wrX, den_s, den_c, Int.add_zero, List.map_cons, List.map_nil] at f0 f1 ⊢
  have b2 : (0 : Int) ≤ ρ 2 ∧ ρ 2 ≤ 8 := hB 2 (0, 8) rfl
  have b14 : ((-2147483648) : Int) ≤ ρ 14 ∧ ρ 14 ≤ (-1) := hB 14 ((-2147483648), (-1)) rfl
  have b15 : ((-2147483648) : Int) ≤ ρ 15 ∧ ρ 15 ≤ 2147483647 := hB 15 ((-2147483648), 2147483647) rfl
  clear hB
  generalize ρ 2 = r2, ρ 14 = r14, ρ 15 = r15, α 45 = a45, α 46 = a46 at *
  ((repeat' (first | apply And.intro | intro h)) <;> first | omega | rfl | trivial | (exfalso; omega)))
def w_xo_write_0_1 : VC := ((bT ++ [(0, 2147483647), ((-2147483648), 2147483647)]), [(0, [(none, 0), (none, 0)], []), (3, [(some 14, 0), (some 2, 0)], []), (3, [(some 14, 0), (none, 0)], [])], (147, [(none, (-2)), (some 14, 0), (some 15, 0), (some 2, 0)], [45, 46]))
set_option maxRecDepth 20000 in
theorem v_xo_write_0_1 {PT : PTy} (hp : HP11 PT) : vcOk PT w_xo_write_0_1 := vc_of (fun ρ α hB hF => by
  obtain ⟨f0, f1, f2, -⟩ := hF
  have e147 : PT 147 = P_wrX := hp.2.1
  simp only [hF0, hF3, hFp_147, e147, P_wrX, den_s, den_c, Int.add_zero, List.map_cons, List.map_nil] at f0 f1 f2 ⊢
  have b2 : (0 : Int) ≤ ρ 2 ∧ ρ 2 ≤ 8 := hB 2 (0, 8) rfl
  have b14 : (0 : Int) ≤ ρ 14 ∧ ρ 14 ≤ 2147483647 := hB 14 (0, 2147483647) rfl
  have b15 : ((-2147483648) : Int) ≤ ρ 15 ∧ ρ 15 ≤ 2147483647 := hB 15 ((-2147483648), 2147483647) rfl
  clear hB
  generalize ρ 2 = r2, ρ 14 = r14, ρ 15 = r15, α 45 = a45, α 46 = a46 at *
  ((repeat' (first | apply And.intro | intro h)) <;> first | omega | rfl | trivial | (exfalso; omega)))
def w_xo_write_0_2 : VC := (([(0, 23), (0, 49), (1, 8), (0, 10), (0, 8), (0, 6), (0, 6), (0, 8), (0, 9), (0, 49), (0, 49), ((-2147483648), 2147483647), ((-2147483648), 2147483647), (0, 5), (0, 7), ((-2147483648), (-1))]), [(0, [(none, 0), (none, 0)], []), (2, [(some 15, 0), (none, 0)], []), (1, [(none, 1), (none, 0)], []), (2, [(some 14, 0), (some 2, 0)], []), (3, [(some 14, 0), (none, 0)], [])], (147, [(none, (-2)), (some 14, 0), (some 15, 0), (some 2, 0)], [45, 46]))
set_option maxRecDepth 20000 in
theorem v_xo_write_0_2 {PT : PTy} (hp : HP11 PT) : vcOk PT w_xo_write_0_2 := vc_of (fun ρ α hB hF => by
  obtain ⟨f0, f1, f2, f3, f4, -⟩ := hF
  have e147 : PT 147 = P_wrX := hp.2.1
  simp only [hF0, hF1, hF2, hF3, hFp_147, e147, P_wrX, den_s, den_c, Int.add_zero, List.map_cons, List.map_nil] at f0 f1 f2 f3 f4 ⊢
  have b2 : (1 : Int) ≤ ρ 2 ∧ ρ 2 ≤ 8 := hB 2 (1, 8) rfl
  have b14 : (0 : Int) ≤ ρ 14 ∧ ρ 14 ≤ 7 := hB 14 (0, 7) rfl
  have b15 : ((-2147483648) : Int) ≤ ρ 15 ∧ ρ 15 ≤ (-1) := hB 15 ((-2147483648), (-1)) rfl
  clear hB
  generalize ρ 2 = r2, ρ 14 = r14, ρ 15 = r15, α 45 = a45, α 46 = a46 at *
  ((repeat' (first | apply And.intro | intro h)) <;> first | omega | rfl | trivial | (exfalso; omega)))
def w_xo_write_0_3 : VC := (([(0, 23), (0, 49), (1, 8), (0, 10), (0, 8), (0, 6), (0, 6), (0, 8), (0, 9), (0, 49), (0, 49), ((-2147483648), 2147483647), ((-2147483648), 2147483647), (0, 5), (0, 7), (4, 2147483647)]), [(0, [(none, 0), (none, 0)], []), (2, [(none, 3), (some 15, 0)], []), (3, [(some 15, 0), (none, 0)], []), (1, [(none, 1), (none, 0)], []), (2, [(some 14, 0), (some 2, 0)], []), (3, [(some 14, 0), (none, 0)], [])], (147, [(none, (-2)), (some 14, 0), (some 15, 0), (some 2, 0)], [45, 46]))
set_option maxRecDepth 20000 in
theorem v_xo_write_0_3 {PT : PTy} (hp : HP11 PT) : vcOk PT w_xo_write_0_3 := vc_of (fun ρ α hB hF => by
  obtain ⟨f0, f1, f2, f3, f4, f5, -⟩ := hF
  have e147 : PT 147 = P_wrX := hp.2.1
  simp only [hF0, hF1, hF2, hF3, hFp_147, e147, P_wrX, den_s, den_c, Int.add_zero, List.map_cons, List.map_nil] at f0 f1 f2 f3 f4 f5 ⊢
  have b2 : (1 : Int) ≤ ρ 2 ∧ ρ 2 ≤ 8 := hB 2 (1, 8) rfl
  have b14 : (0 : Int) ≤ ρ 14 ∧ ρ 14 ≤ 7 := hB 14 (0, 7) rfl
  have b15 : (4 : Int) ≤ ρ 15 ∧ ρ 15 ≤ 2147483647 := hB 15 (4, 2147483647) rfl
  clear hB
  generalize ρ 2 = r2, ρ 14 = r14, ρ 15 = r15, α 45 = a45, α 46 = a46 at *
  ((repeat' (first | apply And.intro | intro h)) <;> first | omega | rfl | trivial | (exfalso; omega)))
def w_xo_write_0_4 : VC := (([(0, 23), (0, 49), (1, 8), (0, 10), (0, 8), (0, 6), (0, 6), (0, 8), (0, 9), (0, 49), (0, 49), ((-2147483648), 2147483647), ((-2147483648), 2147483647), (0, 5), (0, 7), (0, 3), (0, 2), (0, 60), (0, 24), (0, 49)]), [(89, [], [8, 60, 61, 62]), (86, [(some 2, 0), (some 3, 0), (some 4, 0), (some 5, 0), (some 6, 0), (some 19, 0)], [58, 59, 10, 12, 13, 15, 16, 19, 20, 23, 24]), (23, [(some 18, 0), (none, 24), (some 17, 0)], []), (20, [(some 17, 0), (some 15, 0)], [45]), (0, [(none, 0), (none, 0)], []), (1, [(some 16, 0), (none, (-1))], []), (20, [(some 16, 0), (some 15, 0)], [46]), (1, [(none, 1), (none, 0)], []), (3, [(none, 3), (some 15, 0)], []), (3, [(some 15, 0), (none, 0)], []), (1, [(none, 1), (none, 0)], []), (2, [(some 14, 0), (some 2, 0)], []), (3, [(some 14, 0), (none, 0)], [])], (87, [(some 19, 0)], [58, 59]))
set_option maxRecDepth 20000 in
theorem v_xo_write_0_4 {PT : PTy} (hp : HP11 PT) : vcOk PT w_xo_write_0_4 := vc_of (fun ρ α hB hF => by
  obtain ⟨f0, f1, f2, f3, f4, f5, f6, f7, f8, f9, f10, f11, f12, -⟩ := hF
  have e86 : PT 86 = P_arr := hp.1.1.1.1.1.1.1.1.2.2.2.2.2.2.2.1
  have e87 : PT 87 = P_pr := hp.1.1.1.1.1.1.1.1.2.2.2.2.2.2.2.2.1
  have e89 : PT 89 = P_bg := hp.1.1.1.1.1.1.1.1.2.2.2.2.2.2.2.2.2.2.1
  simp only [hF0, hF1, hF2, hF3, hF20, hF23, hFp_86, hFp_87, hFp_89, e86, e87, e89, P_arr, P_pr, P_bg, den_s, den_c, Int.add_zero, List.map_cons, List.map_nil] at f0 f1 f2 f3 f4 f5 f6 f7 f8 f9 f10 f11 f12 ⊢
  have b2 : (1 : Int) ≤ ρ 2 ∧ ρ 2 ≤ 8 := hB 2 (1, 8) rfl
  have b3 : (0 : Int) ≤ ρ 3 ∧ ρ 3 ≤ 10 := hB 3 (0, 10) rfl
  have b4 : (0 : Int) ≤ ρ 4 ∧ ρ 4 ≤ 8 := hB 4 (0, 8) rfl
  have b5 : (0 : Int) ≤ ρ 5 ∧ ρ 5 ≤ 6 := hB 5 (0, 6) rfl
  have b6 : (0 : Int) ≤ ρ 6 ∧ ρ 6 ≤ 6 := hB 6 (0, 6) rfl
  have b14 : (0 : Int) ≤ ρ 14 ∧ ρ 14 ≤ 7 := hB 14 (0, 7) rfl
  have b15 : (0 : Int) ≤ ρ 15 ∧ ρ 15 ≤ 3 := hB 15 (0, 3) rfl
  have b16 : (0 : Int) ≤ ρ 16 ∧ ρ 16 ≤ 2 := hB 16 (0, 2) rfl
  have b17 : (0 : Int) ≤ ρ 17 ∧ ρ 17 ≤ 60 := hB 17 (0, 60) rfl
  have b18 : (0 : Int) ≤ ρ 18 ∧ ρ 18 ≤ 24 := hB 18 (0, 24) rfl
  have b19 : (0 : Int) ≤ ρ 19 ∧ ρ 19 ≤ 49 := hB 19 (0, 49) rfl
  exact (f1).1)
def w_xo_write_0_5 : VC := (([(0, 23), (0, 49), (1, 8), (0, 10), (0, 8), (0, 6), (0, 6), (0, 8), (0, 9), (0, 49), (0, 49), ((-2147483648), 2147483647), ((-2147483648), 2147483647), (0, 5), (0, 7), (0, 3), (0, 2), (0, 60), (0, 24), (0, 49)]), [(89, [], [8, 60, 61, 62]), (86, [(some 2, 0), (some 3, 0), (some 4, 0), (some 5, 0), (some 6, 0), (some 19, 0)], [58, 59, 10, 12, 13, 15, 16, 19, 20, 23, 24]), (23, [(some 18, 0), (none, 24), (some 17, 0)], []), (20, [(some 17, 0), (some 15, 0)], [45]), (0, [(none, 0), (none, 0)], []), (1, [(some 16, 0), (none, (-1))], []), (20, [(some 16, 0), (some 15, 0)], [46]), (1, [(none, 1), (none, 0)], []), (3, [(none, 3), (some 15, 0)], []), (3, [(some 15, 0), (none, 0)], []), (1, [(none, 1), (none, 0)], []), (2, [(some 14, 0), (some 2, 0)], []), (3, [(some 14, 0), (none, 0)], [])], (147, [(some 18, 0), (some 14, 0), (some 15, 0), (some 2, 0)], [45, 46]))
set_option maxRecDepth 20000 in
theorem v_xo_write_0_5 {PT : PTy} (hp : HP11 PT) : vcOk PT w_xo_write_0_5 := vc_of (fun ρ α hB hF => by
  obtain ⟨f0, f1, f2, f3, f4, f5, f6, f7, f8, f9, f10, f11, f12, -⟩ := hF
  have e86 : PT 86 = P_arr := hp.1.1.1.1.1.1.1.1.2.2.2.2.2.2.2.1
  have e89 : PT 89 = P_bg := hp.1.1.1.1.1.1.1.1.2.2.2.2.2.2.2.2.2.2.1
  have e147 : PT 147 = P_wrX := hp.2.1
  simp only [hF0, hF1, hF2, hF3, hF20, hF23, hFp_86, hFp_89, hFp_147, e86, e89, e147, P_arr, P_bg, P_wrX, den_s, den_c, Int.add_zero, List.map_cons, List.map_nil] at f0 f1 f2 f3 f4 f5 f6 f7 f8 f9 f10 f11 f12 ⊢
  have b2 : (1 : Int) ≤ ρ 2 ∧ ρ 2 ≤ 8 := hB 2 (1, 8) rfl
  have b3 : (0 : Int) ≤ ρ 3 ∧ ρ 3 ≤ 10 := hB 3 (0, 10) rfl
  have b4 : (0 : Int) ≤ ρ 4 ∧ ρ 4 ≤ 8 := hB 4 (0, 8) rfl
  have b5 : (0 : Int) ≤ ρ 5 ∧ ρ 5 ≤ 6 := hB 5 (0, 6) rfl
  have b6 : (0 : Int) ≤ ρ 6 ∧ ρ 6 ≤ 6 := hB 6 (0, 6) rfl
  have b14 : (0 : Int) ≤ ρ 14 ∧ ρ 14 ≤ 7 := hB 14 (0, 7) rfl
  have b15 : (0 : Int) ≤ ρ 15 ∧ ρ 15 ≤ 3 := hB 15 (0, 3) rfl
  have b16 : (0 : Int) ≤ ρ 16 ∧ ρ 16 ≤ 2 := hB 16 (0, 2) rfl
  have b17 : (0 : Int) ≤ ρ 17 ∧ ρ 17 ≤ 60 := hB 17 (0, 60) rfl
  have b18 : (0 : Int) ≤ ρ 18 ∧ ρ 18 ≤ 24 := hB 18 (0, 24) rfl
  have b19 : (0 : Int) ≤ ρ 19 ∧ ρ 19 ≤ 49 := hB 19 (0, 49) rfl
  clear hB
  generalize ρ 2 = r2, ρ 3 = r3, ρ 4 = r4, ρ 5 = r5, ρ 6 = r6, ρ 14 = r14, ρ 15 = r15, ρ 16 = r16, ρ 17 = r17, ρ 18 = r18, ρ 19 = r19, α 8 = a8, α 10 = a10, α 12 = a12, α 13 = a13, α 15 = a15, α 16 = a16, α 19 = a19, α 20 = a20, α 23 = a23, α 24 = a24, α 45 = a45, α 46 = a46, α 58 = a58, α 59 = a59, α 60 = a60, α 61 = a61, α 62 = a62 at *
  subst f2
  subst f3
  subst f6
  ((repeat' (first | apply And.intro | intro h)) <;> first | omega | rfl | trivial | (exfalso; omega)))
def w_xo_write_0_6 : VC := (([(0, 23), (0, 49), (1, 8), (0, 10), (0, 8), (0, 6), (0, 6), (0, 8), (0, 9), (0, 49), (0, 49), ((-2147483648), 2147483647), ((-2147483648), 2147483647), (0, 5), (0, 7), (0, 3), ((-1), (-1))]), [(1, [(none, 1), (none, 0)], []), (0, [(some 16, 0), (none, (-1))], []), (20, [(some 16, 0), (some 15, 0)], [46]), (1, [(none, 1), (none, 0)], []), (3, [(none, 3), (some 15, 0)], []), (3, [(some 15, 0), (none, 0)], []), (1, [(none, 1), (none, 0)], []), (2, [(some 14, 0), (some 2, 0)], []), (3, [(some 14, 0), (none, 0)], [])], (147, [(none, (-11)), (some 14, 0), (some 15, 0), (some 2, 0)], [45, 46]))
set_option maxRecDepth 20000 in
theorem v_xo_write_0_6 {PT : PTy} (hp : HP11 PT) : vcOk PT w_xo_write_0_6 := vc_of (fun ρ α hB hF => by
  obtain ⟨f0, f1, f2, f3, f4, f5, f6, f7, f8, -⟩ := hF
  have e147 : PT 147 = P_wrX := hp.2.1
  simp only [hF0, hF1, hF2, hF3, hF20, hFp_147, e147, P_wrX, den_s, den_c, Int.add_zero, List.map_cons, List.map_nil] at f0 f1 f2 f3 f4 f5 f6 f7 f8 ⊢
  have b2 : (1 : Int) ≤ ρ 2 ∧ ρ 2 ≤ 8 := hB 2 (1, 8) rfl
  have b14 : (0 : Int) ≤ ρ 14 ∧ ρ 14 ≤ 7 := hB 14 (0, 7) rfl
  have b15 : (0 : Int) ≤ ρ 15 ∧ ρ 15 ≤ 3 := hB 15 (0, 3) rfl
  have b16 : ((-1) : Int) ≤ ρ 16 ∧ ρ 16 ≤ (-1) := hB 16 ((-1), (-1)) rfl
  clear hB
  generalize ρ 2 = r2, ρ 14 = r14, ρ 15 = r15, ρ 16 = r16, α 45 = a45, α 46 = a46 at *
  subst f2
  ((repeat' (first | apply And.intro | intro h)) <;> first | omega | rfl | trivial | (exfalso; omega)))
set_option maxRecDepth 1000000 in
theorem k_xo_write {PT : PTy} (hp : HP11 PT) : wfX c_xo_write = true ∧ xcOk PT c_xo_write := xctr (xl (k_arrange14 hp.1.1.1.1.1.1.1.1) (xl (k_begin14 hp.1.1.1.1.1.1.1) (xl (k_advance14 hp.1.1.1.1.1.1.1) (xl0)))) c_xo_write 81 mX6_write rfl h_xo_write (by decide +kernel) (by decide +kernel) (by decide) (vcs_by [w_xo_write_0_0, w_xo_write_0_1, w_xo_write_0_2, w_xo_write_0_3, w_xo_write_0_4, w_xo_write_0_5, w_xo_write_0_6] (by decide +kernel) (vc (v_xo_write_0_0 hp) (vc (v_xo_write_0_1 hp) (vc (v_xo_write_0_2 hp) (vc (v_xo_write_0_3 hp) (vc (v_xo_write_0_4 hp) (vc (v_xo_write_0_5 hp) (vc (v_xo_write_0_6 hp) vn)))))))) (fmc (vcs_by [] (by decide +kernel) vn) fmn)
def c_yo_write : XC := (193, 7, (bY ++ [((-2147483648), 2147483647), ((-2147483648), 2147483647)]), [.inr (.inl 0), .inl (some 13, 0), .inl (some 14, 0)], gY2, [(78, [], [1])], [((bY ++ [((-2147483648), 2147483647), ((-2147483648), 2147483647), ((-11), 24), (0, 8), (0, 10), (0, 11), (0, 9), ((-2147483648), 2147483647), ((-2147483648), 2147483647), (0, 5)]), some (.inl (some 15, 0)), (hst gY2 [(0, .inr (.inr (.inr (7, [.inr (.inl 1), .inr (.inl 2), .inl (some 16, 0), .inr (.inl 3), .inr (.inl 4), .inl (some 17, 0), .inr (.inl 5), .inr (.inl 6), .inr (.inl 7), .inr (.inl 8), .inl (some 4, 0), .inr (.inl 9), .inr (.inl 10), .inl (some 5, 0), .inr (.inl 11), .inr (.inl 12), .inr (.inl 13), .inl (some 6, 0), .inr (.inl 14), .inr (.inl 15), .inr (.inl 16), .inl (some 18, 0), .inl (some 19, 0), .inr (.inl 17), .inr (.inl 18), .inl (some 20, 0), .inl (some 21, 0), .inr (.inl 19), .inr (.inl 20), .inr (.inl 21), .inr (.inl 22), .inr (.inl 23), .inr (.inl 24), .inr (.inl 25), .inl (some 7, 0), .inr (.inl 26), .inr (.inl 27), .inr (.inl 28), .inr (.inl 29), .inr (.inl 30), .inr (.inl 31), .inr (.inl 32), .inr (.inl 33), .inr (.inl 34), .inl (some 22, 0)]))))]), [0, 1, 2, 35, 36, 37, 38, 39, 40, 9, 10, 11, 12, 13, 14, 15, 16, 41, 42, 43, 44, 45, 46, 47, 48, 25, 26, 27, 28, 29, 30, 31, 32, 49, 34], 50, [(148, [(some 15, 0), (some 13, 0), (some 14, 0)], [1, 2, 30, 32])])])
def h_yo_write : List XH := [(39, (bY ++ [(0, 7), (0, 3), (0, 24), (0, 8), (0, 10), (0, 11), ((-2147483648), 2147483647), ((-2147483648), 2147483647)]), [some (.inr (.inl 0)), some (.inl (some 13, 0)), some (.inl (some 14, 0)), some (.inl (some 15, 0))], (hst gY2 [(0, .inr (.inr (.inr (7, [.inr (.inl 1), .inr (.inl 2), .inl (some 16, 0), .inr (.inl 3), .inr (.inl 4), .inl (some 17, 0), .inr (.inl 5), .inr (.inl 6), .inr (.inl 7), .inr (.inl 8), .inl (some 4, 0), .inr (.inl 9), .inr (.inl 10), .inl (some 5, 0), .inr (.inl 11), .inr (.inl 12), .inr (.inl 13), .inl (some 6, 0), .inr (.inl 14), .inr (.inl 15), .inr (.inl 16), .inl (some 18, 0), .inl (some 4, 0), .inr (.inl 17), .inr (.inl 18), .inl (some 19, 0), .inl (some 20, 0), .inr (.inl 19), .inr (.inl 20), .inr (.inl 21), .inr (.inl 22), .inr (.inl 23), .inr (.inl 24), .inr (.inl 25), .inl (some 7, 0), .inr (.inl 26), .inr (.inl 27), .inr (.inl 28), .inr (.inl 29), .inr (.inl 30), .inr (.inl 31), .inr (.inl 32), .inr (.inl 33), .inr (.inl 34), .inl (some 12, 0)]))))]), [0, 1, 2, 35, 36, 37, 38, 39, 40, 9, 10, 11, 12, 13, 14, 15, 16, 41, 42, 43, 44, 45, 46, 47, 48, 25, 26, 27, 28, 29, 30, 31, 32, 49, 34], 50, [(149, [(some 15, 0), (some 13, 0), (some 14, 0)], [1, 2, 30, 32])], [(true, (none, 1)), (true, (some 15, 0))])]
def w_yo_write_0_0 : VC := ((bY ++ [((-2147483648), (-1)), ((-2147483648), 2147483647), ((-1), 54), (0, 8), (0, 10)]), [(0, [(none, 0), (none, 0)], []), (2, [(some 13, 0), (none, 0)], []), (79, [(some 15, 0), (none, 0), (some 16, 0), (some 17, 0)], [1, 2, 35, 36, 37, 38, 39, 40]), (78, [], [1])], (148, [(none, (-2)), (some 13, 0), (some 14, 0)], [1, 2, 30, 32]))
set_option maxRecDepth 20000 in
theorem v_yo_write_0_0 {PT : PTy} (hp : HP11 PT) : vcOk PT w_yo_write_0_0 := vc_of (fun ρ α hB hF => by
  obtain ⟨f0, f1, f2, f3, -⟩ := hF
  have e78 : PT 78 = P_ly := hp.1.1.1.1.1.1.1.1.1.2.2.2.2.2.2.2.1
  have e79 : PT 79 = P_fo := hp.1.1.1.1.1.1.1.1.1.2.2.2.2.2.2.2.2.1
  have e148 : PT 148 = P_wrY := hp.2.2.1
  simp only [hF0, hF2, hFp_78, hFp_79, hFp_148, e78, e79, e148, P_ly, P_fo, P_wrY, den_s, den_c, Int.add_zero, List.map_cons, List.map_nil] at f0 f1 f2 f3 ⊢
  have b13 : ((-2147483648) : Int) ≤ ρ 13 ∧ ρ 13 ≤ (-1) := hB 13 ((-2147483648), (-1)) rfl
  have b14 : ((-2147483648) : Int) ≤ ρ 14 ∧ ρ 14 ≤ 2147483647 := hB 14 ((-2147483648), 2147483647) rfl
  have b15 : ((-1) : Int) ≤ ρ 15 ∧ ρ 15 ≤ 54 := hB 15 ((-1), 54) rfl
  have b16 : (0 : Int) ≤ ρ 16 ∧ ρ 16 ≤ 8 := hB 16 (0, 8) rfl
  have b17 : (0 : Int) ≤ ρ 17 ∧ ρ 17 ≤ 10 := hB 17 (0, 10) rfl
  clear hB
  generalize ρ 13 = r13, ρ 14 = r14, ρ 15 = r15, ρ 16 = r16, ρ 17 = r17, α 1 = a1, α 2 = a2, α 30 = a30, α 32 = a32, α 35 = a35, α 36 = a36, α 37 = a37, α 38 = a38, α 39 = a39, α 40 = a40 at *
  obtain ⟨x, y, h1, h2, h3⟩ := f2
  refine ⟨_, h1.2.1, ?_⟩
  ((repeat' (first | apply And.intro | intro h)) <;> first | omega | rfl | trivial | (exfalso; omega)))
def w_yo_write_0_1 : VC := ((bY ++ [(0, 2147483647), ((-2147483648), 2147483647), ((-1), 54), (0, 8), (0, 10)]), [(0, [(none, 0), (none, 0)], []), (2, [(some 16, (-1)), (some 13, 0)], []), (3, [(some 13, 0), (none, 0)], []), (79, [(some 15, 0), (none, 0), (some 16, 0), (some 17, 0)], [1, 2, 35, 36, 37, 38, 39, 40]), (78, [], [1])], (148, [(none, (-2)), (some 13, 0), (some 14, 0)], [1, 2, 30, 32]))
set_option maxRecDepth 20000 in
theorem v_yo_write_0_1 {PT : PTy} (hp : HP11 PT) : vcOk PT w_yo_write_0_1 := vc_of (fun ρ α hB hF => by
  obtain ⟨f0, f1, f2, f3, f4, -⟩ := hF
  have e78 : PT 78 = P_ly := hp.1.1.1.1.1.1.1.1.1.2.2.2.2.2.2.2.1
  have e79 : PT 79 = P_fo := hp.1.1.1.1.1.1.1.1.1.2.2.2.2.2.2.2.2.1
  have e148 : PT 148 = P_wrY := hp.2.2.1
  simp only [hF0, hF2, hF3, hFp_78, hFp_79, hFp_148, e78, e79, e148, P_ly, P_fo, P_wrY, den_s, den_c, Int.add_zero, List.map_cons, List.map_nil] at f0 f1 f2 f3 f4 ⊢
  have b13 : (0 : Int) ≤ ρ 13 ∧ ρ 13 ≤ 2147483647 := hB 13 (0, 2147483647) rfl
  have b14 : ((-2147483648) : Int) ≤ ρ 14 ∧ ρ 14 ≤ 2147483647 := hB 14 ((-2147483648), 2147483647) rfl
  have b15 : ((-1) : Int) ≤ ρ 15 ∧ ρ 15 ≤ 54 := hB 15 ((-1), 54) rfl
  have b16 : (0 : Int) ≤ ρ 16 ∧ ρ 16 ≤ 8 := hB 16 (0, 8) rfl
  have b17 : (0 : Int) ≤ ρ 17 ∧ ρ 17 ≤ 10 := hB 17 (0, 10) rfl
  clear hB
  generalize ρ 13 = r13, ρ 14 = r14, ρ 15 = r15, ρ 16 = r16, ρ 17 = r17, α 1 = a1, α 2 = a2, α 30 = a30, α 32 = a32, α 35 = a35, α 36 = a36, α 37 = a37, α 38 = a38, α 39 = a39, α 40 = a40 at *
  obtain ⟨x, y, h1, h2, h3⟩ := f3
  refine ⟨_, h1.2.1, ?_⟩
  ((repeat' (first | apply And.intro | intro h)) <;> first | omega | rfl | trivial | (exfalso; omega)))
def w_yo_write_0_2 : VC := ((bY ++ [(0, 7), ((-2147483648), (-1)), ((-1), 54), (1, 8), (0, 10)]), [(0, [(none, 0), (none, 0)], []), (2, [(some 14, 0), (none, 0)], []), (1, [(none, 1), (none, 0)], []), (3, [(some 16, (-1)), (some 13, 0)], []), (3, [(some 13, 0), (none, 0)], []), (79, [(some 15, 0), (none, 0), (some 16, 0), (some 17, 0)], [1, 2, 35, 36, 37, 38, 39, 40]), (78, [], [1])], (148, [(none, (-2)), (some 13, 0), (some 14, 0)], [1, 2, 30, 32]))
set_option maxRecDepth 20000 in
theorem v_yo_write_0_2 {PT : PTy} (hp : HP11 PT) : vcOk PT w_yo_write_0_2 := vc_of (fun ρ α hB hF => by
  obtain ⟨f0, f1, f2, f3, f4, f5, f6, -⟩ := hF
  have e78 : PT 78 = P_ly := hp.1.1.1.1.1.1.1.1.1.2.2.2.2.2.2.2.1
  have e79 : PT 79 = P_fo := hp.1.1.1.1.1.1.1.1.1.2.2.2.2.2.2.2.2.1
  have e148 : PT 148 = P_wrY := hp.2.2.1
  simp only [hF0, hF1, hF2, hF3, hFp_78, hFp_79, hFp_148, e78, e79, e148, P_ly, P_fo, P_wrY, den_s, den_c, Int.add_zero, List.map_cons, List.map_nil] at f0 f1 f2 f3 f4 f5 f6 ⊢
  have b13 : (0 : Int) ≤ ρ 13 ∧ ρ 13 ≤ 7 := hB 13 (0, 7) rfl
  have b14 : ((-2147483648) : Int) ≤ ρ 14 ∧ ρ 14 ≤ (-1) := hB 14 ((-2147483648), (-1)) rfl
  have b15 : ((-1) : Int) ≤ ρ 15 ∧ ρ 15 ≤ 54 := hB 15 ((-1), 54) rfl
  have b16 : (1 : Int) ≤ ρ 16 ∧ ρ 16 ≤ 8 := hB 16 (1, 8) rfl
  have b17 : (0 : Int) ≤ ρ 17 ∧ ρ 17 ≤ 10 := hB 17 (0, 10) rfl
  clear hB
  generalize ρ 13 = r13, ρ 14 = r14, ρ 15 = r15, ρ 16 = r16, ρ 17 = r17, α 1 = a1, α 2 = a2, α 30 = a30, α 32 = a32, α 35 = a35, α 36 = a36, α 37 = a37, α 38 = a38, α 39 = a39, α 40 = a40 at *
  obtain ⟨x, y, h1, h2, h3⟩ := f5
  refine ⟨_, h1.2.1, ?_⟩
  ((repeat' (first | apply And.intro | intro h)) <;> first | omega | rfl | trivial | (exfalso; omega)))
def w_yo_write_0_3 : VC := ((bY ++ [(0, 7), (4, 2147483647), ((-1), 54), (1, 8), (0, 10)]), [(0, [(none, 0), (none, 0)], []), (2, [(none, 3), (some 14, 0)], []), (3, [(some 14, 0), (none, 0)], []), (1, [(none, 1), (none, 0)], []), (3, [(some 16, (-1)), (some 13, 0)], []), (3, [(some 13, 0), (none, 0)], []), (79, [(some 15, 0), (none, 0), (some 16, 0), (some 17, 0)], [1, 2, 35, 36, 37, 38, 39, 40]), (78, [], [1])], (148, [(none, (-2)), (some 13, 0), (some 14, 0)], [1, 2, 30, 32]))
set_option maxRecDepth 20000 in
theorem v_yo_write_0_3 {PT : PTy} (hp : HP11 PT) : vcOk PT w_yo_write_0_3 := vc_of (fun ρ α hB hF => by
  obtain ⟨f0, f1, f2, f3, f4, f5, f6, f7, -⟩ := hF
  have e78 : PT 78 = P_ly := hp.1.1.1.1.1.1.1.1.1.2.2.2.2.2.2.2.1
  have e79 : PT 79 = P_fo := hp.1.1.1.1.1.1.1.1.1.2.2.2.2.2.2.2.2.1
  have e148 : PT 148 = P_wrY := hp.2.2.1
  simp only [hF0, hF1, hF2, hF3, hFp_78, hFp_79, hFp_148, e78, e79, e148, P_ly, P_fo, P_wrY, den_s, den_c, Int.add_zero, List.map_cons, List.map_nil] at f0 f1 f2 f3 f4 f5 f6 f7 ⊢
  have b13 : (0 : Int) ≤ ρ 13 ∧ ρ 13 ≤ 7 := hB 13 (0, 7) rfl
  have b14 : (4 : Int) ≤ ρ 14 ∧ ρ 14 ≤ 2147483647 := hB 14 (4, 2147483647) rfl
  have b15 : ((-1) : Int) ≤ ρ 15 ∧ ρ 15 ≤ 54 := hB 15 ((-1), 54) rfl
  have b16 : (1 : Int) ≤ ρ 16 ∧ ρ 16 ≤ 8 := hB 16 (1, 8) rfl
  have b17 : (0 : Int) ≤ ρ 17 ∧ ρ 17 ≤ 10 := hB 17 (0, 10) rfl
  clear hB
  generalize ρ 13 = r13, ρ 14 = r14, ρ 15 = r15, ρ 16 = r16, ρ 17 = r17, α 1 = a1, α 2 = a2, α 30 = a30, α 32 = a32, α 35 = a35, α 36 = a36, α 37 = a37, α 38 = a38, α 39 = a39, α 40 = a40 at *
  obtain ⟨x, y, h1, h2, h3⟩ := f6
  refine ⟨_, h1.2.1, ?_⟩
  ((repeat' (first | apply And.intro | intro h)) <;> first | omega | rfl | trivial | (exfalso; omega)))
def w_yo_write_0_4 : VC := ((bY ++ [(0, 7), (0, 3), ((-1), 54), (1, 8), (0, 10), (1, 1), (0, 8), (0, 10), (0, 11), ((-2147483648), 2147483647), ((-2147483648), 2147483647)]), [(1, [(some 18, 0), (none, 0)], []), (20, [(some 18, 0), (some 14, 0)], [30]), (1, [(none, 1), (none, 0)], []), (3, [(none, 3), (some 14, 0)], []), (3, [(some 14, 0), (none, 0)], []), (1, [(none, 1), (none, 0)], []), (3, [(some 16, (-1)), (some 13, 0)], []), (3, [(some 13, 0), (none, 0)], []), (79, [(some 15, 0), (none, 0), (some 16, 0), (some 17, 0)], [1, 2, 35, 36, 37, 38, 39, 40]), (78, [], [1])], (149, [(none, 0), (some 13, 0), (some 14, 0)], [1, 2, 30, 32]))
set_option maxRecDepth 20000 in
theorem v_yo_write_0_4 {PT : PTy} (hp : HP11 PT) : vcOk PT w_yo_write_0_4 := vc_of (fun ρ α hB hF => by
  obtain ⟨f0, f1, f2, f3, f4, f5, f6, f7, f8, f9, -⟩ := hF
  have e78 : PT 78 = P_ly := hp.1.1.1.1.1.1.1.1.1.2.2.2.2.2.2.2.1
  have e79 : PT 79 = P_fo := hp.1.1.1.1.1.1.1.1.1.2.2.2.2.2.2.2.2.1
  have e149 : PT 149 = P_wrI := hp.2.2.2.1
  simp only [hF1, hF3, hF20, hFp_78, hFp_79, hFp_149, e78, e79, e149, P_ly, P_fo, P_wrI, den_s, den_c, Int.add_zero, List.map_cons, List.map_nil] at f0 f1 f2 f3 f4 f5 f6 f7 f8 f9 ⊢
  have b13 : (0 : Int) ≤ ρ 13 ∧ ρ 13 ≤ 7 := hB 13 (0, 7) rfl
  have b14 : (0 : Int) ≤ ρ 14 ∧ ρ 14 ≤ 3 := hB 14 (0, 3) rfl
  have b15 : ((-1) : Int) ≤ ρ 15 ∧ ρ 15 ≤ 54 := hB 15 ((-1), 54) rfl
  have b16 : (1 : Int) ≤ ρ 16 ∧ ρ 16 ≤ 8 := hB 16 (1, 8) rfl
  have b17 : (0 : Int) ≤ ρ 17 ∧ ρ 17 ≤ 10 := hB 17 (0, 10) rfl
  have b18 : (1 : Int) ≤ ρ 18 ∧ ρ 18 ≤ 1 := hB 18 (1, 1) rfl
  clear hB
  generalize ρ 13 = r13, ρ 14 = r14, ρ 15 = r15, ρ 16 = r16, ρ 17 = r17, ρ 18 = r18, α 1 = a1, α 2 = a2, α 30 = a30, α 32 = a32, α 35 = a35, α 36 = a36, α 37 = a37, α 38 = a38, α 39 = a39, α 40 = a40 at *
  subst f1
  obtain ⟨x, y, h1, h2, h3⟩ := f8
  refine ⟨_, h1.2.1, ?_⟩
  ((repeat' (first | apply And.intro | intro h)) <;> first | omega | rfl | trivial | (exfalso; omega)))
def w_yo_write_0_5 : VC := ((bY ++ [(0, 7), (0, 3), ((-1), 54), (1, 8), (0, 10), (0, 0)]), [(0, [(some 18, 0), (none, 0)], []), (20, [(some 18, 0), (some 14, 0)], [30]), (1, [(none, 1), (none, 0)], []), (3, [(none, 3), (some 14, 0)], []), (3, [(some 14, 0), (none, 0)], []), (1, [(none, 1), (none, 0)], []), (3, [(some 16, (-1)), (some 13, 0)], []), (3, [(some 13, 0), (none, 0)], []), (79, [(some 15, 0), (none, 0), (some 16, 0), (some 17, 0)], [1, 2, 35, 36, 37, 38, 39, 40]), (78, [], [1])], (148, [(none, (-11)), (some 13, 0), (some 14, 0)], [1, 2, 30, 32]))
set_option maxRecDepth 20000 in
theorem v_yo_write_0_5 {PT : PTy} (hp : HP11 PT) : vcOk PT w_yo_write_0_5 := vc_of (fun ρ α hB hF => by
  obtain ⟨f0, f1, f2, f3, f4, f5, f6, f7, f8, f9, -⟩ := hF
  have e78 : PT 78 = P_ly := hp.1.1.1.1.1.1.1.1.1.2.2.2.2.2.2.2.1
  have e79 : PT 79 = P_fo := hp.1.1.1.1.1.1.1.1.1.2.2.2.2.2.2.2.2.1
  have e148 : PT 148 = P_wrY := hp.2.2.1
  simp only [hF0, hF1, hF3, hF20, hFp_78, hFp_79, hFp_148, e78, e79, e148, P_ly, P_fo, P_wrY, den_s, den_c, Int.add_zero, List.map_cons, List.map_nil] at f0 f1 f2 f3 f4 f5 f6 f7 f8 f9 ⊢
  have b13 : (0 : Int) ≤ ρ 13 ∧ ρ 13 ≤ 7 := hB 13 (0, 7) rfl
  have b14 : (0 : Int) ≤ ρ 14 ∧ ρ 14 ≤ 3 := hB 14 (0, 3) rfl
  have b15 : ((-1) : Int) ≤ ρ 15 ∧ ρ 15 ≤ 54 := hB 15 ((-1), 54) rfl
  have b16 : (1 : Int) ≤ ρ 16 ∧ ρ 16 ≤ 8 := hB 16 (1, 8) rfl
  have b17 : (0 : Int) ≤ ρ 17 ∧ ρ 17 ≤ 10 := hB 17 (0, 10) rfl
  have b18 : (0 : Int) ≤ ρ 18 ∧ ρ 18 ≤ 0 := hB 18 (0, 0) rfl
  clear hB
  generalize ρ 13 = r13, ρ 14 = r14, ρ 15 = r15, ρ 16 = r16, ρ 17 = r17, ρ 18 = r18, α 1 = a1, α 2 = a2, α 30 = a30, α 32 = a32, α 35 = a35, α 36 = a36, α 37 = a37, α 38 = a38, α 39 = a39, α 40 = a40 at *
  subst f1
  obtain ⟨x, y, h1, h2, h3⟩ := f8
  refine ⟨_, h1.2.1, ?_⟩
  ((repeat' (first | apply And.intro | intro h)) <;> first | omega | rfl | trivial | (exfalso; omega)))
def w_yo_write_1_0 : VC := ((bY ++ [(0, 7), (0, 3), (0, 24), (0, 8), (0, 10), (0, 11), ((-2147483648), 2147483647), ((-2147483648), 2147483647), (0, 24)]), [(3, [(some 15, 0), (some 21, 0)], []), (20, [(some 21, 0), (some 14, 0)], [32]), (149, [(some 15, 0), (some 13, 0), (some 14, 0)], [1, 2, 30, 32]), (78, [], [1])], (148, [(some 15, 0), (some 13, 0), (some 14, 0)], [1, 2, 30, 32]))
set_option maxRecDepth 20000 in
theorem v_yo_write_1_0 {PT : PTy} (hp : HP11 PT) : vcOk PT w_yo_write_1_0 := vc_of (fun ρ α hB hF => by
  obtain ⟨f0, f1, f2, f3, -⟩ := hF
  have e78 : PT 78 = P_ly := hp.1.1.1.1.1.1.1.1.1.2.2.2.2.2.2.2.1
  have e148 : PT 148 = P_wrY := hp.2.2.1
  have e149 : PT 149 = P_wrI := hp.2.2.2.1
  simp only [hF3, hF20, hFp_78, hFp_148, hFp_149, e78, e148, e149, P_ly, P_wrY, P_wrI, den_s, den_c, Int.add_zero, List.map_cons, List.map_nil] at f0 f1 f2 f3 ⊢
  have b13 : (0 : Int) ≤ ρ 13 ∧ ρ 13 ≤ 7 := hB 13 (0, 7) rfl
  have b14 : (0 : Int) ≤ ρ 14 ∧ ρ 14 ≤ 3 := hB 14 (0, 3) rfl
  have b15 : (0 : Int) ≤ ρ 15 ∧ ρ 15 ≤ 24 := hB 15 (0, 24) rfl
  have b21 : (0 : Int) ≤ ρ 21 ∧ ρ 21 ≤ 24 := hB 21 (0, 24) rfl
  clear hB
  generalize ρ 13 = r13, ρ 14 = r14, ρ 15 = r15, ρ 21 = r21, α 1 = a1, α 2 = a2, α 30 = a30, α 32 = a32 at *
  subst f1
  obtain ⟨n, g1, g2, g3, g4, g5, g6, g7⟩ := f2
  refine ⟨n, g1, ?_⟩
  ((repeat' (first | apply And.intro | intro h)) <;> first | omega | rfl | trivial | (exfalso; omega)))
def w_yo_write_1_1 : VC := ((bY ++ [(0, 7), (0, 3), (24, 24), (0, 8), (0, 10), (0, 11), ((-2147483648), 2147483647), ((-2147483648), 2147483647), (1, 60)]), [(3, [(some 15, 0), (none, 24)], []), (2, [(some 15, 0), (some 21, 0)], []), (20, [(some 21, 0), (some 14, 0)], [32]), (149, [(some 15, 0), (some 13, 0), (some 14, 0)], [1, 2, 30, 32]), (78, [], [1])], (148, [(some 15, 0), (some 13, 0), (some 14, 0)], [1, 2, 30, 32]))
set_option maxRecDepth 20000 in
theorem v_yo_write_1_1 {PT : PTy} (hp : HP11 PT) : vcOk PT w_yo_write_1_1 := vc_of (fun ρ α hB hF => by
  obtain ⟨f0, f1, f2, f3, f4, -⟩ := hF
  have e78 : PT 78 = P_ly := hp.1.1.1.1.1.1.1.1.1.2.2.2.2.2.2.2.1
  have e148 : PT 148 = P_wrY := hp.2.2.1
  have e149 : PT 149 = P_wrI := hp.2.2.2.1
  simp only [hF2, hF3, hF20, hFp_78, hFp_148, hFp_149, e78, e148, e149, P_ly, P_wrY, P_wrI, den_s, den_c, Int.add_zero, List.map_cons, List.map_nil] at f0 f1 f2 f3 f4 ⊢
  have b13 : (0 : Int) ≤ ρ 13 ∧ ρ 13 ≤ 7 := hB 13 (0, 7) rfl
  have b14 : (0 : Int) ≤ ρ 14 ∧ ρ 14 ≤ 3 := hB 14 (0, 3) rfl
  have b15 : (24 : Int) ≤ ρ 15 ∧ ρ 15 ≤ 24 := hB 15 (24, 24) rfl
  have b21 : (1 : Int) ≤ ρ 21 ∧ ρ 21 ≤ 60 := hB 21 (1, 60) rfl
  clear hB
  generalize ρ 13 = r13, ρ 14 = r14, ρ 15 = r15, ρ 21 = r21, α 1 = a1, α 2 = a2, α 30 = a30, α 32 = a32 at *
  subst f2
  obtain ⟨n, g1, g2, g3, g4, g5, g6, g7⟩ := f3
  refine ⟨n, g1, ?_⟩
  ((repeat' (first | apply And.intro | intro h)) <;> first | omega | rfl | trivial | (exfalso; omega)))
def w_yo_write_1_2 : VC := ((bY ++ [(0, 7), (0, 3), (0, 23), (0, 8), (0, 10), (0, 11), ((-2147483648), 2147483647), ((-2147483648), 2147483647), (1, 60), (0, 184), (0, 191), (0, 99), (0, 180), (0, 203), (1, 2), (0, 2)]), [(21, [(some 26, 0), (some 24, 0)], [50, 49]), (1, [(some 28, 0), (none, 1)], []), (20, [(some 28, 0), (some 14, 0)], [31]), (1, [(some 27, 0), (none, 0)], []), (20, [(some 27, 0), (some 14, 0)], [31]), (4, [(some 26, 0), (some 25, 0), (some 15, 0)], []), (6, [(some 25, 0), (none, 60), (some 14, 0)], []), (20, [(some 24, 0), (some 23, 0)], [46]), (4, [(some 23, 0), (some 22, 0), (some 13, 0)], []), (6, [(some 22, 0), (none, 8), (some 15, 0)], []), (2, [(some 15, 0), (none, 24)], []), (2, [(some 15, 0), (some 21, 0)], []), (20, [(some 21, 0), (some 14, 0)], [32]), (149, [(some 15, 0), (some 13, 0), (some 14, 0)], [1, 2, 30, 32]), (78, [], [1])], (149, [(some 15, 1), (some 13, 0), (some 14, 0)], [1, 2, 30, 32]))
set_option maxRecDepth 20000 in
theorem v_yo_write_1_2 {PT : PTy} (hp : HP11 PT) : vcOk PT w_yo_write_1_2 := vc_of (fun ρ α hB hF => by
  obtain ⟨f0, f1, f2, f3, f4, f5, f6, f7, f8, f9, f10, f11, f12, f13, f14, -⟩ := hF
  have e78 : PT 78 = P_ly := hp.1.1.1.1.1.1.1.1.1.2.2.2.2.2.2.2.1
  have e149 : PT 149 = P_wrI := hp.2.2.2.1
  simp only [hF1, hF2, hF4, hF6, hF20, hF21, hFp_78, hFp_149, e78, e149, P_ly, P_wrI, den_s, den_c, Int.add_zero, List.map_cons, List.map_nil] at f0 f1 f2 f3 f4 f5 f6 f7 f8 f9 f10 f11 f12 f13 f14 ⊢
  have b13 : (0 : Int) ≤ ρ 13 ∧ ρ 13 ≤ 7 := hB 13 (0, 7) rfl
  have b14 : (0 : Int) ≤ ρ 14 ∧ ρ 14 ≤ 3 := hB 14 (0, 3) rfl
  have b15 : (0 : Int) ≤ ρ 15 ∧ ρ 15 ≤ 23 := hB 15 (0, 23) rfl
  have b21 : (1 : Int) ≤ ρ 21 ∧ ρ 21 ≤ 60 := hB 21 (1, 60) rfl
  have b22 : (0 : Int) ≤ ρ 22 ∧ ρ 22 ≤ 184 := hB 22 (0, 184) rfl
  have b23 : (0 : Int) ≤ ρ 23 ∧ ρ 23 ≤ 191 := hB 23 (0, 191) rfl
  have b24 : (0 : Int) ≤ ρ 24 ∧ ρ 24 ≤ 99 := hB 24 (0, 99) rfl
  have b25 : (0 : Int) ≤ ρ 25 ∧ ρ 25 ≤ 180 := hB 25 (0, 180) rfl
  have b26 : (0 : Int) ≤ ρ 26 ∧ ρ 26 ≤ 203 := hB 26 (0, 203) rfl
  have b27 : (1 : Int) ≤ ρ 27 ∧ ρ 27 ≤ 2 := hB 27 (1, 2) rfl
  have b28 : (0 : Int) ≤ ρ 28 ∧ ρ 28 ≤ 2 := hB 28 (0, 2) rfl
  clear hB
  generalize ρ 13 = r13, ρ 14 = r14, ρ 15 = r15, ρ 21 = r21, ρ 22 = r22, ρ 23 = r23, ρ 24 = r24, ρ 25 = r25, ρ 26 = r26, ρ 27 = r27, ρ 28 = r28, α 1 = a1, α 2 = a2, α 30 = a30, α 31 = a31, α 32 = a32, α 46 = a46, α 49 = a49, α 50 = a50 at *
  subst f0
  subst f2
  subst f4
  subst f5
  subst f6
  subst f7
  subst f8
  subst f9
  subst f12
  obtain ⟨n, g1, g2, g3, g4, g5, g6, g7⟩ := f13
  refine ⟨n, g1, ?_⟩
  ((repeat' (first | apply And.intro | intro h)) <;> first | omega | rfl | trivial | (exfalso; omega)))
def w_yo_write_1_3 : VC := ((bY ++ [(0, 7), (0, 3), (0, 23), (0, 8), (0, 10), (0, 11), ((-2147483648), 2147483647), ((-2147483648), 2147483647), (1, 60), (0, 184), (0, 191), (0, 99), (0, 180), (0, 203), (1, 2), (1, 1), ((-2147483648), 2147483647)]), [(21, [(some 26, 0), (some 29, 0)], [50, 49]), (19, [(some 29, 0), (some 24, 0)], []), (0, [(some 28, 0), (none, 1)], []), (20, [(some 28, 0), (some 14, 0)], [31]), (1, [(some 27, 0), (none, 0)], []), (20, [(some 27, 0), (some 14, 0)], [31]), (4, [(some 26, 0), (some 25, 0), (some 15, 0)], []), (6, [(some 25, 0), (none, 60), (some 14, 0)], []), (20, [(some 24, 0), (some 23, 0)], [46]), (4, [(some 23, 0), (some 22, 0), (some 13, 0)], []), (6, [(some 22, 0), (none, 8), (some 15, 0)], []), (2, [(some 15, 0), (none, 24)], []), (2, [(some 15, 0), (some 21, 0)], []), (20, [(some 21, 0), (some 14, 0)], [32]), (149, [(some 15, 0), (some 13, 0), (some 14, 0)], [1, 2, 30, 32]), (78, [], [1])], (149, [(some 15, 1), (some 13, 0), (some 14, 0)], [1, 2, 30, 32]))
set_option maxRecDepth 20000 in
theorem v_yo_write_1_3 {PT : PTy} (hp : HP11 PT) : vcOk PT w_yo_write_1_3 := vc_of (fun ρ α hB hF => by
  obtain ⟨f0, f1, f2, f3, f4, f5, f6, f7, f8, f9, f10, f11, f12, f13, f14, f15, -⟩ := hF
  have e78 : PT 78 = P_ly := hp.1.1.1.1.1.1.1.1.1.2.2.2.2.2.2.2.1
  have e149 : PT 149 = P_wrI := hp.2.2.2.1
  simp only [hF0, hF1, hF2, hF4, hF6, hF19, hF20, hF21, hFp_78, hFp_149, e78, e149, P_ly, P_wrI, den_s, den_c, Int.add_zero, List.map_cons, List.map_nil] at f0 f1 f2 f3 f4 f5 f6 f7 f8 f9 f10 f11 f12 f13 f14 f15 ⊢
  have b13 : (0 : Int) ≤ ρ 13 ∧ ρ 13 ≤ 7 := hB 13 (0, 7) rfl
  have b14 : (0 : Int) ≤ ρ 14 ∧ ρ 14 ≤ 3 := hB 14 (0, 3) rfl
  have b15 : (0 : Int) ≤ ρ 15 ∧ ρ 15 ≤ 23 := hB 15 (0, 23) rfl
  have b21 : (1 : Int) ≤ ρ 21 ∧ ρ 21 ≤ 60 := hB 21 (1, 60) rfl
  have b22 : (0 : Int) ≤ ρ 22 ∧ ρ 22 ≤ 184 := hB 22 (0, 184) rfl
  have b23 : (0 : Int) ≤ ρ 23 ∧ ρ 23 ≤ 191 := hB 23 (0, 191) rfl
  have b24 : (0 : Int) ≤ ρ 24 ∧ ρ 24 ≤ 99 := hB 24 (0, 99) rfl
  have b25 : (0 : Int) ≤ ρ 25 ∧ ρ 25 ≤ 180 := hB 25 (0, 180) rfl
  have b26 : (0 : Int) ≤ ρ 26 ∧ ρ 26 ≤ 203 := hB 26 (0, 203) rfl
  have b27 : (1 : Int) ≤ ρ 27 ∧ ρ 27 ≤ 2 := hB 27 (1, 2) rfl
  have b28 : (1 : Int) ≤ ρ 28 ∧ ρ 28 ≤ 1 := hB 28 (1, 1) rfl
  have b29 : ((-2147483648) : Int) ≤ ρ 29 ∧ ρ 29 ≤ 2147483647 := hB 29 ((-2147483648), 2147483647) rfl
  clear hB
  generalize ρ 13 = r13, ρ 14 = r14, ρ 15 = r15, ρ 21 = r21, ρ 22 = r22, ρ 23 = r23, ρ 24 = r24, ρ 25 = r25, ρ 26 = r26, ρ 27 = r27, ρ 28 = r28, ρ 29 = r29, α 1 = a1, α 2 = a2, α 30 = a30, α 31 = a31, α 32 = a32, α 46 = a46, α 49 = a49, α 50 = a50 at *
  subst f0
  subst f1
  subst f3
  subst f5
  subst f6
  subst f7
  subst f8
  subst f9
  subst f10
  subst f13
  obtain ⟨n, g1, g2, g3, g4, g5, g6, g7⟩ := f14
  refine ⟨n, g1, ?_⟩
  ((repeat' (first | apply And.intro | intro h)) <;> first | omega | rfl | trivial | (exfalso; omega)))
def w_yo_write_1_4 : VC := ((bY ++ [(0, 7), (0, 3), (0, 23), (0, 8), (0, 10), (0, 11), ((-2147483648), 2147483647), ((-2147483648), 2147483647), (1, 60), (0, 184), (0, 191), (0, 99), (0, 180), (0, 203), (0, 0), ((-2147483648), 2147483647)]), [(21, [(some 26, 0), (some 28, 0)], [50, 49]), (18, [(some 28, 0), (some 24, 0)], []), (0, [(some 27, 0), (none, 0)], []), (20, [(some 27, 0), (some 14, 0)], [31]), (4, [(some 26, 0), (some 25, 0), (some 15, 0)], []), (6, [(some 25, 0), (none, 60), (some 14, 0)], []), (20, [(some 24, 0), (some 23, 0)], [46]), (4, [(some 23, 0), (some 22, 0), (some 13, 0)], []), (6, [(some 22, 0), (none, 8), (some 15, 0)], []), (2, [(some 15, 0), (none, 24)], []), (2, [(some 15, 0), (some 21, 0)], []), (20, [(some 21, 0), (some 14, 0)], [32]), (149, [(some 15, 0), (some 13, 0), (some 14, 0)], [1, 2, 30, 32]), (78, [], [1])], (149, [(some 15, 1), (some 13, 0), (some 14, 0)], [1, 2, 30, 32]))
set_option maxRecDepth 20000 in
theorem v_yo_write_1_4 {PT : PTy} (hp : HP11 PT) : vcOk PT w_yo_write_1_4 := vc_of (fun ρ α hB hF => by
  obtain ⟨f0, f1, f2, f3, f4, f5, f6, f7, f8, f9, f10, f11, f12, f13, -⟩ := hF
  have e78 : PT 78 = P_ly := hp.1.1.1.1.1.1.1.1.1.2.2.2.2.2.2.2.1
  have e149 : PT 149 = P_wrI := hp.2.2.2.1
  simp only [hF0, hF2, hF4, hF6, hF18, hF20, hF21, hFp_78, hFp_149, e78, e149, P_ly, P_wrI, den_s, den_c, Int.add_zero, List.map_cons, List.map_nil] at f0 f1 f2 f3 f4 f5 f6 f7 f8 f9 f10 f11 f12 f13 ⊢
  have b13 : (0 : Int) ≤ ρ 13 ∧ ρ 13 ≤ 7 := hB 13 (0, 7) rfl
  have b14 : (0 : Int) ≤ ρ 14 ∧ ρ 14 ≤ 3 := hB 14 (0, 3) rfl
  have b15 : (0 : Int) ≤ ρ 15 ∧ ρ 15 ≤ 23 := hB 15 (0, 23) rfl
  have b21 : (1 : Int) ≤ ρ 21 ∧ ρ 21 ≤ 60 := hB 21 (1, 60) rfl
  have b22 : (0 : Int) ≤ ρ 22 ∧ ρ 22 ≤ 184 := hB 22 (0, 184) rfl
  have b23 : (0 : Int) ≤ ρ 23 ∧ ρ 23 ≤ 191 := hB 23 (0, 191) rfl
  have b24 : (0 : Int) ≤ ρ 24 ∧ ρ 24 ≤ 99 := hB 24 (0, 99) rfl
  have b25 : (0 : Int) ≤ ρ 25 ∧ ρ 25 ≤ 180 := hB 25 (0, 180) rfl
  have b26 : (0 : Int) ≤ ρ 26 ∧ ρ 26 ≤ 203 := hB 26 (0, 203) rfl
  have b27 : (0 : Int) ≤ ρ 27 ∧ ρ 27 ≤ 0 := hB 27 (0, 0) rfl
  have b28 : ((-2147483648) : Int) ≤ ρ 28 ∧ ρ 28 ≤ 2147483647 := hB 28 ((-2147483648), 2147483647) rfl
  clear hB
  generalize ρ 13 = r13, ρ 14 = r14, ρ 15 = r15, ρ 21 = r21, ρ 22 = r22, ρ 23 = r23, ρ 24 = r24, ρ 25 = r25, ρ 26 = r26, ρ 27 = r27, ρ 28 = r28, α 1 = a1, α 2 = a2, α 30 = a30, α 31 = a31, α 32 = a32, α 46 = a46, α 49 = a49, α 50 = a50 at *
  subst f0
  subst f1
  subst f3
  subst f4
  subst f5
  subst f6
  subst f7
  subst f8
  subst f11
  obtain ⟨n, g1, g2, g3, g4, g5, g6, g7⟩ := f12
  refine ⟨n, g1, ?_⟩
  ((repeat' (first | apply And.intro | intro h)) <;> first | omega | rfl | trivial | (exfalso; omega)))
set_option maxRecDepth 1000000 in
theorem k_yo_write {PT : PTy} (hp : HP11 PT) : wfX c_yo_write = true ∧ xcOk PT c_yo_write := xctr (xl (k_faultOf hp.1.1.1.1.1.1.1.1.1) (xl (k_au_X7_runsTold_0 hp.1) (xl0))) c_yo_write 81 mX7_write rfl h_yo_write (by decide +kernel) (by decide +kernel) (by decide) (vcs_by [w_yo_write_0_0, w_yo_write_0_1, w_yo_write_0_2, w_yo_write_0_3, w_yo_write_0_4, w_yo_write_0_5] (by decide +kernel) (vc (v_yo_write_0_0 hp) (vc (v_yo_write_0_1 hp) (vc (v_yo_write_0_2 hp) (vc (v_yo_write_0_3 hp) (vc (v_yo_write_0_4 hp) (vc (v_yo_write_0_5 hp) vn))))))) (fmc (vcs_by [w_yo_write_1_0, w_yo_write_1_1, w_yo_write_1_2, w_yo_write_1_3, w_yo_write_1_4] (by decide +kernel) (vc (v_yo_write_1_0 hp) (vc (v_yo_write_1_1 hp) (vc (v_yo_write_1_2 hp) (vc (v_yo_write_1_3 hp) (vc (v_yo_write_1_4 hp) vn)))))) fmn)
